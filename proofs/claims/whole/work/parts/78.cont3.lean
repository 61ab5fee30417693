/-! THE CONTEST: settled. -/
/-- what the levels are in the end -/
def FinL (N : Nat) (em : Nat → Bool) (to : Nat → Nat) (bt : Nat) (lv : Nat → Int) : Prop :=
  (∀ s, -1 ≤ lv s ∧ lv s ≤ 2048) ∧ (∀ n, n < N → em n = true → lv (2 * n + 1) = 0 ∧ lv (2 * n) = (bt : Int) - 1) ∧
  (∀ n, n < N → em n = false → (0 ≤ lv (2 * n + 1) ↔ (0 ≤ lv (chS to bt n 0 1) ∧ 0 ≤ lv (chS to bt n 1 1))) ∧ (0 ≤ lv (2 * n + 1) → LvT to bt lv n) ∧
    (bt = 1 → (0 ≤ lv (2 * n) ↔ (0 ≤ lv (chS to bt n 0 0) ∨ 0 ≤ lv (chS to bt n 1 0)))) ∧ (0 ≤ lv (2 * n) → LvL to bt lv n))
theorem CInv.fin {N : Nat} {em : Nat → Bool} {to : Nat → Nat} {bt S k : Nat} {q : Nat → Nat} {lv lf : Nat → Int} (h : CInv N em to bt S S (2 * N) q lv lf) (hb : ∀ j, j < S → lv (q j) ≤ 2048) : FinL N em to bt lv := by
  obtain ⟨h1, h2, h3, h4, h5, h6, h7, h8, h9⟩ := h
  have hd : ∀ n b u, n < N → b < 2 → (dv q to bt S (2 * N) (2 * n + b) u = 1 ↔ 0 ≤ lv (chS to bt n b u)) := by
    intro n b u hn hbb
    have e : dv q to bt S (2 * N) (2 * n + b) u = 1 ↔ doneB q to bt S (2 * N) (2 * n + b) u = true := by
      unfold dv; cases doneB q to bt S (2 * N) (2 * n + b) u <;> decide
    rw [e, doneB_iff]
    constructor
    · rintro (⟨j, j1, j2⟩ | ⟨_, j2⟩)
      · show 0 ≤ lv (2 * to (2 * n + b) + tq bt u)
        rw [← j2]; exact (h1 j j1).2
      · omega
    · intro x
      obtain ⟨j, j1, j2⟩ := (h2 _).1 x
      exact Or.inl ⟨j, j1, j2⟩
  refine ⟨fun s => ⟨(h2 s).2, ?_⟩, h8, ?_⟩
  · by_cases x : 0 ≤ lv s
    · obtain ⟨j, j1, j2⟩ := (h2 s).1 x
      rw [← j2]; exact hb j j1
    · omega
  · intro n hn he
    have a0 := hd n 0 1 hn (by decide)
    have a1 := hd n 1 1 hn (by decide)
    have c0 := hd n 0 0 hn (by decide)
    have c1 := hd n 1 0 hn (by decide)
    rw [show 2 * n + 0 = 2 * n from rfl] at a0 c0
    have d1 := dv_01 q to bt S (2 * N) (2 * n) 1
    have d2 := dv_01 q to bt S (2 * N) (2 * n + 1) 1
    have d3 := dv_01 q to bt S (2 * N) (2 * n) 0
    have d4 := dv_01 q to bt S (2 * N) (2 * n + 1) 0
    refine ⟨?_, (h9 n hn he).1, ?_, (h9 n hn he).2⟩
    · rw [(h7 n hn he).1, ← a0, ← a1]; omega
    · intro hbt
      rw [(h7 n hn he).2, ← c0, ← c1]; omega
theorem c_Con_settle (d : Nat) {M0 : Mem} {N bt : Nat} {em : Nat → Bool} {to : Nat → Nat} (hG : GrM M0 N em to) (hb : bt ≤ 1) :
    ∃ (M' : Mem) (lv : Nat → Int), c2 (d + 3) m_Con_settle [.ref 140, .ref 133, .int (iI bt)] M0 = some (.null, M') ∧ (∀ s, s < 2048 → gI M' 141 s = iI (lv s)) ∧ FinL N em to bt lv ∧ Eqx conS M0 M' := by
  have hN := hG.2.1
  have szB : ∀ {S i k : Nat} {q : Nat → Nat} {lv lf : Nat → Int}, CInv N em to bt S i k q lv lf → S ≤ 2 * N := fun {S i k q lv lf} h => pigeon (2 * N) S q (fun j hj => (h.1 j hj).1) (fun i hi j hj => h.2.2.1 i j hi hj)
  -- the edges that lead to one state
  have inn : ∀ (f k c S i : Nat) (q : Nat → Nat) (lv lf : Nat → Int) (M : Mem) (v1 : Value), k ≤ f → c + k ≤ 2 * N → k ≤ 2 * N → CInv N em to bt S i k q lv lf → ConM M S N q lv lf → EdgM M em to (2 * N) → i < S → (∀ j, j < S → lv (q j) ≤ (j : Int)) → Eqx conS M0 M →
      ∃ (M' : Mem) (S' : Nat) (q' : Nat → Nat) (lv' lf' : Nat → Int) (v4 v5 v6 v7 : Value), X2 (d + 2) m_Con_settle 66 [.ref 140, v1, .int (iI bt), .int (iI i), .int (iI (q i)), .int (iI (tq bt (q i % 2))), .int (iI (pv em to (q i / 2) k)), .int (iI c)] [] M = X2 (d + 2) m_Con_settle 8 [.ref 140, v1, .int (iI bt), .int (iI ((i + 1 : Nat) : Int)), v4, v5, v6, v7] [] M' ∧ CInv N em to bt S' (i + 1) (2 * N) q' lv' lf' ∧ ConM M' S' N q' lv' lf' ∧ EdgM M' em to (2 * N) ∧ i < S' ∧ (∀ j, j < S' → lv' (q' j) ≤ (j : Int)) ∧ Eqx conS M0 M' := by
    intro f
    induction f with
    | zero =>
      intro k c S i q lv lf M v1 hk hc hk2 hI hC hE hi hLb hM
      have hk0 : k = 0 := by omega
      subst hk0
      have hpv : pv em to (q i / 2) 0 = -1 := rfl
      rw [e_Con_settle_66, hpv, iI_add]
      refine ⟨M, S, q, lv, lf, .int (iI (q i)), .int (iI (tq bt (q i % 2))), .int (iI (-1)), .int (iI c), ?_, hI.next hi (fun e' he' => absurd he' (Nat.not_lt_zero e')), hC, hE, hi, hLb, hM⟩
      by_cases w : c < 2048
      · rw [if_pos (by rw [iI_lt (by omega) (by omega) (by omega) (by omega)]; omega), if_pos (by decide)]; rfl
      · rw [if_neg (by rw [iI_lt (by omega) (by omega) (by omega) (by omega)]; omega)]; rfl
    | succ f ih =>
      intro k c S i q lv lf M v1 hk hc hk2 hI hC hE hi hLb hM
      have hpr := pv_rng em to (q i / 2) k
      have hqi := (hI.1 i hi).1
      have hS := szB hI
      by_cases w : pv em to (q i / 2) k < 0
      · have hpn := pv_none k w
        rw [e_Con_settle_66, iI_add]
        refine ⟨M, S, q, lv, lf, .int (iI (q i)), .int (iI (tq bt (q i % 2))), .int (iI (pv em to (q i / 2) k)), .int (iI c), ?_, hI.next hi hpn, hC, hE, hi, hLb, hM⟩
        by_cases w2 : c < 2048
        · rw [if_pos (by rw [iI_lt (by omega) (by omega) (by omega) (by omega)]; omega), if_pos (by rw [iI_lt0 (by omega) (by omega)]; exact w)]; rfl
        · rw [if_neg (by rw [iI_lt (by omega) (by omega) (by omega) (by omega)]; omega)]; rfl
      · obtain ⟨e, he⟩ := Int.eq_ofNat_of_zero_le (show 0 ≤ pv em to (q i / 2) k by omega)
        obtain ⟨p1, p2, p3, p4⟩ := pv_some k e he
        have ht := tq_lt (bt := bt) (u := q i % 2) (by omega)
        have hLi := hLb i hi
        have hLi0 := (hI.1 i hi).2
        have e2 : (iI e / iI 2) * iI 2 + iI (tq bt (q i % 2)) = iI ((2 * (e / 2) + tq bt (q i % 2) : Nat) : Int) := by
          rw [show iI (e : Int) / iI 2 = iI ((e / 2 : Nat) : Int) from iI_div (b := 2) (by omega) (by decide), iI_mul, iI_add]; congr 1; omega
        have hlv : gI M 141 (q i) + iI 1 = iI (lv (q i) + 1) := by rw [hC.2.2.1 _ (by omega), iI_add]
        have hlf := hI.2.2.2.2.2.1 (e / 2) (tq bt (q i % 2)) (by omega) p2 ht
        have d1 := dv_01 q to bt i k (2 * (e / 2)) (tq bt (q i % 2))
        have d2 := dv_01 q to bt i k (2 * (e / 2) + 1) (tq bt (q i % 2))
        have i0 : 0 ≤ iniL bt (tq bt (q i % 2)) ∧ iniL bt (tq bt (q i % 2)) ≤ 2 := by unfold iniL; split <;> omega
        rw [e_Con_settle_66, he, if_pos (by rw [iI_lt (by omega) (by omega) (by omega) (by omega)]; omega), if_neg (by rw [iI_lt0 (by omega) (by omega)]; omega), if_pos (by rw [iI_lt (by omega) (by omega) (by omega) (by omega)]; omega), inb_ok (by omega) (by omega) (by omega), gb_T, ix_nat (by omega), hlv, e2]
        by_cases hl : lf (2 * (e / 2) + tq bt (q i % 2)) = 1
        · obtain ⟨hI2, hneq⟩ := hI.hit hb hi (by omega) p2 p3 p4 p1 hl
          have hS2 := szB hI2
          obtain ⟨M1, a1, a2, a3⟩ := c_Con_hit (d + 1) hC hN (s := 2 * (e / 2) + tq bt (q i % 2)) (by omega) (by omega) hl (lv (q i) + 1)
          have hE2 : EdgM M1 em to (2 * N) := hE.fr (a3 144 (by decide)).1 (a3 145 (by decide)).1
          rw [a1, bV_some, inb_ok (by omega) (by omega) (by omega), gb_T, ix_nat (by omega), hE2.2 e (by omega) p2, p3, iI_add]
          have hq' : upn q S (2 * (e / 2) + tq bt (q i % 2)) i = q i := upn_lt hi
          have := ih e (c + 1) (S + 1) i (upn q S (2 * (e / 2) + tq bt (q i % 2))) _ _ M1 v1 (by omega) (by omega) (by omega) hI2 a2 hE2 (by omega) (by
            intro j hj
            by_cases x : j = S
            · subst x; rw [upn_eq, upI_eq]; omega
            · rw [upn_lt (by omega), upI_ne (hneq j (by omega))]; exact hLb j (by omega)) (hM.tr (a3.mono (by decide)))
          rw [hq'] at this
          exact this
        · have hI2 := hI.miss hb hi (by omega) p2 p3 p4 p1 hl
          obtain ⟨M1, a1, a2, a3⟩ := c_Con_no (d + 1) hC hN (s := 2 * (e / 2) + tq bt (q i % 2)) (by omega) hl (by omega) (lv (q i) + 1)
          have hE2 : EdgM M1 em to (2 * N) := hE.fr (a3 144 (by decide)).1 (a3 145 (by decide)).1
          rw [a1, bV_some, inb_ok (by omega) (by omega) (by omega), gb_T, ix_nat (by omega), hE2.2 e (by omega) p2, p3, iI_add]
          exact ih e (c + 1) S i q lv _ M1 v1 (by omega) (by omega) (by omega) hI2 a2 hE2 hi hLb (hM.tr (a3.mono (by decide)))
  have go : ∀ (f i S : Nat) (q : Nat → Nat) (lv lf : Nat → Int) (M : Mem) (v1 v4 v5 v6 v7 : Value), f + i = 2 * N + 1 → i ≤ S → CInv N em to bt S i (2 * N) q lv lf → ConM M S N q lv lf → EdgM M em to (2 * N) → (∀ j, j < S → lv (q j) ≤ (j : Int)) → Eqx conS M0 M →
      ∃ (M' : Mem) (lv' : Nat → Int), X2 (d + 2) m_Con_settle 8 [.ref 140, v1, .int (iI bt), .int (iI i), v4, v5, v6, v7] [] M = some (.null, M') ∧ (∀ s, s < 2048 → gI M' 141 s = iI (lv' s)) ∧ FinL N em to bt lv' ∧ Eqx conS M0 M' := by
    intro f
    induction f with
    | zero =>
      intro i S q lv lf M v1 v4 v5 v6 v7 hf hiS hI hC hE hLb hM
      have := szB hI
      omega
    | succ f ih =>
      intro i S q lv lf M v1 v4 v5 v6 v7 hf hiS hI hC hE hLb hM
      have hS := szB hI
      rw [e_Con_settle_8, hC.1]
      by_cases w : i < S
      · have hqi := (hI.1 i w).1
        have e2 : iI (q i) / iI 2 = iI ((q i / 2 : Nat) : Int) := iI_div (b := 2) (by omega) (by decide)
        have e3 : irm (iI (q i)) (iI 2) = iI ((q i % 2 : Nat) : Int) := iI_rem (b := 2) (by omega) (by decide)
        obtain ⟨M', S', q', lv', lf', u4, u5, u6, u7, a1, a2, a3, a4, a5, a6, a7⟩ := inn (2 * N) (2 * N) 0 S i q lv lf M v1 (Nat.le_refl _) (by omega) (Nat.le_refl _) hI hC hE w hLb hM
        obtain ⟨M2, lv2, b1, b2, b3, b4⟩ := ih (i + 1) S' q' lv' lf' M' v1 u4 u5 u6 u7 (by omega) (by omega) a2 a3 a4 a6 a7
        rw [if_pos (by rw [iI_lt (by omega) (by omega) (by omega) (by omega)]; omega), if_pos (by rw [iI_lt (by omega) (by omega) (by omega) (by omega)]; omega), inb_ok (by omega) (by omega) (by omega), gb_T, ix_nat (by omega), hC.2.1 i w, e2, e3, inb_ok (by omega) (by omega) (by omega), gb_T, gb_T, ix_nat (by omega), hE.1 _ (by omega)]
        refine ⟨M2, lv2, ?_, b2, b3, b4⟩
        have hu : (if iI bt = 0 then iI ((q i % 2 : Nat) : Int) else iI 1 - iI ((q i % 2 : Nat) : Int)) = iI (tq bt (q i % 2)) := by
          unfold tq
          rcases (show bt = 0 ∨ bt = 1 by omega) with x | x <;> subst x
          · rfl
          · rw [if_neg (by decide), if_pos rfl, iI_sub]; congr 1; omega
        rw [← b1, ← a1, ← hu]
        split <;> rfl
      · rw [if_neg (by rw [iI_lt (by omega) (by omega) (by omega) (by omega)]; omega)]
        have hiS' : i = S := by omega
        subst hiS'
        exact ⟨M, lv, rfl, hC.2.2.1, hI.fin (k := 0) (fun j hj => by have := hLb j hj; omega), hM⟩
  obtain ⟨M1, S, q, lv, lf, e1, hC, hE, hI, hM, h0⟩ := c_Con_begin d hG hb
  show ∃ (M' : Mem) (lv : Nat → Int), X2 (d + 2) m_Con_settle 0 [.ref 140, .ref 133, .int (iI bt), uns, uns, uns, uns, uns] [] M0 = _ ∧ _
  rw [e_Con_settle_0, e1, bV_some]
  exact go (2 * N + 1) 0 S q lv lf M1 _ _ _ _ _ (by omega) (by omega) hI hC hE (fun j hj => by rw [h0 j hj]; omega) hM
