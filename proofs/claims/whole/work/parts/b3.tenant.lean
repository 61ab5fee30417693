/-! THE ROOM'S TEXT: a tenant. -/
section B3
variable {T : Nat → Nat} {n N r : Nat}
def tnP (p : Ps) (x : Nat) : Ps := (upN (upN p.1 (21 + p.1 3) x) 3 (p.1 3 + 1), p.2)
theorem tnP_o {p : Ps} {x k : Nat} (h3 : k ≠ 3) (h : k ≠ 21 + p.1 3) : (tnP p x).1 k = p.1 k := (if_neg h3).trans (if_neg h)
theorem tnP_3 {p : Ps} {x : Nat} : (tnP p x).1 3 = p.1 3 + 1 := rfl
theorem tnP_t {p : Ps} {x : Nat} : (tnP p x).1 (21 + p.1 3) = x := (if_neg (by omega)).trans (if_pos rfl)
theorem OkP.ten {p : Ps} {x : Nat} (h : OkP p) (h4 : p.1 3 < 4) (hx : x ≤ 9) : OkP (tnP p x) := by
  obtain ⟨⟨p1, p2, p3, p4, p5, p6, p7, p8, p9, p10, p11, p12⟩, pk, pp, pt, pg⟩ := h
  have up : ∀ k, k ≠ 3 → k ≠ 21 + p.1 3 → (tnP p x).1 k = p.1 k := fun k a b => tnP_o a b
  unfold OkP
  rw [up 1 (by omega) (by omega), up 2 (by omega) (by omega), up 4 (by omega) (by omega), up 5 (by omega) (by omega), up 25 (by omega) (by omega), up 26 (by omega) (by omega), up 27 (by omega) (by omega), up 28 (by omega) (by omega), up 29 (by omega) (by omega), tnP_3]
  refine ⟨⟨p1, p2, p3, p4, by omega, p6, p7, p8, by omega, p10, p11, p12⟩, fun c hc => ?_, fun t ht => ?_, pt, pg⟩
  · rw [up _ (by omega) (by omega)]; exact pk c hc
  · by_cases q : t = p.1 3
    · rw [q, tnP_t]; exact hx
    · rw [up _ (by omega) (by omega)]; exact pp t (by omega)
theorem RoomC.ten {M : Mem} {p : Ps} {x : Nat} (h : RoomC M r p) (h4 : p.1 3 < 4) : RoomC (wI (wI M r 3 (iI ((p.1 3 : Int) + 1))) (r + 3) (p.1 3) (iI x)) r (tnP p x) := by
  obtain ⟨h1, h2, h3, h4', h5, h6⟩ := h
  have up : ∀ k, k ≠ 3 → k ≠ 21 + p.1 3 → (tnP p x).1 k = p.1 k := fun k a b => tnP_o a b
  have ne : ∀ i k, i ≠ 0 → i ≠ 3 → gI (wI (wI M r 3 (iI ((p.1 3 : Int) + 1))) (r + 3) (p.1 3) (iI x)) (r + i) k = gI M (r + i) k := fun i k a b => by rw [gI_na (by omega), gI_na (by omega)]
  have ne2 : ∀ i, i ≠ 0 → i ≠ 3 → (wI (wI M r 3 (iI ((p.1 3 : Int) + 1))) (r + 3) (p.1 3) (iI x)).1 (r + i) = M.1 (r + i) := fun i a b => by funext k; exact ne i k a b
  have e1 := up 1 (by omega) (by omega)
  have e2 := up 2 (by omega) (by omega)
  have ef : ∀ k, k < 10 → k ≠ 3 → fld (tnP p x).1 k = fld p.1 k := fun k a b => by
    rcases (show k = 0 ∨ k = 1 ∨ k = 2 ∨ k = 4 ∨ k = 5 ∨ k = 6 ∨ k = 7 ∨ k = 8 ∨ k = 9 by omega) with rfl | rfl | rfl | rfl | rfl | rfl | rfl | rfl | rfl <;> simp only [fld, up 0 (by omega) (by omega), e1, e2, up 4 (by omega) (by omega), up 5 (by omega) (by omega), up 25 (by omega) (by omega), up 26 (by omega) (by omega), up 27 (by omega) (by omega)]
  refine ⟨fun k hk => ?_, fun i hi => ?_, fun i hi => ?_, fun t ht => ?_, ⟨?_, ?_⟩, ?_, ?_⟩
  · rw [gI_na (by omega)]
    by_cases q : k = 3
    · rw [q, gI_eq]
      show _ = iI ((tnP p x).1 3)
      rw [tnP_3]; rfl
    · rw [gI_nk q, ef k hk q]; exact h1 k hk
  · rw [ne 1 i (by decide) (by decide), up _ (by omega) (by omega)]; exact h2 i hi
  · rw [e1, e2] at hi ⊢
    rw [ne 2 i (by decide) (by decide)]; exact h3 i hi
  · rw [tnP_3] at ht
    by_cases q : t = p.1 3
    · rw [q, gI_eq, tnP_t]
    · rw [gI_nk q, gI_na (by omega), up _ (by omega) (by omega)]; exact h4' t (by omega)
  · exact (ne 4 2 (by decide) (by decide)).trans h5.1
  · rw [ne2 5 (by decide) (by decide)]; exact h5.2
  · exact (ne 7 2 (by decide) (by decide)).trans h6.1
  · rw [ne2 8 (by decide) (by decide)]; exact h6.2
/-- a write where the row tells nothing yet -/
theorem LnM.out {j : Nat} {p : Ps} {C : List Nat} {M : Mem} {v : Int32} (h : LnM T n j p C M) (h4 : p.1 3 < 4) : LnM T n j p C (wI M 201 (21 + p.1 3) v) := by
  have q : Eqx [201] M (wI M 201 (21 + p.1 3) v) := eqx_wI Eqx.rf (by simp)
  obtain ⟨h1, ⟨h2, h3, h5, h6⟩, h7, h8⟩ := h
  refine ⟨h1.fr (q 197 (by decide)).1 (q 200 (by decide)).1, ⟨fun k hk => ?_, fun i hi => ?_, ?_, h6.fr (fun k k1 _ => gI_nk (by omega))⟩, h7, h8⟩
  · rw [gI_nk (by unfold rix at hk; omega)]; exact h2 k hk
  · rw [gI_nk (by omega), gI_nk (by omega), gI_nk (by omega)]; exact h3 i hi
  · rw [gI_nk (by omega)]; exact h5
theorem LnM.ten {j : Nat} {p : Ps} {C : List Nat} {M : Mem} {x : Nat} (h : LnM T n j p C M) (h4 : p.1 3 < 4) (hx : gI M 201 (21 + p.1 3) = iI x) : LnM T n j (tnP p x) C (wI M 201 3 (iI ((p.1 3 : Int) + 1))) := by
  have q : Eqx [201] M (wI M 201 3 (iI ((p.1 3 : Int) + 1))) := eqx_wI Eqx.rf (by simp)
  obtain ⟨h1, ⟨h2, h3, h5, h6⟩, h7, h8⟩ := h
  refine ⟨h1.fr (q 197 (by decide)).1 (q 200 (by decide)).1, ⟨fun k hk => ?_, fun i hi => ?_, ?_, h6.fr (fun k k1 _ => gI_nk (by omega))⟩, h7, h8⟩
  · rw [tnP_3] at hk
    by_cases q3 : k = 3
    · rw [q3, gI_eq, tnP_3]; rfl
    · rw [gI_nk q3]
      by_cases qt : k = 21 + p.1 3
      · rw [qt, tnP_t]; exact hx
      · rw [tnP_o q3 qt]; exact h2 k (by unfold rix at hk ⊢; omega)
  · rw [gI_nk (by omega), gI_nk (by omega), gI_nk (by omega)]; exact h3 i hi
  · rw [gI_nk (by omega)]; exact h5
theorem tn_loop (hN : TN T n N) (hr : r ∈ rooms) {p : Ps} (hp : OkP p) (h4 : p.1 3 < 4) : ∀ m jj x, N - jj ≤ m → jj < N → x ≤ 9 → ∃ f q p', f ≤ 4 ∧ (f = 0 → jj ≤ q ∧ q < N ∧ OkP p' ∧ p'.1 0 = p.1 0) ∧ (∀ D i, 9 ≤ D → i ≤ jj → LiC T n N r (fun M => X2 D m_RR_readTenant 5 [.ref 106, .int (iI (x : Nat)), .int (iI (i : Nat))] [] M) jj f q p p') ∧ (∀ D M C, 9 ≤ D → LnM T n jj p C M → gI M 201 (21 + p.1 3) = iI x → ∃ M' C', X2 D m_Mo_readTenant 40 [.ref 197, .int (iI (p.1 3))] [] M = some (.null, M') ∧ OM2 M M' ∧ (f = 0 → LnM T n q p' C' M') ∧ (f ≠ 0 → FM f q M')) := by
  intro m
  have hN1 := hN.1
  have kk : ∀ M, isK O2 M 102 19 = true := fun _ => rfl
  induction m with
  | zero => intro jj x h1 h2; omega
  | succ m ih =>
    intro jj x hm hj hx
    by_cases c3 : KK T n jj = 3
    · have hj1 := hN.2 jj hj (by omega)
      have clC : ∀ D i M, 9 ≤ D → i ≤ jj → LnC T n N r jj p M → ∃ M1, Eqx [102] M M1 ∧ LnC T n N r (jj + 1) p M1 ∧ X2 D m_RR_readTenant 5 [.ref 106, .int (iI (x : Nat)), .int (iI (i : Nat))] [] M = bI (c2 D m_Tok_passNumber [.ref 102, .int (iI 0), .int (iI 9)] M1) fun r3 M2 => if r3 = iI (-1) then some (.int (iI 0), M2) else X2 D m_RR_readTenant 5 [.ref 106, .int r3, .int (iI ((i + 1 : Nat) : Int))] [] M2 := fun D i M hD hi hM => by
        have k9 : (gI M 102 9 = iI 9) = (KK T n jj = 3) := hM.1.kd (by decide) (by decide)
        obtain ⟨M1, e1, hE1, k1⟩ := j_adv (D := D) (by omega) hM.1 (by omega)
        have l1 := hM.fr2 hr hE1 k1
        refine ⟨M1, hE1, l1, ?_⟩
        rw [e_RR_readTenant_5, if_pos (by rw [iI_lt (by omega) (by omega) (by omega) (by omega)]; omega), hM.2.1, kk, gb_T, if_pos (by rw [k9]; exact c3), show (true && !false) = true from rfl, gb_T, e1, bV_some, l1.2.1, kk, iI_add]
        rfl
      have clM : ∀ D M C, 9 ≤ D → LnM T n jj p C M → ∃ M1, OM M M1 ∧ LnM T n (jj + 1) p C M1 ∧ X2 D m_Mo_readTenant 40 [.ref 197, .int (iI (p.1 3))] [] M = bI (c2 D m_Mo_takes [.ref 197, .int (iI 0), .int (iI 9)] M1) fun r4 M3 => X2 D m_Mo_readTenant 40 [.ref 197, .int (iI (p.1 3))] [] (wI M3 201 (21 + p.1 3) r4) := fun D M C hD hM => by
        obtain ⟨M1, e1, hO1, hF1, k1⟩ := (k_eat (D := D) (by omega) hM.1 (by decide)).1 c3
        refine ⟨M1, hO1, hM.nx2 hF1 k1 (by omega) (by omega), ?_⟩
        rw [e_Mo_readTenant_40, if_pos hM.1.w, show iI 3 = iI ((3 : Nat) : Int) from rfl, e1, bI_some, if_neg (by decide), iI_add, inb_ok (by omega) (by omega) (by omega), ix_eq (n := 21 + p.1 3) (by omega) (by omega)]
        rfl
      by_cases ok : okN T n (jj + 1) 0 9
      · have ov := okN_up ok
        have hj2 := hN.2 (jj + 1) hj1 (by have := ok.1; omega)
        obtain ⟨f, q, p', f4, fo, fc, fm⟩ := ih (jj + 1 + 1) (VV T n (jj + 1)) (by omega) hj2 (by omega)
        refine ⟨f, q, p', f4, fun x => ⟨by have := (fo x).1; omega, (fo x).2⟩, fun D i hD hi M hM => ?_, fun D M C hD hM hx' => ?_⟩
        · obtain ⟨M1, hE1, l1, e0⟩ := clC D i M hD hi hM
          obtain ⟨M2, e2, hE2, k2⟩ := (j_num (D := D) (by omega) l1.1 (by decide) (by decide) (by decide) (by decide)).1 ok
          obtain ⟨M3, e3, hE3, ok3, no3⟩ := fc D (i + 1) hD (by omega) M2 (l1.fr2 hr hE2 k2)
          refine ⟨M3, ?_, ((eqW hE1).tr (eqW hE2)).tr hE3, ok3, no3⟩
          show X2 D m_RR_readTenant 5 [.ref 106, .int (iI (x : Nat)), .int (iI (i : Nat))] [] M = _
          rw [e0, e2, bI_some, if_neg (by rw [iI_eq (by omega) (by omega) (by omega) (by omega)]; omega)]
          exact e3
        · obtain ⟨M1, hO1, l1, e0⟩ := clM D M C hD hM
          obtain ⟨M2, e2, hO2, hF2, k2⟩ := (k_num (D := D) (by omega) l1.1 (lo := 0) (hi := 9) (by decide) (by decide) (by decide) (by decide)).1 ok
          obtain ⟨M3, C3, e3, hO3, ok3, no3⟩ := fm D (wI M2 201 (21 + p.1 3) (iI (VV T n (jj + 1)))) C hD ((l1.nx2 hF2 k2 (by omega) (by omega)).out h4) (gI_eq _ _ _ _)
          refine ⟨M3, C3, ?_, ((hO1.o2.tr hO2.o2).put _ _).tr hO3, ok3, no3⟩
          rw [e0, e2, bI_some]
          exact e3
      · have z := nf_rng T n (jj + 1)
        refine ⟨nf T n (jj + 1), SS T n (jj + 1), p, z.2, fun x => absurd x z.1, fun D i hD hi M hM => ?_, fun D M C hD hM hx' => ?_⟩
        · obtain ⟨M1, hE1, l1, e0⟩ := clC D i M hD hi hM
          obtain ⟨M2, e2, hE2, k2⟩ := (j_num (D := D) (by omega) l1.1 (by decide) (by decide) (by decide) (by decide)).2 ok
          refine ⟨M2, ?_, (eqW hE1).tr (eqW hE2), fun x => absurd x z.1, fun _ => k2⟩
          show X2 D m_RR_readTenant 5 [.ref 106, .int (iI (x : Nat)), .int (iI (i : Nat))] [] M = _
          rw [e0, e2, bI_some, if_pos rfl, if_neg z.1]
        · obtain ⟨M1, hO1, l1, e0⟩ := clM D M C hD hM
          obtain ⟨w, M2, e2, hO2, hF2, k2⟩ := (k_num (D := D) (by omega) l1.1 (lo := 0) (hi := 9) (by decide) (by decide) (by decide) (by decide)).2 ok
          have w1 : ¬ gI (wI M2 201 (21 + p.1 3) w) 197 11 = 0 := by
            rw [gI_na (by decide)]; exact k2.wr z.1 z.2
          refine ⟨wI M2 201 (21 + p.1 3) w, C, ?_, (hO1.o2.tr hO2.o2).put _ _, fun x => absurd x z.1, fun _ => ⟨(gI_na (by decide)).trans k2.1, (gI_na (by decide)).trans k2.2⟩⟩
          rw [e0, e2, bI_some, e_Mo_readTenant_40, if_neg w1, if_neg w1]
    · refine ⟨0, jj, tnP p x, Nat.zero_le _, fun _ => ⟨Nat.le_refl _, hj, hp.ten h4 hx, tnP_o (by decide) (by omega)⟩, fun D i hD hi M hM => ?_, fun D M C hD hM hx' => ?_⟩
      · have k9 : (gI M 102 9 = iI 9) = (KK T n jj = 3) := hM.1.kd (by decide) (by decide)
        have g3 : gI M r 3 = iI (p.1 3) := hM.f 3 (by decide)
        have hl := rm_lt r hr
        have q : Eqx [r, r + 3] M (wI (wI M r 3 (iI ((p.1 3 : Int) + 1))) (r + 3) (p.1 3) (iI x)) := eqx_wI (eqx_wI Eqx.rf (by simp)) (by simp)
        have nq : ∀ a, a < 147 → a ∉ [r, r + 3] := fun a ha => by simp; omega
        refine ⟨wI (wI M r 3 (iI ((p.1 3 : Int) + 1))) (r + 3) (p.1 3) (iI x), ?_, q.mono (by simp [roomW, roomS]), fun _ => ⟨hM.1.fr (q 102 (nq _ (by decide))).1 (q 103 (nq _ (by decide))).1 (q 104 (nq _ (by decide))).1 (q 105 (nq _ (by decide))).1, hM.2.1, hM.2.2.1, hM.2.2.2.ten h4⟩, fun x => absurd rfl x⟩
        show X2 D m_RR_readTenant 5 [.ref 106, .int (iI (x : Nat)), .int (iI (i : Nat))] [] M = _
        rw [e_RR_readTenant_5, hM.2.1, kk, gb_T, if_neg (show ¬ gI M 102 9 = iI 9 by rw [k9]; exact c3), hM.2.2.1, rm_k _ r hr, gb_T, g3, if_pos (show iI (p.1 3 : Int) < iI 4 by rw [iI_lt (by omega) (by omega) (by omega) (by omega)]; omega), gb_T, gb_T, gb_T, rm_12 _ r hr, rm_t3 _ _ r hr, inb_ok (by omega) (by omega) (by omega), gb_T, iI_add, ix_nat (by omega)]
        split <;> rfl
      · have g3 : gI M 201 3 = iI (p.1 3) := hM.2.1.1 3 (Or.inl (by decide))
        refine ⟨wI M 201 3 (iI ((p.1 3 : Int) + 1)), C, ?_, (OM2.rf M).put _ _, fun _ => hM.ten h4 hx', fun x => absurd rfl x⟩
        rw [e_Mo_readTenant_40, if_pos hM.1.w, show iI 3 = iI ((3 : Nat) : Int) from rfl, (k_eat (by omega) hM.1 (by decide)).2 c3, bI_some, if_pos (by decide), if_pos hM.1.w, g3, iI_add]
theorem l_2 {p : Ps} {j : Nat} (hN : TN T n N) (hr : r ∈ rooms) (hp : OkP p) (hj : j < N) (hc : KK T n j = 2) : LQ T n N r p j := by
  have hN1 := hN.1
  have hj1 := hN.2 j hj (by omega)
  have p4 := hp.1.2.2.2.2.1
  have kk : ∀ M, isK O2 M 102 19 = true := fun _ => rfl
  by_cases h4 : p.1 3 < 4
  · have isl1 : isl (KK T n j) = true := by rw [hc]; decide
    obtain ⟨f, q, p', f4, fo, fc, fm⟩ := tn_loop hN hr hp h4 _ (j + 1) 9 (Nat.le_refl _) hj1 (by decide)
    refine ⟨f, q, p', f4, fun x => ⟨by have := (fo x).1; omega, (fo x).2⟩, fun D hD => ?_, fun D hD M C hM => ?_⟩
    · obtain ⟨d, rfl⟩ : ∃ d, D = d + 1 + 1 := ⟨D - 2, by omega⟩
      refine LiC.ln (by omega) hr hp isl1 (fun _ => h4) (fun M hM => ?_)
      obtain ⟨M2, e2, hE2, ok2, no2⟩ := fc d 0 (by omega) (Nat.zero_le _) M hM
      have e2' : c2 (d + 1) m_RR_readTenant [.ref 106] M = some (.int (iI (if f = 0 then 1 else 0)), M2) := by
        show X2 d m_RR_readTenant 0 [.ref 106, uns, uns] [] M = _
        rw [e_RR_readTenant_0]
        exact e2
      refine ⟨M2, ?_, hE2, ok2, no2⟩
      rw [hc, show iI ((kcls 2 : Nat) : Int) = iI 1 from rfl]
      unfold swB
      rw [if_pos rfl, e2', bI_some]
      split <;> rfl
    · obtain ⟨d, rfl⟩ : ∃ d, D = d + 1 + 1 := ⟨D - 2, by omega⟩
      obtain ⟨M0, e0, hO0, hF0, k0⟩ := k_nx (D := d) (by omega) hM.1
      have l0 := hM.nx2 hF0 k0 (by omega) (by omega)
      have g3 : gI M 201 3 = iI (p.1 3) := hM.2.1.1 3 (Or.inl (by decide))
      obtain ⟨M2, C2, e2, hO2, ok2, no2⟩ := fm d (wI M0 201 (21 + p.1 3) (iI ((9 : Nat) : Int))) C (by omega) (l0.out h4) (gI_eq _ _ _ _)
      have er : c2 (d + 1) m_Mo_readTenant [.ref 197] M = some (.null, M2) := by
        show X2 d m_Mo_readTenant 0 [.ref 197, uns] [] M = _
        rw [e_Mo_readTenant_0, g3, if_neg (by rw [iI_eq (by omega) (by omega) (by omega) (by omega)]; omega), if_pos hM.1.w, e0, bV_some, iI_add, inb_ok (by omega) (by omega) (by omega), gb_T, ix_eq (n := 21 + p.1 3) (by omega) (by omega)]
        exact e2
      refine ⟨M2, C2, ?_, (hO0.o2.put _ _).tr hO2, ok2, no2⟩
      rw [m_line2 (by omega) hM hc, er, bV_some]
  · have e4 : p.1 3 = 4 := by omega
    have z := ff_rng T n j (why := 4) (by decide) (by decide)
    refine ⟨ff T n j 4, SS T n j, p, z.2, fun x => absurd x z.1, fun D hD M hM => ?_, fun D hD M C hM => ?_⟩
    · obtain ⟨d, rfl⟩ : ∃ d, D = d + 1 := ⟨D - 1, by omega⟩
      obtain ⟨M1, e1, hE1, k1⟩ := j_ref (D := d) (by omega) hM.1 4
      have k2 : (gI M 102 9 = iI 1) = (KK T n j = 2) := hM.1.kd (by decide) (by decide)
      have g3 : gI M r 3 = iI (p.1 3) := hM.f 3 (by decide)
      refine ⟨M1, ?_, eqW hE1, fun x => absurd x z.1, fun _ => k1⟩
      show X2 d m_RR_readLine 0 [.ref 106, uns] [] M = _
      rw [e_RR_readLine_0, hM.2.1, kk, gb_T, if_pos (by rw [k2]; exact hc), hM.2.2.1, rm_k _ r hr, gb_T, g3, if_neg (by rw [iI_lt (by omega) (by omega) (by omega) (by omega)]; omega), show (true && !false) = true from rfl, gb_T, show iI 4 = iI ((4 : Nat) : Int) from rfl, e1, bI_some, if_neg z.1]
      rfl
    · obtain ⟨d, rfl⟩ : ∃ d, D = d + 1 + 1 := ⟨D - 2, by omega⟩
      obtain ⟨M1, e1, hO1, hF1, k1⟩ := k_fl (D := d) (by omega) hM.1 4
      have g3 : gI M 201 3 = iI (p.1 3) := hM.2.1.1 3 (Or.inl (by decide))
      have w1 := k1.wr z.1 z.2
      have er : c2 (d + 1) m_Mo_readTenant [.ref 197] M = some (.null, M1) := by
        show X2 d m_Mo_readTenant 0 [.ref 197, uns] [] M = _
        rw [e_Mo_readTenant_0, g3, if_pos (by rw [iI_eq (by omega) (by omega) (by omega) (by omega)]; omega), show iI 4 = iI ((4 : Nat) : Int) from rfl, e1, bV_some, if_neg w1]
      refine ⟨M1, C, ?_, hO1.o2, fun x => absurd x z.1, fun _ => k1⟩
      rw [m_line2 (by omega) hM hc, er, bV_some]
end B3
