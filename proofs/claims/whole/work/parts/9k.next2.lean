/-! the reference's next. -/
theorem s52 : 52 ∈ strs := by decide
theorem n52 : sln 52 = 12 := by decide +kernel
theorem sgc_23 (v : Nat) : ∀ k, sgc v k ≠ 23
  | 0 => by rw [sgc]; decide
  | k + 1 => by
    rw [sgc]
    split
    · omega
    · exact sgc_23 v k
theorem wdc_lt (T : Nat → Nat) (s e : Nat) : ∀ (ws : List (List Nat)) (i : Nat), i + ws.length ≤ 22 → wdc T s e ws i ≤ 22
  | [], _, _ => by rw [wdc]; omega
  | w :: ws, i, h => by
    have h' : i + (ws.length + 1) ≤ 22 := h
    rw [wdc]
    split
    · omega
    · exact wdc_lt T s e ws (i + 1) (by omega)
theorem wdc_23 (T : Nat → Nat) (s e : Nat) : wdc T s e wds 0 ≠ 23 := by
  have := wdc_lt T s e wds 0 (by decide)
  omega
theorem nx89 (d : Nat) {M : Mem} {T : Nat → Nat} {n s : Nat} (hT : TpM M T n) (hs : s ≤ n) (v1 : Value) : ∀ (j p : Nat) (M' : Mem), j + p = n → Oth M M' → gI M' 197 6 = iI s → gI M' 197 7 = iI p → ∃ M'', X2 (d + 5) m_Mo_next 89 [.ref 197, v1] [] M' = some (.null, M'') ∧ Oth M M'' ∧ gI M'' 197 6 = iI s ∧ gI M'' 197 7 = iI (edd smB T n p) ∧ gI M'' 197 9 = iI (wdc T s (edd smB T n p) wds 0) := by
  have hn := hT.2.1
  have fin : ∀ (p : Nat) (M' : Mem), p ≤ n → (p < n → smB (T p) = false) → Oth M M' → gI M' 197 6 = iI s → gI M' 197 7 = iI p → ∃ M'', X2 (d + 5) m_Mo_next 89 [.ref 197, v1] [] M' = some (.null, M'') ∧ Oth M M'' ∧ gI M'' 197 6 = iI s ∧ gI M'' 197 7 = iI (edd smB T n p) ∧ gI M'' 197 9 = iI (wdc T s (edd smB T n p) wds 0) := by
    intro p M' hp hf hO h6 h7
    have hT' := hO.tp hT
    have hr := seeI_rng hT' p
    have ka := c_Mo_keyAt d hT'.2.2 h6 h7 (by omega) (by omega)
    have hb : (decide (p < n) && smB (T p)) = false := by
      by_cases q : p < n
      · rw [hf q, Bool.and_false]
      · rw [decide_eq_false q, Bool.false_and]
    rw [e_Mo_next_89, h7, c_Mo_see _ hT' (by omega), bI_some, c_Mo_isSmall _ (by omega) (by omega), bI_some, see_sm, hb, b2i_f, if_pos (show iI 0 = 0 from rfl), ka, bI_some, edd_f hf]
    exact ⟨_, rfl, hO.put (by omega) _, by rw [gI_nk (by decide)]; exact h6, by rw [gI_nk (by decide)]; exact h7, gI_eq _ _ _ _⟩
  intro j
  induction j with
  | zero => intro p M' hp hO h6 h7; exact fin p M' (by omega) (fun q => by omega) hO h6 h7
  | succ j ih =>
    intro p M' hp hO h6 h7
    cases hP : smB (T p) with
    | false => exact fin p M' (by omega) (fun _ => hP) hO h6 h7
    | true =>
      have hT' := hO.tp hT
      have hr := seeI_rng hT' p
      rw [e_Mo_next_89, h7, c_Mo_see _ hT' (by omega), bI_some, c_Mo_isSmall _ (by omega) (by omega), bI_some, see_sm, hP, decide_eq_true (show p < n by omega), Bool.true_and, b2i_t, if_neg (show ¬ (iI 1 = 0) by decide), h7, iI_add, edd_t (by omega) hP]
      exact ih (p + 1) _ (by omega) (hO.put (by omega) _) (by rw [gI_nk (by decide)]; exact h6) (gI_eq _ _ _ _)
theorem nx146 (d : Nat) {M : Mem} {T : Nat → Nat} {n s : Nat} (hT : TpM M T n) (v1 : Value) : ∀ (j p : Nat) (M' : Mem), j + p = n → s ≤ p → Oth M M' → gI M' 197 6 = iI s → gI M' 197 7 = iI p → gI M' 197 10 = iI (nvv T s (if p - s ≤ 3 then p - s else 3) : Nat) → ∃ M'', X2 (d + 5) m_Mo_next 146 [.ref 197, v1] [] M' = some (.null, M'') ∧ Oth M M'' ∧ gI M'' 197 6 = iI s ∧ gI M'' 197 7 = iI (edd dgB T n p) ∧ gI M'' 197 9 = iI ((if 3 < edd dgB T n p - s then 25 else 23 : Nat) : Int) ∧ (edd dgB T n p - s ≤ 3 → gI M'' 197 10 = iI (nvv T s (edd dgB T n p - s))) := by
  have hn := hT.2.1
  have fin : ∀ (p : Nat) (M' : Mem), p ≤ n → s ≤ p → (p < n → dgB (T p) = false) → Oth M M' → gI M' 197 6 = iI s → gI M' 197 7 = iI p → gI M' 197 10 = iI (nvv T s (if p - s ≤ 3 then p - s else 3) : Nat) → ∃ M'', X2 (d + 5) m_Mo_next 146 [.ref 197, v1] [] M' = some (.null, M'') ∧ Oth M M'' ∧ gI M'' 197 6 = iI s ∧ gI M'' 197 7 = iI (edd dgB T n p) ∧ gI M'' 197 9 = iI ((if 3 < edd dgB T n p - s then 25 else 23 : Nat) : Int) ∧ (edd dgB T n p - s ≤ 3 → gI M'' 197 10 = iI (nvv T s (edd dgB T n p - s))) := by
    intro p M' hp hsp hf hO h6 h7 h10
    have hT' := hO.tp hT
    have hr := seeI_rng hT' p
    have hb : (decide (p < n) && dgB (T p)) = false := by
      by_cases q : p < n
      · rw [hf q, Bool.and_false]
      · rw [decide_eq_false q, Bool.false_and]
    rw [e_Mo_next_146, h7, c_Mo_see _ hT' (by omega), bI_some, c_Mo_isDigit _ (by omega) (by omega), bI_some, see_dg, hb, b2i_f, if_pos (show iI 0 = 0 from rfl), h7, h6, iI_sub, edd_f hf]
    by_cases q : 3 < p - s
    · rw [if_pos (by rw [iI_lt (by omega) (by omega) (by omega) (by omega)]; omega), if_pos q]
      exact ⟨_, rfl, hO.put (by omega) _, by rw [gI_nk (by decide)]; exact h6, by rw [gI_nk (by decide)]; exact h7, gI_eq _ _ _ _, fun x => by omega⟩
    · rw [if_neg (by rw [iI_lt (by omega) (by omega) (by omega) (by omega)]; omega), if_neg q]
      refine ⟨_, rfl, hO.put (by omega) _, by rw [gI_nk (by decide)]; exact h6, by rw [gI_nk (by decide)]; exact h7, gI_eq _ _ _ _, fun x => ?_⟩
      rw [gI_nk (by decide), h10, if_pos x]
  intro j
  induction j with
  | zero => intro p M' hp hsp hO h6 h7 h10; exact fin p M' (by omega) hsp (fun q => by omega) hO h6 h7 h10
  | succ j ih =>
    intro p M' hp hsp hO h6 h7 h10
    cases hP : dgB (T p) with
    | false => exact fin p M' (by omega) hsp (fun _ => hP) hO h6 h7 h10
    | true =>
      have hT' := hO.tp hT
      have hr := seeI_rng hT' p
      have hd : 48 ≤ T p ∧ T p ≤ 57 := of_decide_eq_true hP
      have sp : seeI T n p = T p := if_pos (by omega)
      rw [e_Mo_next_146, h7, c_Mo_see _ hT' (by omega), bI_some, c_Mo_isDigit _ (by omega) (by omega), bI_some, see_dg, hP, decide_eq_true (show p < n by omega), Bool.true_and, b2i_t, if_neg (show ¬ (iI 1 = 0) by decide), h7, h6, iI_sub, edd_t (by omega) hP]
      by_cases q : p - s < 3
      · rw [if_pos (by rw [iI_lt (by omega) (by omega) (by omega) (by omega)]; omega), c_Mo_see _ hT' (by omega), bI_some, h7, h10, iI_mul, iI_add, iI_sub, iI_add, sp]
        refine ih (p + 1) _ (by omega) (by omega) ((hO.put (by omega) _).put (by omega) _) (by rw [gI_nk (by decide), gI_nk (by decide)]; exact h6) (gI_eq _ _ _ _) ?_
        rw [gI_nk (by decide), gI_eq, if_pos (by omega), if_pos (by omega), show p + 1 - s = (p - s) + 1 by omega]
        show _ = iI ((10 * nvv T s (p - s) + (T (s + (p - s)) - 48) : Nat) : Int)
        rw [show s + (p - s) = p by omega]
        congr 1
        omega
      · rw [if_neg (by rw [iI_lt (by omega) (by omega) (by omega) (by omega)]; omega), iI_add]
        refine ih (p + 1) _ (by omega) (by omega) (hO.put (by omega) _) (by rw [gI_nk (by decide)]; exact h6) (gI_eq _ _ _ _) ?_
        rw [gI_nk (by decide), h10]
        by_cases q2 : p - s ≤ 3
        · rw [if_pos q2, if_neg (by omega), show p - s = 3 by omega]
        · rw [if_neg q2, if_neg (by omega)]
theorem nx254 (d : Nat) {M : Mem} {T : Nat → Nat} {n s e : Nat} (hT : TpM M T n) (hs : s < n) : ∀ (j k : Nat) (M' : Mem), j + k = 12 → Oth M M' → gI M' 197 6 = iI s → gI M' 197 7 = iI e → gI M' 197 9 = iI (sgc (T s) k) → ∃ M'', X2 (d + 5) m_Mo_next 254 [.ref 197, .int (iI k)] [] M' = some (.null, M'') ∧ Oth M M'' ∧ gI M'' 197 6 = iI s ∧ gI M'' 197 7 = iI e ∧ gI M'' 197 9 = iI (sgc (T s) 12) := by
  have hn := hT.2.1
  intro j
  induction j with
  | zero =>
    intro k M' hk hO h6 h7 h9
    have hk' : k = 12 := by omega
    subst hk'
    rw [e_Mo_next_254, c_Str_length (d + 3) s52, bI_some, n52, if_neg (by decide)]
    exact ⟨M', rfl, hO, h6, h7, h9⟩
  | succ j ih =>
    intro k M' hk hO h6 h7 h9
    have hT' := hO.tp hT
    have kc : k < sln 52 := by rw [n52]; omega
    have c8 := (str_txt s52 kc).2
    have sp : seeI T n s = T s := if_pos hs
    have tb := (hT.2.2 s (by omega)).2
    rw [e_Mo_next_254, c_Str_length (d + 3) s52, bI_some, n52, if_pos (by rw [iI_lt (by omega) (by omega) (by omega) (by omega)]; omega), h6, c_Mo_see _ hT' (by omega), bI_some, sp, c_Str_charAt (d + 1) s52 kc, bI_some, iI_add, iI_add]
    by_cases q : T s = sch 52 k
    · rw [if_pos (by rw [q])]
      refine ih (k + 1) _ (by omega) (hO.put (by omega) _) (by rw [gI_nk (by decide)]; exact h6) (by rw [gI_nk (by decide)]; exact h7) ?_
      rw [gI_eq, sgc, if_pos q]
      rfl
    · rw [if_neg (by rw [iI_eq (by omega) (by omega) (by omega) (by omega)]; omega)]
      refine ih (k + 1) _ (by omega) hO h6 h7 ?_
      rw [h9, sgc, if_neg q]
theorem c_Mo_next (d : Nat) {M : Mem} {T : Nat → Nat} {n p : Nat} (hT : TpM M T n) (hp : p ≤ n) (h7 : gI M 197 7 = iI p) : ∃ M', c2 (d + 6) m_Mo_next [.ref 197] M = some (.null, M') ∧ Oth M M' ∧ gI M' 197 6 = iI (tkS T n p) ∧ gI M' 197 7 = iI (tkE T n p) ∧ gI M' 197 9 = iI (tkC T n p) ∧ (tkC T n p = 23 → gI M' 197 10 = iI (tkV T n p)) := by
  have hn := hT.2.1
  obtain ⟨sa, sb, sc, -⟩ := edd_rng spB T (n := n) (n - p) p (by omega)
  -- spaces
  have lp : ∀ (j p' : Nat) (M' : Mem), j + p' = n → Oth M M' → gI M' 197 6 = iI p' → ∃ M'', X2 (d + 5) m_Mo_next 8 [.ref 197, uns] [] M' = X2 (d + 5) m_Mo_next 8 [.ref 197, uns] [] M'' ∧ Oth M M'' ∧ gI M'' 197 6 = iI (edd spB T n p') := by
    intro j
    induction j with
    | zero =>
      intro p' M' hp' hO h6
      exact ⟨M', rfl, hO, by rw [edd_f (fun q => by omega)]; exact h6⟩
    | succ j ih =>
      intro p' M' hp' hO h6
      cases hP : spB (T p') with
      | false => exact ⟨M', rfl, hO, by rw [edd_f (fun _ => hP)]; exact h6⟩
      | true =>
        have hT' := hO.tp hT
        have sp : seeI T n p' = T p' := if_pos (by omega)
        have tb := (hT.2.2 p' (by omega)).2
        have e1 : X2 (d + 5) m_Mo_next 8 [.ref 197, uns] [] M' = X2 (d + 5) m_Mo_next 8 [.ref 197, uns] [] (wI M' 197 6 (iI ((p' + 1 : Nat) : Int))) := by
          rw [e_Mo_next_8, h6, c_Mo_see _ hT' (by omega), bI_some, sp]
          by_cases q : T p' = 10
          · rw [if_pos (by rw [q]; rfl), h6, iI_add]; rfl
          · have q2 : T p' = 32 := by
              unfold spB at hP
              rw [decide_eq_false q, Bool.or_false] at hP
              exact of_decide_eq_true hP
            rw [if_neg (by rw [iI_eq (by omega) (by omega) (by omega) (by omega)]; omega), h6, c_Mo_see _ hT' (by omega), bI_some, sp, if_pos (by rw [q2]; rfl), h6, iI_add]; rfl
        obtain ⟨M'', e2, hO2, h62⟩ := ih (p' + 1) _ (by omega) (hO.put (by omega) _) (gI_eq _ _ _ _)
        exact ⟨M'', e1.trans e2, hO2, by rw [edd_t (by omega) hP]; exact h62⟩
  obtain ⟨M1, e1, hO1, h61⟩ := lp (n - p) p (wI M 197 6 (iI p)) (by omega) ((Oth.rf M).put (by omega) _) (gI_eq _ _ _ _)
  have hst : edd spB T n p = tkS T n p := rfl
  rw [hst] at sa sb sc h61
  have hT1 := hO1.tp hT
  show ∃ M', X2 (d + 5) m_Mo_next 0 [.ref 197, uns] [] M = _ ∧ _
  rw [e_Mo_next_0, h7, e1]
  have hr := seeI_rng hT1 (tkS T n p)
  have sne : seeI T n (tkS T n p) ≠ 10 ∧ seeI T n (tkS T n p) ≠ 32 := by
    unfold seeI
    split
    · rename_i q
      have := sc q
      unfold spB at this
      rw [Bool.or_eq_false_iff] at this
      have w1 := of_decide_eq_false this.1
      have w2 := of_decide_eq_false this.2
      omega
    · omega
  have hdr : X2 (d + 5) m_Mo_next 8 [.ref 197, uns] [] M1 = _ := e_Mo_next_8 (d + 5) uns M1
  rw [h61, c_Mo_see _ hT1 (by omega), bI_some, if_neg (by rw [iI_eq (by omega) (by omega) (by omega) (by omega)]; omega), h61, c_Mo_see _ hT1 (by omega), bI_some, if_neg (by rw [iI_eq (by omega) (by omega) (by omega) (by omega)]; omega), h61, hT1.1] at hdr
  rw [hdr]
  have hA := hO1.put (j := 7) (by omega) (iI (tkS T n p))
  have hTA := hA.tp hT
  have hA6 : gI (wI M1 197 7 (iI (tkS T n p))) 197 6 = iI (tkS T n p) := by rw [gI_nk (by decide)]; exact h61
  have hA7 : gI (wI M1 197 7 (iI (tkS T n p))) 197 7 = iI (tkS T n p) := gI_eq _ _ _ _
  by_cases q : n ≤ tkS T n p
  · rw [if_neg (by rw [iI_lt (by omega) (by omega) (by omega) (by omega)]; omega)]
    have eE : tkE T n p = tkS T n p := if_pos q
    have eC : tkC T n p = 24 := if_pos q
    rw [eE, eC]
    exact ⟨_, rfl, hA.put (by omega) _, by rw [gI_nk (by decide)]; exact hA6, by rw [gI_nk (by decide)]; exact hA7, gI_eq _ _ _ _, fun x => absurd x (by decide)⟩
  · have sp : seeI T n (tkS T n p) = T (tkS T n p) := if_pos (by omega)
    rw [if_pos (by rw [iI_lt (by omega) (by omega) (by omega) (by omega)]; omega), c_Mo_see _ hTA (by omega), bI_some, c_Mo_isSmall _ (by omega) (by omega), bI_some, see_sm, decide_eq_true (show tkS T n p < n by omega), Bool.true_and]
    cases hsm : smB (T (tkS T n p)) with
    | true =>
      rw [b2i_t, if_neg (show ¬ (iI 1 = 0) by decide)]
      have eE : tkE T n p = edd smB T n (tkS T n p) := (if_neg q).trans (if_pos hsm)
      have eC : tkC T n p = wdc T (tkS T n p) (tkE T n p) wds 0 := (if_neg q).trans (if_pos hsm)
      obtain ⟨M2, e2, hO2, a, b, c⟩ := nx89 d hT sb uns (n - tkS T n p) (tkS T n p) _ (by omega) hA hA6 hA7
      rw [← eE] at b c
      rw [← eC] at c
      refine ⟨M2, e2, hO2, a, b, c, fun x => ?_⟩
      exact absurd (eC.symm.trans x) (wdc_23 _ _ _)
    | false =>
      rw [b2i_f, if_pos (show iI 0 = 0 from rfl), hA6, c_Mo_see _ hTA (by omega), bI_some, c_Mo_isDigit _ (by omega) (by omega), bI_some, see_dg, decide_eq_true (show tkS T n p < n by omega), Bool.true_and]
      cases hdg : dgB (T (tkS T n p)) with
      | true =>
        rw [b2i_t, if_neg (show ¬ (iI 1 = 0) by decide)]
        have eE : tkE T n p = edd dgB T n (tkS T n p) := (if_neg q).trans ((if_neg (by rw [hsm]; decide)).trans (if_pos hdg))
        have eC : tkC T n p = if 3 < tkE T n p - tkS T n p then 25 else 23 := (if_neg q).trans ((if_neg (by rw [hsm]; decide)).trans (if_pos hdg))
        obtain ⟨M2, e2, hO2, a, b, c, g⟩ := nx146 d hT uns (n - tkS T n p) (tkS T n p) (wI (wI M1 197 7 (iI (tkS T n p))) 197 10 (iI 0)) (by omega) (Nat.le_refl _) (hA.put (by omega) _) (by rw [gI_nk (by decide)]; exact hA6) (by rw [gI_nk (by decide)]; exact hA7) (by rw [gI_eq, Nat.sub_self]; rfl)
        rw [← eE] at b c g
        rw [← eC] at c
        refine ⟨M2, e2, hO2, a, b, c, fun x => ?_⟩
        rw [eC] at x
        exact g (by
          by_cases w : 3 < tkE T n p - tkS T n p
          · rw [if_pos w] at x; exact absurd x (by decide)
          · omega)
      | false =>
        rw [b2i_f, if_pos (show iI 0 = 0 from rfl), hA7, iI_add]
        have eE : tkE T n p = tkS T n p + 1 := (if_neg q).trans ((if_neg (by rw [hsm]; decide)).trans (if_neg (by rw [hdg]; decide)))
        have eC : tkC T n p = sgc (T (tkS T n p)) 12 := (if_neg q).trans ((if_neg (by rw [hsm]; decide)).trans (if_neg (by rw [hdg]; decide)))
        obtain ⟨M2, e2, hO2, a, b, c⟩ := nx254 d (s := tkS T n p) (e := tkS T n p + 1) hT (by omega) 12 0 (wI (wI (wI M1 197 7 (iI (tkS T n p))) 197 7 (iI ((tkS T n p : Int) + 1))) 197 9 (iI 25)) (by omega) ((hA.put (by omega) _).put (by omega) _) (by rw [gI_nk (by decide), gI_nk (by decide)]; exact hA6) (by rw [gI_nk (by decide), gI_eq]; rfl) (gI_eq _ _ _ _)
        rw [← eE] at b
        rw [← eC] at c
        exact ⟨M2, e2, hO2, a, b, c, fun x => absurd (eC.symm.trans x) (sgc_23 _ _)⟩
