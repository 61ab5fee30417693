/-! THE CLASS: a law holds as its code on lists. -/
theorem e_Lw41 (d : Nat) (a : Nat) (ha : a ∈ laws) (x2 x3 x4 : Int32) (M : Mem) : X2 d m_Lw_holds 41 [.ref a, .ref 130, .int x2, .int x3, .int x4] [] M = if x2 < iI 40 then (if x4 < 0 then gb (inb (x4 ^^^ (iI (-1))) 10) (gb (inb x2 40) (X2 d m_Lw_holds 4 [.ref a, .ref 130, .int (x2 + iI 1), .int (x3 + iI 1), .int x4] [] (wI M (a + 2) (ix x2) (gI M 130 (ix (x4 ^^^ (iI (-1)))))))) else gb (inb x2 40) (X2 d m_Lw_holds 4 [.ref a, .ref 130, .int (x2 + iI 1), .int (x3 + iI 1), .int x4] [] (wI M (a + 2) (ix x2) x4))) else X2 d m_Lw_holds 4 [.ref a, .ref 130, .int x2, .int (x3 + iI 1), .int x4] [] M := by
  rw [e_Lw_holds_41]
  simp only [lw_k _ a ha, lw_s _ a ha, lw_at2 _ _ a ha, gb_T]
theorem ni1 {x y : Nat} (h : x ≠ y) : x ∉ [y] := fun q => h (List.mem_singleton.mp q)
theorem sgn_rng (o : Nat) : 16 ≤ sgn o ∧ sgn o ≤ 62 := by
  unfold sgn
  repeat' split
  all_goals omega
theorem sgn_18 {o : Nat} (h : o ≤ 8) (h6 : o ≠ 6) : sgn o ≠ 18 := by
  rcases (show o = 0 ∨ o = 1 ∨ o = 2 ∨ o = 3 ∨ o = 4 ∨ o = 5 ∨ o = 7 ∨ o = 8 by omega) with h | h | h | h | h | h | h | h <;> subst h <;> decide
theorem c_Lw_holds (d : Nat) {M0 : Mem} {a n : Nat} {al : Nat → Bool} {v : Int32} {L : List Nat} (ha : a ∈ laws) (hn : gI M0 a 2 = iI n) (hn9 : n ≤ 900)
    (hL : L.length = n) (hC : CellsE (M0.1 (a + 1)) 0 L) (hO : OkL al L) (hS : stL (M0.1 130) 18 L [] = some [v]) :
    ∃ M', c2 (d + 2) m_Lw_holds [.ref a, .ref 130] M0 = some (.int (iI (b2i (decide (v ≠ 0)))), M') ∧ Eqx [a + 2] M0 M' := by
  have hr := laws_lt a ha
  have go : ∀ (L : List Nat) (k : Nat) (s : List Int32) (v4 : Value) (M : Mem), Eqx [a + 2] M0 M → k + L.length = n → CellsE (M0.1 (a + 1)) k L → OkL al L → stL (M0.1 130) 18 L s = some [v] → Stk (M.1 (a + 2)) s → s.length ≤ 18 →
      ∃ M', X2 (d + 1) m_Lw_holds 4 [.ref a, .ref 130, .int (iI s.length), .int (iI k), v4] [] M = some (.int (iI (b2i (decide (v ≠ 0)))), M') ∧ Eqx [a + 2] M0 M' := by
    intro L
    induction L with
    | nil =>
      intro k s v4 M hM hk _ _ hs hst _
      cases hs
      refine ⟨M, ?_, hM⟩
      have hk' : k = n := hk
      have g1 : gI M a 2 = iI n := (eqx_I hM (ni1 (by omega)) _).trans hn
      have hv : gI M (a + 2) 0 = v := hst.1
      show X2 (d + 1) m_Lw_holds 4 [.ref a, .ref 130, .int (iI 1), .int (iI k), v4] [] M = _
      rw [e_Lw _ a ha, g1, if_neg (by rw [iI_lt (by omega) (by omega) (by omega) (by omega)]; omega), if_pos (by decide), iI_sub, inb_ok (by decide) (by decide) (by decide), gb_T, ix_eq (z := 1 - 1) (n := 0) rfl (by decide), hv]
      by_cases h : v = 0
      · rw [if_pos h, decide_eq_false (fun q => q h)]; rfl
      · rw [if_neg h, decide_eq_true h]; rfl
    | cons c L ih =>
      intro k s v4 M hM hk hc hok hs hst hlen
      have hk' : k + L.length + 1 = n := hk
      have g1 : gI M a 2 = iI n := (eqx_I hM (ni1 (by omega)) _).trans hn
      have g3 : gI M (a + 1) k = iI (encC c) := (eqx_I hM (ni1 (by omega)) _).trans hc.1
      have hw : (M.1 130) = (M0.1 130) := (hM 130 (ni1 (by omega))).1
      have hc2 : c ≤ 3008 := by rcases hok.1 with h | h | h <;> omega
      have hs2 : (st1 (M0.1 130) 18 c s).bind (stL (M0.1 130) 18 L) = some [v] := hs
      have push : ∀ (x : Int32), c < 3000 → (if c < 1000 then iI c else M0.1 130 (c - 1000)) = x → ∃ M', X2 (d + 1) m_Lw_holds 4 [.ref a, .ref 130, .int (iI (s.length + 1)), .int (iI (k + 1)), .int (iI (encC c))] [] (wI M (a + 2) s.length x) = some (.int (iI (b2i (decide (v ≠ 0)))), M') ∧ Eqx [a + 2] M0 M' := by
        intro x hc3 hx
        rw [st1_p hc3] at hs2
        by_cases hl2 : s.length < 18
        · rw [if_pos hl2, hx] at hs2
          exact ih (k + 1) (x :: s) _ _ (eqx_wI hM (List.mem_singleton.mpr rfl)) (by omega) hc.2 hok.2 hs2 ⟨by rw [wI_at]; exact if_pos rfl, hst.fr (fun j hj => by rw [wI_at]; exact if_neg (by omega))⟩ (by rw [List.length_cons]; omega)
        · rw [if_neg hl2] at hs2; cases hs2
      rw [e_Lw _ a ha, g1, ix_nat (by omega), g3, iI_not]
      by_cases c1 : c < 1000
      · have ec : encC c = c := if_pos c1
        rw [ec] at push ⊢
        simp (disch := omega) only [iI_add, iI_sub, iI_mul, iI_lt, iI_eq, iI_lt0, iI_0lt, iI_eq0, ix_iI, inb_ok, gb_t, Int.toNat_natCast]
        rw [if_pos (by omega), if_pos (by omega), if_neg (by omega), e_Lw41 _ a ha]
        simp (disch := omega) only [iI_add, iI_sub, iI_mul, iI_lt, iI_eq, iI_lt0, iI_0lt, iI_eq0, ix_iI, inb_ok, gb_t, Int.toNat_natCast]
        rw [if_pos (by omega), if_neg (by omega)]
        exact push (iI c) (by omega) (if_pos c1)
      · by_cases c2 : c < 3000
        · have c3 : c < 1010 ∧ 1000 ≤ c := by rcases hok.1 with h | h | h <;> omega
          have ec : encC c = -1 - ((c : Int) - 1000) := (if_neg c1).trans (if_pos c2)
          rw [ec] at push ⊢
          simp (disch := omega) only [iI_add, iI_sub, iI_mul, iI_lt, iI_eq, iI_lt0, iI_0lt, iI_eq0, ix_iI, inb_ok, gb_t, Int.toNat_natCast]
          rw [if_pos (by omega), if_pos (by omega), if_pos (by omega), if_pos (by omega), e_Lw41 _ a ha, iI_not]
          simp (disch := omega) only [iI_add, iI_sub, iI_mul, iI_lt, iI_eq, iI_lt0, iI_0lt, iI_eq0, ix_iI, inb_ok, gb_t, Int.toNat_natCast]
          rw [if_pos (by omega), if_pos (by omega), show (-1 - (-1 - ((c : Int) - 1000))).toNat = c - 1000 by omega]
          refine push _ c2 ?_
          rw [if_neg c1, ← hw]
          rfl
        · have ec : encC c = -1 - (sgn (c - 3000) : Int) := (if_neg c1).trans (if_neg c2)
          have sr := sgn_rng (c - 3000)
          rw [ec] at push ⊢
          simp (disch := omega) only [iI_add, iI_sub, iI_mul, iI_lt, iI_eq, iI_lt0, iI_0lt, iI_eq0, ix_iI, inb_ok, gb_t, Int.toNat_natCast]
          rw [if_pos (by omega), if_pos (by omega), if_pos (by omega), if_neg (by omega)]
          by_cases c6 : c = 3006
          · rw [st1_n c6] at hs2
            rw [if_pos (by rw [c6]; decide)]
            match s, hs2, hst, hlen with
            | [], hs2, _, _ => cases hs2
            | x :: s, hs2, hst, hlen =>
              have hlen' : s.length + 1 ≤ 18 := hlen
              have e0 : (((x :: s).length : Nat) - 1 : Int).toNat = s.length := by rw [List.length_cons]; omega
              rw [if_pos (by rw [List.length_cons]; omega), inb_ok (by rw [List.length_cons]; omega) (by rw [List.length_cons]; omega) (by rw [List.length_cons]; omega), gb_T, e0, show gI M (a + 2) s.length = x from hst.1]
              exact ih (k + 1) ((iI 1 - x) :: s) _ _ (eqx_wI hM (List.mem_singleton.mpr rfl)) (by omega) hc.2 hok.2 hs2 ⟨by rw [wI_at]; exact if_pos rfl, hst.2.fr (fun j hj => by rw [wI_at]; exact if_neg (by omega))⟩ hlen
          · rw [st1_o c2 c6] at hs2
            have s18 := sgn_18 (show c - 3000 ≤ 8 by omega) (show c - 3000 ≠ 6 by omega)
            rw [if_neg (by omega)]
            match s, hs2, hst, hlen with
            | [], hs2, _, _ => cases hs2
            | [_], hs2, _, _ => cases hs2
            | y :: x :: s, hs2, hst, hlen =>
              have hlen' : s.length + 1 + 1 ≤ 18 := hlen
              have e1 : (((y :: x :: s).length : Nat) : Int) = s.length + 2 := by rw [List.length_cons, List.length_cons]; omega
              rw [e1, if_pos (by omega), show ((s.length : Int) + 2 + -1) = ((s.length + 1 : Nat) : Int) by omega, inb_ok (by omega) (by omega) (by omega), gb_T, inb_ok (by omega) (by omega) (by omega), gb_T, show (((s.length + 1 : Nat) : Int) - 1).toNat = s.length by omega, Int.toNat_natCast, show gI M (a + 2) (s.length + 1) = y from hst.1, show gI M (a + 2) s.length = x from hst.2.1, show (-1 - (-1 - (sgn (c - 3000) : Int))) = (sgn (c - 3000) : Int) by omega, c_Lw_joined _ (by omega) (by omega), bI_some, gb_T]
              exact ih (k + 1) (op2 (c - 3000) x y :: s) _ _ (eqx_wI hM (List.mem_singleton.mpr rfl)) (by omega) hc.2 hok.2 hs2 ⟨by rw [wI_at]; exact if_pos rfl, hst.2.2.fr (fun j hj => by rw [wI_at]; exact if_neg (by omega))⟩ (by rw [List.length_cons]; omega)
  show ∃ M', X2 (d + 1) m_Lw_holds 0 [.ref a, .ref 130, uns, uns, uns] [] M0 = _ ∧ _
  rw [e_Lw_holds_0]
  exact go L 0 [] uns M0 Eqx.rf (by omega) hC hO hS trivial (Nat.zero_le _)
