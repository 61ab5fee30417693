/-! THE TEXT: begin. -/
def Ent (M : Mem) (T : Nat → Nat) (n j : Nat) : Prop := gI M 103 j = iI (kcls (tkC T n (posT T n j))) ∧ gI M 105 j = iI (tkS T n (posT T n j)) ∧ (tkC T n (posT T n j) = 23 → gI M 104 j = iI (tkV T n (posT T n j)))
def BegI (M0 : Mem) (T : Nat → Nat) (n i : Nat) (M : Mem) : Prop := TpC M T n ∧ gI M 102 3 = iI (posT T n i) ∧ (gI M 102 11 = iI 0 ∧ gI M 102 12 = iI (-1)) ∧ (0 < i → gI M 102 7 = iI i) ∧ (∀ j, j < i → Ent M T n j) ∧ Eqx [102, 103, 104, 105] M0 M
theorem begin_step (d : Nat) {M0 : Mem} {T : Nat → Nat} {n i : Nat} (hi : i ≤ 900) {M : Mem} (h : BegI M0 T n i M) {x3 : Int32} (hx : x3 ≠ iI 21) (v1 v2 : Value) : ∃ M', X2 (d + 8) m_Tok_begin 45 [.ref 102, v1, v2, .int x3, .int (iI i)] [] M = X2 (d + 8) m_Tok_begin 45 [.ref 102, v1, v2, .int (iI (kcls (tkC T n (posT T n i)))), .int (iI ((i + 1 : Nat) : Int))] [] M' ∧ BegI M0 T n (i + 1) M' := by
  obtain ⟨hT, h3, ⟨h11, h12⟩, h7, hE, hX⟩ := h
  have hp := posT_le T n i
  have hn := hT.2.2.1
  obtain ⟨r1, r2, r3, r4, r5⟩ := tk_rng T hp
  obtain ⟨M1, e1, hO, a2, a3⟩ := c_Tok_splitNext d hT hp h3
  have hT1 := hO.tp hT
  have okc := tkC_ok T n (posT T n i)
  have k20 : (iI (kcls (tkC T n (posT T n i)) : Int) = iI 20) = (tkC T n (posT T n i) = 23) := kcls_eq (e := 23) okc (by decide)
  let A := wI (wI (wI M1 103 i (iI (kcls (tkC T n (posT T n i))))) 105 i (iI (tkS T n (posT T n i)))) 102 7 (iI ((i + 1 : Nat) : Int))
  have hTA : TpC A T n := ⟨hT1.1, by show gI (wI (wI (wI M1 103 i _) 105 i _) 102 7 _) 102 1 = _; rw [gI_nk (by decide), gI_na (by decide), gI_na (by decide)]; exact hT1.2.1, hn, fun k hk => by
    show gI (wI (wI (wI M1 103 i _) 105 i _) 102 7 _) 101 k = _ ∧ _
    rw [gI_na (by decide), gI_na (by decide), gI_na (by decide)]; exact hT1.2.2.2 k hk⟩
  have gA : ∀ k, k ≠ 7 → gI A 102 k = gI M1 102 k := fun k hk => by
    show gI (wI (wI (wI M1 103 i _) 105 i _) 102 7 _) 102 k = _
    rw [gI_nk hk, gI_na (by decide), gI_na (by decide)]
  have fin : ∀ w : Int32, (tkC T n (posT T n i) = 23 → w = iI (tkV T n (posT T n i))) → BegI M0 T n (i + 1) (wI A 104 i w) := by
    intro w hw
    refine ⟨⟨hTA.1, by rw [gI_na (by decide)]; exact hTA.2.1, hn, fun k hk => by rw [gI_na (by decide)]; exact hTA.2.2.2 k hk⟩, ?_, ⟨?_, ?_⟩, fun _ => ?_, fun j hj => ?_, ?_⟩
    · rw [gI_na (by decide), gA 3 (by decide)]; exact a3
    · rw [gI_na (by decide), gA 11 (by decide), hO.2.1 11 (by decide) (by decide)]; exact h11
    · rw [gI_na (by decide), gA 12 (by decide), hO.2.1 12 (by decide) (by decide)]; exact h12
    · rw [gI_na (by decide)]; exact gI_eq _ _ _ _
    · have g3 : gI (wI A 104 i w) 103 j = if j = i then iI (kcls (tkC T n (posT T n i))) else gI M 103 j := by
        rw [gI_na (by decide)]
        show gI (wI (wI (wI M1 103 i _) 105 i _) 102 7 _) 103 j = _
        rw [gI_na (by decide), gI_na (by decide), gI_wI, if_pos rfl, eqx_I hO.1 (by decide)]
      have g5 : gI (wI A 104 i w) 105 j = if j = i then iI (tkS T n (posT T n i)) else gI M 105 j := by
        rw [gI_na (by decide)]
        show gI (wI (wI (wI M1 103 i _) 105 i _) 102 7 _) 105 j = _
        rw [gI_na (by decide), gI_wI, if_pos rfl, gI_na (by decide), eqx_I hO.1 (by decide)]
      have g4 : gI (wI A 104 i w) 104 j = if j = i then w else gI M 104 j := by
        rw [gI_wI, if_pos rfl]
        show (if j = i then w else gI (wI (wI (wI M1 103 i _) 105 i _) 102 7 _) 104 j) = _
        rw [gI_na (by decide), gI_na (by decide), gI_na (by decide), eqx_I hO.1 (by decide)]
      unfold Ent
      rw [g3, g4, g5]
      by_cases q : j = i
      · subst q; rw [if_pos rfl, if_pos rfl, if_pos rfl]; exact ⟨rfl, rfl, hw⟩
      · rw [if_neg q, if_neg q, if_neg q]; exact hE j (by omega)
    · exact eqx_wI (eqx_wI (eqx_wI (eqx_wI (hX.tr (hO.1.mono (by simp))) (by simp)) (by simp)) (by simp)) (by simp)
  rw [e_Tok_begin_45, if_neg (by rw [iI_lt (by omega) (by omega) (by omega) (by omega)]; omega), if_neg hx, e1, bI_some, inb_ok (by omega) (by omega) (by omega), gb_T, gb_T, gb_T, ix_nat (by omega), a2, iI_add]
  by_cases q : tkC T n (posT T n i) = 23
  · have rn := c_Tok_readNumber (d + 7) hTA ((gA 2 (by decide)).trans a2) ((gA 3 (by decide)).trans a3) r2 r3 (r5 q)
    rw [if_pos (by rw [k20]; exact q)]
    refine ⟨wI A 104 i (iI (tkV T n (posT T n i))), ?_, fin _ (fun _ => rfl)⟩
    show bI (c2 (d + 8) m_Tok_readNumber [.ref 102] A) _ = _
    rw [rn, bI_some]
    rfl
  · rw [if_neg (by rw [k20]; exact q)]
    exact ⟨wI A 104 i (iI 0), rfl, fin _ (fun x => absurd x q)⟩
