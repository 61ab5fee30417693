/-! THE TEXT: begin and advance. -/
theorem c_Tok_begin (d : Nat) {M : Mem} {T : Nat → Nat} {n : Nat} (hn : n ≤ 900) (hT : ∀ k, k < 900 → gI M 101 k = iI (sg8 (T k)) ∧ T k ≤ 255) : ∃ M' N, c2 (d + 9) m_Tok_begin [.ref 102, .ref 101, .int (iI n)] M = some (.null, M') ∧ Eqx [102, 103, 104, 105] M M' ∧ AtC M' T n N 0 ∧ gI M' 102 11 = iI 0 ∧ gI M' 102 12 = iI (-1) := by
  have s102 : Nat.beq (sR 102 0) 0 = true := rfl
  have g0 : gR (wR M 102 0 101) 102 0 = 101 := by
    unfold gR; rw [s102]
    show up2 M.2.2 102 0 101 102 0 = 101
    unfold up2; rw [if_pos rfl, if_pos rfl]
  let A := wI (wI (wI (wI (wI (wR M 102 0 101) 102 1 (iI n)) 102 11 (iI 0)) 102 12 (iI (-1))) 102 7 (iI 0)) 102 3 (iI 0)
  have hB : BegI M T n 0 A := by
    refine ⟨⟨g0, ?_, hn, fun k hk => ?_⟩, gI_eq _ _ _ _, ⟨?_, ?_⟩, fun h => absurd h (by decide), fun j hj => absurd hj (Nat.not_lt_zero _), ?_⟩
    · show gI (wI (wI (wI (wI (wI (wR M 102 0 101) 102 1 _) 102 11 _) 102 12 _) 102 7 _) 102 3 _) 102 1 = _
      rw [gI_nk (by decide), gI_nk (by decide), gI_nk (by decide), gI_nk (by decide), gI_eq]
    · show gI (wI (wI (wI (wI (wI (wR M 102 0 101) 102 1 _) 102 11 _) 102 12 _) 102 7 _) 102 3 _) 101 k = _ ∧ _
      rw [gI_na (by decide), gI_na (by decide), gI_na (by decide), gI_na (by decide), gI_na (by decide)]
      exact hT k hk
    · show gI (wI (wI (wI (wI (wI (wR M 102 0 101) 102 1 _) 102 11 _) 102 12 _) 102 7 _) 102 3 _) 102 11 = _
      rw [gI_nk (by decide), gI_nk (by decide), gI_nk (by decide), gI_eq]
    · show gI (wI (wI (wI (wI (wI (wR M 102 0 101) 102 1 _) 102 11 _) 102 12 _) 102 7 _) 102 3 _) 102 12 = _
      rw [gI_nk (by decide), gI_nk (by decide), gI_eq]
    · exact eqx_wI (eqx_wI (eqx_wI (eqx_wI (eqx_wI (eqx_wR Eqx.rf (by simp)) (by simp)) (by simp)) (by simp)) (by simp)) (by simp)
  obtain ⟨M', N, e, q⟩ := c_beginL d hn (.ref 101) (.int (iI n)) (n + 1) 0 A (iI 20) (by omega) hB (by decide) (fun k hk => absurd hk (Nat.not_lt_zero _))
  refine ⟨M', N, ?_, q⟩
  show X2 (d + 8) m_Tok_begin 0 [.ref 102, .ref 101, .int (iI n), uns, uns] [] M = _
  rw [e_Tok_begin_0, c_Mat_min _ _ _ (by omega) (by omega) (by omega) (by omega), bI_some, if_neg (by omega), c_Mat_max _ _ _ (by omega) (by omega) (by omega) (by omega), bI_some, show (if (0 : Int) < (n : Int) then (n : Int) else 0) = (n : Int) by split <;> omega]
  exact e
/-- behind the end the class stays -/
def nxJ (N j : Nat) : Nat := if j + 1 < N then j + 1 else j
theorem c_Tok_advance (d : Nat) {M : Mem} {T : Nat → Nat} {n N j : Nat} (h : AtC M T n N j) : ∃ M', c2 (d + 1) m_Tok_advance [.ref 102] M = some (.null, M') ∧ Eqx [102] M M' ∧ (∀ k, k ≠ 8 → k ≠ 9 → k ≠ 10 → gI M' 102 k = gI M 102 k) ∧ AtC M' T n N (nxJ N j) := by
  obtain ⟨a1, a2, a3, a4, a5, a6, a7, a8, a9⟩ := h
  show ∃ M', X2 d m_Tok_advance 0 [.ref 102] [] M = _ ∧ _
  unfold nxJ
  by_cases q : j + 1 < N
  · have en := a7 (j + 1) q
    rw [e_Tok_advance_0, a4, a3, iI_add, show ((j : Int) + 1) = ((j + 1 : Nat) : Int) from rfl, if_pos (by rw [iI_lt (by omega) (by omega) (by omega) (by omega)]; omega), inb_ok (by omega) (by omega) (by omega), gb_T, gb_T, ix_nat (by omega), if_pos q]
    refine ⟨_, rfl, eqx_wI (eqx_wI (eqx_wI Eqx.rf (by simp)) (by simp)) (by simp), fun k k1 k2 k3 => by rw [gI_nk k3, gI_nk k2, gI_nk k1], q, a2, ?_, ?_, ?_, fun x => ?_, fun k hk => ?_, a8, a9⟩
    · rw [gI_nk (by decide), gI_nk (by decide), gI_nk (by decide)]; exact a3
    · rw [gI_nk (by decide), gI_nk (by decide), gI_eq]
    · rw [gI_nk (by decide), gI_eq]; exact en.1
    · rw [gI_eq]; exact en.2.2 x
    · have := a7 k hk
      unfold Ent
      rw [gI_na (by decide), gI_na (by decide), gI_na (by decide), gI_na (by decide), gI_na (by decide), gI_na (by decide), gI_na (by decide), gI_na (by decide), gI_na (by decide)]
      exact this
  · rw [e_Tok_advance_0, a4, a3, iI_add, if_neg (by rw [iI_lt (by omega) (by omega) (by omega) (by omega)]; omega), if_neg q]
    exact ⟨M, rfl, Eqx.rf, fun _ _ _ _ => rfl, a1, a2, a3, a4, a5, a6, a7, a8, a9⟩
