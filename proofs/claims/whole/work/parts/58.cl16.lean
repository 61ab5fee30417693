/-! THE CLASS: a night passed. -/
theorem moms_rng : ∀ a, a ∈ moms → (111 ≤ a ∧ a ≤ 125) ∨ (187 ≤ a ∧ a ≤ 188) := by decide
theorem c_RW_passNight (d : Nat) {M : Mem} {r : Nat} {z : Row} {tm st a w who tm' bl : Nat} {ni : Int32} (hS : StepsC M r z tm st) (ha : a ∈ moms) (h : MomR M a w who tm' ni) (hw : w < 512) (hwho : who < 5) (htm : tm' < 10) (hbl : bl < 2) :
    ∃ M', c2 (d + 5) m_RW_passNight [.ref 100, .ref a, .int (iI bl)] M = some (.null, M') ∧ Eqx [a, 128, 129, 130, r + 6, r + 9] M M' ∧ StepsC M' r z tm st ∧ MomR M' a (pas z tm' (w + 512 * who) bl % 512) (pas z tm' (w + 512 * who) bl / 512) tm' (ni + iI 1) := by
  show ∃ M', X2 (d + 4) m_RW_passNight 0 [.ref 100, .ref a, .int (iI bl)] [] M = _ ∧ _
  obtain ⟨hr, h0, hR, hz, hT, hG, htm1, htm9, hst, hst2, hC⟩ := id hS
  have hrl := rm_lt r hr
  have har := moms_rng a ha
  obtain ⟨M1, e1, hE1, hT1, hG1⟩ := c_Stp_pass d (tm := tm') (p := w + 512 * who) (bl := bl) hr h0 hR hz hT hG htm (by omega) hbl
  have hM1 : MomR M1 a w who tm' ni := h.fr (hE1 a (by simp <;> omega)).1
  obtain ⟨M2, e2, hE2, hM2⟩ := c_Mom_goTo (d + 3) ha hM1 (pas_lt hz tm' bl (show w + 512 * who < 2560 by omega))
  rw [e_RW_passNight_0, mm_k _ a ha, tt_and, gb_T, c_Mom_place _ ha h hw hwho, bI_some, mm_k _ a ha, gb_T, h.2.2.1, e1, bI_some, mm_k _ a ha, tt_and, gb_T, e2, bV_some, mm_k _ a ha, gb_T, gb_T, hM2.2.2.2]
  have hE3 : Eqx [a, 128, 129, 130, r + 6, r + 9] M (wI M2 a 3 (ni + iI 1)) := eqx_wI ((hE1.mono (by simp <;> omega)).tr (hE2.mono (by simp))) (by simp)
  refine ⟨_, rfl, hE3, ⟨hr, (eqx_R hE3 (by simp <;> omega) 0).trans h0, hR.fr (fun b hb => (hE3 b (by have := roomS_ge hb; simp <;> omega)).1), hz, ?_, ?_, (eqx_I hE3 (by simp <;> omega) 1).trans htm1, htm9, (eqx_I hE3 (by simp <;> omega) 6).trans hst, hst2, ?_⟩, ?_, ?_, ?_, ?_⟩
  · exact hT1.fr (hE2 128 (ni1 (by omega))).2.1
  · exact hG1.fr (hE2 129 (ni1 (by omega))).2.1
  · intro p' bl' hp' hbl'
    obtain ⟨e', s', g1, g2⟩ := hC p' bl' hp' hbl'
    exact ⟨e', s', (eqx_I hE3 (by simp <;> omega) _).trans g1, g2⟩
  · rw [gI_nk (by decide)]; exact hM2.1
  · rw [gI_nk (by decide)]; exact hM2.2.1
  · rw [gI_nk (by decide)]; exact hM2.2.2.1
  · rw [gI_eq]
