/-! THE CLASS: a night of a moment. -/
theorem c_Mom_goTo (d : Nat) {M : Mem} {a p w who tm : Nat} {ni : Int32} (ha : a ∈ moms) (h : MomR M a w who tm ni) (hp : p < 2560) : ∃ M', c2 (d + 1) m_Mom_goTo [.ref a, .int (iI p)] M = some (.null, M') ∧ Eqx [a] M M' ∧ MomR M' a (p % 512) (p / 512) tm ni := by
  show ∃ M', X2 d m_Mom_goTo 0 [.ref a, .int (iI p)] [] M = _ ∧ _
  have e1 : iI p &&& iI 511 = iI ((p % 512 : Nat) : Int) := by
    rw [show iI 511 = iI ((511 : Nat) : Int) from rfl, iI_and, show (511 : Nat) = 2 ^ 9 - 1 from rfl, Nat.and_two_pow_sub_one_eq_mod]
  have e2 : iI p >>> (iI 9 &&& 31) = iI ((p / 512 : Nat) : Int) := by
    rw [show iI 9 = iI ((9 : Nat) : Int) from rfl, iI_shr (by omega) (by decide), Nat.shiftRight_eq_div_pow]
  have key : ∀ v : Int32, v = iI (cwho (p / 512)) → ∃ M', (some (.null, wI (wI M a 0 (iI ((p % 512 : Nat) : Int))) a 1 v) : Rs Mem) = some (.null, M') ∧ Eqx [a] M M' ∧ MomR M' a (p % 512) (p / 512) tm ni := by
    intro v hv
    refine ⟨_, rfl, eqx_wI (eqx_wI Eqx.rf (by simp)) (by simp), ?_, ?_, ?_, ?_⟩
    · rw [gI_nk (by decide), gI_eq]
    · rw [gI_eq, hv]
    · rw [gI_nk (by decide), gI_nk (by decide)]; exact h.2.2.1
    · rw [gI_nk (by decide), gI_nk (by decide)]; exact h.2.2.2
  rw [e_Mom_goTo_0, e1, e2, mm_k _ a ha, mm_k _ a ha, gb_T, gb_T, gb_T]
  by_cases h4 : p / 512 = 4
  · rw [if_pos (by rw [h4]; rfl)]
    exact key _ (by rw [h4]; rfl)
  · rw [if_neg (by rw [iI_eq (by omega) (by omega) (by omega) (by omega)]; omega)]
    exact key _ (by rw [cwho, if_neg h4])
