/-! THE CLASS: moments, the temper tuned to, here. -/
def moms : List Nat := [111, 112, 113, 116, 117, 118, 119, 120, 121, 122, 123, 124, 125, 187, 188]
theorem mm_k (M : Mem) : ∀ a, a ∈ moms → isK O2 M a 13 = true := by
  intro a ha
  simp only [moms, List.mem_cons, List.not_mem_nil, or_false] at ha
  rcases ha with h | h | h | h | h | h | h | h | h | h | h | h | h | h | h <;> subst h <;> rfl
/-- who is in, as the class says it -/
def cwho (who : Nat) : Int := if who = 4 then -1 else who
def MomR (M : Mem) (a w who tm : Nat) (ni : Int32) : Prop := gI M a 0 = iI w ∧ gI M a 1 = iI (cwho who) ∧ gI M a 2 = iI tm ∧ gI M a 3 = ni
theorem MomR.fr {M M' : Mem} {a w who tm : Nat} {ni : Int32} (h : MomR M a w who tm ni) (hf : M'.1 a = M.1 a) : MomR M' a w who tm ni := by
  unfold MomR gI at *; rw [hf]; exact h
theorem c_RW_placeOf (d : Nat) {w who : Nat} (hw : w < 512) (hwho : who < 5) (M : Mem) : c2 (d + 1) m_RW_placeOf [.int (iI w), .int (iI (cwho who))] M = some (.int (iI ((w + 512 * who : Nat) : Int)), M) := by
  show X2 d m_RW_placeOf 0 [.int (iI w), .int (iI (cwho who))] [] M = _
  rw [e_RW_placeOf_0, and511 hw, show iI 4 = iI ((4 : Nat) : Int) from rfl, iI_or9 hw]
  by_cases h : who = 4
  · subst h; rw [if_pos (by decide)]
  · have hc : cwho who = who := if_neg h
    rw [hc, iI_or9 hw, if_neg (by rw [iI_lt0 (by omega) (by omega)]; omega), if_pos (by rw [iI_lt (by omega) (by omega) (by omega) (by omega)]; omega)]
theorem c_Mom_place (d : Nat) {M : Mem} {a w who tm : Nat} {ni : Int32} (ha : a ∈ moms) (h : MomR M a w who tm ni) (hw : w < 512) (hwho : who < 5) : c2 (d + 2) m_Mom_place [.ref a] M = some (.int (iI ((w + 512 * who : Nat) : Int)), M) := by
  show X2 (d + 1) m_Mom_place 0 [.ref a] [] M = _
  rw [e_Mom_place_0, mm_k _ a ha, gb_T, gb_T, h.1, h.2.1, c_RW_placeOf _ hw hwho, bI_some]
theorem c_Mom_copy (d : Nat) {M : Mem} {a b w who tm : Nat} {ni : Int32} (ha : a ∈ moms) (hb : b ∈ moms) (hab : b ≠ a) (h : MomR M b w who tm ni) : ∃ M', c2 (d + 1) m_Mom_copy [.ref a, .ref b] M = some (.null, M') ∧ Eqx [a] M M' ∧ MomR M' a w who tm ni := by
  show ∃ M', X2 d m_Mom_copy 0 [.ref a, .ref b] [] M = _ ∧ _
  rw [e_Mom_copy_0]
  simp only [mm_k _ a ha, mm_k _ b hb, gb_T, gI_na hab, h.1, h.2.1, h.2.2.1, h.2.2.2]
  refine ⟨_, rfl, eqx_wI (eqx_wI (eqx_wI (eqx_wI Eqx.rf (by simp)) (by simp)) (by simp)) (by simp), ?_, ?_, ?_, ?_⟩
  · rw [gI_nk (by decide), gI_nk (by decide), gI_nk (by decide), gI_eq]
  · rw [gI_nk (by decide), gI_nk (by decide), gI_eq]
  · rw [gI_nk (by decide), gI_eq]
  · rw [gI_eq]
theorem StepsC.tm9 {M : Mem} {r : Nat} {z : Row} {tm st : Nat} (h : StepsC M r z tm st) : tm < 10 := h.2.2.2.2.2.2.2.1
theorem c_Stp_tune (d : Nat) {M : Mem} {r : Nat} {z : Row} {tm st tm' : Nat} (hS : StepsC M r z tm st) (h9 : tm' < 10) (hst' : st < 100000) :
    ∃ M' st', c2 (d + 1) m_Stp_tune [.ref 127, .int (iI tm')] M = some (.null, M') ∧ Eqx [127] M M' ∧ StepsC M' r z tm' st' ∧ st' ≤ st + 1 ∧ gR M' 127 0 = gR M 127 0 := by
  obtain ⟨hr, h0, hR, hz, hT, hG, htm, htm9, hst, hst2, hC⟩ := id hS
  have hrl := rm_lt r hr
  show ∃ M' st', X2 d m_Stp_tune 0 [.ref 127, .int (iI tm')] [] M = _ ∧ _
  rw [e_Stp_tune_0, htm, hst]
  by_cases h : tm' = tm
  · subst h
    rw [if_pos rfl]
    exact ⟨M, st, rfl, Eqx.rf, hS, by omega, rfl⟩
  · rw [if_neg (by rw [iI_eq (by omega) (by omega) (by omega) (by omega)]; omega)]
    have hE : Eqx [127] M (wI (wI M 127 1 (iI tm')) 127 6 (iI st + iI 1)) := eqx_wI (eqx_wI Eqx.rf (by decide)) (by decide)
    refine ⟨_, st + 1, rfl, hE, ⟨hr, h0, hR.fr (fun a ha => (hE a (by have := roomS_ge ha; simp <;> omega)).1), hz, hT.fr rfl, hG.fr rfl, ?_, h9, ?_, by omega, ?_⟩, Nat.le_refl _, rfl⟩
    · rw [gI_nk (by decide), gI_eq]
    · rw [gI_eq, iI_add]; rfl
    · intro p bl hp hbl
      obtain ⟨e, s, g1, g2, g3, g4⟩ := hC p bl hp hbl
      refine ⟨e, s, ?_, g2, by omega, fun q => by omega⟩
      rw [eqx_I hE (by decide)]; exact g1
theorem c_RW_here (d : Nat) {M : Mem} {r : Nat} {z : Row} {tm0 st w who tm : Nat} {ni : Int32} (hS : StepsC M r z tm0 st) (hN : MomR M 111 w who tm ni) (hw : w < 512) (hwho : who < 5) (htm : tm < 10) (hst' : st < 100000) :
    ∃ M' st', c2 (d + 3) m_RW_here [.ref 100] M = some (.int (iI ((w + 512 * who : Nat) : Int)), M') ∧ Eqx [127] M M' ∧ StepsC M' r z tm st' ∧ st' ≤ st + 1 ∧ MomR M' 111 w who tm ni := by
  show ∃ M' st', X2 (d + 2) m_RW_here 0 [.ref 100] [] M = _ ∧ _
  obtain ⟨M1, st1, e, hE, hS1, hle, _⟩ := c_Stp_tune (d + 1) hS htm hst'
  have hN1 : MomR M1 111 w who tm ni := hN.fr (hE 111 (by decide)).1
  rw [e_RW_here_0, hN.2.2.1, e, bV_some, c_Mom_place _ (by decide) hN1 hw hwho, bI_some]
  exact ⟨M1, st1, rfl, hE, hS1, hle, hN1⟩
