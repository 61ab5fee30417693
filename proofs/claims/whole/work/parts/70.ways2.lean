/-! out, outBy, soonest, way, toFace: both sides. -/
theorem cw_eq {who : Nat} (h : who < 5) : (iI (cwho who) = iI (-1)) = (who = 4) := by
  unfold cwho
  split
  · rename_i q; simp [q]
  · rename_i q; rw [iI_eq (by omega) (by omega) (by omega) (by omega)]
    apply propext; constructor <;> intro h <;> omega
theorem who_eq {who : Nat} (h : who < 5) : (iI who = iI 4) = (who = 4) := by
  rw [iI_eq (by omega) (by omega) (by omega) (by omega)]
  apply propext; constructor <;> intro h <;> omega
theorem p_out (z : Row) (w who tm : Nat) : PairQ m_RW_out m_Mo_out [] z w who tm := by
  intro d M r ni st hQ hst
  obtain ⟨_, h5, hN, hO, htm, hwho, hw⟩ := id hQ
  show ∃ v M' st', X2 (d + 79) m_RW_out 0 [.ref 100] [] M = _ ∧ _
  rw [e_RW_out_0, hN.2.1]
  simp only [cw_eq hwho]
  by_cases h4 : who = 4
  · rw [if_pos h4]
    refine ⟨_, M, st, rfl, Eqx.rf, hQ, by omega, ?_⟩
    intro M2 hM
    show ∃ M2', X2 (d + 79) m_Mo_out 0 [.ref 197] [] M2 = _ ∧ _
    rw [e_Mo_out_0, hM.who]
    simp only [who_eq hwho]
    rw [if_pos h4]
    exact ⟨_, rfl, ResM.thr M2⟩
  · rw [if_neg h4]
    obtain ⟨M1, M2, st', res, a, bs, e1, e2, hE, hQ1, hQ2, hle, e3, e4, ref⟩ := far_both (d + 72) (-2) (-1) (Or.inl ⟨rfl, rfl⟩) (by decide) hQ hst
    rw [e1, bI_some, e2, bI_some, e3, bI_some]
    refine ⟨_, M2, st', rfl, hE, hQ2, hle, ?_⟩
    intro M3 hM
    obtain ⟨M4, x, a1, a2, a3, a4⟩ := ref _ (hM.res (ResM.thr M3))
    show ∃ M2', X2 (d + 79) m_Mo_out 0 [.ref 197] [] M3 = _ ∧ _
    rw [e_Mo_out_0, hM.who]
    simp only [who_eq hwho]
    rw [if_neg h4, a1, bI_some, a3, bI_some]
    exact ⟨_, rfl, (ResM.thr M3).tr a2⟩
theorem p_outBy (z : Row) (w who tm : Nat) (x1 : Int32) : PairQ m_RW_outBy m_Mo_outBy [.int x1] z w who tm := by
  intro d M r ni st hQ hst
  obtain ⟨i, rfl, i1, i2⟩ := iI_ex x1
  obtain ⟨_, h5, hN, hO, htm, hwho, hw⟩ := id hQ
  show ∃ v M' st', X2 (d + 79) m_RW_outBy 0 [.ref 100, .int (iI i)] [] M = _ ∧ _
  rw [e_RW_outBy_0, hN.2.1]
  simp only [cw_eq hwho, iI_lt0 i1 i2]
  by_cases h0 : i < 0
  · rw [if_pos h0]
    refine ⟨_, M, st, rfl, Eqx.rf, hQ, by omega, ?_⟩
    intro M2 hM
    show ∃ M2', X2 (d + 79) m_Mo_outBy 0 [.ref 197, .int (iI i)] [] M2 = _ ∧ _
    rw [e_Mo_outBy_0]
    simp only [iI_lt0 i1 i2]
    rw [if_pos h0]
    exact ⟨_, rfl, ResM.thr M2⟩
  · rw [if_neg h0]
    by_cases h4 : who = 4
    · rw [if_pos h4]
      refine ⟨_, M, st, rfl, Eqx.rf, hQ, by omega, ?_⟩
      intro M2 hM
      show ∃ M2', X2 (d + 79) m_Mo_outBy 0 [.ref 197, .int (iI i)] [] M2 = _ ∧ _
      rw [e_Mo_outBy_0, hM.who]
      simp only [who_eq hwho, iI_lt0 i1 i2]
      rw [if_neg h0, if_pos h4]
      exact ⟨_, rfl, ResM.thr M2⟩
    · rw [if_neg h4]
      obtain ⟨M1, M2, st', res, a, bs, e1, e2, hE, hQ1, hQ2, hle, e3, e4, ref⟩ := far_both (d + 72) (-2) (-1) (Or.inl ⟨rfl, rfl⟩) (by decide) hQ hst
      rw [e1, bI_some, e2, bI_some, e4 i (by omega) i2, bI_some]
      refine ⟨_, M2, st', rfl, hE, hQ2, hle, ?_⟩
      intro M3 hM
      obtain ⟨M4, x, a1, a2, a3, a4⟩ := ref _ (hM.res (ResM.thr M3))
      show ∃ M2', X2 (d + 79) m_Mo_outBy 0 [.ref 197, .int (iI i)] [] M3 = _ ∧ _
      rw [e_Mo_outBy_0, hM.who]
      simp only [who_eq hwho, iI_lt0 i1 i2]
      rw [if_neg h0, if_neg h4, a1, bI_some, a4 i (by omega) i2, bI_some]
      exact ⟨_, rfl, (ResM.thr M3).tr a2⟩
theorem p_soonest (z : Row) (w who tm : Nat) (x1 : Int32) : PairQ m_RW_soonest m_Mo_soonest [.int x1] z w who tm := by
  intro d M r ni st hQ hst
  obtain ⟨wl, rfl, i1, i2⟩ := iI_ex x1
  have hz := hQ.okz
  have hr := hQ.rm
  have hR := hQ.room
  have h9 := nz_le hz
  have hp := pow9 h9
  obtain ⟨_, h5, hN, hO, htm, hwho, hw⟩ := id hQ
  show ∃ v M' st', X2 (d + 79) m_RW_soonest 0 [.ref 100, .int (iI wl)] [] M = _ ∧ _
  rw [e_RW_soonest_0, h5, rm_k _ r hr, tt_and, gb_T, c_Room_hasWall _ hr hR.1.2.2.1 h9, bI_some, iI_toInt i1 i2]
  by_cases hwl : 0 ≤ wl ∧ wl < ((2 ^ nz z : Nat) : Int)
  · rw [decide_eq_true hwl, b2i_t, if_neg (by decide)]
    obtain ⟨M1, M2, st', res, a, bs, e1, e2, hE, hQ1, hQ2, hle, e3, e4, ref⟩ := far_both (d + 72) wl wl (Or.inr ⟨rfl, hwl.1⟩) (by omega) hQ hst
    rw [e1, bI_some, e2, bI_some, e3, bI_some]
    refine ⟨_, M2, st', rfl, hE, hQ2, hle, ?_⟩
    intro M3 hM
    have hM1 := hM.res (ResM.thr M3)
    obtain ⟨M4, x, a1, a2, a3, a4⟩ := ref _ hM1
    show ∃ M2', X2 (d + 79) m_Mo_soonest 0 [.ref 197, .int (iI wl)] [] M3 = _ ∧ _
    rw [e_Mo_soonest_0, c_Mo_isWall _ hM1.okz, bI_some, hM1.1, i2l_iI (by omega) (by omega), lI_toInt (by omega) (by omega), decide_eq_true hwl, b2i_t, if_neg (by decide), a1, bI_some, a3, bI_some]
    exact ⟨_, rfl, (ResM.thr M3).tr a2⟩
  · rw [decide_eq_false hwl, b2i_f, if_pos (by decide)]
    refine ⟨_, M, st, rfl, Eqx.rf, hQ, by omega, ?_⟩
    intro M3 hM
    have hM1 := hM.res (ResM.thr M3)
    show ∃ M2', X2 (d + 79) m_Mo_soonest 0 [.ref 197, .int (iI wl)] [] M3 = _ ∧ _
    rw [e_Mo_soonest_0, c_Mo_isWall _ hM1.okz, bI_some, hM1.1, i2l_iI i1 i2, lI_toInt (by omega) (by omega), decide_eq_false hwl, b2i_f, if_pos (by decide)]
    exact ⟨_, rfl, ResM.thr M3⟩
theorem p_way (z : Row) (w who tm : Nat) (x1 x2 : Int32) : PairQ m_RW_way m_Mo_way [.int x1, .int x2] z w who tm := by
  intro d M r ni st hQ hst
  obtain ⟨wl, rfl, i1, i2⟩ := iI_ex x1
  obtain ⟨k, rfl, k1, k2⟩ := iI_ex x2
  have hz := hQ.okz
  have hr := hQ.rm
  have hR := hQ.room
  have h9 := nz_le hz
  have hp := pow9 h9
  obtain ⟨_, h5, hN, hO, htm, hwho, hw⟩ := id hQ
  show ∃ v M' st', X2 (d + 79) m_RW_way 0 [.ref 100, .int (iI wl), .int (iI k)] [] M = _ ∧ _
  rw [e_RW_way_0, h5, rm_k _ r hr, tt_and, gb_T, c_Room_hasWall _ hr hR.1.2.2.1 h9, bI_some, iI_toInt i1 i2]
  by_cases hwl : 0 ≤ wl ∧ wl < ((2 ^ nz z : Nat) : Int)
  · rw [decide_eq_true hwl, b2i_t, if_neg (by decide)]
    by_cases hk : k < 0
    · rw [if_pos (by rw [iI_lt0 k1 k2]; exact hk)]
      refine ⟨_, M, st, rfl, Eqx.rf, hQ, by omega, ?_⟩
      intro M3 hM
      have hM1 := hM.res (ResM.thr M3)
      show ∃ M2', X2 (d + 79) m_Mo_way 0 [.ref 197, .int (iI wl), .int (iI k)] [] M3 = _ ∧ _
      rw [e_Mo_way_0, c_Mo_isWall _ hM1.okz, bI_some, hM1.1, i2l_iI (by omega) (by omega), lI_toInt (by omega) (by omega), decide_eq_true hwl, b2i_t, if_neg (by decide), if_pos (by rw [iI_lt0 k1 k2]; exact hk)]
      exact ⟨_, rfl, ResM.thr M3⟩
    · rw [if_neg (by rw [iI_lt0 k1 k2]; exact hk)]
      obtain ⟨M1, M2, st', res, a, bs, e1, e2, hE, hQ1, hQ2, hle, e3, e4, ref⟩ := far_both (d + 72) wl wl (Or.inr ⟨rfl, hwl.1⟩) (by omega) hQ hst
      rw [e1, bI_some, e2, bI_some, e4 k (by omega) k2, bI_some]
      refine ⟨_, M2, st', rfl, hE, hQ2, hle, ?_⟩
      intro M3 hM
      have hM1 := hM.res (ResM.thr M3)
      obtain ⟨M4, x, a1, a2, a3, a4⟩ := ref _ hM1
      show ∃ M2', X2 (d + 79) m_Mo_way 0 [.ref 197, .int (iI wl), .int (iI k)] [] M3 = _ ∧ _
      rw [e_Mo_way_0, c_Mo_isWall _ hM1.okz, bI_some, hM1.1, i2l_iI (by omega) (by omega), lI_toInt (by omega) (by omega), decide_eq_true hwl, b2i_t, if_neg (by decide), if_neg (by rw [iI_lt0 k1 k2]; exact hk), a1, bI_some, a4 k (by omega) k2, bI_some]
      exact ⟨_, rfl, (ResM.thr M3).tr a2⟩
  · rw [decide_eq_false hwl, b2i_f, if_pos (by decide)]
    refine ⟨_, M, st, rfl, Eqx.rf, hQ, by omega, ?_⟩
    intro M3 hM
    have hM1 := hM.res (ResM.thr M3)
    show ∃ M2', X2 (d + 79) m_Mo_way 0 [.ref 197, .int (iI wl), .int (iI k)] [] M3 = _ ∧ _
    rw [e_Mo_way_0, c_Mo_isWall _ hM1.okz, bI_some, hM1.1, i2l_iI i1 i2, lI_toInt (by omega) (by omega), decide_eq_false hwl, b2i_f, if_pos (by decide)]
    exact ⟨_, rfl, ResM.thr M3⟩
theorem p_toFace (z : Row) (w who tm : Nat) : PairQ m_RW_toFace m_Mo_toFace [] z w who tm := by
  intro d M r ni st hQ hst
  have hz := hQ.okz
  have hr := hQ.rm
  have hR := hQ.room
  have hf := zn_rng hz.1.2.2.2.1 (by decide)
  have ef : z 4 = iI (zn z 4) := zn_eq hz.1.2.2.2.1 (by decide)
  obtain ⟨_, h5, hN, hO, htm, hwho, hw⟩ := id hQ
  show ∃ v M' st', X2 (d + 79) m_RW_toFace 0 [.ref 100] [] M = _ ∧ _
  rw [e_RW_toFace_0, h5, rm_k _ r hr, gb_T, hR.1.2.2.2.2.1, ef]
  by_cases h0 : zn z 4 = 0
  · rw [if_pos (by rw [h0]; rfl)]
    refine ⟨_, M, st, rfl, Eqx.rf, hQ, by omega, ?_⟩
    intro M3 hM
    show ∃ M2', X2 (d + 79) m_Mo_toFace 0 [.ref 197] [] M3 = _ ∧ _
    rw [e_Mo_toFace_0, hM.g 4, ef, if_pos (by rw [h0]; rfl)]
    exact ⟨_, rfl, ResM.thr M3⟩
  · rw [if_neg (by rw [iI_eq0 (by omega) (by omega)]; omega)]
    obtain ⟨M1, M2, st', res, a, bs, e1, e2, hE, hQ1, hQ2, hle, e3, e4, ref⟩ := far_both (d + 72) (zn z 4) (zn z 4) (Or.inr ⟨rfl, by omega⟩) (by omega) hQ hst
    rw [e1, bI_some, hQ1.2.1, rm_k _ r hr, gb_T, hQ1.room.1.2.2.2.2.1, ef, e2, bI_some, e3, bI_some]
    refine ⟨_, M2, st', rfl, hE, hQ2, hle, ?_⟩
    intro M3 hM
    have hM1 := hM.res (ResM.thr M3)
    obtain ⟨M4, x, a1, a2, a3, a4⟩ := ref _ hM1
    show ∃ M2', X2 (d + 79) m_Mo_toFace 0 [.ref 197] [] M3 = _ ∧ _
    rw [e_Mo_toFace_0, hM.g 4, ef, if_neg (by rw [iI_eq0 (by omega) (by omega)]; omega), a1, bI_some, a3, bI_some]
    exact ⟨_, rfl, (ResM.thr M3).tr a2⟩
