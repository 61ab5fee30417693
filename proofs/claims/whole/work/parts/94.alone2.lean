/-! let, turn, temper. -/
theorem whyA_0 {z : Row} {fs v : Int} {m : Mo} (h : whyA z fs v m = 0) : dWhy z (fs + v) m = 0 := by
  unfold whyA at h
  by_cases q : 0 ≤ v ∧ v ≤ 9
  · rw [if_pos q] at h; exact h
  · rw [if_neg q] at h; exact absurd h (by decide)
theorem s_temper (x1 : Int32) : Step m_RW_temper m_Mo_temper [.int x1] := by
  refine alone_step 30 (by decide) (by decide) ?_
  intro d M M1 z m hz ok e hmo
  have hw := whyA_rng z 30 x1.toInt m
  have h34 := zn3_le hz
  have h9 := nz_le hz
  obtain ⟨v, rfl, v1, v2⟩ := iI_ex x1
  rw [iI_toInt v1 v2] at *
  have hbl : whyA z 30 v m = if 0 ≤ v ∧ v ≤ 9 then 0 else 1 := by
    unfold whyA dWhy
    by_cases q : 0 ≤ v ∧ v ≤ 9
    · rw [if_pos q, if_pos q, if_pos (by omega)]
    · rw [if_neg q, if_neg q]
  have thr : ∀ M1 : Mem, (wI M1 197 0 (iI 0)).1 198 = M1.1 198 := fun M1 => wI_na (by decide)
  by_cases q : whyA z 30 v m = 0
  · have hv : 0 ≤ v ∧ v ≤ 9 := by rw [hbl] at q; split at q; assumption; exact absurd q (by decide)
    obtain ⟨hm1, hm2⟩ := hmo q
    have hl1 : (dDo z (30 + v) m).1 < 512 := (dDo_ok hz (whyA_0 q) ok).2.2.1
    refine ⟨iI m.2.2.1, ?_, fun x => absurd q x, fun _ => ?_, fun x => absurd q x⟩
    · show X2 (d + 79) m_RW_temper 0 [.ref 100, .int (iI v), uns] [] M = _
      rw [e_RW_temper_0, e, bI_some, q, if_pos (show iI 0 = 0 from rfl), hm2.2.2.1]
    · intro M1 nd f z1 rq hr hmz hp hnd
      obtain ⟨n, rfl⟩ := Int.eq_ofNat_of_zero_le (show 0 ≤ v by omega)
      obtain ⟨M3, e3, hE3, hw3⟩ := c_Mo_keeps (d + 78) (M := wI M1 197 0 (iI 0)) (m := m) (by rw [thr, hr]; exact hmz)
      have r3 : M3.1 198 = rowM z1 m := by rw [rowM_self hmz, (hE3 198 (by decide)).1, thr, hr]
      have hz1 := rq_ok rq hz
      have hdd : dDo z (30 + (n : Int)) m = (m.1, m.2.1, n, m.2.2.2) := by
        unfold dDo; rw [if_neg (by omega), if_neg (by omega), if_neg (by omega), show (30 + (n : Int) - 30).toNat = n by omega]
      have r4 : (wI M3 198 27 (iI n)).1 198 = rowM z1 (dDo z (30 + (n : Int)) m) := by rw [wI_row, r3, row27, hdd]
      obtain ⟨M5, e5, hE5, hN5, hp5⟩ := ref_notes (d + 78) (M1 := M1) (WasM.fr hw3 (wI_na (by decide)) : WasM (wI M3 198 27 (iI n)) m) r4 hp hnd
      refine ⟨M5, [197, 198, 202, 203, 204], ?_, ?_, (by intro a ha; simp only [List.mem_cons, List.not_mem_nil, or_false] at ha; omega), ?_, hN5, hp5⟩
      · show X2 (d + 79) m_Mo_temper 0 [.ref 197, .int (iI n)] [] M1 = _
        have h25 : gI M5 198 25 = iI (dDo z (30 + (n : Int)) m).1 := (hN5 25 (by omega)).trans (rowM_mom z1 _).1
        rw [e_Mo_temper_0, c_Mo_within, bI_some, i2l_iI (by omega) (by omega), lI_toInt (by omega) (by omega), lI_toInt (by omega) (by omega), lI_toInt (by omega) (by omega), decide_eq_true hv, b2i_t, if_neg (show ¬ (iI 1 = 0) by decide), e3, bV_some, e5, bV_some, eqx_I hE5 (by decide), gI_na (by decide), hw3.2.2.1]
      · exact ((((eqx_wI Eqx.rf (by simp)) : Eqx [197, 198, 202, 203, 204] M1 (wI M1 197 0 (iI 0))).tr (hE3.mono (by simp))).tr (eqx_wI Eqx.rf (by simp))).tr (hE5.mono (by simp))
      · intro k hk
        rw [eqx_I hE5 (by decide), gI_na (by decide), eqx_I hE3 (by decide), gI_nk (by omega)]
  · have hv : ¬ (0 ≤ v ∧ v ≤ 9) := fun x => q (by rw [hbl, if_pos x])
    have h1 : whyA z 30 v m = 1 := by rw [hbl, if_neg hv]
    refine ⟨iI (-11), ?_, fun _ => by rw [h1]; rfl, fun x => absurd x q, fun _ => ?_⟩
    · show X2 (d + 79) m_RW_temper 0 [.ref 100, .int (iI v), uns] [] M = _
      rw [e_RW_temper_0, e, bI_some, h1, if_neg (show ¬ (iI 1 = 0) by decide)]; rfl
    · intro M1 z1 rq hr hmz
      show X2 (d + 79) m_Mo_temper 0 [.ref 197, .int (iI v)] [] M1 = _
      rw [e_Mo_temper_0, c_Mo_within, bI_some, i2l_iI v1 v2, lI_toInt (by omega) (by omega), lI_toInt (by omega) (by omega), lI_toInt (by omega) (by omega), decide_eq_false hv, b2i_f, if_pos (show iI 0 = 0 from rfl)]
theorem s_turn (x1 : Int32) : Step m_RW_turn m_Mo_turn [.int x1] := by
  refine alone_step 20 (by decide) (by decide) ?_
  intro d M M1 z m hz ok e hmo
  have hw := whyA_rng z 20 x1.toInt m
  have h34 := zn3_le hz
  have h9 := nz_le hz
  obtain ⟨v, rfl, v1, v2⟩ := iI_ex x1
  rw [iI_toInt v1 v2] at *
  have hbl : whyA z 20 v m = if 0 ≤ v ∧ v < nz z then 0 else 1 := by
    unfold whyA dWhy
    by_cases q : 0 ≤ v ∧ v < nz z
    · rw [if_pos q, if_pos (by omega), if_neg (by omega), if_neg (by omega), if_pos (by omega)]
    · rw [if_neg q]
      by_cases q2 : 0 ≤ v ∧ v ≤ 9
      · rw [if_pos q2, if_neg (by omega), if_neg (by omega), if_neg (by omega)]
      · rw [if_neg q2]
  have thr : ∀ M1 : Mem, (wI M1 197 0 (iI 0)).1 198 = M1.1 198 := fun M1 => wI_na (by decide)
  by_cases q : whyA z 20 v m = 0
  · have hv : 0 ≤ v ∧ v < nz z := by rw [hbl] at q; split at q; assumption; exact absurd q (by decide)
    obtain ⟨hm1, hm2⟩ := hmo q
    have hl1 : (dDo z (20 + v) m).1 < 512 := (dDo_ok hz (whyA_0 q) ok).2.2.1
    refine ⟨iI ((if (dDo z (20 + v) m).1.testBit v.toNat then 1 else 0 : Nat) : Int), ?_, fun x => absurd q x, fun _ => ?_, fun x => absurd q x⟩
    · show X2 (d + 79) m_RW_turn 0 [.ref 100, .int (iI v), uns] [] M = _
      rw [e_RW_turn_0, e, bI_some, q, if_pos (show iI 0 = 0 from rfl), hm1.1, show iI v = iI ((v.toNat : Nat) : Int) from congrArg iI (by omega), iI_bit (by omega) (by omega)]
    · intro M1 nd f z1 rq hr hmz hp hnd
      obtain ⟨n, rfl⟩ := Int.eq_ofNat_of_zero_le (show 0 ≤ v by omega)
      obtain ⟨M3, e3, hE3, hw3⟩ := c_Mo_keeps (d + 78) (M := wI M1 197 0 (iI 0)) (m := m) (by rw [thr, hr]; exact hmz)
      have r3 : M3.1 198 = rowM z1 m := by rw [rowM_self hmz, (hE3 198 (by decide)).1, thr, hr]
      have hz1 := rq_ok rq hz
      have hdd : dDo z (20 + (n : Int)) m = (m.1 ^^^ 1 <<< n, m.2.1, m.2.2.1, m.2.2.2) := by
        unfold dDo; rw [if_neg (by omega), if_neg (by omega), if_pos (by omega), show (20 + (n : Int) - 20).toNat = n by omega]
      have r4 : (wI M3 198 25 (iI ((m.1 ^^^ 1 <<< n : Nat) : Int))).1 198 = rowM z1 (dDo z (20 + (n : Int)) m) := by rw [wI_row, r3, row25, hdd]
      obtain ⟨M5, e5, hE5, hN5, hp5⟩ := ref_notes (d + 78) (M1 := M1) (WasM.fr hw3 (wI_na (by decide)) : WasM (wI M3 198 25 (iI ((m.1 ^^^ 1 <<< n : Nat) : Int))) m) r4 hp hnd
      refine ⟨M5, [197, 198, 202, 203, 204], ?_, ?_, (by intro a ha; simp only [List.mem_cons, List.not_mem_nil, or_false] at ha; omega), ?_, hN5, hp5⟩
      · show X2 (d + 79) m_Mo_turn 0 [.ref 197, .int (iI n)] [] M1 = _
        have h25 : gI M5 198 25 = iI (dDo z (20 + (n : Int)) m).1 := (hN5 25 (by omega)).trans (rowM_mom z1 _).1
        rw [e_Mo_turn_0, c_Mo_isRose _ (by rw [thr, hr]; exact hz1), bI_some, thr, hr, rq_nz rq, i2l_iI (by omega) (by omega), lI_toInt (by omega) (by omega), decide_eq_true hv, b2i_t, if_neg (show ¬ (iI 1 = 0) by decide), e3, bV_some, show gI M3 198 25 = iI m.1 from by rw [gI, r3]; rfl, iI_shl1 (by omega), iI_xor, e5, bV_some, h25, iI_bit (by omega) (by omega), Int.toNat_natCast]
      · exact ((((eqx_wI Eqx.rf (by simp)) : Eqx [197, 198, 202, 203, 204] M1 (wI M1 197 0 (iI 0))).tr (hE3.mono (by simp))).tr (eqx_wI Eqx.rf (by simp))).tr (hE5.mono (by simp))
      · intro k hk
        rw [eqx_I hE5 (by decide), gI_na (by decide), eqx_I hE3 (by decide), gI_nk (by omega)]
  · have hv : ¬ (0 ≤ v ∧ v < nz z) := fun x => q (by rw [hbl, if_pos x])
    have h1 : whyA z 20 v m = 1 := by rw [hbl, if_neg hv]
    refine ⟨iI (-11), ?_, fun _ => by rw [h1]; rfl, fun x => absurd x q, fun _ => ?_⟩
    · show X2 (d + 79) m_RW_turn 0 [.ref 100, .int (iI v), uns] [] M = _
      rw [e_RW_turn_0, e, bI_some, h1, if_neg (show ¬ (iI 1 = 0) by decide)]; rfl
    · intro M1 z1 rq hr hmz
      show X2 (d + 79) m_Mo_turn 0 [.ref 197, .int (iI v)] [] M1 = _
      rw [e_Mo_turn_0, c_Mo_isRose _ (by rw [thr, hr]; exact rq_ok rq hz), bI_some, thr, hr, rq_nz rq, i2l_iI v1 v2, lI_toInt (by omega) (by omega), decide_eq_false hv, b2i_f, if_pos (show iI 0 = 0 from rfl)]
theorem s_let (x1 : Int32) : Step m_RW_let m_Mo_let [.int x1] := by
  refine alone_step 10 (by decide) (by decide) ?_
  intro d M M1 z m hz ok e hmo
  have hw := whyA_rng z 10 x1.toInt m
  have h34 := zn3_le hz
  have h9 := nz_le hz
  obtain ⟨v, rfl, v1, v2⟩ := iI_ex x1
  rw [iI_toInt v1 v2] at *
  have hbl : whyA z 10 v m = if 0 ≤ v ∧ v < zn z 3 then (if m.2.1 = 4 then 0 else 2) else 1 := by
    unfold whyA dWhy
    by_cases q : 0 ≤ v ∧ v < zn z 3
    · rw [if_pos q, if_pos (by omega), if_neg (by omega), if_pos (by omega), if_pos (by omega)]
    · rw [if_neg q]
      by_cases q2 : 0 ≤ v ∧ v ≤ 9
      · rw [if_pos q2, if_neg (by omega), if_pos (by omega), if_neg (by omega)]
      · rw [if_neg q2]
  have thr : ∀ M1 : Mem, (wI M1 197 0 (iI 0)).1 198 = M1.1 198 := fun M1 => wI_na (by decide)
  by_cases q : whyA z 10 v m = 0
  · have hv : (0 ≤ v ∧ v < zn z 3) ∧ m.2.1 = 4 := by rw [hbl] at q; split at q; split at q; exact ⟨by assumption, by assumption⟩; exact absurd q (by decide); exact absurd q (by decide)
    obtain ⟨hm1, hm2⟩ := hmo q
    have hl1 : (dDo z (10 + v) m).1 < 512 := (dDo_ok hz (whyA_0 q) ok).2.2.1
    refine ⟨iI (bits (dDo z (10 + v) m).1), ?_, fun x => absurd q x, fun _ => ?_, fun x => absurd q x⟩
    · show X2 (d + 79) m_RW_let 0 [.ref 100, .int (iI v), uns] [] M = _
      rw [e_RW_let_0, e, bI_some, q, if_pos (show iI 0 = 0 from rfl), hm1.1, c_Int_bitCount _ hl1, bI_some]
    · intro M1 nd f z1 rq hr hmz hp hnd
      obtain ⟨n, rfl⟩ := Int.eq_ofNat_of_zero_le (show 0 ≤ v by omega)
      obtain ⟨M3, e3, hE3, hw3⟩ := c_Mo_keeps (d + 78) (M := wI M1 197 0 (iI 0)) (m := m) (by rw [thr, hr]; exact hmz)
      have r3 : M3.1 198 = rowM z1 m := by rw [rowM_self hmz, (hE3 198 (by decide)).1, thr, hr]
      have hz1 := rq_ok rq hz
      have hdd : dDo z (10 + (n : Int)) m = (m.1, n, m.2.2.1, m.2.2.2) := by
        unfold dDo; rw [if_neg (by omega), if_pos (by omega), show (10 + (n : Int) - 10).toNat = n by omega]
      have r4 : (wI M3 198 26 (iI n)).1 198 = rowM z1 (dDo z (10 + (n : Int)) m) := by rw [wI_row, r3, row26, hdd]
      obtain ⟨M5, e5, hE5, hN5, hp5⟩ := ref_notes (d + 78) (M1 := M1) (WasM.fr hw3 (wI_na (by decide)) : WasM (wI M3 198 26 (iI n)) m) r4 hp hnd
      refine ⟨M5, [197, 198, 202, 203, 204], ?_, ?_, (by intro a ha; simp only [List.mem_cons, List.not_mem_nil, or_false] at ha; omega), ?_, hN5, hp5⟩
      · show X2 (d + 79) m_Mo_let 0 [.ref 197, .int (iI n), uns] [] M1 = _
        have h25 : gI M5 198 25 = iI (dDo z (10 + (n : Int)) m).1 := (hN5 25 (by omega)).trans (rowM_mom z1 _).1
        rw [e_Mo_let_0, c_Mo_whyLet _ hz1 (show (wI M1 197 0 (iI 0)).1 198 = rowM z1 m by rw [thr, hr, rowM_self hmz]) ⟨rq_oks rq ok.1, ok.2⟩, bI_some, i2l_iI (by omega) (by omega), lI_toInt (by omega) (by omega), rq_zn rq (by omega), if_pos hv.1, if_pos hv.2, if_pos (show iI 0 = 0 from rfl), e3, bV_some, e5, bV_some, h25, c_Mo_bitsOf _ _ (by omega), bI_some]
      · exact ((((eqx_wI Eqx.rf (by simp)) : Eqx [197, 198, 202, 203, 204] M1 (wI M1 197 0 (iI 0))).tr (hE3.mono (by simp))).tr (eqx_wI Eqx.rf (by simp))).tr (hE5.mono (by simp))
      · intro k hk
        rw [eqx_I hE5 (by decide), gI_na (by decide), eqx_I hE3 (by decide), gI_nk (by omega)]
  · refine ⟨iI (-10 - whyA z 10 v m), ?_, fun _ => rfl, fun x => absurd x q, fun _ => ?_⟩
    · show X2 (d + 79) m_RW_let 0 [.ref 100, .int (iI v), uns] [] M = _
      rw [e_RW_let_0, e, bI_some, if_neg (by rw [iI_eq0 (by omega) (by omega)]; exact q), iI_sub]
    · intro M1 z1 rq hr hmz
      show X2 (d + 79) m_Mo_let 0 [.ref 197, .int (iI v), uns] [] M1 = _
      rw [e_Mo_let_0, c_Mo_whyLet _ (rq_ok rq hz) (show (wI M1 197 0 (iI 0)).1 198 = rowM z1 m by rw [thr, hr, rowM_self hmz]) ⟨rq_oks rq ok.1, ok.2⟩, bI_some, i2l_iI v1 v2, lI_toInt (by omega) (by omega), rq_zn rq (by omega), ← hbl, if_neg (by rw [iI_eq0 (by omega) (by omega)]; exact q), iI_sub]
