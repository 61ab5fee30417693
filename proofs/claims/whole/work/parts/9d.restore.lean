/-! restore. -/
theorem c_Stp_takeS (d : Nat) {M : Mem} {r r' tm st : Nat} {z z' : Row} (hS : StepsC M r z tm st) (hr' : r' ∈ rooms) (hR' : RoomR M r' z') (hz' : OkZ z') (hst' : st < 100000) :
    ∃ M', c2 (d + 2) m_Stp_take [.ref 127, .ref r'] M = some (.null, M') ∧ Eqx [127, 128, 129] M M' ∧ StepsC M' r' z' tm (st + 1) := by
  obtain ⟨hr, h0, hR, hz, hT, hG, htm, htm9, hst, hst2, hC⟩ := hS
  exact c_Stp_take d hr' hR' hz' htm htm9 hst hst' (fun p bl hp hbl => by
    obtain ⟨e, s, q1, q2, q3, q4⟩ := hC p bl hp hbl
    exact ⟨e, s, q1, q2, q3⟩)
def resRow (z : Row) (i k : Nat) : Row := fun q => if q < k then z (971 * (i + 1) + q) else z q
theorem c_restoreM (d : Nat) {M : Mem} {i : Nat} (hi : i < 2) : ∀ (j k : Nat) (M' : Mem), j + k = 971 → Eqx [198] M M' → M'.1 198 = resRow (M.1 198) i k → ∃ M'', X2 d m_Mo_restore 32 [.ref 197, .int (iI i), .int (iI k)] [] M' = some (.int (iI 0), M'') ∧ Eqx [198] M M'' ∧ M''.1 198 = upr (resRow (M.1 198) i 971) 29 (iI 0) := by
  intro j
  induction j with
  | zero =>
    intro k M' hk hE hr
    have hk' : k = 971 := by omega
    subst hk'
    rw [e_Mo_restore_32, if_neg (by decide)]
    exact ⟨_, rfl, eqx_wI hE (by simp), by rw [wI_row, hr]⟩
  | succ j ih =>
    intro k M' hk hE hr
    have e1 : iI 971 * (iI i + iI 1) + iI k = iI ((971 * (i + 1) + k : Nat) : Int) := by rw [iI_add, iI_mul, iI_add]; rfl
    rw [e_Mo_restore_32, if_pos (by rw [iI_lt (by omega) (by omega) (by omega) (by omega)]; omega), e1, inb_ok (by omega) (by omega) (by omega), gb_T, inb_ok (by omega) (by omega) (by omega), gb_T, ix_nat (by omega), ix_nat (by omega), iI_add]
    refine ih (k + 1) _ (by omega) (eqx_wI hE (by simp)) ?_
    rw [wI_row, gI, hr]
    funext q
    unfold upr resRow
    rw [if_neg (show ¬ (971 * (i + 1) + k < k) by omega)]
    by_cases q1 : q = k
    · rw [if_pos q1, if_pos (by omega), q1]
    · rw [if_neg q1]
      by_cases q2 : q < k
      · rw [if_pos q2, if_pos (by omega)]
      · rw [if_neg q2, if_neg (by omega)]
theorem s_restore (x1 : Int32) : Step m_RW_restore m_Mo_restore [.int x1] := by
  intro d M b hRel hb
  have hRel0 := hRel
  obtain ⟨r, tm0, st, nx, nd, m, f, so, tn, tv, z, hS, hst, h5, hm, okm, rq, hmo, hpc, hpm, hof, hrest⟩ := hRel
  have hz := hS.2.2.2.1
  have fin := fin_same hRel0 (Eqx.rf : Eqx [] M M) (fun a ha => absurd ha (List.not_mem_nil)) (eqx_wI Eqx.rf (by simp) : Eqx [197] M (wI M 197 0 (iI 0))) (by intro a ha; simp only [List.mem_cons, List.not_mem_nil, or_false] at ha; omega) (fun k hk => by rw [gI_nk (by omega)]) (wI_na (by decide))
  obtain ⟨x, rfl, xa, xb⟩ := iI_ex x1
  by_cases hx : 0 ≤ x ∧ x ≤ 1
  · obtain ⟨i, rfl⟩ := Int.eq_ofNat_of_zero_le hx.1
    have hi : i < 2 := by omega
    obtain ⟨hTC, hTM, hI, ⟨n, t1, t2, t3, t4⟩, hF1, hF2⟩ := hrest
    have k187 : 187 + i ∈ moms := by rcases (show i = 0 ∨ i = 1 by omega) with q | q <;> subst q <;> decide
    rcases hI i hi with ⟨w1, w2⟩ | ⟨w1, ri, mi, w2, w3, w4, w5, w6, w7, w8⟩
    · refine ⟨iI (-5), M, _, ?_, ?_, fin⟩
      · show X2 (d + 79) m_RW_restore 0 [.ref 100, .int (iI i)] [] M = _
        rw [e_RW_restore_0, if_neg (by rw [iI_lt0 (by omega) (by omega)]; omega), if_pos (by rw [iI_lt (by omega) (by omega) (by omega) (by omega)]; omega), inb_ok (by omega) (by omega) (by omega), show (true || false || false) = true from rfl, gb_T, ix_nat (by omega), w2, show rOk 0 = true from rfl, gb_T, if_pos rfl]
      · show X2 (d + 79) m_Mo_restore 0 [.ref 197, .int (iI i), uns] [] M = _
        rw [e_Mo_restore_0, c_Mo_within, bI_some, i2l_iI (by omega) (by omega), lI_toInt (by omega) (by omega), lI_toInt (by omega) (by omega), lI_toInt (by omega) (by omega), decide_eq_true hx, b2i_t, if_neg (show ¬ (iI 1 = 0) by decide), inb_ok (by omega) (by omega) (by omega), gb_T, ix_nat (by omega), gI_na (by decide), w1, if_pos (show iI 0 = 0 from rfl)]
    · have hrl := rm_mod w2
      let A := wR M 100 5 ri
      have hEA : Eqx [100] M A := eqx_wR Eqx.rf (by simp)
      have h6A : MoC A (187 + i) mi := w6
      obtain ⟨M1, e1, hE1, hm1⟩ := c_Mom_copy (d + 78) (a := 111) (b := 187 + i) (M := A) (by decide) k187 (by omega) h6A
      let B := wI M1 114 2 (iI 0)
      have e2 : c2 (d + 79) m_Past_clear [.ref 114] M1 = some (.null, B) := e_Past_clear_0 (d + 78) M1
      have hE1B : Eqx [111, 114] A B := eqx_wI (hE1.mono (by simp)) (by simp)
      have hEB : Eqx [100, 111, 114] M B := (hEA.mono (by simp)).tr (hE1B.mono (by simp))
      have hSB : StepsC B r z tm0 st := hS.fq hEB (by intro a ha; simp only [List.mem_cons, List.not_mem_nil, or_false] at ha; omega)
      have hRB : RoomR B ri (zim (M.1 198) i) := w4.fr (fun a ha => (hEB a (by
        have h3 := roomS_ge ha
        simp only [List.mem_cons, List.not_mem_nil, or_false]; omega)).1)
      obtain ⟨M3, e3, hE3, hS3⟩ := c_Stp_takeS (d + 77) hSB w2 hRB w5 (by omega)
      have b5 : gR B 100 5 = ri := (eqx_R hE1B (by decide) 5).trans (wR100_5 M ri)
      have hEc : Eqx [100, 111, 114, 127, 128, 129] M M3 := (hEB.mono (by simp)).tr (hE3.mono (by simp))
      have x198 : (wI M3 197 0 (iI 0)).1 198 = M.1 198 := (wI_na (by decide)).trans (hEc 198 (by decide)).1
      obtain ⟨M4, e4, hE4, r4⟩ := c_restoreM (d + 79) (M := wI M3 197 0 (iI 0)) hi 971 0 _ (by omega) Eqx.rf (by funext q; exact (if_neg (by omega)).symm)
      rw [x198] at r4
      have hE34 : Eqx [197, 198] M3 M4 := (eqx_wI Eqx.rf (by simp) : Eqx [197, 198] M3 (wI M3 197 0 (iI 0))).tr (hE4.mono (by simp))
      have hE : Eqx [100, 111, 114, 127, 128, 129, 197, 198] M M4 := (hEc.mono (by simp)).tr (hE34.mono (by simp))
      have hB4 : Eqx [127, 128, 129, 197, 198] B M4 := (hE3.mono (by simp)).tr (hE34.mono (by simp))
      have h7 : ∀ k, k ≠ 0 → gI M4 197 k = gI M 197 k := fun k hk => by
        rw [eqx_I hE4 (by decide), gI_nk hk, eqx_I hEc (by decide)]
      have rr : ∀ q, q < 971 → q ≠ 29 → M4.1 198 q = zim (M.1 198) i q := fun q h1 h2 => by
        rw [r4, upr_ne h2]; exact if_pos h1
      refine ⟨iI 0, M3, M4, ?_, ?_, ⟨ri, tm0, st + 1, nx, 0, mi, f, so, tn, tv, zim (M.1 198) i, hS3.ref hE34 (by intro a ha; simp only [List.mem_cons, List.not_mem_nil, or_false] at ha; omega), by omega, ?_, ?_, w8, ?_, ?_, ?_, ?_, fun j hj => absurd hj (Nat.not_lt_zero _), ?_, ?_, ?_, ?_, ?_⟩, (hE 0 (by decide)).1, (hE 1 (by decide)).1⟩
      · show X2 (d + 79) m_RW_restore 0 [.ref 100, .int (iI i)] [] M = _
        have ib : inb (iI (i : Int)) 2 = true := inb_ok (by omega) (by omega) (by omega)
        rw [e_RW_restore_0, if_neg (by rw [iI_lt0 (by omega) (by omega)]; omega), if_pos (by rw [iI_lt (by omega) (by omega) (by omega) (by omega)]; omega), ib, show (true || false || false) = true from rfl, gb_T, gb_T, ix_nat (by omega), w3, rm_ok ri w2, gb_T, if_neg (by omega), show (false || true || false) = true from rfl, gb_T, gR_110 hi]
        show bV (c2 (d + 79) m_Mom_copy [.ref 111, .ref (187 + i)] A) _ = _
        rw [e1, bV_some, e2, bV_some, b5, e3, bV_some]
      · show X2 (d + 79) m_Mo_restore 0 [.ref 197, .int (iI i), uns] [] M3 = _
        have g199 : gI (wI M3 197 0 (iI 0)) 199 i = iI 1 := by rw [gI_na (by decide), eqx_I hEc (by decide)]; exact w1
        rw [e_Mo_restore_0, c_Mo_within, bI_some, i2l_iI (by omega) (by omega), lI_toInt (by omega) (by omega), lI_toInt (by omega) (by omega), lI_toInt (by omega) (by omega), decide_eq_true hx, b2i_t, if_neg (show ¬ (iI 1 = 0) by decide), inb_ok (by omega) (by omega) (by omega), gb_T, ix_nat (by omega), g199, if_neg (show ¬ (iI 1 = 0) by decide)]
        exact e4
      · rw [eqx_R hB4 (by decide)]; exact b5
      · exact MoC.fr hm1 (((hB4 111 (by decide)).1).trans (wI_na (by decide)))
      · intro k hk
        exact rr k (by omega) (by omega)
      · exact ⟨(rr 25 (by decide) (by decide)).trans w7.1, (rr 26 (by decide) (by decide)).trans w7.2.1, (rr 27 (by decide) (by decide)).trans w7.2.2.1, (rr 28 (by decide) (by decide)).trans w7.2.2.2⟩
      · refine ⟨?_, hpc.2.1, ?_, by decide, fun j hj => absurd hj (Nat.not_lt_zero _)⟩
        · rw [eqx_I hB4 (by decide)]
          show gI (wI M1 114 2 _) 114 1 = _
          rw [gI_nk (by decide), eqx_I hE1 (by decide)]; exact hpc.1
        · rw [eqx_I hB4 (by decide)]
          exact gI_eq _ _ _ _
      · exact ⟨by rw [r4]; rfl, fun j hj => absurd hj (Nat.not_lt_zero _)⟩
      · exact hTC.fr hE (by intro a ha; simp only [List.mem_cons, List.not_mem_nil, or_false] at ha; omega)
      · exact hTM.fr (hE 213 (by decide)).1 (hE 214 (by decide)).1 (hE 215 (by decide)).2.1
      · refine hI.fr2 hE (by intro a ha; simp only [List.mem_cons, List.not_mem_nil, or_false] at ha; omega) ?_
        intro k hk
        rw [r4, upr_ne (by omega)]; exact if_neg (by omega)
      · refine ⟨n, ?_, (h7 5 (by decide)).trans t2, t3, fun k hk => ?_⟩
        · rw [eqx_I hB4 (by decide), eqx_I hE1B (by decide)]; exact t1
        · rw [eqx_I hE (by decide), eqx_I hE (by decide)]
          exact t4 k hk
      · exact ⟨((eqx_I hE (by decide) 11).trans hF1).trans (h7 13 (by decide)).symm, ((eqx_I hE (by decide) 12).trans hF2).trans (h7 14 (by decide)).symm⟩
  · refine ⟨iI (-2), M, wI M 197 0 (iI 0), ?_, ?_, fin⟩
    · show X2 (d + 79) m_RW_restore 0 [.ref 100, .int (iI x)] [] M = _
      rw [e_RW_restore_0]
      by_cases q : x < 0
      · rw [if_pos (by rw [iI_lt0 xa xb]; exact q)]
      · rw [if_neg (by rw [iI_lt0 xa xb]; exact q), if_neg (by rw [iI_lt xa xb (by omega) (by omega)]; omega)]
    · show X2 (d + 79) m_Mo_restore 0 [.ref 197, .int (iI x), uns] [] M = _
      rw [e_Mo_restore_0, c_Mo_within, bI_some, i2l_iI xa xb, lI_toInt (by omega) (by omega), lI_toInt (by omega) (by omega), lI_toInt (by omega) (by omega), decide_eq_false hx, b2i_f, if_pos (show iI 0 = 0 from rfl)]
