/-! image, restore. -/
theorem s109 {i : Nat} (h : i < 2) : Nat.beq (sR 109 i) 0 = true := by
  rcases (show i = 0 ∨ i = 1 by omega) with q | q <;> subst q <;> rfl
theorem gR_109 {i : Nat} (h : i < 2) (M : Mem) : gR M 109 i = M.2.2 109 i := by unfold gR; rw [s109 h]; rfl
theorem wR2_109 {i : Nat} (h : i < 2) (M : Mem) (v : Nat) : wR2 M 109 i v = some (wR M 109 i v) := by unfold wR2; rw [s109 h]; rfl
theorem gR_110 {i : Nat} (h : i < 2) (M : Mem) : gR M 110 i = 187 + i := by
  rcases (show i = 0 ∨ i = 1 by omega) with q | q <;> subst q <;> rfl
theorem wR109_eq {i : Nat} (h : i < 2) (M : Mem) (v : Nat) : gR (wR M 109 i v) 109 i = v := by
  rw [gR_109 h]; show up2 M.2.2 109 i v 109 i = v; unfold up2; rw [if_pos rfl, if_pos rfl]
theorem wR109_ne {i j : Nat} (h : j < 2) (hij : j ≠ i) (M : Mem) (v : Nat) : gR (wR M 109 i v) 109 j = gR M 109 j := by
  rw [gR_109 h, gR_109 h]; show up2 M.2.2 109 i v 109 j = _; unfold up2; rw [if_pos rfl, if_neg hij]
theorem wR100_5 (M : Mem) (v : Nat) : gR (wR M 100 5 v) 100 5 = v := by
  show up2 M.2.2 100 5 v 100 5 = v; unfold up2; rw [if_pos rfl, if_pos rfl]
def imgRow (z : Row) (i k : Nat) : Row := fun q => if 971 * (i + 1) ≤ q ∧ q < 971 * (i + 1) + k then z (q - 971 * (i + 1)) else z q
theorem c_imageM (d : Nat) {M : Mem} {i : Nat} (hi : i < 2) : ∀ (j k : Nat) (M' : Mem), j + k = 971 → Eqx [198] M M' → M'.1 198 = imgRow (M.1 198) i k → ∃ M'', X2 d m_Mo_image 20 [.ref 197, .int (iI i), .int (iI k)] [] M' = some (.int (iI 0), M'') ∧ Eqx [198, 199] M M'' ∧ M''.1 198 = imgRow (M.1 198) i 971 ∧ M''.1 199 = upr (M.1 199) i (iI 1) := by
  intro j
  induction j with
  | zero =>
    intro k M' hk hE hr
    have hk' : k = 971 := by omega
    subst hk'
    rw [e_Mo_image_20, if_neg (by decide), inb_ok (by omega) (by omega) (by omega), gb_T, ix_nat (by omega), show iI 1 &&& 1 = iI 1 from rfl]
    refine ⟨_, rfl, eqx_wI (hE.mono (by simp)) (by simp), by rw [wI_na (by decide)]; exact hr, ?_⟩
    rw [← (hE 199 (by decide)).1]
    funext q
    show up2 M'.1 199 i (iI 1) 199 q = _
    unfold up2 upr
    rw [if_pos rfl]
  | succ j ih =>
    intro k M' hk hE hr
    have e1 : iI 971 * (iI i + iI 1) + iI k = iI ((971 * (i + 1) + k : Nat) : Int) := by rw [iI_add, iI_mul, iI_add]; rfl
    rw [e_Mo_image_20, if_pos (by rw [iI_lt (by omega) (by omega) (by omega) (by omega)]; omega), inb_ok (by omega) (by omega) (by omega), gb_T, e1, inb_ok (by omega) (by omega) (by omega), gb_T, ix_nat (by omega), ix_nat (by omega), iI_add]
    refine ih (k + 1) _ (by omega) (eqx_wI hE (by simp)) ?_
    rw [wI_row, gI, hr]
    funext q
    unfold upr imgRow
    rw [if_neg (show ¬ (971 * (i + 1) ≤ k ∧ k < 971 * (i + 1) + k) by omega)]
    by_cases q1 : q = 971 * (i + 1) + k
    · rw [if_pos q1, if_pos (by omega), show q - 971 * (i + 1) = k by omega]
    · rw [if_neg q1]
      by_cases q2 : 971 * (i + 1) ≤ q ∧ q < 971 * (i + 1) + k
      · rw [if_pos q2, if_pos (by omega)]
      · rw [if_neg q2, if_neg (by omega)]
theorem imgRow_lo (z : Row) (i k : Nat) {q : Nat} (h : q < 971) : imgRow z i k q = z q := if_neg (by omega)
theorem imgRow_in (z : Row) (i : Nat) {q : Nat} (h : q < 971) : zim (imgRow z i 971) i q = z q := by
  show imgRow z i 971 (971 * (i + 1) + q) = _
  unfold imgRow
  rw [if_pos (by omega), show 971 * (i + 1) + q - 971 * (i + 1) = q by omega]
theorem rq_zim {z z' : Row} (i : Nat) (rq : RowEq z z') : RowEq z (zim (imgRow z' i 971) i) := fun k hk => (imgRow_in z' i (by omega)).trans (rq k hk)
theorem s_image (x1 : Int32) : Step m_RW_image m_Mo_image [.int x1] := by
  intro d M b hRel hb
  have hRel0 := hRel
  obtain ⟨r, tm0, st, nx, nd, m, f, so, tn, tv, z, hS, hst, h5, hm, okm, rq, hmo, hpc, hpm, hof, hrest⟩ := hRel
  have hz := hS.2.2.2.1
  obtain ⟨x, rfl, xa, xb⟩ := iI_ex x1
  by_cases hx : 0 ≤ x ∧ x ≤ 1
  · obtain ⟨i, rfl⟩ := Int.eq_ofNat_of_zero_le hx.1
    have hi : i < 2 := by omega
    obtain ⟨hTC, hTM, hI, ⟨n, t1, t2, t3, t4⟩, hF1, hF2⟩ := hrest
    have k187 : 187 + i ∈ moms := by rcases (show i = 0 ∨ i = 1 by omega) with q | q <;> subst q <;> decide
    let A := wR M 109 i r
    have hmA : MoC A 111 m := hm
    obtain ⟨M1, e1, hE1, hm1⟩ := c_Mom_copy (d + 78) (a := 187 + i) (b := 111) (M := A) k187 (by decide) (by omega) hmA
    have hEA : Eqx [109] M A := eqx_wR Eqx.rf (by simp)
    have hi1 : Eqx [187, 188] A M1 := hE1.mono (fun a ha => by simp only [List.mem_cons, List.not_mem_nil, or_false] at ha ⊢; omega)
    have hEc : Eqx [109, 187, 188] M M1 := (hEA.mono (by simp)).tr (hi1.mono (by simp))
    have x198 : (wI M1 197 0 (iI 0)).1 198 = M.1 198 := (wI_na (by decide)).trans (hEc 198 (by decide)).1
    obtain ⟨M2, e2, hE2, r2, s2⟩ := c_imageM (d + 79) (M := wI M1 197 0 (iI 0)) hi 971 0 _ (by omega) Eqx.rf (by funext q; exact (if_neg (by omega)).symm)
    rw [x198] at r2
    have hE3 : Eqx [197, 198, 199] M1 M2 := (eqx_wI Eqx.rf (by simp) : Eqx [197, 198, 199] M1 (wI M1 197 0 (iI 0))).tr (hE2.mono (by simp))
    have hE : Eqx [109, 187, 188, 197, 198, 199] M M2 := (hEc.mono (by simp)).tr (hE3.mono (by simp))
    have h7 : ∀ k, k ≠ 0 → gI M2 197 k = gI M 197 k := fun k hk => by
      rw [eqx_I hE2 (by decide), gI_nk hk, eqx_I hEc (by decide)]
    have g109 : ∀ j, j < 2 → gR M2 109 j = if j = i then r else gR M 109 j := fun j hj => by
      rw [eqx_R hE3 (by decide), eqx_R hi1 (by decide)]
      by_cases q : j = i
      · rw [if_pos q, q]; exact wR109_eq hi M r
      · rw [if_neg q]; exact wR109_ne hj q M r
    have g199 : ∀ j, gI M2 199 j = if j = i then iI 1 else gI M 199 j := fun j => by
      rw [gI, s2, wI_na (by decide), (hEc 199 (by decide)).1]; rfl
    have rq' : RowEq z (imgRow (M.1 198) i 971) := fun k hk => (imgRow_lo _ _ _ (by omega)).trans (rq k hk)
    refine ⟨iI 0, M1, M2, ?_, ?_, ⟨r, tm0, st, nx, nd, m, f, so, tn, tv, z, hS.fq hE (by intro a ha; simp only [List.mem_cons, List.not_mem_nil, or_false] at ha; omega), by omega, (eqx_R hE (by decide) 5).trans h5, hm.fr (hE 111 (by decide)).1, okm, by rw [r2]; exact rq', ?_, hpc.fr hE (by intro a ha; simp only [List.mem_cons, List.not_mem_nil, or_false] at ha; omega), ?_, hof, ?_, ?_, ?_, ?_, ?_⟩, (hE 0 (by decide)).1, (hE 1 (by decide)).1⟩
    · show X2 (d + 79) m_RW_image 0 [.ref 100, .int (iI i)] [] M = _
      rw [e_RW_image_0, if_neg (by rw [iI_lt0 (by omega) (by omega)]; omega), if_pos (by rw [iI_lt (by omega) (by omega) (by omega) (by omega)]; omega), inb_ok (by omega) (by omega) (by omega), h5, rm_k M r hS.1, show (((true || false || false) && true) = true) from rfl, gb_T, ix_nat (by omega), wR2_109 hi]
      show gb (false || true || false) (gb (isK O2 A (gR A 110 i) 13 && !false) (bV (c2 (d + 79) m_Mom_copy [.ref (gR A 110 i), .ref 111] A) fun M2 => some (.int (iI 0), M2))) = _
      rw [gR_110 hi, mm_k _ _ k187, tt_and, gb_T, show (false || true || false) = true from rfl, gb_T, e1, bV_some]
    · show X2 (d + 79) m_Mo_image 0 [.ref 197, .int (iI i), uns] [] M1 = _
      rw [e_Mo_image_0, c_Mo_within, bI_some, i2l_iI (by omega) (by omega), lI_toInt (by omega) (by omega), lI_toInt (by omega) (by omega), lI_toInt (by omega) (by omega), decide_eq_true hx, b2i_t, if_neg (show ¬ (iI 1 = 0) by decide)]
      exact e2
    · rw [r2]
      exact ⟨(imgRow_lo _ _ _ (by decide)).trans hmo.1, (imgRow_lo _ _ _ (by decide)).trans hmo.2.1, (imgRow_lo _ _ _ (by decide)).trans hmo.2.2.1, (imgRow_lo _ _ _ (by decide)).trans hmo.2.2.2⟩
    · rw [r2]
      have hnd := hpc.2.2.2.1
      refine ⟨(imgRow_lo _ _ _ (by decide)).trans hpm.1, fun j hj => ?_⟩
      have q := hpm.2 j hj
      exact ⟨(imgRow_lo _ _ _ (by omega)).trans q.1, (imgRow_lo _ _ _ (by omega)).trans q.2.1, (imgRow_lo _ _ _ (by omega)).trans q.2.2.1, (imgRow_lo _ _ _ (by omega)).trans q.2.2.2⟩
    · exact hTC.fr hE (by intro a ha; simp only [List.mem_cons, List.not_mem_nil, or_false] at ha; omega)
    · exact hTM.fr (hE 213 (by decide)).1 (hE 214 (by decide)).1 (hE 215 (by decide)).2.1
    · rw [r2]
      intro j hj
      rw [g199, g109 j hj]
      have hroom : ∀ ri zz, ri ∈ rooms → RoomR M ri zz → RoomR M2 ri zz := fun ri zz h1 h2 => h2.fr (fun a ha => (hE a (by
        have h3 := roomS_ge ha
        have h4 := rm_mod h1
        simp only [List.mem_cons, List.not_mem_nil, or_false]; omega)).1)
      by_cases q : j = i
      · subst q
        rw [if_pos rfl, if_pos rfl]
        have rz := rq_zim j rq
        refine Or.inr ⟨rfl, r, m, hS.1, rfl, hroom _ _ hS.1 (rq_room rz hz hS.2.2.1), rq_ok rz hz, MoC.fr hm1 (hE3 (187 + j) (by simp only [List.mem_cons, List.not_mem_nil, or_false]; omega)).1, ⟨(imgRow_in _ _ (by decide)).trans hmo.1, (imgRow_in _ _ (by decide)).trans hmo.2.1, (imgRow_in _ _ (by decide)).trans hmo.2.2.1, (imgRow_in _ _ (by decide)).trans hmo.2.2.2⟩, ⟨rq_oks rz okm.1, okm.2⟩⟩
      · rw [if_neg q, if_neg q]
        have ez : ∀ k, k < 971 → zim (imgRow (M.1 198) i 971) j k = zim (M.1 198) j k := fun k hk => by
          show imgRow (M.1 198) i 971 (971 * (j + 1) + k) = M.1 198 (971 * (j + 1) + k)
          exact if_neg (by omega)
        have rz : RowEq (zim (M.1 198) j) (zim (imgRow (M.1 198) i 971) j) := fun k hk => ez k (by omega)
        rcases hI j hj with w | ⟨w1, ri, mi, w2, w3, w4, w5, w6, w7, w8⟩
        · exact Or.inl w
        · refine Or.inr ⟨w1, ri, mi, w2, w3, hroom _ _ w2 (rq_room rz w5 w4), rq_ok rz w5, ?_, ⟨(ez 25 (by decide)).trans w7.1, (ez 26 (by decide)).trans w7.2.1, (ez 27 (by decide)).trans w7.2.2.1, (ez 28 (by decide)).trans w7.2.2.2⟩, ⟨rq_oks rz w8.1, w8.2⟩⟩
          have n1 : M1.1 (187 + j) = M.1 (187 + j) := ((hE1 (187 + j) (by simp only [List.mem_cons, List.not_mem_nil, or_false]; omega)).1)
          exact w6.fr (((hE3 (187 + j) (by simp only [List.mem_cons, List.not_mem_nil, or_false]; omega)).1).trans n1)
    · refine ⟨n, (eqx_I hE (by decide) 1).trans t1, (h7 5 (by decide)).trans t2, t3, fun k hk => ?_⟩
      rw [eqx_I hE (by decide), eqx_I hE (by decide)]
      exact t4 k hk
    · exact ⟨((eqx_I hE (by decide) 11).trans hF1).trans (h7 13 (by decide)).symm, ((eqx_I hE (by decide) 12).trans hF2).trans (h7 14 (by decide)).symm⟩
  · refine ⟨iI (-2), M, wI M 197 0 (iI 0), ?_, ?_, fin_same hRel0 (Eqx.rf : Eqx [] M M) (fun a ha => absurd ha (List.not_mem_nil)) (eqx_wI Eqx.rf (by simp) : Eqx [197] M _) (by intro a ha; simp only [List.mem_cons, List.not_mem_nil, or_false] at ha; omega) (fun k hk => by rw [gI_nk (by omega)]) (wI_na (by decide))⟩
    · show X2 (d + 79) m_RW_image 0 [.ref 100, .int (iI x)] [] M = _
      rw [e_RW_image_0]
      by_cases q : x < 0
      · rw [if_pos (by rw [iI_lt0 xa xb]; exact q)]
      · rw [if_neg (by rw [iI_lt0 xa xb]; exact q), if_neg (by rw [iI_lt xa xb (by omega) (by omega)]; omega)]
    · show X2 (d + 79) m_Mo_image 0 [.ref 197, .int (iI x), uns] [] M = _
      rw [e_Mo_image_0, c_Mo_within, bI_some, i2l_iI xa xb, lI_toInt (by omega) (by omega), lI_toInt (by omega) (by omega), lI_toInt (by omega) (by omega), decide_eq_false hx, b2i_f, if_pos (show iI 0 = 0 from rfl)]
