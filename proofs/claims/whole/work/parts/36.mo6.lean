/-! THE REFERENCE: the wall and the stand behind a night. -/
theorem iI_shl1 {k : Nat} (hk : k < 32) : iI 1 <<< (iI k &&& 31) = iI ((1 <<< k : Nat) : Int) := iI_shl 1 hk
theorem pow9 {n : Nat} (h : n ≤ 9) : 2 ^ n ≤ 512 := Nat.pow_le_pow_right (by decide) h
theorem mask_512 (p : Nat → Bool) {n : Nat} (h : n ≤ 9) : maskOf p n < 512 := Nat.lt_of_lt_of_le (maskOf_lt p n) (pow9 h)
theorem wallT_lt {z : Row} (hz : OkZ z) (tm w who bl : Nat) : wallT z tm w who bl < 512 := mask_512 _ (nz_le hz)
theorem wallT_lt2 (z : Row) (tm w who bl : Nat) : wallT z tm w who bl < 2 ^ nz z := maskOf_lt _ _
theorem c_Mo_rosesz (d : Nat) {M : Mem} (hz : OkZ (M.1 198)) : c2 (d + 1) m_Mo_roses [.ref 197] M = some (.int (iI (nz (M.1 198))), M) := by
  rw [c_Mo_roses, show gI M 198 1 = iI (zn (M.1 198) 1) from zn_eq hz.1.1 (by decide), show gI M 198 2 = iI (zn (M.1 198) 2) from zn_eq hz.1.2.1 (by decide), iI_mul, ← Int.natCast_mul]
  rfl
theorem c_Mo_wallThen (d : Nat) {M0 : Mem} {tm w who bl : Nat} (hz : OkZ (M0.1 198)) (ht : gI M0 198 27 = iI tm) (hw : w ≤ 2147483647) (hwho : who ≤ 4) :
    ∃ M', c2 (d + 4) m_Mo_wallThen [.ref 197, .int (iI w), .int (iI who), .int (iI bl)] M0 = some (.int (iI (wallT (M0.1 198) tm w who bl)), M') ∧ Eqx [202, 203] M0 M' := by
  show ∃ M', X2 (d + 3) m_Mo_wallThen 0 [.ref 197, .int (iI w), .int (iI who), .int (iI bl), uns, uns] [] M0 = _ ∧ _
  rw [e_Mo_wallThen_0]
  have h9 := nz_le hz
  have go : ∀ j k M, j + k = nz (M0.1 198) → Eqx [202, 203] M0 M → ∃ M', X2 (d + 3) m_Mo_wallThen 6 [.ref 197, .int (iI w), .int (iI who), .int (iI bl), .int (iI (maskOf (fun c => turnB (M0.1 198) tm c w who bl) k)), .int (iI k)] [] M = some (.int (iI (wallT (M0.1 198) tm w who bl)), M') ∧ Eqx [202, 203] M0 M' := by
    intro j
    induction j with
    | zero =>
      intro k M hk hM
      have hx : M.1 198 = M0.1 198 := (hM 198 (by decide)).1
      refine ⟨M, ?_, hM⟩
      rw [e_Mo_wallThen_6, c_Mo_rosesz _ (by rw [hx]; exact hz), bI_some, hx]
      simp (disch := omega) only [iI_add, iI_sub, iI_mul, iI_lt, iI_eq, iI_lt0, iI_0lt, iI_eq0, ix_iI, inb_ok, gb_t, Int.toNat_natCast]
      rw [if_neg (by omega), show k = nz (M0.1 198) by omega]
      rfl
    | succ j ih =>
      intro k M hk hM
      have hx : M.1 198 = M0.1 198 := (hM 198 (by decide)).1
      obtain ⟨M1, e1, hE⟩ := c_Mo_turnsThen d (M := M) (tm := tm) (c := k) (w := w) (who := who) (bl := bl) (by rw [hx]; exact hz) ((eqx_I hM (by decide) 27).trans ht) (by rw [hx]; omega) hw hwho
      rw [e_Mo_wallThen_6, c_Mo_rosesz _ (by rw [hx]; exact hz), bI_some, e1, bI_some, hx, iI_shl1 (by omega), show iI 0 = iI ((0 : Nat) : Int) from rfl, iI_or, iI_or]
      simp (disch := omega) only [iI_add, iI_sub, iI_mul, iI_lt, iI_eq, iI_lt0, iI_0lt, iI_eq0, ix_iI, inb_ok, gb_t, Int.toNat_natCast, iI_b_eq0]
      rw [if_pos (by omega)]
      have hs : ∀ b, turnB (M0.1 198) tm k w who bl = b → maskOf (fun c => turnB (M0.1 198) tm c w who bl) (k + 1) = maskOf (fun c => turnB (M0.1 198) tm c w who bl) k ||| (if b = true then 1 <<< k else 0) := fun b hb => by rw [maskOf, hb]
      have ihk := ih (k + 1) M1 (by omega) (hM.tr hE)
      by_cases hb : turnB (M0.1 198) tm k w who bl = false
      · rw [if_pos hb]
        rw [hs _ hb] at ihk
        exact ihk
      · rw [if_neg hb]
        rw [hs _ (eq_true_of_ne_false hb)] at ihk
        exact ihk
  exact go (nz (M0.1 198)) 0 M0 (by omega) Eqx.rf
/-- who can be in -/
def WhoOk (z : Row) (who : Nat) : Prop := who = 4 ∨ who < zn z 3
theorem WhoOk.le {z : Row} (hz : OkZ z) {who : Nat} (h : WhoOk z who) : who ≤ 4 := by
  have := zn_rng hz.1.2.2.1 (by decide)
  rcases h with h | h <;> omega
theorem c_Mo_standThen (d : Nat) {M : Mem} {tm s bl : Nat} (hz : OkZ (M.1 198)) (ht : gI M 198 27 = iI tm) (hs : s ≤ 2147483647) (hwho : WhoOk (M.1 198) (s % 5)) :
    ∃ M', c2 (d + 5) m_Mo_standThen [.ref 197, .int (iI s), .int (iI bl)] M = some (.int (iI (nxt (M.1 198) tm s bl)), M') ∧ Eqx [202, 203] M M' := by
  show ∃ M', X2 (d + 4) m_Mo_standThen 0 [.ref 197, .int (iI s), .int (iI bl), uns, uns] [] M = _ ∧ _
  obtain ⟨M1, e1, hE1⟩ := c_Mo_wallThen d (M0 := M) (tm := tm) (w := s / 5) (who := s % 5) (bl := bl) hz ht (by omega) (by omega)
  have hx : M1.1 198 = M.1 198 := (hE1 198 (by decide)).1
  have hwl := wallT_lt hz tm (s / 5) (s % 5) bl
  have so : ∀ (k : Nat) (X : Mem), (bI (c2 (d + 4) m_Mo_standOf [.int (iI (wallT (M.1 198) tm (s / 5) (s % 5) bl)), .int (iI k)] X) fun r4 M3 => some (.int r4, M3)) = some (.int (iI ((5 * wallT (M.1 198) tm (s / 5) (s % 5) bl + k : Nat) : Int)), X) := fun k X => by
    rw [c_Mo_standOf, bI_some, iI_mul, iI_add]; rfl
  rw [e_Mo_standThen_0, show iI 5 = iI ((5 : Nat) : Int) from rfl, iI_div hs (by decide), iI_rem hs (by decide), e1, bI_some, so]
  have e4 : (iI ((s % 5 : Nat) : Int) = iI 4) = (s % 5 = 4) := by
    rw [iI_eq (by omega) (by omega) (by decide) (by decide)]; exact propext (by omega)
  simp only [e4]
  by_cases h4 : s % 5 = 4
  · rw [if_pos h4]
    exact ⟨M1, by rw [nxt, whoT, if_neg (fun h => h.1 h4)], hE1⟩
  · rw [if_neg h4]
    obtain ⟨M2, e2, hE2⟩ := c_Mo_goesBy (d + 1) (M := M1) (t := s % 5) (w := wallT (M.1 198) tm (s / 5) (s % 5) bl) (bl := bl) (by rw [hx]; exact hz) (by rw [hx]; rcases hwho with h | h; exact absurd h h4; exact h) (by omega)
    rw [e2, bI_some, hx, so, show iI 4 = iI ((4 : Nat) : Int) from rfl, so]
    simp only [iI_b_eq0]
    refine ⟨M2, ?_, hE1.tr hE2⟩
    by_cases hg : goB (M.1 198) (s % 5) (wallT (M.1 198) tm (s / 5) (s % 5) bl) bl = false
    · rw [if_pos hg, nxt, whoT, if_neg (fun h => by rw [hg] at h; exact absurd h.2 (by decide))]
    · rw [if_neg hg, nxt, whoT, if_pos ⟨h4, eq_true_of_ne_false hg⟩]
