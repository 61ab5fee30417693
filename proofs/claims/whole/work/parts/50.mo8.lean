/-! THE REFERENCE: small questions; stands that can be. -/
def OkS (z : Row) (s : Nat) : Prop := s / 5 < 2 ^ nz z ∧ WhoOk z (s % 5)
theorem OkS.lt {z : Row} (hz : OkZ z) {s : Nat} (h : OkS z s) : s < 5 * 2 ^ nz z ∧ s < 2560 ∧ s / 5 < 512 := by
  have := pow9 (nz_le hz)
  have := h.1
  omega
theorem nxt_ok {z : Row} (hz : OkZ z) (tm : Nat) {s : Nat} (h : OkS z s) (bl : Nat) : OkS z (nxt z tm s bl) := by
  have h4 : whoT z (wallT z tm (s / 5) (s % 5) bl) (s % 5) bl < 5 := by
    unfold whoT; split <;> omega
  have h5 : nxt z tm s bl / 5 = wallT z tm (s / 5) (s % 5) bl := by unfold nxt; omega
  have h6 : nxt z tm s bl % 5 = whoT z (wallT z tm (s / 5) (s % 5) bl) (s % 5) bl := by unfold nxt; omega
  refine ⟨by rw [h5]; exact wallT_lt2 _ _ _ _ _, ?_⟩
  rw [h6, whoT]
  split
  · exact Or.inl rfl
  · exact h.2
theorem thn_ok {z : Row} {tm s bl : Nat} (h : OkS z s) : thn z tm s bl = nxt z tm s bl := if_pos h.2
theorem c_Mo_isRose (d : Nat) {M : Mem} (hz : OkZ (M.1 198)) (x : Int64) : c2 (d + 2) m_Mo_isRose [.ref 197, .long x] M = some (.int (iI (b2i (decide (0 ≤ x.toInt ∧ x.toInt < nz (M.1 198))))), M) := by
  show X2 (d + 1) m_Mo_isRose 0 [.ref 197, .long x, mk2] [] M = _
  have h9 := nz_le hz
  rw [e_Mo_isRose_0, c_Mo_rosesz _ hz, bI_some, c_Mo_within, bI_some, f_b2i, iI_sub, i2l_iI (by omega) (by omega), lI_toInt (by omega) (by omega), lI_toInt (by omega) (by omega)]
  have e : decide ((0 : Int) ≤ x.toInt ∧ x.toInt ≤ (nz (M.1 198) : Int) - 1) = decide (0 ≤ x.toInt ∧ x.toInt < nz (M.1 198)) := decide_eq_decide.mpr (by omega)
  rw [e]
theorem c_Mo_isTenant (d : Nat) {M : Mem} (hz : OkZ (M.1 198)) (x : Int64) : c2 (d + 2) m_Mo_isTenant [.ref 197, .long x] M = some (.int (iI (b2i (decide (0 ≤ x.toInt ∧ x.toInt < zn (M.1 198) 3)))), M) := by
  show X2 (d + 1) m_Mo_isTenant 0 [.ref 197, .long x, mk2] [] M = _
  have h3 := zn_rng hz.1.2.2.1 (by decide)
  rw [e_Mo_isTenant_0, show gI M 198 3 = iI (zn (M.1 198) 3) from zn_eq hz.1.2.2.1 (by decide), c_Mo_within, bI_some, f_b2i, iI_sub, i2l_iI (by omega) (by omega), lI_toInt (by omega) (by omega), lI_toInt (by omega) (by omega)]
  have e : decide ((0 : Int) ≤ x.toInt ∧ x.toInt ≤ (zn (M.1 198) 3 : Int) - 1) = decide (0 ≤ x.toInt ∧ x.toInt < zn (M.1 198) 3) := decide_eq_decide.mpr (by omega)
  rw [e]
theorem c_Mo_isWall (d : Nat) {M : Mem} (hz : OkZ (M.1 198)) (x : Int64) : c2 (d + 2) m_Mo_isWall [.ref 197, .long x] M = some (.int (iI (b2i (decide (0 ≤ x.toInt ∧ x.toInt < ((2 ^ nz (M.1 198) : Nat) : Int))))), M) := by
  show X2 (d + 1) m_Mo_isWall 0 [.ref 197, .long x, mk2] [] M = _
  have h9 := nz_le hz
  have hpw := pow9 h9
  have hp1 : 1 ≤ 2 ^ nz (M.1 198) := Nat.one_le_two_pow
  rw [e_Mo_isWall_0, c_Mo_rosesz _ hz, bI_some, iI_shl1 (by omega), Nat.one_shiftLeft]
  generalize 2 ^ nz (M.1 198) = q at *
  rw [c_Mo_within, bI_some, f_b2i, iI_sub, i2l_iI (by omega) (by omega), lI_toInt (by omega) (by omega), lI_toInt (by omega) (by omega)]
  have e : decide ((0 : Int) ≤ x.toInt ∧ x.toInt ≤ (q : Int) - 1) = decide (0 ≤ x.toInt ∧ x.toInt < (q : Int)) := decide_eq_decide.mpr (by omega)
  rw [e]
