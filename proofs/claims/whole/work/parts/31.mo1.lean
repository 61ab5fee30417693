/-! THE REFERENCE, its small methods. -/
theorem lI_toInt {z : Int} (h1 : -9223372036854775808 ≤ z) (h2 : z ≤ 9223372036854775807) : (lI z).toInt = z := Int64.toInt_ofInt_of_le (by omega) (by omega)
theorem lI_self (x : Int64) : lI x.toInt = x := Int64.ofInt_toInt x
theorem i2l_iI {z : Int} (h1 : -2147483648 ≤ z) (h2 : z ≤ 2147483647) : (iI z).toInt64 = lI z := by
  apply Int64.toInt_inj.mp
  rw [Int32.toInt_toInt64, iI_toInt h1 h2, lI_toInt (by omega) (by omega)]
theorem cmp_lt {x y : Int64} : (lg_cmp x y < 0) = (x.toInt < y.toInt) := by
  unfold lg_cmp
  simp only [gt_iff_lt, Int64.lt_iff_toInt_lt, ← Int64.toInt_inj]
  split
  · simp; omega
  · split
    · simp; omega
    · simp; omega
theorem cmp_gt {x y : Int64} : (0 < lg_cmp x y) = (y.toInt < x.toInt) := by
  unfold lg_cmp
  simp only [gt_iff_lt, Int64.lt_iff_toInt_lt, ← Int64.toInt_inj]
  split
  · rename_i h; simp [h]
  · rename_i h
    split
    · simp [h]
    · simp [h]
theorem cmp_eq {x y : Int64} : (lg_cmp x y = 0) = (x = y) := by
  unfold lg_cmp
  simp only [gt_iff_lt, Int64.lt_iff_toInt_lt, ← Int64.toInt_inj]
  split
  · simp; omega
  · split
    · rename_i h; simp [h]
    · rename_i h; simp [h]
def b2i (b : Bool) : Int := if b then 1 else 0
theorem b2i_t : b2i true = 1 := rfl
theorem b2i_f : b2i false = 0 := rfl
theorem b2i_01 (b : Bool) : b2i b = 0 ∨ b2i b = 1 := by cases b <;> simp [b2i]
theorem iI_b_and (b : Bool) : (iI (b2i b) &&& 1 = iI (b2i b)) := by cases b <;> decide
theorem iI_b_eq0 (b : Bool) : (iI (b2i b) = 0) = (b = false) := by cases b <;> simp [b2i] <;> decide
theorem c_Mo_within (d : Nat) (x y z : Int64) (M : Mem) : c2 (d + 1) m_Mo_within [.long x, .long y, .long z] M = some (.int (iI (b2i (decide (y.toInt ≤ x.toInt ∧ x.toInt ≤ z.toInt)))), M) := by
  show X2 d m_Mo_within 0 [.long x, mk2, .long y, mk2, .long z, mk2] [] M = _
  rw [e_Mo_within_0]
  simp only [cmp_lt, cmp_gt]
  split
  · rw [decide_eq_false (by omega)]; rfl
  · split
    · rw [decide_eq_false (by omega)]; rfl
    · rw [decide_eq_true (by omega)]; rfl
theorem c_Mo_isBlind (d : Nat) (x : Int64) (M : Mem) : c2 (d + 2) m_Mo_isBlind [.long x] M = some (.int (iI (b2i (decide (0 ≤ x.toInt ∧ x.toInt ≤ 1)))), M) := by
  show X2 (d + 1) m_Mo_isBlind 0 [.long x, mk2] [] M = _
  rw [e_Mo_isBlind_0, c_Mo_within, bI_some, f_gb (decide_eq_true (iI_b_and _)), lI_toInt (by decide) (by decide), lI_toInt (by decide) (by decide)]
theorem c_Mo_roses (d : Nat) (M : Mem) : c2 (d + 1) m_Mo_roses [.ref 197] M = some (.int (gI M 198 1 * gI M 198 2), M) := e_Mo_roses_0 d M
theorem c_Mo_standOf (d : Nat) (x y : Int32) (M : Mem) : c2 (d + 1) m_Mo_standOf [.int x, .int y] M = some (.int (iI 5 * x + y), M) := e_Mo_standOf_0 d x y M
theorem c_Mo_standNow (d : Nat) (M : Mem) : c2 (d + 2) m_Mo_standNow [.ref 197] M = some (.int (iI 5 * gI M 198 25 + gI M 198 26), M) := by
  show X2 (d + 1) m_Mo_standNow 0 [.ref 197] [] M = _
  rw [e_Mo_standNow_0, c_Mo_standOf]
  rfl
theorem c_Mo_isGone (d : Nat) (n : Nat) (hn : n ≤ 2147483647) (M : Mem) : c2 (d + 1) m_Mo_isGone [.int (iI n)] M = some (.int (iI (b2i (decide (n % 5 = 4)))), M) := by
  show X2 d m_Mo_isGone 0 [.int (iI n)] [] M = _
  rw [e_Mo_isGone_0, show iI 5 = iI ((5 : Nat) : Int) from rfl, iI_rem hn (by decide)]
  simp (disch := omega) only [iI_add, iI_sub, iI_mul, iI_lt, iI_eq, iI_lt0, iI_0lt, iI_eq0, ix_iI, inb_ok, gb_t, Int.toNat_natCast]
  split
  · rename_i h; rw [decide_eq_true (by omega)]; rfl
  · rename_i h; rw [decide_eq_false (by omega)]; rfl
/-- how many of the first n have a property -/
def cnt (p : Nat → Bool) : Nat → Nat
  | 0 => 0
  | n + 1 => cnt p n + (if p n then 1 else 0)
theorem cnt_le (p : Nat → Bool) (n : Nat) : cnt p n ≤ n := by
  induction n with
  | zero => exact Nat.le_refl 0
  | succ n ih => unfold cnt; split <;> omega
theorem iI_bit {w k : Nat} (hw : w ≤ 2147483647) (hk : k < 32) : (iI w >>> (iI k &&& 31)) &&& iI 1 = iI ((if w.testBit k then 1 else 0 : Nat) : Int) := by
  rw [iI_shr hw hk, show iI 1 = iI ((1 : Nat) : Int) from rfl, iI_and]
  congr 2
  rw [Nat.testBit, Nat.and_comm]
  have h := Nat.mod_two_eq_zero_or_one (w >>> k)
  rw [Nat.one_and_eq_mod_two]
  rcases h with h | h <;> simp [h]
/-- how many bits are set, of the first ten -/
def bits (w : Nat) : Nat := cnt (fun k => w.testBit k) 10
theorem c_Mo_bitsOf (d : Nat) (w : Nat) (hw : w ≤ 2147483647) (M : Mem) : c2 (d + 1) m_Mo_bitsOf [.int (iI w)] M = some (.int (iI (bits w)), M) := by
  show X2 d m_Mo_bitsOf 0 [.int (iI w), uns, uns] [] M = _
  rw [e_Mo_bitsOf_0]
  have go : ∀ j k, j + k = 10 → X2 d m_Mo_bitsOf 4 [.int (iI w), .int (iI (cnt (fun k => w.testBit k) k)), .int (iI k)] [] M = some (.int (iI (bits w)), M) := by
    intro j
    induction j with
    | zero =>
      intro k hk
      rw [e_Mo_bitsOf_4]
      simp (disch := omega) only [iI_add, iI_sub, iI_mul, iI_lt, iI_eq, iI_lt0, iI_0lt, iI_eq0, ix_iI, inb_ok, gb_t, Int.toNat_natCast]
      rw [if_neg (by omega), show k = 10 by omega]
      rfl
    | succ j ih =>
      intro k hk
      rw [e_Mo_bitsOf_4, iI_bit hw (by omega)]
      simp (disch := omega) only [iI_add, iI_sub, iI_mul, iI_lt, iI_eq, iI_lt0, iI_0lt, iI_eq0, ix_iI, inb_ok, gb_t, Int.toNat_natCast]
      rw [if_pos (by omega)]
      exact ih (k + 1) (by omega)
  exact go 10 0 rfl
