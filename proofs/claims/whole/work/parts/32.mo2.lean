/-! THE REFERENCE: neighbours, and what is within. -/
theorem lI_of_nat (n : Nat) : lI n = Int64.ofNat n := Int64.ofInt_eq_ofNat
theorem lI_bv (n : Nat) : (lI n).toBitVec = BitVec.ofNat 64 n := by rw [lI_of_nat]; rfl
theorem lI_and (a b : Nat) : lI a &&& lI b = lI ((a &&& b : Nat) : Int) := by
  apply Int64.toBitVec_inj.mp
  rw [Int64.toBitVec_and, lI_bv, lI_bv, lI_bv, BitVec.ofNat_and]
theorem lI_or (a b : Nat) : lI a ||| lI b = lI ((a ||| b : Nat) : Int) := by
  apply Int64.toBitVec_inj.mp
  rw [Int64.toBitVec_or, lI_bv, lI_bv, lI_bv, BitVec.ofNat_or]
theorem sh_amtL : ∀ k : Nat, k < 64 → (((iI (k : Int)).toInt64 &&& 63).toBitVec.smod 64).toNat = k := by decide +kernel
theorem lI_shr {a : Nat} (ha : a < 9223372036854775808) {k : Nat} (hk : k < 64) : lI a >>> ((iI k).toInt64 &&& 63) = lI ((a >>> k : Nat) : Int) := by
  apply Int64.toBitVec_inj.mp
  rw [Int64.toBitVec_shiftRight, lI_bv, lI_bv]
  show (BitVec.ofNat 64 a).sshiftRight (((iI (k : Int)).toInt64 &&& 63).toBitVec.smod 64).toNat = _
  rw [sh_amtL k hk, BitVec.sshiftRight_eq_of_msb_false (by rw [BitVec.msb_eq_false_iff_two_mul_lt, BitVec.toNat_ofNat]; omega)]
  apply BitVec.eq_of_toNat_eq
  have h2 : a >>> k ≤ a := Nat.shiftRight_le a k
  rw [BitVec.toNat_ushiftRight, BitVec.toNat_ofNat, BitVec.toNat_ofNat, Nat.mod_eq_of_lt (by omega), Nat.mod_eq_of_lt (by omega)]
theorem lI_shl (a : Nat) {k : Nat} (hk : k < 64) : lI a <<< ((iI k).toInt64 &&& 63) = lI ((a <<< k : Nat) : Int) := by
  apply Int64.toBitVec_inj.mp
  rw [Int64.toBitVec_shiftLeft, lI_bv, lI_bv]
  show BitVec.ofNat 64 a <<< (((iI (k : Int)).toInt64 &&& 63).toBitVec.smod 64).toNat = _
  rw [sh_amtL k hk]
  apply BitVec.eq_of_toNat_eq
  rw [BitVec.toNat_shiftLeft, BitVec.toNat_ofNat, BitVec.toNat_ofNat, Nat.shiftLeft_eq, Nat.shiftLeft_eq, Nat.mod_mul_mod]
theorem shr_bit (w k : Nat) : (w >>> k) &&& 1 = (if w.testBit k then 1 else 0) := by
  rw [Nat.testBit, Nat.and_comm, Nat.one_and_eq_mod_two]
  have h := Nat.mod_two_eq_zero_or_one (w >>> k)
  rcases h with h | h <;> simp [h]
theorem lI_bit {w k : Nat} (hw : w < 9223372036854775808) (hk : k < 64) : (lI w >>> ((iI k).toInt64 &&& 63)) &&& lI 1 = lI ((if w.testBit k then 1 else 0 : Nat) : Int) := by
  rw [lI_shr hw hk, show lI 1 = lI ((1 : Nat) : Int) from rfl, lI_and, shr_bit]
theorem c_Mo_isIn (d : Nat) {w k : Nat} (hw : w ≤ 2147483647) (hk : k < 64) (M : Mem) : c2 (d + 1) m_Mo_isIn [.long (lI w), .int (iI k)] M = some (.int (iI (b2i (w.testBit k))), M) := by
  show X2 d m_Mo_isIn 0 [.long (lI w), mk2, .int (iI k)] [] M = _
  rw [e_Mo_isIn_0, lI_bit (by omega) hk]
  simp only [cmp_eq]
  cases h : w.testBit k
  · rw [if_neg (by decide)]; rfl
  · rw [if_pos rfl]; rfl
/-- the rose k is a neighbour of c, in rows of W -/
def nbr (W c k : Nat) : Bool := decide (k ≠ c) && (decide (-1 ≤ ((k / W : Nat) : Int) - ((c / W : Nat) : Int) ∧ ((k / W : Nat) : Int) - ((c / W : Nat) : Int) ≤ 1) && decide (-1 ≤ ((k % W : Nat) : Int) - ((c % W : Nat) : Int) ∧ ((k % W : Nat) : Int) - ((c % W : Nat) : Int) ≤ 1))
def near (n W c w : Nat) : Nat := cnt (fun k => w.testBit k && nbr W c k) n
theorem iI_ne0 {W : Nat} (h : 1 ≤ W) (h2 : W ≤ 2147483647) : iI W ≠ 0 := by
  rw [Ne, iI_eq0 (by omega) (by omega)]; omega
theorem gb_nz {α : Type} {a : Int32} (h : a ≠ 0) (x : Option α) : gb (!(decide (a = 0))) x = x := by
  rw [decide_eq_false h]; rfl
theorem b2i_and (a b : Bool) : b2i (a && b) = b2i a * b2i b := by cases a <;> cases b <;> rfl
theorem c_Mo_nearOf (d : Nat) {M : Mem} {R W c w : Nat} (h1 : gI M 198 1 = iI R) (h2 : gI M 198 2 = iI W) (hR : R ≤ 3) (hW : W ≤ 3) (hW1 : 1 ≤ W) (hw : w ≤ 2147483647) (hc : c ≤ 9) :
    c2 (d + 2) m_Mo_nearOf [.ref 197, .int (iI c), .int (iI w)] M = some (.int (iI (near (R * W) W c w)), M) := by
  show X2 (d + 1) m_Mo_nearOf 0 [.ref 197, .int (iI c), .int (iI w), uns, uns, uns, uns] [] M = _
  rw [e_Mo_nearOf_0]
  have hn : R * W ≤ 9 := Nat.mul_le_mul hR hW
  have go : ∀ j k v5 v6, j + k = R * W → X2 (d + 1) m_Mo_nearOf 5 [.ref 197, .int (iI c), .int (iI w), .int (iI (cnt (fun k => w.testBit k && nbr W c k) k)), .int (iI k), v5, v6] [] M = some (.int (iI (near (R * W) W c w)), M) := by
    intro j
    induction j with
    | zero =>
      intro k v5 v6 hk
      rw [e_Mo_nearOf_5, c_Mo_roses, bI_some, h1, h2, iI_mul, ← Int.natCast_mul]
      simp (disch := omega) only [iI_add, iI_sub, iI_mul, iI_lt, iI_eq, iI_lt0, iI_0lt, iI_eq0, ix_iI, inb_ok, gb_t, Int.toNat_natCast]
      rw [if_neg (by omega), show k = R * W by omega]
      rfl
    | succ j ih =>
      intro k v5 v6 hk
      have q1 : cnt (fun k => w.testBit k && nbr W c k) k ≤ k := cnt_le _ _
      have e1 : iI k / iI W = iI ((k / W : Nat) : Int) := iI_div (by omega) (by omega)
      have e2 : iI c / iI W = iI ((c / W : Nat) : Int) := iI_div (by omega) (by omega)
      have e3 : irm (iI k) (iI W) = iI ((k % W : Nat) : Int) := iI_rem (by omega) (by omega)
      have e4 : irm (iI c) (iI W) = iI ((c % W : Nat) : Int) := iI_rem (by omega) (by omega)
      have b1 := Nat.div_le_self k W
      have b2 := Nat.div_le_self c W
      have b5 : (0 : Int) ≤ ((k / W : Nat) : Int) := Int.natCast_nonneg _
      have b6 : (0 : Int) ≤ ((c / W : Nat) : Int) := Int.natCast_nonneg _
      have b3 := Nat.mod_le k W
      have b4 := Nat.mod_le c W
      have hx : cnt (fun k => w.testBit k && nbr W c k) (k + 1) = cnt (fun k => w.testBit k && nbr W c k) k + (if w.testBit k && nbr W c k then 1 else 0) := rfl
      have i0 : ∀ v5 v6, (w.testBit k && nbr W c k) = false → X2 (d + 1) m_Mo_nearOf 5 [.ref 197, .int (iI c), .int (iI w), .int (iI (cnt (fun k => w.testBit k && nbr W c k) k + 0)), .int (iI (k + 1)), v5, v6] [] M = some (.int (iI (near (R * W) W c w)), M) := by
        intro v5 v6 hb
        have := ih (k + 1) v5 v6 (by omega)
        rw [hx, hb] at this
        exact this
      rw [e_Mo_nearOf_5, c_Mo_roses, bI_some, h1, h2, iI_mul, ← Int.natCast_mul, e1, e2, e3, e4]
      simp only [gb_nz (iI_ne0 hW1 (by omega))]
      rw [i2l_iI (by omega) (by omega)]
      simp (disch := omega) only [iI_add, iI_sub, iI_mul, iI_lt, iI_eq, iI_lt0, iI_0lt, iI_eq0, ix_iI, inb_ok, gb_t, Int.toNat_natCast, c_Mo_isIn, c_Mo_within, bI_some, i2l_iI, lI_toInt, iI_b_eq0]
      rw [if_pos (by omega)]
      by_cases hkc : (k : Int) = c
      · rw [if_pos hkc]
        exact i0 _ _ (by rw [nbr, decide_eq_false (show ¬ k ≠ c by omega), Bool.false_and, Bool.and_false])
      · rw [if_neg hkc]
        have hkc' : decide (k ≠ c) = true := decide_eq_true (by omega)
        by_cases ht : w.testBit k = false
        · rw [if_pos ht]
          exact i0 _ _ (by rw [ht, Bool.false_and])
        · rw [if_neg ht]
          by_cases h3 : decide (-1 ≤ ((k / W : Nat) : Int) - ((c / W : Nat) : Int) ∧ ((k / W : Nat) : Int) - ((c / W : Nat) : Int) ≤ 1) = false
          · rw [if_pos h3]
            exact i0 _ _ (by rw [nbr, h3, Bool.false_and, Bool.and_false, Bool.and_false])
          · rw [if_neg h3]
            by_cases h4 : decide (-1 ≤ ((k % W : Nat) : Int) - ((c % W : Nat) : Int) ∧ ((k % W : Nat) : Int) - ((c % W : Nat) : Int) ≤ 1) = false
            · rw [if_pos h4]
              exact i0 _ _ (by rw [nbr, h4, Bool.and_false, Bool.and_false, Bool.and_false])
            · rw [if_neg h4]
              have := ih (k + 1) (.int (iI (((k / W : Nat) : Int) - ((c / W : Nat) : Int)))) (.int (iI (((k % W : Nat) : Int) - ((c % W : Nat) : Int)))) (by omega)
              rw [hx, nbr, hkc', eq_true_of_ne_false ht, eq_true_of_ne_false h3, eq_true_of_ne_false h4] at this
              exact this
  exact go (R * W) 0 _ _ (by omega)
