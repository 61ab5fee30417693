/-! THE CLASS: small questions of a room; whether one goes. -/
theorem iI_0 : iI 0 = (0 : Int32) := rfl
theorem x_lt0 (x : Int32) : (x < 0) = (x.toInt < 0) := by rw [Int32.lt_iff_toInt_lt]; rfl
theorem x_lt {x : Int32} {n : Int} (h1 : -2147483648 ≤ n) (h2 : n ≤ 2147483647) : (x < iI n) = (x.toInt < n) := by rw [Int32.lt_iff_toInt_lt, iI_toInt h1 h2]
theorem c_Room_hasTenant (d : Nat) {M : Mem} {r : Nat} {z : Row} (hr : r ∈ rooms) (hR : RoomR M r z) (hz : OkZ z) (x : Int32) : c2 (d + 1) m_Room_hasTenant [.ref r, .int x] M = some (.int (iI (b2i (decide (0 ≤ x.toInt ∧ x.toInt < zn z 3)))), M) := by
  show X2 d m_Room_hasTenant 0 [.ref r, .int x] [] M = _
  have h3 := zn_rng hz.1.2.2.1 (by decide)
  rw [e_Room_hasTenant_0, rm_k _ r hr, gb_T, show gI M r 3 = iI (zn z 3) from hR.1.2.2.2.1.trans (zn_eq hz.1.2.2.1 (by decide))]
  simp only [x_lt0, x_lt (show (-2147483648 : Int) ≤ zn z 3 by omega) (show (zn z 3 : Int) ≤ 2147483647 by omega), x_lt (show (-2147483648 : Int) ≤ 4 by decide) (show (4 : Int) ≤ 2147483647 by decide)]
  by_cases h1 : x.toInt < 0
  · rw [if_pos h1, decide_eq_false (by omega)]; rfl
  · rw [if_neg h1]
    by_cases h2 : x.toInt < zn z 3
    · rw [if_pos h2, if_pos (by omega), decide_eq_true (by omega)]; rfl
    · rw [if_neg h2, decide_eq_false (by omega)]; rfl
theorem c_Room_hasRose (d : Nat) {M : Mem} {r : Nat} {z : Row} (hr : r ∈ rooms) (hR : RoomR M r z) (hz : OkZ z) (x : Int32) : c2 (d + 1) m_Room_hasRose [.ref r, .int x] M = some (.int (iI (b2i (decide (0 ≤ x.toInt ∧ x.toInt < nz z)))), M) := by
  show X2 d m_Room_hasRose 0 [.ref r, .int x] [] M = _
  have h3 := nz_le hz
  rw [e_Room_hasRose_0, rm_k _ r hr, gb_T, hR.1.2.2.1]
  simp only [x_lt0, x_lt (show (-2147483648 : Int) ≤ nz z by omega) (show (nz z : Int) ≤ 2147483647 by omega), x_lt (show (-2147483648 : Int) ≤ 9 by decide) (show (9 : Int) ≤ 2147483647 by decide)]
  by_cases h1 : x.toInt < 0
  · rw [if_pos h1, decide_eq_false (by omega)]; rfl
  · rw [if_neg h1]
    by_cases h2 : x.toInt < nz z
    · rw [if_pos h2, if_pos (by omega), decide_eq_true (by omega)]; rfl
    · rw [if_neg h2, decide_eq_false (by omega)]; rfl
theorem c_RW_isBlind (d : Nat) (x : Int32) (M : Mem) : c2 (d + 1) m_RW_isBlind [.int x] M = some (.int (iI (b2i (decide (0 ≤ x.toInt ∧ x.toInt ≤ 1)))), M) := by
  show X2 d m_RW_isBlind 0 [.int x] [] M = _
  rw [e_RW_isBlind_0]
  by_cases h0 : x = 0
  · rw [if_pos h0, h0]; rfl
  · rw [if_neg h0]
    have n0 : x.toInt ≠ 0 := fun h => h0 (Int32.toInt_inj.mp h)
    by_cases h1 : x = iI 1
    · rw [if_pos h1, h1]; rfl
    · rw [if_neg h1]
      have n1 : x.toInt ≠ 1 := fun h => h1 (Int32.toInt_inj.mp h)
      rw [decide_eq_false (by omega)]; rfl
theorem and511 {w : Nat} (h : w < 512) : iI w &&& iI 511 = iI w := by
  rw [show iI 511 = iI ((511 : Nat) : Int) from rfl, iI_and, show (511 : Nat) = 2 ^ 9 - 1 from rfl, Nat.and_two_pow_sub_one_eq_mod, Nat.mod_eq_of_lt h]
def goT (z : Row) (t w bl : Nat) : Bool := decide (t < zn z 3) && goB z t w bl
theorem c_Stp_isGoing (d : Nat) {M : Mem} {r : Nat} {z : Row} {t w bl : Nat} (hr : r ∈ rooms) (h0 : gR M 127 0 = r) (hR : RoomR M r z) (hz : OkZ z) (ht : t < 5) (hw : w < 512) (hbl : bl < 2) (hG : GoC M z) :
    ∃ M', c2 (d + 3) m_Stp_isGoing [.ref 127, .int (iI w), .int (iI t), .int (iI bl)] M = some (.int (iI (b2i (goT z t w bl))), M') ∧ Eqx [129, 130, r + 9] M M' ∧ GoC M' z := by
  show ∃ M', X2 (d + 2) m_Stp_isGoing 0 [.ref 127, .int (iI w), .int (iI t), .int (iI bl), uns, uns, uns] [] M = _ ∧ _
  have hrl := rm_lt r hr
  have h3 := zn_rng hz.1.2.2.1 (by decide)
  have h4 := zn_rng hz.1.2.2.2.1 (by decide)
  have b0 := bits_le w
  rw [e_Stp_isGoing_0, h0, rm_ok r hr, gb_T, if_neg (by omega), rm_k _ r hr, tt_and, gb_T, c_Room_hasTenant _ hr hR hz, bI_some, iI_toInt (by omega) (by omega)]
  by_cases hT : t < zn z 3
  · rw [decide_eq_true (show (0 : Int) ≤ t ∧ (t : Int) < zn z 3 by omega), b2i_t, if_neg (by decide), c_RW_isBlind, bI_some, iI_toInt (by omega) (by omega), decide_eq_true (show (0 : Int) ≤ bl ∧ (bl : Int) ≤ 1 by omega), b2i_t, if_neg (by decide), and511 hw, c_Int_bitCount _ hw, bI_some, h0, rm_k _ r hr, gb_T, rm_14 _ r hr, rm_k7 _ r hr, tt_and, gb_T, c_Lw_isTold _ (rm_l7 r hr), bI_some, told_iff hR.2.2.2.2.2 hz.2.2.2.2, h0, rm_k _ r hr, gb_T, rm_12 _ r hr, rm_a3 _ r hr, bb_f, rm_t3 _ _ r hr, inb_ok (by omega) (by omega) (by omega), gb_T, ix_nat (by omega), gb_T, gb_T]
    have eg : goT z t w bl = goB z t w bl := by rw [goT, decide_eq_true hT, Bool.true_and]
    rw [eg]
    have e21 : gI M (r + 3) t = iI (zn z (21 + t)) := (hR.2.2.2.1 t hT).trans (zn_eq (hz.2.2.1 t hT) (by decide))
    have r21 := zn_rng (hz.2.2.1 t hT) (by decide)
    have e6 : gI M r 6 = iI (zn z 4) := hR.1.2.2.2.2.1.trans (zn_eq hz.1.2.2.2.1 (by decide))
    simp only [iI_b_eq0]
    by_cases h7 : z 7 = 0
    · rw [if_pos (decide_eq_false (fun h => h h7)), e21]
      refine ⟨M, ?_, Eqx.rf, hG⟩
      rw [goB, if_pos h7]
      simp (disch := omega) only [iI_add, iI_sub, iI_mul, iI_lt, iI_eq, iI_lt0, iI_0lt, iI_eq0, ix_iI, inb_ok, gb_t, Int.toNat_natCast]
      split
      · rw [decide_eq_true (by omega)]; rfl
      · rw [decide_eq_false (by omega)]; rfl
    · rw [if_neg (fun q => absurd (of_decide_eq_false q) (fun h => h h7)), e6, goB_V]
      have g0 := c_going100 d (M := M) (r := r) (z := z) (t := t) (bl := bl) (all := bits w) (fc := 0) (.int (iI w)) uns uns hr h0 hR hz hT hbl b0 (by decide) h7 hG
      have g1 := c_going100 d (M := M) (r := r) (z := z) (t := t) (bl := bl) (all := bits w) (fc := 1) (.int (iI w)) uns uns hr h0 hR hz hT hbl b0 (by decide) h7 hG
      rw [iI_mul] at g0 g1
      simp (disch := omega) only [iI_add, iI_sub, iI_mul, iI_lt, iI_eq, iI_lt0, iI_0lt, iI_eq0, ix_iI, inb_ok, gb_t, Int.toNat_natCast]
      by_cases f0 : (zn z 4 : Int) = 0
      · rw [if_pos f0, if_neg (show ¬ (w ≠ 0 ∧ w = zn z 4) by omega)]
        exact g0
      · rw [if_neg f0]
        by_cases f1 : (w : Int) = zn z 4
        · rw [if_pos f1, if_pos (show (w ≠ 0 ∧ w = zn z 4) by omega)]
          exact g1
        · rw [if_neg f1, if_neg (show ¬ (w ≠ 0 ∧ w = zn z 4) by omega)]
          exact g0
  · rw [decide_eq_false (show ¬ ((0 : Int) ≤ t ∧ (t : Int) < zn z 3) by omega), b2i_f, if_pos (show iI 0 = 0 from rfl)]
    exact ⟨M, by rw [goT, decide_eq_false hT, Bool.false_and]; rfl, Eqx.rf, hG⟩
