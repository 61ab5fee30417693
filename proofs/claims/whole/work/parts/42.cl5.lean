/-! THE CLASS: what is learnt of turning. -/
theorem tb_or_same {n k : Nat} : (n ||| 1 <<< k).testBit k = true := by
  rw [Nat.testBit_or, Nat.one_shiftLeft, Nat.testBit_two_pow_self, Bool.or_true]
theorem tb_or_ne {n k j : Nat} (h : k ≠ j) : (n ||| 1 <<< k).testBit j = n.testBit j := by
  rw [Nat.testBit_or, Nat.one_shiftLeft, Nat.testBit_two_pow_of_ne h, Bool.or_false]
/-- a mark is set, and what holds of it -/
def lrn (n mark : Nat) (b : Bool) : Nat := n ||| (1 <<< mark ||| (if b then 1 <<< (mark + 32) else 0))
theorem lrn_t (n mark : Nat) : lrn n mark true = (n ||| 1 <<< mark) ||| 1 <<< (mark + 32) := by rw [lrn, if_pos rfl, ← Nat.or_assoc]
theorem lrn_f (n mark : Nat) : lrn n mark false = n ||| 1 <<< mark := by rw [lrn, if_neg (by decide), Nat.or_zero]
theorem lrn_lt {n mark e : Nat} {b : Bool} (hn : n < 2 ^ e) (hm : mark + 32 < e) : lrn n mark b < 2 ^ e := by
  have h1 : 1 <<< mark < 2 ^ e := by rw [Nat.one_shiftLeft]; exact Nat.pow_lt_pow_right (by decide) (by omega)
  have h2 : 1 <<< (mark + 32) < 2 ^ e := by rw [Nat.one_shiftLeft]; exact Nat.pow_lt_pow_right (by decide) hm
  cases b
  · rw [lrn_f]; exact Nat.or_lt_two_pow hn h1
  · rw [lrn_t]; exact Nat.or_lt_two_pow (Nat.or_lt_two_pow hn h1) h2
theorem lrn_known (n mark : Nat) (b : Bool) : (lrn n mark b).testBit mark = true := by
  cases b
  · rw [lrn_f, tb_or_same]
  · rw [lrn_t, tb_or_ne (by omega), tb_or_same]
theorem lrn_held {n mark : Nat} {b : Bool} (h : n.testBit (mark + 32) = false) : (lrn n mark b).testBit (mark + 32) = b := by
  cases b
  · rw [lrn_f, tb_or_ne (by omega), h]
  · rw [lrn_t, tb_or_same]
theorem lrn_other {n mark j : Nat} {b : Bool} (h : j ≠ mark) (h2 : j ≠ mark + 32) : (lrn n mark b).testBit j = n.testBit j := by
  cases b
  · rw [lrn_f, tb_or_ne (Ne.symm h)]
  · rw [lrn_t, tb_or_ne (Ne.symm h2), tb_or_ne (Ne.symm h)]
def tIx (tm who bl c : Nat) : Nat := ((tm * 5 + who) * 2 + bl) * 9 + c
theorem lI_1shl {k : Nat} (hk : k < 64) : lI 1 <<< ((iI k).toInt64 &&& 63) = lI ((1 <<< k : Nat) : Int) := lI_shl 1 hk
theorem e_learn165 (d : Nat) {x1 mark n : Nat} (h1 : x1 < 900) (hm : mark < 20) (v3 v4 v5 v6 : Value) (b : Bool) (M : Mem) (hn : gL M 128 x1 = lI n) :
    X2 d m_Stp_learnTurning 165 [.ref 127, .int (iI x1), .int (iI mark), v3, v4, v5, v6] [.int (iI (b2i b))] M = some (.long (lI (lrn n mark b)), wL M 128 x1 (lI (lrn n mark b))) := by
  rw [e_Stp_learnTurning_165, inb_ok (by omega) (by omega) (by omega), gb_T, gb_T, gb_T, ix_nat (by omega), gL_eq, gL_eq, hn, show iI mark + iI 32 = iI ((mark + 32 : Nat) : Int) from iI_add _ _, lI_1shl (by omega), lI_1shl (by omega), show lI 0 = lI ((0 : Nat) : Int) from rfl, lI_or, lI_or, lI_or, lI_or]
  cases b
  · rw [if_pos (show iI (b2i false) = 0 from rfl)]; rfl
  · rw [if_neg (show ¬ iI (b2i true) = 0 by decide)]; rfl
theorem e_learn62 (d : Nat) {r : Nat} (hr : r ∈ rooms) (x1 x2 x3 x4 : Int32) (v5 v6 : Value) (y0 : Int32) (M : Mem) (h0 : gR M 127 0 = r) :
    X2 d m_Stp_learnTurning 62 [.ref 127, .int x1, .int x2, .int x3, .int x4, v5, v6] [.int y0, .int (iI 1), .ref 130] M =
    gb (inb x3 9) (bI (c2 d m_Lw_isTold [.ref (r + 4)] (wI (wI (wI (wI (wI (wI M 130 1 y0) 130 2 x3) 130 3 (gI (wI (wI M 130 1 y0) 130 2 x3) (r + 1) (ix x3))) 130 4 (x2 / (iI 2))) 130 5 (irm x2 (iI 2))) 130 6 ((x4 / (iI 2)) / (iI 5)))) fun r2 M1 => if r2 = 0 then if x2 / (iI 2) < iI 1 then X2 d m_Stp_learnTurning 165 [.ref 127, .int x1, .int x2, .int x3, .int x4, v5, v6] [.int (iI 0)] M1 else if iI 3 < x2 / (iI 2) then X2 d m_Stp_learnTurning 165 [.ref 127, .int x1, .int x2, .int x3, .int x4, v5, v6] [.int (iI 0)] M1 else X2 d m_Stp_learnTurning 165 [.ref 127, .int x1, .int x2, .int x3, .int x4, v5, v6] [.int (iI 1)] M1 else gb (isK O2 M1 (gR M1 127 0) 16) (gb (isK O2 M1 (gR M1 (gR M1 127 0) 13) 11 && !false) (bI (c2 d m_Lw_holds [.ref (gR M1 (gR M1 127 0) 13), .ref 130] M1) fun r4 M3 => X2 d m_Stp_learnTurning 165 [.ref 127, .int x1, .int x2, .int x3, .int x4, v5, v6] [.int r4] M3))) := by
  rw [e_Stp_learnTurning_62, h0, inb_ok (by decide) (by decide) (by decide), ix_eq (z := 1) (n := 1) rfl (by decide)]
  simp only [rm_k _ r hr, rm_10 _ r hr, rm_13 _ r hr, rm_a1 _ r hr, rm_t1 _ _ r hr, rm_k4 _ r hr, tt_and, bb_f, gb_T]
theorem c_Stp_learn (d : Nat) {M : Mem} {r : Nat} {z : Row} {tm who bl c nr tu n : Nat} (hr : r ∈ rooms) (h0 : gR M 127 0 = r) (hR : RoomR M r z) (hz : OkZ z) (htm : tm < 10) (hwho : who < 5) (hbl : bl < 2) (hc : c < nz z) (hnr : nr ≤ 9) (htu : tu ≤ 1) (hn : gL M 128 (tIx tm who bl c) = lI n) :
    ∃ M', c2 (d + 3) m_Stp_learnTurning [.ref 127, .int (iI (tIx tm who bl c)), .int (iI (nr * 2 + tu : Nat))] M = some (.long (lI (lrn n (nr * 2 + tu) (turnV z tm c nr tu who bl))), wL M' 128 (tIx tm who bl c) (lI (lrn n (nr * 2 + tu) (turnV z tm c nr tu who bl)))) ∧ Eqx [130, r + 6] M M' := by
  have h9 := nz_le hz
  have hrl := rm_lt r hr
  have hx : tIx tm who bl c < 900 := by unfold tIx; omega
  show ∃ M', X2 (d + 2) m_Stp_learnTurning 0 [.ref 127, .int (iI (tIx tm who bl c)), .int (iI (nr * 2 + tu : Nat)), uns, uns, uns, uns] [] M = _ ∧ _
  have k9 : iI 9 = iI ((9 : Nat) : Int) := rfl
  have k2 : iI 2 = iI ((2 : Nat) : Int) := rfl
  have k5 : iI 5 = iI ((5 : Nat) : Int) := rfl
  have q1 : iI (tIx tm who bl c) / iI 9 = iI (((tm * 5 + who) * 2 + bl : Nat) : Int) := by
    rw [k9, iI_div (by omega) (by decide)]; congr 2; unfold tIx; omega
  have q2 : irm (iI (tIx tm who bl c)) (iI 9) = iI c := by
    rw [k9, iI_rem (by omega) (by decide)]; congr 2; unfold tIx; omega
  have q3 : iI (((tm * 5 + who) * 2 + bl : Nat) : Int) / iI 2 = iI ((tm * 5 + who : Nat) : Int) := by
    rw [k2, iI_div (by omega) (by decide)]; congr 2; omega
  have q4 : irm (iI ((tm * 5 + who : Nat) : Int)) (iI 5) = iI who := by
    rw [k5, iI_rem (by omega) (by decide)]; congr 2; omega
  have q5 : irm (iI (((tm * 5 + who) * 2 + bl : Nat) : Int)) (iI 2) = iI bl := by
    rw [k2, iI_rem (by omega) (by decide)]; congr 2; omega
  have q6 : iI ((tm * 5 + who : Nat) : Int) / iI 5 = iI tm := by
    rw [k5, iI_div (by omega) (by decide)]; congr 2; omega
  have q7 : iI ((nr * 2 + tu : Nat) : Int) / iI 2 = iI nr := by
    rw [k2, iI_div (by omega) (by decide)]; congr 2; omega
  have q8 : irm (iI ((nr * 2 + tu : Nat) : Int)) (iI 2) = iI tu := by
    rw [k2, iI_rem (by omega) (by decide)]; congr 2; omega
  have key : ∃ M', X2 (d + 2) m_Stp_learnTurning 62 [.ref 127, .int (iI (tIx tm who bl c)), .int (iI (nr * 2 + tu : Nat)), .int (iI c), .int (iI (((tm * 5 + who) * 2 + bl : Nat) : Int)), .int (iI who), uns] [.int (iI ((if who = 4 then 9 else who : Nat) : Int)), .int (iI 1), .ref 130] (wI M 130 0 (iI bl)) = some (.long (lI (lrn n (nr * 2 + tu) (turnV z tm c nr tu who bl))), wL M' 128 (tIx tm who bl c) (lI (lrn n (nr * 2 + tu) (turnV z tm c nr tu who bl)))) ∧ Eqx [130, r + 6] M M' := by
    rw [e_learn62 _ hr _ _ _ _ _ _ _ (wI M 130 0 (iI bl)) h0, inb_ok (by omega) (by omega) (by omega), gb_T, ix_nat (by omega), q7, q8, q3, q6]
    have hq : ∀ X : Mem, Eqx [130] M X → (∀ j, j < 10 → alT j = true → X.1 130 j = wV z tm c nr tu who bl j) → ∃ M', (bI (c2 (d + 2) m_Lw_isTold [.ref (r + 4)] X) fun r2 M1 => if r2 = 0 then if iI nr < iI 1 then X2 (d + 2) m_Stp_learnTurning 165 [.ref 127, .int (iI (tIx tm who bl c)), .int (iI (nr * 2 + tu : Nat)), .int (iI c), .int (iI (((tm * 5 + who) * 2 + bl : Nat) : Int)), .int (iI who), uns] [.int (iI 0)] M1 else if iI 3 < iI nr then X2 (d + 2) m_Stp_learnTurning 165 [.ref 127, .int (iI (tIx tm who bl c)), .int (iI (nr * 2 + tu : Nat)), .int (iI c), .int (iI (((tm * 5 + who) * 2 + bl : Nat) : Int)), .int (iI who), uns] [.int (iI 0)] M1 else X2 (d + 2) m_Stp_learnTurning 165 [.ref 127, .int (iI (tIx tm who bl c)), .int (iI (nr * 2 + tu : Nat)), .int (iI c), .int (iI (((tm * 5 + who) * 2 + bl : Nat) : Int)), .int (iI who), uns] [.int (iI 1)] M1 else gb (isK O2 M1 (gR M1 127 0) 16) (gb (isK O2 M1 (gR M1 (gR M1 127 0) 13) 11 && !false) (bI (c2 (d + 2) m_Lw_holds [.ref (gR M1 (gR M1 127 0) 13), .ref 130] M1) fun r4 M3 => X2 (d + 2) m_Stp_learnTurning 165 [.ref 127, .int (iI (tIx tm who bl c)), .int (iI (nr * 2 + tu : Nat)), .int (iI c), .int (iI (((tm * 5 + who) * 2 + bl : Nat) : Int)), .int (iI who), uns] [.int r4] M3))) = some (.long (lI (lrn n (nr * 2 + tu) (turnV z tm c nr tu who bl))), wL M' 128 (tIx tm who bl c) (lI (lrn n (nr * 2 + tu) (turnV z tm c nr tu who bl)))) ∧ Eqx [130, r + 6] M M' := by
      intro X hX hj
      have hXR : RoomR X r z := hR.fr (fun a ha => (hX a (ni1 (by have : r ≤ a := by { simp only [roomS, List.mem_cons, List.not_mem_nil, or_false] at ha; omega }; omega))).1)
      have hX0 : gR X 127 0 = r := (eqx_R hX (by decide) 0).trans h0
      have hXn : gL X 128 (tIx tm who bl c) = lI n := (eqx_L hX (by decide) _).trans hn
      rw [c_Lw_isTold _ (rm_l4 r hr), bI_some, told_iff hXR.2.2.2.2.1 hz.2.2.2.1]
      simp only [iI_b_eq0]
      by_cases ht : z 6 = 0
      · have e6 : decide (z (6 + 0) ≠ 0) = false := decide_eq_false (fun h => h ht)
        rw [if_pos e6]
        refine ⟨X, ?_, hX.mono (by simp)⟩
        have eV : turnV z tm c nr tu who bl = decide (1 ≤ nr ∧ nr ≤ 3) := if_pos ht
        have s0 : ∀ b : Bool, b = decide (1 ≤ nr ∧ nr ≤ 3) → X2 (d + 2) m_Stp_learnTurning 165 [.ref 127, .int (iI (tIx tm who bl c)), .int (iI (nr * 2 + tu : Nat)), .int (iI c), .int (iI (((tm * 5 + who) * 2 + bl : Nat) : Int)), .int (iI who), uns] [.int (iI (b2i b))] X = some (.long (lI (lrn n (nr * 2 + tu) (turnV z tm c nr tu who bl))), wL X 128 (tIx tm who bl c) (lI (lrn n (nr * 2 + tu) (turnV z tm c nr tu who bl)))) := fun b hb => by
          rw [e_learn165 _ hx (by omega) _ _ _ _ _ _ hXn, eV, hb]
        simp (disch := omega) only [iI_add, iI_sub, iI_mul, iI_lt, iI_eq, iI_lt0, iI_0lt, iI_eq0, ix_iI, inb_ok, gb_t, Int.toNat_natCast]
        by_cases n1 : (nr : Int) < 1
        · rw [if_pos n1]; exact s0 false (decide_eq_false (by omega)).symm
        · rw [if_neg n1]
          by_cases n3 : (3 : Int) < nr
          · rw [if_pos n3]; exact s0 false (decide_eq_false (by omega)).symm
          · rw [if_neg n3]; exact s0 true (decide_eq_true (by omega)).symm
      · have e6 : decide (z (6 + 0) ≠ 0) = true := decide_eq_true ht
        rw [if_neg (by rw [e6]; decide), hX0, rm_k _ r hr, rm_13 _ r hr, rm_k4 _ r hr, tt_and, gb_T, gb_T]
        obtain ⟨M', e, hE⟩ := c_Lw_law d (M := X) (wd := wV z tm c nr tu who bl) (rm_l4 r hr) hXR.2.2.2.2.1 ht (hz.2.2.2.1 ht) hj
        have hMn : gL M' 128 (tIx tm who bl c) = lI n := (eqx_L hE (ni1 (by omega)) _).trans hXn
        refine ⟨M', ?_, (hX.mono (by simp)).tr (hE.mono (by simp))⟩
        rw [e, bI_some, e_learn165 _ hx (by omega) _ _ _ _ _ _ hMn, turnV, if_neg ht]
    refine hq _ (eqx_wI (eqx_wI (eqx_wI (eqx_wI (eqx_wI (eqx_wI (eqx_wI Eqx.rf (by decide)) (by decide)) (by decide)) (by decide)) (by decide)) (by decide)) (by decide)) ?_
    intro j _ hj
    have hj6 : j ≤ 6 := Nat.le_of_ble_eq_true hj
    have hk3 : gI (wI (wI (wI M 130 0 (iI bl)) 130 1 (iI ((if who = 4 then 9 else who : Nat) : Int))) 130 2 (iI c)) (r + 1) c = z (12 + c) := by
      rw [gI_na (by omega), gI_na (by omega), gI_na (by omega)]; exact hR.2.1 c (by omega)
    rw [hk3]
    rcases (show j = 0 ∨ j = 1 ∨ j = 2 ∨ j = 3 ∨ j = 4 ∨ j = 5 ∨ j = 6 by omega) with h | h | h | h | h | h | h <;> subst h <;> rfl
  rw [e_Stp_learnTurning_0, q1, q2, q3, q4, q5]
  have x0 : ¬ (iI (tIx tm who bl c) < 0) := by rw [iI_lt0 (by omega) (by omega)]; omega
  have x9 : iI (tIx tm who bl c) < iI 900 := by rw [iI_lt (by omega) (by omega) (by omega) (by omega)]; omega
  rw [if_neg x0, if_pos x9]
  by_cases h4 : who = 4
  · rw [if_pos (by rw [h4]; rfl)]
    rw [if_pos h4] at key
    exact key
  · rw [if_neg (by rw [show iI 4 = iI ((4 : Nat) : Int) from rfl, iI_eq (by omega) (by omega) (by omega) (by omega)]; omega)]
    rw [if_neg h4] at key
    exact key
