/-! THE CLASS: the place behind a night is the reference's. -/
theorem roomS_ge {r a : Nat} (ha : a ∈ roomS r) : r ≤ a ∧ a ≤ r + 8 ∧ a ≠ r + 6 := by
  simp only [roomS, List.mem_cons, List.not_mem_nil, or_false] at ha; omega
theorem c_pass71 (d : Nat) {M0 : Mem} {r : Nat} {z : Row} {tm w who bl : Nat} (v1 v3 : Value) (hr : r ∈ rooms) (h0 : gR M0 127 0 = r) (hR : RoomR M0 r z) (hz : OkZ z) (htm : tm < 10) (hw : w < 512) (hwho : who < 5) (hbl : bl < 2) :
    ∀ j k M v9 v10 v11, j + k = nz z → Eqx [128, 130, r + 6] M0 M → TurnC M z → ∃ M' v8 v9' v10' v11', X2 (d + 3) m_Stp_pass 71 [.ref 127, v1, .int (iI bl), v3, .int (iI w), .int (iI who), .int (iI (((tm * 5 + who) * 2 + bl) * 9 : Nat)), .int (iI (maskOf (fun c => turnB z tm c w who bl) k)), .int (iI k), v9, v10, v11] [] M =
      X2 (d + 3) m_Stp_pass 185 [.ref 127, v1, .int (iI bl), v3, .int (iI w), .int (iI who), .int (iI (((tm * 5 + who) * 2 + bl) * 9 : Nat)), .int (iI (wallT z tm w who bl)), v8, v9', v10', v11'] [] M' ∧ Eqx [128, 130, r + 6] M0 M' ∧ TurnC M' z := by
  have h9 := nz_le hz
  have hrl := rm_lt r hr
  have hp := p52
  intro j
  induction j with
  | zero =>
    intro k M v9 v10 v11 hk hM hT
    have h0' : gR M 127 0 = r := (eqx_R hM (by simp; omega) 0).trans h0
    have g2 : gI M r 2 = iI (nz z) := (eqx_I hM (by simp; omega) 2).trans hR.1.2.2.1
    have hkn : k = nz z := by omega
    subst hkn
    refine ⟨M, .int (iI (nz z)), v9, v10, v11, ?_, hM, hT⟩
    rw [e_pass71 _ hr _ _ _ _ _ _ _ _ _ _ _ _ h0', g2]
    have hlt : ¬ (iI (nz z) < iI (nz z)) := by rw [iI_lt (by omega) (by omega) (by omega) (by omega)]; omega
    rw [if_neg hlt]
    split <;> rfl
  | succ j ih =>
    intro k M v9 v10 v11 hk hM hT
    have h0' : gR M 127 0 = r := (eqx_R hM (by simp; omega) 0).trans h0
    have hR' : RoomR M r z := hR.fr (fun a ha => (hM a (by have := roomS_ge ha; simp; omega)).1)
    obtain ⟨n, hn, hnb, hkk⟩ := hT tm who bl k htm hwho hbl (by omega)
    have hnm : w &&& nmask z k < 512 := Nat.lt_of_le_of_lt Nat.and_le_left hw
    have nl := near_le (nz z) (zn z 2) k w
    have x9 : iI k < iI 9 := by rw [iI_lt (by omega) (by omega) (by omega) (by omega)]; omega
    have xn : iI k < iI (nz z) := by rw [iI_lt (by omega) (by omega) (by omega) (by omega)]; omega
    have e1 : iI ((((tm * 5 + who) * 2 + bl) * 9 : Nat) : Int) + iI k = iI (tIx tm who bl k) := by rw [iI_add]; rfl
    have hx : tIx tm who bl k < 900 := by unfold tIx; omega
    have tu1 : (if w.testBit k then 1 else 0) ≤ 1 := by split <;> omega
    have e2 : iI (near (nz z) (zn z 2) k w) * iI 2 + iI ((if w.testBit k then 1 else 0 : Nat) : Int) = iI ((near (nz z) (zn z 2) k w * 2 + (if w.testBit k then 1 else 0) : Nat) : Int) := by rw [iI_mul, iI_add]; rfl
    have e3 : iI ((near (nz z) (zn z 2) k w * 2 + (if w.testBit k then 1 else 0) : Nat) : Int) + iI 32 = iI ((near (nz z) (zn z 2) k w * 2 + (if w.testBit k then 1 else 0) + 32 : Nat) : Int) := by rw [iI_add]; rfl
    rw [e_pass71 _ hr _ _ _ _ _ _ _ _ _ _ _ _ h0', hR'.1.2.2.1, if_pos x9, if_pos xn, inb_ok (by omega) (by omega) (by omega), gb_T, ix_nat (by omega), hR'.2.2.1 k (by omega), iI_and, c_Int_bitCount _ hnm, bI_some, bits_near h9, iI_bit (by omega) (by omega), e1, e2, e3, inb_ok (by omega) (by omega) (by omega), gb_T, ix_nat (by omega), show gL M 128 (tIx tm who bl k) = lI n from hn, iI_shl1 (by omega), iI_or]
    generalize hmk : (if w.testBit k then 1 else 0) = tu at *
    have hV : turnB z tm k w who bl = turnV z tm k (near (nz z) (zn z 2) k w) tu who bl := by rw [turnB_V, hmk]
    generalize hnr : near (nz z) (zn z 2) k w = nr at *
    have hkt := hkk nr tu (by omega) tu1
    have step : ∀ (X : Mem) (v9 v10 v11 : Value), Eqx [128, 130, r + 6] M0 X → TurnC X z → ∀ b : Bool, b = turnB z tm k w who bl → ∃ M' v8 v9' v10' v11', (if b = false then X2 (d + 3) m_Stp_pass 71 [.ref 127, v1, .int (iI bl), v3, .int (iI w), .int (iI who), .int (iI (((tm * 5 + who) * 2 + bl) * 9 : Nat)), .int (iI (maskOf (fun c => turnB z tm c w who bl) k)), .int (iI k + iI 1), v9, v10, v11] [] X else X2 (d + 3) m_Stp_pass 71 [.ref 127, v1, .int (iI bl), v3, .int (iI w), .int (iI who), .int (iI (((tm * 5 + who) * 2 + bl) * 9 : Nat)), .int (iI (maskOf (fun c => turnB z tm c w who bl) k ||| 1 <<< k : Nat)), .int (iI k + iI 1), v9, v10, v11] [] X) =
      X2 (d + 3) m_Stp_pass 185 [.ref 127, v1, .int (iI bl), v3, .int (iI w), .int (iI who), .int (iI (((tm * 5 + who) * 2 + bl) * 9 : Nat)), .int (iI (wallT z tm w who bl)), v8, v9', v10', v11'] [] M' ∧ Eqx [128, 130, r + 6] M0 M' ∧ TurnC M' z := by
      intro X v9 v10 v11 hX hXT b hb
      have ihk := ih (k + 1) X v9 v10 v11 (by omega) hX hXT
      rw [iI_add]
      cases b
      · rw [if_pos rfl]
        rw [show maskOf (fun c => turnB z tm c w who bl) (k + 1) = maskOf (fun c => turnB z tm c w who bl) k ||| 0 from by rw [maskOf, ← hb]; rfl, Nat.or_zero] at ihk
        exact ihk
      · rw [if_neg (by decide)]
        rw [show maskOf (fun c => turnB z tm c w who bl) (k + 1) = maskOf (fun c => turnB z tm c w who bl) k ||| 1 <<< k from by rw [maskOf, ← hb]; rfl] at ihk
        exact ihk
    simp only [tstL (show n < 9223372036854775808 by omega) (show nr * 2 + tu < 64 by omega), tstL (show n < 9223372036854775808 by omega) (show nr * 2 + tu + 32 < 64 by omega)]
    by_cases hkn : n.testBit (nr * 2 + tu) = false
    · rw [if_pos hkn]
      obtain ⟨M1, e, hE⟩ := c_Stp_learn d (M := M) (r := r) (z := z) (tm := tm) (who := who) (bl := bl) (c := k) (nr := nr) (tu := tu) (n := n) hr h0' hR' hz htm hwho hbl (by omega) (by omega) tu1 hn
      have hlt : lrn n (nr * 2 + tu) (turnV z tm k nr tu who bl) < 2 ^ 52 := lrn_lt hnb (by omega)
      rw [e, bL_some]
      simp only [tstL (show lrn n (nr * 2 + tu) (turnV z tm k nr tu who bl) < 9223372036854775808 by omega) (show nr * 2 + tu + 32 < 64 by omega)]
      refine step _ _ _ _ (hM.tr (eqx_wL (hE.mono (by simp)) (by simp))) (TurnC_learn hT hz hr hE hwho hbl (by omega) (by omega) tu1 hn hnb hkk hkn) _ ?_
      rw [hkn, Bool.false_and] at hkt
      rw [lrn_held hkt, hV]
    · rw [if_neg hkn]
      refine step _ _ _ _ hM hT _ ?_
      rw [hkt, eq_true_of_ne_false hkn, Bool.true_and, hV]
