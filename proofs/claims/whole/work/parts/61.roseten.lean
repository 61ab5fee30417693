/-! rose, tenant. -/
theorem bit_plus {a b c : Nat} (ha : a < 512) (hc : c < 9) : (a + 512 * b).testBit c = a.testBit c := by
  rw [Nat.add_comm, show (512 : Nat) = 2 ^ 9 from rfl, Nat.testBit_two_pow_mul_add _ (show a < 2 ^ 9 from ha), if_pos hc]
theorem pas_bit {z : Row} (hz : OkZ z) {tm p bl c : Nat} (hc : c < nz z) : (pas z tm p bl).testBit c = turnB z tm c (p % 512) (p / 512) bl := by
  have h9 := nz_le hz
  unfold pas
  rw [bit_plus (wallT_lt hz _ _ _ _) (by omega), wallT, maskOf_bit, decide_eq_true hc, Bool.true_and]
theorem b2i_if (b : Bool) : ((if b = true then 1 else 0 : Nat) : Int) = b2i b := by cases b <;> rfl
theorem p_rose (z : Row) (w who tm : Nat) (x1 x2 : Int32) : Pair m_RW_rose m_Mo_rose [.int x1, .int x2] z w who tm := by
  obtain ⟨c, rfl, c1, c2⟩ := iI_ex x1
  obtain ⟨k, rfl, k1, k2⟩ := iI_ex x2
  by_cases hc : 0 ≤ c ∧ c < nz z
  · obtain ⟨c, rfl⟩ := Int.eq_ofNat_of_zero_le hc.1
    have hc' : c < nz z := by omega
    by_cases hk : 0 ≤ k ∧ k ≤ 4
    · -- both bounds hold
      rcases (show k = 0 ∨ k = 1 ∨ k = 2 ∨ k = 3 ∨ k = 4 by omega) with q | q | q | q | q
      · subst q
        refine ⟨z (12 + c), ?_, ?_⟩
        · intro d M r ni st hQ _
          have hz := hQ.okz
          have h9 := nz_le hz
          have hr := hQ.rm
          have hR := hQ.room
          show ∃ M' st', X2 (d + 79) m_RW_rose 0 [.ref 100, .int (iI c), .int (iI 0)] [] M = _ ∧ _
          rw [e_RW_rose_0, hQ.2.1, rm_k _ r hr, tt_and, gb_T, c_Room_hasRose _ hr hR hz, bI_some, iI_toInt (by omega) (by omega), decide_eq_true hc, b2i_t, if_neg (by decide), if_neg (by decide), if_neg (by decide), if_pos rfl, hQ.2.1, rm_k _ r hr, gb_T, rm_10 _ r hr, rm_a1 _ r hr, bb_f, rm_t1 _ _ r hr, inb_ok (by omega) (by omega) (by omega), gb_T, ix_nat (by omega), hR.2.1 c (by omega)]
          exact ⟨M, st, rfl, Eqx.rf, hQ, by omega⟩
        · intro d M hQ
          have hz := hQ.2.1
          have h9 := nz_le hz
          have hQ1 := hQ.res (ResM.thr M)
          show ∃ M', X2 (d + 79) m_Mo_rose 0 [.ref 197, .int (iI c), .int (iI 0)] [] M = _ ∧ _
          rw [e_Mo_rose_0, c_Mo_isRose _ hQ1.okz, bI_some, hQ1.1, i2l_iI (by omega) (by omega), lI_toInt (by omega) (by omega), decide_eq_true hc, b2i_t, if_neg (by decide), if_pos rfl, iI_add, inb_ok (by omega) (by omega) (by omega), gb_T, ix_eq (n := 12 + c) (by omega) (by omega), hQ1.g]
          exact ⟨_, rfl, ResM.thr M⟩
      · subst q
        refine ⟨iI ((if w.testBit c then 1 else 0 : Nat) : Int), ?_, ?_⟩
        · intro d M r ni st hQ _
          have hz := hQ.okz
          have h9 := nz_le hz
          have hr := hQ.rm
          have hR := hQ.room
          have hw := hQ.2.2.2.2.2.2
          show ∃ M' st', X2 (d + 79) m_RW_rose 0 [.ref 100, .int (iI c), .int (iI 1)] [] M = _ ∧ _
          rw [e_RW_rose_0, hQ.2.1, rm_k _ r hr, tt_and, gb_T, c_Room_hasRose _ hr hR hz, bI_some, iI_toInt (by omega) (by omega), decide_eq_true hc, b2i_t, if_neg (by decide), if_neg (by decide), if_neg (by decide), if_neg (by decide), if_pos rfl, hQ.2.2.1.1, iI_bit (by omega) (by omega)]
          exact ⟨M, st, rfl, Eqx.rf, hQ, by omega⟩
        · intro d M hQ
          have hz := hQ.2.1
          have h9 := nz_le hz
          have hw := hQ.2.2.2.2.2.2.2.2
          have hQ1 := hQ.res (ResM.thr M)
          show ∃ M', X2 (d + 79) m_Mo_rose 0 [.ref 197, .int (iI c), .int (iI 1)] [] M = _ ∧ _
          rw [e_Mo_rose_0, c_Mo_isRose _ hQ1.okz, bI_some, hQ1.1, i2l_iI (by omega) (by omega), lI_toInt (by omega) (by omega), decide_eq_true hc, b2i_t, if_neg (by decide), if_neg (by decide), if_pos rfl, hQ1.w, iI_bit (by omega) (by omega)]
          exact ⟨_, rfl, ResM.thr M⟩
      · subst q
        refine ⟨iI (near (nz z) (zn z 2) c w), ?_, ?_⟩
        · intro d M r ni st hQ _
          have hz := hQ.okz
          have h9 := nz_le hz
          have hr := hQ.rm
          have hR := hQ.room
          have hw := hQ.2.2.2.2.2.2
          have hb : w &&& nmask z c < 512 := Nat.lt_of_le_of_lt Nat.and_le_left hw
          show ∃ M' st', X2 (d + 79) m_RW_rose 0 [.ref 100, .int (iI c), .int (iI 2)] [] M = _ ∧ _
          rw [e_RW_rose_0, hQ.2.1, rm_k _ r hr, tt_and, gb_T, c_Room_hasRose _ hr hR hz, bI_some, iI_toInt (by omega) (by omega), decide_eq_true hc, b2i_t, if_neg (by decide), if_neg (by decide), if_neg (by decide), if_neg (by decide), if_neg (by decide), if_pos rfl, hQ.2.1, rm_k _ r hr, gb_T, rm_11 _ r hr, rm_a2 _ r hr, bb_f, rm_t2 _ _ r hr, inb_ok (by omega) (by omega) (by omega), gb_T, ix_nat (by omega), hR.2.2.1 c hc', hQ.2.2.1.1, iI_and, c_Int_bitCount _ hb, bI_some, bits_near h9]
          exact ⟨M, st, rfl, Eqx.rf, hQ, by omega⟩
        · intro d M hQ
          have hz := hQ.2.1
          have h9 := nz_le hz
          have hw := hQ.2.2.2.2.2.2.2.2
          have hQ1 := hQ.res (ResM.thr M)
          have b1 := zn_rng hz.1.1 (by decide)
          have b2 := zn_rng hz.1.2.1 (by decide)
          show ∃ M', X2 (d + 79) m_Mo_rose 0 [.ref 197, .int (iI c), .int (iI 2)] [] M = _ ∧ _
          rw [e_Mo_rose_0, c_Mo_isRose _ hQ1.okz, bI_some, hQ1.1, i2l_iI (by omega) (by omega), lI_toInt (by omega) (by omega), decide_eq_true hc, b2i_t, if_neg (by decide), if_neg (by decide), if_neg (by decide), if_pos rfl, hQ1.w, c_Mo_nearOf _ (R := zn z 1) (W := zn z 2) ((hQ1.g 1).trans (zn_eq hz.1.1 (by decide))) ((hQ1.g 2).trans (zn_eq hz.1.2.1 (by decide))) (by omega) (by omega) (by omega) (by omega) (by omega), bI_some]
          exact ⟨_, rfl, ResM.thr M⟩
      · subst q
        refine ⟨iI (b2i (turnB z tm c w who 0)), ?_, ?_⟩
        · intro d M r ni st hQ hst
          have hz := hQ.okz
          have h9 := nz_le hz
          have hr := hQ.rm
          have hrl := hQ.rl
          have hR := hQ.room
          obtain ⟨⟨tm0, hS⟩, h5, hN, hO, htm, hwho, hw⟩ := id hQ
          have hp : w + 512 * who < 2560 := by omega
          obtain ⟨M1, e1, hE1, hS1⟩ := c_Stp_passS (d + 75) (tm := tm) (p := w + 512 * who) (bl := 0) hS htm hp (by decide)
          have hpl := pas_lt hz tm 0 hp
          have hE2 : Eqx (scr r) M M1 := hE1.mono (scr_sub (by intro a ha; simp only [List.mem_cons, List.not_mem_nil, or_false] at ha; omega))
          show ∃ M' st', X2 (d + 79) m_RW_rose 0 [.ref 100, .int (iI c), .int (iI 3)] [] M = _ ∧ _
          rw [e_RW_rose_0, h5, rm_k _ r hr, tt_and, gb_T, c_Room_hasRose _ hr hR hz, bI_some, iI_toInt (by omega) (by omega), decide_eq_true hc, b2i_t, if_neg (by decide), if_neg (by decide), if_neg (by decide), if_neg (by decide), if_neg (by decide), if_neg (by decide), c_Mom_place _ (by decide) hN hw hwho, bI_some, hN.2.2.1, show iI 3 - iI 3 = iI ((0 : Nat) : Int) from by decide, e1, bI_some, iI_bit (by omega) (by omega), pas_bit hz hc', show (w + 512 * who) % 512 = w by omega, show (w + 512 * who) / 512 = who by omega, b2i_if]
          exact ⟨M1, st, rfl, hE2, hQ.fr hE2 hS1, by omega⟩
        · intro d M hQ
          have hz := hQ.2.1
          have h9 := nz_le hz
          have hQ1 := hQ.res (ResM.thr M)
          have hw := hQ.2.2.2.2.2.2.2.2
          have hwho := hQ.2.2.2.2.2.2.2.1
          obtain ⟨M1, e1, hE1⟩ := c_Mo_turnsThen (d + 76) (M := wI M 197 0 (iI 0)) (tm := tm) (c := c) (w := w) (who := who) (bl := 0) hQ1.okz hQ1.tm (by rw [hQ1.1]; exact hc') (by omega) (by omega)
          show ∃ M', X2 (d + 79) m_Mo_rose 0 [.ref 197, .int (iI c), .int (iI 3)] [] M = _ ∧ _
          rw [e_Mo_rose_0, c_Mo_isRose _ hQ1.okz, bI_some, hQ1.1, i2l_iI (by omega) (by omega), lI_toInt (by omega) (by omega), decide_eq_true hc, b2i_t, if_neg (by decide), if_neg (by decide), if_neg (by decide), if_neg (by decide), if_pos rfl, hQ1.w, hQ1.who, show iI 3 - iI 3 = iI ((0 : Nat) : Int) from by decide, e1, bI_some, hQ1.1]
          refine ⟨M1, ?_, (ResM.thr M).tr (ResM.of hE1 (by intro a ha; simp only [List.mem_cons, List.not_mem_nil, or_false] at ha; omega))⟩
          cases turnB z tm c w who 0 <;> rfl
      · subst q
        refine ⟨iI (b2i (turnB z tm c w who 1)), ?_, ?_⟩
        · intro d M r ni st hQ hst
          have hz := hQ.okz
          have h9 := nz_le hz
          have hr := hQ.rm
          have hrl := hQ.rl
          have hR := hQ.room
          obtain ⟨⟨tm0, hS⟩, h5, hN, hO, htm, hwho, hw⟩ := id hQ
          have hp : w + 512 * who < 2560 := by omega
          obtain ⟨M1, e1, hE1, hS1⟩ := c_Stp_passS (d + 75) (tm := tm) (p := w + 512 * who) (bl := 1) hS htm hp (by decide)
          have hpl := pas_lt hz tm 1 hp
          have hE2 : Eqx (scr r) M M1 := hE1.mono (scr_sub (by intro a ha; simp only [List.mem_cons, List.not_mem_nil, or_false] at ha; omega))
          show ∃ M' st', X2 (d + 79) m_RW_rose 0 [.ref 100, .int (iI c), .int (iI 4)] [] M = _ ∧ _
          rw [e_RW_rose_0, h5, rm_k _ r hr, tt_and, gb_T, c_Room_hasRose _ hr hR hz, bI_some, iI_toInt (by omega) (by omega), decide_eq_true hc, b2i_t, if_neg (by decide), if_neg (by decide), if_neg (by decide), if_neg (by decide), if_neg (by decide), if_neg (by decide), c_Mom_place _ (by decide) hN hw hwho, bI_some, hN.2.2.1, show iI 4 - iI 3 = iI ((1 : Nat) : Int) from by decide, e1, bI_some, iI_bit (by omega) (by omega), pas_bit hz hc', show (w + 512 * who) % 512 = w by omega, show (w + 512 * who) / 512 = who by omega, b2i_if]
          exact ⟨M1, st, rfl, hE2, hQ.fr hE2 hS1, by omega⟩
        · intro d M hQ
          have hz := hQ.2.1
          have h9 := nz_le hz
          have hQ1 := hQ.res (ResM.thr M)
          have hw := hQ.2.2.2.2.2.2.2.2
          have hwho := hQ.2.2.2.2.2.2.2.1
          obtain ⟨M1, e1, hE1⟩ := c_Mo_turnsThen (d + 76) (M := wI M 197 0 (iI 0)) (tm := tm) (c := c) (w := w) (who := who) (bl := 1) hQ1.okz hQ1.tm (by rw [hQ1.1]; exact hc') (by omega) (by omega)
          show ∃ M', X2 (d + 79) m_Mo_rose 0 [.ref 197, .int (iI c), .int (iI 4)] [] M = _ ∧ _
          rw [e_Mo_rose_0, c_Mo_isRose _ hQ1.okz, bI_some, hQ1.1, i2l_iI (by omega) (by omega), lI_toInt (by omega) (by omega), decide_eq_true hc, b2i_t, if_neg (by decide), if_neg (by decide), if_neg (by decide), if_neg (by decide), if_neg (by decide), if_pos rfl, hQ1.w, hQ1.who, show iI 4 - iI 3 = iI ((1 : Nat) : Int) from by decide, e1, bI_some, hQ1.1]
          refine ⟨M1, ?_, (ResM.thr M).tr (ResM.of hE1 (by intro a ha; simp only [List.mem_cons, List.not_mem_nil, or_false] at ha; omega))⟩
          cases turnB z tm c w who 1 <;> rfl
    · refine ⟨iI (-2), ?_, ?_⟩
      · intro d M r ni st hQ _
        have hz := hQ.okz
        have h9 := nz_le hz
        have hr := hQ.rm
        have hR := hQ.room
        show ∃ M' st', X2 (d + 79) m_RW_rose 0 [.ref 100, .int (iI c), .int (iI k)] [] M = _ ∧ _
        rw [e_RW_rose_0, hQ.2.1, rm_k _ r hr, tt_and, gb_T, c_Room_hasRose _ hr hR hz, bI_some, iI_toInt (by omega) (by omega), decide_eq_true hc, b2i_t, if_neg (by decide)]
        simp only [iI_lt0 k1 k2, iI_lt (show (-2147483648 : Int) ≤ 4 by omega) (show (4 : Int) ≤ 2147483647 by omega) k1 k2]
        by_cases q : k < 0
        · rw [if_pos q]; exact ⟨M, st, rfl, Eqx.rf, hQ, by omega⟩
        · rw [if_neg q, if_pos (by omega)]; exact ⟨M, st, rfl, Eqx.rf, hQ, by omega⟩
      · intro d M hQ
        have hz := hQ.2.1
        have h9 := nz_le hz
        have hQ1 := hQ.res (ResM.thr M)
        show ∃ M', X2 (d + 79) m_Mo_rose 0 [.ref 197, .int (iI c), .int (iI k)] [] M = _ ∧ _
        have ne : ∀ j : Int, 0 ≤ j → j ≤ 4 → iI k ≠ iI j := fun j h1 h2 => by rw [Ne, iI_eq k1 k2 (by omega) (by omega)]; omega
        rw [e_Mo_rose_0, c_Mo_isRose _ hQ1.okz, bI_some, hQ1.1, i2l_iI (by omega) (by omega), lI_toInt (by omega) (by omega), decide_eq_true hc, b2i_t, if_neg (by decide), if_neg (ne 0 (by decide) (by decide)), if_neg (ne 1 (by decide) (by decide)), if_neg (ne 2 (by decide) (by decide)), if_neg (ne 3 (by decide) (by decide)), if_neg (ne 4 (by decide) (by decide))]
        exact ⟨_, rfl, ResM.thr M⟩
  · refine ⟨iI (-2), ?_, ?_⟩
    · intro d M r ni st hQ _
      have hz := hQ.okz
      have h9 := nz_le hz
      have hr := hQ.rm
      have hR := hQ.room
      show ∃ M' st', X2 (d + 79) m_RW_rose 0 [.ref 100, .int (iI c), .int (iI k)] [] M = _ ∧ _
      rw [e_RW_rose_0, hQ.2.1, rm_k _ r hr, tt_and, gb_T, c_Room_hasRose _ hr hR hz, bI_some, iI_toInt c1 c2, decide_eq_false hc, b2i_f, if_pos (by decide)]
      exact ⟨M, st, rfl, Eqx.rf, hQ, by omega⟩
    · intro d M hQ
      have hQ1 := hQ.res (ResM.thr M)
      show ∃ M', X2 (d + 79) m_Mo_rose 0 [.ref 197, .int (iI c), .int (iI k)] [] M = _ ∧ _
      rw [e_Mo_rose_0, c_Mo_isRose _ hQ1.okz, bI_some, hQ1.1, i2l_iI c1 c2, lI_toInt (by omega) (by omega), decide_eq_false hc, b2i_f, if_pos (by decide)]
      exact ⟨_, rfl, ResM.thr M⟩
theorem p_tenant (z : Row) (w who tm : Nat) (x1 x2 : Int32) : Pair m_RW_tenant m_Mo_tenant [.int x1, .int x2] z w who tm := by
  obtain ⟨c, rfl, c1, c2⟩ := iI_ex x1
  obtain ⟨k, rfl, k1, k2⟩ := iI_ex x2
  by_cases hc : 0 ≤ c ∧ c < zn z 3
  · obtain ⟨c, rfl⟩ := Int.eq_ofNat_of_zero_le hc.1
    have hc' : c < zn z 3 := by omega
    by_cases hk : 0 ≤ k ∧ k ≤ 3
    · rcases (show k = 0 ∨ k = 1 ∨ k = 2 ∨ k = 3 by omega) with q | q | q | q
      · subst q
        refine ⟨z (21 + c), ?_, ?_⟩
        · intro d M r ni st hQ hst
          have hz := hQ.okz
          have h4 := zn3_le hz
          have hr := hQ.rm
          have hrl := hQ.rl
          have hR := hQ.room
          obtain ⟨⟨tm0, hS⟩, h5, hN, hO, htm, hwho, hw⟩ := id hQ
          show ∃ M' st', X2 (d + 79) m_RW_tenant 0 [.ref 100, .int (iI c), .int (iI 0)] [] M = _ ∧ _
          rw [e_RW_tenant_0, h5, rm_k _ r hr, tt_and, gb_T, c_Room_hasTenant _ hr hR hz, bI_some, iI_toInt (by omega) (by omega), decide_eq_true hc, b2i_t, if_neg (by decide), if_neg (by decide), if_neg (by decide), if_pos rfl, h5, rm_k _ r hr, gb_T, rm_12 _ r hr, rm_a3 _ r hr, bb_f, rm_t3 _ _ r hr, inb_ok (by omega) (by omega) (by omega), gb_T, ix_nat (by omega), hR.2.2.2.1 c hc']
          exact ⟨M, st, rfl, Eqx.rf, hQ, by omega⟩
        · intro d M hQ
          have hz := hQ.2.1
          have h4 := zn3_le hz
          have hQ1 := hQ.res (ResM.thr M)
          have hw := hQ.2.2.2.2.2.2.2.2
          have hwho := hQ.2.2.2.2.2.2.2.1
          show ∃ M', X2 (d + 79) m_Mo_tenant 0 [.ref 197, .int (iI c), .int (iI 0)] [] M = _ ∧ _
          rw [e_Mo_tenant_0, c_Mo_isTenant _ hQ1.okz, bI_some, hQ1.1, i2l_iI (by omega) (by omega), lI_toInt (by omega) (by omega), decide_eq_true hc, b2i_t, if_neg (by decide), if_pos rfl, iI_add, inb_ok (by omega) (by omega) (by omega), gb_T, ix_eq (n := 21 + c) (by omega) (by omega), hQ1.g]
          exact ⟨_, rfl, ResM.thr M⟩
      · subst q
        refine ⟨iI (if who = c then 1 else 0), ?_, ?_⟩
        · intro d M r ni st hQ hst
          have hz := hQ.okz
          have h4 := zn3_le hz
          have hr := hQ.rm
          have hrl := hQ.rl
          have hR := hQ.room
          obtain ⟨⟨tm0, hS⟩, h5, hN, hO, htm, hwho, hw⟩ := id hQ
          show ∃ M' st', X2 (d + 79) m_RW_tenant 0 [.ref 100, .int (iI c), .int (iI 1)] [] M = _ ∧ _
          rw [e_RW_tenant_0, h5, rm_k _ r hr, tt_and, gb_T, c_Room_hasTenant _ hr hR hz, bI_some, iI_toInt (by omega) (by omega), decide_eq_true hc, b2i_t, if_neg (by decide), if_neg (by decide), if_neg (by decide), if_neg (by decide), if_pos rfl, hN.2.1]
          refine ⟨M, st, ?_, Eqx.rf, hQ, by omega⟩
          by_cases q : who = c
          · rw [if_pos q, if_pos (by rw [cwho, if_neg (by omega), q])]
          · rw [if_neg q, if_neg]
            rw [cwho]
            split
            · rw [iI_eq (by omega) (by omega) (by omega) (by omega)]; omega
            · rw [iI_eq (by omega) (by omega) (by omega) (by omega)]; omega
        · intro d M hQ
          have hz := hQ.2.1
          have h4 := zn3_le hz
          have hQ1 := hQ.res (ResM.thr M)
          have hw := hQ.2.2.2.2.2.2.2.2
          have hwho := hQ.2.2.2.2.2.2.2.1
          show ∃ M', X2 (d + 79) m_Mo_tenant 0 [.ref 197, .int (iI c), .int (iI 1)] [] M = _ ∧ _
          rw [e_Mo_tenant_0, c_Mo_isTenant _ hQ1.okz, bI_some, hQ1.1, i2l_iI (by omega) (by omega), lI_toInt (by omega) (by omega), decide_eq_true hc, b2i_t, if_neg (by decide), if_neg (by decide), if_pos rfl, hQ1.who]
          refine ⟨_, ?_, ResM.thr M⟩
          by_cases q : who = c
          · rw [if_pos q, if_pos (by rw [q])]
          · rw [if_neg q, if_neg (by rw [iI_eq (by omega) (by omega) (by omega) (by omega)]; omega)]
      · subst q
        refine ⟨iI (b2i (goB z c w 0)), ?_, ?_⟩
        · intro d M r ni st hQ hst
          have hz := hQ.okz
          have h4 := zn3_le hz
          have hr := hQ.rm
          have hrl := hQ.rl
          have hR := hQ.room
          obtain ⟨⟨tm0, hS⟩, h5, hN, hO, htm, hwho, hw⟩ := id hQ
          obtain ⟨M1, e1, hE1, hS1⟩ := c_Stp_isGoingS (d + 76) (t := c) (w := w) (bl := 0) hS (by omega) hw (by decide)
          have hE2 : Eqx (scr r) M M1 := hE1.mono (scr_sub (by intro a ha; simp only [List.mem_cons, List.not_mem_nil, or_false] at ha; omega))
          show ∃ M' st', X2 (d + 79) m_RW_tenant 0 [.ref 100, .int (iI c), .int (iI 2)] [] M = _ ∧ _
          rw [e_RW_tenant_0, h5, rm_k _ r hr, tt_and, gb_T, c_Room_hasTenant _ hr hR hz, bI_some, iI_toInt (by omega) (by omega), decide_eq_true hc, b2i_t, if_neg (by decide), if_neg (by decide), if_neg (by decide), if_neg (by decide), if_neg (by decide), hN.1, show iI 2 - iI 2 = iI ((0 : Nat) : Int) from by decide, e1, bI_some, goT, decide_eq_true hc', Bool.true_and]
          refine ⟨M1, st, ?_, hE2, hQ.fr hE2 hS1, by omega⟩
          cases goB z c w 0 <;> rfl
        · intro d M hQ
          have hz := hQ.2.1
          have h4 := zn3_le hz
          have hQ1 := hQ.res (ResM.thr M)
          have hw := hQ.2.2.2.2.2.2.2.2
          have hwho := hQ.2.2.2.2.2.2.2.1
          obtain ⟨M1, e1, hE1⟩ := c_Mo_goesBy (d + 76) (M := wI M 197 0 (iI 0)) (t := c) (w := w) (bl := 0) hQ1.okz (by rw [hQ1.1]; exact hc') (by omega)
          show ∃ M', X2 (d + 79) m_Mo_tenant 0 [.ref 197, .int (iI c), .int (iI 2)] [] M = _ ∧ _
          rw [e_Mo_tenant_0, c_Mo_isTenant _ hQ1.okz, bI_some, hQ1.1, i2l_iI (by omega) (by omega), lI_toInt (by omega) (by omega), decide_eq_true hc, b2i_t, if_neg (by decide), if_neg (by decide), if_neg (by decide), if_pos rfl, hQ1.w, show iI 2 - iI 2 = iI ((0 : Nat) : Int) from by decide, e1, bI_some, hQ1.1]
          refine ⟨M1, ?_, (ResM.thr M).tr (ResM.of hE1 (by intro a ha; simp only [List.mem_cons, List.not_mem_nil, or_false] at ha; omega))⟩
          cases goB z c w 0 <;> rfl
      · subst q
        refine ⟨iI (b2i (goB z c w 1)), ?_, ?_⟩
        · intro d M r ni st hQ hst
          have hz := hQ.okz
          have h4 := zn3_le hz
          have hr := hQ.rm
          have hrl := hQ.rl
          have hR := hQ.room
          obtain ⟨⟨tm0, hS⟩, h5, hN, hO, htm, hwho, hw⟩ := id hQ
          obtain ⟨M1, e1, hE1, hS1⟩ := c_Stp_isGoingS (d + 76) (t := c) (w := w) (bl := 1) hS (by omega) hw (by decide)
          have hE2 : Eqx (scr r) M M1 := hE1.mono (scr_sub (by intro a ha; simp only [List.mem_cons, List.not_mem_nil, or_false] at ha; omega))
          show ∃ M' st', X2 (d + 79) m_RW_tenant 0 [.ref 100, .int (iI c), .int (iI 3)] [] M = _ ∧ _
          rw [e_RW_tenant_0, h5, rm_k _ r hr, tt_and, gb_T, c_Room_hasTenant _ hr hR hz, bI_some, iI_toInt (by omega) (by omega), decide_eq_true hc, b2i_t, if_neg (by decide), if_neg (by decide), if_neg (by decide), if_neg (by decide), if_neg (by decide), hN.1, show iI 3 - iI 2 = iI ((1 : Nat) : Int) from by decide, e1, bI_some, goT, decide_eq_true hc', Bool.true_and]
          refine ⟨M1, st, ?_, hE2, hQ.fr hE2 hS1, by omega⟩
          cases goB z c w 1 <;> rfl
        · intro d M hQ
          have hz := hQ.2.1
          have h4 := zn3_le hz
          have hQ1 := hQ.res (ResM.thr M)
          have hw := hQ.2.2.2.2.2.2.2.2
          have hwho := hQ.2.2.2.2.2.2.2.1
          obtain ⟨M1, e1, hE1⟩ := c_Mo_goesBy (d + 76) (M := wI M 197 0 (iI 0)) (t := c) (w := w) (bl := 1) hQ1.okz (by rw [hQ1.1]; exact hc') (by omega)
          show ∃ M', X2 (d + 79) m_Mo_tenant 0 [.ref 197, .int (iI c), .int (iI 3)] [] M = _ ∧ _
          rw [e_Mo_tenant_0, c_Mo_isTenant _ hQ1.okz, bI_some, hQ1.1, i2l_iI (by omega) (by omega), lI_toInt (by omega) (by omega), decide_eq_true hc, b2i_t, if_neg (by decide), if_neg (by decide), if_neg (by decide), if_neg (by decide), if_pos rfl, hQ1.w, show iI 3 - iI 2 = iI ((1 : Nat) : Int) from by decide, e1, bI_some, hQ1.1]
          refine ⟨M1, ?_, (ResM.thr M).tr (ResM.of hE1 (by intro a ha; simp only [List.mem_cons, List.not_mem_nil, or_false] at ha; omega))⟩
          cases goB z c w 1 <;> rfl
    · refine ⟨iI (-2), ?_, ?_⟩
      ·
          intro d M r ni st hQ hst
          have hz := hQ.okz
          have h4 := zn3_le hz
          have hr := hQ.rm
          have hrl := hQ.rl
          have hR := hQ.room
          obtain ⟨⟨tm0, hS⟩, h5, hN, hO, htm, hwho, hw⟩ := id hQ
          show ∃ M' st', X2 (d + 79) m_RW_tenant 0 [.ref 100, .int (iI c), .int (iI k)] [] M = _ ∧ _
          rw [e_RW_tenant_0, h5, rm_k _ r hr, tt_and, gb_T, c_Room_hasTenant _ hr hR hz, bI_some, iI_toInt (by omega) (by omega), decide_eq_true hc, b2i_t, if_neg (by decide)]
          simp only [iI_lt0 k1 k2, iI_lt (show (-2147483648 : Int) ≤ 3 by omega) (show (3 : Int) ≤ 2147483647 by omega) k1 k2]
          by_cases q : k < 0
          · rw [if_pos q]; exact ⟨M, st, rfl, Eqx.rf, hQ, by omega⟩
          · rw [if_neg q, if_pos (by omega)]; exact ⟨M, st, rfl, Eqx.rf, hQ, by omega⟩
      ·
          intro d M hQ
          have hz := hQ.2.1
          have h4 := zn3_le hz
          have hQ1 := hQ.res (ResM.thr M)
          have hw := hQ.2.2.2.2.2.2.2.2
          have hwho := hQ.2.2.2.2.2.2.2.1
          have ne : ∀ j : Int, 0 ≤ j → j ≤ 3 → iI k ≠ iI j := fun j h1 h2 => by rw [Ne, iI_eq k1 k2 (by omega) (by omega)]; omega
          show ∃ M', X2 (d + 79) m_Mo_tenant 0 [.ref 197, .int (iI c), .int (iI k)] [] M = _ ∧ _
          rw [e_Mo_tenant_0, c_Mo_isTenant _ hQ1.okz, bI_some, hQ1.1, i2l_iI (by omega) (by omega), lI_toInt (by omega) (by omega), decide_eq_true hc, b2i_t, if_neg (by decide), if_neg (ne 0 (by decide) (by decide)), if_neg (ne 1 (by decide) (by decide)), if_neg (ne 2 (by decide) (by decide)), if_neg (ne 3 (by decide) (by decide))]
          exact ⟨_, rfl, ResM.thr M⟩
  · refine ⟨iI (-2), ?_, ?_⟩
    ·
          intro d M r ni st hQ hst
          have hz := hQ.okz
          have h4 := zn3_le hz
          have hr := hQ.rm
          have hrl := hQ.rl
          have hR := hQ.room
          obtain ⟨⟨tm0, hS⟩, h5, hN, hO, htm, hwho, hw⟩ := id hQ
          show ∃ M' st', X2 (d + 79) m_RW_tenant 0 [.ref 100, .int (iI c), .int (iI k)] [] M = _ ∧ _
          rw [e_RW_tenant_0, h5, rm_k _ r hr, tt_and, gb_T, c_Room_hasTenant _ hr hR hz, bI_some, iI_toInt c1 c2, decide_eq_false hc, b2i_f, if_pos (by decide)]
          exact ⟨M, st, rfl, Eqx.rf, hQ, by omega⟩
    ·
          intro d M hQ
          have hz := hQ.2.1
          have h4 := zn3_le hz
          have hQ1 := hQ.res (ResM.thr M)
          have hw := hQ.2.2.2.2.2.2.2.2
          have hwho := hQ.2.2.2.2.2.2.2.1
          show ∃ M', X2 (d + 79) m_Mo_tenant 0 [.ref 197, .int (iI c), .int (iI k)] [] M = _ ∧ _
          rw [e_Mo_tenant_0, c_Mo_isTenant _ hQ1.okz, bI_some, hQ1.1, i2l_iI c1 c2, lI_toInt (by omega) (by omega), decide_eq_false hc, b2i_f, if_pos (by decide)]
          exact ⟨_, rfl, ResM.thr M⟩
