/-! chance, gone, best. -/
theorem ten8 {n : Nat} (h : n ≤ 8) : 10 ^ n ≤ 100000000 := Nat.pow_le_pow_right (n := 10) (by decide) h
theorem p_chance (z : Row) (w who tm : Nat) (x1 x2 : Int32) : PairQ m_RW_chance m_Mo_chance [.int x1, .int x2] z w who tm := by
  intro d M r ni st hQ hst
  obtain ⟨n, rfl, n1, n2⟩ := iI_ex x1
  obtain ⟨k, rfl, k1, k2⟩ := iI_ex x2
  have hz := hQ.okz
  have hr := hQ.rm
  have hrl := hQ.rl
  have hR := hQ.room
  have ho := zn_rng hz.1.2.2.2.2.1 (by decide)
  have eo : z 5 = iI (zn z 5) := zn_eq hz.1.2.2.2.2.1 (by decide)
  generalize zn z 5 = o at *
  obtain ⟨_, h5, hN, hO, htm, hwho, hw⟩ := id hQ
  show ∃ v M' st', X2 (d + 79) m_RW_chance 0 [.ref 100, .int (iI n), .int (iI k), uns, uns, uns] [] M = _ ∧ _
  rw [e_RW_chance_0, hN.2.1]
  simp only [cw_eq hwho, iI_lt0 k1 k2, iI_lt0 n1 n2, iI_lt (show (-2147483648 : Int) ≤ 1 by omega) (show (1 : Int) ≤ 2147483647 by omega) k1 k2, iI_lt (show (-2147483648 : Int) ≤ 8 by omega) (show (8 : Int) ≤ 2147483647 by omega) n1 n2]
  by_cases hk : 0 ≤ k ∧ k ≤ 1
  · rw [if_neg (show ¬ (k < 0) by omega), if_neg (show ¬ (1 < k) by omega)]
    by_cases hn : 0 ≤ n ∧ n ≤ 8
    · rw [if_neg (show ¬ (n < 0) by omega), if_neg (show ¬ (8 < n) by omega)]
      by_cases h4 : who = 4
      · rw [if_pos h4]
        refine ⟨_, M, st, rfl, Eqx.rf, hQ, by omega, ?_⟩
        intro M2 hM
        have hM1 := hM.res (ResM.thr M2)
        show ∃ M2', X2 (d + 79) m_Mo_chance 0 [.ref 197, .int (iI n), .int (iI k), uns] [] M2 = _ ∧ _
        rw [e_Mo_chance_0, c_Mo_within, bI_some, i2l_iI (by omega) (by omega), lI_toInt (by omega) (by omega), lI_toInt (by omega) (by omega), lI_toInt (by omega) (by omega), decide_eq_true hk, b2i_t, if_neg (by decide), c_Mo_within, bI_some, i2l_iI (by omega) (by omega), lI_toInt (by omega) (by omega), lI_toInt (by omega) (by omega), lI_toInt (by omega) (by omega), decide_eq_true hn, b2i_t, if_neg (by decide), hM1.who, if_pos (show iI who = iI 4 by rw [h4]; rfl)]
        exact ⟨_, rfl, ResM.thr M2⟩
      · rw [if_neg h4]
        obtain ⟨n, rfl⟩ := Int.eq_ofNat_of_zero_le hn.1
        have hn8 : n ≤ 8 := by omega
        have ht8 := ten8 hn8
        have ht0 : 0 < 10 ^ n := Nat.pow_pos (by decide)
        obtain ⟨M1, st1, e1, hE1, hS1, hle, hQ1⟩ := hQ.hre (d + 76) (by omega)
        obtain ⟨M2, e2, hE2, hS2⟩ := c_RW_share (r := r) (tm := tm) (st := st1) eo (by omega) n (d + 73 - n) (w + 512 * who) M1 hn8 hS1 hQ1.2.1 (by omega)
        rw [show d + 73 - n + 6 + n = d + 79 by omega] at e2
        have hsl := shN_le z tm (o := o) (by omega) n (w + 512 * who)
        have hsr := sh_rN hz tm o n (5 * w + who) hO
        rw [← plc_now hwho] at hsr
        obtain ⟨A, hA⟩ : ∃ A, A = rN (thn z tm) (10 - o) o n phi0 (5 * w + who) := ⟨_, rfl⟩
        rw [hsr, ← hA] at e2 hsl
        have hE3 : Eqx (scr r) M M2 := hE1.tr (hE2.mono (scr_sub (by intro a ha; simp only [List.mem_cons, List.not_mem_nil, or_false] at ha; omega)))
        have hg : 0 < Nat.gcd A (10 ^ n) := Nat.gcd_pos_of_pos_right _ ht0
        have hg2 : Nat.gcd A (10 ^ n) ≤ 10 ^ n := Nat.gcd_le_right _ ht0
        have n0 : iI (Nat.gcd A (10 ^ n) : Int) ≠ 0 := by rw [Ne, iI_eq0 (by omega) (by omega)]; omega
        have cmn : ∀ M, c2 (d + 79) m_Mo_common [.int (iI A), .int (iI ((10 ^ n : Nat) : Int))] M = some (.int (iI (Nat.gcd A (10 ^ n))), M) := fun M => c_Mo_common 27 A (10 ^ n) (d + 24) M (by omega) (Nat.lt_of_le_of_lt ht8 (by decide)) (by omega)
        rw [e1, bI_some, e2, bI_some, c_RW_powerOfTen _ hn8, bI_some, c_RW_commonDivisor _ (by omega) (Nat.lt_of_le_of_lt ht8 (by decide)), bI_some, if_neg (show ¬ (iI (Nat.gcd A (10 ^ n) : Int) < iI 1) by rw [iI_lt (by omega) (by omega) (by omega) (by omega)]; omega), gb_nz n0, gb_nz n0]
        rcases (show k = 0 ∨ k = 1 by omega) with q | q
        · subst q
          rw [if_pos (show iI 0 = 0 from rfl)]
          refine ⟨_, M2, st1, rfl, hE3, hQ.fr hE3 hS2, hle, ?_⟩
          intro M3 hM
          have hM1 := hM.res (ResM.thr M3)
          obtain ⟨M4, e4, hR4⟩ := c_Mo_chanceOf (d + 71) (t := who) (n := n) (o := o) hM1 eo (by omega) hO hwho hn8
          rw [← hA] at e4
          show ∃ M2', X2 (d + 79) m_Mo_chance 0 [.ref 197, .int (iI n), .int (iI 0), uns] [] M3 = _ ∧ _
          rw [e_Mo_chance_0, c_Mo_within, bI_some, i2l_iI (by omega) (by omega), lI_toInt (by omega) (by omega), lI_toInt (by omega) (by omega), decide_eq_true hk, b2i_t, if_neg (by decide), c_Mo_within, bI_some, i2l_iI (by omega) (by omega), lI_toInt (by omega) (by omega), lI_toInt (by omega) (by omega), lI_toInt (by omega) (by omega), decide_eq_true hn, b2i_t, if_neg (by decide), hM1.who, if_neg (show ¬ (iI who = iI 4) by rw [who_eq hwho]; exact h4), e4, bI_some, if_pos (show iI 0 = 0 from rfl), c_Mo_wholeOf _ hn8, bI_some, cmn, bI_some, gb_nz n0]
          exact ⟨_, rfl, (ResM.thr M3).tr hR4⟩
        · subst q
          rw [if_neg (show ¬ (iI 1 = 0) by decide)]
          refine ⟨_, M2, st1, rfl, hE3, hQ.fr hE3 hS2, hle, ?_⟩
          intro M3 hM
          have hM1 := hM.res (ResM.thr M3)
          obtain ⟨M4, e4, hR4⟩ := c_Mo_chanceOf (d + 71) (t := who) (n := n) (o := o) hM1 eo (by omega) hO hwho hn8
          rw [← hA] at e4
          show ∃ M2', X2 (d + 79) m_Mo_chance 0 [.ref 197, .int (iI n), .int (iI 1), uns] [] M3 = _ ∧ _
          rw [e_Mo_chance_0, c_Mo_within, bI_some, i2l_iI (by omega) (by omega), lI_toInt (by omega) (by omega), lI_toInt (by omega) (by omega), decide_eq_true hk, b2i_t, if_neg (by decide), c_Mo_within, bI_some, i2l_iI (by omega) (by omega), lI_toInt (by omega) (by omega), lI_toInt (by omega) (by omega), lI_toInt (by omega) (by omega), decide_eq_true hn, b2i_t, if_neg (by decide), hM1.who, if_neg (show ¬ (iI who = iI 4) by rw [who_eq hwho]; exact h4), e4, bI_some, if_neg (show ¬ (iI 1 = 0) by decide), c_Mo_wholeOf _ hn8, bI_some, c_Mo_wholeOf _ hn8, bI_some, cmn, bI_some, gb_nz n0]
          exact ⟨_, rfl, (ResM.thr M3).tr hR4⟩
    · by_cases q : n < 0
      · rw [if_pos q]
        refine ⟨_, M, st, rfl, Eqx.rf, hQ, by omega, ?_⟩
        intro M2 hM
        have hM1 := hM.res (ResM.thr M2)
        show ∃ M2', X2 (d + 79) m_Mo_chance 0 [.ref 197, .int (iI n), .int (iI k), uns] [] M2 = _ ∧ _
        rw [e_Mo_chance_0, c_Mo_within, bI_some, i2l_iI k1 k2, lI_toInt (by omega) (by omega), lI_toInt (by omega) (by omega), lI_toInt (by omega) (by omega), decide_eq_true hk, b2i_t, if_neg (by decide), c_Mo_within, bI_some, i2l_iI n1 n2, lI_toInt (by omega) (by omega), lI_toInt (by omega) (by omega), lI_toInt (by omega) (by omega), decide_eq_false hn, b2i_f, if_pos (by decide)]
        exact ⟨_, rfl, ResM.thr M2⟩
      · rw [if_neg q, if_pos (show 8 < n by omega)]
        refine ⟨_, M, st, rfl, Eqx.rf, hQ, by omega, ?_⟩
        intro M2 hM
        have hM1 := hM.res (ResM.thr M2)
        show ∃ M2', X2 (d + 79) m_Mo_chance 0 [.ref 197, .int (iI n), .int (iI k), uns] [] M2 = _ ∧ _
        rw [e_Mo_chance_0, c_Mo_within, bI_some, i2l_iI k1 k2, lI_toInt (by omega) (by omega), lI_toInt (by omega) (by omega), lI_toInt (by omega) (by omega), decide_eq_true hk, b2i_t, if_neg (by decide), c_Mo_within, bI_some, i2l_iI n1 n2, lI_toInt (by omega) (by omega), lI_toInt (by omega) (by omega), lI_toInt (by omega) (by omega), decide_eq_false hn, b2i_f, if_pos (by decide)]
        exact ⟨_, rfl, ResM.thr M2⟩
  · by_cases q : k < 0
    · rw [if_pos q]
      refine ⟨_, M, st, rfl, Eqx.rf, hQ, by omega, ?_⟩
      intro M2 hM
      have hM1 := hM.res (ResM.thr M2)
      show ∃ M2', X2 (d + 79) m_Mo_chance 0 [.ref 197, .int (iI n), .int (iI k), uns] [] M2 = _ ∧ _
      rw [e_Mo_chance_0, c_Mo_within, bI_some, i2l_iI k1 k2, lI_toInt (by omega) (by omega), lI_toInt (by omega) (by omega), lI_toInt (by omega) (by omega), decide_eq_false hk, b2i_f, if_pos (by decide)]
      exact ⟨_, rfl, ResM.thr M2⟩
    · rw [if_neg q, if_pos (show 1 < k by omega)]
      refine ⟨_, M, st, rfl, Eqx.rf, hQ, by omega, ?_⟩
      intro M2 hM
      have hM1 := hM.res (ResM.thr M2)
      show ∃ M2', X2 (d + 79) m_Mo_chance 0 [.ref 197, .int (iI n), .int (iI k), uns] [] M2 = _ ∧ _
      rw [e_Mo_chance_0, c_Mo_within, bI_some, i2l_iI k1 k2, lI_toInt (by omega) (by omega), lI_toInt (by omega) (by omega), lI_toInt (by omega) (by omega), decide_eq_false hk, b2i_f, if_pos (by decide)]
      exact ⟨_, rfl, ResM.thr M2⟩
def goneB (A : Nat → Nat) (m : Int) (n : Nat) : Bool := decide (lg_cmp ((iI (A n)).toInt64 * lI 100) ((iI m).toInt64 * (iI ((10 ^ n : Nat) : Int)).toInt64) < 0)
theorem p_gone (z : Row) (w who tm : Nat) (x1 : Int32) : PairQ m_RW_gone m_Mo_gone [.int x1] z w who tm := by
  intro d M r ni st hQ hst
  obtain ⟨m, rfl, n1, n2⟩ := iI_ex x1
  have hz := hQ.okz
  have hr := hQ.rm
  have hrl := hQ.rl
  have hR := hQ.room
  have ho := zn_rng hz.1.2.2.2.2.1 (by decide)
  have eo : z 5 = iI (zn z 5) := zn_eq hz.1.2.2.2.2.1 (by decide)
  generalize zn z 5 = o at *
  obtain ⟨_, h5, hN, hO, htm, hwho, hw⟩ := id hQ
  show ∃ v M' st', X2 (d + 79) m_RW_gone 0 [.ref 100, .int (iI m), uns, uns] [] M = _ ∧ _
  rw [e_RW_gone_0, hN.2.1]
  simp only [cw_eq hwho, iI_lt0 n1 n2, iI_lt (show (-2147483648 : Int) ≤ 100 by omega) (show (100 : Int) ≤ 2147483647 by omega) n1 n2]
  by_cases hn : 0 ≤ m ∧ m ≤ 100
  · rw [if_neg (show ¬ (m < 0) by omega), if_neg (show ¬ (100 < m) by omega)]
    by_cases h4 : who = 4
    · rw [if_pos h4]
      refine ⟨_, M, st, rfl, Eqx.rf, hQ, by omega, ?_⟩
      intro M2 hM
      have hM1 := hM.res (ResM.thr M2)
      show ∃ M2', X2 (d + 79) m_Mo_gone 0 [.ref 197, .int (iI m), uns] [] M2 = _ ∧ _
      rw [e_Mo_gone_0, c_Mo_within, bI_some, i2l_iI (by omega) (by omega), lI_toInt (by omega) (by omega), lI_toInt (by omega) (by omega), lI_toInt (by omega) (by omega), decide_eq_true hn, b2i_t, if_neg (by decide), hM1.who, if_pos (show iI who = iI 4 by rw [h4]; rfl)]
      exact ⟨_, rfl, ResM.thr M2⟩
    · rw [if_neg h4]
      obtain ⟨A, hA⟩ : ∃ A : Nat → Nat, A = fun n => rN (thn z tm) (10 - o) o n phi0 (5 * w + who) := ⟨_, rfl⟩
      obtain ⟨M1, st1, e1, hE1, hS1, hle, hQ1⟩ := hQ.hre (d + 76) (by omega)
      have go : ∀ (j n : Nat) (M' : Mem), j + n = 9 → Eqx (scr r) M M' → StepsC M' r z tm st1 → ∃ M2, X2 (d + 79) m_RW_gone 34 [.ref 100, .int (iI m), .int (iI ((w + 512 * who : Nat) : Int)), .int (iI n)] [] M' = some (.int (iI (fstB (goneB A m) j n)), M2) ∧ Eqx (scr r) M M2 ∧ StepsC M2 r z tm st1 := by
        intro j
        induction j with
        | zero =>
          intro n M' hj hE hS
          rw [e_RW_gone_34, if_pos (by rw [iI_lt (by omega) (by omega) (by omega) (by omega)]; omega)]
          exact ⟨M', rfl, hE, hS⟩
        | succ j ih =>
          intro n M' hj hE hS
          have hn8 : n ≤ 8 := by omega
          obtain ⟨M2, e2, hE2, hS2⟩ := c_RW_share (r := r) (tm := tm) (st := st1) eo (by omega) n (d + 73 - n) (w + 512 * who) M' hn8 hS ((eqx_R hE (scr_n hrl.1 (by omega)) 5).trans h5) (by omega)
          rw [show d + 73 - n + 6 + n = d + 79 by omega] at e2
          have hsr := sh_rN hz tm o n (5 * w + who) hO
          rw [← plc_now hwho] at hsr
          rw [hsr, ← congrFun hA n] at e2
          have hE3 : Eqx (scr r) M M2 := hE.tr (hE2.mono (scr_sub (by intro a ha; simp only [List.mem_cons, List.not_mem_nil, or_false] at ha; omega)))
          rw [e_RW_gone_34, if_neg (by rw [iI_lt (by omega) (by omega) (by omega) (by omega)]; omega), e2, bI_some, c_RW_powerOfTen _ hn8, bI_some, fstB, goneB, iI_add]
          by_cases q : lg_cmp ((iI (A n)).toInt64 * lI 100) ((iI m).toInt64 * (iI ((10 ^ n : Nat) : Int)).toInt64) < 0
          · rw [if_pos q, if_pos (decide_eq_true q)]
            exact ⟨M2, rfl, hE3, hS2⟩
          · rw [if_neg q, if_neg (by rw [decide_eq_true_iff]; exact q)]
            exact ih (n + 1) M2 (by omega) hE3 hS2
      obtain ⟨M2, e2, hE2, hS2⟩ := go 9 0 M1 rfl hE1 hS1
      rw [e1, bI_some]
      refine ⟨_, M2, st1, e2, hE2, hQ.fr hE2 hS2, hle, ?_⟩
      intro M3 hM
      have hM1 := hM.res (ResM.thr M3)
      have gr : ∀ (j n : Nat) (M' : Mem), j + n = 9 → ResM M3 M' → ∃ M2, X2 (d + 79) m_Mo_gone 36 [.ref 197, .int (iI m), .int (iI n)] [] M' = some (.int (iI (fstB (goneB A m) j n)), M2) ∧ ResM M3 M2 := by
        intro j
        induction j with
        | zero =>
          intro n M' hj hR
          rw [e_Mo_gone_36, if_pos (by rw [iI_lt (by omega) (by omega) (by omega) (by omega)]; omega)]
          exact ⟨M', rfl, hR⟩
        | succ j ih =>
          intro n M' hj hR
          have hn8 : n ≤ 8 := by omega
          obtain ⟨M4, e4, hR4⟩ := c_Mo_chanceOf (d + 71) (t := who) (n := n) (o := o) (hM.res hR) eo (by omega) hO hwho hn8
          rw [← congrFun hA n] at e4
          rw [e_Mo_gone_36, if_neg (by rw [iI_lt (by omega) (by omega) (by omega) (by omega)]; omega), (hM.res hR).who, e4, bI_some, c_Mo_wholeOf _ hn8, bI_some, fstB, goneB, iI_add, Int64.mul_comm (lI 100)]
          by_cases q : lg_cmp ((iI (A n)).toInt64 * lI 100) ((iI m).toInt64 * (iI ((10 ^ n : Nat) : Int)).toInt64) < 0
          · rw [if_pos q, if_pos (decide_eq_true q)]
            exact ⟨M4, rfl, hR.tr hR4⟩
          · rw [if_neg q, if_neg (by rw [decide_eq_true_iff]; exact q)]
            exact ih (n + 1) M4 (by omega) (hR.tr hR4)
      show ∃ M2', X2 (d + 79) m_Mo_gone 0 [.ref 197, .int (iI m), uns] [] M3 = _ ∧ _
      rw [e_Mo_gone_0, c_Mo_within, bI_some, i2l_iI (by omega) (by omega), lI_toInt (by omega) (by omega), lI_toInt (by omega) (by omega), lI_toInt (by omega) (by omega), decide_eq_true hn, b2i_t, if_neg (by decide), hM1.who, if_neg (show ¬ (iI who = iI 4) by rw [who_eq hwho]; exact h4)]
      exact gr 9 0 _ rfl (ResM.thr M3)
  · by_cases q : m < 0
    · rw [if_pos q]
      refine ⟨_, M, st, rfl, Eqx.rf, hQ, by omega, ?_⟩
      intro M2 hM
      have hM1 := hM.res (ResM.thr M2)
      show ∃ M2', X2 (d + 79) m_Mo_gone 0 [.ref 197, .int (iI m), uns] [] M2 = _ ∧ _
      rw [e_Mo_gone_0, c_Mo_within, bI_some, i2l_iI n1 n2, lI_toInt (by omega) (by omega), lI_toInt (by omega) (by omega), lI_toInt (by omega) (by omega), decide_eq_false hn, b2i_f, if_pos (by decide)]
      exact ⟨_, rfl, ResM.thr M2⟩
    · rw [if_neg q, if_pos (show 100 < m by omega)]
      refine ⟨_, M, st, rfl, Eqx.rf, hQ, by omega, ?_⟩
      intro M2 hM
      have hM1 := hM.res (ResM.thr M2)
      show ∃ M2', X2 (d + 79) m_Mo_gone 0 [.ref 197, .int (iI m), uns] [] M2 = _ ∧ _
      rw [e_Mo_gone_0, c_Mo_within, bI_some, i2l_iI n1 n2, lI_toInt (by omega) (by omega), lI_toInt (by omega) (by omega), lI_toInt (by omega) (by omega), decide_eq_false hn, b2i_f, if_pos (by decide)]
      exact ⟨_, rfl, ResM.thr M2⟩
def bsF (A : Nat → Nat) : Nat → Int × Int
  | 0 => (-1, -1)
  | k + 1 => if (bsF A k).2 < (A k : Int) then ((k : Int), (A k : Int)) else bsF A k
theorem bsF_b {A : Nat → Nat} {b : Nat} : ∀ k, (∀ t, t < k → A t ≤ b) → -1 ≤ (bsF A k).2 ∧ (bsF A k).2 ≤ b
  | 0, _ => ⟨by show (-1 : Int) ≤ -1; omega, by show (-1 : Int) ≤ _; omega⟩
  | k + 1, h => by
    have h1 := bsF_b k (fun t ht => h t (by omega))
    have h2 := h k (by omega)
    rw [bsF]
    split
    · exact ⟨by show (-1 : Int) ≤ (A k : Int); omega, by show (A k : Int) ≤ _; omega⟩
    · exact h1
theorem p_best (z : Row) (w who tm : Nat) (x1 : Int32) : PairQ m_RW_best m_Mo_best [.int x1] z w who tm := by
  intro d M r ni st hQ hst
  obtain ⟨n, rfl, n1, n2⟩ := iI_ex x1
  have hz := hQ.okz
  have hr := hQ.rm
  have hrl := hQ.rl
  have hR := hQ.room
  have ho := zn_rng hz.1.2.2.2.2.1 (by decide)
  have eo : z 5 = iI (zn z 5) := zn_eq hz.1.2.2.2.2.1 (by decide)
  generalize zn z 5 = o at *
  obtain ⟨_, h5, hN, hO, htm, hwho, hw⟩ := id hQ
  have h34 := zn3_le hz
  show ∃ v M' st', X2 (d + 79) m_RW_best 0 [.ref 100, .int (iI n), uns, uns, uns, uns] [] M = _ ∧ _
  rw [e_RW_best_0]
  simp only [iI_lt0 n1 n2, iI_lt (show (-2147483648 : Int) ≤ 8 by omega) (show (8 : Int) ≤ 2147483647 by omega) n1 n2]
  by_cases hn : 0 ≤ n ∧ n ≤ 8
  · rw [if_neg (show ¬ (n < 0) by omega), if_neg (show ¬ (8 < n) by omega)]
    obtain ⟨n, rfl⟩ := Int.eq_ofNat_of_zero_le hn.1
    have hn8 : n ≤ 8 := by omega
    have ht8 := ten8 hn8
    obtain ⟨A, hA⟩ : ∃ A : Nat → Nat, A = fun t => rN (thn z tm) (10 - o) o n phi0 (5 * w + t) := ⟨_, rfl⟩
    have hok : ∀ t, t < zn z 3 → OkS z (5 * w + t) := fun t ht => ⟨by have := hO.1; omega, by rw [show (5 * w + t) % 5 = t by omega]; exact Or.inr ht⟩
    have hsr : ∀ t, t < zn z 3 → shN z tm o n (w + 512 * t) = A t := fun t ht => by
      rw [plc_now (show t < 5 by omega), sh_rN hz tm o n _ (hok t ht), hA]
    have hAb : ∀ t, t < zn z 3 → A t ≤ 100000000 := fun t ht => by
      have := shN_le z tm (o := o) (by omega) n (w + 512 * t)
      rw [hsr t ht] at this; omega
    obtain ⟨M1, st1, e1, hE1, hS1, hle⟩ := c_RW_tuneQ (d + 78) hQ (by omega)
    have go : ∀ (j t : Nat) (M' : Mem) (v5 : Value), j + t = zn z 3 → Eqx (scr r) M M' → StepsC M' r z tm st1 → ∃ M2, X2 (d + 79) m_RW_best 34 [.ref 100, .int (iI n), .int (iI (bsF A t).1), .int (iI (bsF A t).2), .int (iI t), v5] [] M' = some (.int (iI (bsF A (zn z 3)).1), M2) ∧ Eqx (scr r) M M2 ∧ StepsC M2 r z tm st1 := by
      intro j
      induction j with
      | zero =>
        intro t M' v5 hj hE hS
        have h5' : gR M' 100 5 = r := (eqx_R hE (scr_n hrl.1 (by omega)) 5).trans h5
        rw [e_RW_best_34, h5', rm_k _ r hr, gb_T, hS.2.2.1.g3 hz, if_neg (by rw [iI_lt (by omega) (by omega) (by omega) (by omega)]; omega), show t = zn z 3 by omega]
        exact ⟨M', rfl, hE, hS⟩
      | succ j ih =>
        intro t M' v5 hj hE hS
        have h5' : gR M' 100 5 = r := (eqx_R hE (scr_n hrl.1 (by omega)) 5).trans h5
        have hN' : MomR M' 111 w who tm ni := hN.fr (hE 111 (scr_n hrl.1 (by omega))).1
        obtain ⟨M2, e2, hE2, hS2⟩ := c_RW_share (r := r) (tm := tm) (st := st1) eo (by omega) n (d + 73 - n) (w + 512 * t) M' hn8 hS h5' (by omega)
        rw [show d + 73 - n + 6 + n = d + 79 by omega, hsr t (by omega)] at e2
        have hE3 : Eqx (scr r) M M2 := hE.tr (hE2.mono (scr_sub (by intro a ha; simp only [List.mem_cons, List.not_mem_nil, or_false] at ha; omega)))
        have hb := bsF_b (A := A) t (fun s hs => hAb s (by omega))
        have hAt := hAb t (by omega)
        have ec : iI (t : Int) = iI (cwho t) := by rw [cwho, if_neg (by omega)]
        obtain ⟨M3, e3, hE4, hS4⟩ := ih (t + 1) M2 (.int (iI (A t))) (by omega) hE3 hS2
        refine ⟨M3, ?_, hE4, hS4⟩
        rw [e_RW_best_34, h5', rm_k _ r hr, gb_T, hS.2.2.1.g3 hz, if_pos (by rw [iI_lt (by omega) (by omega) (by omega) (by omega)]; omega), hN'.1]
        have ep := c_RW_placeOf (d + 78) (w := w) (who := t) hw (by omega) M'
        rw [← ec] at ep
        rw [ep, bI_some, e2, bI_some, iI_add]
        rw [bsF] at e3
        by_cases q : (bsF A t).2 < (A t : Int)
        · rw [if_pos (by rw [iI_lt (by omega) (by omega) (by omega) (by omega)]; exact q)]
          rw [if_pos q] at e3; exact e3
        · rw [if_neg (by rw [iI_lt (by omega) (by omega) (by omega) (by omega)]; exact q)]
          rw [if_neg q] at e3; exact e3
    obtain ⟨M2, e2, hE2, hS2⟩ := go (zn z 3) 0 M1 uns (by omega) hE1 hS1
    rw [e1, bV_some]
    refine ⟨_, M2, st1, e2, hE2, hQ.fr hE2 hS2, hle, ?_⟩
    intro M3 hM
    have gr : ∀ (j t : Nat) (M' : Mem) (v5 : Value), j + t = zn z 3 → ResM M3 M' → ∃ M2, X2 (d + 79) m_Mo_best 27 [.ref 197, .int (iI n), .int (iI (bsF A t).1), .int (iI (bsF A t).2), .int (iI t), v5] [] M' = some (.int (iI (bsF A (zn z 3)).1), M2) ∧ ResM M3 M2 := by
      intro j
      induction j with
      | zero =>
        intro t M' v5 hj hR
        rw [e_Mo_best_27, (hM.res hR).g 3, zn_eq hz.1.2.2.1 (by decide), if_neg (by rw [iI_lt (by omega) (by omega) (by omega) (by omega)]; omega), show t = zn z 3 by omega]
        exact ⟨M', rfl, hR⟩
      | succ j ih =>
        intro t M' v5 hj hR
        obtain ⟨M4, e4, hR4⟩ := c_Mo_chanceOf (d + 71) (t := t) (n := n) (o := o) (hM.res hR) eo (by omega) (hok t (by omega)) (by omega) hn8
        rw [← congrFun hA t] at e4
        have hb := bsF_b (A := A) t (fun s hs => hAb s (by omega))
        have hAt := hAb t (by omega)
        obtain ⟨M5, e3, hR5⟩ := ih (t + 1) M4 (.int (iI (A t))) (by omega) (hR.tr hR4)
        refine ⟨M5, ?_, hR5⟩
        rw [e_Mo_best_27, (hM.res hR).g 3, zn_eq hz.1.2.2.1 (by decide), if_pos (by rw [iI_lt (by omega) (by omega) (by omega) (by omega)]; omega), e4, bI_some, iI_add]
        rw [bsF] at e3
        by_cases q : (bsF A t).2 < (A t : Int)
        · rw [if_pos (by rw [iI_lt (by omega) (by omega) (by omega) (by omega)]; exact q)]
          rw [if_pos q] at e3; exact e3
        · rw [if_neg (by rw [iI_lt (by omega) (by omega) (by omega) (by omega)]; exact q)]
          rw [if_neg q] at e3; exact e3
    show ∃ M2', X2 (d + 79) m_Mo_best 0 [.ref 197, .int (iI n), uns, uns, uns, uns] [] M3 = _ ∧ _
    rw [e_Mo_best_0, c_Mo_within, bI_some, i2l_iI (by omega) (by omega), lI_toInt (by omega) (by omega), lI_toInt (by omega) (by omega), lI_toInt (by omega) (by omega), decide_eq_true hn, b2i_t, if_neg (by decide)]
    exact gr (zn z 3) 0 _ uns (by omega) (ResM.thr M3)
  · by_cases q : n < 0
    · rw [if_pos q]
      refine ⟨_, M, st, rfl, Eqx.rf, hQ, by omega, ?_⟩
      intro M2 hM
      have hM1 := hM.res (ResM.thr M2)
      show ∃ M2', X2 (d + 79) m_Mo_best 0 [.ref 197, .int (iI n), uns, uns, uns, uns] [] M2 = _ ∧ _
      rw [e_Mo_best_0, c_Mo_within, bI_some, i2l_iI n1 n2, lI_toInt (by omega) (by omega), lI_toInt (by omega) (by omega), lI_toInt (by omega) (by omega), decide_eq_false hn, b2i_f, if_pos (by decide)]
      exact ⟨_, rfl, ResM.thr M2⟩
    · rw [if_neg q, if_pos (show 8 < n by omega)]
      refine ⟨_, M, st, rfl, Eqx.rf, hQ, by omega, ?_⟩
      intro M2 hM
      have hM1 := hM.res (ResM.thr M2)
      show ∃ M2', X2 (d + 79) m_Mo_best 0 [.ref 197, .int (iI n), uns, uns, uns, uns] [] M2 = _ ∧ _
      rw [e_Mo_best_0, c_Mo_within, bI_some, i2l_iI n1 n2, lI_toInt (by omega) (by omega), lI_toInt (by omega) (by omega), lI_toInt (by omega) (by omega), decide_eq_false hn, b2i_f, if_pos (by decide)]
      exact ⟨_, rfl, ResM.thr M2⟩
