/-! round. -/
def mxR (f : Nat → Nat) (t : Nat) : Nat → Nat
  | 0 => 0
  | j + 1 => if mxR f t j < f (t + j) then f (t + j) else mxR f t j
theorem mxR_le {f : Nat → Nat} {b : Nat} (h : ∀ k, f k ≤ b) (t : Nat) : ∀ j, mxR f t j ≤ b
  | 0 => Nat.zero_le b
  | j + 1 => by
    have := mxR_le h t j
    have := h (t + j)
    unfold mxR
    split <;> omega
def fstB (p : Nat → Bool) : Nat → Nat → Int
  | 0, _ => -1
  | j + 1, k => if p k then (k : Int) else fstB p j (k + 1)
theorem c_Rch_mostTurned (d : Nat) {M : Mem} {N t : Nat} {g : Nat → Nat} (hC : ReachC M N g) (ht : t ≤ N) :
    c2 (d + 2) m_Rch_mostTurned [.ref 133, .int (iI t)] M = some (.int (iI (mxR (fun k => bits (g k % 512)) t (N - t))), M) := by
  have h1 := hC.2.1
  have hb : ∀ k, (fun k => bits (g k % 512)) k ≤ 10 := fun k => bits_le _
  have go : ∀ i j, i + j = N - t → X2 (d + 1) m_Rch_mostTurned 8 [.ref 133, .int (iI t), .int (iI (mxR (fun k => bits (g k % 512)) t j)), .int (iI ((t + j : Nat) : Int))] [] M = some (.int (iI (mxR (fun k => bits (g k % 512)) t (N - t))), M) := by
    intro i
    induction i with
    | zero =>
      intro j hj
      rw [e_Rch_mostTurned_8, hC.1, if_neg (by rw [iI_lt (by omega) (by omega) (by omega) (by omega)]; omega), show j = N - t by omega]
    | succ i ih =>
      intro j hj
      have hm := mxR_le hb t j
      have hb1 := bits_le (g (t + j) % 512)
      rw [e_Rch_mostTurned_8, hC.1, if_pos (by rw [iI_lt (by omega) (by omega) (by omega) (by omega)]; omega), inb_ok (by omega) (by omega) (by omega), gb_T, ix_nat (by omega), (hC.2.2 (t + j) (by omega)).1, and511m, c_Int_bitCount _ (by omega), bI_some, c_Mat_max _ _ _ (by omega) (by omega) (by omega) (by omega), bI_some, iI_add]
      have := ih (j + 1) (by omega)
      rw [mxR] at this
      refine Eq.trans ?_ this
      congr 5
      congr 2
      split
      · rw [if_pos (by omega)]
      · rw [if_neg (by omega)]
  show X2 (d + 1) m_Rch_mostTurned 0 [.ref 133, .int (iI t), uns, uns] [] M = _
  rw [e_Rch_mostTurned_0, show iI 0 = iI ((0 : Nat) : Int) from rfl, c_Mat_max _ _ _ (by omega) (by omega) (by omega) (by omega), bI_some]
  have e0 : (if ((0 : Nat) : Int) < (t : Int) then (t : Int) else ((0 : Nat) : Int)) = ((t + 0 : Nat) : Int) := by split <;> omega
  rw [e0]
  exact go (N - t) 0 (by omega)
theorem c_Rch_firstEmpty (d : Nat) {M : Mem} {N : Nat} {g : Nat → Nat} (hC : ReachC M N g) :
    c2 (d + 1) m_Rch_firstEmpty [.ref 133] M = some (.int (iI (fstB (fun k => decide (g k / 512 = 4)) N 0)), M) := by
  have h1 := hC.2.1
  have go : ∀ j k, j + k = N → X2 d m_Rch_firstEmpty 2 [.ref 133, .int (iI k)] [] M = some (.int (iI (fstB (fun k => decide (g k / 512 = 4)) j k)), M) := by
    intro j
    induction j with
    | zero =>
      intro k hk
      rw [e_Rch_firstEmpty_2, hC.1, if_neg (by rw [iI_lt (by omega) (by omega) (by omega) (by omega)]; omega)]
      rfl
    | succ j ih =>
      intro k hk
      have hp := (hC.2.2 k (by omega)).2.1
      rw [e_Rch_firstEmpty_2, hC.1, if_pos (by rw [iI_lt (by omega) (by omega) (by omega) (by omega)]; omega), inb_ok (by omega) (by omega) (by omega), gb_T, ix_nat (by omega), (hC.2.2 k (by omega)).1, shr9 (by omega), fstB]
      by_cases q : g k / 512 = 4
      · rw [if_pos (by rw [q]; rfl), if_pos (decide_eq_true q)]
      · rw [if_neg (by rw [iI_eq (by omega) (by omega) (by omega) (by omega)]; omega), if_neg (by rw [decide_eq_true_iff]; exact q), iI_add]
        exact ih (k + 1) (by omega)
  show X2 d m_Rch_firstEmpty 0 [.ref 133, uns] [] M = _
  rw [e_Rch_firstEmpty_0]
  exact go N 0 (by omega)
/-- the row that is laid -/
def RowM (M : Mem) (N t : Nat) (h : Nat → Nat) : Prop := t < N ∧ N ≤ 2560 ∧ (∀ i, i < N → gI M 205 i = iI (h i)) ∧ gI M 197 23 = iI t ∧ gI M 197 24 = iI ((N - t : Nat) : Int) ∧ (∀ i, h i < 2560)
theorem RowM.sum {M : Mem} {N t : Nat} {h : Nat → Nat} (hR : RowM M N t h) : gI M 197 23 + gI M 197 24 = iI N := by
  have := hR.1
  rw [hR.2.2.2.1, hR.2.2.2.2.1, iI_add]; congr 1; omega
theorem c_round63 (d : Nat) {M : Mem} {N t : Nat} {h : Nat → Nat} (hR : RowM M N t h) (v1 : Value) (x2 : Int32) : ∀ i j, i + j = N - t → X2 (d + 1) m_Mo_round 63 [.ref 197, v1, .int x2, .int (iI (mxR (fun k => bits (h k / 5)) t j)), .int (iI ((t + j : Nat) : Int))] [] M = (if x2 = iI 2 then some (.int (iI (mxR (fun k => bits (h k / 5)) t (N - t))), M) else X2 (d + 1) m_Mo_round 126 [.ref 197, v1, .int x2, .int (iI (mxR (fun k => bits (h k / 5)) t (N - t))), .int (iI ((1 : Nat) : Int))] [] M) := by
  have hb : ∀ k, (fun k => bits (h k / 5)) k ≤ 10 := fun k => bits_le _
  have h0 := hR.1
  have h1 := hR.2.1
  intro i
  induction i with
  | zero =>
    intro j hj
    rw [e_Mo_round_63, hR.sum, if_neg (by rw [iI_lt (by omega) (by omega) (by omega) (by omega)]; omega), show j = N - t by omega]
    rfl
  | succ i ih =>
    intro j hj
    have hm := mxR_le hb t j
    have hb1 := bits_le (h (t + j) / 5)
    have hl := hR.2.2.2.2.2 (t + j)
    have this := ih (j + 1) (by omega)
    rw [e_Mo_round_63, hR.sum, if_pos (by rw [iI_lt (by omega) (by omega) (by omega) (by omega)]; omega), inb_ok (by omega) (by omega) (by omega), gb_T, ix_nat (by omega), hR.2.2.1 (t + j) (by omega), show iI 5 = iI ((5 : Nat) : Int) from rfl, iI_div (by omega) (by decide), c_Mo_bitsOf _ _ (by omega), bI_some, gb_T, hR.2.2.1 (t + j) (by omega), iI_div (by omega) (by decide), c_Mo_bitsOf _ _ (by omega), bI_some, iI_add]
    rw [← this, mxR]
    by_cases q : mxR (fun k => bits (h k / 5)) t j < bits (h (t + j) / 5)
    · rw [if_pos (by rw [iI_lt (by omega) (by omega) (by omega) (by omega)]; omega), if_pos q]; rfl
    · rw [if_neg (by rw [iI_lt (by omega) (by omega) (by omega) (by omega)]; omega), if_neg q]; rfl
theorem c_round126 (d : Nat) {M : Mem} {N t : Nat} {h : Nat → Nat} (hR : RowM M N t h) (v1 v2 v3 : Value) : ∀ j k, j + k = N → 1 ≤ k → (∀ i, i < k → h i % 5 ≠ 4) → X2 (d + 1) m_Mo_round 126 [.ref 197, v1, v2, v3, .int (iI k)] [] M = some (.int (iI (fstB (fun k => decide (h k % 5 = 4)) j k)), M) := by
  have h0 := hR.1
  have h1 := hR.2.1
  intro j
  induction j with
  | zero =>
    intro k hk _ _
    rw [e_Mo_round_126, hR.sum, if_neg (by rw [iI_lt (by omega) (by omega) (by omega) (by omega)]; omega)]
    rfl
  | succ j ih =>
    intro k hk hk1 hne
    have hl := hR.2.2.2.2.2 k
    have hl1 := hR.2.2.2.2.2 (k - 1)
    have e1 : iI k - iI 1 = iI ((k - 1 : Nat) : Int) := by rw [iI_sub]; congr 1; omega
    have hn1 := hne (k - 1) (by omega)
    rw [e_Mo_round_126, hR.sum, if_pos (by rw [iI_lt (by omega) (by omega) (by omega) (by omega)]; omega), inb_ok (by omega) (by omega) (by omega), gb_T, e1, inb_ok (by omega) (by omega) (by omega), gb_T, ix_nat (by omega), ix_nat (by omega), hR.2.2.1 k (by omega), hR.2.2.1 (k - 1) (by omega), show iI 5 = iI ((5 : Nat) : Int) from rfl, iI_rem (by omega) (by decide), iI_rem (by omega) (by decide), fstB]
    by_cases q : h k % 5 = 4
    · rw [if_pos (by rw [q]; rfl), if_neg (by rw [iI_eq (by omega) (by omega) (by omega) (by omega)]; omega), if_pos (decide_eq_true q)]
    · rw [if_neg (by rw [iI_eq (by omega) (by omega) (by omega) (by omega)]; omega), if_neg (by rw [decide_eq_true_iff]; exact q), iI_add]
      refine ih (k + 1) (by omega) (by omega) ?_
      intro i hi
      by_cases qi : i = k
      · subst qi; exact q
      · exact hne i (by omega)
theorem c_round126n (d : Nat) {M : Mem} {N t : Nat} {h : Nat → Nat} (hR : RowM M N t h) (v1 v2 v3 : Value) (h4 : ∀ i, h i % 5 = 4) : ∀ j k, j + k = N → 1 ≤ k → X2 (d + 1) m_Mo_round 126 [.ref 197, v1, v2, v3, .int (iI k)] [] M = some (.int (iI (-1)), M) := by
  have h0 := hR.1
  have h1 := hR.2.1
  intro j
  induction j with
  | zero =>
    intro k hk _
    rw [e_Mo_round_126, hR.sum, if_neg (by rw [iI_lt (by omega) (by omega) (by omega) (by omega)]; omega)]
  | succ j ih =>
    intro k hk hk1
    have hl := hR.2.2.2.2.2 k
    have hl1 := hR.2.2.2.2.2 (k - 1)
    have e1 : iI k - iI 1 = iI ((k - 1 : Nat) : Int) := by rw [iI_sub]; congr 1; omega
    rw [e_Mo_round_126, hR.sum, if_pos (by rw [iI_lt (by omega) (by omega) (by omega) (by omega)]; omega), inb_ok (by omega) (by omega) (by omega), gb_T, e1, inb_ok (by omega) (by omega) (by omega), gb_T, ix_nat (by omega), ix_nat (by omega), hR.2.2.1 k (by omega), hR.2.2.1 (k - 1) (by omega), show iI 5 = iI ((5 : Nat) : Int) from rfl, iI_rem (by omega) (by decide), iI_rem (by omega) (by decide), h4 k, h4 (k - 1), if_pos (show iI ((4 : Nat) : Int) = iI 4 from rfl), if_pos (show iI ((4 : Nat) : Int) = iI 4 from rfl), iI_add]
    exact ih (k + 1) (by omega) (by omega)
theorem nxt_who (z : Row) (tm s bl : Nat) : nxt z tm s bl % 5 = whoT z (wallT z tm (s / 5) (s % 5) bl) (s % 5) bl := by
  have h4 : whoT z (wallT z tm (s / 5) (s % 5) bl) (s % 5) bl < 5 := by
    unfold whoT; split <;> omega
  unfold nxt; omega
theorem nxt_4 (z : Row) (tm bl : Nat) {s : Nat} (h : s % 5 = 4) : nxt z tm s bl % 5 = 4 := by
  rw [nxt_who, whoT]; split
  · rfl
  · exact h
theorem itr_4 (z : Row) (tm bl : Nat) {s : Nat} (h : s % 5 = 4) : ∀ i, itr (fun s => nxt z tm s bl) s i % 5 = 4
  | 0 => h
  | i + 1 => nxt_4 z tm bl (itr_4 z tm bl h i)
theorem p_round (z : Row) (hz : OkZ z) (w who tm : Nat) (hO : OkS z (5 * w + who)) (hwho : who < 5) (x1 x2 : Int32) : Pair m_RW_round m_Mo_round [.int x1, .int x2] z w who tm := by
  obtain ⟨bl, rfl, b1, b2⟩ := iI_ex x1
  obtain ⟨k, rfl, k1, k2⟩ := iI_ex x2
  by_cases hk : 0 ≤ k ∧ k ≤ 3
  · by_cases hb : 0 ≤ bl ∧ bl ≤ 1
    · obtain ⟨bl, rfl⟩ := Int.eq_ofNat_of_zero_le hb.1
      have hlt : ∀ i, itr (fun s => nxt z tm s bl) (5 * w + who) i < 2560 := fun i => ((plc_itr hz tm bl hO i).2.lt hz).2.1
      have hg : ∀ i, itr (fun p => pas z tm p bl) (w + 512 * who) i = plc (itr (fun s => nxt z tm s bl) (5 * w + who) i) := fun i => by
        rw [plc_now hwho]; exact (plc_itr hz tm bl hO i).1
      have h5 : ∀ i, itr (fun s => nxt z tm s bl) (5 * w + who) i / 5 < 512 := fun i => ((plc_itr hz tm bl hO i).2.lt hz).2.2
      obtain ⟨N, t, ht, hr, hi⟩ := ex_round hlt
      have hgw : (fun k => bits (itr (fun p => pas z tm p bl) (w + 512 * who) k % 512)) = (fun k => bits (itr (fun s => nxt z tm s bl) (5 * w + who) k / 5)) := by
        funext i; rw [hg, plc_wall (h5 i)]
      have hgh : (fun k => decide (itr (fun p => pas z tm p bl) (w + 512 * who) k / 512 = 4)) = (fun k => decide (itr (fun s => nxt z tm s bl) (5 * w + who) k % 5 = 4)) := by
        funext i; rw [hg, plc_who (h5 i)]
      refine ⟨if k = 0 then iI t else if k = 1 then iI ((N - t : Nat) : Int) else if k = 2 then iI (mxR (fun k => bits (itr (fun s => nxt z tm s bl) (5 * w + who) k / 5)) t (N - t)) else if who = 4 then iI (-1) else iI (fstB (fun k => decide (itr (fun s => nxt z tm s bl) (5 * w + who) k % 5 = 4)) N 0), ?_, ?_⟩
      · intro d M r ni st hQ hst
        have hrl := hQ.rl
        obtain ⟨⟨tm0, hS⟩, h5', hN, _, htm, _, hw⟩ := id hQ
        obtain ⟨M1, st1, e1, hE1, hS1, hle, hQ1⟩ := hQ.hre (d + 76) (by omega)
        obtain ⟨M2, N', t', e2, ht', hr', hC, hS2, hE2⟩ := c_Rch_walk (d + 73) hS1 (now_win hwho hw) (show bl < 2 by omega)
        have hE3 : Eqx (scr r) M M2 := hE1.tr (hE2.mono (scr_sub (by intro a ha; simp only [List.mem_cons, List.not_mem_nil, or_false] at ha; omega)))
        have inj' : ∀ i, i < N' → ∀ j, j < N' → itr (fun s => nxt z tm s bl) (5 * w + who) i = itr (fun s => nxt z tm s bl) (5 * w + who) j → i = j := fun i hi j hj e => hC.inj i hi j hj (by rw [hg, hg, e])
        have hr2 : itr (fun s => nxt z tm s bl) (5 * w + who) N' = itr (fun s => nxt z tm s bl) (5 * w + who) t' := by
          rw [hg, hg] at hr'; exact plc_inj (h5 _) (h5 _) hr'
        obtain ⟨rfl, rfl⟩ := round_uniq ht hr hi ht' hr2 inj'
        have hNN := hC.2.1
        have hw2 := (hQ.fr hE3 hS2).2.2.1.2.1
        show ∃ M' st', X2 (d + 79) m_RW_round 0 [.ref 100, .int (iI bl), .int (iI k), uns] [] M = _ ∧ _
        rw [e_RW_round_0, if_neg (by rw [iI_lt0 (by omega) (by omega)]; omega), if_neg (by rw [iI_lt (by omega) (by omega) (by omega) (by omega)]; omega), c_RW_isBlind, bI_some, iI_toInt (by omega) (by omega), decide_eq_true hb, b2i_t, if_neg (by decide), e1, bI_some, e2, bI_some, hC.1, c_Rch_mostTurned _ hC (by omega), bI_some, c_Rch_firstEmpty _ hC, bI_some, hw2, hgw, hgh]
        refine ⟨M2, st1, ?_, hE3, hQ.fr hE3 hS2, hle⟩
        rcases (show k = 0 ∨ k = 1 ∨ k = 2 ∨ k = 3 by omega) with q | q | q | q <;> subst q
        · rfl
        · rw [if_neg (by decide), if_pos (by decide), if_neg (by decide), if_pos (by decide), iI_sub]; congr 4; omega
        · rfl
        · rw [if_neg (by decide), if_neg (by decide), if_neg (by decide), if_neg (show ¬ ((3 : Int) = 0) by decide), if_neg (show ¬ ((3 : Int) = 1) by decide), if_neg (show ¬ ((3 : Int) = 2) by decide)]
          by_cases q4 : who = 4
          · rw [if_pos q4, if_pos (by rw [q4]; rfl)]
          · rw [if_neg q4, if_neg (by rw [cwho, if_neg q4, iI_eq (by omega) (by omega) (by omega) (by omega)]; omega)]
      · intro d M hQ
        have hQ1 := hQ.res (ResM.thr M)
        obtain ⟨M1, N', t', e1, ht', hN', hr', hi', hrow, htl, hrd, hE, h7⟩ := c_Mo_laysRound (d + 73) (M0 := wI M 197 0 (iI 0)) (tm := tm) (s0 := 5 * w + who) (bl := bl) hQ1.okz hQ1.tm hQ1.ok hQ1.stand
        rw [hQ1.1] at hr' hi' hrow
        obtain ⟨rfl, rfl⟩ := round_uniq ht hr hi ht' hr' hi'
        have hR : ResM M M1 := (ResM.thr M).tr ⟨hE.mono (by simp [refQ]), (hE 198 (by simp)).1, fun k hk => h7 k (by omega) (by omega)⟩
        have hRow : RowM M1 N' t' (itr (fun s => nxt z tm s bl) (5 * w + who)) := ⟨ht', hN', hrow, htl, hrd, hlt⟩
        show ∃ M', X2 (d + 79) m_Mo_round 0 [.ref 197, .int (iI bl), .int (iI k), uns, uns] [] M = _ ∧ _
        rw [e_Mo_round_0, c_Mo_within, bI_some, i2l_iI (by omega) (by omega), lI_toInt (by omega) (by omega), lI_toInt (by omega) (by omega), lI_toInt (by omega) (by omega), decide_eq_true hk, b2i_t, if_neg (by decide), c_Mo_isBlind, bI_some, i2l_iI (by omega) (by omega), lI_toInt (by omega) (by omega), decide_eq_true hb, b2i_t, if_neg (by decide), e1, bV_some, htl, hrd]
        refine ⟨M1, ?_, hR⟩
        have e63 := c_round63 (d + 78) hRow (.int (iI bl)) (iI k) (N' - t') 0 (by omega)
        have e63' : X2 (d + 79) m_Mo_round 63 [.ref 197, .int (iI bl), .int (iI k), .int (iI 0), .int (iI t')] [] M1 = _ := e63
        rw [e63']
        rcases (show k = 0 ∨ k = 1 ∨ k = 2 ∨ k = 3 by omega) with q | q | q | q <;> subst q
        · rfl
        · rfl
        · rfl
        · rw [if_neg (by decide), if_neg (by decide), if_neg (by decide), if_neg (by decide), if_neg (by decide), if_neg (by decide)]
          by_cases q4 : who = 4
          · rw [if_pos q4, c_round126n (d + 78) hRow _ _ _ (itr_4 z tm bl (by omega)) (N' - 1) 1 (by omega) (by omega)]
          · have h0 : itr (fun s => nxt z tm s bl) (5 * w + who) 0 % 5 ≠ 4 := by show (5 * w + who) % 5 ≠ 4; omega
            rw [if_neg q4, c_round126 (d + 78) hRow _ _ _ (N' - 1) 1 (by omega) (by omega) (fun i hi => by rw [show i = 0 by omega]; exact h0)]
            congr 4
            obtain ⟨N2, rfl⟩ : ∃ N2, N' = N2 + 1 := ⟨N' - 1, by omega⟩
            rw [fstB, if_neg (by rw [decide_eq_true_iff]; exact h0)]
            rfl
    · refine ⟨iI (-3), ?_, ?_⟩
      · intro d M r ni st hQ hst
        show ∃ M' st', X2 (d + 79) m_RW_round 0 [.ref 100, .int (iI bl), .int (iI k), uns] [] M = _ ∧ _
        rw [e_RW_round_0, if_neg (by rw [iI_lt0 (by omega) (by omega)]; omega), if_neg (by rw [iI_lt (by omega) (by omega) (by omega) (by omega)]; omega), c_RW_isBlind, bI_some, iI_toInt (by omega) (by omega), decide_eq_false hb, b2i_f, if_pos (by decide)]
        exact ⟨M, st, rfl, Eqx.rf, hQ, by omega⟩
      · intro d M hQ
        show ∃ M', X2 (d + 79) m_Mo_round 0 [.ref 197, .int (iI bl), .int (iI k), uns, uns] [] M = _ ∧ _
        rw [e_Mo_round_0, c_Mo_within, bI_some, i2l_iI (by omega) (by omega), lI_toInt (by omega) (by omega), lI_toInt (by omega) (by omega), lI_toInt (by omega) (by omega), decide_eq_true hk, b2i_t, if_neg (by decide), c_Mo_isBlind, bI_some, i2l_iI (by omega) (by omega), lI_toInt (by omega) (by omega), decide_eq_false hb, b2i_f, if_pos (by decide)]
        exact ⟨_, rfl, ResM.thr M⟩
  · refine ⟨iI (-2), ?_, ?_⟩
    · intro d M r ni st hQ hst
      show ∃ M' st', X2 (d + 79) m_RW_round 0 [.ref 100, .int (iI bl), .int (iI k), uns] [] M = _ ∧ _
      rw [e_RW_round_0]
      simp only [iI_lt0 k1 k2, iI_lt (show (-2147483648 : Int) ≤ 3 by omega) (show (3 : Int) ≤ 2147483647 by omega) k1 k2]
      by_cases q : k < 0
      · rw [if_pos q]; exact ⟨M, st, rfl, Eqx.rf, hQ, by omega⟩
      · rw [if_neg q, if_pos (by omega)]; exact ⟨M, st, rfl, Eqx.rf, hQ, by omega⟩
    · intro d M hQ
      show ∃ M', X2 (d + 79) m_Mo_round 0 [.ref 197, .int (iI bl), .int (iI k), uns, uns] [] M = _ ∧ _
      rw [e_Mo_round_0, c_Mo_within, bI_some, i2l_iI (by omega) (by omega), lI_toInt (by omega) (by omega), lI_toInt (by omega) (by omega), lI_toInt (by omega) (by omega), decide_eq_false hk, b2i_f, if_pos (by decide)]
      exact ⟨_, rfl, ResM.thr M⟩
