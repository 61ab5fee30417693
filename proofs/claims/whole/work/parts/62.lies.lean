/-! lies, round. -/
theorem ex_round {g : Nat → Nat} {m : Nat} (h : ∀ i, g i < m) : ∃ n t, t < n ∧ g n = g t ∧ (∀ i, i < n → ∀ j, j < n → g i = g j → i = j) := by
  have key : ∀ k, (∃ n t, t < n ∧ g n = g t ∧ (∀ i, i < n → ∀ j, j < n → g i = g j → i = j)) ∨ (∀ i, i < k → ∀ j, j < k → g i = g j → i = j) := by
    intro k
    induction k with
    | zero => exact Or.inr (fun i hi => absurd hi (Nat.not_lt_zero i))
    | succ k ih =>
      rcases ih with q | q
      · exact Or.inl q
      · by_cases hq : ∃ t, t < k ∧ g k = g t
        · obtain ⟨t, ht, e⟩ := hq
          exact Or.inl ⟨k, t, ht, e, q⟩
        · refine Or.inr (fun i hi j hj e => ?_)
          by_cases qi : i = k
          · by_cases qj : j = k
            · omega
            · subst qi; exact absurd ⟨j, by omega, e⟩ hq
          · by_cases qj : j = k
            · subst qj; exact absurd ⟨i, by omega, e.symm⟩ hq
            · exact q i (by omega) j (by omega) e
  rcases key (m + 1) with q | q
  · exact q
  · have := pigeon m (m + 1) g (fun i _ => h i) q
    omega
theorem sub_rem {n t c : Nat} (h : t ≤ n) (hn : n ≤ 2147483647) (hc : c ≤ 2147483647) : iI t + irm (iI n - iI t) (iI c) = iI ((t + (n - t) % c : Nat) : Int) := by
  rw [iI_sub, show ((n : Int) - (t : Int)) = ((n - t : Nat) : Int) by omega, iI_rem (by omega) hc, iI_add]; rfl
theorem c_Rch_placeBehind (d : Nat) {M : Mem} {N t n p0 : Nat} {f : Nat → Nat} (hC : ReachC M N (itr f p0)) (ht : t < N) (hr : itr f p0 N = itr f p0 t) (hn : n ≤ 99999) :
    c2 (d + 1) m_Rch_placeBehind [.ref 133, .int (iI n), .int (iI t)] M = some (.int (iI (itr f p0 n)), M) := by
  have h1 := hC.2.1
  show X2 d m_Rch_placeBehind 0 [.ref 133, .int (iI n), .int (iI t), uns, uns] [] M = _
  rw [e_Rch_placeBehind_0, hC.1]
  by_cases hq : n < N
  · rw [if_pos (by rw [iI_lt (by omega) (by omega) (by omega) (by omega)]; omega), if_neg (by rw [iI_lt0 (by omega) (by omega)]; omega), if_pos (by rw [iI_lt (by omega) (by omega) (by omega) (by omega)]; omega), inb_ok (by omega) (by omega) (by omega), gb_T, ix_nat (by omega), (hC.2.2 n hq).1]
  · have hm : (n - t) % (N - t) < N - t := Nat.mod_lt _ (by omega)
    have e1 : iI N - iI t = iI ((N - t : Nat) : Int) := by rw [iI_sub]; congr 1; omega
    rw [if_neg (by rw [iI_lt (by omega) (by omega) (by omega) (by omega)]; omega), e1, if_neg (by rw [iI_lt (by omega) (by omega) (by omega) (by omega)]; omega), gb_nz (by rw [Ne, iI_eq0 (by omega) (by omega)]; omega), sub_rem (by omega) (by omega) (by omega)]
    generalize hk : t + (n - t) % (N - t) = k
    have hkN : k < N := by omega
    rw [if_neg (by rw [iI_lt0 (by omega) (by omega)]; omega), if_pos (by rw [iI_lt (by omega) (by omega) (by omega) (by omega)]; omega), inb_ok (by omega) (by omega) (by omega), gb_T, ix_nat (by omega), (hC.2.2 k hkN).1]
    have e2 := itr_mod (f := f) (s := p0) (t := t) (c := N - t) (by omega) (by rw [show t + (N - t) = N by omega]; exact hr) (n := n) (by omega)
    rw [hk] at e2
    rw [e2]
theorem and511m {p : Nat} : iI p &&& iI 511 = iI ((p % 512 : Nat) : Int) := by
  rw [show iI 511 = iI ((511 : Nat) : Int) from rfl, iI_and, show (511 : Nat) = 2 ^ 9 - 1 from rfl, Nat.and_two_pow_sub_one_eq_mod]
theorem shr9 {p : Nat} (h : p ≤ 2147483647) : iI p >>> (iI 9 &&& 31) = iI ((p / 512 : Nat) : Int) := by
  rw [show iI 9 = iI ((9 : Nat) : Int) from rfl, iI_shr h (by decide), Nat.shiftRight_eq_div_pow]
theorem plc_now {w who : Nat} (h : who < 5) : w + 512 * who = plc (5 * w + who) := by unfold plc; omega
theorem now_win {w who : Nat} (h : who < 5) (hw : w < 512) : WIn who (w + 512 * who) := ⟨by omega, Or.inl (by omega)⟩
theorem p_lies (z : Row) (w who tm : Nat) (x1 x2 : Int32) : Pair m_RW_lies m_Mo_lies [.int x1, .int x2] z w who tm := by
  obtain ⟨n, rfl, n1, n2⟩ := iI_ex x1
  obtain ⟨bl, rfl, b1, b2⟩ := iI_ex x2
  by_cases hn : 0 ≤ n ∧ n ≤ 99999
  · by_cases hb : 0 ≤ bl ∧ bl ≤ 1
    · obtain ⟨n, rfl⟩ := Int.eq_ofNat_of_zero_le hn.1
      obtain ⟨bl, rfl⟩ := Int.eq_ofNat_of_zero_le hb.1
      refine ⟨iI ((itr (fun s => nxt z tm s bl) (5 * w + who) n / 5 : Nat) : Int), ?_, ?_⟩
      · intro d M r ni st hQ hst
        have hz := hQ.okz
        have hrl := hQ.rl
        obtain ⟨⟨tm0, hS⟩, h5, hN, hO, htm, hwho, hw⟩ := id hQ
        obtain ⟨M1, st1, e1, hE1, hS1, hle, hQ1⟩ := hQ.hre (d + 76) (by omega)
        obtain ⟨M2, N, t, e2, ht, hr2, hC, hS2, hE2⟩ := c_Rch_walk (d + 73) hS1 (now_win hwho hw) (show bl < 2 by omega)
        have hE3 : Eqx (scr r) M M2 := hE1.tr (hE2.mono (scr_sub (by intro a ha; simp only [List.mem_cons, List.not_mem_nil, or_false] at ha; omega)))
        have hpi := plc_itr hz tm bl hO n
        show ∃ M' st', X2 (d + 79) m_RW_lies 0 [.ref 100, .int (iI n), .int (iI bl), uns] [] M = _ ∧ _
        rw [e_RW_lies_0, if_neg (by rw [iI_lt0 (by omega) (by omega)]; omega), if_neg (by rw [iI_lt (by omega) (by omega) (by omega) (by omega)]; omega), c_RW_isBlind, bI_some, iI_toInt (by omega) (by omega), decide_eq_true hb, b2i_t, if_neg (by decide), e1, bI_some, e2, bI_some, c_Rch_placeBehind _ hC ht hr2 (by omega), bI_some, and511m, plc_now hwho, hpi.1, plc_wall (hpi.2.lt hz).2.2]
        exact ⟨M2, st1, rfl, hE3, hQ.fr hE3 hS2, hle⟩
      · intro d M hQ
        have hz := hQ.2.1
        have hQ1 := hQ.res (ResM.thr M)
        obtain ⟨M1, N, t, e1, ht, hN, hr, hi, hrow, htl, hrd, hE, h7⟩ := c_Mo_laysRound (d + 73) (M0 := wI M 197 0 (iI 0)) (tm := tm) (s0 := 5 * w + who) (bl := bl) hQ1.okz hQ1.tm hQ1.ok hQ1.stand
        rw [hQ1.1] at hr hi hrow
        have hR : ResM M M1 := (ResM.thr M).tr ⟨hE.mono (by simp [refQ]), (hE 198 (by simp)).1, fun k hk => h7 k (by omega) (by omega)⟩
        have hlt : ∀ i, itr (fun s => nxt z tm s bl) (5 * w + who) i < 2560 := fun i => ((plc_itr hz tm bl hQ.2.2.2.2.2.1 i).2.lt hz).2.1
        show ∃ M', X2 (d + 79) m_Mo_lies 0 [.ref 197, .int (iI n), .int (iI bl)] [] M = _ ∧ _
        rw [e_Mo_lies_0, c_Mo_within, bI_some, i2l_iI (by omega) (by omega), lI_toInt (by omega) (by omega), lI_toInt (by omega) (by omega), lI_toInt (by omega) (by omega), decide_eq_true hn, b2i_t, if_neg (by decide), c_Mo_isBlind, bI_some, i2l_iI (by omega) (by omega), lI_toInt (by omega) (by omega), decide_eq_true hb, b2i_t, if_neg (by decide), e1, bV_some, htl, hrd]
        refine ⟨M1, ?_, hR⟩
        have d5 : ∀ i, i < N → (gI M1 205 i) / iI 5 = iI ((itr (fun s => nxt z tm s bl) (5 * w + who) i / 5 : Nat) : Int) := fun i hi => by
          rw [hrow i hi, show iI 5 = iI ((5 : Nat) : Int) from rfl, iI_div (by have := hlt i; omega) (by decide)]
        by_cases hq : n < t
        · rw [if_pos (by rw [iI_lt (by omega) (by omega) (by omega) (by omega)]; omega), inb_ok (by omega) (by omega) (by omega), gb_T, ix_nat (by omega), d5 n (by omega)]
        · have hm : (n - t) % (N - t) < N - t := Nat.mod_lt _ (by omega)
          rw [if_neg (by rw [iI_lt (by omega) (by omega) (by omega) (by omega)]; omega), gb_nz (by rw [Ne, iI_eq0 (by omega) (by omega)]; omega), sub_rem (by omega) (by omega) (by omega)]
          have e2 := itr_mod (f := fun s => nxt z tm s bl) (s := 5 * w + who) (t := t) (c := N - t) (by omega) (by rw [show t + (N - t) = N by omega]; exact hr) (n := n) (by omega)
          generalize hk : t + (n - t) % (N - t) = k at *
          rw [inb_ok (by omega) (by omega) (by omega), gb_T, ix_nat (by omega), d5 k (by omega), e2]
    · refine ⟨iI (-3), ?_, ?_⟩
      · intro d M r ni st hQ hst
        show ∃ M' st', X2 (d + 79) m_RW_lies 0 [.ref 100, .int (iI n), .int (iI bl), uns] [] M = _ ∧ _
        rw [e_RW_lies_0, if_neg (by rw [iI_lt0 (by omega) (by omega)]; omega), if_neg (by rw [iI_lt (by omega) (by omega) (by omega) (by omega)]; omega), c_RW_isBlind, bI_some, iI_toInt (by omega) (by omega), decide_eq_false hb, b2i_f, if_pos (by decide)]
        exact ⟨M, st, rfl, Eqx.rf, hQ, by omega⟩
      · intro d M hQ
        show ∃ M', X2 (d + 79) m_Mo_lies 0 [.ref 197, .int (iI n), .int (iI bl)] [] M = _ ∧ _
        rw [e_Mo_lies_0, c_Mo_within, bI_some, i2l_iI (by omega) (by omega), lI_toInt (by omega) (by omega), lI_toInt (by omega) (by omega), lI_toInt (by omega) (by omega), decide_eq_true hn, b2i_t, if_neg (by decide), c_Mo_isBlind, bI_some, i2l_iI (by omega) (by omega), lI_toInt (by omega) (by omega), decide_eq_false hb, b2i_f, if_pos (by decide)]
        exact ⟨_, rfl, ResM.thr M⟩
  · refine ⟨iI (-3), ?_, ?_⟩
    · intro d M r ni st hQ hst
      show ∃ M' st', X2 (d + 79) m_RW_lies 0 [.ref 100, .int (iI n), .int (iI bl), uns] [] M = _ ∧ _
      rw [e_RW_lies_0]
      simp only [iI_lt0 n1 n2, iI_lt (show (-2147483648 : Int) ≤ 99999 by omega) (show (99999 : Int) ≤ 2147483647 by omega) n1 n2]
      by_cases q : n < 0
      · rw [if_pos q]; exact ⟨M, st, rfl, Eqx.rf, hQ, by omega⟩
      · rw [if_neg q, if_pos (by omega)]; exact ⟨M, st, rfl, Eqx.rf, hQ, by omega⟩
    · intro d M hQ
      show ∃ M', X2 (d + 79) m_Mo_lies 0 [.ref 197, .int (iI n), .int (iI bl)] [] M = _ ∧ _
      rw [e_Mo_lies_0, c_Mo_within, bI_some, i2l_iI (by omega) (by omega), lI_toInt (by omega) (by omega), lI_toInt (by omega) (by omega), lI_toInt (by omega) (by omega), decide_eq_false hn, b2i_f, if_pos (by decide)]
      exact ⟨_, rfl, ResM.thr M⟩
