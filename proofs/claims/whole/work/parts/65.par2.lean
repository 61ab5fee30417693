/-! parents, orphans, still: the reference, and both. -/
theorem cwho_ne {u : Nat} (h : u ≠ 4) (h5 : u < 5) : iI (cwho u) ≠ iI (-1) := by
  rw [cwho, if_neg h, Ne, iI_eq (by omega) (by omega) (by omega) (by omega)]; omega
theorem c_Mo_laysFrom (d : Nat) {M0 : Mem} {tm bl u : Nat} (hz : OkZ (M0.1 198)) (ht : gI M0 198 27 = iI tm) (hu : u < 5) :
    ∃ M', c2 (d + 5) m_Mo_laysFrom [.ref 197, .int (iI bl), .int (iI (cwho u))] M0 = some (.null, M') ∧ Eqx [202, 203, 212] M0 M' ∧ ∀ v, v < 512 → gI M' 212 v = iI (hit (fun v => wallT (M0.1 198) tm v u bl) (2 ^ nz (M0.1 198)) v) := by
  have h9 := nz_le hz
  have hp := pow9 h9
  have clr : ∀ j k M, j + k = 512 → Eqx [212] M0 M → (∀ i, i < k → gI M 212 i = iI 0) → ∃ M', X2 (d + 4) m_Mo_laysFrom 2 [.ref 197, .int (iI bl), .int (iI (cwho u)), .int (iI k)] [] M = X2 (d + 4) m_Mo_laysFrom 24 [.ref 197, .int (iI bl), .int (iI (cwho u)), .int (iI ((0 : Nat) : Int))] [] M' ∧ Eqx [212] M0 M' ∧ (∀ i, i < 512 → gI M' 212 i = iI 0) := by
    intro j
    induction j with
    | zero =>
      intro k M hk hM hv
      rw [e_Mo_laysFrom_2, if_neg (by rw [iI_lt (by omega) (by omega) (by omega) (by omega)]; omega)]
      exact ⟨M, rfl, hM, fun i hi => hv i (by omega)⟩
    | succ j ih =>
      intro k M hk hM hv
      rw [e_Mo_laysFrom_2, if_pos (by rw [iI_lt (by omega) (by omega) (by omega) (by omega)]; omega), inb_ok (by omega) (by omega) (by omega), gb_T, ix_nat (by omega), iI_add]
      refine ih (k + 1) _ (by omega) (eqx_wI hM (by simp)) ?_
      intro i hi
      by_cases hq : i = k
      · subst hq; exact gI_eq _ _ _ _
      · rw [gI_nk hq]; exact hv i (by omega)
  have go : ∀ j k M, j + k = 2 ^ nz (M0.1 198) → Eqx [202, 203, 212] M0 M → (∀ v, v < 512 → gI M 212 v = iI (hit (fun v => wallT (M0.1 198) tm v u bl) k v)) → ∃ M', X2 (d + 4) m_Mo_laysFrom 24 [.ref 197, .int (iI bl), .int (iI (cwho u)), .int (iI k)] [] M = some (.null, M') ∧ Eqx [202, 203, 212] M0 M' ∧ ∀ v, v < 512 → gI M' 212 v = iI (hit (fun v => wallT (M0.1 198) tm v u bl) (2 ^ nz (M0.1 198)) v) := by
    intro j
    induction j with
    | zero =>
      intro k M hk hM hv
      have hx : M.1 198 = M0.1 198 := (hM 198 (by decide)).1
      have hk' : k = 2 ^ nz (M0.1 198) := by omega
      rw [e_Mo_laysFrom_24, c_Mo_rosesz _ (by rw [hx]; exact hz), bI_some, hx, iI_shl1 (by omega), Nat.one_shiftLeft, if_neg (by rw [iI_lt (by omega) (by omega) (by omega) (by omega)]; omega)]
      exact ⟨M, rfl, hM, hk' ▸ hv⟩
    | succ j ih =>
      intro k M hk hM hv
      have hx : M.1 198 = M0.1 198 := (hM 198 (by decide)).1
      obtain ⟨M1, e1, hE1⟩ := c_Mo_wallThen d (M0 := M) (tm := tm) (w := k) (who := u) (bl := bl) (by rw [hx]; exact hz) ((eqx_I hM (by decide) 27).trans ht) (by omega) (by omega)
      rw [hx] at e1
      have hwk := wallT_lt hz tm k u bl
      have key : ∃ M', X2 (d + 4) m_Mo_laysFrom 24 [.ref 197, .int (iI bl), .int (iI (cwho u)), .int (iI ((k + 1 : Nat) : Int))] [] (wI M1 212 (wallT (M0.1 198) tm k u bl) (gI M1 212 (wallT (M0.1 198) tm k u bl) + iI 1)) = some (.null, M') ∧ Eqx [202, 203, 212] M0 M' ∧ ∀ v, v < 512 → gI M' 212 v = iI (hit (fun v => wallT (M0.1 198) tm v u bl) (2 ^ nz (M0.1 198)) v) := by
        refine ih (k + 1) _ (by omega) (eqx_wI (hM.tr (hE1.mono (by simp))) (by simp)) ?_
        intro v hv2
        have o := (eqx_I hE1 (show 212 ∉ [202, 203] by decide) v).trans (hv v hv2)
        rw [hit_s]
        by_cases q : v = wallT (M0.1 198) tm k u bl
        · rw [q, gI_eq, ← q, o, iI_add, if_pos rfl]; rfl
        · rw [gI_nk q, o, if_neg (fun e => q e.symm)]; rfl
      rw [e_Mo_laysFrom_24, c_Mo_rosesz _ (by rw [hx]; exact hz), bI_some, hx, iI_shl1 (by omega), Nat.one_shiftLeft, if_pos (by rw [iI_lt (by omega) (by omega) (by omega) (by omega)]; omega)]
      by_cases h4 : u = 4
      · have e1' := e1
        rw [show iI (u : Int) = iI 4 by rw [h4]; rfl] at e1'
        rw [if_pos (by rw [h4]; rfl), e1', bI_some, inb_ok (by omega) (by omega) (by omega), gb_T, gb_T, ix_nat (by omega), iI_add]
        exact key
      · rw [if_neg (cwho_ne h4 hu), show (cwho u) = (u : Int) from if_neg h4, e1, bI_some, inb_ok (by omega) (by omega) (by omega), gb_T, gb_T, ix_nat (by omega), iI_add]
        rw [show (cwho u) = (u : Int) from if_neg h4] at key
        exact key
  show ∃ M', X2 (d + 4) m_Mo_laysFrom 0 [.ref 197, .int (iI bl), .int (iI (cwho u)), uns] [] M0 = _ ∧ _
  rw [e_Mo_laysFrom_0]
  obtain ⟨M1, e1, hE1, hv⟩ := clr 512 0 M0 (by omega) Eqx.rf (fun i hi => absurd hi (Nat.not_lt_zero i))
  rw [show iI 0 = iI ((0 : Nat) : Int) from rfl, e1]
  exact go (2 ^ nz (M0.1 198)) 0 M1 (by omega) (hE1.mono (by simp)) (fun v h => hv v h)
theorem who_ex {z : Row} (hz : OkZ z) {t : Int} (h : t = -1 ∨ (0 ≤ t ∧ t < zn z 3)) : ∃ u : Nat, u < 5 ∧ t = cwho u ∧ (u ≠ 4 → u < zn z 3) := by
  have h3 := zn3_le hz
  rcases h with q | q
  · exact ⟨4, by decide, q, fun e => absurd rfl e⟩
  · refine ⟨t.toNat, by omega, ?_, fun _ => by omega⟩
    rw [cwho, if_neg (by omega)]; omega
theorem c_RW_tuneQ (d : Nat) {M : Mem} {r : Nat} {z : Row} {w who tm st : Nat} {ni : Int32} (hQ : QC M r z w who tm ni st) (hst : st < 100000) :
    ∃ M' st', c2 (d + 1) m_Stp_tune [.ref 127, .int (gI M 111 2)] M = some (.null, M') ∧ Eqx (scr r) M M' ∧ StepsC M' r z tm st' ∧ st' ≤ st + 1 := by
  obtain ⟨⟨tm0, hS⟩, h2, h3, h4, h5, h6, h7⟩ := id hQ
  obtain ⟨M', st', e, hE, hS', hle, _⟩ := c_Stp_tune d (tm' := tm) hS h5 hst
  rw [h3.2.2.1]
  exact ⟨M', st', e, hE.mono (scr_sub (by simp)), hS', hle⟩
theorem p_parents (z : Row) (hz : OkZ z) (w who tm : Nat) (x1 x2 x3 : Int32) : Pair m_RW_parents m_Mo_parents [.int x1, .int x2, .int x3] z w who tm := by
  obtain ⟨wl, rfl, w1, w2⟩ := iI_ex x1
  obtain ⟨bl, rfl, b1, b2⟩ := iI_ex x2
  obtain ⟨t, rfl, t1, t2⟩ := iI_ex x3
  have h9 := nz_le hz
  have hp := pow9 h9
  have h34 := zn3_le hz
  by_cases ht : t = -1 ∨ (0 ≤ t ∧ t < zn z 3)
  · obtain ⟨u, hu, rfl, hu3⟩ := who_ex hz ht
    have entC : ∀ d M r ni st, QC M r z w who tm ni st → X2 (d + 79) m_RW_parents 0 [.ref 100, .int (iI wl), .int (iI bl), .int (iI (cwho u))] [] M = X2 (d + 79) m_RW_parents 19 [.ref 100, .int (iI wl), .int (iI bl), .int (iI (cwho u))] [] M := by
      intro d M r ni st hQ
      have hr := hQ.rm
      have hR := hQ.room
      rw [e_RW_parents_0]
      by_cases h4 : u = 4
      · rw [if_pos (by rw [h4]; rfl)]
      · have hc : cwho u = u := if_neg h4
        have := hu3 h4
        rw [if_neg (cwho_ne h4 hu), hQ.2.1, rm_k _ r hr, tt_and, gb_T, c_Room_hasTenant _ hr hR hz, bI_some, hc, iI_toInt (by omega) (by omega), decide_eq_true (by omega), b2i_t, if_neg (by decide)]
    by_cases hw : 0 ≤ wl ∧ wl < ((2 ^ nz z : Nat) : Int)
    · by_cases hb : 0 ≤ bl ∧ bl ≤ 1
      · obtain ⟨wl, rfl⟩ := Int.eq_ofNat_of_zero_le hw.1
        obtain ⟨bl, rfl⟩ := Int.eq_ofNat_of_zero_le hb.1
        refine ⟨iI (hit (fun v => wallT z tm v u bl) (2 ^ nz z) wl), ?_, ?_⟩
        · intro d M r ni st hQ hst
          have hr := hQ.rm
          have hrl := hQ.rl
          have hR := hQ.room
          obtain ⟨M1, st1, e1, hE1, hS1, hle⟩ := c_RW_tuneQ (d + 78) hQ (by omega)
          obtain ⟨M2, e2, hE2, hS2⟩ := c_Stp_comingTo (d + 73) (wall := wl) (bl := bl) (u := u) hS1 (by omega) hu (by omega)
          have hE3 : Eqx (scr r) M M2 := hE1.tr (hE2.mono (scr_sub (by intro a ha; simp only [List.mem_cons, List.not_mem_nil, or_false] at ha; omega)))
          show ∃ M' st', X2 (d + 79) m_RW_parents 0 [.ref 100, .int (iI wl), .int (iI bl), .int (iI (cwho u))] [] M = _ ∧ _
          rw [entC d M r ni st hQ, e_RW_parents_19, hQ.2.1, rm_k _ r hr, tt_and, gb_T, c_Room_hasWall _ hr hR.1.2.2.1 h9, bI_some, iI_toInt (by omega) (by omega), decide_eq_true hw, b2i_t, if_neg (by decide), c_RW_isBlind, bI_some, iI_toInt (by omega) (by omega), decide_eq_true hb, b2i_t, if_neg (by decide), e1, bV_some, e2, bI_some]
          exact ⟨M2, st1, rfl, hE3, hQ.fr hE3 hS2, hle⟩
        · intro d M hQ
          have hQ1 := hQ.res (ResM.thr M)
          obtain ⟨M1, e1, hE1, hv⟩ := c_Mo_laysFrom (d + 74) (M0 := wI M 197 0 (iI 0)) (tm := tm) (bl := bl) (u := u) hQ1.okz hQ1.tm hu
          rw [hQ1.1] at hv
          show ∃ M', X2 (d + 79) m_Mo_parents 0 [.ref 197, .int (iI wl), .int (iI bl), .int (iI (cwho u))] [] M = _ ∧ _
          refine ⟨M1, ?_, (ResM.thr M).tr (ResM.of hE1 (by intro a ha; simp only [List.mem_cons, List.not_mem_nil, or_false] at ha; omega))⟩
          rw [e_Mo_parents_0]
          by_cases h4 : u = 4
          · rw [if_pos (by rw [h4]; rfl), c_Mo_isWall _ hQ1.okz, bI_some, hQ1.1, i2l_iI (by omega) (by omega), lI_toInt (by omega) (by omega), decide_eq_true hw, b2i_t, if_neg (by decide), c_Mo_isBlind, bI_some, i2l_iI (by omega) (by omega), lI_toInt (by omega) (by omega), decide_eq_true hb, b2i_t, if_neg (by decide), e1, bV_some, inb_ok (by omega) (by omega) (by omega), gb_T, ix_nat (by omega), hv wl (by omega)]
          · have := hu3 h4
            have hc : cwho u = u := if_neg h4
            rw [if_neg (cwho_ne h4 hu), c_Mo_isTenant _ hQ1.okz, bI_some, hQ1.1, i2l_iI (z := cwho u) (by omega) (by omega), lI_toInt (z := cwho u) (by omega) (by omega), decide_eq_true (show 0 ≤ cwho u ∧ cwho u < zn z 3 by omega), b2i_t, if_neg (by decide), c_Mo_isWall _ hQ1.okz, bI_some, hQ1.1, i2l_iI (by omega) (by omega), lI_toInt (by omega) (by omega), decide_eq_true hw, b2i_t, if_neg (by decide), c_Mo_isBlind, bI_some, i2l_iI (by omega) (by omega), lI_toInt (by omega) (by omega), decide_eq_true hb, b2i_t, if_neg (by decide), e1, bV_some, inb_ok (by omega) (by omega) (by omega), gb_T, ix_nat (by omega), hv wl (by omega)]
      · refine ⟨iI (-3), ?_, ?_⟩
        · intro d M r ni st hQ hst
          have hr := hQ.rm
          have hR := hQ.room
          show ∃ M' st', X2 (d + 79) m_RW_parents 0 [.ref 100, .int (iI wl), .int (iI bl), .int (iI (cwho u))] [] M = _ ∧ _
          rw [entC d M r ni st hQ, e_RW_parents_19, hQ.2.1, rm_k _ r hr, tt_and, gb_T, c_Room_hasWall _ hr hR.1.2.2.1 h9, bI_some, iI_toInt (by omega) (by omega), decide_eq_true hw, b2i_t, if_neg (by decide), c_RW_isBlind, bI_some, iI_toInt (by omega) (by omega), decide_eq_false hb, b2i_f, if_pos (by decide)]
          exact ⟨M, st, rfl, Eqx.rf, hQ, by omega⟩
        · intro d M hQ
          have hQ1 := hQ.res (ResM.thr M)
          show ∃ M', X2 (d + 79) m_Mo_parents 0 [.ref 197, .int (iI wl), .int (iI bl), .int (iI (cwho u))] [] M = _ ∧ _
          refine ⟨_, ?_, ResM.thr M⟩
          rw [e_Mo_parents_0]
          by_cases h4 : u = 4
          · rw [if_pos (by rw [h4]; rfl), c_Mo_isWall _ hQ1.okz, bI_some, hQ1.1, i2l_iI (by omega) (by omega), lI_toInt (by omega) (by omega), decide_eq_true hw, b2i_t, if_neg (by decide), c_Mo_isBlind, bI_some, i2l_iI (by omega) (by omega), lI_toInt (by omega) (by omega), decide_eq_false hb, b2i_f, if_pos (by decide)]
          · have := hu3 h4
            have hc : cwho u = u := if_neg h4
            rw [if_neg (cwho_ne h4 hu), c_Mo_isTenant _ hQ1.okz, bI_some, hQ1.1, i2l_iI (z := cwho u) (by omega) (by omega), lI_toInt (z := cwho u) (by omega) (by omega), decide_eq_true (show 0 ≤ cwho u ∧ cwho u < zn z 3 by omega), b2i_t, if_neg (by decide), c_Mo_isWall _ hQ1.okz, bI_some, hQ1.1, i2l_iI (by omega) (by omega), lI_toInt (by omega) (by omega), decide_eq_true hw, b2i_t, if_neg (by decide), c_Mo_isBlind, bI_some, i2l_iI (by omega) (by omega), lI_toInt (by omega) (by omega), decide_eq_false hb, b2i_f, if_pos (by decide)]
    · refine ⟨iI (-3), ?_, ?_⟩
      · intro d M r ni st hQ hst
        have hr := hQ.rm
        have hR := hQ.room
        show ∃ M' st', X2 (d + 79) m_RW_parents 0 [.ref 100, .int (iI wl), .int (iI bl), .int (iI (cwho u))] [] M = _ ∧ _
        rw [entC d M r ni st hQ, e_RW_parents_19, hQ.2.1, rm_k _ r hr, tt_and, gb_T, c_Room_hasWall _ hr hR.1.2.2.1 h9, bI_some, iI_toInt (by omega) (by omega), decide_eq_false hw, b2i_f, if_pos (by decide)]
        exact ⟨M, st, rfl, Eqx.rf, hQ, by omega⟩
      · intro d M hQ
        have hQ1 := hQ.res (ResM.thr M)
        show ∃ M', X2 (d + 79) m_Mo_parents 0 [.ref 197, .int (iI wl), .int (iI bl), .int (iI (cwho u))] [] M = _ ∧ _
        refine ⟨_, ?_, ResM.thr M⟩
        rw [e_Mo_parents_0]
        by_cases h4 : u = 4
        · rw [if_pos (by rw [h4]; rfl), c_Mo_isWall _ hQ1.okz, bI_some, hQ1.1, i2l_iI (by omega) (by omega), lI_toInt (by omega) (by omega), decide_eq_false hw, b2i_f, if_pos (by decide)]
        · have := hu3 h4
          have hc : cwho u = u := if_neg h4
          rw [if_neg (cwho_ne h4 hu), c_Mo_isTenant _ hQ1.okz, bI_some, hQ1.1, i2l_iI (z := cwho u) (by omega) (by omega), lI_toInt (z := cwho u) (by omega) (by omega), decide_eq_true (show 0 ≤ cwho u ∧ cwho u < zn z 3 by omega), b2i_t, if_neg (by decide), c_Mo_isWall _ hQ1.okz, bI_some, hQ1.1, i2l_iI (by omega) (by omega), lI_toInt (by omega) (by omega), decide_eq_false hw, b2i_f, if_pos (by decide)]
  · refine ⟨iI (-2), ?_, ?_⟩
    · intro d M r ni st hQ hst
      have hr := hQ.rm
      have hR := hQ.room
      show ∃ M' st', X2 (d + 79) m_RW_parents 0 [.ref 100, .int (iI wl), .int (iI bl), .int (iI t)] [] M = _ ∧ _
      rw [e_RW_parents_0, if_neg (by rw [iI_eq t1 t2 (by omega) (by omega)]; omega), hQ.2.1, rm_k _ r hr, tt_and, gb_T, c_Room_hasTenant _ hr hR hz, bI_some, iI_toInt t1 t2, decide_eq_false (by omega), b2i_f, if_pos (by decide)]
      exact ⟨M, st, rfl, Eqx.rf, hQ, by omega⟩
    · intro d M hQ
      have hQ1 := hQ.res (ResM.thr M)
      show ∃ M', X2 (d + 79) m_Mo_parents 0 [.ref 197, .int (iI wl), .int (iI bl), .int (iI t)] [] M = _ ∧ _
      rw [e_Mo_parents_0, if_neg (by rw [iI_eq t1 t2 (by omega) (by omega)]; omega), c_Mo_isTenant _ hQ1.okz, bI_some, hQ1.1, i2l_iI t1 t2, lI_toInt (by omega) (by omega), decide_eq_false (by omega), b2i_f, if_pos (by decide)]
      exact ⟨_, rfl, ResM.thr M⟩
theorem c_Mo_noSo (d : Nat) {M : Mem} (hz : OkZ (M.1 198)) (bl t : Int) (b1 : -2147483648 ≤ bl) (b2 : bl ≤ 2147483647) (t1 : -2147483648 ≤ t) (t2 : t ≤ 2147483647) : c2 (d + 3) m_Mo_noSo [.ref 197, .int (iI bl), .int (iI t)] M = some (.int (iI (if t = -1 ∨ (0 ≤ t ∧ t < zn (M.1 198) 3) then (if 0 ≤ bl ∧ bl ≤ 1 then 0 else -3) else -2)), M) := by
  show X2 (d + 2) m_Mo_noSo 0 [.ref 197, .int (iI bl), .int (iI t)] [] M = _
  rw [e_Mo_noSo_0]
  by_cases h1 : t = -1
  · rw [if_pos (by rw [h1]), if_pos (Or.inl h1), c_Mo_isBlind, bI_some, i2l_iI b1 b2, lI_toInt (by omega) (by omega)]
    by_cases hb : 0 ≤ bl ∧ bl ≤ 1
    · rw [decide_eq_true hb, b2i_t, if_neg (by decide), if_pos hb]
    · rw [decide_eq_false hb, b2i_f, if_pos (by decide), if_neg hb]
  · rw [if_neg (by rw [iI_eq t1 t2 (by omega) (by omega)]; exact h1), c_Mo_isTenant _ hz, bI_some, i2l_iI t1 t2, lI_toInt (by omega) (by omega)]
    by_cases ht : 0 ≤ t ∧ t < zn (M.1 198) 3
    · rw [decide_eq_true ht, b2i_t, if_neg (by decide), if_pos (Or.inr ht), c_Mo_isBlind, bI_some, i2l_iI b1 b2, lI_toInt (by omega) (by omega)]
      by_cases hb : 0 ≤ bl ∧ bl ≤ 1
      · rw [decide_eq_true hb, b2i_t, if_neg (by decide), if_pos hb]
      · rw [decide_eq_false hb, b2i_f, if_pos (by decide), if_neg hb]
    · rw [decide_eq_false ht, b2i_f, if_pos (by decide), if_neg (by omega)]
theorem c_orphans30 (d : Nat) {M : Mem} {f : Nat → Nat} (hz : OkZ (M.1 198)) (hv : ∀ v, v < 512 → gI M 212 v = iI (f v)) (hf : ∀ v, f v ≤ 512) (v1 v2 v3 : Value) : ∀ j k, j + k = 2 ^ nz (M.1 198) → X2 (d + 1) m_Mo_orphans 30 [.ref 197, v1, v2, v3, .int (iI (cnt (fun v => decide (f v = 0)) k)), .int (iI k)] [] M = some (.int (iI (cnt (fun v => decide (f v = 0)) (2 ^ nz (M.1 198)))), M) := by
  have h9 := nz_le hz
  have hp := pow9 h9
  intro j
  induction j with
  | zero =>
    intro k hk
    rw [e_Mo_orphans_30, c_Mo_rosesz _ hz, bI_some, iI_shl1 (by omega), Nat.one_shiftLeft, if_neg (by rw [iI_lt (by omega) (by omega) (by omega) (by omega)]; omega), show k = 2 ^ nz (M.1 198) by omega]
  | succ j ih =>
    intro k hk
    have this := ih (k + 1) (by omega)
    have hfk := hf k
    have hs := cnt_s (fun v => decide (f v = 0)) k
    rw [e_Mo_orphans_30, c_Mo_rosesz _ hz, bI_some, iI_shl1 (by omega), Nat.one_shiftLeft, if_pos (by rw [iI_lt (by omega) (by omega) (by omega) (by omega)]; omega), inb_ok (by omega) (by omega) (by omega), gb_T, ix_nat (by omega), hv k (by omega), iI_add, iI_add, iI_add]
    by_cases q : f k = 0
    · rw [if_pos (by rw [q]; rfl)]
      rw [if_pos (decide_eq_true q)] at hs
      rw [hs] at this; exact this
    · rw [if_neg (by rw [iI_eq0 (by omega) (by omega)]; omega)]
      rw [if_neg (by rw [decide_eq_true_iff]; exact q)] at hs
      rw [hs] at this; exact this
theorem c_still24 (d : Nat) {M0 : Mem} {tm bl u : Nat} (hz : OkZ (M0.1 198)) (ht : gI M0 198 27 = iI tm) (hu : u < 5) (v3 : Value) : ∀ j k M, j + k = 2 ^ nz (M0.1 198) → Eqx [202, 203] M0 M → ∃ M', X2 (d + 4) m_Mo_still 24 [.ref 197, .int (iI bl), .int (iI (cwho u)), v3, .int (iI (cnt (fun v => decide (wallT (M0.1 198) tm v u bl = v)) k)), .int (iI k)] [] M = some (.int (iI (cnt (fun v => decide (wallT (M0.1 198) tm v u bl = v)) (2 ^ nz (M0.1 198)))), M') ∧ Eqx [202, 203] M0 M' := by
  have h9 := nz_le hz
  have hp := pow9 h9
  intro j
  induction j with
  | zero =>
    intro k M hk hM
    have hx : M.1 198 = M0.1 198 := (hM 198 (by decide)).1
    have hk' : k = 2 ^ nz (M0.1 198) := by omega
    rw [e_Mo_still_24, c_Mo_rosesz _ (by rw [hx]; exact hz), bI_some, hx, iI_shl1 (by omega), Nat.one_shiftLeft, if_neg (by rw [iI_lt (by omega) (by omega) (by omega) (by omega)]; omega), hk']
    exact ⟨M, rfl, hM⟩
  | succ j ih =>
    intro k M hk hM
    have hx : M.1 198 = M0.1 198 := (hM 198 (by decide)).1
    obtain ⟨M1, e1, hE1⟩ := c_Mo_wallThen d (M0 := M) (tm := tm) (w := k) (who := u) (bl := bl) (by rw [hx]; exact hz) ((eqx_I hM (by decide) 27).trans ht) (by omega) (by omega)
    rw [hx] at e1
    have hwk := wallT_lt hz tm k u bl
    obtain ⟨M2, e2, hE2⟩ := ih (k + 1) M1 (by omega) (hM.tr hE1)
    have hs := cnt_s (fun v => decide (wallT (M0.1 198) tm v u bl = v)) k
    have key : (if iI (wallT (M0.1 198) tm k u bl) = iI k then X2 (d + 4) m_Mo_still 24 [.ref 197, .int (iI bl), .int (iI (cwho u)), v3, .int (iI (cnt (fun v => decide (wallT (M0.1 198) tm v u bl = v)) k + 1)), .int (iI (k + 1))] [] M1 else X2 (d + 4) m_Mo_still 24 [.ref 197, .int (iI bl), .int (iI (cwho u)), v3, .int (iI (cnt (fun v => decide (wallT (M0.1 198) tm v u bl = v)) k + 0)), .int (iI (k + 1))] [] M1) = some (.int (iI (cnt (fun v => decide (wallT (M0.1 198) tm v u bl = v)) (2 ^ nz (M0.1 198)))), M2) := by
      by_cases q : wallT (M0.1 198) tm k u bl = k
      · rw [if_pos (by rw [q])]
        rw [if_pos (decide_eq_true q)] at hs
        rw [hs] at e2; exact e2
      · rw [if_neg (by rw [iI_eq (by omega) (by omega) (by omega) (by omega)]; omega)]
        rw [if_neg (by rw [decide_eq_true_iff]; exact q)] at hs
        rw [hs] at e2; exact e2
    refine ⟨M2, ?_, hE2⟩
    rw [e_Mo_still_24, c_Mo_rosesz _ (by rw [hx]; exact hz), bI_some, hx, iI_shl1 (by omega), Nat.one_shiftLeft, if_pos (by rw [iI_lt (by omega) (by omega) (by omega) (by omega)]; omega)]
    by_cases h4 : u = 4
    · have e1' := e1
      rw [show iI (u : Int) = iI 4 by rw [h4]; rfl] at e1'
      rw [if_pos (by rw [h4]; rfl), e1', bI_some, iI_add, iI_add, iI_add]
      exact key
    · rw [if_neg (cwho_ne h4 hu), show (cwho u) = (u : Int) from if_neg h4, e1, bI_some, iI_add, iI_add, iI_add]
      rw [show (cwho u) = (u : Int) from if_neg h4] at key
      exact key
theorem p_orphans (z : Row) (hz : OkZ z) (w who tm : Nat) (x1 x2 : Int32) : Pair m_RW_orphans m_Mo_orphans [.int x1, .int x2] z w who tm := by
  obtain ⟨bl, rfl, b1, b2⟩ := iI_ex x1
  obtain ⟨t, rfl, t1, t2⟩ := iI_ex x2
  have h9 := nz_le hz
  have hp := pow9 h9
  have h34 := zn3_le hz
  by_cases ht : t = -1 ∨ (0 ≤ t ∧ t < zn z 3)
  · have ht' := ht
    obtain ⟨u, hu, rfl, hu3⟩ := who_ex hz ht
    by_cases hb : 0 ≤ bl ∧ bl ≤ 1
    · obtain ⟨bl, rfl⟩ := Int.eq_ofNat_of_zero_le hb.1
      refine ⟨iI (cnt (fun v => decide (hit (fun v => wallT z tm v u bl) (2 ^ nz z) v = 0)) (2 ^ nz z)), ?_, ?_⟩
      · intro d M r ni st hQ hst
        have hr := hQ.rm
        have hrl := hQ.rl
        have hR := hQ.room
        obtain ⟨M1, st1, e1, hE1, hS1, hle⟩ := c_RW_tuneQ (d + 78) hQ (by omega)
        obtain ⟨M2, e2, hE2, hS2⟩ := c_Stp_comingOfNone (d + 73) (bl := bl) (u := u) hS1 (by omega) hu
        have hE3 : Eqx (scr r) M M2 := hE1.tr (hE2.mono (scr_sub (by intro a ha; simp only [List.mem_cons, List.not_mem_nil, or_false] at ha; omega)))
        show ∃ M' st', X2 (d + 79) m_RW_orphans 0 [.ref 100, .int (iI bl), .int (iI (cwho u))] [] M = _ ∧ _
        refine ⟨M2, st1, ?_, hE3, hQ.fr hE3 hS2, hle⟩
        rw [e_RW_orphans_0]
        by_cases h4 : u = 4
        · rw [if_pos (by rw [h4]; rfl), c_RW_isBlind, bI_some, iI_toInt (by omega) (by omega), decide_eq_true hb, b2i_t, if_neg (by decide), e1, bV_some, e2, bI_some]
        · have := hu3 h4
          have hc : cwho u = u := if_neg h4
          rw [if_neg (cwho_ne h4 hu), hQ.2.1, rm_k _ r hr, tt_and, gb_T, c_Room_hasTenant _ hr hR hz, bI_some, iI_toInt (z := cwho u) (by omega) (by omega), decide_eq_true (show 0 ≤ cwho u ∧ cwho u < zn z 3 by omega), b2i_t, if_neg (by decide), c_RW_isBlind, bI_some, iI_toInt (by omega) (by omega), decide_eq_true hb, b2i_t, if_neg (by decide), e1, bV_some, e2, bI_some]
      · intro d M hQ
        have hQ1 := hQ.res (ResM.thr M)
        obtain ⟨M1, e1, hE1, hv⟩ := c_Mo_laysFrom (d + 74) (M0 := wI M 197 0 (iI 0)) (tm := tm) (bl := bl) (u := u) hQ1.okz hQ1.tm hu
        rw [hQ1.1] at hv
        have hx : M1.1 198 = z := ((hE1 198 (by decide)).1).trans hQ1.1
        have e30 := c_orphans30 (d + 78) (M := M1) (by rw [hx]; exact hz) hv (fun v => by have := hit_le (fun v => wallT z tm v u bl) (2 ^ nz z) v; omega) (.int (iI bl)) (.int (iI (cwho u))) (.int (iI 0)) (2 ^ nz (M1.1 198)) 0 (by omega)
        rw [hx] at e30
        show ∃ M', X2 (d + 79) m_Mo_orphans 0 [.ref 197, .int (iI bl), .int (iI (cwho u)), uns, uns, uns] [] M = _ ∧ _
        rw [e_Mo_orphans_0, c_Mo_noSo _ hQ1.okz _ _ (by omega) (by omega) t1 t2, bI_some, hQ1.1, if_pos ht', if_pos hb, if_pos (by decide), e1, bV_some]
        exact ⟨M1, e30, (ResM.thr M).tr (ResM.of hE1 (by intro a ha; simp only [List.mem_cons, List.not_mem_nil, or_false] at ha; omega))⟩
    · refine ⟨iI (-3), ?_, ?_⟩
      · intro d M r ni st hQ hst
        have hr := hQ.rm
        have hR := hQ.room
        show ∃ M' st', X2 (d + 79) m_RW_orphans 0 [.ref 100, .int (iI bl), .int (iI (cwho u))] [] M = _ ∧ _
        refine ⟨M, st, ?_, Eqx.rf, hQ, by omega⟩
        rw [e_RW_orphans_0]
        by_cases h4 : u = 4
        · rw [if_pos (by rw [h4]; rfl), c_RW_isBlind, bI_some, iI_toInt b1 b2, decide_eq_false hb, b2i_f, if_pos (by decide)]
        · have := hu3 h4
          have hc : cwho u = u := if_neg h4
          rw [if_neg (cwho_ne h4 hu), hQ.2.1, rm_k _ r hr, tt_and, gb_T, c_Room_hasTenant _ hr hR hz, bI_some, iI_toInt (z := cwho u) (by omega) (by omega), decide_eq_true (show 0 ≤ cwho u ∧ cwho u < zn z 3 by omega), b2i_t, if_neg (by decide), c_RW_isBlind, bI_some, iI_toInt b1 b2, decide_eq_false hb, b2i_f, if_pos (by decide)]
      · intro d M hQ
        have hQ1 := hQ.res (ResM.thr M)
        show ∃ M', X2 (d + 79) m_Mo_orphans 0 [.ref 197, .int (iI bl), .int (iI (cwho u)), uns, uns, uns] [] M = _ ∧ _
        rw [e_Mo_orphans_0, c_Mo_noSo _ hQ1.okz _ _ b1 b2 t1 t2, bI_some, hQ1.1, if_pos ht', if_neg hb, if_neg (by decide)]
        exact ⟨_, rfl, ResM.thr M⟩
  · refine ⟨iI (-2), ?_, ?_⟩
    · intro d M r ni st hQ hst
      have hr := hQ.rm
      have hR := hQ.room
      show ∃ M' st', X2 (d + 79) m_RW_orphans 0 [.ref 100, .int (iI bl), .int (iI t)] [] M = _ ∧ _
      rw [e_RW_orphans_0, if_neg (by rw [iI_eq t1 t2 (by omega) (by omega)]; omega), hQ.2.1, rm_k _ r hr, tt_and, gb_T, c_Room_hasTenant _ hr hR hz, bI_some, iI_toInt t1 t2, decide_eq_false (by omega), b2i_f, if_pos (by decide)]
      exact ⟨M, st, rfl, Eqx.rf, hQ, by omega⟩
    · intro d M hQ
      have hQ1 := hQ.res (ResM.thr M)
      show ∃ M', X2 (d + 79) m_Mo_orphans 0 [.ref 197, .int (iI bl), .int (iI t), uns, uns, uns] [] M = _ ∧ _
      rw [e_Mo_orphans_0, c_Mo_noSo _ hQ1.okz _ _ b1 b2 t1 t2, bI_some, hQ1.1, if_neg ht, if_neg (by decide)]
      exact ⟨_, rfl, ResM.thr M⟩
theorem p_still (z : Row) (hz : OkZ z) (w who tm : Nat) (x1 x2 : Int32) : Pair m_RW_still m_Mo_still [.int x1, .int x2] z w who tm := by
  obtain ⟨bl, rfl, b1, b2⟩ := iI_ex x1
  obtain ⟨t, rfl, t1, t2⟩ := iI_ex x2
  have h9 := nz_le hz
  have hp := pow9 h9
  have h34 := zn3_le hz
  by_cases ht : t = -1 ∨ (0 ≤ t ∧ t < zn z 3)
  · have ht' := ht
    obtain ⟨u, hu, rfl, hu3⟩ := who_ex hz ht
    by_cases hb : 0 ≤ bl ∧ bl ≤ 1
    · obtain ⟨bl, rfl⟩ := Int.eq_ofNat_of_zero_le hb.1
      refine ⟨iI (cnt (fun v => decide (wallT z tm v u bl = v)) (2 ^ nz z)), ?_, ?_⟩
      · intro d M r ni st hQ hst
        have hr := hQ.rm
        have hrl := hQ.rl
        have hR := hQ.room
        obtain ⟨M1, st1, e1, hE1, hS1, hle⟩ := c_RW_tuneQ (d + 78) hQ (by omega)
        obtain ⟨M2, e2, hE2, hS2⟩ := c_Stp_stayingSame (d + 73) (bl := bl) (u := u) hS1 (by omega) hu
        have hE3 : Eqx (scr r) M M2 := hE1.tr (hE2.mono (scr_sub (by intro a ha; simp only [List.mem_cons, List.not_mem_nil, or_false] at ha; omega)))
        show ∃ M' st', X2 (d + 79) m_RW_still 0 [.ref 100, .int (iI bl), .int (iI (cwho u))] [] M = _ ∧ _
        refine ⟨M2, st1, ?_, hE3, hQ.fr hE3 hS2, hle⟩
        rw [e_RW_still_0]
        by_cases h4 : u = 4
        · rw [if_pos (by rw [h4]; rfl), c_RW_isBlind, bI_some, iI_toInt (by omega) (by omega), decide_eq_true hb, b2i_t, if_neg (by decide), e1, bV_some, e2, bI_some]
        · have := hu3 h4
          have hc : cwho u = u := if_neg h4
          rw [if_neg (cwho_ne h4 hu), hQ.2.1, rm_k _ r hr, tt_and, gb_T, c_Room_hasTenant _ hr hR hz, bI_some, iI_toInt (z := cwho u) (by omega) (by omega), decide_eq_true (show 0 ≤ cwho u ∧ cwho u < zn z 3 by omega), b2i_t, if_neg (by decide), c_RW_isBlind, bI_some, iI_toInt (by omega) (by omega), decide_eq_true hb, b2i_t, if_neg (by decide), e1, bV_some, e2, bI_some]
      · intro d M hQ
        have hQ1 := hQ.res (ResM.thr M)
        obtain ⟨M1, e1, hE1⟩ := c_still24 (d + 75) (M0 := wI M 197 0 (iI 0)) (tm := tm) (bl := bl) (u := u) hQ1.okz hQ1.tm hu (.int (iI 0)) (2 ^ nz z) 0 (wI M 197 0 (iI 0)) (by rw [hQ1.1]; omega) Eqx.rf
        rw [hQ1.1] at e1
        show ∃ M', X2 (d + 79) m_Mo_still 0 [.ref 197, .int (iI bl), .int (iI (cwho u)), uns, uns, uns] [] M = _ ∧ _
        rw [e_Mo_still_0, c_Mo_noSo _ hQ1.okz _ _ (by omega) (by omega) t1 t2, bI_some, hQ1.1, if_pos ht', if_pos hb, if_pos (by decide)]
        exact ⟨M1, e1, (ResM.thr M).tr (ResM.of hE1 (by intro a ha; simp only [List.mem_cons, List.not_mem_nil, or_false] at ha; omega))⟩
    · refine ⟨iI (-3), ?_, ?_⟩
      · intro d M r ni st hQ hst
        have hr := hQ.rm
        have hR := hQ.room
        show ∃ M' st', X2 (d + 79) m_RW_still 0 [.ref 100, .int (iI bl), .int (iI (cwho u))] [] M = _ ∧ _
        refine ⟨M, st, ?_, Eqx.rf, hQ, by omega⟩
        rw [e_RW_still_0]
        by_cases h4 : u = 4
        · rw [if_pos (by rw [h4]; rfl), c_RW_isBlind, bI_some, iI_toInt b1 b2, decide_eq_false hb, b2i_f, if_pos (by decide)]
        · have := hu3 h4
          have hc : cwho u = u := if_neg h4
          rw [if_neg (cwho_ne h4 hu), hQ.2.1, rm_k _ r hr, tt_and, gb_T, c_Room_hasTenant _ hr hR hz, bI_some, iI_toInt (z := cwho u) (by omega) (by omega), decide_eq_true (show 0 ≤ cwho u ∧ cwho u < zn z 3 by omega), b2i_t, if_neg (by decide), c_RW_isBlind, bI_some, iI_toInt b1 b2, decide_eq_false hb, b2i_f, if_pos (by decide)]
      · intro d M hQ
        have hQ1 := hQ.res (ResM.thr M)
        show ∃ M', X2 (d + 79) m_Mo_still 0 [.ref 197, .int (iI bl), .int (iI (cwho u)), uns, uns, uns] [] M = _ ∧ _
        rw [e_Mo_still_0, c_Mo_noSo _ hQ1.okz _ _ b1 b2 t1 t2, bI_some, hQ1.1, if_pos ht', if_neg hb, if_neg (by decide)]
        exact ⟨_, rfl, ResM.thr M⟩
  · refine ⟨iI (-2), ?_, ?_⟩
    · intro d M r ni st hQ hst
      have hr := hQ.rm
      have hR := hQ.room
      show ∃ M' st', X2 (d + 79) m_RW_still 0 [.ref 100, .int (iI bl), .int (iI t)] [] M = _ ∧ _
      rw [e_RW_still_0, if_neg (by rw [iI_eq t1 t2 (by omega) (by omega)]; omega), hQ.2.1, rm_k _ r hr, tt_and, gb_T, c_Room_hasTenant _ hr hR hz, bI_some, iI_toInt t1 t2, decide_eq_false (by omega), b2i_f, if_pos (by decide)]
      exact ⟨M, st, rfl, Eqx.rf, hQ, by omega⟩
    · intro d M hQ
      have hQ1 := hQ.res (ResM.thr M)
      show ∃ M', X2 (d + 79) m_Mo_still 0 [.ref 197, .int (iI bl), .int (iI t), uns, uns, uns] [] M = _ ∧ _
      rw [e_Mo_still_0, c_Mo_noSo _ hQ1.okz _ _ b1 b2 t1 t2, bI_some, hQ1.1, if_neg ht, if_neg (by decide)]
      exact ⟨_, rfl, ResM.thr M⟩
