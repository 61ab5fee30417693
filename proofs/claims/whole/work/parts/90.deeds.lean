/-! DEEDS: what a moment becomes. -/
abbrev Mo : Type := Nat × Nat × Nat × Int32
def MoC (M : Mem) (a : Nat) (m : Mo) : Prop := MomR M a m.1 m.2.1 m.2.2.1 m.2.2.2
def OkM (z : Row) (m : Mo) : Prop := OkS z (5 * m.1 + m.2.1) ∧ m.2.1 < 5 ∧ m.1 < 512 ∧ m.2.2.1 < 10
def rowM (z : Row) (m : Mo) : Row := upr (upr (upr (upr z 25 (iI m.1)) 26 (iI m.2.1)) 27 (iI m.2.2.1)) 28 m.2.2.2
theorem rowM_at (z : Row) (m : Mo) (j : Nat) : rowM z m j = if j = 28 then m.2.2.2 else if j = 27 then iI m.2.2.1 else if j = 26 then iI m.2.1 else if j = 25 then iI m.1 else z j := rfl
theorem rowM_rq (z : Row) (m : Mo) : RowEq z (rowM z m) := fun k hk => by
  rw [rowM_at, if_neg (by omega), if_neg (by omega), if_neg (by omega), if_neg (by omega)]
theorem rowM_o (z : Row) (m : Mo) {j : Nat} (h : j < 25 ∨ 28 < j) : rowM z m j = z j := by
  rw [rowM_at, if_neg (by omega), if_neg (by omega), if_neg (by omega), if_neg (by omega)]
def nightM (z : Row) (m : Mo) (bl : Nat) : Mo := (nxt z m.2.2.1 (5 * m.1 + m.2.1) bl / 5, nxt z m.2.2.1 (5 * m.1 + m.2.1) bl % 5, m.2.2.1, m.2.2.2 + iI 1)
theorem night_ok {z : Row} (hz : OkZ z) {m : Mo} (h : OkM z m) (bl : Nat) : OkM z (nightM z m bl) := by
  have o := nxt_ok hz m.2.2.1 h.1 bl
  have l := o.lt hz
  refine ⟨?_, ?_, ?_, h.2.2.2⟩
  · show OkS z (5 * (nxt z m.2.2.1 (5 * m.1 + m.2.1) bl / 5) + nxt z m.2.2.1 (5 * m.1 + m.2.1) bl % 5)
    rw [show 5 * (nxt z m.2.2.1 (5 * m.1 + m.2.1) bl / 5) + nxt z m.2.2.1 (5 * m.1 + m.2.1) bl % 5 = nxt z m.2.2.1 (5 * m.1 + m.2.1) bl by omega]; exact o
  · show nxt z m.2.2.1 (5 * m.1 + m.2.1) bl % 5 < 5; omega
  · exact l.2.2
theorem c_RW_passNightM (d : Nat) {M : Mem} {r : Nat} {z : Row} {tm st a bl : Nat} {m : Mo} (hS : StepsC M r z tm st) (ha : a ∈ moms) (h : MoC M a m) (ok : OkM z m) (hbl : bl < 2) :
    ∃ M', c2 (d + 5) m_RW_passNight [.ref 100, .ref a, .int (iI bl)] M = some (.null, M') ∧ Eqx [a, 128, 129, 130, r + 6, r + 9] M M' ∧ StepsC M' r z tm st ∧ MoC M' a (nightM z m bl) := by
  have hz := hS.2.2.2.1
  obtain ⟨M', e, hE, hS', hm⟩ := c_RW_passNight d (bl := bl) hS ha h ok.2.2.1 ok.2.1 ok.2.2.2 hbl
  refine ⟨M', e, hE, hS', ?_⟩
  have o := nxt_ok hz m.2.2.1 ok.1 bl
  rw [plc_now ok.2.1, pas_plc hz _ _ _ (ok.1.lt hz).2.2 ok.1.2, plc_wall (o.lt hz).2.2, plc_who (o.lt hz).2.2] at hm
  exact hm
theorem c_Mo_goesNightM (d : Nat) {M : Mem} {z : Row} {bl : Nat} {m : Mo} (hz : OkZ z) (hM : M.1 198 = rowM z m) (ok : OkM z m) :
    ∃ M', c2 (d + 6) m_Mo_goesNight [.ref 197, .int (iI bl)] M = some (.null, M') ∧ Eqx [198, 202, 203] M M' ∧ M'.1 198 = rowM z (nightM z m bl) := by
  have rq := rowM_rq z m
  obtain ⟨M', e, hE, hr⟩ := c_Mo_goesNight d (M := M) (tm := m.2.2.1) (w := m.1) (who := m.2.1) (bl := bl) (by rw [hM]; exact rq_ok rq hz) (by rw [gI, hM]; rfl) (by rw [gI, hM]; rfl) (by rw [gI, hM]; rfl) ok.2.2.1 (by
    rw [hM]
    have := (rq_oks rq ok.1).2
    rw [show (5 * m.1 + m.2.1) % 5 = m.2.1 by have := ok.2.1; omega] at this
    exact this)
  refine ⟨M', e, hE, ?_⟩
  rw [hr, hM, gI, hM, rq_nxt rq hz]
  funext j
  unfold rowM nightM upr
  by_cases j28 : j = 28
  · rw [if_pos j28, if_pos j28]; rfl
  · rw [if_neg j28, if_neg j28]
    by_cases j26 : j = 26
    · have j27 : ¬ (j = 27) := by omega
      simp only [if_neg j28, if_neg j27, if_pos j26]
    · rw [if_neg j26]
      by_cases j25 : j = 25
      · have j27 : ¬ (j = 27) := by omega
        simp only [if_neg j28, if_neg j27, if_neg j26, if_pos j25]
      · rw [if_neg j25, if_neg j28]
        by_cases j27 : j = 27
        · rw [if_pos j27, if_pos j27]
        · rw [if_neg j27, if_neg j27, if_neg j26, if_neg j25, if_neg j26, if_neg j25]
def dWhy (z : Row) (v : Int) (m : Mo) : Int := if (0 ≤ v ∧ v ≤ 1) ∨ (30 ≤ v ∧ v ≤ 39) then 0 else if 10 ≤ v ∧ v ≤ 19 then (if v - 10 < zn z 3 then (if m.2.1 = 4 then 0 else 2) else 1) else if 20 ≤ v ∧ v ≤ 29 ∧ v - 20 < nz z then 0 else 1
def dDo (z : Row) (v : Int) (m : Mo) : Mo := if v < 2 then nightM z m v.toNat else if v < 20 then (m.1, (v - 10).toNat, m.2.2.1, m.2.2.2) else if v < 30 then (m.1 ^^^ (1 <<< (v - 20).toNat), m.2.1, m.2.2.1, m.2.2.2) else (m.1, m.2.1, (v - 30).toNat, m.2.2.2)
def dNx (z : Row) (v : Int) (m : Mo) : Mo := if dWhy z v m = 0 then dDo z v m else m
theorem dWhy_rng (z : Row) (v : Int) (m : Mo) : 0 ≤ dWhy z v m ∧ dWhy z v m ≤ 2 := by
  unfold dWhy
  split
  · omega
  · split
    · split
      · split <;> omega
      · omega
    · split <;> omega
theorem dDo_ok {z : Row} (hz : OkZ z) {v : Int} {m : Mo} (h : dWhy z v m = 0) (ok : OkM z m) : OkM z (dDo z v m) := by
  have h34 := zn3_le hz
  have h9 := nz_le hz
  unfold dWhy at h
  unfold dDo
  split at h
  · rename_i q
    by_cases q2 : v < 2
    · rw [if_pos q2]; exact night_ok hz ok _
    · rw [if_neg q2, if_neg (by omega), if_neg (by omega)]
      exact ⟨ok.1, ok.2.1, ok.2.2.1, by show (v - 30).toNat < 10; omega⟩
  · rename_i q
    split at h
    · rename_i q1
      split at h
      · rename_i q2
        rw [if_neg (by omega), if_pos (by omega)]
        refine ⟨⟨?_, ?_⟩, ?_, ok.2.2.1, ok.2.2.2⟩
        · show (5 * m.1 + (v - 10).toNat) / 5 < 2 ^ nz z
          have := ok.1.1
          have := ok.2.1
          omega
        · show WhoOk z ((5 * m.1 + (v - 10).toNat) % 5)
          right; omega
        · show (v - 10).toNat < 5; omega
      · exact absurd h (by decide)
    · split at h
      · rename_i q1 q2
        rw [if_neg (by omega), if_neg (by omega), if_pos (by omega)]
        have hx : m.1 ^^^ (1 <<< (v - 20).toNat) < 2 ^ nz z := by
          apply Nat.xor_lt_two_pow
          · have := ok.1.1; have := ok.2.1; omega
          · rw [Nat.one_shiftLeft]; exact Nat.pow_lt_pow_right (by decide) (by omega)
        have hp := pow9 h9
        refine ⟨⟨?_, ?_⟩, ok.2.1, ?_, ok.2.2.2⟩
        · show (5 * (m.1 ^^^ (1 <<< (v - 20).toNat)) + m.2.1) / 5 < 2 ^ nz z
          have := ok.2.1
          omega
        · show WhoOk z ((5 * (m.1 ^^^ (1 <<< (v - 20).toNat)) + m.2.1) % 5)
          have := ok.1.2
          have h5 := ok.2.1
          rw [show (5 * m.1 + m.2.1) % 5 = m.2.1 by omega] at this
          rw [show (5 * (m.1 ^^^ (1 <<< (v - 20).toNat)) + m.2.1) % 5 = m.2.1 by omega]
          exact this
        · show m.1 ^^^ (1 <<< (v - 20).toNat) < 512; omega
      · exact absurd h (by decide)
theorem dNx_ok {z : Row} (hz : OkZ z) {v : Int} {m : Mo} (ok : OkM z m) : OkM z (dNx z v m) := by
  unfold dNx; split
  · rename_i q; exact dDo_ok hz q ok
  · exact ok
theorem MoC.put0 {M : Mem} {a : Nat} {m : Mo} (h : MoC M a m) (w : Nat) : MoC (wI M a 0 (iI w)) a (w, m.2.1, m.2.2.1, m.2.2.2) := ⟨gI_eq _ _ _ _, by rw [gI_nk (by decide)]; exact h.2.1, by rw [gI_nk (by decide)]; exact h.2.2.1, by rw [gI_nk (by decide)]; exact h.2.2.2⟩
theorem MoC.put1 {M : Mem} {a : Nat} {m : Mo} (h : MoC M a m) {u : Nat} (hu : u ≠ 4) : MoC (wI M a 1 (iI u)) a (m.1, u, m.2.2.1, m.2.2.2) := ⟨by rw [gI_nk (by decide)]; exact h.1, by rw [gI_eq]; show iI u = iI (cwho u); rw [cwho, if_neg hu], by rw [gI_nk (by decide)]; exact h.2.2.1, by rw [gI_nk (by decide)]; exact h.2.2.2⟩
theorem MoC.put2 {M : Mem} {a : Nat} {m : Mo} (h : MoC M a m) (t : Nat) : MoC (wI M a 2 (iI t)) a (m.1, m.2.1, t, m.2.2.2) := ⟨by rw [gI_nk (by decide)]; exact h.1, by rw [gI_nk (by decide)]; exact h.2.1, gI_eq _ _ _ _, by rw [gI_nk (by decide)]; exact h.2.2.2⟩
theorem c_RW_doDeed (d : Nat) {M : Mem} {r : Nat} {z : Row} {tm0 st a : Nat} {m : Mo} (hS : StepsC M r z tm0 st) (h5 : gR M 100 5 = r) (ha : a ∈ moms) (h : MoC M a m) (ok : OkM z m) (x : Int64) :
    ∃ M', c2 (d + 6) m_RW_doDeed [.ref 100, .ref a, .long x] M = some (.int (iI (dWhy z x.toInt m)), M') ∧ Eqx [a, 128, 129, 130, r + 6, r + 9] M M' ∧ StepsC M' r z tm0 st ∧ MoC M' a (dNx z x.toInt m) := by
  have hr := hS.1
  have hrl := rm_lt r hr
  have hR := hS.2.2.1
  have hz := hS.2.2.2.1
  have h34 := zn3_le hz
  have h9 := nz_le hz
  have har := moms_rng a ha
  have wk : ∀ {M' : Mem}, Eqx [a] M M' → Eqx [a, 128, 129, 130, r + 6, r + 9] M M' ∧ StepsC M' r z tm0 st := fun {M'} hE => ⟨hE.mono (by simp), hS.fq hE (by intro b hb; simp only [List.mem_cons, List.not_mem_nil, or_false] at hb; omega)⟩
  show ∃ M', X2 (d + 5) m_RW_doDeed 0 [.ref 100, .ref a, .long x, mk2, uns] [] M = _ ∧ _
  rw [e_RW_doDeed_0]
  simp only [cmp_lt]
  rw [lI_toInt (by decide) (by decide), lI_toInt (by decide) (by decide)]
  have no : dWhy z x.toInt m = 1 → ∀ {y : Rs Mem}, y = some (.int (iI 1), M) → ∃ M', y = some (.int (iI (dWhy z x.toInt m)), M') ∧ Eqx [a, 128, 129, 130, r + 6, r + 9] M M' ∧ StepsC M' r z tm0 st ∧ MoC M' a (dNx z x.toInt m) := fun hd {y} hy => ⟨M, by rw [hy, hd], Eqx.rf, hS, by unfold dNx; rw [hd, if_neg (by decide)]; exact h⟩
  by_cases h0 : x.toInt < 0
  · rw [if_pos h0]
    exact no (by unfold dWhy; rw [if_neg (by omega), if_neg (by omega), if_neg (by omega)]) rfl
  · rw [if_neg h0]
    by_cases h40 : x.toInt < 40
    · rw [if_pos h40]
      obtain ⟨v, hv⟩ := Int.eq_ofNat_of_zero_le (show 0 ≤ x.toInt by omega)
      have hx : x = lI v := by rw [← lI_self x, hv]
      have e32 : x.toInt32 = iI v := by rw [hx, l2i_lI]
      have ed : (iI v / iI 10) * iI 10 = iI ((v / 10 * 10 : Nat) : Int) := by
        rw [show iI 10 = iI ((10 : Nat) : Int) from rfl, iI_div (by omega) (by decide), iI_mul]; rfl
      have er : irm (iI v) (iI 10) = iI ((v % 10 : Nat) : Int) := iI_rem (b := 10) (by omega) (by decide)
      rw [e32, ed, er, hv]
      rw [hv] at h0 h40 no
      rcases (show v / 10 = 0 ∨ v / 10 = 1 ∨ v / 10 = 2 ∨ v / 10 = 3 by omega) with q | q | q | q
      · rw [q, if_neg (by decide), if_neg (by decide), if_neg (by decide), c_RW_isBlind, bI_some, iI_toInt (by omega) (by omega)]
        by_cases hb : v ≤ 1
        · obtain ⟨M1, e1, hE1, hS1, hm1⟩ := c_RW_passNightM d (bl := v % 10) hS ha h ok (by omega)
          rw [decide_eq_true (by omega), b2i_t, if_neg (by decide), e1, bV_some]
          have hw : dWhy z v m = 0 := by unfold dWhy; rw [if_pos (by omega)]
          refine ⟨M1, by rw [hw], hE1, hS1, ?_⟩
          unfold dNx dDo
          rw [hw, if_pos rfl, if_pos (by omega), Int.toNat_natCast, show v = v % 10 by omega]
          exact hm1
        · rw [decide_eq_false (by omega), b2i_f, if_pos (by decide)]
          exact no (by unfold dWhy; rw [if_neg (by omega), if_neg (by omega), if_neg (by omega)]) rfl
      · rw [q, if_pos (by decide)]
        have el : ∃ M', c2 (d + 5) m_RW_doLet [.ref 100, .ref a, .int (iI ((v % 10 : Nat) : Int))] M = some (.int (iI (dWhy z v m)), M') ∧ Eqx [a, 128, 129, 130, r + 6, r + 9] M M' ∧ StepsC M' r z tm0 st ∧ MoC M' a (dNx z v m) := by
          show ∃ M', X2 (d + 4) m_RW_doLet 0 [.ref 100, .ref a, .int (iI ((v % 10 : Nat) : Int))] [] M = _ ∧ _
          rw [e_RW_doLet_0, h5, rm_k _ r hr, tt_and, gb_T, c_Room_hasTenant _ hr hR hz, bI_some, iI_toInt (by omega) (by omega)]
          by_cases ht : (v : Int) - 10 < zn z 3
          · rw [decide_eq_true (by omega), b2i_t, if_neg (by decide), mm_k _ a ha, gb_T, gb_T, h.2.1]
            by_cases h4 : m.2.1 = 4
            · rw [if_pos (by rw [cw_eq ok.2.1]; exact h4)]
              have hw : dWhy z v m = 0 := by unfold dWhy; rw [if_neg (by omega), if_pos (by omega), if_pos ht, if_pos h4]
              obtain ⟨w1, w2⟩ := wk (eqx_wI Eqx.rf (by simp) : Eqx [a] M (wI M a 1 (iI ((v % 10 : Nat) : Int))))
              refine ⟨_, by rw [hw], w1, w2, ?_⟩
              unfold dNx dDo
              rw [hw, if_pos rfl, if_neg (by omega), if_pos (by omega), show ((v : Int) - 10).toNat = v % 10 by omega]
              exact h.put1 (by omega)
            · rw [if_neg (by rw [cw_eq ok.2.1]; exact h4)]
              have hw : dWhy z v m = 2 := by unfold dWhy; rw [if_neg (by omega), if_pos (by omega), if_pos ht, if_neg h4]
              exact ⟨M, by rw [hw], Eqx.rf, hS, by unfold dNx; rw [hw, if_neg (by decide)]; exact h⟩
          · rw [decide_eq_false (by omega), b2i_f, if_pos (by decide)]
            exact no (by unfold dWhy; rw [if_neg (by omega), if_pos (by omega), if_neg ht]) rfl
        obtain ⟨M', e1, e2⟩ := el
        rw [e1, bI_some]
        exact ⟨M', rfl, e2⟩
      · rw [q, if_neg (by decide), if_pos (by decide), h5, rm_k _ r hr, tt_and, gb_T, c_Room_hasRose _ hr hR hz, bI_some, iI_toInt (by omega) (by omega)]
        by_cases ht : (v : Int) - 20 < nz z
        · rw [decide_eq_true (by omega), b2i_t, if_neg (by decide), mm_k _ a ha, gb_T, gb_T, h.1, iI_shl1 (by omega), iI_xor]
          have hw : dWhy z v m = 0 := by unfold dWhy; rw [if_neg (by omega), if_neg (by omega), if_pos (by omega)]
          obtain ⟨w1, w2⟩ := wk (eqx_wI Eqx.rf (by simp) : Eqx [a] M (wI M a 0 (iI ((m.1 ^^^ 1 <<< (v % 10) : Nat) : Int))))
          refine ⟨_, by rw [hw], w1, w2, ?_⟩
          unfold dNx dDo
          rw [hw, if_pos rfl, if_neg (by omega), if_neg (by omega), if_pos (by omega), show ((v : Int) - 20).toNat = v % 10 by omega]
          exact h.put0 _
        · rw [decide_eq_false (by omega), b2i_f, if_pos (by decide)]
          exact no (by unfold dWhy; rw [if_neg (by omega), if_neg (by omega), if_neg (by omega)]) rfl
      · rw [q, if_neg (by decide), if_neg (by decide), if_pos (by decide), mm_k _ a ha, gb_T]
        have hw : dWhy z v m = 0 := by unfold dWhy; rw [if_pos (by omega)]
        obtain ⟨w1, w2⟩ := wk (eqx_wI Eqx.rf (by simp) : Eqx [a] M (wI M a 2 (iI ((v % 10 : Nat) : Int))))
        refine ⟨_, by rw [hw], w1, w2, ?_⟩
        unfold dNx dDo
        rw [hw, if_pos rfl, if_neg (by omega), if_neg (by omega), if_neg (by omega), show ((v : Int) - 30).toNat = v % 10 by omega]
        exact h.put2 _
    · rw [if_neg h40]
      exact no (by unfold dWhy; rw [if_neg (by omega), if_neg (by omega), if_neg (by omega)]) rfl
/-! the reference -/
theorem c_Mo_whyLet (d : Nat) {M : Mem} {z : Row} {m : Mo} (hz : OkZ z) (hM : M.1 198 = rowM z m) (ok : OkM z m) (x : Int64) : c2 (d + 3) m_Mo_whyLet [.ref 197, .long x] M = some (.int (iI (if 0 ≤ x.toInt ∧ x.toInt < zn z 3 then (if m.2.1 = 4 then 0 else 2) else 1)), M) := by
  have rq := rowM_rq z m
  show X2 (d + 2) m_Mo_whyLet 0 [.ref 197, .long x, mk2] [] M = _
  rw [e_Mo_whyLet_0, c_Mo_isTenant _ (by rw [hM]; exact rq_ok rq hz), bI_some, hM, rq_zn rq (by omega), show gI M 198 26 = iI m.2.1 from by rw [gI, hM]; rfl]
  by_cases q : 0 ≤ x.toInt ∧ x.toInt < zn z 3
  · rw [decide_eq_true q, b2i_t, if_neg (show ¬ (iI 1 = 0) by decide), if_pos q]
    by_cases h4 : m.2.1 = 4
    · rw [if_pos (show iI m.2.1 = iI 4 by rw [h4]; rfl), if_pos h4]
    · rw [if_neg (show ¬ (iI m.2.1 = iI 4) by rw [who_eq ok.2.1]; exact h4), if_neg h4]
  · rw [decide_eq_false q, b2i_f, if_pos (show iI 0 = 0 from rfl), if_neg q]
theorem lsub_toInt {x : Int64} {k : Int} (h1 : -9223372036854775808 ≤ x.toInt - k) (h2 : x.toInt - k ≤ 9223372036854775807) : (x - lI k).toInt = x.toInt - k := by
  have : x - lI k = lI (x.toInt - k) := by rw [← lI_sub, lI_self]
  rw [this, lI_toInt h1 h2]
theorem c_Mo_whyNot (d : Nat) {M : Mem} {z : Row} {m : Mo} (hz : OkZ z) (hM : M.1 198 = rowM z m) (ok : OkM z m) (x : Int64) : c2 (d + 4) m_Mo_whyNot [.ref 197, .long x] M = some (.int (iI (dWhy z x.toInt m)), M) := by
  have rq := rowM_rq z m
  have h34 := zn3_le hz
  have h9 := nz_le hz
  show X2 (d + 3) m_Mo_whyNot 0 [.ref 197, .long x, mk2] [] M = _
  rw [e_Mo_whyNot_0, c_Mo_isBlind, bI_some]
  by_cases hb : 0 ≤ x.toInt ∧ x.toInt ≤ 1
  · rw [decide_eq_true hb, b2i_t, if_neg (show ¬ (iI 1 = 0) by decide)]
    unfold dWhy; rw [if_pos (Or.inl hb)]
  · rw [decide_eq_false hb, b2i_f, if_pos (show iI 0 = 0 from rfl), c_Mo_within, bI_some, lI_toInt (by decide) (by decide), lI_toInt (by decide) (by decide)]
    by_cases h3 : 30 ≤ x.toInt ∧ x.toInt ≤ 39
    · rw [decide_eq_true h3, b2i_t, if_neg (show ¬ (iI 1 = 0) by decide)]
      unfold dWhy; rw [if_pos (Or.inr h3)]
    · rw [decide_eq_false h3, b2i_f, if_pos (show iI 0 = 0 from rfl), c_Mo_within, bI_some, lI_toInt (by decide) (by decide), lI_toInt (by decide) (by decide)]
      have hn : ¬ ((0 ≤ x.toInt ∧ x.toInt ≤ 1) ∨ (30 ≤ x.toInt ∧ x.toInt ≤ 39)) := by omega
      unfold dWhy
      rw [if_neg hn]
      by_cases h1 : 10 ≤ x.toInt ∧ x.toInt ≤ 19
      · rw [decide_eq_true h1, b2i_t, if_neg (show ¬ (iI 1 = 0) by decide), c_Mo_whyLet _ hz hM ok, bI_some, lsub_toInt (by omega) (by omega), if_pos h1]
        by_cases q : x.toInt - 10 < zn z 3
        · rw [if_pos (show 0 ≤ x.toInt - 10 ∧ x.toInt - 10 < zn z 3 by omega), if_pos q]
        · rw [if_neg (show ¬ (0 ≤ x.toInt - 10 ∧ x.toInt - 10 < zn z 3) by omega), if_neg q]
      · rw [decide_eq_false h1, b2i_f, if_pos (show iI 0 = 0 from rfl), c_Mo_within, bI_some, lI_toInt (by decide) (by decide), lI_toInt (by decide) (by decide), if_neg h1]
        by_cases h2 : 20 ≤ x.toInt ∧ x.toInt ≤ 29
        · rw [decide_eq_true h2, b2i_t, if_neg (show ¬ (iI 1 = 0) by decide), c_Mo_isRose _ (by rw [hM]; exact rq_ok rq hz), bI_some, lsub_toInt (by omega) (by omega), hM, rq_nz rq]
          by_cases q : x.toInt - 20 < nz z
          · rw [decide_eq_true (show 0 ≤ x.toInt - 20 ∧ x.toInt - 20 < nz z by omega), b2i_t, if_neg (show ¬ (iI 1 = 0) by decide), if_pos ⟨h2.1, h2.2, q⟩]
          · rw [decide_eq_false (show ¬ (0 ≤ x.toInt - 20 ∧ x.toInt - 20 < nz z) by omega), b2i_f, if_pos (show iI 0 = 0 from rfl), if_neg (fun w => q w.2.2)]
        · rw [decide_eq_false h2, b2i_f, if_pos (show iI 0 = 0 from rfl), if_neg (fun w => h2 ⟨w.1, w.2.1⟩)]
theorem row25 (z : Row) (m : Mo) (w : Nat) : upr (rowM z m) 25 (iI w) = rowM z (w, m.2.1, m.2.2.1, m.2.2.2) := by
  funext j; unfold rowM upr
  by_cases j25 : j = 25
  · subst j25; rfl
  · rw [if_neg j25]
    by_cases j28 : j = 28
    · rw [if_pos j28, if_pos j28]
    · rw [if_neg j28, if_neg j28]
      by_cases j27 : j = 27
      · rw [if_pos j27, if_pos j27]
      · rw [if_neg j27, if_neg j27]
        by_cases j26 : j = 26
        · rw [if_pos j26, if_pos j26]
        · rw [if_neg j26, if_neg j26, if_neg j25, if_neg j25]
theorem row26 (z : Row) (m : Mo) (u : Nat) : upr (rowM z m) 26 (iI u) = rowM z (m.1, u, m.2.2.1, m.2.2.2) := by
  funext j; unfold rowM upr
  by_cases j26 : j = 26
  · subst j26; rfl
  · rw [if_neg j26]
    by_cases j28 : j = 28
    · rw [if_pos j28, if_pos j28]
    · rw [if_neg j28, if_neg j28]
      by_cases j27 : j = 27
      · rw [if_pos j27, if_pos j27]
      · rw [if_neg j27, if_neg j27, if_neg j26, if_neg j26]
theorem row27 (z : Row) (m : Mo) (t : Nat) : upr (rowM z m) 27 (iI t) = rowM z (m.1, m.2.1, t, m.2.2.2) := by
  funext j; unfold rowM upr
  by_cases j27 : j = 27
  · subst j27; rfl
  · rw [if_neg j27]
    by_cases j28 : j = 28
    · rw [if_pos j28, if_pos j28]
    · rw [if_neg j28, if_neg j28, if_neg j27, if_neg j27]
theorem c_Mo_does (d : Nat) {M : Mem} {z : Row} {m : Mo} {v : Int} (hz : OkZ z) (hM : M.1 198 = rowM z m) (ok : OkM z m) (h0 : dWhy z v m = 0) :
    ∃ M', c2 (d + 7) m_Mo_does [.ref 197, .int (iI v)] M = some (.null, M') ∧ Eqx [198, 202, 203] M M' ∧ M'.1 198 = rowM z (dDo z v m) := by
  have h34 := zn3_le hz
  have h9 := nz_le hz
  have hv : 0 ≤ v ∧ v < 40 := by
    unfold dWhy at h0
    split at h0
    · omega
    · split at h0
      · omega
      · split at h0
        · omega
        · exact absurd h0 (by decide)
  have hne : ¬ (2 ≤ v ∧ v ≤ 9) := fun q => by
    unfold dWhy at h0; rw [if_neg (by omega), if_neg (by omega), if_neg (by omega)] at h0; exact absurd h0 (by decide)
  show ∃ M', X2 (d + 6) m_Mo_does 0 [.ref 197, .int (iI v)] [] M = _ ∧ _
  rw [e_Mo_does_0]
  unfold dDo
  by_cases q1 : v < 2
  · obtain ⟨n, rfl⟩ := Int.eq_ofNat_of_zero_le hv.1
    obtain ⟨M1, e1, hE1, hr1⟩ := c_Mo_goesNightM d (bl := n) hz hM ok
    rw [if_pos (by rw [iI_lt (by omega) (by omega) (by omega) (by omega)]; omega), e1, bV_some, if_pos q1, Int.toNat_natCast]
    exact ⟨M1, rfl, hE1, hr1⟩
  · rw [if_neg (by rw [iI_lt (by omega) (by omega) (by omega) (by omega)]; omega), if_neg q1]
    by_cases q2 : v < 20
    · rw [if_pos (by rw [iI_lt (by omega) (by omega) (by omega) (by omega)]; omega), if_pos q2, iI_sub, show v - 10 = (((v - 10).toNat : Nat) : Int) by omega]
      exact ⟨_, rfl, eqx_wI Eqx.rf (by simp), by rw [wI_row, hM, row26]; rfl⟩
    · rw [if_neg (by rw [iI_lt (by omega) (by omega) (by omega) (by omega)]; omega), if_neg q2]
      by_cases q3 : v < 30
      · rw [if_pos (by rw [iI_lt (by omega) (by omega) (by omega) (by omega)]; omega), if_pos q3, iI_sub, show v - 20 = (((v - 20).toNat : Nat) : Int) by omega, iI_shl1 (by omega), show gI M 198 25 = iI m.1 from by rw [gI, hM]; rfl, iI_xor]
        exact ⟨_, rfl, eqx_wI Eqx.rf (by simp), by rw [wI_row, hM, row25]; rfl⟩
      · rw [if_neg (by rw [iI_lt (by omega) (by omega) (by omega) (by omega)]; omega), if_neg q3, iI_sub, show v - 30 = (((v - 30).toNat : Nat) : Int) by omega]
        exact ⟨_, rfl, eqx_wI Eqx.rf (by simp), by rw [wI_row, hM, row27]; rfl⟩
