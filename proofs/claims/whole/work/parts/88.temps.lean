/-! tempers. -/
def tOK (f : Nat → Nat → Nat) (wl : Nat → Nat) (fit : Nat → Nat → Bool) (bs : Nat) : Nat → Nat → Nat → Bool
  | 0, _, _ => true
  | j + 1, i, s => fit i (wl (f s (if bs.testBit i then 1 else 0))) && tOK f wl fit bs j (i + 1) (f s (if bs.testBit i then 1 else 0))
theorem t_both {z : Row} (hz : OkZ z) (tm : Nat) (fit : Nat → Nat → Bool) (bs : Nat) : ∀ j i s, OkS z s → tOK (pas z tm) (fun p => p % 512) fit bs j i (plc s) = tOK (nxt z tm) (fun s => s / 5) fit bs j i s
  | 0, _, _, _ => rfl
  | j + 1, i, s, ok => by
    have o := nxt_ok hz tm ok (if bs.testBit i then 1 else 0)
    rw [tOK, tOK, pas_plc hz tm s _ (ok.lt hz).2.2 ok.2, t_both hz tm fit bs j (i + 1) _ o, plc_wall (o.lt hz).2.2]
theorem c_RW_isTemperSeen (d : Nat) {M0 : Mem} {r : Nat} {z : Row} {w who tm st : Nat} {ni : Int32} {so : Nat → Int} {tn : Nat → Nat} {tv : Nat → Nat → Int64} {t bs n : Nat} (ht : t < 4) (hs : so t ≠ -1) (hn : tn t ≤ 10) (hbs : bs < 1024) (hn10 : n < 10) (hQ : QC M0 r z w who tm ni st) (hT : TrC M0 so tn tv) :
    ∃ M', c2 (d + 5) m_RW_isTemperSeen [.ref 100, .ref (189 + 2 * t), .int (iI bs), .int (iI n)] M0 = some (.int (iI (b2i (tOK (nxt z n) (fun s => s / 5) (fun k w => fitB (tv t k) w) bs (tn t) 0 (5 * w + who)))), M') ∧ Eqx (scr r) M0 M' ∧ QC M' r z w who tm ni st := by
  have hz := hQ.okz
  have hrl := hQ.rl
  obtain ⟨⟨tm0, hS⟩, h5, hN, hO, htm, hwho, hw⟩ := id hQ
  have go : ∀ (j i p : Nat) (M : Mem), i + j = tn t → p < 2560 → StepsC M r z tm0 st → Eqx (scr r) M0 M → ∃ M', X2 (d + 4) m_RW_isTemperSeen 12 [.ref 100, .ref (189 + 2 * t), .int (iI bs), .int (iI n), .int (iI p), .int (iI i)] [] M = some (.int (iI (b2i (tOK (pas z n) (fun p => p % 512) (fun k w => fitB (tv t k) w) bs j i p))), M') ∧ Eqx (scr r) M0 M' ∧ StepsC M' r z tm0 st := by
    intro j
    induction j with
    | zero =>
      intro i p M hi hp hS hE
      have hT1 := hT.sc hrl.2 hE
      rw [e_RW_isTemperSeen_12, tr_k ht, gb_T, ((hT1 t ht).2.1 hs).2.1, if_neg (by rw [iI_lt (by omega) (by omega) (by omega) (by omega)]; omega)]
      exact ⟨M, rfl, hE, hS⟩
    | succ j ih =>
      intro i p M hi hp hS hE
      have hT1 := hT.sc hrl.2 hE
      have eb : (iI bs >>> (iI i &&& 31)) &&& iI 1 = iI ((if bs.testBit i then 1 else 0 : Nat) : Int) := iI_bit (by omega) (by omega)
      generalize hb : (if bs.testBit i then 1 else 0 : Nat) = b at *
      have hb2 : b < 2 := by rw [← hb]; split <;> omega
      obtain ⟨M1, e1, hE1, hS1⟩ := c_Stp_passS d (tm := n) (p := p) (bl := b) hS hn10 hp hb2
      have hE2 : Eqx (scr r) M0 M1 := hE.tr (hE1.mono (scr_sub (by intro a ha; simp only [List.mem_cons, List.not_mem_nil, or_false] at ha; omega)))
      have hpl := pas_lt hz n b hp
      rw [e_RW_isTemperSeen_12, tr_k ht, gb_T, ((hT1 t ht).2.1 hs).2.1, if_pos (by rw [iI_lt (by omega) (by omega) (by omega) (by omega)]; omega), eb, e1, bI_some, tr_k ht, tt_and, gb_T, and511m, c_Tray_fits _ (hT.sc hrl.2 hE2) ht hs (by omega) (by omega), bI_some, iI_add, tOK, hb]
      cases hf : fitB (tv t i) (pas z n p b % 512)
      · rw [b2i_f, if_pos (show iI 0 = 0 from rfl)]
        exact ⟨M1, rfl, hE2, hS1⟩
      · rw [b2i_t, if_neg (show ¬ (iI 1 = 0) by decide), Bool.true_and]
        exact ih (i + 1) _ M1 (by omega) hpl hS1 hE2
  show ∃ M', X2 (d + 4) m_RW_isTemperSeen 0 [.ref 100, .ref (189 + 2 * t), .int (iI bs), .int (iI n), uns, uns] [] M0 = _ ∧ _
  obtain ⟨M1, e1, hE1, hS1⟩ := go (tn t) 0 (w + 512 * who) M0 (by omega) (by omega) hS Eqx.rf
  rw [plc_now hwho, t_both hz n _ bs _ _ _ hO] at e1
  rw [e_RW_isTemperSeen_0, c_Mom_place _ (by decide) hN hw hwho, bI_some, plc_now hwho]
  exact ⟨M1, e1, hE1, hQ.fr hE1 hS1⟩
def tset (z : Row) (w who : Nat) (tv : Nat → Nat → Int64) (t n bs : Nat) : Nat → Bool := fun m => tOK (nxt z m) (fun s => s / 5) (fun k w => fitB (tv t k) w) bs n 0 (5 * w + who)
theorem c_RW_tempersSeen (d : Nat) {M0 : Mem} {r : Nat} {z : Row} {w who tm st : Nat} {ni : Int32} {so : Nat → Int} {tn : Nat → Nat} {tv : Nat → Nat → Int64} {t bs : Nat} (ht : t < 4) (hs : so t ≠ -1) (hn : tn t ≤ 10) (hbs : bs < 1024) (hQ : QC M0 r z w who tm ni st) (hT : TrC M0 so tn tv) :
    ∃ M', c2 (d + 6) m_RW_tempersSeen [.ref 100, .ref (189 + 2 * t), .int (iI bs)] M0 = some (.int (iI (maskOf (tset z w who tv t (tn t) bs) 10)), M') ∧ Eqx (scr r) M0 M' ∧ QC M' r z w who tm ni st := by
  have hrl := hQ.rl
  have go : ∀ (j n : Nat) (M : Mem), j + n = 10 → QC M r z w who tm ni st → Eqx (scr r) M0 M → ∃ M', X2 (d + 5) m_RW_tempersSeen 5 [.ref 100, .ref (189 + 2 * t), .int (iI bs), .int (iI (maskOf (tset z w who tv t (tn t) bs) n)), .int (iI n)] [] M = some (.int (iI (maskOf (tset z w who tv t (tn t) bs) 10)), M') ∧ Eqx (scr r) M0 M' ∧ QC M' r z w who tm ni st := by
    intro j
    induction j with
    | zero =>
      intro n M hn hQ hE
      rw [e_RW_tempersSeen_5, if_neg (by rw [iI_lt (by omega) (by omega) (by omega) (by omega)]; omega), show n = 10 by omega]
      exact ⟨M, rfl, hE, hQ⟩
    | succ j ih =>
      intro n M hnn hQ hE
      obtain ⟨M1, e1, hE1, hQ1⟩ := c_RW_isTemperSeen d ht hs hn hbs (n := n) (by omega) hQ (hT.sc hrl.2 hE)
      obtain ⟨M2, e2, hE2, hQ2⟩ := ih (n + 1) M1 (by omega) hQ1 (hE.tr hE1)
      refine ⟨M2, ?_, hE2, hQ2⟩
      rw [e_RW_tempersSeen_5, if_pos (by rw [iI_lt (by omega) (by omega) (by omega) (by omega)]; omega), e1, bI_some, iI_shl1 (by omega), iI_or, iI_add]
      rw [maskOf] at e2
      cases hq : tOK (nxt z n) (fun s => s / 5) (fun k w => fitB (tv t k) w) bs (tn t) 0 (5 * w + who)
      · rw [b2i_f, if_pos (show iI 0 = 0 from rfl)]
        rw [show tset z w who tv t (tn t) bs n = false from hq, if_neg (by decide), Nat.or_zero] at e2
        exact e2
      · rw [b2i_t, if_neg (show ¬ (iI 1 = 0) by decide)]
        rw [show tset z w who tv t (tn t) bs n = true from hq, if_pos rfl] at e2
        exact e2
  show ∃ M', X2 (d + 5) m_RW_tempersSeen 0 [.ref 100, .ref (189 + 2 * t), .int (iI bs), uns, uns] [] M0 = _ ∧ _
  rw [e_RW_tempersSeen_0]
  exact go 10 0 M0 rfl hQ Eqx.rf
/-! the reference: the temper is another for a while -/
def TmpM (M0 M : Mem) (z : Row) (v : Int32) : Prop := Eqx (197 :: 198 :: refQ) M0 M ∧ M.1 198 = upr z 27 v ∧ Eq7 M0 M
theorem upr_rq (z : Row) (v : Int32) : RowEq z (upr z 27 v) := fun k hk => upr_ne (by omega)
theorem upr_upr (z : Row) (k : Nat) (v v' : Int32) : upr (upr z k v) k v' = upr z k v' := by
  funext j; unfold upr; split <;> rfl
theorem upr_self (z : Row) (k : Nat) : upr z k (z k) = z := by
  funext j; unfold upr; split
  · rename_i e; rw [e]
  · rfl
theorem TmpM.put {M0 M : Mem} {z : Row} {v : Int32} (h : TmpM M0 M z v) (v' : Int32) : TmpM M0 (wI M 198 27 v') z v' := by
  refine ⟨eqx_wI h.1 (by simp), ?_, ?_⟩
  · rw [wI_row, h.2.1, upr_upr]
  · intro k hk; rw [gI_na (by decide)]; exact h.2.2 k hk
theorem TmpM.fr {M0 M M' : Mem} {z : Row} {v : Int32} {S : List Nat} (h : TmpM M0 M z v) (hE : Eqx S M M') (hS : ∀ a, a ∈ S → 202 ≤ a ∧ a ≤ 212) : TmpM M0 M' z v := by
  have n : ∀ b, b < 202 → b ∉ S := fun b hb q => by have := hS b q; omega
  refine ⟨h.1.tr (hE.mono (fun a ha => List.mem_cons_of_mem _ (List.mem_cons_of_mem _ (refQ_mem.mpr (hS a ha))))), ((hE 198 (n _ (by decide))).1).trans h.2.1, fun k hk => (eqx_I hE (n _ (by decide)) k).trans (h.2.2 k hk)⟩
theorem TmpM.tr {M0 M : Mem} {z : Row} {v : Int32} {so : Nat → Int} {tn : Nat → Nat} {tv : Nat → Nat → Int64} (h : TmpM M0 M z v) (hT : TrM M0 so tn tv) : TrM M so tn tv := hT.fr (h.1 213 (by decide)).1 (h.1 214 (by decide)).1 (h.1 215 (by decide)).2.1
theorem c_Mo_tempersOf (d : Nat) {M0 : Mem} {z : Row} {w who tm : Nat} {so : Nat → Int} {tn : Nat → Nat} {tv : Nat → Nat → Int64} {t bs : Nat} (ht : t < 4) (hn : tn t ≤ 10) (hbs : bs < 1024) (hQ : QM M0 z w who tm) (hT : TrM M0 so tn tv) :
    ∃ M', c2 (d + 6) m_Mo_tempersOf [.ref 197, .int (iI t), .int (iI bs)] M0 = some (.int (iI (maskOf (tset z w who tv t (tn t) bs) 10)), M') ∧ ResM M0 M' := by
  have hz := hQ.2.1
  have hO : OkS z (5 * w + who) := by have := hQ.ok; rw [hQ.1] at this; exact this
  have inn : ∀ (j i s m X : Nat) (M : Mem), i + j = tn t → OkS z s → TmpM M0 M z (iI m) → m < 10 → ∃ M' v6 v7 v8, X2 (d + 5) m_Mo_tempersOf 42 [.ref 197, .int (iI t), .int (iI bs), .int (iI tm), .int (iI X), .int (iI m), .int (iI s), .int (iI 1), .int (iI i)] [] M = X2 (d + 5) m_Mo_tempersOf 14 [.ref 197, .int (iI t), .int (iI bs), .int (iI tm), .int (iI ((X ||| (if tOK (nxt z m) (fun s => s / 5) (fun k w => fitB (tv t k) w) bs j i s then 1 <<< m else 0) : Nat) : Int)), .int (iI ((m + 1 : Nat) : Int)), v6, v7, v8] [] M' ∧ TmpM M0 M' z (iI m) := by
    intro j
    induction j with
    | zero =>
      intro i s m X M hi ok hM hm
      rw [e_Mo_tempersOf_42, inb_ok (by omega) (by omega) (by omega), gb_T, ix_nat (by omega), (hM.tr hT t ht).2.1, if_neg (by rw [iI_lt (by omega) (by omega) (by omega) (by omega)]; omega), if_neg (show ¬ (iI 1 = 0) by decide), iI_shl1 (by omega), iI_or, iI_add]
      exact ⟨M, _, _, _, rfl, hM⟩
    | succ j ih =>
      intro i s m X M hi ok hM hm
      have eb : (iI bs >>> (iI i &&& 31)) &&& iI 1 = iI ((if bs.testBit i then 1 else 0 : Nat) : Int) := iI_bit (by omega) (by omega)
      have rq := upr_rq z (iI m)
      have hl := ok.lt hz
      have hz' : OkZ (M.1 198) := by rw [hM.2.1]; exact rq_ok rq hz
      have hwk : WhoOk (M.1 198) (s % 5) := by rw [hM.2.1]; exact (rq_oks rq ok).2
      have h27 : gI M 198 27 = iI m := by rw [gI, hM.2.1, upr_eq]
      rw [tOK]
      generalize hb : (if bs.testBit i then 1 else 0 : Nat) = b at *
      obtain ⟨M1, e1, hE1⟩ := c_Mo_standThen d (M := M) (tm := m) (s := s) (bl := b) hz' h27 (by omega) hwk
      rw [hM.2.1, rq_nxt rq hz] at e1
      have o := nxt_ok hz m ok b
      have ol := o.lt hz
      have hM1 := hM.fr hE1 (by intro a ha; simp only [List.mem_cons, List.not_mem_nil, or_false] at ha; omega)
      rw [e_Mo_tempersOf_42, inb_ok (by omega) (by omega) (by omega), gb_T, ix_nat (by omega), (hM.tr hT t ht).2.1, if_pos (by rw [iI_lt (by omega) (by omega) (by omega) (by omega)]; omega), if_neg (show ¬ (iI 1 = 0) by decide), eb, e1, bI_some, show iI 5 = iI ((5 : Nat) : Int) from rfl, iI_div (by omega) (by decide), c_Mo_isSeen _ (hM1.tr hT) ht (by omega) (by omega), bI_some, iI_add]
      cases hf : fitB (tv t i) (nxt z m s b / 5)
      · rw [b2i_f, Bool.false_and]
        have h0 : X2 (d + 5) m_Mo_tempersOf 42 [.ref 197, .int (iI t), .int (iI bs), .int (iI tm), .int (iI X), .int (iI m), .int (iI (nxt z m s b)), .int (iI 0), .int (iI ((i : Int) + 1))] [] M1 = X2 (d + 5) m_Mo_tempersOf 14 [.ref 197, .int (iI t), .int (iI bs), .int (iI tm), .int (iI X ||| iI 0), .int (iI m + iI 1), .int (iI (nxt z m s b)), .int (iI 0), .int (iI ((i : Int) + 1))] [] M1 := by
          rw [e_Mo_tempersOf_42, inb_ok (by omega) (by omega) (by omega), gb_T, if_pos (show iI 0 = 0 from rfl), if_pos (show iI 0 = 0 from rfl)]
          split <;> rfl
        rw [h0, show iI 0 = iI ((0 : Nat) : Int) from rfl, iI_or, iI_add, if_neg (by decide)]
        exact ⟨M1, _, _, _, rfl, hM1⟩
      · rw [b2i_t, Bool.true_and]
        exact ih (i + 1) (nxt z m s b) m X M1 (by omega) o hM1 hm
  have go : ∀ (j m : Nat) (M : Mem) (v : Int32) (v6 v7 v8 : Value), j + m = 10 → TmpM M0 M z v → ∃ M', X2 (d + 5) m_Mo_tempersOf 14 [.ref 197, .int (iI t), .int (iI bs), .int (iI tm), .int (iI (maskOf (tset z w who tv t (tn t) bs) m)), .int (iI m), v6, v7, v8] [] M = some (.int (iI (maskOf (tset z w who tv t (tn t) bs) 10)), M') ∧ ResM M0 M' := by
    intro j
    induction j with
    | zero =>
      intro m M v v6 v7 v8 hm hM
      have hp := hM.put (iI tm)
      rw [e_Mo_tempersOf_14, if_pos (by rw [iI_lt (by omega) (by omega) (by omega) (by omega)]; omega), show m = 10 by omega]
      refine ⟨_, rfl, hp.1, ?_, hp.2.2⟩
      rw [hp.2.1, hQ.1, ← hQ.2.2.2.2.1, upr_self]
    | succ j ih =>
      intro m M v v6 v7 v8 hm hM
      have hp := hM.put (iI m)
      have hst : StandM (wI M 198 27 (iI m)) (5 * w + who) := by
        unfold StandM gI
        rw [hp.2.1, upr_ne (by decide), upr_ne (by decide)]
        have := hQ.stand
        unfold StandM gI at this
        rw [hQ.1] at this; exact this
      obtain ⟨M1, u6, u7, u8, e1, hM1⟩ := inn (tn t) 0 (5 * w + who) m (maskOf (tset z w who tv t (tn t) bs) m) (wI M 198 27 (iI m)) (by omega) hO hp (by omega)
      obtain ⟨M2, e2, hR2⟩ := ih (m + 1) M1 _ u6 u7 u8 (by omega) hM1
      have e1' : X2 (d + 5) m_Mo_tempersOf 42 [.ref 197, .int (iI t), .int (iI bs), .int (iI tm), .int (iI (maskOf (tset z w who tv t (tn t) bs) m)), .int (iI m), .int (iI ((5 * w + who : Nat) : Int)), .int (iI 1), .int (iI 0)] [] (wI M 198 27 (iI m)) = _ := e1
      rw [e_Mo_tempersOf_14, if_neg (by rw [iI_lt (by omega) (by omega) (by omega) (by omega)]; omega), c_Mo_standNow, bI_some, show iI 5 * gI (wI M 198 27 (iI m)) 198 25 + gI (wI M 198 27 (iI m)) 198 26 = iI ((5 * w + who : Nat) : Int) from hst, e1']
      exact ⟨M2, e2, hR2⟩
  show ∃ M', X2 (d + 5) m_Mo_tempersOf 0 [.ref 197, .int (iI t), .int (iI bs), uns, uns, uns, uns, uns, uns] [] M0 = _ ∧ _
  rw [e_Mo_tempersOf_0, hQ.tm]
  exact go 10 0 M0 (z 27) uns uns uns rfl ⟨Eqx.rf, by rw [hQ.1, upr_self], fun _ _ => rfl⟩
/-- refusals of tempers and attempt -/
def noBlI (z : Row) (so : Nat → Int) (tn : Nat → Nat) (tv : Nat → Nat → Int64) (x y : Int) : Int := if noSeenI z so tn tv x ≠ 0 then noSeenI z so tn tv x else if 0 ≤ y ∧ y < ((2 ^ tn x.toNat : Nat) : Int) then 0 else -3
theorem noBl_ok {z : Row} {so : Nat → Int} {tn : Nat → Nat} {tv : Nat → Nat → Int64} {x y : Int} (h : noBlI z so tn tv x y = 0) : noSeenI z so tn tv x = 0 ∧ 0 ≤ y ∧ y < ((2 ^ tn x.toNat : Nat) : Int) := by
  unfold noBlI at h
  split at h
  · rename_i q; exact absurd h q
  · rename_i q
    split at h
    · rename_i q2; exact ⟨Classical.byContradiction q, q2.1, q2.2⟩
    · exact absurd h (by decide)
theorem noBl_rng (z : Row) (so : Nat → Int) (tn : Nat → Nat) (tv : Nat → Nat → Int64) (x y : Int) : -6 ≤ noBlI z so tn tv x y ∧ noBlI z so tn tv x y ≤ 0 := by
  have := noSeen_rng z so tn tv x
  unfold noBlI
  split
  · exact this
  · split <;> omega
theorem c_RW_refusedTempers (d : Nat) {M : Mem} {r : Nat} {z : Row} {so : Nat → Int} {tn : Nat → Nat} {tv : Nat → Nat → Int64} (hr : r ∈ rooms) (h5 : gR M 100 5 = r) (hR : RoomR M r z) (hz : OkZ z) (h : TrC M so tn tv) (x1 x2 : Int32) :
    c2 (d + 3) m_RW_refusedTempers [.ref 100, .int x1, .int x2] M = some (.int (iI (noBlI z so tn tv x1.toInt x2.toInt)), M) := by
  show X2 (d + 2) m_RW_refusedTempers 0 [.ref 100, .int x1, .int x2, uns] [] M = _
  obtain ⟨x, rfl, k1, k2⟩ := iI_ex x1
  obtain ⟨y, rfl, y1, y2⟩ := iI_ex x2
  have hng := noSeen_rng z so tn tv x
  rw [e_RW_refusedTempers_0, c_RW_refusedSeen _ hr h5 hR hz h, bI_some, iI_toInt k1 k2, iI_toInt y1 y2, noBlI]
  by_cases h0 : noSeenI z so tn tv x = 0
  · obtain ⟨a1, a2, a3, a4, a5⟩ := noSeen_ok h0
    obtain ⟨t, rfl⟩ := Int.eq_ofNat_of_zero_le a1
    rw [Int.toNat_natCast] at a3 a4 a5
    have ht : t < 4 := by omega
    obtain ⟨s1, s2⟩ := shl1 a5
    rw [if_pos (show iI (noSeenI z so tn tv (t : Int)) = 0 by rw [h0]; rfl), if_neg (show ¬ (noSeenI z so tn tv (t : Int) ≠ 0) by omega), ff_inb ht, gb_T, ix_nat (by omega), tr_ref ht, tr_k ht, gb_T, ((h t ht).2.1 a3).2.1, s1, Int.toNat_natCast]
    generalize 2 ^ tn t = q at *
    by_cases hy : 0 ≤ y ∧ y < (q : Int)
    · rw [if_neg (show ¬ (iI y < 0) by rw [iI_lt0 y1 y2]; omega), if_pos (show iI y < iI q by rw [iI_lt y1 y2 (by omega) (by omega)]; omega), if_pos hy]
    · rw [if_neg hy]
      by_cases hy0 : y < 0
      · rw [if_pos (show iI y < 0 by rw [iI_lt0 y1 y2]; omega)]
      · rw [if_neg (show ¬ (iI y < 0) by rw [iI_lt0 y1 y2]; omega), if_neg (show ¬ (iI y < iI q) by rw [iI_lt y1 y2 (by omega) (by omega)]; omega)]
  · rw [if_neg (show ¬ (iI (noSeenI z so tn tv x) = 0) by rw [iI_eq0 (by omega) (by omega)]; exact h0), if_pos h0]
theorem c_Mo_noBlinds (d : Nat) {M : Mem} {so : Nat → Int} {tn : Nat → Nat} {tv : Nat → Nat → Int64} (hz : OkZ (M.1 198)) (h : TrM M so tn tv) (x1 x2 : Int32) : c2 (d + 4) m_Mo_noBlinds [.ref 197, .int x1, .int x2] M = some (.int (iI (noBlI (M.1 198) so tn tv x1.toInt x2.toInt)), M) := by
  show X2 (d + 3) m_Mo_noBlinds 0 [.ref 197, .int x1, .int x2, uns] [] M = _
  obtain ⟨x, rfl, k1, k2⟩ := iI_ex x1
  obtain ⟨y, rfl, y1, y2⟩ := iI_ex x2
  have hng := noSeen_rng (M.1 198) so tn tv x
  rw [e_Mo_noBlinds_0, c_Mo_noSeen _ hz h, bI_some, iI_toInt k1 k2, iI_toInt y1 y2, noBlI]
  by_cases h0 : noSeenI (M.1 198) so tn tv x = 0
  · obtain ⟨a1, a2, a3, a4, a5⟩ := noSeen_ok h0
    obtain ⟨t, rfl⟩ := Int.eq_ofNat_of_zero_le a1
    rw [Int.toNat_natCast] at a3 a4 a5
    have ht : t < 4 := by omega
    obtain ⟨s1, s2⟩ := shl1 a5
    have hp1 : 1 ≤ 2 ^ tn t := Nat.one_le_two_pow
    rw [if_pos (show iI (noSeenI (M.1 198) so tn tv (t : Int)) = 0 by rw [h0]; rfl), if_neg (show ¬ (noSeenI (M.1 198) so tn tv (t : Int) ≠ 0) by omega), inb_ok (by omega) (by omega) (by omega), gb_T, ix_nat (by omega), (h t ht).2.1, s1, Int.toNat_natCast]
    generalize 2 ^ tn t = q at *
    rw [c_Mo_within, bI_some, iI_sub, i2l_iI y1 y2, i2l_iI (by omega) (by omega), lI_toInt (by omega) (by omega), lI_toInt (by omega) (by omega), lI_toInt (by omega) (by omega)]
    by_cases hy : 0 ≤ y ∧ y < (q : Int)
    · rw [decide_eq_true (show 0 ≤ y ∧ y ≤ (q : Int) - 1 by omega), b2i_t, if_neg (show ¬ (iI 1 = 0) by decide), if_pos hy]
    · rw [decide_eq_false (show ¬ (0 ≤ y ∧ y ≤ (q : Int) - 1) by omega), b2i_f, if_pos (show iI 0 = 0 from rfl), if_neg hy]
  · rw [if_neg (show ¬ (iI (noSeenI (M.1 198) so tn tv x) = 0) by rw [iI_eq0 (by omega) (by omega)]; exact h0), if_pos h0]
theorem p_tempers (z : Row) (w who tm : Nat) (so : Nat → Int) (tn : Nat → Nat) (tv : Nat → Nat → Int64) (x1 x2 : Int32) : PairT m_RW_tempers m_Mo_tempers [.int x1, .int x2] z w who tm so tn tv := by
  intro d M r ni st hQ hTr hst
  have hz := hQ.okz
  have hr := hQ.rm
  have hrl := hQ.rl
  have hR := hQ.room
  have hng := noBl_rng z so tn tv x1.toInt x2.toInt
  obtain ⟨_, h5, hN, hO, htm, hwho, hw⟩ := id hQ
  show ∃ v M' st', X2 (d + 79) m_RW_tempers 0 [.ref 100, .int x1, .int x2, uns] [] M = _ ∧ _
  rw [e_RW_tempers_0, c_RW_refusedTempers _ hr h5 hR hz hTr, bI_some]
  by_cases h0 : noBlI z so tn tv x1.toInt x2.toInt = 0
  · obtain ⟨b0, b1, b2⟩ := noBl_ok h0
    obtain ⟨y1, y2, y3, y4, y5⟩ := noSeen_ok b0
    have r1 := iI_self x1
    have r2 := iI_self x2
    obtain ⟨t, et⟩ := Int.eq_ofNat_of_zero_le y1
    obtain ⟨bs, ebs⟩ := Int.eq_ofNat_of_zero_le b1
    rw [et] at y2 y3 y4 y5 b2 r1
    rw [ebs] at b2 r2
    rw [Int.toNat_natCast] at y3 y4 y5 b2
    have ht : t < 4 := by omega
    obtain ⟨s1, s2⟩ := shl1 y5
    have hbs : bs < 1024 := by omega
    obtain ⟨M1, e1, hE1, hQ1⟩ := c_RW_tempersSeen (d + 73) (bs := bs) ht y3 y5 hbs hQ hTr
    rw [if_pos (by rw [h0]; rfl), ← r1, ← r2, ff_inb ht, gb_T, ix_nat (by omega), tr_ref ht, e1, bI_some]
    refine ⟨_, M1, st, rfl, hE1, hQ1, by omega, ?_⟩
    intro M3 hM hTM
    have hM1 := hM.res (ResM.thr M3)
    have hTM1 := hTM.res (ResM.thr M3)
    obtain ⟨M4, e4, hR4⟩ := c_Mo_tempersOf (d + 73) (bs := bs) ht y5 hbs hM1 hTM1
    show ∃ M2', X2 (d + 79) m_Mo_tempers 0 [.ref 197, .int (iI t), .int (iI bs), uns] [] M3 = _ ∧ _
    rw [e_Mo_tempers_0, c_Mo_noBlinds _ hM1.okz hTM1, bI_some, hM1.1, r1, r2, h0, if_pos (show iI 0 = 0 from rfl), ← r1, ← r2, e4, bI_some]
    exact ⟨M4, rfl, (ResM.thr M3).tr hR4⟩
  · rw [if_neg (by rw [iI_eq0 (by omega) (by omega)]; exact h0)]
    refine ⟨_, M, st, rfl, Eqx.rf, hQ, by omega, ?_⟩
    intro M3 hM hTM
    have hM1 := hM.res (ResM.thr M3)
    have hTM1 := hTM.res (ResM.thr M3)
    show ∃ M2', X2 (d + 79) m_Mo_tempers 0 [.ref 197, .int x1, .int x2, uns] [] M3 = _ ∧ _
    rw [e_Mo_tempers_0, c_Mo_noBlinds _ hM1.okz hTM1, bI_some, hM1.1, if_neg (by rw [iI_eq0 (by omega) (by omega)]; exact h0)]
    exact ⟨_, rfl, ResM.thr M3⟩
