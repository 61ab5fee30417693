/-! seenBy, whose. -/
theorem fb_both {z : Row} (hz : OkZ z) (tm : Nat) (fit : Nat → Nat → Bool) (j i : Nat) {s : Nat} (ok : OkS z s) : fbN (pas z tm) (fun p => p % 512) fit j i (plc s) = fbN (thn z tm) (fun s => s / 5) fit j i s := by
  have o := nxt_ok hz tm ok 0
  unfold fbN
  rw [pas_plc hz tm s 0 (ok.lt hz).2.2 ok.2, ← thn_ok ok]
  rw [← thn_ok ok] at o
  rw [show (fun p => p % 512) (plc (thn z tm s 0)) = (fun s => s / 5) (thn z tm s 0) from plc_wall (o.lt hz).2.2, rs_both hz tm fit j (i + 1) _ o]
/-- the stands along the first row -/
def gsN (z : Row) (tm : Nat) (fit : Nat → Nat → Bool) (n s0 : Nat) : Nat → Nat
  | 0 => s0
  | k + 1 => thn z tm (gsN z tm fit n s0 k) (fbN (thn z tm) (fun s => s / 5) fit (n - k - 1) k (gsN z tm fit n s0 k))
theorem gs_ok {z : Row} (hz : OkZ z) (tm : Nat) (fit : Nat → Nat → Bool) (n : Nat) {s0 : Nat} (ok : OkS z s0) : ∀ k, OkS z (gsN z tm fit n s0 k)
  | 0 => ok
  | k + 1 => by
    have h := gs_ok hz tm fit n ok k
    rw [gsN, thn_ok h]; exact nxt_ok hz tm h _
theorem gs_bits (z : Row) (tm : Nat) (fit : Nat → Nat → Bool) (n s0 : Nat) (h : 0 < rsN (thn z tm) (fun s => s / 5) fit n 0 s0) : ∀ k, k ≤ n → (∀ m, m < n - k → (grd (thn z tm) (fun s => s / 5) fit n 0 s0).testBit m = (grd (thn z tm) (fun s => s / 5) fit (n - k) k (gsN z tm fit n s0 k)).testBit m) ∧ 0 < rsN (thn z tm) (fun s => s / 5) fit (n - k) k (gsN z tm fit n s0 k)
  | 0, _ => ⟨fun _ _ => rfl, h⟩
  | k + 1, hk => by
    obtain ⟨a, b⟩ := gs_bits z tm fit n s0 h k (by omega)
    rw [show n - k = n - k - 1 + 1 by omega] at a b
    obtain ⟨c1, c2, c3⟩ := grd_top b
    rw [show n - (k + 1) = n - k - 1 by omega]
    refine ⟨fun m hm => ?_, c3⟩
    rw [a m (by omega), c2 m hm]; rfl
theorem gs_top (z : Row) (tm : Nat) (fit : Nat → Nat → Bool) (n s0 : Nat) (h : 0 < rsN (thn z tm) (fun s => s / 5) fit n 0 s0) {k : Nat} (hk : k < n) : (grd (thn z tm) (fun s => s / 5) fit n 0 s0).testBit (n - 1 - k) = decide (fbN (thn z tm) (fun s => s / 5) fit (n - k - 1) k (gsN z tm fit n s0 k) = 1) := by
  obtain ⟨a, b⟩ := gs_bits z tm fit n s0 h k (by omega)
  rw [show n - k = n - k - 1 + 1 by omega] at a b
  have c := grd_top b
  rw [show n - 1 - k = n - k - 1 by omega, a (n - k - 1) (by omega), c.1]
theorem c_RW_isFirstBlind (d : Nat) {r : Nat} {z : Row} {tm st : Nat} {so : Nat → Int} {tn : Nat → Nat} {tv : Nat → Nat → Int64} {t k p : Nat} {M : Mem} (ht : t < 4) (hs : so t ≠ -1) (hn : tn t ≤ 10) (hk : k < tn t) (hS : StepsC M r z tm st) (hT : TrC M so tn tv) (hp : p < 2560) :
    ∃ M', c2 (d + 20) m_RW_isFirstBlind [.ref 100, .ref (189 + 2 * t), .int (iI p), .int (iI k)] M = some (.int (iI (if fbN (pas z tm) (fun p => p % 512) (fun k w => fitB (tv t k) w) (tn t - k - 1) k p = 0 then 1 else 0)), M') ∧ Eqx [128, 129, 130, 131, r + 6, r + 9] M M' ∧ StepsC M' r z tm st := by
  have hr := hS.1
  have hrl := rm_lt r hr
  have hz := hS.2.2.2.1
  obtain ⟨M2, e2, hE2, hS2⟩ := c_Stp_next (d + 14) (p := p) (bl := 0) hS hp (by decide)
  have hT2 : TrC M2 so tn tv := hT.fr hE2 (by intro a ha; simp only [List.mem_cons, List.not_mem_nil, or_false] at ha; omega)
  have hpl := pas_lt hz tm 0 hp
  have ef := c_Tray_fits (d + 17) hT2 ht hs (k := k) (w := pas z tm p 0 % 512) hk (by omega)
  obtain ⟨M3, e3, hE3, hS3⟩ := c_RW_rowsSeen (tv := tv) ht hs hn (tn t - k - 1) (k + 1) (d + 12 - (tn t - k - 1)) (pas z tm p 0) M2 (by omega) hS2 hT2 hpl
  rw [show d + 12 - (tn t - k - 1) + 7 + (tn t - k - 1) = d + 19 by omega] at e3
  have hrs := rsN_le (f := pas z tm) (wl := fun p => p % 512) (fit := fun k w => fitB (tv t k) w) (tn t - k - 1) (k + 1) (pas z tm p 0)
  have h1024 : 2 ^ (tn t - k - 1) ≤ 2 ^ 10 := Nat.pow_le_pow_right (by decide) (by omega)
  show ∃ M', X2 (d + 19) m_RW_isFirstBlind 0 [.ref 100, .ref (189 + 2 * t), .int (iI p), .int (iI k), uns] [] M = _ ∧ _
  have e2' : c2 (d + 19) m_Stp_next [.ref 127, .int (iI p), .int (iI 0)] M = _ := e2
  rw [e_RW_isFirstBlind_0, e2', bI_some, tr_k ht, tt_and, gb_T, and511m, ef, bI_some]
  unfold fbN
  cases hf : fitB (tv t k) (pas z tm p 0 % 512)
  · rw [b2i_f, if_pos (show iI 0 = 0 from rfl)]
    refine ⟨M2, ?_, hE2, hS2⟩
    rw [if_neg (show ¬ (fitB (tv t k) (pas z tm p 0 % 512) = true ∧ _) from fun q => by rw [hf] at q; exact absurd q.1 (by decide))]
    rfl
  · have e3' : c2 (d + 19) m_RW_rowsSeen [.ref 100, .ref (189 + 2 * t), .int (iI (pas z tm p 0)), .int (iI ((k : Int) + 1))] M2 = _ := e3
    rw [b2i_t, if_neg (show ¬ (iI 1 = 0) by decide), iI_add, e3', bI_some]
    refine ⟨M3, ?_, hE2.tr hE3, hS3⟩
    generalize rsN (pas z tm) (fun p => p % 512) (fun k w => fitB (tv t k) w) (tn t - k - 1) (k + 1) (pas z tm p 0) = A at *
    by_cases q : 0 < A
    · rw [if_pos (show 0 < iI (A : Int) by rw [iI_0lt (by omega) (by omega)]; omega), if_pos (show fitB (tv t k) (pas z tm p 0 % 512) = true ∧ 0 < A from ⟨hf, q⟩)]
      rfl
    · rw [if_neg (show ¬ (0 < iI (A : Int)) by rw [iI_0lt (by omega) (by omega)]; omega), if_neg (show ¬ (fitB (tv t k) (pas z tm p 0 % 512) = true ∧ 0 < A) from fun x => q x.2)]
      rfl
theorem p_seenBy (z : Row) (w who tm : Nat) (so : Nat → Int) (tn : Nat → Nat) (tv : Nat → Nat → Int64) (x1 x2 : Int32) : PairT m_RW_seenBy m_Mo_seenBy [.int x1, .int x2] z w who tm so tn tv := by
  intro d M r ni st hQ hTr hst
  obtain ⟨x, rfl, k1, k2⟩ := iI_ex x1
  obtain ⟨i, rfl, i1, i2⟩ := iI_ex x2
  have hz := hQ.okz
  have hr := hQ.rm
  have hrl := hQ.rl
  have hR := hQ.room
  have hng := noSeen_rng z so tn tv x
  obtain ⟨_, h5, hN, hO, htm, hwho, hw⟩ := id hQ
  show ∃ v M' st', X2 (d + 79) m_RW_seenBy 0 [.ref 100, .int (iI x), .int (iI i), uns, uns, uns, uns] [] M = _ ∧ _
  rw [e_RW_seenBy_0, c_RW_refusedSeen _ hr h5 hR hz hTr, bI_some, iI_toInt k1 k2]
  by_cases h0 : noSeenI z so tn tv x = 0
  · obtain ⟨y1, y2, y3, y4, y5⟩ := noSeen_ok h0
    obtain ⟨t, rfl⟩ := Int.eq_ofNat_of_zero_le y1
    rw [Int.toNat_natCast] at y3 y4 y5
    have ht : t < 4 := by omega
    obtain ⟨s1, s2⟩ := shl1 y5
    rw [if_pos (show iI (noSeenI z so tn tv (t : Int)) = 0 by rw [h0]; rfl)]
    by_cases hi : i < 0
    · rw [if_pos (by rw [iI_lt0 i1 i2]; exact hi)]
      refine ⟨_, M, st, rfl, Eqx.rf, hQ, by omega, ?_⟩
      intro M3 hM hTM
      have hM1 := hM.res (ResM.thr M3)
      have hTM1 := hTM.res (ResM.thr M3)
      show ∃ M2', X2 (d + 79) m_Mo_seenBy 0 [.ref 197, .int (iI t), .int (iI i), uns, uns] [] M3 = _ ∧ _
      rw [e_Mo_seenBy_0, c_Mo_noSeen _ hM1.okz hTM1, bI_some, hM1.1, iI_toInt k1 k2, h0, if_pos (show iI 0 = 0 from rfl), if_pos (by rw [iI_lt0 i1 i2]; exact hi)]
      exact ⟨_, rfl, ResM.thr M3⟩
    · rw [if_neg (by rw [iI_lt0 i1 i2]; exact hi)]
      obtain ⟨i, rfl⟩ := Int.eq_ofNat_of_zero_le (show 0 ≤ i by omega)
      obtain ⟨M1, st1, e1, hE1, hS1, hle, hQ1⟩ := hQ.hre (d + 76) (by omega)
      have hTr1 := hTr.sc hrl.2 hE1
      rw [e1, bI_some, ff_inb ht, gb_T, ix_nat (by omega), tr_ref ht, tr_k ht, gb_T, ((hTr1 t ht).2.1 y3).2.1]
      -- the reference's beginning
      have ref : ∀ v : Int32, (∀ M4 : Mem, ThenM M4 z tm (5 * 2 ^ nz z) → TrM M4 so tn tv → StandM M4 (5 * w + who) → X2 (d + 79) m_Mo_seenBy 31 [.ref 197, .int (iI t), .int (iI i), .int (iI 0), .int (iI ((0 : Nat) : Int))] [] M4 = some (.int v, M4)) → ∀ M2, QM M2 z w who tm → TrM M2 so tn tv → ∃ M2', c2 (d + 80) m_Mo_seenBy [.ref 197, .int (iI t), .int (iI i)] M2 = some (.int v, M2') ∧ ResM M2 M2' := by
        intro v hv M3 hM hTM
        have hM1 := hM.res (ResM.thr M3)
        have hTM1 := hTM.res (ResM.thr M3)
        obtain ⟨M4, e4, hE4, hT4⟩ := c_Mo_laysThen (d + 73) (M0 := wI M3 197 0 (iI 0)) (tm := tm) hM1.okz hM1.tm
        rw [hM1.1] at hT4
        have hR4 : ResM (wI M3 197 0 (iI 0)) M4 := ResM.of hE4 (by intro a ha; simp only [List.mem_cons, List.not_mem_nil, or_false] at ha; omega)
        show ∃ M2', X2 (d + 79) m_Mo_seenBy 0 [.ref 197, .int (iI t), .int (iI i), uns, uns] [] M3 = _ ∧ _
        rw [e_Mo_seenBy_0, c_Mo_noSeen _ hM1.okz hTM1, bI_some, hM1.1, iI_toInt k1 k2, h0, if_pos (show iI 0 = 0 from rfl), if_neg (by rw [iI_lt0 i1 i2]; exact hi), e4, bV_some]
        exact ⟨M4, hv M4 hT4 (hTM1.res hR4) (hM1.res hR4).stand, (ResM.thr M3).tr hR4⟩
      by_cases hin : i < tn t
      · rw [if_pos (by rw [iI_lt (by omega) (by omega) (by omega) (by omega)]; omega), gb_T]
        obtain ⟨M2, e2, hE2, hS2⟩ := c_RW_rowsSeen (tv := tv) ht y3 y5 (tn t) 0 (d + 72 - tn t) (w + 512 * who) M1 (by omega) hS1 hTr1 (by omega)
        rw [show d + 72 - tn t + 7 + tn t = d + 79 by omega] at e2
        have hE3 : Eqx (scr r) M M2 := hE1.tr (hE2.mono (scr_sub (by intro a ha; simp only [List.mem_cons, List.not_mem_nil, or_false] at ha; omega)))
        have e2' : c2 (d + 79) m_RW_rowsSeen [.ref 100, .ref (189 + 2 * t), .int (iI ((w + 512 * who : Nat) : Int)), .int (iI 0)] M1 = _ := e2
        have hrs := rsN_le (f := thn z tm) (wl := fun s => s / 5) (fit := fun k w => fitB (tv t k) w) (tn t) 0 (5 * w + who)
        rw [e2', bI_some, plc_now hwho, rs_both hz tm _ _ _ _ hO]
        -- the reference's rows
        have rfl2 : ∀ (A : Nat) (v : Int32) (M4 : Mem), ThenM M4 z tm (5 * 2 ^ nz z) → TrM M4 so tn tv → StandM M4 (5 * w + who) → (∀ rr, rr < A → pOK (thn z tm) (fun s => s / 5) (fun k w => fitB (tv t k) w) (tn t) 0 (5 * w + who) rr = false) → A ≤ 2 ^ tn t → X2 (d + 79) m_Mo_seenBy 31 [.ref 197, .int (iI t), .int (iI i), .int (iI 0), .int (iI A)] [] M4 = some (.int v, M4) → X2 (d + 79) m_Mo_seenBy 31 [.ref 197, .int (iI t), .int (iI i), .int (iI 0), .int (iI ((0 : Nat) : Int))] [] M4 = some (.int v, M4) := by
          intro A v M4 hT4 hTM4 hst4 hno hA hfin
          have go : ∀ (j k : Nat), j + k = A → X2 (d + 79) m_Mo_seenBy 31 [.ref 197, .int (iI t), .int (iI i), .int (iI 0), .int (iI k)] [] M4 = some (.int v, M4) := by
            intro j
            induction j with
            | zero => intro k hk; rw [show k = A by omega]; exact hfin
            | succ j ih =>
              intro k hk
              rw [e_Mo_seenBy_31, inb_ok (by omega) (by omega) (by omega), gb_T, gb_T, ix_nat (by omega), (hTM4 t ht).2.1, s1, if_pos (by rw [iI_lt (by omega) (by omega) (by omega) (by omega)]; omega), if_pos (by rw [iI_lt (by omega) (by omega) (by omega) (by omega)]; omega), c_Mo_standNow, bI_some, show iI 5 * gI M4 198 25 + gI M4 198 26 = iI ((5 * w + who : Nat) : Int) from hst4, c_Mo_isRow _ hz hT4 hTM4 ht y5 hO (by omega), bI_some, hno k (by omega), b2i_f, if_pos (show iI 0 = 0 from rfl), iI_add]
              exact ih (k + 1) (by omega)
          exact go A 0 (by omega)
        by_cases hpos : 0 < rsN (thn z tm) (fun s => s / 5) (fun k w => fitB (tv t k) w) (tn t) 0 (5 * w + who)
        · rw [if_neg (show ¬ (iI (rsN (thn z tm) (fun s => s / 5) (fun k w => fitB (tv t k) w) (tn t) 0 (5 * w + who) : Int) = 0) by rw [iI_eq0 (by omega) (by omega)]; omega)]
          have go : ∀ (j k : Nat) (x5 : Int32) (v3 : Value) (M' : Mem), j + k = i + 1 → (1 ≤ k → x5 = iI (fbN (thn z tm) (fun s => s / 5) (fun k w => fitB (tv t k) w) (tn t - (k - 1) - 1) (k - 1) (gsN z tm (fun k w => fitB (tv t k) w) (tn t) (5 * w + who) (k - 1)))) → Eqx (scr r) M M' → StepsC M' r z tm st1 → TrC M' so tn tv → ∃ M'', X2 (d + 79) m_RW_seenBy 62 [.ref 100, .int (iI t), .int (iI i), v3, .int (iI (plc (gsN z tm (fun k w => fitB (tv t k) w) (tn t) (5 * w + who) k))), .int x5, .int (iI k)] [] M' = some (.int (iI (fbN (thn z tm) (fun s => s / 5) (fun k w => fitB (tv t k) w) (tn t - i - 1) i (gsN z tm (fun k w => fitB (tv t k) w) (tn t) (5 * w + who) i))), M'') ∧ Eqx (scr r) M M'' ∧ StepsC M'' r z tm st1 := by
            intro j
            induction j with
            | zero =>
              intro k x5 v3 M' hk hx hE hS hT
              rw [e_RW_seenBy_62, if_pos (by rw [iI_lt (by omega) (by omega) (by omega) (by omega)]; omega), hx (by omega), show k - 1 = i by omega]
              exact ⟨M', rfl, hE, hS⟩
            | succ j ih =>
              intro k x5 v3 M' hk hx hE hS hT
              have ok := gs_ok hz tm (fun k w => fitB (tv t k) w) (tn t) hO k
              have hl := ok.lt hz
              have hpl : plc (gsN z tm (fun k w => fitB (tv t k) w) (tn t) (5 * w + who) k) < 2560 := by unfold plc; omega
              obtain ⟨M5, e5, hE5, hS5⟩ := c_RW_isFirstBlind (d + 59) (tv := tv) ht y3 y5 (k := k) (by omega) hS hT hpl
              have hT5 : TrC M5 so tn tv := hT.fr hE5 (by intro a ha; simp only [List.mem_cons, List.not_mem_nil, or_false] at ha; omega)
              rw [e_RW_seenBy_62, if_neg (by rw [iI_lt (by omega) (by omega) (by omega) (by omega)]; omega), ff_inb ht, gb_T, ix_nat (by omega), tr_ref ht, e5, bI_some, fb_both hz tm _ _ _ ok, iI_add]
              have hgs : gsN z tm (fun k w => fitB (tv t k) w) (tn t) (5 * w + who) (k + 1) = thn z tm (gsN z tm (fun k w => fitB (tv t k) w) (tn t) (5 * w + who) k) (fbN (thn z tm) (fun s => s / 5) (fun k w => fitB (tv t k) w) (tn t - k - 1) k (gsN z tm (fun k w => fitB (tv t k) w) (tn t) (5 * w + who) k)) := rfl
              have fl := fbN_lt (f := thn z tm) (wl := fun s => s / 5) (fit := fun k w => fitB (tv t k) w) (tn t - k - 1) k (gsN z tm (fun k w => fitB (tv t k) w) (tn t) (5 * w + who) k)
              have ihk := fun x hx M' hE hS hT => ih (k + 1) x v3 M' (by omega) hx hE hS hT
              rw [show k + 1 - 1 = k from rfl, hgs] at ihk
              generalize gsN z tm (fun k w => fitB (tv t k) w) (tn t) (5 * w + who) k = s at *
              generalize fbN (thn z tm) (fun s => s / 5) (fun k w => fitB (tv t k) w) (tn t - k - 1) k s = b at *
              obtain ⟨M6, e6, hE6, hS6⟩ := c_Stp_next (d + 74) (p := plc s) (bl := b) hS5 hpl fl
              have hT6 : TrC M6 so tn tv := hT5.fr hE6 (by intro a ha; simp only [List.mem_cons, List.not_mem_nil, or_false] at ha; omega)
              have hp6 : pas z tm (plc s) b = plc (thn z tm s b) := by rw [thn_ok ok, pas_plc hz tm s b hl.2.2 ok.2]
              rw [hp6] at e6
              have hE7 : Eqx (scr r) M M6 := (hE.tr (hE5.mono (scr_sub (by intro a ha; simp only [List.mem_cons, List.not_mem_nil, or_false] at ha; omega)))).tr (hE6.mono (scr_sub (by intro a ha; simp only [List.mem_cons, List.not_mem_nil, or_false] at ha; omega)))
              rcases (show b = 0 ∨ b = 1 by omega) with q | q
              · subst q
                have e6' : c2 (d + 79) m_Stp_next [.ref 127, .int (iI (plc s)), .int (iI 0)] M5 = _ := e6
                rw [if_pos rfl, if_neg (show ¬ (iI 1 = 0) by decide), e6', bI_some]
                exact ihk (iI 0) (fun _ => rfl) M6 hE7 hS6 hT6
              · subst q
                have e6' : c2 (d + 79) m_Stp_next [.ref 127, .int (iI (plc s)), .int (iI 1)] M5 = _ := e6
                rw [if_neg (show ¬ ((1 : Nat) = 0) by decide), if_pos (show iI 0 = 0 from rfl), e6', bI_some]
                exact ihk (iI 1) (fun _ => rfl) M6 hE7 hS6 hT6
          obtain ⟨M5, e5, hE5, hS5⟩ := go (i + 1) 0 (iI (-1)) (.int (iI (noSeenI z so tn tv (t : Int)))) M2 (by omega) (fun h => by omega) hE3 hS2 (hTr.sc hrl.2 hE3)
          refine ⟨_, M5, st1, e5, hE5, hQ.fr hE5 hS5, hle, ref _ ?_⟩
          intro M4 hT4 hTM4 hst4
          obtain ⟨g1, g2, g3⟩ := grd_ok (tn t) 0 (5 * w + who) hpos
          refine rfl2 _ _ M4 hT4 hTM4 hst4 g3 (by omega) ?_
          have htop := gs_top z tm (fun k w => fitB (tv t k) w) (tn t) (5 * w + who) hpos hin
          have fl := fbN_lt (f := thn z tm) (wl := fun s => s / 5) (fit := fun k w => fitB (tv t k) w) (tn t - i - 1) i (gsN z tm (fun k w => fitB (tv t k) w) (tn t) (5 * w + who) i)
          generalize grd (thn z tm) (fun s => s / 5) (fun k w => fitB (tv t k) w) (tn t) 0 (5 * w + who) = g at *
          have eb : c2 (d + 79) m_Mo_blindIn [.ref 197, .int (iI t), .int (iI g), .int (iI i)] M4 = some (.int (iI ((if g.testBit (tn t - 1 - i) then 1 else 0 : Nat) : Int)), M4) := by
            show X2 (d + 78) m_Mo_blindIn 0 [.ref 197, .int (iI t), .int (iI g), .int (iI i)] [] M4 = _
            rw [e_Mo_blindIn_0, inb_ok (by omega) (by omega) (by omega), gb_T, ix_nat (by omega), (hTM4 t ht).2.1, iI_sub, iI_sub, show (tn t : Int) - 1 - (i : Int) = ((tn t - 1 - i : Nat) : Int) by omega, iI_bit (by omega) (by omega)]
          rw [e_Mo_seenBy_31, inb_ok (by omega) (by omega) (by omega), gb_T, gb_T, ix_nat (by omega), (hTM4 t ht).2.1, s1, if_pos (by rw [iI_lt (by omega) (by omega) (by omega) (by omega)]; omega), if_pos (by rw [iI_lt (by omega) (by omega) (by omega) (by omega)]; omega), c_Mo_standNow, bI_some, show iI 5 * gI M4 198 25 + gI M4 198 26 = iI ((5 * w + who : Nat) : Int) from hst4, c_Mo_isRow _ hz hT4 hTM4 ht y5 hO (by omega), bI_some, g2, b2i_t, if_neg (show ¬ (iI 1 = 0) by decide), eb, bI_some, htop]
          congr 4
          generalize fbN (thn z tm) (fun s => s / 5) (fun k w => fitB (tv t k) w) (tn t - i - 1) i (gsN z tm (fun k w => fitB (tv t k) w) (tn t) (5 * w + who) i) = b at *
          rcases (show b = 0 ∨ b = 1 by omega) with q | q <;> subst q <;> rfl
        · have hz0 : rsN (thn z tm) (fun s => s / 5) (fun k w => fitB (tv t k) w) (tn t) 0 (5 * w + who) = 0 := by omega
          rw [hz0, if_pos (show iI ((0 : Nat) : Int) = 0 from rfl)]
          refine ⟨_, M2, st1, rfl, hE3, hQ.fr hE3 hS2, hle, ref _ ?_⟩
          intro M4 hT4 hTM4 hst4
          refine rfl2 (2 ^ tn t) _ M4 hT4 hTM4 hst4 (cnt_zero (by rw [pOK_cnt]; exact hz0)) (Nat.le_refl _) ?_
          rw [e_Mo_seenBy_31, inb_ok (by omega) (by omega) (by omega), gb_T, ix_nat (by omega), (hTM4 t ht).2.1, s1, if_neg (by rw [iI_lt (by omega) (by omega) (by omega) (by omega)]; omega)]
      · rw [if_neg (by rw [iI_lt (by omega) (by omega) (by omega) (by omega)]; omega)]
        refine ⟨_, M1, st1, rfl, hE1, hQ1, hle, ref _ ?_⟩
        intro M4 hT4 hTM4 hst4
        have hp1 : 1 ≤ 2 ^ tn t := Nat.one_le_two_pow
        rw [e_Mo_seenBy_31, inb_ok (by omega) (by omega) (by omega), gb_T, gb_T, ix_nat (by omega), (hTM4 t ht).2.1, s1, if_pos (by rw [iI_lt (by omega) (by omega) (by omega) (by omega)]; omega), if_neg (by rw [iI_lt (by omega) (by omega) (by omega) (by omega)]; omega)]
  · rw [if_neg (show ¬ (iI (noSeenI z so tn tv x) = 0) by rw [iI_eq0 (by omega) (by omega)]; exact h0)]
    refine ⟨_, M, st, rfl, Eqx.rf, hQ, by omega, ?_⟩
    intro M3 hM hTM
    have hM1 := hM.res (ResM.thr M3)
    have hTM1 := hTM.res (ResM.thr M3)
    show ∃ M2', X2 (d + 79) m_Mo_seenBy 0 [.ref 197, .int (iI x), .int (iI i), uns, uns] [] M3 = _ ∧ _
    rw [e_Mo_seenBy_0, c_Mo_noSeen _ hM1.okz hTM1, bI_some, hM1.1, iI_toInt k1 k2, if_neg (show ¬ (iI (noSeenI z so tn tv x) = 0) by rw [iI_eq0 (by omega) (by omega)]; exact h0)]
    exact ⟨_, rfl, ResM.thr M3⟩
