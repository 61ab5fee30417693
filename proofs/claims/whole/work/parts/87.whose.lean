/-! whose. -/
theorem orN_pos {f : Nat → Nat → Nat} {wl : Nat → Nat} {fit : Nat → Nat → Bool} (j i s : Nat) : orN (fun r => pOK f wl fit j i s r) (2 ^ j) = decide (0 < rsN f wl fit j i s) := by
  rw [← pOK_cnt j i s]
  by_cases h : 0 < cnt (fun r => pOK f wl fit j i s r) (2 ^ j)
  · rw [decide_eq_true h]
    obtain ⟨k, k1, k2⟩ := cnt_pos _ h
    exact orN_upto k1 k2
  · rw [decide_eq_false h]
    exact orN_all (cnt_zero (show cnt (fun r => pOK f wl fit j i s r) (2 ^ j) = 0 from by omega))
theorem p_whose (z : Row) (w who tm : Nat) (so : Nat → Int) (tn : Nat → Nat) (tv : Nat → Nat → Int64) (x1 : Int32) : PairT m_RW_whose m_Mo_whose [.int x1] z w who tm so tn tv := by
  intro d M r ni st hQ hTr hst
  obtain ⟨x, rfl, k1, k2⟩ := iI_ex x1
  have hz := hQ.okz
  have hr := hQ.rm
  have hrl := hQ.rl
  have hR := hQ.room
  have h34 := zn3_le hz
  have hng := noSeen_rng z so tn tv x
  obtain ⟨_, h5, hN, hO, htm, hwho, hw⟩ := id hQ
  show ∃ v M' st', X2 (d + 79) m_RW_whose 0 [.ref 100, .int (iI x), uns, uns, uns] [] M = _ ∧ _
  rw [e_RW_whose_0, c_RW_refusedSeen _ hr h5 hR hz hTr, bI_some, iI_toInt k1 k2]
  by_cases h0 : noSeenI z so tn tv x = 0
  · obtain ⟨y1, y2, y3, y4, y5⟩ := noSeen_ok h0
    obtain ⟨t, rfl⟩ := Int.eq_ofNat_of_zero_le y1
    rw [Int.toNat_natCast] at y3 y4 y5
    have ht : t < 4 := by omega
    obtain ⟨s1, s2⟩ := shl1 y5
    -- one is in
    obtain ⟨ex, hex⟩ : ∃ ex : Nat → Bool, ex = fun u => decide (0 < rsN (thn z tm) (fun s => s / 5) (fun k w => fitB (tv t k) w) (tn t) 0 (5 * w + u)) := ⟨_, rfl⟩
    have hok : ∀ u, (u = 4 ∨ u < zn z 3) → OkS z (5 * w + u) := fun u hu => ⟨by have := hO.1; omega, by rw [show (5 * w + u) % 5 = u by omega]; exact hu⟩
    have hrsl : ∀ u, rsN (thn z tm) (fun s => s / 5) (fun k w => fitB (tv t k) w) (tn t) 0 (5 * w + u) ≤ 1024 := fun u => Nat.le_trans (rsN_le _ _ _) s2
    obtain ⟨M1, st1, e1, hE1, hS1, hle⟩ := c_RW_tuneQ (d + 78) hQ (by omega)
    have cls : ∀ (u : Nat) (M' : Mem), (u = 4 ∨ u < zn z 3) → Eqx (scr r) M M' → StepsC M' r z tm st1 → ∃ M2, bI (c2 (d + 79) m_RW_placeOf [.int (gI M' 111 0), .int (iI (cwho u))] M') (fun r2 M1 => c2 (d + 79) m_RW_rowsSeen [.ref 100, .ref (189 + 2 * t), .int r2, .int (iI 0)] M1) = some (.int (iI (rsN (thn z tm) (fun s => s / 5) (fun k w => fitB (tv t k) w) (tn t) 0 (5 * w + u))), M2) ∧ Eqx (scr r) M M2 ∧ StepsC M2 r z tm st1 := by
      intro u M' hu hE hS
      have hN' : MomR M' 111 w who tm ni := hN.fr (hE 111 (scr_n hrl.1 (by omega))).1
      obtain ⟨M2, e2, hE2, hS2⟩ := c_RW_rowsSeen (tv := tv) ht y3 y5 (tn t) 0 (d + 72 - tn t) (w + 512 * u) M' (by omega) hS (hTr.sc hrl.2 hE) (by omega)
      rw [show d + 72 - tn t + 7 + tn t = d + 79 by omega] at e2
      have e2' : c2 (d + 79) m_RW_rowsSeen [.ref 100, .ref (189 + 2 * t), .int (iI ((w + 512 * u : Nat) : Int)), .int (iI 0)] M' = _ := e2
      rw [hN'.1, c_RW_placeOf _ hw (by omega), bI_some, e2', plc_now (show u < 5 by omega), rs_both hz tm _ _ _ _ (hok u hu)]
      exact ⟨M2, rfl, hE.tr (hE2.mono (scr_sub (by intro a ha; simp only [List.mem_cons, List.not_mem_nil, or_false] at ha; omega))), hS2⟩
    have bb2 : ∀ {o : Rs Mem} {f g : Int32 → Mem → Rs Mem}, bI o (fun r M => bI (f r M) g) = bI (bI o f) g := fun {o f g} => by
      cases o with
      | none => rfl
      | some q =>
        obtain ⟨v, m⟩ := q
        cases v <;> rfl
    -- the loop of tenants
    obtain ⟨A, hA⟩ : ∃ A : Nat, A = if ex 4 then 512 else 0 := ⟨_, rfl⟩
    have go : ∀ (j k : Nat) (v2 : Value) (M' : Mem), j + k = zn z 3 → Eqx (scr r) M M' → StepsC M' r z tm st1 → ∃ M2, X2 (d + 79) m_RW_whose 62 [.ref 100, .int (iI t), v2, .int (iI ((A ||| maskOf ex k : Nat) : Int)), .int (iI k)] [] M' = some (.int (iI ((A ||| maskOf ex (zn z 3) : Nat) : Int)), M2) ∧ Eqx (scr r) M M2 ∧ StepsC M2 r z tm st1 := by
      intro j
      induction j with
      | zero =>
        intro k v2 M' hk hE hS
        have h5' : gR M' 100 5 = r := (eqx_R hE (scr_n hrl.1 (by omega)) 5).trans h5
        rw [e_RW_whose_62, h5', rm_k _ r hr, gb_T, hS.2.2.1.g3 hz, if_neg (by rw [iI_lt (by omega) (by omega) (by omega) (by omega)]; omega), show k = zn z 3 by omega]
        exact ⟨M', rfl, hE, hS⟩
      | succ j ih =>
        intro k v2 M' hk hE hS
        have h5' : gR M' 100 5 = r := (eqx_R hE (scr_n hrl.1 (by omega)) 5).trans h5
        obtain ⟨M2, e2, hE2, hS2⟩ := cls k M' (Or.inr (by omega)) hE hS
        obtain ⟨M3, e3, hE3, hS3⟩ := ih (k + 1) v2 M2 (by omega) hE2 hS2
        refine ⟨M3, ?_, hE3, hS3⟩
        have hc : iI (cwho k) = iI (k : Int) := by rw [cwho, if_neg (by omega)]
        rw [hc] at e2
        have hb := hrsl k
        rw [e_RW_whose_62, h5', rm_k _ r hr, gb_T, hS.2.2.1.g3 hz, if_pos (by rw [iI_lt (by omega) (by omega) (by omega) (by omega)]; omega), ff_inb ht, gb_T, ix_nat (by omega), tr_ref ht, bb2, e2, bI_some, iI_shl1 (by omega), iI_or, iI_add, Nat.or_assoc]
        rw [maskOf] at e3
        have hek : ex k = decide (0 < rsN (thn z tm) (fun s => s / 5) (fun k w => fitB (tv t k) w) (tn t) 0 (5 * w + k)) := congrFun hex k
        by_cases q : 0 < rsN (thn z tm) (fun s => s / 5) (fun k w => fitB (tv t k) w) (tn t) 0 (5 * w + k)
        · rw [if_pos (by rw [iI_0lt (by omega) (by omega)]; omega)]
          rw [hek, decide_eq_true q, if_pos rfl] at e3
          exact e3
        · rw [if_neg (by rw [iI_0lt (by omega) (by omega)]; omega)]
          rw [hek, decide_eq_false q, if_neg (by decide), Nat.or_zero] at e3
          exact e3
    obtain ⟨M2, e2, hE2, hS2⟩ := cls 4 M1 (Or.inl rfl) hE1 hS1
    obtain ⟨M3, e3, hE3, hS3⟩ := go (zn z 3) 0 (.int (iI (noSeenI z so tn tv (t : Int)))) M2 (by omega) hE2 hS2
    have hb := hrsl 4
    have e2' : bI (c2 (d + 79) m_RW_placeOf [.int (gI M1 111 0), .int (iI (-1))] M1) (fun r2 M1 => c2 (d + 79) m_RW_rowsSeen [.ref 100, .ref (189 + 2 * t), .int r2, .int (iI 0)] M1) = _ := e2
    rw [show maskOf ex 0 = 0 from rfl, Nat.or_zero] at e3
    rw [if_pos (show iI (noSeenI z so tn tv (t : Int)) = 0 by rw [h0]; rfl), e1, bV_some, ff_inb ht, gb_T, ix_nat (by omega), tr_ref ht, bb2, e2', bI_some]
    refine ⟨iI ((A ||| maskOf ex (zn z 3) : Nat) : Int), M3, st1, ?_, hE3, hQ.fr hE3 hS3, hle, ?_⟩
    · rw [← e3]
      have he4 : ex 4 = decide (0 < rsN (thn z tm) (fun s => s / 5) (fun k w => fitB (tv t k) w) (tn t) 0 (5 * w + 4)) := congrFun hex 4
      by_cases q : 0 < rsN (thn z tm) (fun s => s / 5) (fun k w => fitB (tv t k) w) (tn t) 0 (5 * w + 4)
      · rw [if_pos (by rw [iI_0lt (by omega) (by omega)]; omega), hA, he4, decide_eq_true q]; rfl
      · rw [if_neg (by rw [iI_0lt (by omega) (by omega)]; omega), hA, he4, decide_eq_false q]; rfl
    · intro M5 hM hTM
      have hM1 := hM.res (ResM.thr M5)
      have hTM1 := hTM.res (ResM.thr M5)
      obtain ⟨M4, e4, hE4, hT4⟩ := c_Mo_laysThen (d + 73) (M0 := wI M5 197 0 (iI 0)) (tm := tm) hM1.okz hM1.tm
      rw [hM1.1] at hT4
      have hR4 : ResM (wI M5 197 0 (iI 0)) M4 := ResM.of hE4 (by intro a ha; simp only [List.mem_cons, List.not_mem_nil, or_false] at ha; omega)
      have hM4 := hM1.res hR4
      have hTM4 := hTM1.res hR4
      have inn : ∀ (u X B : Nat) (v2 : Value), (u = 4 ∨ u < zn z 3) → (iI 1 <<< ((if u = 4 then iI 9 else iI u) &&& 31) = iI B) → ∀ j k, j + k = 2 ^ tn t → X2 (d + 79) m_Mo_whose 55 [.ref 197, .int (iI t), v2, .int (iI ((X ||| (if orN (fun rr => pOK (thn z tm) (fun s => s / 5) (fun k w => fitB (tv t k) w) (tn t) 0 (5 * w + u) rr) k then B else 0) : Nat) : Int)), .int (iI u), .int (iI k)] [] M4 = X2 (d + 79) m_Mo_whose 26 [.ref 197, .int (iI t), v2, .int (iI ((X ||| (if ex u then B else 0) : Nat) : Int)), .int (iI ((u + 1 : Nat) : Int)), .int (iI ((2 ^ tn t : Nat) : Int))] [] M4 := by
        intro u X B v2 hu hB j
        induction j with
        | zero =>
          intro k hk
          have hkk : k = 2 ^ tn t := by omega
          rw [e_Mo_whose_55, inb_ok (by omega) (by omega) (by omega), gb_T, ix_nat (by omega), (hTM4 t ht).2.1, s1, if_neg (by rw [iI_lt (by omega) (by omega) (by omega) (by omega)]; omega), hkk, orN_pos, show ex u = decide (0 < rsN (thn z tm) (fun s => s / 5) (fun k w => fitB (tv t k) w) (tn t) 0 (5 * w + u)) from congrFun hex u, iI_add]
          rfl
        | succ j ih =>
          intro k hk
          have ih2 := ih (k + 1) (by omega)
          have e5 : iI 5 * iI w + iI u = iI ((5 * w + u : Nat) : Int) := by rw [iI_mul, iI_add]; rfl
          rw [e_Mo_whose_55, inb_ok (by omega) (by omega) (by omega), gb_T, ix_nat (by omega), (hTM4 t ht).2.1, s1, if_pos (by rw [iI_lt (by omega) (by omega) (by omega) (by omega)]; omega), c_Mo_standOf, bI_some, hM4.w, e5, c_Mo_isRow _ hz hT4 hTM4 ht y5 (hok u hu) (by omega), bI_some, iI_add]
          rw [← ih2, orN]
          cases hq : pOK (thn z tm) (fun s => s / 5) (fun k w => fitB (tv t k) w) (tn t) 0 (5 * w + u) k
          · rw [b2i_f, if_pos (show iI 0 = 0 from rfl), Bool.or_false]; rfl
          · rw [b2i_t, if_neg (show ¬ (iI 1 = 0) by decide), Bool.or_true, if_pos rfl]
            have hor : iI ((X ||| (if orN (fun rr => pOK (thn z tm) (fun s => s / 5) (fun k w => fitB (tv t k) w) (tn t) 0 (5 * w + u) rr) k then B else 0) : Nat) : Int) ||| iI B = iI ((X ||| B : Nat) : Int) := by
              rw [iI_or, Nat.or_assoc]
              split
              · rw [Nat.or_self]
              · rw [Nat.zero_or]
            by_cases h4 : u = 4
            · rw [if_pos h4] at hB
              rw [if_pos (show iI u = iI 4 by rw [h4]; rfl), hB, hor]; rfl
            · rw [if_neg h4] at hB
              rw [if_neg (show ¬ (iI u = iI 4) by rw [iI_eq (by omega) (by omega) (by omega) (by omega)]; omega), hB, hor]; rfl
      have outr : ∀ (j u : Nat) (v2 v5 : Value), j + u = 4 → X2 (d + 79) m_Mo_whose 26 [.ref 197, .int (iI t), v2, .int (iI (maskOf ex (min u (zn z 3)) : Nat)), .int (iI u), v5] [] M4 = some (.int (iI ((A ||| maskOf ex (zn z 3) : Nat) : Int)), M4) := by
        intro j
        induction j with
        | zero =>
          intro u v2 v5 hu
          have hu4 : u = 4 := by omega
          subst hu4
          rw [Nat.min_eq_right (by omega)]
          have hi := inn 4 (maskOf ex (zn z 3)) 512 v2 (Or.inl rfl) (by rw [if_pos rfl]; decide) (2 ^ tn t) 0 (by omega)
          rw [show orN (fun rr => pOK (thn z tm) (fun s => s / 5) (fun k w => fitB (tv t k) w) (tn t) 0 (5 * w + 4) rr) 0 = false from rfl, if_neg (by decide), Nat.or_zero] at hi
          rw [e_Mo_whose_26, if_neg (by decide), if_pos (by decide)]
          have hi' : X2 (d + 79) m_Mo_whose 55 [.ref 197, .int (iI t), v2, .int (iI (maskOf ex (zn z 3) : Nat)), .int (iI ((4 : Nat) : Int)), .int (iI 0)] [] M4 = _ := hi
          rw [hi', e_Mo_whose_26, if_pos (by decide), Nat.or_comm, hA]
        | succ j ih =>
          intro u v2 v5 hu
          rw [e_Mo_whose_26, if_neg (by rw [iI_lt (by omega) (by omega) (by omega) (by omega)]; omega), if_neg (by rw [iI_eq (by omega) (by omega) (by omega) (by omega)]; omega), hM4.g 3, zn_eq hz.1.2.2.1 (by decide)]
          by_cases hlt : u < zn z 3
          · rw [if_pos (by rw [iI_lt (by omega) (by omega) (by omega) (by omega)]; omega), Nat.min_eq_left (by omega)]
            have hi := inn u (maskOf ex u) (1 <<< u) v2 (Or.inr hlt) (by rw [if_neg (by omega), iI_shl1 (by omega)]) (2 ^ tn t) 0 (by omega)
            rw [show orN (fun rr => pOK (thn z tm) (fun s => s / 5) (fun k w => fitB (tv t k) w) (tn t) 0 (5 * w + u) rr) 0 = false from rfl, if_neg (by decide), Nat.or_zero] at hi
            have hi' : X2 (d + 79) m_Mo_whose 55 [.ref 197, .int (iI t), v2, .int (iI (maskOf ex u : Nat)), .int (iI u), .int (iI 0)] [] M4 = _ := hi
            rw [hi']
            have := ih (u + 1) v2 (.int (iI ((2 ^ tn t : Nat) : Int))) (by omega)
            rw [Nat.min_eq_left (by omega), maskOf] at this
            exact this
          · rw [if_neg (by rw [iI_lt (by omega) (by omega) (by omega) (by omega)]; omega), Nat.min_eq_right (by omega), iI_add]
            have := ih (u + 1) v2 v5 (by omega)
            rw [Nat.min_eq_right (by omega)] at this
            exact this
      have o0 := outr 4 0 (.int (iI 0)) uns (by omega)
      rw [Nat.zero_min] at o0
      show ∃ M2', X2 (d + 79) m_Mo_whose 0 [.ref 197, .int (iI t), uns, uns, uns, uns] [] M5 = _ ∧ _
      rw [e_Mo_whose_0, c_Mo_noSeen _ hM1.okz hTM1, bI_some, hM1.1, iI_toInt k1 k2, h0, if_pos (show iI 0 = 0 from rfl), e4, bV_some]
      exact ⟨M4, o0, (ResM.thr M5).tr hR4⟩
  · rw [if_neg (show ¬ (iI (noSeenI z so tn tv x) = 0) by rw [iI_eq0 (by omega) (by omega)]; exact h0)]
    refine ⟨_, M, st, rfl, Eqx.rf, hQ, by omega, ?_⟩
    intro M3 hM hTM
    have hM1 := hM.res (ResM.thr M3)
    have hTM1 := hTM.res (ResM.thr M3)
    show ∃ M2', X2 (d + 79) m_Mo_whose 0 [.ref 197, .int (iI x), uns, uns, uns, uns] [] M3 = _ ∧ _
    rw [e_Mo_whose_0, c_Mo_noSeen _ hM1.okz hTM1, bI_some, hM1.1, iI_toInt k1 k2, if_neg (show ¬ (iI (noSeenI z so tn tv x) = 0) by rw [iI_eq0 (by omega) (by omega)]; exact h0)]
    exact ⟨_, rfl, ResM.thr M3⟩
