/-! lists. -/
def lisV (z : Row) (tm bl : Nat) (c : Int) (t : Nat) : Nat → Nat → Nat → (Nat → Nat → Int64) → Nat → Nat → Int64
  | 0, _, _, tv => tv
  | j + 1, i, s, tv => lisV z tm bl c t j (i + 1) (nxt z tm s bl) (tvP tv t i (cutV c (lI ((nxt z tm s bl / 5 : Nat) : Int))))
theorem s_lists (x1 x2 : Int32) : Step m_RW_lists m_Mo_lists [.int x1, .int x2] := by
  intro d M b hRel hb
  have hRel0 := hRel
  obtain ⟨r, tm0, st, nx, nd, m, f, so, tn, tv, z, hS, hst, h5, hm, okm, rq, hmo, hpc, hpm, hof, hrest⟩ := hRel
  have hz := hS.2.2.2.1
  have hr := rm_mod hS.1
  have fin := fin_same hRel0 (Eqx.rf : Eqx [] M M) (fun a ha => absurd ha (List.not_mem_nil)) (eqx_wI Eqx.rf (by simp) : Eqx [197] M (wI M 197 0 (iI 0))) (by intro a ha; simp only [List.mem_cons, List.not_mem_nil, or_false] at ha; omega) (fun k hk => by rw [gI_nk (by omega)]) (wI_na (by decide))
  obtain ⟨hTC, hTM, _⟩ := id hrest
  have hTM1 : ∀ M1 : Mem, M1.1 213 = M.1 213 → M1.1 214 = M.1 214 → M1.2.1 215 = M.2.1 215 → TrM (wI M1 197 0 (iI 0)) so tn tv := fun M1 h1 h2 h3 => hTM.fr ((wI_na (by decide)).trans h1) ((wI_na (by decide)).trans h2) h3
  obtain ⟨x, rfl, xa, xb⟩ := iI_ex x1
  obtain ⟨bl, rfl, ba, bb'⟩ := iI_ex x2
  have ec : c2 (d + 80) m_RW_lists [.ref 100, .int (iI x), .int (iI bl)] M = _ := e_RW_lists_0 (d + 79) (iI x) (iI bl) M
  have em : ∀ M1, c2 (d + 80) m_Mo_lists [.ref 197, .int (iI x), .int (iI bl)] M1 = _ := fun M1 => e_Mo_lists_0 (d + 79) (iI x) (iI bl) M1
  rw [c_RW_isTray, bI_some, iI_toInt xa xb] at ec
  rcases tray3 so x with ⟨h1, h2⟩ | ⟨t, rfl, ht, ⟨h1, h2⟩ | ⟨h1, h2⟩⟩
  · have em1 := em M
    rw [c_Mo_noTray _ (hTM1 M rfl rfl rfl), bI_some, iI_toInt xa xb, h2, if_neg (show ¬ (iI (-2) = 0) by decide)] at em1
    rw [decide_eq_false h1, b2i_f, if_pos (show iI 0 = 0 from rfl)] at ec
    exact ⟨_, _, _, ec, em1, fin⟩
  · have em1 := em M
    rw [c_Mo_noTray _ (hTM1 M rfl rfl rfl), bI_some, iI_toInt xa xb, h2, if_neg (show ¬ (iI (-6) = 0) by decide)] at em1
    rw [decide_eq_true (show (0 : Int) ≤ t ∧ (t : Int) < 4 by omega), b2i_t, if_neg (show ¬ (iI 1 = 0) by decide), ff_inb ht, gb_T, ix_nat (by omega), tr_ref ht, tr_k ht, gb_T, (hTC t ht).1, if_pos h1, if_neg (show ¬ (iI 1 = 0) by decide)] at ec
    exact ⟨_, _, _, ec, em1, fin⟩
  · obtain ⟨a, bq, c, e, f'⟩ := hTC t ht
    rw [decide_eq_true (show (0 : Int) ≤ t ∧ (t : Int) < 4 by omega), b2i_t, if_neg (show ¬ (iI 1 = 0) by decide), ff_inb ht, gb_T, ix_nat (by omega), tr_ref ht, tr_k ht, gb_T, a, if_neg h1, if_pos (show iI 0 = 0 from rfl), c_RW_isBlind, bI_some, iI_toInt ba bb'] at ec
    by_cases hbl : 0 ≤ bl ∧ bl ≤ 1
    · obtain ⟨bl, rfl⟩ := Int.eq_ofNat_of_zero_le hbl.1
      obtain ⟨M1, st1, e1, hE1, hS1, hst1, hm1⟩ := c_RW_here (d + 76) hS hm okm.2.2.1 okm.2.1 okm.2.2.2 (by omega)
      rw [decide_eq_true hbl, b2i_t, if_neg (show ¬ (iI 1 = 0) by decide), e1, bI_some, plc_now okm.2.1] at ec
      have mL : ∀ {a : Nat}, a ∈ [127, 128, 129, 130, 131, r + 6, r + 9, 190 + 2 * t] → (126 < a ∧ a < 132) ∨ a = r + 6 ∨ a = r + 9 ∨ a = 190 + 2 * t := fun ha => by
        simp only [List.mem_cons, List.not_mem_nil, or_false] at ha; omega
      have cls : ∀ (j i s : Nat) (tv' : Nat → Nat → Int64) (M' : Mem), j + i = tn t → Eqx [127, 128, 129, 130, 131, r + 6, r + 9, 190 + 2 * t] M M' → StepsC M' r z m.2.2.1 st1 → OkS z s → TrC M' so tn tv' → ∃ M2, X2 (d + 79) m_RW_lists 43 [.ref 100, .int (iI t), .int (iI bl), .int (iI (plc s)), .int (iI i)] [] M' = some (.int (iI (tn t)), M2) ∧ Eqx [127, 128, 129, 130, 131, r + 6, r + 9, 190 + 2 * t] M M2 ∧ StepsC M2 r z m.2.2.1 st1 ∧ TrC M2 so tn (lisV z m.2.2.1 bl (so t) t j i s tv') := by
        intro j
        induction j with
        | zero =>
          intro i s tv' M' hi hE hS' ok hT
          rw [e_RW_lists_43, ff_inb ht, gb_T, gb_T, ix_nat (by omega), tr_ref ht, tr_k ht, gb_T, gb_T, ((hT t ht).2.1 h1).2.1, if_neg (by rw [iI_lt (by omega) (by omega) (by omega) (by omega)]; omega)]
          exact ⟨M', rfl, hE, hS', hT⟩
        | succ j ih =>
          intro i s tv' M' hi hE hS' ok hT
          have lt := ok.lt hz
          have ok2 := nxt_ok hz m.2.2.1 ok bl
          have lt2 := ok2.lt hz
          have hp : plc s < 2560 := by unfold plc; omega
          obtain ⟨M3, e3, hE3, hS3⟩ := c_Stp_next (d + 74) hS' hp (show bl < 2 by omega)
          rw [pas_plc hz _ _ _ lt.2.2 ok.2] at e3
          have hT3 : TrC M3 so tn tv' := hT.fr hE3 (by intro a ha; simp only [List.mem_cons, List.not_mem_nil, or_false] at ha; omega)
          have pw : plc (nxt z m.2.2.1 s bl) % 512 = nxt z m.2.2.1 s bl / 5 := plc_wall lt2.2.2
          rw [e_RW_lists_43, ff_inb ht, gb_T, ix_nat (by omega), tr_ref ht, tr_k ht, gb_T, ((hT t ht).2.1 h1).2.1, if_pos (by rw [iI_lt (by omega) (by omega) (by omega) (by omega)]; omega), e3, bI_some, gb_T, tr_ref ht, tr_k ht, tt_and, gb_T, and511m, pw, i2l_iI (by omega) (by omega), c_Tray_put _ hT3 ht h1 (by omega), bV_some, iI_add]
          have hE4 : Eqx [127, 128, 129, 130, 131, r + 6, r + 9, 190 + 2 * t] M3 (wL M3 (190 + 2 * t) i (cutV (so t) (lI ((nxt z m.2.2.1 s bl / 5 : Nat) : Int)))) := eqx_wL Eqx.rf (by simp)
          have hS4 : StepsC (wL M3 (190 + 2 * t) i (cutV (so t) (lI ((nxt z m.2.2.1 s bl / 5 : Nat) : Int)))) r z m.2.2.1 st1 := hS3.fq (eqx_wL Eqx.rf (by simp) : Eqx [190 + 2 * t] M3 _) (by intro a ha; simp only [List.mem_cons, List.not_mem_nil, or_false] at ha; omega)
          exact ih (i + 1) (nxt z m.2.2.1 s bl) _ _ (by omega) ((hE.tr (hE3.mono (by simp))).tr hE4) hS4 ok2 (hT3.put i _)
      obtain ⟨M2, e2, hE2, hS2, hT2⟩ := cls (tn t) 0 (5 * m.1 + m.2.1) tv M1 (by omega) (hE1.mono (by simp)) hS1 okm.1 (hTC.fr hE1 (by intro a ha; simp only [List.mem_cons, List.not_mem_nil, or_false] at ha; omega))
      have n2 : ∀ a, ¬ ((126 < a ∧ a < 132) ∨ a = r + 6 ∨ a = r + 9 ∨ a = 190 + 2 * t) → a ∉ [127, 128, 129, 130, 131, r + 6, r + 9, 190 + 2 * t] := fun a h q => h (mL q)
      -- the reference
      have hz1 := rq_ok rq hz
      let B := wI M2 197 0 (iI 0)
      have x198 : B.1 198 = M.1 198 := (wI_na (by decide)).trans (hE2 198 (n2 _ (by omega))).1
      have hTB : TrM B so tn tv := hTM1 M2 (hE2 213 (n2 _ (by omega))).1 (hE2 214 (n2 _ (by omega))).1 (hE2 215 (n2 _ (by omega))).2.1
      have sn : c2 (d + 79) m_Mo_standNow [.ref 197] B = some (.int (iI ((5 * m.1 + m.2.1 : Nat) : Int)), B) := by
        rw [c_Mo_standNow, gI, gI, x198, show M.1 198 25 = iI m.1 from hmo.1, show M.1 198 26 = iI m.2.1 from hmo.2.1, iI_mul, iI_add]
        rfl
      have ref : ∀ (j i s : Nat) (tv' : Nat → Nat → Int64) (M' : Mem), j + i = tn t → Eqx [202, 203, 215] B M' → OkS z s → TrM M' so tn tv' → ∃ M3, X2 (d + 79) m_Mo_lists 37 [.ref 197, .int (iI t), .int (iI bl), .int (iI 0), .int (iI s), .int (iI i)] [] M' = some (.int (iI (tn t)), M3) ∧ Eqx [202, 203, 215] B M3 ∧ TrM M3 so tn (lisV z m.2.2.1 bl (so t) t j i s tv') := by
        intro j
        induction j with
        | zero =>
          intro i s tv' M' hi hE ok hT
          rw [e_Mo_lists_37, inb_ok (by omega) (by omega) (by omega), gb_T, gb_T, ix_nat (by omega), (hT t ht).2.1, if_neg (by rw [iI_lt (by omega) (by omega) (by omega) (by omega)]; omega)]
          exact ⟨M', rfl, hE, hT⟩
        | succ j ih =>
          intro i s tv' M' hi hE ok hT
          have lt := ok.lt hz
          have ok2 := nxt_ok hz m.2.2.1 ok bl
          have lt2 := ok2.lt hz
          have y198 : M'.1 198 = M.1 198 := ((hE 198 (by decide)).1).trans x198
          have ok1 := rq_oks rq ok
          obtain ⟨M3, e3, hE3⟩ := c_Mo_standThen (d + 74) (M := M') (tm := m.2.2.1) (s := s) (bl := bl) (by rw [y198]; exact hz1) (by rw [gI, y198]; exact hmo.2.2.1) (by omega) (by rw [y198]; exact ok1.2)
          rw [y198, rq_nxt rq hz] at e3
          have hT3 : TrM M3 so tn tv' := hT.fr (hE3 213 (by decide)).1 (hE3 214 (by decide)).1 (hE3 215 (by decide)).2.1
          have dv : iI ((nxt z m.2.2.1 s bl : Nat) : Int) / iI 5 = iI ((nxt z m.2.2.1 s bl / 5 : Nat) : Int) := iI_div (b := 5) (by omega) (by decide)
          rw [e_Mo_lists_37, inb_ok (by omega) (by omega) (by omega), gb_T, ix_nat (by omega), (hT t ht).2.1, if_pos (by rw [iI_lt (by omega) (by omega) (by omega) (by omega)]; omega), e3, bI_some, gb_T, (hT3 t ht).1, dv, i2l_iI (by omega) (by omega), c_Mo_cut _ c e, bL_some, ix40 ht (by omega), inb_ok (by omega) (by omega) (by omega), gb_T, ix_nat (by omega), iI_add]
          exact ih (i + 1) (nxt z m.2.2.1 s bl) _ _ (by omega) (eqx_wL (hE.tr (hE3.mono (by simp))) (by simp)) ok2 (hT3.put (by omega) _)
      obtain ⟨M3, e3, hE3, hT3⟩ := ref (tn t) 0 (5 * m.1 + m.2.1) tv B (by omega) Eqx.rf okm.1 hTB
      have em1 := em M2
      rw [c_Mo_noTray _ hTB, bI_some, iI_toInt xa xb, h2, if_pos (show iI 0 = 0 from rfl), c_Mo_isBlind, bI_some, i2l_iI ba bb', lI_toInt (by omega) (by omega), decide_eq_true hbl, b2i_t, if_neg (show ¬ (iI 1 = 0) by decide), sn, bI_some] at em1
      have hEr : Eqx [197, 202, 203, 215] M2 M3 := (eqx_wI Eqx.rf (by simp) : Eqx [197, 202, 203, 215] M2 B).tr (hE3.mono (by simp))
      have hE : Eqx (197 :: 202 :: 203 :: 215 :: [127, 128, 129, 130, 131, r + 6, r + 9, 190 + 2 * t]) M M3 := (hE2.mono (fun a ha => List.mem_cons_of_mem _ (List.mem_cons_of_mem _ (List.mem_cons_of_mem _ (List.mem_cons_of_mem _ ha))))).tr (hEr.mono (by simp))
      refine ⟨_, M2, M3, ec.trans e2, em1.trans e3, fin_tray (so' := so) (tn' := tn) (tv' := lisV z m.2.2.1 bl (so t) t (tn t) 0 (5 * m.1 + m.2.1) tv) (tm' := m.2.2.1) (st' := st1) (b := b + 1) h5 hm okm rq hmo hpc hpm hof hrest hE ?_ ?_ (hS2.ref hEr (by intro a ha; simp only [List.mem_cons, List.not_mem_nil, or_false] at ha; omega)) (by omega) (hT2.fr hEr (by intro a ha; simp only [List.mem_cons, List.not_mem_nil, or_false] at ha; omega)) hT3⟩
      · intro a ha
        simp only [List.mem_cons, List.not_mem_nil, or_false] at ha
        unfold okT; omega
      · intro j hj
        rw [eqx_I hE3 (by decide)]
        show gI (wI M2 197 0 _) 197 j = _
        rw [gI_nk (by omega), eqx_I hE2 (n2 _ (by omega))]
    · have em1 := em M
      rw [c_Mo_noTray _ (hTM1 M rfl rfl rfl), bI_some, iI_toInt xa xb, h2, if_pos (show iI 0 = 0 from rfl), c_Mo_isBlind, bI_some, i2l_iI ba bb', lI_toInt (by omega) (by omega), decide_eq_false hbl, b2i_f, if_pos (show iI 0 = 0 from rfl)] at em1
      rw [decide_eq_false hbl, b2i_f, if_pos (show iI 0 = 0 from rfl)] at ec
      exact ⟨_, _, _, ec, em1, fin⟩
