/-! judge, perform: the calls. -/
theorem tray3 (so : Nat → Int) (x : Int) : (¬ (0 ≤ x ∧ x < 4) ∧ noT so x = -2) ∨ ∃ t : Nat, x = t ∧ t < 4 ∧ ((so t = -1 ∧ noT so x = -6) ∨ (so t ≠ -1 ∧ noT so x = 0)) := by
  by_cases h : 0 ≤ x ∧ x < 4
  · obtain ⟨t, rfl⟩ := Int.eq_ofNat_of_zero_le h.1
    refine Or.inr ⟨t, rfl, by omega, ?_⟩
    unfold noT
    rw [if_pos h, show (t : Int).toNat = t from rfl]
    by_cases q : so t = -1
    · exact Or.inl ⟨q, if_pos q⟩
    · exact Or.inr ⟨q, if_neg q⟩
  · exact Or.inl ⟨h, if_neg h⟩
theorem rq_dWhy {z z' : Row} (h : RowEq z z') (v : Int) (m : Mo) : dWhy z' v m = dWhy z v m := by
  unfold dWhy; rw [rq_zn h (by omega), rq_nz h]
theorem rq_dDo {z z' : Row} (h : RowEq z z') (hz : OkZ z) (v : Int) (m : Mo) : dDo z' v m = dDo z v m := by
  unfold dDo nightM; rw [rq_nxt h hz]
theorem rq_trayM {z z' : Row} (h : RowEq z z') (hz : OkZ z) (g : Nat → Int) : ∀ (j i : Nat) (m : Mo), OkM z m → trayM z' g j i m = trayM z g j i m
  | 0, _, _, _ => rfl
  | j + 1, i, m, ok => by
    have w := rq_dWhy h (g i) m
    by_cases q : dWhy z (g i) m = 0
    · rw [trayM_s0 q, trayM_s0 (w.trans q), rq_dDo h hz]; exact rq_trayM h hz g j _ _ (dDo_ok hz q ok)
    · rw [trayM_s1 q, trayM_s1 (by rw [w]; exact q), w]
theorem s_perform (x1 : Int32) : Step m_RW_perform m_Mo_perform [.int x1] := by
  intro d M b hRel hb
  have hRel0 := hRel
  obtain ⟨r, tm0, st, nx, nd, m, f, so, tn, tv, z, hS, hst, h5, hm, okm, rq, hmo, hpc, hpm, hof, hrest⟩ := hRel
  have hz := hS.2.2.2.1
  have hr := rm_mod hS.1
  obtain ⟨hTC, hTM, _⟩ := id hrest
  have thr : (wI M 197 0 (iI 0)).1 198 = M.1 198 := wI_na (by decide)
  have hTM1 : ∀ M1 : Mem, Eqx (aloL r) M M1 → TrM (wI M1 197 0 (iI 0)) so tn tv := fun M1 hE => hTM.fr ((wI_na (by decide)).trans (hE 213 (fun q => by have := aloL_mem.mp q; omega)).1) ((wI_na (by decide)).trans (hE 214 (fun q => by have := aloL_mem.mp q; omega)).1) (hE 215 (fun q => by have := aloL_mem.mp q; omega)).2.1
  have same : ∀ v : Int32, c2 (d + 80) m_RW_perform [.ref 100, .int x1] M = some (.int v, M) → c2 (d + 80) m_Mo_perform [.ref 197, .int x1] M = some (.int v, wI M 197 0 (iI 0)) → ∃ v M1 M2, c2 (d + 80) m_RW_perform [.ref 100, .int x1] M = some (.int v, M1) ∧ c2 (d + 80) m_Mo_perform [.ref 197, .int x1] M1 = some (.int v, M2) ∧ Rel M2 (b + 1) ∧ Keep M M2 := fun v h1 h2 => ⟨v, M, _, h1, h2, fin_same hRel0 (Eqx.rf : Eqx [] M M) (fun a ha => absurd ha (List.not_mem_nil)) (eqx_wI Eqx.rf (by simp) : Eqx [197] M _) (by intro a ha; simp only [List.mem_cons, List.not_mem_nil, or_false] at ha; omega) (fun k hk => by rw [gI_nk (by omega)]) (wI_na (by decide))⟩
  obtain ⟨x, rfl, xa, xb⟩ := iI_ex x1
  rcases tray3 so x with ⟨h1, h2⟩ | ⟨t, rfl, ht, ⟨h1, h2⟩ | ⟨h1, h2⟩⟩
  · refine same (iI (-2)) ?_ ?_
    · show X2 (d + 79) m_RW_perform 0 [.ref 100, .int (iI x), uns] [] M = _
      rw [e_RW_perform_0, c_RW_isTray, bI_some, iI_toInt xa xb, decide_eq_false h1, b2i_f, if_pos (show iI 0 = 0 from rfl)]
    · show X2 (d + 79) m_Mo_perform 0 [.ref 197, .int (iI x), uns, uns] [] M = _
      rw [e_Mo_perform_0, c_Mo_noTray _ (hTM1 M Eqx.rf), bI_some, iI_toInt xa xb, h2, if_neg (by decide)]
  · refine same (iI (-6)) ?_ ?_
    · show X2 (d + 79) m_RW_perform 0 [.ref 100, .int (iI t), uns] [] M = _
      rw [e_RW_perform_0, c_RW_isTray, bI_some, iI_toInt xa xb, decide_eq_true (show (0 : Int) ≤ t ∧ (t : Int) < 4 by omega), b2i_t, if_neg (show ¬ (iI 1 = 0) by decide), ff_inb ht, gb_T, ix_nat (by omega), tr_ref ht, tr_k ht, gb_T, (hTC t ht).1, if_pos h1, if_neg (show ¬ (iI 1 = 0) by decide)]
    · show X2 (d + 79) m_Mo_perform 0 [.ref 197, .int (iI t), uns, uns] [] M = _
      rw [e_Mo_perform_0, c_Mo_noTray _ (hTM1 M Eqx.rf), bI_some, iI_toInt xa xb, h2, if_neg (by decide)]
  · -- the class
    obtain ⟨M1, e1, hE1, hm1⟩ := c_Mom_copy (d + 78) (a := 112) (b := 111) (by decide) (by decide) (by decide) hm
    have hS1 : StepsC M1 r z tm0 st := hS.fq hE1 (by intro a ha; simp only [List.mem_cons, List.not_mem_nil, or_false] at ha; omega)
    have h51 : gR M1 100 5 = r := (eqx_R hE1 (by decide) 5).trans h5
    have hm11 : MoC M1 111 m := hm.fr (hE1 111 (by decide)).1
    have hT1 : TrC M1 so tn tv := hTC.fr hE1 (by intro a ha; simp only [List.mem_cons, List.not_mem_nil, or_false] at ha; omega)
    obtain ⟨M2, e2, hE2, hS2, hm2⟩ := c_RW_doTray (d + 72) ht h1 hS1 h51 (a := 111) (by decide) (by decide) hm11 okm hT1
    have hE12 : Eqx (aloL r) M M2 := (hE1.mono (fun a ha => aloL_mem.mpr (by simp only [List.mem_cons, List.not_mem_nil, or_false] at ha; omega))).tr (hE2.mono (fun a ha => aloL_mem.mpr (by simp only [List.mem_cons, List.not_mem_nil, or_false] at ha; omega)))
    have hp2 : PastC M2 nx nd f := (hpc.fr hE1 (by intro a ha; simp only [List.mem_cons, List.not_mem_nil, or_false] at ha; omega)).fr hE2 (by intro a ha; simp only [List.mem_cons, List.not_mem_nil, or_false] at ha; omega)
    have hm22 : MoC M2 112 m := MoC.fr hm1 (hE2 112 (by simp <;> omega)).1
    obtain ⟨⟨-, t2⟩, tok, t0, -, -⟩ := trayM_all hz (tgv tv t) (tn t) 0 m okm
    have htn := (hTC t ht).2.2.2.2
    -- the reference, whatever the class did
    have ref : ∀ M3 : Mem, Eqx (aloL r) M M3 → ∃ M5, Eqx [197, 198, 202, 203, 204] M3 M5 ∧ Eq7 M3 M5 ∧ M5.1 198 = rowM (M.1 198) (trayM z (tgv tv t) (tn t) 0 m).2.1 ∧ WasM M5 m ∧ X2 (d + 79) m_Mo_perform 0 [.ref 197, .int (iI t), uns, uns] [] M3 = (if (0 : Int32) < iI ((trayM z (tgv tv t) (tn t) 0 m).1 : Nat) then bV (c2 (d + 79) m_Mo_notes [.ref 197] M5) fun M6 => some (.int (iI ((trayM z (tgv tv t) (tn t) 0 m).1 : Nat)), M6) else some (.int (iI ((trayM z (tgv tv t) (tn t) 0 m).1 : Nat)), M5)) := by
      intro M3 hE3
      have x3 : (wI M3 197 0 (iI 0)).1 198 = M.1 198 := (wI_na (by decide)).trans (hE3 198 (fun q => by have := aloL_mem.mp q; omega)).1
      obtain ⟨M4, e4, hE4, hw4⟩ := c_Mo_keeps (d + 78) (M := wI M3 197 0 (iI 0)) (m := m) (by rw [x3]; exact hmo)
      have hz1 := rq_ok rq hz
      have ok1 : OkM (M.1 198) m := ⟨rq_oks rq okm.1, okm.2⟩
      have x4 : M4.1 198 = rowM (M.1 198) m := by rw [rowM_self hmo, (hE4 198 (by decide)).1, x3]
      have hT4 : TrM M4 so tn tv := (hTM1 M3 hE3).fr (hE4 213 (by decide)).1 (hE4 214 (by decide)).1 (hE4 215 (by decide)).2.1
      obtain ⟨M5, e5, hE5, x5, -, h75⟩ := c_Mo_tells (d + 71) ht hz1 x4 ok1 hT4
      have tq := rq_trayM rq hz (tgv tv t) (tn t) 0 m okm
      rw [tq] at e5 x5
      refine ⟨M5, ((eqx_wI Eqx.rf (by simp) : Eqx [197, 198, 202, 203, 204] M3 (wI M3 197 0 (iI 0))).tr (hE4.mono (by simp))).tr (hE5.mono (by simp)), ?_, x5, hw4.fr (hE5 204 (by decide)).1, ?_⟩
      · intro k hk
        rw [h75 k hk, eqx_I hE4 (by decide), gI_nk (by omega)]
      · rw [e_Mo_perform_0, c_Mo_noTray _ (hTM1 M3 hE3), bI_some, iI_toInt xa xb, h2, if_pos (show iI 0 = 0 from rfl), e4, bV_some, e5, bI_some]
    have cls : X2 (d + 79) m_RW_perform 0 [.ref 100, .int (iI t), uns] [] M = (if (0 : Int32) < iI ((trayM z (tgv tv t) (tn t) 0 m).1 : Nat) then bV (c2 (d + 79) m_Past_keep [.ref 114, .ref 112] M2) fun M6 => some (.int (iI ((trayM z (tgv tv t) (tn t) 0 m).1 : Nat)), M6) else some (.int (iI ((trayM z (tgv tv t) (tn t) 0 m).1 : Nat)), M2)) := by
      rw [e_RW_perform_0, c_RW_isTray, bI_some, iI_toInt xa xb, decide_eq_true (show (0 : Int) ≤ t ∧ (t : Int) < 4 by omega), b2i_t, if_neg (show ¬ (iI 1 = 0) by decide), ff_inb ht, gb_T, ix_nat (by omega), tr_ref ht, tr_k ht, gb_T, (hTC t ht).1, if_neg h1, if_pos (show iI 0 = 0 from rfl), e1, bV_some, gb_T, tr_ref ht, e2, bI_some]
    by_cases q : (trayM z (tgv tv t) (tn t) 0 m).1 = 0
    · have hmm := t0 q
      obtain ⟨M5, hE5, h75, x5, hw5, e5⟩ := ref M2 hE12
      rw [hmm, rowM_self hmo] at x5
      rw [q, if_neg (show ¬ ((0 : Int32) < iI ((0 : Nat) : Int)) by decide)] at e5 cls
      rw [hmm] at hm2
      refine ⟨iI ((0 : Nat) : Int), M2, M5, cls, e5, fin_deed (b := b + 1) rq hrest h5 (by omega) hE12 (aloL_ok hS.1) hE5 (by intro a ha; simp only [List.mem_cons, List.not_mem_nil, or_false] at ha; omega) h75 hS2 hm2 okm hp2 hof ?_ ?_⟩
      · intro k _; rw [rowM_self hmo, x5]
      · rw [x5]; exact hpm
    · obtain ⟨M3, e3, hE3, hp3⟩ := c_Past_keep (d + 77) hp2 (a := 112) (by decide) (by decide) hm22
      have hE13 : Eqx (aloL r) M M3 := hE12.tr (hE3.mono (fun a ha => aloL_mem.mpr (by have := pastL_mem.mp ha; omega)))
      have hS3 : StepsC M3 r z tm0 st := hS2.fq hE3 (fun a ha => by have := pastL_mem.mp ha; omega)
      have hm3 : MoC M3 111 (trayM z (tgv tv t) (tn t) 0 m).2.1 := hm2.fr (hE3 111 (by decide)).1
      obtain ⟨M5, hE5, h75, x5, hw5, e5⟩ := ref M3 hE13
      obtain ⟨M6, e6, hE6, hN6, hp6⟩ := ref_notes (d + 78) (M1 := M) hw5 x5 hpm hpc.2.2.2.1
      have pos : (0 : Int32) < iI ((trayM z (tgv tv t) (tn t) 0 m).1 : Nat) := by
        have e' : (0 : Int32) = iI 0 := rfl
        rw [e', iI_lt (by omega) (by omega) (by omega) (by omega)]; omega
      rw [if_pos pos, e6, bV_some] at e5
      rw [if_pos pos, e3, bV_some] at cls
      refine ⟨iI ((trayM z (tgv tv t) (tn t) 0 m).1 : Nat), M3, M6, cls, e5, fin_deed (b := b + 1) (S2 := [197, 198, 202, 203, 204]) rq hrest h5 (by omega) hE13 (aloL_ok hS.1) (hE5.tr (hE6.mono (by simp))) (by intro a ha; simp only [List.mem_cons, List.not_mem_nil, or_false] at ha; omega) ?_ hS3 hm3 tok hp3 (psh_all hpc.2.2.2.1 hof okm) hN6 hp6⟩
      intro k hk
      rw [eqx_I hE6 (by decide)]; exact h75 k hk
def jV (k n : Nat) (R : Nat × Mo × Int) : Int := if k = 0 then (if R.1 = n then -1 else R.1) else if k = 1 then R.2.2 else if k = 2 then R.2.1.1 else cwho R.2.1.2.1
def jdL (r : Nat) : List Nat := [113, 128, 129, 130, r + 6, r + 9]
theorem s_judge (x1 x2 : Int32) : Step m_RW_judge m_Mo_judge [.int x1, .int x2] := by
  intro d M b hRel hb
  have hRel0 := hRel
  obtain ⟨r, tm0, st, nx, nd, m, f, so, tn, tv, z, hS, hst, h5, hm, okm, rq, hmo, hpc, hpm, hof, hrest⟩ := hRel
  have hz := hS.2.2.2.1
  have hr := rm_mod hS.1
  obtain ⟨hTC, hTM, _⟩ := id hrest
  have jm : ∀ {a : Nat}, a ∈ jdL r → a = 113 ∨ a = 128 ∨ a = 129 ∨ a = 130 ∨ a = r + 6 ∨ a = r + 9 := fun ha => by simp only [jdL, List.mem_cons, List.not_mem_nil, or_false] at ha; omega
  have hTM1 : ∀ M1 : Mem, Eqx (jdL r) M M1 → TrM (wI M1 197 0 (iI 0)) so tn tv := fun M1 hE => hTM.fr ((wI_na (by decide)).trans (hE 213 (fun q => by have := jm q; omega)).1) ((wI_na (by decide)).trans (hE 214 (fun q => by have := jm q; omega)).1) (hE 215 (fun q => by have := jm q; omega)).2.1
  have same : ∀ v : Int32, c2 (d + 80) m_RW_judge [.ref 100, .int x1, .int x2] M = some (.int v, M) → c2 (d + 80) m_Mo_judge [.ref 197, .int x1, .int x2] M = some (.int v, wI M 197 0 (iI 0)) → ∃ v M1 M2, c2 (d + 80) m_RW_judge [.ref 100, .int x1, .int x2] M = some (.int v, M1) ∧ c2 (d + 80) m_Mo_judge [.ref 197, .int x1, .int x2] M1 = some (.int v, M2) ∧ Rel M2 (b + 1) ∧ Keep M M2 := fun v h1 h2 => ⟨v, M, _, h1, h2, fin_same hRel0 (Eqx.rf : Eqx [] M M) (fun a ha => absurd ha (List.not_mem_nil)) (eqx_wI Eqx.rf (by simp) : Eqx [197] M _) (by intro a ha; simp only [List.mem_cons, List.not_mem_nil, or_false] at ha; omega) (fun k hk => by rw [gI_nk (by omega)]) (wI_na (by decide))⟩
  obtain ⟨x, rfl, xa, xb⟩ := iI_ex x1
  obtain ⟨k, rfl, ka, kb⟩ := iI_ex x2
  by_cases hk : 0 ≤ k ∧ k ≤ 3
  · obtain ⟨k, rfl⟩ := Int.eq_ofNat_of_zero_le hk.1
    rcases tray3 so x with ⟨h1, h2⟩ | ⟨t, rfl, ht, ⟨h1, h2⟩ | ⟨h1, h2⟩⟩
    · refine same (iI (-2)) ?_ ?_
      · show X2 (d + 79) m_RW_judge 0 [.ref 100, .int (iI x), .int (iI k), uns, uns] [] M = _
        rw [e_RW_judge_0, c_RW_isTray, bI_some, iI_toInt xa xb, decide_eq_false h1, b2i_f, if_pos (show iI 0 = 0 from rfl)]
      · show X2 (d + 79) m_Mo_judge 0 [.ref 197, .int (iI x), .int (iI k), uns, uns, uns, uns] [] M = _
        rw [e_Mo_judge_0, c_Mo_within, bI_some, i2l_iI (by omega) (by omega), lI_toInt (by omega) (by omega), lI_toInt (by omega) (by omega), lI_toInt (by omega) (by omega), decide_eq_true hk, b2i_t, if_neg (show ¬ (iI 1 = 0) by decide), c_Mo_noTray _ (hTM1 M Eqx.rf), bI_some, iI_toInt xa xb, h2, if_neg (by decide)]
    · refine same (iI (-6)) ?_ ?_
      · show X2 (d + 79) m_RW_judge 0 [.ref 100, .int (iI t), .int (iI k), uns, uns] [] M = _
        rw [e_RW_judge_0, c_RW_isTray, bI_some, iI_toInt xa xb, decide_eq_true (show (0 : Int) ≤ t ∧ (t : Int) < 4 by omega), b2i_t, if_neg (show ¬ (iI 1 = 0) by decide), if_neg (by rw [iI_lt0 (by omega) (by omega)]; omega), if_neg (by rw [iI_lt (by omega) (by omega) (by omega) (by omega)]; omega), ff_inb ht, gb_T, ix_nat (by omega), tr_ref ht, tr_k ht, gb_T, (hTC t ht).1, if_pos h1, if_neg (show ¬ (iI 1 = 0) by decide)]
      · show X2 (d + 79) m_Mo_judge 0 [.ref 197, .int (iI t), .int (iI k), uns, uns, uns, uns] [] M = _
        rw [e_Mo_judge_0, c_Mo_within, bI_some, i2l_iI (by omega) (by omega), lI_toInt (by omega) (by omega), lI_toInt (by omega) (by omega), lI_toInt (by omega) (by omega), decide_eq_true hk, b2i_t, if_neg (show ¬ (iI 1 = 0) by decide), c_Mo_noTray _ (hTM1 M Eqx.rf), bI_some, iI_toInt xa xb, h2, if_neg (by decide)]
    · obtain ⟨⟨-, t2⟩, tok, -, tw0, tw1⟩ := trayM_all hz (tgv tv t) (tn t) 0 m okm
      have htn := (hTC t ht).2.2.2.2
      rw [Nat.zero_add] at t2 tw0 tw1
      obtain ⟨R, hR⟩ : ∃ R, R = trayM z (tgv tv t) (tn t) 0 m := ⟨_, rfl⟩
      rw [← hR] at t2 tok tw0 tw1
      have tw2 : R.1 = tn t ↔ R.2.2 = 0 := ⟨tw0, fun q => Classical.byContradiction (fun x => (tw1 x).2 q)⟩
      -- the class
      have cls : ∃ M3, X2 (d + 79) m_RW_judge 0 [.ref 100, .int (iI t), .int (iI k), uns, uns] [] M = some (.int (iI (jV k (tn t) R)), M3) ∧ Eqx (jdL r) M M3 ∧ StepsC M3 r z tm0 st := by
        obtain ⟨M1, e1, hE1, hm1⟩ := c_Mom_copy (d + 78) (a := 113) (b := 111) (by decide) (by decide) (by decide) hm
        have hS1 : StepsC M1 r z tm0 st := hS.fq hE1 (by intro a ha; simp only [List.mem_cons, List.not_mem_nil, or_false] at ha; omega)
        have h51 : gR M1 100 5 = r := (eqx_R hE1 (by decide) 5).trans h5
        have hT1 : TrC M1 so tn tv := hTC.fr hE1 (by intro a ha; simp only [List.mem_cons, List.not_mem_nil, or_false] at ha; omega)
        obtain ⟨M2, e2, hE2, hS2, hm2⟩ := c_RW_doTray (d + 72) ht h1 hS1 h51 (a := 113) (by decide) (by decide) hm1 okm hT1
        rw [← hR] at e2 hm2
        have hE12 : Eqx (jdL r) M M2 := (hE1.mono (fun a ha => by simp only [jdL, List.mem_cons, List.not_mem_nil, or_false] at ha ⊢; omega)).tr hE2
        have hT2 : TrC M2 so tn tv := hTC.fr hE12 (fun a ha => by have := jm ha; omega)
        have h52 : gR M2 100 5 = r := (eqx_R hE12 (fun q => by have := jm q; omega) 5).trans h5
        rw [e_RW_judge_0, c_RW_isTray, bI_some, iI_toInt xa xb, decide_eq_true (show (0 : Int) ≤ t ∧ (t : Int) < 4 by omega), b2i_t, if_neg (show ¬ (iI 1 = 0) by decide), if_neg (by rw [iI_lt0 (by omega) (by omega)]; omega), if_neg (by rw [iI_lt (by omega) (by omega) (by omega) (by omega)]; omega), ff_inb ht, gb_T, ix_nat (by omega), tr_ref ht, tr_k ht, gb_T, (hTC t ht).1, if_neg h1, if_pos (show iI 0 = 0 from rfl), e1, bV_some, gb_T, tr_ref ht, e2, bI_some, gb_T, tr_ref ht, tr_k ht, gb_T, ((hT2 t ht).2.1 h1).2.1]
        have ee : (iI (R.1 : Int) = iI (tn t : Int)) = (R.1 = tn t) := by
          rw [iI_eq (by omega) (by omega) (by omega) (by omega)]
          apply propext; constructor <;> intro h <;> omega
        simp only [ee, e_RW_judge_78]
        unfold jV
        have kz : ∀ c : Nat, c ≤ 3 → (iI (k : Int) = iI (c : Int)) = (k = c) := fun c hc => by
          rw [iI_eq (by omega) (by omega) (by omega) (by omega)]
          apply propext; constructor <;> intro h <;> omega
        have k0 : (iI (k : Int) = iI 0) = (k = 0) := kz 0 (by decide)
        have k1 : (iI (k : Int) = iI 1) = (k = 1) := kz 1 (by decide)
        have k2 : (iI (k : Int) = iI 2) = (k = 2) := kz 2 (by decide)
        simp only [k0, k1, k2]
        by_cases c0 : k = 0
        · simp only [if_pos c0]
          by_cases q : R.1 = tn t
          · rw [if_pos q, if_pos q, if_neg (show ¬ (iI 1 = 0) by decide)]; exact ⟨M2, rfl, hE12, hS2⟩
          · rw [if_neg q, if_neg q, if_pos (show iI 0 = 0 from rfl)]; exact ⟨M2, rfl, hE12, hS2⟩
        · simp only [if_neg c0]
          by_cases c1 : k = 1
          · simp only [if_pos c1]
            by_cases q : R.1 = tn t
            · rw [if_pos q, if_neg (show ¬ (iI 1 = 0) by decide), tw0 q]; exact ⟨M2, rfl, hE12, hS2⟩
            · obtain ⟨M3, e3, hE3, hS3, -⟩ := c_RW_doDeed (d + 73) hS2 h52 (a := 113) (by decide) hm2 tok (tv t R.1)
              rw [if_neg q, if_pos (show iI 0 = 0 from rfl), ff_inb ht, gb_T, ix_nat (by omega), tr_ref ht, tr_k ht, tt_and, gb_T, c_Tray_at _ hT2 ht h1 (by omega), bL_some, e3, bI_some]
              exact ⟨M3, by rw [(tw1 q).1]; rfl, hE12.tr hE3, hS3⟩
          · simp only [if_neg c1]
            by_cases c3 : k = 2
            · simp only [if_pos c3]
              rw [hm2.1]
              split <;> exact ⟨M2, rfl, hE12, hS2⟩
            · simp only [if_neg c3]
              rw [hm2.2.1]
              split <;> exact ⟨M2, rfl, hE12, hS2⟩
      obtain ⟨M3, e3, hE3, hS3⟩ := cls
      -- the reference
      have x3 : (wI M3 197 0 (iI 0)).1 198 = M.1 198 := (wI_na (by decide)).trans (hE3 198 (fun q => by have := jm q; omega)).1
      obtain ⟨M4, e4, hE4, hw4⟩ := c_Mo_keeps (d + 78) (M := wI M3 197 0 (iI 0)) (m := m) (by rw [x3]; exact hmo)
      have hz1 := rq_ok rq hz
      have ok1 : OkM (M.1 198) m := ⟨rq_oks rq okm.1, okm.2⟩
      have x4 : M4.1 198 = rowM (M.1 198) m := by rw [rowM_self hmo, (hE4 198 (by decide)).1, x3]
      have hT4 : TrM M4 so tn tv := (hTM1 M3 hE3).fr (hE4 213 (by decide)).1 (hE4 214 (by decide)).1 (hE4 215 (by decide)).2.1
      obtain ⟨M5, e5, hE5, x5, y5, h75⟩ := c_Mo_tells (d + 71) ht hz1 x4 ok1 hT4
      rw [rq_trayM rq hz (tgv tv t) (tn t) 0 m okm, ← hR] at e5 x5 y5
      obtain ⟨M6, e6, hE6, x6⟩ := c_Mo_isAgain (d + 78) x5 (hw4.fr (hE5 204 (by decide)).1)
      rw [rowM_self hmo] at x6
      have y6 : gI M6 197 19 = iI R.2.2 := (eqx_I hE6 (by decide) 19).trans y5
      have g25 : gI M5 198 25 = iI R.2.1.1 := by rw [gI, x5]; rfl
      have g26 : gI M5 198 26 = iI R.2.1.2.1 := by rw [gI, x5]; rfl
      have rw2 : 0 ≤ R.2.2 ∧ R.2.2 ≤ 2 := by
        by_cases q : R.1 = tn t
        · rw [tw0 q]; decide
        · rw [(tw1 q).1]; exact dWhy_rng _ _ _
      have hE56 : Eqx [197, 198, 202, 203, 204] M3 M6 := (((eqx_wI Eqx.rf (by simp)) : Eqx [197, 198, 202, 203, 204] M3 (wI M3 197 0 (iI 0))).tr (hE4.mono (by simp))).tr ((hE5.mono (by simp)).tr (hE6.mono (by simp)))
      have h76 : Eq7 M3 M6 := fun j hj => by
        rw [eqx_I hE6 (by decide), h75 j hj, eqx_I hE4 (by decide), gI_nk (by omega)]
      refine ⟨iI (jV k (tn t) R), M3, M6, e3, ?_, fin_deed (b := b + 1) rq hrest h5 (by omega) hE3 ?_ hE56 (by intro a ha; simp only [List.mem_cons, List.not_mem_nil, or_false] at ha; omega) h76 hS3 (hm.fr (hE3 111 (fun q => by have := jm q; omega)).1) okm (hpc.fr hE3 (fun a ha => by have := jm ha; omega)) hof ?_ ?_⟩
      · show X2 (d + 79) m_Mo_judge 0 [.ref 197, .int (iI t), .int (iI k), uns, uns, uns, uns] [] M3 = _
        rw [e_Mo_judge_0, c_Mo_within, bI_some, i2l_iI (by omega) (by omega), lI_toInt (by omega) (by omega), lI_toInt (by omega) (by omega), lI_toInt (by omega) (by omega), decide_eq_true hk, b2i_t, if_neg (show ¬ (iI 1 = 0) by decide), c_Mo_noTray _ (hTM1 M3 hE3), bI_some, iI_toInt xa xb, h2, if_pos (show iI 0 = 0 from rfl), e4, bV_some, e5, bI_some, e6, bV_some, y6, g25, g26]
        have kz : ∀ c : Nat, c ≤ 3 → (iI (k : Int) = iI (c : Int)) = (k = c) := fun c hc => by
          rw [iI_eq (by omega) (by omega) (by omega) (by omega)]
          apply propext; constructor <;> intro h <;> omega
        have k0 : (iI (k : Int) = 0) = (k = 0) := kz 0 (by decide)
        have k1 : (iI (k : Int) = iI 1) = (k = 1) := kz 1 (by decide)
        have k2 : (iI (k : Int) = iI 2) = (k = 2) := kz 2 (by decide)
        simp only [k0, k1, k2]
        unfold jV
        by_cases c0 : k = 0
        · simp only [if_pos c0]
          by_cases q : R.1 = tn t
          · rw [if_pos q, tw0 q, if_pos (show iI 0 = 0 from rfl)]
          · rw [if_neg q, if_neg (by rw [iI_eq0 (by omega) (by omega)]; exact (tw1 q).2)]
        · simp only [if_neg c0]
          by_cases c1 : k = 1
          · simp only [if_pos c1]
          · simp only [if_neg c1]
            by_cases c3 : k = 2
            · simp only [if_pos c3]
            · simp only [if_neg c3]
              have tw : c2 (d + 79) m_Mo_toldWho [.int (iI R.2.1.2.1)] M6 = some (.int (iI (cwho R.2.1.2.1)), M6) := by
                show X2 (d + 78) m_Mo_toldWho 0 [.int (iI R.2.1.2.1)] [] M6 = _
                rw [e_Mo_toldWho_0, cwho]
                by_cases q : R.2.1.2.1 = 4
                · rw [if_pos q, if_pos (by rw [who_eq tok.2.1]; exact q)]
                · rw [if_neg q, if_neg (by rw [who_eq tok.2.1]; exact q)]
              rw [tw, bI_some]
      · intro a ha
        have := jm ha
        unfold okA; omega
      · intro j _; rw [rowM_self hmo, x6]
      · rw [x6]; exact hpm
  · refine same (iI (-2)) ?_ ?_
    · show X2 (d + 79) m_RW_judge 0 [.ref 100, .int (iI x), .int (iI k), uns, uns] [] M = _
      rw [e_RW_judge_0, c_RW_isTray, bI_some]
      by_cases q : 0 ≤ (iI x).toInt ∧ (iI x).toInt < 4
      · rw [decide_eq_true q, b2i_t, if_neg (show ¬ (iI 1 = 0) by decide)]
        by_cases q2 : k < 0
        · rw [if_pos (by rw [iI_lt0 ka kb]; exact q2)]
        · rw [if_neg (by rw [iI_lt0 ka kb]; exact q2), if_pos (by rw [iI_lt (by omega) (by omega) ka kb]; omega)]
      · rw [decide_eq_false q, b2i_f, if_pos (show iI 0 = 0 from rfl)]
    · show X2 (d + 79) m_Mo_judge 0 [.ref 197, .int (iI x), .int (iI k), uns, uns, uns, uns] [] M = _
      rw [e_Mo_judge_0, c_Mo_within, bI_some, i2l_iI ka kb, lI_toInt (by omega) (by omega), lI_toInt (by omega) (by omega), lI_toInt (by omega) (by omega), decide_eq_false hk, b2i_f, if_pos (show iI 0 = 0 from rfl)]
