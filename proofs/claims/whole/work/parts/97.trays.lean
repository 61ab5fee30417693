/-! judge, perform. -/
def trayM (z : Row) (g : Nat → Int) : Nat → Nat → Mo → Nat × Mo × Int
  | 0, i, m => (i, m, 0)
  | j + 1, i, m => if dWhy z (g i) m = 0 then trayM z g j (i + 1) (dDo z (g i) m) else (i, m, dWhy z (g i) m)
theorem trayM_s0 {z : Row} {g : Nat → Int} {j i : Nat} {m : Mo} (h : dWhy z (g i) m = 0) : trayM z g (j + 1) i m = trayM z g j (i + 1) (dDo z (g i) m) := if_pos h
theorem trayM_s1 {z : Row} {g : Nat → Int} {j i : Nat} {m : Mo} (h : dWhy z (g i) m ≠ 0) : trayM z g (j + 1) i m = (i, m, dWhy z (g i) m) := if_neg h
theorem trayM_all {z : Row} (hz : OkZ z) (g : Nat → Int) : ∀ (j i : Nat) (m : Mo), OkM z m → (i ≤ (trayM z g j i m).1 ∧ (trayM z g j i m).1 ≤ i + j) ∧ OkM z (trayM z g j i m).2.1 ∧ ((trayM z g j i m).1 = i → (trayM z g j i m).2.1 = m) ∧ ((trayM z g j i m).1 = i + j → (trayM z g j i m).2.2 = 0) ∧ ((trayM z g j i m).1 ≠ i + j → (trayM z g j i m).2.2 = dWhy z (g (trayM z g j i m).1) (trayM z g j i m).2.1 ∧ (trayM z g j i m).2.2 ≠ 0)
  | 0, i, m, ok => ⟨⟨Nat.le_refl _, Nat.le_refl _⟩, ok, fun _ => rfl, fun _ => rfl, fun h => absurd rfl h⟩
  | j + 1, i, m, ok => by
    by_cases h : dWhy z (g i) m = 0
    · rw [trayM_s0 h]
      obtain ⟨⟨a1, a2⟩, b, c, e, f⟩ := trayM_all hz g j (i + 1) (dDo z (g i) m) (dDo_ok hz h ok)
      exact ⟨⟨by omega, by omega⟩, b, fun q => by omega, fun q => e (by omega), fun q => f (by omega)⟩
    · rw [trayM_s1 h]
      exact ⟨⟨Nat.le_refl _, Nat.le_add_right _ _⟩, ok, fun _ => rfl, fun q => by have : i = i + (j + 1) := q; omega, fun _ => ⟨rfl, h⟩⟩
def tgv (tv : Nat → Nat → Int64) (t : Nat) : Nat → Int := fun k => (tv t k).toInt
theorem c_RW_doTray (d : Nat) {M0 : Mem} {r tm0 st : Nat} {z : Row} {so : Nat → Int} {tn : Nat → Nat} {tv : Nat → Nat → Int64} {t a : Nat} {m : Mo} (ht : t < 4) (hs : so t ≠ -1) (hS : StepsC M0 r z tm0 st) (h5 : gR M0 100 5 = r) (ha : a ∈ moms) (ha2 : a < 187) (hm : MoC M0 a m) (ok : OkM z m) (hT : TrC M0 so tn tv) :
    ∃ M', c2 (d + 7) m_RW_doTray [.ref 100, .ref (189 + 2 * t), .ref a] M0 = some (.int (iI ((trayM z (tgv tv t) (tn t) 0 m).1 : Nat)), M') ∧ Eqx [a, 128, 129, 130, r + 6, r + 9] M0 M' ∧ StepsC M' r z tm0 st ∧ MoC M' a (trayM z (tgv tv t) (tn t) 0 m).2.1 := by
  have hr := rm_mod hS.1
  have ha3 : a ≠ 100 ∧ 100 < a := by simp only [moms, List.mem_cons, List.not_mem_nil, or_false] at ha; omega
  have htn := (hT t ht).2.2.2.2
  have go : ∀ (j i : Nat) (m : Mo) (M : Mem), j + i = tn t → Eqx [a, 128, 129, 130, r + 6, r + 9] M0 M → StepsC M r z tm0 st → MoC M a m → OkM z m → ∃ M', X2 (d + 6) m_RW_doTray 2 [.ref 100, .ref (189 + 2 * t), .ref a, .int (iI i)] [] M = some (.int (iI ((trayM z (tgv tv t) j i m).1 : Nat)), M') ∧ Eqx [a, 128, 129, 130, r + 6, r + 9] M0 M' ∧ StepsC M' r z tm0 st ∧ MoC M' a (trayM z (tgv tv t) j i m).2.1 := by
    intro j
    induction j with
    | zero =>
      intro i m M hi hE hS hm ok
      have hT1 : TrC M so tn tv := hT.fr hE (by simp only [List.mem_cons, List.not_mem_nil, or_false]; omega)
      rw [e_RW_doTray_2, tr_k ht, gb_T, ((hT1 t ht).2.1 hs).2.1, if_neg (by rw [iI_lt (by omega) (by omega) (by omega) (by omega)]; omega)]
      exact ⟨M, rfl, hE, hS, hm⟩
    | succ j ih =>
      intro i m M hi hE hS hm ok
      have hT1 : TrC M so tn tv := hT.fr hE (by simp only [List.mem_cons, List.not_mem_nil, or_false]; omega)
      have h51 : gR M 100 5 = r := (eqx_R hE (by simp only [List.mem_cons, List.not_mem_nil, or_false]; omega) 5).trans h5
      obtain ⟨M1, e1, hE1, hS1, hm1⟩ := c_RW_doDeed d hS h51 ha hm ok (tv t i)
      have hw := dWhy_rng z (tv t i).toInt m
      rw [e_RW_doTray_2, tr_k ht, gb_T, ((hT1 t ht).2.1 hs).2.1, if_pos (by rw [iI_lt (by omega) (by omega) (by omega) (by omega)]; omega), tt_and, gb_T, c_Tray_at _ hT1 ht hs (by omega), bL_some, e1, bI_some]
      by_cases q : dWhy z (tv t i).toInt m = 0
      · rw [q, if_pos (show iI 0 = 0 from rfl), iI_add, trayM_s0 (show dWhy z (tgv tv t i) m = 0 from q)]
        rw [dNx, if_pos q] at hm1
        exact ih (i + 1) _ M1 (by omega) (hE.tr hE1) hS1 hm1 (dDo_ok hS.2.2.2.1 q ok)
      · rw [if_neg (by rw [iI_eq0 (by omega) (by omega)]; exact q), trayM_s1 (show dWhy z (tgv tv t i) m ≠ 0 from q)]
        rw [dNx, if_neg q] at hm1
        exact ⟨M1, rfl, hE.tr hE1, hS1, hm1⟩
  obtain ⟨M', e, q⟩ := go (tn t) 0 m M0 (by omega) Eqx.rf hS hm ok
  exact ⟨M', by
    show X2 (d + 6) m_RW_doTray 0 [.ref 100, .ref (189 + 2 * t), .ref a, uns] [] M0 = _
    rw [e_RW_doTray_0]; exact e, q⟩
theorem c_Mo_tells (d : Nat) {M0 : Mem} {z : Row} {so : Nat → Int} {tn : Nat → Nat} {tv : Nat → Nat → Int64} {t : Nat} {m : Mo} (ht : t < 4) (hz : OkZ z) (hM : M0.1 198 = rowM z m) (ok : OkM z m) (hT : TrM M0 so tn tv) :
    ∃ M', c2 (d + 8) m_Mo_tells [.ref 197, .int (iI t)] M0 = some (.int (iI ((trayM z (tgv tv t) (tn t) 0 m).1 : Nat)), M') ∧ Eqx [197, 198, 202, 203] M0 M' ∧ M'.1 198 = rowM z (trayM z (tgv tv t) (tn t) 0 m).2.1 ∧ gI M' 197 19 = iI (trayM z (tgv tv t) (tn t) 0 m).2.2 ∧ Eq7 M0 M' := by
  have htn := (hT t ht).2.2.2.2.2
  have go : ∀ (j i : Nat) (m : Mo) (M : Mem), j + i = tn t → Eqx [197, 198, 202, 203] M0 M → M.1 198 = rowM z m → OkM z m → gI M 197 19 = iI 0 → Eq7 M0 M → ∃ M', X2 (d + 7) m_Mo_tells 7 [.ref 197, .int (iI t), .int (iI i)] [] M = some (.int (iI ((trayM z (tgv tv t) j i m).1 : Nat)), M') ∧ Eqx [197, 198, 202, 203] M0 M' ∧ M'.1 198 = rowM z (trayM z (tgv tv t) j i m).2.1 ∧ gI M' 197 19 = iI (trayM z (tgv tv t) j i m).2.2 ∧ Eq7 M0 M' := by
    intro j
    induction j with
    | zero =>
      intro i m M hi hE hr ok h19 h7
      have hT1 : TrM M so tn tv := hT.fr (hE 213 (by decide)).1 (hE 214 (by decide)).1 (hE 215 (by decide)).2.1
      rw [e_Mo_tells_7, inb_ok (by omega) (by omega) (by omega), gb_T, gb_T, ix_nat (by omega), (hT1 t ht).2.1, if_neg (by rw [iI_lt (by omega) (by omega) (by omega) (by omega)]; omega)]
      exact ⟨M, by rw [show tn t = i by omega]; rfl, hE, hr, h19, h7⟩
    | succ j ih =>
      intro i m M hi hE hr ok h19 h7
      have hT1 : TrM M so tn tv := hT.fr (hE 213 (by decide)).1 (hE 214 (by decide)).1 (hE 215 (by decide)).2.1
      have hw := dWhy_rng z (tv t i).toInt m
      have hv : gL M 215 (40 * t + i) = tv t i := (hT1 t ht).2.2.1 i (by omega)
      rw [e_Mo_tells_7, inb_ok (by omega) (by omega) (by omega), gb_T, ix_nat (by omega), (hT1 t ht).2.1, if_pos (by rw [iI_lt (by omega) (by omega) (by omega) (by omega)]; omega), ix40 ht (by omega), inb_ok (by omega) (by omega) (by omega), gb_T, ix_nat (by omega), hv, c_Mo_whyNot _ hz hr ok, bI_some, hv]
      by_cases q : dWhy z (tv t i).toInt m = 0
      · have e32 : (tv t i).toInt32 = iI (tv t i).toInt := by
          have := l2i_lI (tv t i).toInt
          rw [show lI (tv t i).toInt = tv t i from Int64.ofInt_toInt _] at this; exact this
        have hr2 : (wI M 197 19 (iI 0)).1 198 = rowM z m := by rw [wI_na (by decide)]; exact hr
        obtain ⟨M2, e2, hE2, hr3⟩ := c_Mo_does d hz hr2 ok q
        rw [q, if_pos (show iI 0 = 0 from rfl), gb_T, e32, e2, bV_some, iI_add, trayM_s0 (show dWhy z (tgv tv t i) m = 0 from q)]
        refine ih (i + 1) _ M2 (by omega) ((eqx_wI hE (by simp)).tr (hE2.mono (by simp))) hr3 (dDo_ok hz q ok) ?_ ?_
        · rw [eqx_I hE2 (by decide), gI_eq]
        · intro k hk
          rw [eqx_I hE2 (by decide), gI_nk (by omega)]; exact h7 k hk
      · rw [if_neg (by rw [iI_eq0 (by omega) (by omega)]; exact q), trayM_s1 (show dWhy z (tgv tv t i) m ≠ 0 from q)]
        exact ⟨_, rfl, eqx_wI hE (by simp), by rw [wI_na (by decide)]; exact hr, gI_eq _ _ _ _, fun k hk => by rw [gI_nk (by omega)]; exact h7 k hk⟩
  obtain ⟨M', e, q⟩ := go (tn t) 0 m (wI M0 197 19 (iI 0)) (by omega) (eqx_wI Eqx.rf (by simp)) (by rw [wI_na (by decide)]; exact hM) ok (gI_eq _ _ _ _) (fun k hk => by rw [gI_nk (by omega)])
  exact ⟨M', by
    show X2 (d + 7) m_Mo_tells 0 [.ref 197, .int (iI t), uns] [] M0 = _
    rw [e_Mo_tells_0]; exact e, q⟩
theorem c_Mo_isAgain (d : Nat) {M : Mem} {z : Row} {m m' : Mo} (hM : M.1 198 = rowM z m') (hw : WasM M m) : ∃ M', c2 (d + 1) m_Mo_isAgain [.ref 197] M = some (.null, M') ∧ Eqx [198] M M' ∧ M'.1 198 = rowM z m := by
  have st : ∀ (k : Nat) (M' : Mem), k < 4 → M'.1 204 = M.1 204 → X2 d m_Mo_isAgain 2 [.ref 197, .int (iI k)] [] M' = X2 d m_Mo_isAgain 2 [.ref 197, .int (iI ((k + 1 : Nat) : Int))] [] (wI M' 198 (25 + k) (M.1 204 k)) := by
    intro k M' hk h2
    rw [e_Mo_isAgain_2, if_pos (by rw [iI_lt (by omega) (by omega) (by omega) (by omega)]; omega), inb_ok (by omega) (by omega) (by omega), gb_T, iI_add, inb_ok (by omega) (by omega) (by omega), gb_T, ix_eq (n := 25 + k) (by omega) (by omega), ix_nat (by omega), iI_add, gI, h2]
    rfl
  let A1 := wI M 198 (25 + 0) (M.1 204 0)
  let A2 := wI A1 198 (25 + 1) (M.1 204 1)
  let A3 := wI A2 198 (25 + 2) (M.1 204 2)
  let A4 := wI A3 198 (25 + 3) (M.1 204 3)
  have c1 : A1.1 204 = M.1 204 := wI_na (by decide)
  have c2' : A2.1 204 = M.1 204 := (wI_na (by decide)).trans c1
  have c3 : A3.1 204 = M.1 204 := (wI_na (by decide)).trans c2'
  have s0 := st 0 M (by decide) rfl
  have s1 := st 1 A1 (by decide) c1
  have s2 := st 2 A2 (by decide) c2'
  have s3 := st 3 A3 (by decide) c3
  have s0' : X2 d m_Mo_isAgain 2 [.ref 197, .int (iI 0)] [] M = X2 d m_Mo_isAgain 2 [.ref 197, .int (iI ((0 + 1 : Nat) : Int))] [] A1 := s0
  refine ⟨A4, ?_, eqx_wI (eqx_wI (eqx_wI (eqx_wI Eqx.rf (by simp)) (by simp)) (by simp)) (by simp), ?_⟩
  · show X2 d m_Mo_isAgain 0 [.ref 197, uns] [] M = _
    rw [e_Mo_isAgain_0, s0', s1, s2, s3, e_Mo_isAgain_2, if_neg (by decide)]
  · obtain ⟨w0, w1, w2, w3⟩ := hw
    show upr (upr (upr (upr (M.1 198) 25 (M.1 204 0)) 26 (M.1 204 1)) 27 (M.1 204 2)) 28 (M.1 204 3) = _
    rw [show M.1 204 0 = iI m.1 from w0, show M.1 204 1 = iI m.2.1 from w1, show M.1 204 2 = iI m.2.2.1 from w2, show M.1 204 3 = m.2.2.2 from w3, hM]
    funext j
    rw [rowM_at]
    unfold upr
    by_cases q8 : j = 28
    · rw [if_pos q8, if_pos q8]
    · rw [if_neg q8, if_neg q8]
      by_cases q7 : j = 27
      · rw [if_pos q7, if_pos q7]
      · rw [if_neg q7, if_neg q7]
        by_cases q6 : j = 26
        · rw [if_pos q6, if_pos q6]
        · rw [if_neg q6, if_neg q6]
          by_cases q5 : j = 25
          · rw [if_pos q5, if_pos q5]
          · rw [if_neg q5, if_neg q5, rowM_o _ _ (by omega)]
