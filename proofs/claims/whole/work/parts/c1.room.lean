/-! room. -/
section C1
theorem c_Mom_begin {D : Nat} (hD : 1 ≤ D) {M : Mem} {r : Nat} (hr : r ∈ rooms) {w who tm : Nat} (h5 : gI M r 5 = iI w) (h4 : gI M r 4 = iI (cwho who)) (h8 : gI M r 8 = iI tm) : ∃ M', c2 D m_Mom_begin [.ref 111, .ref r] M = some (.null, M') ∧ Eqx [111] M M' ∧ MomR M' 111 w who tm (iI 0) := by
  obtain ⟨d, rfl⟩ := Nat.exists_eq_add_of_le' hD
  have hl := rm_lt r hr
  have hne : r ≠ 111 := by omega
  show ∃ M', X2 d m_Mom_begin 0 [.ref 111, .ref r] [] M = _ ∧ _
  rw [e_Mom_begin_0]
  simp only [mm_k _ 111 (by decide), rm_k _ r hr, gb_T, gI_na hne, h5, h4, h8]
  refine ⟨_, rfl, eqx_wI (eqx_wI (eqx_wI (eqx_wI Eqx.rf (by simp)) (by simp)) (by simp)) (by simp), ?_, ?_, ?_, ?_⟩
  · rw [gI_nk (by decide), gI_nk (by decide), gI_nk (by decide), gI_eq]
  · rw [gI_nk (by decide), gI_nk (by decide), gI_eq]
  · rw [gI_nk (by decide), gI_eq]
  · rw [gI_eq]
theorem ImgR.fr4 {M M' : Mem} {z z' : Row} {S : List Nat} {r2 : Nat} (h : ImgR M z) (hr2 : r2 ∈ rooms) (hn : ∀ i, i < 2 → r2 ≠ gR M 109 i) (hE : Eqx S M M') (hS : ∀ a, a ∈ S → a < 109 ∨ (109 < a ∧ a < 147) ∨ a ∈ roomS r2 ∨ (188 < a ∧ a ≠ 199)) (hz : ∀ k, 971 ≤ k → z' k = z k) : ImgR M' z' := by
  have e : ∀ i, zim z' i = zim z i := fun i => by funext k; exact hz _ (by omega)
  have h2 := rm_mod hr2
  have nq : ∀ a, a ∈ S → a < 109 ∨ (109 < a ∧ a < 147) ∨ (r2 ≤ a ∧ a ≤ r2 + 8) ∨ (188 < a ∧ a ≠ 199) := fun a ha => by
    rcases hS a ha with q | q | q | q
    · exact Or.inl q
    · exact Or.inr (Or.inl q)
    · have := roomS_ge q; omega
    · exact Or.inr (Or.inr (Or.inr q))
  have n199 : 199 ∉ S := fun q => by have := nq _ q; omega
  have n109 : 109 ∉ S := fun q => by have := nq _ q; omega
  intro i hi
  rw [e i, eqx_I hE n199, eqx_R hE n109]
  rcases h i hi with q | ⟨q1, ri, m, q2, q3, q4, q5, q6, q7, q8⟩
  · exact Or.inl q
  · have hne := hn i hi
    rw [q3] at hne
    have h3 := rm_mod q2
    refine Or.inr ⟨q1, ri, m, q2, q3, q4.fr (fun a ha => (hE a (fun q => ?_)).1), q5, q6.fr (hE (187 + i) (fun q => by have := nq _ q; omega)).1, q7, q8⟩
    have h4 := roomS_ge ha
    have := nq _ q
    omega
/-- the reference up to its end -/
theorem roomM {T : Nat → Nat} {n t D : Nat} (hD : 50 ≤ D) (hnt : n ≤ t) (ht : t ≤ 900) {Mc : Mem} (h5 : gI Mc 197 5 = iI t) (hT : ∀ k, k < 900 → gI Mc 200 k = iI (T k) ∧ T k ≤ 255) : ∃ M', X2 D m_Mo_room 0 [.ref 197, .int (iI n), uns] [] Mc = walB D (iI n) M' ∧ Eqx [197, 201] Mc M' ∧ gI M' 197 5 = iI 0 ∧ LnM T n 0 p0 [] M' := by
  obtain ⟨d, rfl⟩ : ∃ d, D = d + 6 := ⟨D - 6, by omega⟩
  let B := wI (wI (wI (wI (wI Mc 197 0 (iI 0)) 197 8 (iI n)) 197 5 (iI 0)) 197 7 (iI 0)) 197 11 (iI 0)
  have hB : Eqx [197, 201] Mc B := eqx_wI (eqx_wI (eqx_wI (eqx_wI (eqx_wI Eqx.rf (by simp)) (by simp)) (by simp)) (by simp)) (by simp)
  have b8 : gI B 197 8 = iI n := by
    show gI (wI (wI (wI (wI (wI Mc 197 0 _) 197 8 _) 197 5 _) 197 7 _) 197 11 _) 197 8 = _
    rw [gI_nk (by decide), gI_nk (by decide), gI_nk (by decide), gI_eq]
  have b5 : gI B 197 5 = iI 0 := by
    show gI (wI (wI (wI (wI (wI Mc 197 0 _) 197 8 _) 197 5 _) 197 7 _) 197 11 _) 197 5 = _
    rw [gI_nk (by decide), gI_nk (by decide), gI_eq]
  have b7 : gI B 197 7 = iI 0 := by
    show gI (wI (wI (wI (wI (wI Mc 197 0 _) 197 8 _) 197 5 _) 197 7 _) 197 11 _) 197 7 = _
    rw [gI_nk (by decide), gI_eq]
  have b11 : gI B 197 11 = iI 0 := gI_eq _ _ _ _
  obtain ⟨P, e1, hE1, k1⟩ := c_plain (D := d + 6) (by omega) B
  have pT : TpM P T n := ⟨(eqx_I hE1 (by decide) 8).trans b8, by omega, fun k hk => ⟨by rw [eqx_I hE1 (by decide), eqx_I hB (by decide)]; exact (hT k hk).1, (hT k hk).2⟩⟩
  obtain ⟨M', e2, hO, o6, o7, o9, o10⟩ := c_Mo_next d (p := 0) pT (Nat.zero_le _) ((eqx_I hE1 (by decide) 7).trans b7)
  have oE := hO.1
  refine ⟨M', ?_, (hB.tr (hE1.mono (by simp))).tr (oE.mono (by simp)), ?_, ⟨⟨⟨⟨?_, by omega, fun k hk => ?_⟩, o6, o7, o9, o10⟩, ?_⟩, RowP.ini (fun k hk => ?_), Nat.zero_le _, Nat.zero_le _⟩⟩
  · rw [e_Mo_room_0, h5, c_Mo_within, bI_some, i2l_iI (by omega) (by omega), i2l_iI (by omega) (by omega), lI_toInt (by omega) (by omega), lI_toInt (by omega) (by omega), lI_toInt (by omega) (by omega), decide_eq_true (by omega), b2i_t, if_neg (show ¬ (iI 1 = 0) by decide)]
    show bV (c2 (d + 6) m_Mo_plain [.ref 201] B) _ = _
    rw [e1, bV_some, e2, bV_some]
    rfl
  · rw [hO.2 5 (by decide) (by decide) (by decide) (by decide), eqx_I hE1 (by decide)]; exact b5
  · rw [hO.2 8 (by decide) (by decide) (by decide) (by decide)]; exact pT.1
  · rw [eqx_I oE (by decide)]; exact pT.2.2 k hk
  · rw [hO.2 11 (by decide) (by decide) (by decide) (by decide), eqx_I hE1 (by decide)]; exact b11
  · rw [eqx_I oE (by decide)]; exact k1 k hk
theorem c2_fun {P : Rs Mem} {v1 v2 : Value} {M1 M2 : Mem} (h1 : P = some (v1, M1)) (h2 : P = some (v2, M2)) : M1 = M2 := by
  rw [h1] at h2
  injection h2 with h
  injection h
theorem s_room (x1 : Int32) : Step m_RW_room m_Mo_room [.int x1] := by
  intro d M b hRel hb
  have hRel0 := hRel
  obtain ⟨r, tm0, st, nx, nd, m, f, so, tn, tv, z, hS, hst, h5, hm, okm, rq, hmo, hpc, hpm, hof, hrest⟩ := hRel
  have fin := fin_same hRel0 (Eqx.rf : Eqx [] M M) (fun a ha => absurd ha (List.not_mem_nil)) (eqx_wI Eqx.rf (by simp) : Eqx [197] M (wI M 197 0 (iI 0))) (by intro a ha; simp only [List.mem_cons, List.not_mem_nil, or_false] at ha; omega) (fun k hk => by rw [gI_nk (by omega)]) (wI_na (by decide))
  obtain ⟨x, rfl, xa, xb⟩ := iI_ex x1
  obtain ⟨hTC, hTM, hI, ⟨t, t1, t2, t3, t4⟩, hF1, hF2⟩ := hrest
  have hr := hS.1
  have hrl := rm_mod hr
  by_cases hx : 0 ≤ x ∧ x ≤ (t : Int)
  · obtain ⟨n, rfl⟩ := Int.eq_ofNat_of_zero_le hx.1
    have hn : n ≤ t := by omega
    obtain ⟨T, hT⟩ : ∃ T : Nat → Nat, ∀ k, k < 900 → gI M 200 k = iI (T k) ∧ gI M 101 k = iI (sg8 (T k)) ∧ T k ≤ 255 := ⟨zn (M.1 200), fun k hk => by
      obtain ⟨v, v1, v2, v3⟩ := t4 k hk
      have e : zn (M.1 200) k = v := zn_iI v2 (by omega)
      rw [e]; exact ⟨v2, v3, v1⟩⟩
    have ki : ∀ i, i < 2 → gR M 109 i = 0 ∨ gR M 109 i ∈ rooms := fun i hi => by
      rcases hI i hi with q | ⟨_, ri, _, q2, q3, _⟩
      · exact Or.inl q.2
      · exact Or.inr (by rw [q3]; exact q2)
    let A := wI M 100 1 (iI 0)
    have hA : Eqx [100] M A := eqx_wI Eqx.rf (by simp)
    obtain ⟨r2, e1, r2m, n5, n0, n1⟩ := c_spare (D := d + 79) (by omega) (M := A) (r := r) (i0 := gR M 109 0) (i1 := gR M 109 1) hr h5 rfl rfl (ki 0 (by decide)) (ki 1 (by decide))
    have r2l := rm_mod r2m
    have hni : ∀ i, i < 2 → r2 ≠ gR M 109 i := fun i hi => by
      rcases (show i = 0 ∨ i = 1 by omega) with q | q
      · rw [q]; exact n0
      · rw [q]; exact n1
    obtain ⟨M1, N, e2, hE2, at2, f11, f12⟩ := c_Tok_begin (d + 70) (M := A) (T := T) (n := n) (by omega) (fun k hk => ⟨(gI_na (by decide)).trans (hT k hk).2.1, (hT k hk).2.2⟩)
    have hTN : TN T n N := ⟨at2.2.1, fun j hj hk => by
      apply Classical.byContradiction
      intro q
      have e : N - 1 = j := by omega
      have h8 := at2.2.2.2.2.2.2.2.1
      rw [e] at h8
      exact hk h8⟩
    obtain ⟨fl, pl, p, f4, okp, rc, rm⟩ := roomQ (T := T) (n := n) (N := N) (r := r2) hTN r2m at2.1
    obtain ⟨M2, e3, hE3, ok3, no3⟩ := rc (d + 79) M1 (by omega) ⟨at2, f11, f12⟩
    have rw_mem : ∀ a, a ∈ 106 :: roomW r2 → a = 102 ∨ a = 106 ∨ a = 107 ∨ a ∈ roomS r2 := fun a ha => by
      rcases List.mem_cons.mp ha with q | q
      · omega
      · rcases List.mem_cons.mp q with q | q
        · omega
        · rcases List.mem_cons.mp q with q | q
          · omega
          · exact Or.inr (Or.inr (Or.inr q))
    let S := [102, 103, 104, 105, 106, 107] ++ roomS r2
    have hS_mem : ∀ a, a ∈ S → (102 ≤ a ∧ a ≤ 107) ∨ a ∈ roomS r2 := fun a ha => by
      rcases List.mem_append.mp ha with q | q
      · simp only [List.mem_cons, List.not_mem_nil, or_false] at q; omega
      · exact Or.inr q
    have hS_lt : ∀ a, a ∈ S → (102 ≤ a ∧ a ≤ 107) ∨ (r2 ≤ a ∧ a ≤ r2 + 8) := fun a ha => by
      rcases hS_mem a ha with q | q
      · exact Or.inl q
      · have := roomS_ge q; omega
    have hE12 : Eqx S A M2 := (hE2.mono (fun a ha => List.mem_append_left _ (by simp only [List.mem_cons, List.not_mem_nil, or_false] at ha ⊢; omega))).tr (hE3.mono (fun a ha => by
      rcases rw_mem a ha with q | q | q | q
      · exact List.mem_append_left _ (by rw [q]; decide)
      · exact List.mem_append_left _ (by rw [q]; decide)
      · exact List.mem_append_left _ (by rw [q]; decide)
      · exact List.mem_append_right _ q))
    have nS : ∀ a, (a < 102 ∨ (107 < a ∧ a < 147) ∨ 185 < a) → a ∉ S := fun a h q => by have := hS_lt a q; omega
    have cEq : c2 (d + 80) m_RW_room [.ref 100, .int (iI n)] M = bI (c2 (d + 79) m_RR_readRoom [.ref 106, .ref 102, .ref r2] M1) fun r5 M4 => if r5 = 0 then some (.int ((iI (-30)) - (gI M4 102 11)), M4) else bV (c2 (d + 79) m_Mom_begin [.ref 111, .ref r2] (wR M4 100 5 r2)) fun M6 => bV (c2 (d + 79) m_Past_clear [.ref 114] M6) fun M7 => bV (c2 (d + 79) m_Stp_take [.ref 127, .ref (gR M7 100 5)] M7) fun M8 => gb (isK O2 M8 (gR M8 100 5) 16) (some (.int (gI M8 (gR M8 100 5) 9), M8)) := by
      show X2 (d + 79) m_RW_room 0 [.ref 100, .int (iI n), uns] [] M = _
      rw [e_RW_room_0, if_neg (by rw [iI_lt0 (by omega) (by omega)]; omega), t1, if_neg (by rw [iI_lt (by omega) (by omega) (by omega) (by omega)]; omega)]
      show bR (c2 (d + 79) m_RW_spareRoom [.ref 100] A) _ = _
      rw [e1, bR_some, e2, bV_some]
    -- what the reference is run over
    have ref : ∀ Mc, Mc.1 197 = M.1 197 → Mc.1 200 = M.1 200 → ∃ M' C', X2 (d + 79) m_Mo_room 0 [.ref 197, .int (iI n), uns] [] Mc = X2 (d + 79) m_Mo_room 121 [.ref 197, .int (iI n), uns] [] M' ∧ Eqx [197, 201] Mc M' ∧ gI M' 197 5 = iI 0 ∧ (fl = 0 → gI M' 197 11 = iI 0 ∧ RowP M' p C' ∧ C'.length ≤ 900) ∧ (fl ≠ 0 → FM fl pl M') := fun Mc h197 h200 => by
      obtain ⟨Ma, ea, hEa, a5, la⟩ := roomM (T := T) (n := n) (t := t) (D := d + 79) (by omega) hn t3 (Mc := Mc) ((congrFun h197 5).trans t2) (fun k hk => ⟨(congrFun h200 k).trans (hT k hk).1, (hT k hk).2.2⟩)
      obtain ⟨M', C', eb, hOb, okb, nob⟩ := rm (d + 79) Ma (iI n) (by omega) la
      exact ⟨M', C', ea.trans eb, hEa.tr hOb.1, (hOb.2 5 (Or.inl rfl)).trans a5, okb, nob⟩
    by_cases zf : fl = 0
    · -- a room
      have ok3' := ok3 zf
      have okP := okp zf
      have rC := ok3'.1
      let B0 := wR M2 100 5 r2
      have hB0 : Eqx [100] M2 B0 := eqx_wR Eqx.rf (by simp)
      have bC : RoomC B0 r2 p := rC
      obtain ⟨B1, e4, hE4, hm4⟩ := c_Mom_begin (D := d + 79) (by omega) (M := B0) (r := r2) r2m (w := p.1 25) (who := p.1 26) (tm := p.1 27) (bC.1 5 (by decide)) (bC.1 4 (by decide)) (bC.1 8 (by decide))
      let B2 := wI B1 114 2 (iI 0)
      have e5 : c2 (d + 79) m_Past_clear [.ref 114] B1 = some (.null, B2) := e_Past_clear_0 (d + 78) B1
      have hE02 : Eqx [111, 114] B0 B2 := eqx_wI (hE4.mono (by simp)) (by simp)
      have hEM : Eqx ([100, 111, 114] ++ S) M B2 := ((hA.mono (by simp)).tr ((hE12.mono (fun a ha => List.mem_append_right _ ha)).tr ((hB0.mono (by simp)).tr (hE02.mono (by simp)))))
      have nEM : ∀ a, a ≠ 100 → a ≠ 111 → a ≠ 114 → a ∉ S → a ∉ [100, 111, 114] ++ S := fun a h1 h2 h3 h4 q => by
        rcases List.mem_append.mp q with q | q
        · simp only [List.mem_cons, List.not_mem_nil, or_false] at q; omega
        · exact h4 q
      have b5 : gR B2 100 5 = r2 := (eqx_R hE02 (by decide) 5).trans (wR100_5 M2 r2)
      have bR2 : RoomC B2 r2 p := bC.fr (fun a ha => (hE02 a (by have := roomS_ge ha; simp only [List.mem_cons, List.not_mem_nil, or_false]; omega)).1)
      have hSB : StepsC B2 r z tm0 st := hS.fr hEM (nEM _ (by decide) (by decide) (by decide) (nS _ (by omega))) (nEM _ (by decide) (by decide) (by decide) (nS _ (by omega))) (nEM _ (by decide) (by decide) (by decide) (nS _ (by omega))) (nEM _ (by decide) (by decide) (by decide) (nS _ (by omega))) (fun a ha => by
        have h1 := roomS_ge ha
        exact nEM a (by omega) (by omega) (by omega) (fun q => by have := hS_lt a q; omega))
      -- some row, for the class's own end
      obtain ⟨Mx, Cx, _, _, _, okx, _⟩ := ref B2 (hEM 197 (nEM _ (by decide) (by decide) (by decide) (nS _ (by omega)))).1 (hEM 200 (nEM _ (by decide) (by decide) (by decide) (nS _ (by omega)))).1
      obtain ⟨_, x2, x3⟩ := okx zf
      obtain ⟨xz, xR, _⟩ := row_new (z := Mx.1 201) x2 x3 okP (fun k _ => rfl)
      obtain ⟨M3, e6, hE6, _⟩ := c_Stp_takeS (d + 77) hSB r2m (xR B2 r2 bR2) xz (by omega)
      have n6 : ∀ a, a ≠ 127 → a ≠ 128 → a ≠ 129 → a ∉ [127, 128, 129] := fun a h1 h2 h3 q => by
        simp only [List.mem_cons, List.not_mem_nil, or_false] at q; omega
      have hEc : Eqx ([127, 128, 129] ++ ([100, 111, 114] ++ S)) M M3 := (hEM.mono (fun a ha => List.mem_append_right _ ha)).tr (hE6.mono (fun a ha => List.mem_append_left _ ha))
      have nEc : ∀ a, a ≠ 100 → a ≠ 111 → a ≠ 114 → a ≠ 127 → a ≠ 128 → a ≠ 129 → a ∉ S → a ∉ [127, 128, 129] ++ ([100, 111, 114] ++ S) := fun a h1 h2 h3 h4 h5 h6 h7 q => by
        rcases List.mem_append.mp q with q | q
        · exact n6 a h4 h5 h6 q
        · exact nEM a h1 h2 h3 h7 q
      have c5 : gR M3 100 5 = r2 := (eqx_R hE6 (by decide) 5).trans b5
      have cR : RoomC M3 r2 p := bR2.fr (fun a ha => (hE6 a (by have := roomS_ge ha; exact n6 a (by omega) (by omega) (by omega))).1)
      have c9 : gI M3 r2 9 = iI (p.1 0) := cR.1 9 (by decide)
      have cRun : c2 (d + 80) m_RW_room [.ref 100, .int (iI n)] M = some (.int (iI (p.1 0)), M3) := by
        rw [cEq, e3, bI_some, if_pos zf, if_neg (by decide)]
        show bV (c2 (d + 79) m_Mom_begin [.ref 111, .ref r2] B0) _ = _
        rw [e4, bV_some, e5, bV_some, b5, e6, bV_some, c5, rm_k _ r2 r2m, gb_T, c9]
      -- the reference
      obtain ⟨M', C', eM, hEM', m5, okm', _⟩ := ref M3 (hEc 197 (nEc _ (by decide) (by decide) (by decide) (by decide) (by decide) (by decide) (nS _ (by omega)))).1 (hEc 200 (nEc _ (by decide) (by decide) (by decide) (by decide) (by decide) (by decide) (nS _ (by omega)))).1
      obtain ⟨y1, y2, y3⟩ := okm' zf
      let X := wI (wI M' 197 13 (gI M' 197 11)) 197 14 (iI (-1))
      have hX : Eqx [197] M' X := eqx_wI (eqx_wI Eqx.rf (by simp)) (by simp)
      obtain ⟨M4, e7, hE7, r7⟩ := c_cpy (d + 79) (M := X) (.int (iI n)) 971 0 X (by omega) Eqx.rf (by funext q; exact (if_neg (Nat.not_lt_zero _)).symm)
      have x201 : X.1 201 = M'.1 201 := (hX 201 (by decide)).1
      have x198 : X.1 198 = M.1 198 := ((hX 198 (by decide)).1).trans (((hEM' 198 (by decide)).1).trans (hEc 198 (nEc _ (by decide) (by decide) (by decide) (by decide) (by decide) (by decide) (nS _ (by omega)))).1)
      have zk : ∀ k, k < 971 → M4.1 198 k = gI M' 201 k := fun k hk => by
        rw [r7, ← show X.1 201 k = gI M' 201 k from congrFun x201 k]; exact if_pos hk
      have zh : ∀ k, 971 ≤ k → M4.1 198 k = M.1 198 k := fun k hk => by
        rw [r7, ← congrFun x198 k]; exact if_neg (by omega)
      obtain ⟨wz, wR', wM, wA, w29, w0⟩ := row_new (z := M4.1 198) y2 y3 okP zk
      obtain ⟨M3b, e6b, hE6b, hS3b⟩ := c_Stp_takeS (d + 77) hSB r2m (wR' B2 r2 bR2) wz (by omega)
      have eM3 : M3b = M3 := c2_fun e6b e6
      rw [eM3] at hS3b
      have hE34 : Eqx [197, 198, 201] M3 M4 := ((hEM'.mono (by simp)).tr (hX.mono (by simp))).tr (hE7.mono (by simp))
      have n34 : ∀ a, a < 197 → a ∉ [197, 198, 201] := fun a h q => by
        simp only [List.mem_cons, List.not_mem_nil, or_false] at q; omega
      have hF : Eqx ([197, 198, 201] ++ ([127, 128, 129] ++ ([100, 111, 114] ++ S))) M M4 := (hEc.mono (fun a ha => List.mem_append_right _ ha)).tr (hE34.mono (fun a ha => List.mem_append_left _ ha))
      have F_mem : ∀ a, a ∈ [197, 198, 201] ++ ([127, 128, 129] ++ ([100, 111, 114] ++ S)) → a = 197 ∨ a = 198 ∨ a = 201 ∨ a = 127 ∨ a = 128 ∨ a = 129 ∨ a = 100 ∨ a = 111 ∨ a = 114 ∨ a ∈ S := fun a q => by
        rcases List.mem_append.mp q with q | q
        · simp only [List.mem_cons, List.not_mem_nil, or_false] at q; omega
        · rcases List.mem_append.mp q with q | q
          · simp only [List.mem_cons, List.not_mem_nil, or_false] at q; omega
          · rcases List.mem_append.mp q with q | q
            · simp only [List.mem_cons, List.not_mem_nil, or_false] at q; omega
            · exact Or.inr (Or.inr (Or.inr (Or.inr (Or.inr (Or.inr (Or.inr (Or.inr (Or.inr q))))))))
      have F_lt : ∀ a, a ∈ [197, 198, 201] ++ ([127, 128, 129] ++ ([100, 111, 114] ++ S)) → a = 197 ∨ a = 198 ∨ a = 201 ∨ a = 127 ∨ a = 128 ∨ a = 129 ∨ a = 100 ∨ a = 111 ∨ a = 114 ∨ (102 ≤ a ∧ a ≤ 107) ∨ (r2 ≤ a ∧ a ≤ r2 + 8) := fun a q => by
        rcases F_mem a q with h | h | h | h | h | h | h | h | h | h
        · omega
        · omega
        · omega
        · omega
        · omega
        · omega
        · omega
        · omega
        · omega
        · have := hS_lt a h; omega
      have nF : ∀ a, (a < 100 ∨ a = 101 ∨ (107 < a ∧ a < 111) ∨ (185 < a ∧ a < 197) ∨ a = 199 ∨ a = 200 ∨ 201 < a) → a ∉ [197, 198, 201] ++ ([127, 128, 129] ++ ([100, 111, 114] ++ S)) := fun a h q => by have := F_lt a q; omega
      have g7 : ∀ k, k ≠ 13 → k ≠ 14 → gI M4 197 k = gI M' 197 k := fun k h1 h2 => by
        rw [eqx_I hE7 (by decide)]
        show gI (wI (wI M' 197 13 _) 197 14 _) 197 k = _
        rw [gI_nk h2, gI_nk h1]
      refine ⟨iI (p.1 0), M3, M4, cRun, ?_, ⟨r2, tm0, st + 1, nx, 0, (p.1 25, p.1 26, p.1 27, iI 0), f, so, tn, tv, M4.1 198, hS3b.ref hE34 (by intro a ha; simp only [List.mem_cons, List.not_mem_nil, or_false] at ha; omega), by omega, (eqx_R hE34 (n34 _ (by decide)) 5).trans c5, ?_, wM, RowEq.rf _, wA, ?_, ⟨w29, fun j hj => absurd hj (Nat.not_lt_zero _)⟩, fun j hj => absurd hj (Nat.not_lt_zero _), ?_, ?_, ?_, ?_, ?_⟩, (hF 0 (nF _ (by omega))).1, (hF 1 (nF _ (by omega))).1⟩
      · show X2 (d + 79) m_Mo_room 0 [.ref 197, .int (iI n), uns] [] M3 = _
        have y1' : gI M' 197 11 = 0 := y1
        rw [eM, e_Mo_room_121, if_pos y1', if_pos y1']
        refine e7.trans ?_
        rw [x201, show M'.1 201 0 = iI (p.1 0) from (zk 0 (by decide)).symm.trans w0]
      · refine MoC.fr hm4 ?_
        rw [(hE34 111 (n34 _ (by decide))).1, (hE6 111 (by decide)).1]
        exact wI_na (by decide)
      · refine ⟨?_, hpc.2.1, ?_, by decide, fun j hj => absurd hj (Nat.not_lt_zero _)⟩
        · rw [eqx_I hE34 (n34 _ (by decide)), eqx_I hE6 (by decide)]
          show gI (wI B1 114 2 _) 114 1 = _
          rw [gI_nk (by decide), eqx_I hE4 (by decide), eqx_I hB0 (by decide), eqx_I hE12 (nS _ (by omega)), eqx_I hA (by decide)]; exact hpc.1
        · rw [eqx_I hE34 (n34 _ (by decide)), eqx_I hE6 (by decide)]
          exact gI_eq _ _ _ _
      · exact hTC.fr hF (fun a ha => by have := F_lt a ha; omega)
      · exact hTM.fr (hF 213 (nF _ (by omega))).1 (hF 214 (nF _ (by omega))).1 (hF 215 (nF _ (by omega))).2.1
      · refine hI.fr4 r2m hni hF (fun a ha => ?_) zh
        rcases F_mem a ha with h | h | h | h | h | h | h | h | h | h
        · omega
        · omega
        · omega
        · omega
        · omega
        · omega
        · omega
        · omega
        · omega
        · rcases hS_mem a h with q | q
          · omega
          · exact Or.inr (Or.inr (Or.inl q))
      · refine ⟨0, ?_, (g7 5 (by decide) (by decide)).trans m5, by decide, fun k hk => ?_⟩
        · rw [eqx_I hE34 (n34 _ (by decide)), eqx_I hE6 (by decide), eqx_I hE02 (by decide)]
          show gI M2 100 1 = _
          rw [eqx_I hE12 (nS _ (by omega))]
          exact gI_eq _ _ _ _
        · rw [eqx_I hF (nF _ (by omega)), eqx_I hF (nF _ (by omega))]
          exact t4 k hk
      · have c2' : ∀ k, gI M4 102 k = gI M2 102 k := fun k => by
          rw [eqx_I hE34 (n34 _ (by decide)), eqx_I hE6 (by decide), eqx_I hE02 (by decide)]; rfl
        refine ⟨?_, ?_⟩
        · rw [c2', ok3'.2.1, eqx_I hE7 (by decide)]
          show _ = gI (wI (wI M' 197 13 _) 197 14 _) 197 13
          rw [gI_nk (by decide), gI_eq, y1]
        · rw [c2', ok3'.2.2, eqx_I hE7 (by decide)]
          exact (gI_eq _ _ _ _).symm
    · -- no room
      obtain ⟨u1, u2⟩ := no3 zf
      have cRun : c2 (d + 80) m_RW_room [.ref 100, .int (iI n)] M = some (.int (iI (-30) - iI fl), M2) := by
        rw [cEq, e3, bI_some, if_neg zf, if_pos (by decide), u1]
      have hEc : Eqx (100 :: S) M M2 := (hA.mono (by simp)).tr (hE12.mono (fun a ha => List.mem_cons_of_mem _ ha))
      have nEc : ∀ a, a ≠ 100 → a ∉ S → a ∉ 100 :: S := fun a h1 h2 q => by
        rcases List.mem_cons.mp q with q | q
        · exact h1 q
        · exact h2 q
      obtain ⟨M', C', eM, hEM', m5, _, nom⟩ := ref M2 (hEc 197 (nEc _ (by decide) (nS _ (by omega)))).1 (hEc 200 (nEc _ (by decide) (nS _ (by omega)))).1
      obtain ⟨v1, v2⟩ := nom zf
      have w1 := (nom zf).wr zf f4
      let M4 := wI (wI M' 197 13 (gI M' 197 11)) 197 14 (gI M' 197 12)
      have hE24 : Eqx [197, 201] M2 M4 := eqx_wI (eqx_wI hEM' (by simp)) (by simp)
      have n24 : ∀ a, a ≠ 197 → a ≠ 201 → a ∉ [197, 201] := fun a h1 h2 q => by
        simp only [List.mem_cons, List.not_mem_nil, or_false] at q; omega
      have hF : Eqx ([197, 201] ++ 100 :: S) M M4 := (hEc.mono (fun a ha => List.mem_append_right _ ha)).tr (hE24.mono (fun a ha => List.mem_append_left _ ha))
      have F_mem : ∀ a, a ∈ [197, 201] ++ 100 :: S → a = 197 ∨ a = 201 ∨ a = 100 ∨ a ∈ S := fun a q => by
        rcases List.mem_append.mp q with q | q
        · simp only [List.mem_cons, List.not_mem_nil, or_false] at q; omega
        · rcases List.mem_cons.mp q with q | q
          · omega
          · exact Or.inr (Or.inr (Or.inr q))
      have F_lt : ∀ a, a ∈ [197, 201] ++ 100 :: S → a = 197 ∨ a = 201 ∨ a = 100 ∨ (102 ≤ a ∧ a ≤ 107) ∨ (r2 ≤ a ∧ a ≤ r2 + 8) := fun a q => by
        rcases F_mem a q with h | h | h | h
        · omega
        · omega
        · omega
        · have := hS_lt a h; omega
      have nF : ∀ a, (a < 100 ∨ a = 101 ∨ (107 < a ∧ a < 147) ∨ (185 < a ∧ a < 197) ∨ (197 < a ∧ a < 201) ∨ 201 < a) → a ∉ [197, 201] ++ 100 :: S := fun a h q => by have := F_lt a q; omega
      have x198 : M4.1 198 = M.1 198 := (hF 198 (nF _ (by omega))).1
      have g4 : gI M4 197 5 = iI 0 := by
        show gI (wI (wI M' 197 13 _) 197 14 _) 197 5 = _
        rw [gI_nk (by decide), gI_nk (by decide)]; exact m5
      refine ⟨iI (-30) - iI fl, M2, M4, cRun, ?_, ⟨r, tm0, st, nx, nd, m, f, so, tn, tv, z, ?_, by omega, ?_, hm.fr (hF 111 (nF _ (by omega))).1, okm, by rw [x198]; exact rq, by rw [x198]; exact hmo, hpc.fr hF (fun a ha => by have := F_lt a ha; omega), by rw [x198]; exact hpm, hof, ?_, ?_, ?_, ?_, ?_⟩, (hF 0 (nF _ (by omega))).1, (hF 1 (nF _ (by omega))).1⟩
      · show X2 (d + 79) m_Mo_room 0 [.ref 197, .int (iI n), uns] [] M2 = _
        rw [eM, e_Mo_room_121, if_neg w1, if_neg w1]
        show some (Value.int (iI (-30) - gI M' 197 11), M4) = _
        rw [v1]
      · exact hS.fr hF (nF _ (by omega)) (nF _ (by omega)) (nF _ (by omega)) (nF _ (by omega)) (fun a ha q => by
          have h1 := roomS_ge ha
          have := F_lt a q
          omega)
      · rw [eqx_R hE24 (by decide), eqx_R hE12 (nS _ (by omega))]; exact h5
      · exact hTC.fr hF (fun a ha => by have := F_lt a ha; omega)
      · exact hTM.fr (hF 213 (nF _ (by omega))).1 (hF 214 (nF _ (by omega))).1 (hF 215 (nF _ (by omega))).2.1
      · refine hI.fr4 r2m hni hF (fun a ha => ?_) (fun k _ => by rw [x198])
        rcases F_mem a ha with h | h | h | h
        · omega
        · omega
        · omega
        · rcases hS_mem a h with q | q
          · omega
          · exact Or.inr (Or.inr (Or.inl q))
      · refine ⟨0, ?_, g4, by decide, fun k hk => ?_⟩
        · rw [eqx_I hE24 (by decide), eqx_I hE12 (nS _ (by omega))]
          exact gI_eq _ _ _ _
        · rw [eqx_I hF (nF _ (by omega)), eqx_I hF (nF _ (by omega))]
          exact t4 k hk
      · refine ⟨?_, ?_⟩
        · rw [eqx_I hE24 (by decide), u1]
          show _ = gI (wI (wI M' 197 13 _) 197 14 _) 197 13
          rw [gI_nk (by decide), gI_eq, v1]
        · rw [eqx_I hE24 (by decide), u2]
          show _ = gI (wI (wI M' 197 13 _) 197 14 _) 197 14
          rw [gI_eq, v2]
  · refine ⟨iI (-3), M, wI M 197 0 (iI 0), ?_, ?_, fin⟩
    · show X2 (d + 79) m_RW_room 0 [.ref 100, .int (iI x), uns] [] M = _
      rw [e_RW_room_0]
      by_cases q : x < 0
      · rw [if_pos (by rw [iI_lt0 xa xb]; exact q)]
      · rw [if_neg (by rw [iI_lt0 xa xb]; exact q), t1, if_pos (by rw [iI_lt (by omega) (by omega) xa xb]; omega)]
    · show X2 (d + 79) m_Mo_room 0 [.ref 197, .int (iI x), uns] [] M = _
      rw [e_Mo_room_0, t2, c_Mo_within, bI_some, i2l_iI xa xb, i2l_iI (by omega) (by omega), lI_toInt (by omega) (by omega), lI_toInt (by omega) (by omega), lI_toInt (by omega) (by omega), decide_eq_false hx, b2i_f, if_pos (show iI 0 = 0 from rfl)]
end C1
