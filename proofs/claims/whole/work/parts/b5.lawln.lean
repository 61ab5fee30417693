/-! THE ROOM'S TEXT: a law's line. -/
section B5
variable {T : Nat → Nat} {n N r : Nat}
theorem w_Unit {D : Nat} (hD : 5 ≤ D) {M : Mem} (h : Wr M) (x : Int32) : c2 D m_Mo_readUnit [.ref 197, .int x] M = some (.null, M) := by
  obtain ⟨d, rfl⟩ := Nat.exists_eq_add_of_le' hD
  show X2 (d + 4) m_Mo_readUnit 0 [.ref 197, .int x, uns] [] M = _
  rw [e_Mo_readUnit_0, w_is (by omega) h, bI_some, if_pos (by decide), w_is (by omega) h, bI_some, if_pos (by decide), w_Sum (by omega) h, bV_some]
  exact gV_w (by omega) h
theorem w_Truth {D : Nat} (hD : 7 ≤ D) {M : Mem} (h : Wr M) (x : Int32) : c2 D m_Mo_readTruth [.ref 197, .int x] M = some (.null, M) := by
  obtain ⟨d, rfl⟩ := Nat.exists_eq_add_of_le' hD
  have e1 : c2 (d + 6) m_Mo_readBoth [.ref 197, .int x] M = some (.null, M) := by
    show X2 (d + 5) m_Mo_readBoth 0 [.ref 197, .int x] [] M = _
    rw [e_Mo_readBoth_0, w_Unit (by omega) h, bV_some, e_Mo_readBoth_5, w_eat (by omega) h, bI_some, if_pos (by decide)]
  show X2 (d + 6) m_Mo_readTruth 0 [.ref 197, .int x] [] M = _
  rw [e_Mo_readTruth_0, e1, bV_some, e_Mo_readTruth_5, w_eat (by omega) h, bI_some, if_pos (by decide)]
theorem MJ.p15 {j : Nat} {M : Mem} (h : MJ T n j M) (v : Int32) : MJ T n j (wI M 197 15 v) := by
  unfold MJ AtM TpM at h ⊢
  rw [gI_nk (by decide), gI_nk (by decide), gI_nk (by decide), gI_nk (by decide), gI_nk (by decide), gI_nk (by decide)]
  refine ⟨⟨⟨h.1.1.1, h.1.1.2.1, fun k hk => ?_⟩, h.1.2⟩, h.2⟩
  rw [gI_na (by decide)]
  exact h.1.1.2.2 k hk
def upL (lw : Nat → List Nat) (i : Nat) (L : List Nat) : Nat → List Nat := fun k => if k = i then L else lw k
theorem c_readLaw {D : Nat} (hD : 33 ≤ D) (hr : r ∈ rooms) {a t q0 : Nat} (ha : a ∈ laws) (ht : t ≤ 1) {rd : Rd} {p : Ps} (hc : CR T n N a t (c2 (D - 1) m_LR_readTruth [.ref 107, .int (iI ((0 : Nat) : Int))]) q0 rd) {M : Mem} (hM : LnC T n N r q0 p M) : ∃ M', c2 D m_LR_readLaw [.ref 107, .ref 102, .ref a, .int (iI t)] M = some (.int (iI (if rd.1 = 0 then 1 else 0)), M') ∧ Eqx [102, 107, a, a + 1] M M' ∧ (rd.1 = 0 → CAt T n N a t rd.2.1 0 rd.2.2 M') ∧ (rd.1 ≠ 0 → FC rd.1 rd.2.1 M') := by
  obtain ⟨d, rfl⟩ : ∃ d, D = d + 1 := ⟨D - 1, by omega⟩
  have hl := laws_lt a ha
  have s1 : Nat.beq (sR 107 0) 0 = true := rfl
  have s2 : Nat.beq (sR 107 1) 0 = true := rfl
  let A := wI (wI (wR (wR M 107 0 102) 107 1 a) 107 2 (iI t)) a 2 (iI 0)
  have g0 : gR A 107 0 = 102 := by
    unfold gR; rw [s1]
    show up2 (up2 M.2.2 107 0 102) 107 1 a 107 0 = 102
    unfold up2; rw [if_pos rfl, if_neg (by decide), if_pos rfl, if_pos rfl]
  have g1 : gR A 107 1 = a := by
    unfold gR; rw [s2]
    show up2 (up2 M.2.2 107 0 102) 107 1 a 107 1 = a
    unfold up2; rw [if_pos rfl, if_pos rfl]
  have hA : Eqx [102, 107, a, a + 1] M A := eqx_wI (eqx_wI (eqx_wR (eqx_wR Eqx.rf (by simp)) (by simp)) (by simp)) (by simp)
  have hA2 : ∀ b, b ≠ 107 → b ≠ a → A.1 b = M.1 b := fun b b1 b2 => ((eqx_wI (eqx_wI (eqx_wR (eqx_wR Eqx.rf (by simp)) (by simp)) (by simp)) (by simp) : Eqx [107, a] M A) b (by simp [b1, b2])).1
  have at0 : CAt T n N a t q0 0 [] A := ⟨hM.1.fr (hA2 102 (by decide) (by omega)) (hA2 103 (by decide) (by omega)) (hA2 104 (by decide) (by omega)) (hA2 105 (by decide) (by omega)), g0, g1, by
    show gI (wI (wI (wR (wR M 107 0 102) 107 1 a) 107 2 (iI t)) a 2 (iI 0)) 107 2 = iI t
    rw [gI_na (by omega), gI_eq], gI_eq _ _ _ _, trivial, Nat.zero_le _⟩
  obtain ⟨M', e, hE, ok, no⟩ := hc 0 A [] at0
  have e' : c2 d m_LR_readTruth [.ref 107, .int (iI 0)] A = some (.int (iI (if rd.1 = 0 then 1 else 0)), M') := e
  have ec : c2 d m_Lw_clear [.ref a] (wI (wR (wR M 107 0 102) 107 1 a) 107 2 (iI t)) = some (.null, A) := by
    obtain ⟨d2, rfl⟩ : ∃ d2, d = d2 + 1 := ⟨d - 1, by omega⟩
    show X2 d2 m_Lw_clear 0 [.ref a] [] _ = _
    rw [e_Lw_clear_0, lw_k _ a ha, gb_T]
  have bt : (decide (iI (t : Int) = 0) || decide (iI (t : Int) = 1)) = true := by
    rcases (show t = 0 ∨ t = 1 by omega) with rfl | rfl <;> decide
  refine ⟨M', ?_, hA.tr (hE.mono (by simp)), ok, no⟩
  show X2 d m_LR_readLaw 0 [.ref 107, .ref 102, .ref a, .int (iI t)] [] M = _
  rw [e_LR_readLaw_0, bt, gb_T, lw_k _ a ha]
  show gb true _ = _
  rw [gb_T, ec, bV_some, e', bI_some]
  split <;> rfl
theorem al1 : ∀ k, alw 1 k = true → alT k = true := fun k h => by
  have : k ≤ 6 := by
    unfold alw at h
    simp only [Bool.or_eq_true, Bool.and_eq_true, decide_eq_true_eq] at h
    omega
  exact Nat.ble_eq.mpr this
theorem al0 : ∀ k, alw 0 k = true → alG k = true := fun k h => by
  have : k ≤ 1 ∨ 7 ≤ k := by
    unfold alw at h
    simp only [Bool.or_eq_true, Bool.and_eq_true, decide_eq_true_eq] at h
    omega
  unfold alG
  rcases this with q | q
  · rw [show Nat.ble k 1 = true from Nat.ble_eq.mpr q]; rfl
  · rw [show Nat.ble 7 k = true from Nat.ble_eq.mpr q]; exact Bool.or_true _
theorem l_9 {p : Ps} {j : Nat} (hN : TN T n N) (hr : r ∈ rooms) (hp : OkP p) (hj : j < N) (hc : KK T n j = 9) : LQ T n N r p j := by
  have hN1 := hN.1
  have hj1 := hN.2 j hj (by omega)
  have kk : ∀ M, isK O2 M 102 19 = true := fun _ => rfl
  have hl := rm_lt r hr
  have ha : r + 4 ∈ laws := rm_l4 r hr
  have isl1 : isl (KK T n j) = true := by rw [hc]; decide
  have sw : ∀ d M, LnC T n N r (j + 1) p M → swB d (iI (kcls (KK T n j))) M = bI (c2 d m_Tok_pass [.ref 102, .int (iI 58)] M) fun r31 M30 => if r31 = 0 then some (.int (iI 0), M30) else gb (isK O2 M30 (gR M30 106 2) 16) (bI (c2 d m_LR_readLaw [.ref 107, .ref (gR M30 106 1), .ref (gR M30 (gR M30 106 2) 13), .int (iI 1)] M30) fun r33 M32 => if r33 = 0 then some (.int (iI 0), M32) else some (.int (iI 1), M32)) := fun d M hM => by
    rw [hc, show iI ((kcls 9 : Nat) : Int) = iI 14 from rfl]
    unfold swB
    rw [if_neg (show ¬ iI 14 = iI 1 by decide), if_neg (show ¬ iI 14 = iI 2 by decide), if_neg (show ¬ iI 14 = iI 3 by decide), if_neg (show ¬ iI 14 = iI 4 by decide), if_neg (show ¬ iI 14 = iI 5 by decide), if_neg (show ¬ iI 14 = iI 6 by decide), if_neg (show ¬ iI 14 = iI 7 by decide), if_neg (show ¬ iI 14 = iI 8 by decide), if_neg (show ¬ iI 14 = iI 9 by decide), if_neg (show ¬ iI 14 = iI 10 by decide), if_neg (show ¬ iI 14 = iI 11 by decide), if_neg (show ¬ iI 14 = iI 12 by decide), if_neg (show ¬ iI 14 = iI 13 by decide), if_pos rfl, hM.2.1, kk]
    rfl
  -- the reference, up to the colon
  have mo : ∀ d M C, 34 ≤ d → LnM T n j p C M → ∃ M0, OM M M0 ∧ LnM T n (j + 1) p C M0 ∧ c2 (d + 1 + 1) m_Mo_readLine [.ref 197] M = bV (bI (c2 d m_Mo_eats [.ref 197, .int (iI ((31 : Nat) : Int))] M0) fun r3 M2 => if r3 = 0 then bV (c2 d m_Mo_fails [.ref 197, .int (iI 2)] M2) fun M4 => X2 d m_Mo_readLaw 18 [.ref 197, .int (iI 0), uns] [] M4 else X2 d m_Mo_readLaw 18 [.ref 197, .int (iI 0), uns] [] M2) fun M21 => some (.null, M21) := fun d M C hd hM => by
    obtain ⟨M0, e0, hO0, hF0, k0⟩ := k_nx (D := d) (by omega) hM.1
    refine ⟨M0, hO0, hM.nx2 hF0 k0 (by omega) (by omega), ?_⟩
    have er : c2 (d + 1) m_Mo_readLaw [.ref 197, .int (iI 0)] M = X2 d m_Mo_readLaw 0 [.ref 197, .int (iI 0), uns] [] M := rfl
    rw [m_line9 (by omega) hM hc, er, e_Mo_readLaw_0, e0, bV_some]
    rfl
  by_cases c31 : KK T n (j + 1) = 31
  · have hj2 := hN.2 (j + 1) hj1 (by omega)
    obtain ⟨rd, r4, ro, rc, rm⟩ := q_law (T := T) (n := n) (N := N) (t := 1) hN ha (by decide) al1 (j + 1 + 1) hj2
    have clC : ∀ d M, 33 ≤ d → LnC T n N r (j + 1) p M → ∃ M1, Eqx [102] M M1 ∧ LnC T n N r (j + 1 + 1) p M1 ∧ swB d (iI (kcls (KK T n j))) M = bI (c2 d m_LR_readLaw [.ref 107, .ref 102, .ref (r + 4), .int (iI ((1 : Nat) : Int))] M1) fun r33 M32 => if r33 = 0 then some (.int (iI 0), M32) else some (.int (iI 1), M32) := fun d M hd hM => by
      obtain ⟨M1, e1, hE1, k1⟩ := (j_pass (D := d) (c := 31) (x := 58) (by omega) hM.1 (by decide) (by decide) (by decide)).1 c31
      have l1 := hM.fr2 hr hE1 k1
      refine ⟨M1, hE1, l1, ?_⟩
      rw [sw d M hM, e1, bI_some, if_neg (by decide), l1.2.2.1, rm_k _ r hr, gb_T, l1.2.1, rm_13 _ r hr]
      rfl
    have clM : ∀ d M C, 34 ≤ d → LnM T n j p C M → ∃ M1, OM M M1 ∧ LnM T n (j + 1 + 1) p C M1 ∧ c2 (d + 1 + 1) m_Mo_readLine [.ref 197] M = bV (X2 d m_Mo_readLaw 18 [.ref 197, .int (iI 0), uns] [] M1) fun M21 => some (.null, M21) := fun d M C hd hM => by
      obtain ⟨M0, hO0, l0, e0⟩ := mo d M C hd hM
      obtain ⟨M1, e1, hO1, hF1, k1⟩ := (k_eat (D := d) (by omega) l0.1 (by decide)).1 c31
      refine ⟨M1, hO0.tr hO1, l0.nx2 hF1 k1 (by omega) (by omega), ?_⟩
      rw [e0, e1, bI_some, if_neg (by decide)]
    have mAt : ∀ C M, LnM T n (j + 1 + 1) p C M → MAt T n 1 (j + 1 + 1) 0 C (wI M 197 15 (iI 0)) := fun C M hM => ⟨hM.1.p15 _, by rw [gI_eq]; rfl, by rw [gI_na (by decide)]; exact hM.2.1.2.2.1, hM.2.1.2.2.2.fr (fun k _ _ => gI_na (by decide)), hM.2.2.1, hM.2.2.2⟩
    by_cases z : rd.1 = 0
    · obtain ⟨o1, o2, e18⟩ := ro z
      have ln := e18.2.1
      have nL : rd.2.2 ≠ [] := fun e => by rw [e] at ln; exact absurd ln (by decide)
      refine ⟨0, rd.2.1, (p.1, upL p.2 0 rd.2.2), Nat.zero_le _, fun _ => ⟨by omega, o2, ?_, rfl⟩, fun D hD => ?_, fun D hD M C hM => ?_⟩
      · obtain ⟨pa, pk, pp, pt, pg⟩ := hp
        exact ⟨pa, pk, pp, fun _ => e18, pg⟩
      · obtain ⟨d, rfl⟩ : ∃ d, D = d + 1 := ⟨D - 1, by omega⟩
        refine LiC.ln (by omega) hr hp isl1 (fun e => by omega) (fun M hM => ?_)
        obtain ⟨M1, hE1, l1, e1⟩ := clC d M (by omega) hM
        obtain ⟨M2, e2, hE2, ok2, no2⟩ := c_readLaw (D := d) (by omega) hr ha (by decide) (rc (d - 1) (by omega)) l1
        have k2 := ok2 z
        have nE : ∀ b, b ≠ 102 → b ≠ 107 → b ≠ r + 4 → b ≠ r + 4 + 1 → b ∉ [102, 107, r + 4, r + 4 + 1] := fun b b1 b2 b3 b4 => by simp [b1, b2]; omega
        have fE : ∀ i k, i ≠ 4 → i ≠ 4 + 1 → gI M2 (r + i) k = gI M1 (r + i) k := fun i k a b => eqx_I hE2 (nE _ (by omega) (by omega) (by omega) (by omega)) k
        have fE2 : ∀ i, i ≠ 4 → i ≠ 4 + 1 → M2.1 (r + i) = M1.1 (r + i) := fun i a b => (hE2 _ (nE _ (by omega) (by omega) (by omega) (by omega))).1
        obtain ⟨h1, h2, h3, h4, h5, h6⟩ := l1.2.2.2
        refine ⟨M2, ?_, (eqW hE1).tr (hE2.mono (by simp [roomW, roomS])), fun _ => ⟨k2.1, (eqx_R hE2 (nE _ (by decide) (by decide) (by omega) (by omega)) 1).trans l1.2.1, (eqx_R hE2 (nE _ (by decide) (by decide) (by omega) (by omega)) 2).trans l1.2.2.1, ?_⟩, fun x => absurd rfl x⟩
        · rw [e1, e2, bI_some, if_pos z, if_neg (by decide)]
          rfl
        · refine ⟨fun k hk => (fE 0 k (by decide) (by decide)).trans (h1 k hk), fun c hc => (fE 1 c (by decide) (by decide)).trans (h2 c hc), fun c hc => (fE 2 c (by decide) (by decide)).trans (h3 c hc), fun t ht => (fE 3 t (by decide) (by decide)).trans (h4 t ht), ⟨k2.2.2.2.2.1, k2.2.2.2.2.2.1⟩, (fE 7 2 (by decide) (by decide)).trans h6.1, by rw [fE2 8 (by decide) (by decide)]; exact h6.2⟩
      · obtain ⟨d, rfl⟩ : ∃ d, D = d + 1 + 1 := ⟨D - 2, by omega⟩
        obtain ⟨M1, hO1, l1, e1⟩ := clM d M C (by omega) hM
        obtain ⟨M2, e2, hO2, hF2, ok2, no2⟩ := rm d (by omega) 0 _ C (mAt C M1 l1)
        have k2 := ok2 z
        have e2' : c2 d m_Mo_readTruth [.ref 197, .int (iI 0)] (wI M1 197 15 (iI 0)) = some (.null, M2) := e2
        have g70 : gI M2 201 70 = iI (C ++ rd.2.2).length := k2.2.2.1
        have c70 : gI M1 201 70 = iI C.length := l1.2.1.2.2.1
        have hF : ∀ k, k < 70 → gI M2 201 k = gI M1 201 k := fun k hk => (hF2 k hk).trans (gI_na (by decide))
        have cl := k2.2.2.2.2.1
        refine ⟨wI (wI (wI M2 201 6 (iI 1)) 201 8 (iI C.length)) 201 10 (iI rd.2.2.length), C ++ rd.2.2, ?_, ?_, fun _ => ?_, fun x => absurd rfl x⟩
        · rw [e1, e_Mo_readLaw_18, e2', bV_some, if_pos k2.1.w, iI_add, iI_add, iI_add, inb_ok (by decide) (by decide) (by decide), gb_T, inb_ok (by decide) (by decide) (by decide), gb_T, inb_ok (by decide) (by decide) (by decide), gb_T, ix_eq (z := 6 + 0) (n := 6) (by decide) (by decide), ix_eq (z := 8 + 0) (n := 8) (by decide) (by decide), ix_eq (z := 10 + 0) (n := 10) (by decide) (by decide), gI_nk (by decide), gI_nk (by decide), g70, c70, iI_sub, List.length_append, show (((C.length + rd.2.2.length : Nat) : Int) - (C.length : Int)) = (rd.2.2.length : Int) by omega, bV_some]
        · have o15 : OM2 M1 (wI M1 197 15 (iI 0)) := ⟨eqx_wI Eqx.rf (by simp), fun k hk => gI_nk (by omega)⟩
          exact (((hO1.o2.tr (o15.tr hO2.o2)).put _ _).put _ _).put _ _
        · have q : Eqx [201] M2 (wI (wI (wI M2 201 6 (iI 1)) 201 8 (iI C.length)) 201 10 (iI rd.2.2.length)) := eqx_wI (eqx_wI (eqx_wI Eqx.rf (by simp)) (by simp)) (by simp)
          have nk : ∀ k, k ≠ 6 → k ≠ 8 → k ≠ 10 → gI (wI (wI (wI M2 201 6 (iI 1)) 201 8 (iI C.length)) 201 10 (iI rd.2.2.length)) 201 k = gI M2 201 k := fun k a b c => by rw [gI_nk c, gI_nk b, gI_nk a]
          obtain ⟨h1, h2, h3, h4⟩ := l1.2.1
          refine ⟨k2.1.fr (q 197 (by decide)).1 (q 200 (by decide)).1, ⟨fun k hk => ?_, fun i hi => ?_, (nk 70 (by decide) (by decide) (by decide)).trans g70, k2.2.2.2.1.fr (fun k k1 _ => nk k (by omega) (by omega) (by omega))⟩, by omega, k2.2.2.2.2.2⟩
          · have b5 : p.1 3 ≤ 4 := hp.1.2.2.2.2.1
            have hk' : rix (p.1 3) k := hk
            have kb : k < 70 ∧ k ≠ 6 ∧ k ≠ 8 ∧ k ≠ 10 := by unfold rix at hk'; omega
            rw [nk k kb.2.1 kb.2.2.1 kb.2.2.2, hF k kb.1]; exact h1 k hk'
          · show _ = iI (if upL p.2 0 rd.2.2 i = [] then 0 else 1) ∧ (upL p.2 0 rd.2.2 i ≠ [] → _ = iI (upL p.2 0 rd.2.2 i).length ∧ ∃ C1 C2, C ++ rd.2.2 = C1 ++ (upL p.2 0 rd.2.2 i ++ C2) ∧ _)
            rcases (show i = 0 ∨ i = 1 by omega) with rfl | rfl
            · have eu : upL p.2 0 rd.2.2 0 = rd.2.2 := if_pos rfl
              rw [eu, if_neg nL]
              refine ⟨?_, fun _ => ⟨gI_eq _ _ _ _, C, [], by rw [List.append_nil], ?_⟩⟩
              · rw [gI_nk (by decide), gI_nk (by decide), gI_eq]
              · rw [gI_nk (by decide), gI_eq]
            · have eu : upL p.2 0 rd.2.2 1 = p.2 1 := if_neg (by decide)
              rw [eu, nk _ (by decide) (by decide) (by decide), nk _ (by decide) (by decide) (by decide), nk _ (by decide) (by decide) (by decide), hF _ (by decide), hF _ (by decide), hF _ (by decide)]
              obtain ⟨y1, y2⟩ := h2 1 (by decide)
              refine ⟨y1, fun w => ?_⟩
              obtain ⟨y3, C1, C2, y4, y5⟩ := y2 w
              exact ⟨y3, C1, C2 ++ rd.2.2, by rw [y4, List.append_assoc, List.append_assoc], y5⟩
    · refine ⟨rd.1, rd.2.1, p, r4, fun x => absurd x z, fun D hD => ?_, fun D hD M C hM => ?_⟩
      · obtain ⟨d, rfl⟩ : ∃ d, D = d + 1 := ⟨D - 1, by omega⟩
        refine LiC.ln (by omega) hr hp isl1 (fun e => by omega) (fun M hM => ?_)
        obtain ⟨M1, hE1, l1, e1⟩ := clC d M (by omega) hM
        obtain ⟨M2, e2, hE2, ok2, no2⟩ := c_readLaw (D := d) (by omega) hr ha (by decide) (rc (d - 1) (by omega)) l1
        refine ⟨M2, ?_, (eqW hE1).tr (hE2.mono (by simp [roomW, roomS])), fun x => absurd x z, no2⟩
        rw [e1, e2, bI_some, if_neg z, if_pos (by decide)]
      · obtain ⟨d, rfl⟩ : ∃ d, D = d + 1 + 1 := ⟨D - 2, by omega⟩
        obtain ⟨M1, hO1, l1, e1⟩ := clM d M C (by omega) hM
        obtain ⟨M2, e2, hO2, hF2, ok2, no2⟩ := rm d (by omega) 0 _ C (mAt C M1 l1)
        have e2' : c2 d m_Mo_readTruth [.ref 197, .int (iI 0)] (wI M1 197 15 (iI 0)) = some (.null, M2) := e2
        have w2 := (no2 z).wr z r4
        have o15 : OM2 M1 (wI M1 197 15 (iI 0)) := ⟨eqx_wI Eqx.rf (by simp), fun k hk => gI_nk (by omega)⟩
        refine ⟨M2, C, ?_, hO1.o2.tr (o15.tr hO2.o2), fun x => absurd x z, no2⟩
        rw [e1, e_Mo_readLaw_18, e2', bV_some, if_neg w2, bV_some]
  · have z := ff_rng T n (j + 1) (why := 2) (by decide) (by decide)
    refine ⟨ff T n (j + 1) 2, SS T n (j + 1), p, z.2, fun x => absurd x z.1, fun D hD => ?_, fun D hD M C hM => ?_⟩
    · obtain ⟨d, rfl⟩ : ∃ d, D = d + 1 := ⟨D - 1, by omega⟩
      refine LiC.ln (by omega) hr hp isl1 (fun e => by omega) (fun M hM => ?_)
      obtain ⟨M1, e1, hE1, k1⟩ := (j_pass (D := d) (c := 31) (x := 58) (by omega) hM.1 (by decide) (by decide) (by decide)).2 c31
      refine ⟨M1, ?_, eqW hE1, fun x => absurd x z.1, fun _ => k1⟩
      rw [sw d M hM, e1, bI_some, if_pos (by decide), if_neg z.1]
    · obtain ⟨d, rfl⟩ : ∃ d, D = d + 1 + 1 := ⟨D - 2, by omega⟩
      obtain ⟨M0, hO0, l0, e0⟩ := mo d M C (by omega) hM
      obtain ⟨M1, e1, hO1, hF1, k1⟩ := k_fl (D := d) (by omega) l0.1 2
      have w1 : Wr (wI M1 197 15 (iI 0)) := by
        unfold Wr; rw [gI_nk (by decide)]; exact k1.wr z.1 z.2
      have o15 : OM2 M1 (wI M1 197 15 (iI 0)) := ⟨eqx_wI Eqx.rf (by simp), fun k hk => gI_nk (by omega)⟩
      refine ⟨wI M1 197 15 (iI 0), C, ?_, (hO0.o2.tr hO1.o2).tr o15, fun x => absurd x z.1, fun _ => ⟨(gI_nk (by decide)).trans k1.1, (gI_nk (by decide)).trans k1.2⟩⟩
      rw [e0, (k_eat (by omega) l0.1 (by decide)).2 c31, bI_some, if_pos (by decide), show iI 2 = iI ((2 : Nat) : Int) from rfl, e1, bV_some, e_Mo_readLaw_18, w_Truth (by omega) w1, bV_some, if_neg w1, bV_some]
theorem l_10 {p : Ps} {j : Nat} (hN : TN T n N) (hr : r ∈ rooms) (hp : OkP p) (hj : j < N) (hc : KK T n j = 10) : LQ T n N r p j := by
  have hN1 := hN.1
  have hj1 := hN.2 j hj (by omega)
  have kk : ∀ M, isK O2 M 102 19 = true := fun _ => rfl
  have hl := rm_lt r hr
  have ha : r + 7 ∈ laws := rm_l7 r hr
  have isl1 : isl (KK T n j) = true := by rw [hc]; decide
  have sw : ∀ d M, LnC T n N r (j + 1) p M → swB d (iI (kcls (KK T n j))) M = bI (c2 d m_Tok_pass [.ref 102, .int (iI 58)] M) fun r31 M30 => if r31 = 0 then some (.int (iI 0), M30) else gb (isK O2 M30 (gR M30 106 2) 16) (bI (c2 d m_LR_readLaw [.ref 107, .ref (gR M30 106 1), .ref (gR M30 (gR M30 106 2) 14), .int (iI 0)] M30) fun r33 M32 => if r33 = 0 then some (.int (iI 0), M32) else some (.int (iI 1), M32)) := fun d M hM => by
    rw [hc, show iI ((kcls 10 : Nat) : Int) = iI 15 from rfl]
    unfold swB
    rw [if_neg (show ¬ iI 15 = iI 1 by decide), if_neg (show ¬ iI 15 = iI 2 by decide), if_neg (show ¬ iI 15 = iI 3 by decide), if_neg (show ¬ iI 15 = iI 4 by decide), if_neg (show ¬ iI 15 = iI 5 by decide), if_neg (show ¬ iI 15 = iI 6 by decide), if_neg (show ¬ iI 15 = iI 7 by decide), if_neg (show ¬ iI 15 = iI 8 by decide), if_neg (show ¬ iI 15 = iI 9 by decide), if_neg (show ¬ iI 15 = iI 10 by decide), if_neg (show ¬ iI 15 = iI 11 by decide), if_neg (show ¬ iI 15 = iI 12 by decide), if_neg (show ¬ iI 15 = iI 13 by decide), if_neg (show ¬ iI 15 = iI 14 by decide), if_pos rfl, hM.2.1, kk]
    rfl
  -- the reference, up to the colon
  have mo : ∀ d M C, 34 ≤ d → LnM T n j p C M → ∃ M0, OM M M0 ∧ LnM T n (j + 1) p C M0 ∧ c2 (d + 1 + 1) m_Mo_readLine [.ref 197] M = bV (bI (c2 d m_Mo_eats [.ref 197, .int (iI ((31 : Nat) : Int))] M0) fun r3 M2 => if r3 = 0 then bV (c2 d m_Mo_fails [.ref 197, .int (iI 2)] M2) fun M4 => X2 d m_Mo_readLaw 18 [.ref 197, .int (iI 1), uns] [] M4 else X2 d m_Mo_readLaw 18 [.ref 197, .int (iI 1), uns] [] M2) fun M21 => some (.null, M21) := fun d M C hd hM => by
    obtain ⟨M0, e0, hO0, hF0, k0⟩ := k_nx (D := d) (by omega) hM.1
    refine ⟨M0, hO0, hM.nx2 hF0 k0 (by omega) (by omega), ?_⟩
    have er : c2 (d + 1) m_Mo_readLaw [.ref 197, .int (iI 1)] M = X2 d m_Mo_readLaw 0 [.ref 197, .int (iI 1), uns] [] M := rfl
    rw [m_line10 (by omega) hM hc, er, e_Mo_readLaw_0, e0, bV_some]
    rfl
  by_cases c31 : KK T n (j + 1) = 31
  · have hj2 := hN.2 (j + 1) hj1 (by omega)
    obtain ⟨rd, r4, ro, rc, rm⟩ := q_law (T := T) (n := n) (N := N) (t := 0) hN ha (by decide) al0 (j + 1 + 1) hj2
    have clC : ∀ d M, 33 ≤ d → LnC T n N r (j + 1) p M → ∃ M1, Eqx [102] M M1 ∧ LnC T n N r (j + 1 + 1) p M1 ∧ swB d (iI (kcls (KK T n j))) M = bI (c2 d m_LR_readLaw [.ref 107, .ref 102, .ref (r + 7), .int (iI ((0 : Nat) : Int))] M1) fun r33 M32 => if r33 = 0 then some (.int (iI 0), M32) else some (.int (iI 1), M32) := fun d M hd hM => by
      obtain ⟨M1, e1, hE1, k1⟩ := (j_pass (D := d) (c := 31) (x := 58) (by omega) hM.1 (by decide) (by decide) (by decide)).1 c31
      have l1 := hM.fr2 hr hE1 k1
      refine ⟨M1, hE1, l1, ?_⟩
      rw [sw d M hM, e1, bI_some, if_neg (by decide), l1.2.2.1, rm_k _ r hr, gb_T, l1.2.1, rm_14 _ r hr]
      rfl
    have clM : ∀ d M C, 34 ≤ d → LnM T n j p C M → ∃ M1, OM M M1 ∧ LnM T n (j + 1 + 1) p C M1 ∧ c2 (d + 1 + 1) m_Mo_readLine [.ref 197] M = bV (X2 d m_Mo_readLaw 18 [.ref 197, .int (iI 1), uns] [] M1) fun M21 => some (.null, M21) := fun d M C hd hM => by
      obtain ⟨M0, hO0, l0, e0⟩ := mo d M C hd hM
      obtain ⟨M1, e1, hO1, hF1, k1⟩ := (k_eat (D := d) (by omega) l0.1 (by decide)).1 c31
      refine ⟨M1, hO0.tr hO1, l0.nx2 hF1 k1 (by omega) (by omega), ?_⟩
      rw [e0, e1, bI_some, if_neg (by decide)]
    have mAt : ∀ C M, LnM T n (j + 1 + 1) p C M → MAt T n 0 (j + 1 + 1) 0 C (wI M 197 15 (iI 1)) := fun C M hM => ⟨hM.1.p15 _, by rw [gI_eq]; rfl, by rw [gI_na (by decide)]; exact hM.2.1.2.2.1, hM.2.1.2.2.2.fr (fun k _ _ => gI_na (by decide)), hM.2.2.1, hM.2.2.2⟩
    by_cases z : rd.1 = 0
    · obtain ⟨o1, o2, e18⟩ := ro z
      have ln := e18.2.1
      have nL : rd.2.2 ≠ [] := fun e => by rw [e] at ln; exact absurd ln (by decide)
      refine ⟨0, rd.2.1, (p.1, upL p.2 1 rd.2.2), Nat.zero_le _, fun _ => ⟨by omega, o2, ?_, rfl⟩, fun D hD => ?_, fun D hD M C hM => ?_⟩
      · obtain ⟨pa, pk, pp, pt, pg⟩ := hp
        exact ⟨pa, pk, pp, pt, fun _ => e18⟩
      · obtain ⟨d, rfl⟩ : ∃ d, D = d + 1 := ⟨D - 1, by omega⟩
        refine LiC.ln (by omega) hr hp isl1 (fun e => by omega) (fun M hM => ?_)
        obtain ⟨M1, hE1, l1, e1⟩ := clC d M (by omega) hM
        obtain ⟨M2, e2, hE2, ok2, no2⟩ := c_readLaw (D := d) (by omega) hr ha (by decide) (rc (d - 1) (by omega)) l1
        have k2 := ok2 z
        have nE : ∀ b, b ≠ 102 → b ≠ 107 → b ≠ r + 7 → b ≠ r + 7 + 1 → b ∉ [102, 107, r + 7, r + 7 + 1] := fun b b1 b2 b3 b4 => by simp [b1, b2]; omega
        have fE : ∀ i k, i ≠ 7 → i ≠ 7 + 1 → gI M2 (r + i) k = gI M1 (r + i) k := fun i k a b => eqx_I hE2 (nE _ (by omega) (by omega) (by omega) (by omega)) k
        have fE2 : ∀ i, i ≠ 7 → i ≠ 7 + 1 → M2.1 (r + i) = M1.1 (r + i) := fun i a b => (hE2 _ (nE _ (by omega) (by omega) (by omega) (by omega))).1
        obtain ⟨h1, h2, h3, h4, h5, h6⟩ := l1.2.2.2
        refine ⟨M2, ?_, (eqW hE1).tr (hE2.mono (by simp [roomW, roomS])), fun _ => ⟨k2.1, (eqx_R hE2 (nE _ (by decide) (by decide) (by omega) (by omega)) 1).trans l1.2.1, (eqx_R hE2 (nE _ (by decide) (by decide) (by omega) (by omega)) 2).trans l1.2.2.1, ?_⟩, fun x => absurd rfl x⟩
        · rw [e1, e2, bI_some, if_pos z, if_neg (by decide)]
          rfl
        · refine ⟨fun k hk => (fE 0 k (by decide) (by decide)).trans (h1 k hk), fun c hc => (fE 1 c (by decide) (by decide)).trans (h2 c hc), fun c hc => (fE 2 c (by decide) (by decide)).trans (h3 c hc), fun t ht => (fE 3 t (by decide) (by decide)).trans (h4 t ht), ⟨(fE 4 2 (by decide) (by decide)).trans h5.1, by rw [fE2 5 (by decide) (by decide)]; exact h5.2⟩, ⟨k2.2.2.2.2.1, k2.2.2.2.2.2.1⟩⟩
      · obtain ⟨d, rfl⟩ : ∃ d, D = d + 1 + 1 := ⟨D - 2, by omega⟩
        obtain ⟨M1, hO1, l1, e1⟩ := clM d M C (by omega) hM
        obtain ⟨M2, e2, hO2, hF2, ok2, no2⟩ := rm d (by omega) 0 _ C (mAt C M1 l1)
        have k2 := ok2 z
        have e2' : c2 d m_Mo_readTruth [.ref 197, .int (iI 0)] (wI M1 197 15 (iI 1)) = some (.null, M2) := e2
        have g70 : gI M2 201 70 = iI (C ++ rd.2.2).length := k2.2.2.1
        have c70 : gI M1 201 70 = iI C.length := l1.2.1.2.2.1
        have hF : ∀ k, k < 70 → gI M2 201 k = gI M1 201 k := fun k hk => (hF2 k hk).trans (gI_na (by decide))
        have cl := k2.2.2.2.2.1
        refine ⟨wI (wI (wI M2 201 7 (iI 1)) 201 9 (iI C.length)) 201 11 (iI rd.2.2.length), C ++ rd.2.2, ?_, ?_, fun _ => ?_, fun x => absurd rfl x⟩
        · rw [e1, e_Mo_readLaw_18, e2', bV_some, if_pos k2.1.w, iI_add, iI_add, iI_add, inb_ok (by decide) (by decide) (by decide), gb_T, inb_ok (by decide) (by decide) (by decide), gb_T, inb_ok (by decide) (by decide) (by decide), gb_T, ix_eq (z := 6 + 1) (n := 7) (by decide) (by decide), ix_eq (z := 8 + 1) (n := 9) (by decide) (by decide), ix_eq (z := 10 + 1) (n := 11) (by decide) (by decide), gI_nk (by decide), gI_nk (by decide), g70, c70, iI_sub, List.length_append, show (((C.length + rd.2.2.length : Nat) : Int) - (C.length : Int)) = (rd.2.2.length : Int) by omega, bV_some]
        · have o15 : OM2 M1 (wI M1 197 15 (iI 1)) := ⟨eqx_wI Eqx.rf (by simp), fun k hk => gI_nk (by omega)⟩
          exact (((hO1.o2.tr (o15.tr hO2.o2)).put _ _).put _ _).put _ _
        · have q : Eqx [201] M2 (wI (wI (wI M2 201 7 (iI 1)) 201 9 (iI C.length)) 201 11 (iI rd.2.2.length)) := eqx_wI (eqx_wI (eqx_wI Eqx.rf (by simp)) (by simp)) (by simp)
          have nk : ∀ k, k ≠ 7 → k ≠ 9 → k ≠ 11 → gI (wI (wI (wI M2 201 7 (iI 1)) 201 9 (iI C.length)) 201 11 (iI rd.2.2.length)) 201 k = gI M2 201 k := fun k a b c => by rw [gI_nk c, gI_nk b, gI_nk a]
          obtain ⟨h1, h2, h3, h4⟩ := l1.2.1
          refine ⟨k2.1.fr (q 197 (by decide)).1 (q 200 (by decide)).1, ⟨fun k hk => ?_, fun i hi => ?_, (nk 70 (by decide) (by decide) (by decide)).trans g70, k2.2.2.2.1.fr (fun k k1 _ => nk k (by omega) (by omega) (by omega))⟩, by omega, k2.2.2.2.2.2⟩
          · have b5 : p.1 3 ≤ 4 := hp.1.2.2.2.2.1
            have hk' : rix (p.1 3) k := hk
            have kb : k < 70 ∧ k ≠ 7 ∧ k ≠ 9 ∧ k ≠ 11 := by unfold rix at hk'; omega
            rw [nk k kb.2.1 kb.2.2.1 kb.2.2.2, hF k kb.1]; exact h1 k hk'
          · show _ = iI (if upL p.2 1 rd.2.2 i = [] then 0 else 1) ∧ (upL p.2 1 rd.2.2 i ≠ [] → _ = iI (upL p.2 1 rd.2.2 i).length ∧ ∃ C1 C2, C ++ rd.2.2 = C1 ++ (upL p.2 1 rd.2.2 i ++ C2) ∧ _)
            rcases (show i = 1 ∨ i = 0 by omega) with rfl | rfl
            · have eu : upL p.2 1 rd.2.2 1 = rd.2.2 := if_pos rfl
              rw [eu, if_neg nL]
              refine ⟨?_, fun _ => ⟨gI_eq _ _ _ _, C, [], by rw [List.append_nil], ?_⟩⟩
              · rw [gI_nk (by decide), gI_nk (by decide), gI_eq]
              · rw [gI_nk (by decide), gI_eq]
            · have eu : upL p.2 1 rd.2.2 0 = p.2 0 := if_neg (by decide)
              rw [eu, nk _ (by decide) (by decide) (by decide), nk _ (by decide) (by decide) (by decide), nk _ (by decide) (by decide) (by decide), hF _ (by decide), hF _ (by decide), hF _ (by decide)]
              obtain ⟨y1, y2⟩ := h2 0 (by decide)
              refine ⟨y1, fun w => ?_⟩
              obtain ⟨y3, C1, C2, y4, y5⟩ := y2 w
              exact ⟨y3, C1, C2 ++ rd.2.2, by rw [y4, List.append_assoc, List.append_assoc], y5⟩
    · refine ⟨rd.1, rd.2.1, p, r4, fun x => absurd x z, fun D hD => ?_, fun D hD M C hM => ?_⟩
      · obtain ⟨d, rfl⟩ : ∃ d, D = d + 1 := ⟨D - 1, by omega⟩
        refine LiC.ln (by omega) hr hp isl1 (fun e => by omega) (fun M hM => ?_)
        obtain ⟨M1, hE1, l1, e1⟩ := clC d M (by omega) hM
        obtain ⟨M2, e2, hE2, ok2, no2⟩ := c_readLaw (D := d) (by omega) hr ha (by decide) (rc (d - 1) (by omega)) l1
        refine ⟨M2, ?_, (eqW hE1).tr (hE2.mono (by simp [roomW, roomS])), fun x => absurd x z, no2⟩
        rw [e1, e2, bI_some, if_neg z, if_pos (by decide)]
      · obtain ⟨d, rfl⟩ : ∃ d, D = d + 1 + 1 := ⟨D - 2, by omega⟩
        obtain ⟨M1, hO1, l1, e1⟩ := clM d M C (by omega) hM
        obtain ⟨M2, e2, hO2, hF2, ok2, no2⟩ := rm d (by omega) 0 _ C (mAt C M1 l1)
        have e2' : c2 d m_Mo_readTruth [.ref 197, .int (iI 0)] (wI M1 197 15 (iI 1)) = some (.null, M2) := e2
        have w2 := (no2 z).wr z r4
        have o15 : OM2 M1 (wI M1 197 15 (iI 1)) := ⟨eqx_wI Eqx.rf (by simp), fun k hk => gI_nk (by omega)⟩
        refine ⟨M2, C, ?_, hO1.o2.tr (o15.tr hO2.o2), fun x => absurd x z, no2⟩
        rw [e1, e_Mo_readLaw_18, e2', bV_some, if_neg w2, bV_some]
  · have z := ff_rng T n (j + 1) (why := 2) (by decide) (by decide)
    refine ⟨ff T n (j + 1) 2, SS T n (j + 1), p, z.2, fun x => absurd x z.1, fun D hD => ?_, fun D hD M C hM => ?_⟩
    · obtain ⟨d, rfl⟩ : ∃ d, D = d + 1 := ⟨D - 1, by omega⟩
      refine LiC.ln (by omega) hr hp isl1 (fun e => by omega) (fun M hM => ?_)
      obtain ⟨M1, e1, hE1, k1⟩ := (j_pass (D := d) (c := 31) (x := 58) (by omega) hM.1 (by decide) (by decide) (by decide)).2 c31
      refine ⟨M1, ?_, eqW hE1, fun x => absurd x z.1, fun _ => k1⟩
      rw [sw d M hM, e1, bI_some, if_pos (by decide), if_neg z.1]
    · obtain ⟨d, rfl⟩ : ∃ d, D = d + 1 + 1 := ⟨D - 2, by omega⟩
      obtain ⟨M0, hO0, l0, e0⟩ := mo d M C (by omega) hM
      obtain ⟨M1, e1, hO1, hF1, k1⟩ := k_fl (D := d) (by omega) l0.1 2
      have w1 : Wr (wI M1 197 15 (iI 1)) := by
        unfold Wr; rw [gI_nk (by decide)]; exact k1.wr z.1 z.2
      have o15 : OM2 M1 (wI M1 197 15 (iI 1)) := ⟨eqx_wI Eqx.rf (by simp), fun k hk => gI_nk (by omega)⟩
      refine ⟨wI M1 197 15 (iI 1), C, ?_, (hO0.o2.tr hO1.o2).tr o15, fun x => absurd x z.1, fun _ => ⟨(gI_nk (by decide)).trans k1.1, (gI_nk (by decide)).trans k1.2⟩⟩
      rw [e0, (k_eat (by omega) l0.1 (by decide)).2 c31, bI_some, if_pos (by decide), show iI 2 = iI ((2 : Nat) : Int) from rfl, e1, bV_some, e_Mo_readLaw_18, w_Truth (by omega) w1, bV_some, if_neg w1, bV_some]
/-- every line -/
theorem l_all {p : Ps} {j : Nat} (hN : TN T n N) (hr : r ∈ rooms) (hp : OkP p) (hj : j < N) : LQ T n N r p j := by
  cases q : isl (KK T n j) with
  | false => exact l_no hr q
  | true =>
    unfold isl at q
    simp only [Bool.or_eq_true, decide_eq_true_eq] at q
    rcases (show KK T n j = 1 ∨ KK T n j = 2 ∨ KK T n j = 4 ∨ KK T n j = 5 ∨ KK T n j = 6 ∨ KK T n j = 7 ∨ KK T n j = 8 ∨ KK T n j = 9 ∨ KK T n j = 10 by omega) with h | h | h | h | h | h | h | h | h
    · exact l_1 hN hr hp hj h
    · exact l_2 hN hr hp hj h
    · exact l_4 hN hr hp hj h
    · exact l_5 hN hr hp hj h
    · exact l_6 hN hr hp hj h
    · exact l_7 hN hr hp hj h
    · exact l_8 hN hr hp hj h
    · exact l_9 hN hr hp hj h
    · exact l_10 hN hr hp hj h
end B5
