/-! THE ROOM'S TEXT: the face. -/
section B4
variable {T : Nat → Nat} {n N r : Nat}
theorem OkP.face {p : Ps} {s : Nat} (h : OkP p) (hs : s < 2 ^ (p.1 1 * p.1 2)) : OkP (upN p.1 4 s, p.2) := by
  obtain ⟨⟨p1, p2, p3, p4, p5, p6, p7, p8, p9, p10, p11, p12⟩, pk, pp, pt, pg⟩ := h
  refine ⟨⟨p1, p2, p3, p4, p5, hs, p7, p8, p9, p10, p11, p12⟩, fun c hc => ?_, fun t ht => ?_, pt, pg⟩
  · show upN p.1 4 s (12 + c) ≤ 9
    rw [show upN p.1 4 s (12 + c) = p.1 (12 + c) from if_neg (by omega)]; exact pk c hc
  · show upN p.1 4 s (21 + t) ≤ 9
    rw [show upN p.1 4 s (21 + t) = p.1 (21 + t) from if_neg (by omega)]; exact pp t ht
theorem fc_27 (hr : r ∈ rooms) {D jj : Nat} {p : Ps} {M : Mem} (hM : LnC T n N r jj p M) (x1 x2 : Int32) (v3 : Value) : X2 D m_RR_readFace 27 [.ref 106, .int x1, .int x2, v3] [] M = bI (c2 D m_Tok_passNumber [.ref 102, .int (iI 0), .int (iI (((p.1 1 * p.1 2 : Nat) : Int) - 1))] M) fun r2 M1 => if r2 = iI (-1) then some (.int (iI 0), M1) else X2 D m_RR_readFace 4 [.ref 106, .int (x1 ||| ((iI 1) <<< (r2 &&& 31))), .int (x2 + iI 1), .int r2] [] M1 := by
  have kk : isK O2 M 102 19 = true := rfl
  have g2 : gI M r 2 = iI ((p.1 1 * p.1 2 : Nat) : Int) := hM.f 2 (by decide)
  rw [e_RR_readFace_27, hM.2.2.1, rm_k _ r hr, gb_T, hM.2.1, kk, g2, iI_sub]
  rfl
theorem m_rose {D jj : Nat} {p : Ps} {C : List Nat} {M : Mem} (hD : 8 ≤ D) (hp : OkP p) (hM : LnM T n jj p C M) : (okN T n jj 0 (((p.1 1 * p.1 2 : Nat) : Int) - 1) → ∃ M2, c2 D m_Mo_readRose [.ref 197] M = some (.int (iI ((1 <<< VV T n jj : Nat) : Int)), M2) ∧ OM M M2 ∧ M2.1 201 = M.1 201 ∧ MJ T n (jj + 1) M2) ∧ (¬ okN T n jj 0 (((p.1 1 * p.1 2 : Nat) : Int) - 1) → ∃ w M2, c2 D m_Mo_readRose [.ref 197] M = some (.int w, M2) ∧ OM M M2 ∧ M2.1 201 = M.1 201 ∧ FM (nf T n jj) (SS T n jj) M2) := by
  obtain ⟨e, rfl⟩ : ∃ e, D = e + 1 := ⟨D - 1, by omega⟩
  have nz9 : p.1 1 * p.1 2 ≤ 9 := Nat.mul_le_mul hp.1.2.1 hp.1.2.2.2.1
  have g1 : gI M 201 1 = iI (p.1 1) := hM.2.1.1 1 (Or.inl (by decide))
  have g2 : gI M 201 2 = iI (p.1 2) := hM.2.1.1 2 (Or.inl (by decide))
  have mz : ((p.1 1 : Int) * (p.1 2 : Int)) = ((p.1 1 * p.1 2 : Nat) : Int) := (Int.natCast_mul _ _).symm
  have hiR : (-10 : Int) ≤ ((p.1 1 * p.1 2 : Nat) : Int) - 1 ∧ ((p.1 1 * p.1 2 : Nat) : Int) - 1 ≤ (1000 : Int) := by omega
  constructor
  · intro ok
    have ov := okN_up ok
    obtain ⟨M2, e2, r2⟩ := (k_num (D := e) (by omega) hM.1 (lo := 0) (by decide) (by decide) hiR.1 hiR.2).1 ok
    refine ⟨M2, ?_, r2⟩
    show X2 e m_Mo_readRose 0 [.ref 197] [] M = _
    rw [e_Mo_readRose_0, g1, g2, iI_mul, iI_sub, mz, e2, bI_some, show iI 1 = iI ((1 : Nat) : Int) from rfl, iI_shl 1 (k := VV T n jj) (by omega)]
  · intro no
    obtain ⟨w, M2, e2, r2⟩ := (k_num (D := e) (by omega) hM.1 (lo := 0) (by decide) (by decide) hiR.1 hiR.2).2 no
    refine ⟨iI 1 <<< (w &&& 31), M2, ?_, r2⟩
    show X2 e m_Mo_readRose 0 [.ref 197] [] M = _
    rw [e_Mo_readRose_0, g1, g2, iI_mul, iI_sub, mz, e2, bI_some]
theorem fc_loop (hN : TN T n N) (hr : r ∈ rooms) {p : Ps} (hp : OkP p) : ∀ m jj s, N - jj ≤ m → jj < N → s < 2 ^ (p.1 1 * p.1 2) → ∃ f q p', f ≤ 4 ∧ (f = 0 → jj ≤ q ∧ q < N ∧ OkP p' ∧ p'.1 0 = p.1 0) ∧ (∀ D i v3, 9 ≤ D → 1 ≤ i → i ≤ jj → LiC T n N r (fun M => X2 D m_RR_readFace 4 [.ref 106, .int (iI (s : Nat)), .int (iI (i : Nat)), v3] [] M) jj f q p p') ∧ (∀ D, 9 ≤ D → LiM T n (fun M => X2 D m_Mo_readFace 9 [.ref 197, .int (iI (s : Nat))] [] M) jj f q p p') := by
  intro m
  have hN1 := hN.1
  have nz9 : p.1 1 * p.1 2 ≤ 9 := Nat.mul_le_mul hp.1.2.1 hp.1.2.2.2.1
  have kk : ∀ M, isK O2 M 102 19 = true := fun _ => rfl
  have hiR : (-10 : Int) ≤ ((p.1 1 * p.1 2 : Nat) : Int) - 1 ∧ ((p.1 1 * p.1 2 : Nat) : Int) - 1 ≤ (1000 : Int) := by omega
  induction m with
  | zero => intro jj s h1 h2; omega
  | succ m ih =>
    intro jj s hm hj hs
    by_cases c23 : KK T n jj = 23
    · have hj1 := hN.2 jj hj (by omega)
      have clC : ∀ D i v3 M, 1 ≤ i → i ≤ jj → LnC T n N r jj p M → X2 D m_RR_readFace 4 [.ref 106, .int (iI (s : Nat)), .int (iI (i : Nat)), v3] [] M = bI (c2 D m_Tok_passNumber [.ref 102, .int (iI 0), .int (iI (((p.1 1 * p.1 2 : Nat) : Int) - 1))] M) fun r2 M1 => if r2 = iI (-1) then some (.int (iI 0), M1) else X2 D m_RR_readFace 4 [.ref 106, .int (iI s ||| ((iI 1) <<< (r2 &&& 31))), .int (iI i + iI 1), .int r2] [] M1 := fun D i v3 M i1 i2 hM => by
        have k9 : (gI M 102 9 = iI 20) = (KK T n jj = 23) := hM.1.kd (by decide) (by decide)
        rw [e_RR_readFace_4, if_pos (by rw [iI_lt (by omega) (by omega) (by omega) (by omega)]; omega), if_neg (by rw [iI_eq0 (by omega) (by omega)]; omega), hM.2.1, kk, gb_T, if_pos (by rw [k9]; exact c23), fc_27 hr hM]
      have clM : ∀ D M C, 9 ≤ D → LnM T n jj p C M → X2 D m_Mo_readFace 9 [.ref 197, .int (iI (s : Nat))] [] M = bI (c2 D m_Mo_readRose [.ref 197] M) fun r4 M3 => X2 D m_Mo_readFace 9 [.ref 197, .int (iI s ||| r4)] [] M3 := fun D M C hD hM => by
        rw [e_Mo_readFace_9, if_pos hM.1.w, show iI 23 = iI ((23 : Nat) : Int) from rfl, k_is (by omega) hM.1 (by decide), bI_some, decide_eq_true c23, if_neg (by decide)]
      by_cases ok : okN T n jj 0 (((p.1 1 * p.1 2 : Nat) : Int) - 1)
      · have ov := okN_up ok
        have vl : VV T n jj < p.1 1 * p.1 2 := by omega
        obtain ⟨f, q, p', f4, fo, fc, fm⟩ := ih (jj + 1) (s ||| 1 <<< VV T n jj) (by omega) hj1 (Nat.or_lt_two_pow hs (by rw [Nat.one_shiftLeft]; exact Nat.pow_lt_pow_right (by decide) vl))
        refine ⟨f, q, p', f4, fun x => ⟨by have := (fo x).1; omega, (fo x).2⟩, fun D i v3 hD i1 i2 M hM => ?_, fun D hD M C hM => ?_⟩
        · obtain ⟨M2, e2, hE2, k2⟩ := (j_num (D := D) (by omega) hM.1 (by decide) (by decide) hiR.1 hiR.2).1 ok
          obtain ⟨M3, e3, hE3, ok3, no3⟩ := fc D (i + 1) (.int (iI (VV T n jj))) hD (by omega) (by omega) M2 (hM.fr2 hr hE2 k2)
          refine ⟨M3, ?_, (eqW hE2).tr hE3, ok3, no3⟩
          show X2 D m_RR_readFace 4 [.ref 106, .int (iI (s : Nat)), .int (iI (i : Nat)), v3] [] M = _
          rw [clC D i v3 M i1 i2 hM, e2, bI_some, if_neg (by rw [iI_eq (by omega) (by omega) (by omega) (by omega)]; omega), show iI 1 <<< (iI (VV T n jj : Int) &&& 31) = iI ((1 <<< VV T n jj : Nat) : Int) from iI_shl 1 (k := VV T n jj) (by omega), iI_or, iI_add]
          exact e3
        · obtain ⟨M2, e2, hO2, hF2, k2⟩ := (m_rose (D := D) (by omega) hp hM).1 ok
          obtain ⟨M3, C3, e3, hO3, ok3, no3⟩ := fm D hD M2 C (hM.nx2 hF2 k2 (by omega) (by omega))
          refine ⟨M3, C3, ?_, hO2.o2.tr hO3, ok3, no3⟩
          show X2 D m_Mo_readFace 9 [.ref 197, .int (iI (s : Nat))] [] M = _
          rw [clM D M C hD hM, e2, bI_some, iI_or]
          exact e3
      · have z := nf_rng T n jj
        refine ⟨nf T n jj, SS T n jj, p, z.2, fun x => absurd x z.1, fun D i v3 hD i1 i2 M hM => ?_, fun D hD M C hM => ?_⟩
        · obtain ⟨M2, e2, hE2, k2⟩ := (j_num (D := D) (by omega) hM.1 (by decide) (by decide) hiR.1 hiR.2).2 ok
          refine ⟨M2, ?_, eqW hE2, fun x => absurd x z.1, fun _ => k2⟩
          show X2 D m_RR_readFace 4 [.ref 106, .int (iI (s : Nat)), .int (iI (i : Nat)), v3] [] M = _
          rw [clC D i v3 M i1 i2 hM, e2, bI_some, if_pos rfl, if_neg z.1]
        · obtain ⟨w, M2, e2, hO2, hF2, k2⟩ := (m_rose (D := D) (by omega) hp hM).2 ok
          have w1 := k2.wr z.1 z.2
          refine ⟨M2, C, ?_, hO2.o2, fun x => absurd x z.1, fun _ => k2⟩
          show X2 D m_Mo_readFace 9 [.ref 197, .int (iI (s : Nat))] [] M = _
          rw [clM D M C hD hM, e2, bI_some, e_Mo_readFace_9, if_neg w1, if_neg w1]
    · refine ⟨0, jj, (upN p.1 4 s, p.2), Nat.zero_le _, fun _ => ⟨Nat.le_refl _, hj, hp.face hs, rfl⟩, fun D i v3 hD i1 i2 M hM => ?_, fun D hD M C hM => ?_⟩
      · have k9 : (gI M 102 9 = iI 20) = (KK T n jj = 23) := hM.1.kd (by decide) (by decide)
        refine ⟨wI M r 6 (iI s), ?_, eqW2 (eqx_wI Eqx.rf (by simp)), fun _ => hM.put hr (fun k hk => by
          rcases (show k = 0 ∨ k = 1 ∨ k = 2 ∨ k = 3 ∨ k = 4 ∨ k = 5 ∨ k = 6 ∨ k = 7 ∨ k = 8 ∨ k = 9 by omega) with rfl | rfl | rfl | rfl | rfl | rfl | rfl | rfl | rfl | rfl <;> rfl) (fun k hk => if_neg (by omega)), fun x => absurd rfl x⟩
        show X2 D m_RR_readFace 4 [.ref 106, .int (iI (s : Nat)), .int (iI (i : Nat)), v3] [] M = _
        rw [e_RR_readFace_4, if_neg (show ¬ iI (i : Int) = 0 by rw [iI_eq0 (by omega) (by omega)]; omega), hM.2.1, kk, gb_T, if_neg (show ¬ gI M 102 9 = iI 20 by rw [k9]; exact c23), hM.2.2.1, rm_k _ r hr, gb_T]
        split <;> rfl
      · refine ⟨wI M 201 4 (iI s), C, ?_, (OM2.rf M).put _ _, fun _ => hM.put (by decide) (by decide) (by decide), fun x => absurd rfl x⟩
        show X2 D m_Mo_readFace 9 [.ref 197, .int (iI (s : Nat))] [] M = _
        rw [e_Mo_readFace_9, if_pos hM.1.w, show iI 23 = iI ((23 : Nat) : Int) from rfl, k_is (by omega) hM.1 (by decide), bI_some, decide_eq_false c23, if_pos (by decide), if_pos hM.1.w]
theorem l_6 {p : Ps} {j : Nat} (hN : TN T n N) (hr : r ∈ rooms) (hp : OkP p) (hj : j < N) (hc : KK T n j = 6) : LQ T n N r p j := by
  have hN1 := hN.1
  have hj1 := hN.2 j hj (by omega)
  have nz9 : p.1 1 * p.1 2 ≤ 9 := Nat.mul_le_mul hp.1.2.1 hp.1.2.2.2.1
  have hiR : (-10 : Int) ≤ ((p.1 1 * p.1 2 : Nat) : Int) - 1 ∧ ((p.1 1 * p.1 2 : Nat) : Int) - 1 ≤ (1000 : Int) := by omega
  have isl1 : isl (KK T n j) = true := by rw [hc]; decide
  have sw : ∀ d M, LnC T n N r (j + 1) p M → swB (d + 1) (iI (kcls (KK T n j))) M = bI (bI (c2 d m_Tok_passNumber [.ref 102, .int (iI 0), .int (iI (((p.1 1 * p.1 2 : Nat) : Int) - 1))] M) fun r2 M1 => if r2 = iI (-1) then some (.int (iI 0), M1) else X2 d m_RR_readFace 4 [.ref 106, .int (iI 0 ||| ((iI 1) <<< (r2 &&& 31))), .int (iI 0 + iI 1), .int r2] [] M1) fun y M' => gb (decide (y &&& 1 = y)) (some (.int y, M')) := fun d M hM => by
    have e0 : c2 (d + 1) m_RR_readFace [.ref 106] M = X2 d m_RR_readFace 0 [.ref 106, uns, uns, uns] [] M := rfl
    rw [hc, show iI ((kcls 6 : Nat) : Int) = iI 8 from rfl]
    unfold swB
    rw [if_neg (show ¬ iI 8 = iI 1 by decide), if_neg (show ¬ iI 8 = iI 2 by decide), if_neg (show ¬ iI 8 = iI 3 by decide), if_neg (show ¬ iI 8 = iI 4 by decide), if_neg (show ¬ iI 8 = iI 5 by decide), if_neg (show ¬ iI 8 = iI 6 by decide), if_neg (show ¬ iI 8 = iI 7 by decide), if_pos rfl, e0, e_RR_readFace_0, e_RR_readFace_4, if_pos (by decide), if_pos (show iI 0 = 0 from rfl), fc_27 hr hM]
  by_cases ok : okN T n (j + 1) 0 (((p.1 1 * p.1 2 : Nat) : Int) - 1)
  · have ov := okN_up ok
    have vl : VV T n (j + 1) < p.1 1 * p.1 2 := by omega
    have hj2 := hN.2 (j + 1) hj1 (by have := ok.1; omega)
    obtain ⟨f, q, p', f4, fo, fc, fm⟩ := fc_loop hN hr hp _ (j + 1 + 1) (1 <<< VV T n (j + 1)) (Nat.le_refl _) hj2 (by rw [Nat.one_shiftLeft]; exact Nat.pow_lt_pow_right (by decide) vl)
    refine ⟨f, q, p', f4, fun x => ⟨by have := (fo x).1; omega, (fo x).2⟩, fun D hD => ?_, fun D hD M C hM => ?_⟩
    · obtain ⟨d, rfl⟩ : ∃ d, D = d + 1 + 1 := ⟨D - 2, by omega⟩
      refine LiC.ln (by omega) hr hp isl1 (fun e => by omega) (fun M hM => ?_)
      obtain ⟨M1, e1, hE1, k1⟩ := (j_num (D := d) (by omega) hM.1 (by decide) (by decide) hiR.1 hiR.2).1 ok
      obtain ⟨M2, e2, hE2, ok2, no2⟩ := fc d 1 (.int (iI (VV T n (j + 1)))) (by omega) (Nat.le_refl _) (by omega) M1 (hM.fr2 hr hE1 k1)
      refine ⟨M2, ?_, (eqW hE1).tr hE2, ok2, no2⟩
      have e2' : X2 d m_RR_readFace 4 [.ref 106, .int (iI ((1 <<< VV T n (j + 1) : Nat) : Int)), .int (iI 1), .int (iI (VV T n (j + 1)))] [] M1 = some (.int (iI (if f = 0 then 1 else 0)), M2) := e2
      rw [sw d M hM, e1, bI_some, if_neg (by rw [iI_eq (by omega) (by omega) (by omega) (by omega)]; omega), show iI 1 <<< (iI (VV T n (j + 1) : Int) &&& 31) = iI ((1 <<< VV T n (j + 1) : Nat) : Int) from iI_shl 1 (k := VV T n (j + 1)) (by omega), show iI 0 ||| iI ((1 <<< VV T n (j + 1) : Nat) : Int) = iI ((1 <<< VV T n (j + 1) : Nat) : Int) from (iI_or 0 _).trans (by rw [Nat.zero_or]), show iI 0 + iI 1 = iI 1 from rfl, e2', bI_some]
      split <;> rfl
    · obtain ⟨d, rfl⟩ : ∃ d, D = d + 1 + 1 := ⟨D - 2, by omega⟩
      obtain ⟨M0, e0, hO0, hF0, k0⟩ := k_nx (D := d) (by omega) hM.1
      have l0 := hM.nx2 hF0 k0 (by omega) (by omega)
      obtain ⟨M1, e1, hO1, hF1, k1⟩ := (m_rose (D := d) (by omega) hp l0).1 ok
      obtain ⟨M2, C2, e2, hO2, ok2, no2⟩ := fm d (by omega) M1 C (l0.nx2 hF1 k1 (by omega) (by omega))
      have er : c2 (d + 1) m_Mo_readFace [.ref 197] M = some (.null, M2) := by
        show X2 d m_Mo_readFace 0 [.ref 197, uns] [] M = _
        rw [e_Mo_readFace_0, e0, bV_some, e1, bI_some]
        exact e2
      refine ⟨M2, C2, ?_, (hO0.o2.tr hO1.o2).tr hO2, ok2, no2⟩
      rw [m_line6 (by omega) hM hc, er, bV_some]
  · have z := nf_rng T n (j + 1)
    refine ⟨nf T n (j + 1), SS T n (j + 1), p, z.2, fun x => absurd x z.1, fun D hD => ?_, fun D hD M C hM => ?_⟩
    · obtain ⟨d, rfl⟩ : ∃ d, D = d + 1 + 1 := ⟨D - 2, by omega⟩
      refine LiC.ln (by omega) hr hp isl1 (fun e => by omega) (fun M hM => ?_)
      obtain ⟨M1, e1, hE1, k1⟩ := (j_num (D := d) (by omega) hM.1 (by decide) (by decide) hiR.1 hiR.2).2 ok
      refine ⟨M1, ?_, eqW hE1, fun x => absurd x z.1, fun _ => k1⟩
      rw [sw d M hM, e1, bI_some, if_pos rfl, bI_some, if_neg z.1]
      rfl
    · obtain ⟨d, rfl⟩ : ∃ d, D = d + 1 + 1 := ⟨D - 2, by omega⟩
      obtain ⟨M0, e0, hO0, hF0, k0⟩ := k_nx (D := d) (by omega) hM.1
      have l0 := hM.nx2 hF0 k0 (by omega) (by omega)
      obtain ⟨w, M1, e1, hO1, hF1, k1⟩ := (m_rose (D := d) (by omega) hp l0).2 ok
      have w1 := k1.wr z.1 z.2
      have er : c2 (d + 1) m_Mo_readFace [.ref 197] M = some (.null, M1) := by
        show X2 d m_Mo_readFace 0 [.ref 197, uns] [] M = _
        rw [e_Mo_readFace_0, e0, bV_some, e1, bI_some, e_Mo_readFace_9, if_neg w1, if_neg w1]
      refine ⟨M1, C, ?_, hO0.o2.tr hO1.o2, fun x => absurd x z.1, fun _ => k1⟩
      rw [m_line6 (by omega) hM hc, er, bV_some]
end B4
