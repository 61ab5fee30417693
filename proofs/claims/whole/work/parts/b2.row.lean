/-! THE ROOM'S TEXT: a row of kinds. -/
section B2
variable {T : Nat → Nat} {n N r : Nat}
theorem RoomC.kind {M : Mem} {p : Ps} {c v : Nat} (hc : c < 9) (h : RoomC M r p) : RoomC (wI M (r + 1) c (iI v)) r (upN p.1 (12 + c) v, p.2) := by
  obtain ⟨h1, h2, h3, h4, h5, h6⟩ := h
  have ne : ∀ i k, i ≠ 1 → gI (wI M (r + 1) c (iI v)) (r + i) k = gI M (r + i) k := fun i k hi => gI_na (by omega)
  have ne2 : ∀ i, i ≠ 1 → (wI M (r + 1) c (iI v)).1 (r + i) = M.1 (r + i) := fun i hi => by funext k; exact ne i k hi
  have up : ∀ k, k ≠ 12 + c → upN p.1 (12 + c) v k = p.1 k := fun k hk => if_neg hk
  have ef : ∀ k, fld (upN p.1 (12 + c) v) k = fld p.1 k := fun k => by
    unfold fld
    split <;> simp only [up 0 (by omega), up 1 (by omega), up 2 (by omega), up 3 (by omega), up 4 (by omega), up 5 (by omega), up 25 (by omega), up 26 (by omega), up 27 (by omega)]
  have e1 := up 1 (by omega)
  have e2 := up 2 (by omega)
  have e3 := up 3 (by omega)
  refine ⟨fun k hk => ?_, fun i hi => ?_, fun i hi => ?_, fun t ht => ?_, ⟨?_, ?_⟩, ?_, ?_⟩
  · show gI (wI M (r + 1) c (iI v)) r k = iI (fld (upN p.1 (12 + c) v) k)
    rw [ef, gI_na (by omega)]; exact h1 k hk
  · show gI (wI M (r + 1) c (iI v)) (r + 1) i = iI (upN p.1 (12 + c) v (12 + i))
    by_cases q : i = c
    · rw [q, gI_eq]; unfold upN; rw [if_pos rfl]
    · rw [gI_nk q, up _ (by omega)]; exact h2 i hi
  · show _ = iI (maskOf (fun k => nbr (upN p.1 (12 + c) v 2) i k) (upN p.1 (12 + c) v 1 * upN p.1 (12 + c) v 2))
    have hi' : i < upN p.1 (12 + c) v 1 * upN p.1 (12 + c) v 2 := hi
    rw [e1, e2] at hi'
    rw [ne 2 i (by decide), e1, e2]; exact h3 i hi'
  · have ht' : t < upN p.1 (12 + c) v 3 := ht
    rw [e3] at ht'
    show _ = iI (upN p.1 (12 + c) v (21 + t))
    rw [ne 3 t (by decide), up _ (by omega)]; exact h4 t ht'
  · exact (ne 4 2 (by decide)).trans h5.1
  · rw [ne2 5 (by decide)]; exact h5.2
  · exact (ne 7 2 (by decide)).trans h6.1
  · rw [ne2 8 (by decide)]; exact h6.2
theorem LnC.kind (hr : r ∈ rooms) {j : Nat} {p : Ps} {M : Mem} {c v : Nat} (hc : c < 9) (h : LnC T n N r j p M) : LnC T n N r j (upN p.1 (12 + c) v, p.2) (wI M (r + 1) c (iI v)) := by
  have hl := rm_lt r hr
  have q : Eqx [r + 1] M (wI M (r + 1) c (iI v)) := eqx_wI Eqx.rf (by simp)
  exact ⟨h.1.fr (q 102 (ni1 (by omega))).1 (q 103 (ni1 (by omega))).1 (q 104 (ni1 (by omega))).1 (q 105 (ni1 (by omega))).1, h.2.1, h.2.2.1, h.2.2.2.kind hc⟩
theorem OkP.kind {p : Ps} {c v : Nat} (hc : c < 9) (hv : v ≤ 9) (h : OkP p) : OkP (upN p.1 (12 + c) v, p.2) := by
  obtain ⟨⟨p1, p2, p3, p4, p5, p6, p7, p8, p9, p10, p11, p12⟩, pk, pp, pt, pg⟩ := h
  have up : ∀ k, k ≠ 12 + c → upN p.1 (12 + c) v k = p.1 k := fun k hk => if_neg hk
  unfold OkP
  show (1 ≤ upN p.1 (12 + c) v 1 ∧ _) ∧ _
  simp only [up 1 (by omega), up 2 (by omega), up 3 (by omega), up 4 (by omega), up 5 (by omega), up 25 (by omega), up 26 (by omega), up 27 (by omega), up 28 (by omega), up 29 (by omega)]
  refine ⟨⟨p1, p2, p3, p4, p5, p6, p7, p8, p9, p10, p11, p12⟩, fun i hi => ?_, fun t ht => ?_, pt, pg⟩
  · by_cases q : i = c
    · unfold upN; rw [q, if_pos rfl]; exact hv
    · rw [up _ (by omega)]; exact pk i hi
  · rw [up _ (by omega)]; exact pp t ht
theorem c_hasR {D : Nat} (hD : 1 ≤ D) (hr : r ∈ rooms) {M : Mem} {m c : Nat} (h2 : gI M r 2 = iI m) (hm : m ≤ 9) (hc : c < m) : c2 D m_Room_hasRose [.ref r, .int (iI c)] M = some (.int (iI 1), M) := by
  obtain ⟨d, rfl⟩ := Nat.exists_eq_add_of_le' hD
  show X2 d m_Room_hasRose 0 [.ref r, .int (iI c)] [] M = _
  rw [e_Room_hasRose_0, if_neg (by rw [iI_lt0 (by omega) (by omega)]; omega), rm_k _ r hr, gb_T, h2, if_pos (by rw [iI_lt (by omega) (by omega) (by omega) (by omega)]; omega), if_pos (by rw [iI_lt (by omega) (by omega) (by omega) (by omega)]; omega)]
theorem rk_loop (hN : TN T n N) (hr : r ∈ rooms) {ρ : Nat} : ∀ m i jj (p : Ps), m + i = p.1 2 → ρ < p.1 1 → OkP p → jj < N → ∃ f q p', f ≤ 4 ∧ (f = 0 → jj ≤ q ∧ q < N ∧ OkP p' ∧ p'.1 0 = p.1 0) ∧ (∀ D v3 v4, 9 ≤ D → LiC T n N r (fun M => X2 D m_RR_readKinds 27 [.ref 106, .int (iI ρ), .int (iI i), v3, v4] [] M) jj f q p p') ∧ (∀ D, 9 ≤ D → LiM T n (fun M => X2 D m_Mo_readRow 20 [.ref 197, .int (iI ρ), .int (iI i)] [] M) jj f q p p') := by
  intro m
  have hN1 := hN.1
  have kk : ∀ M, isK O2 M 102 19 = true := fun _ => rfl
  induction m with
  | zero =>
    intro i jj p hm hρ hp hj
    have q2 := hp.1.2.2.2.1
    refine ⟨0, jj, p, Nat.zero_le _, fun _ => ⟨Nat.le_refl _, hj, hp, rfl⟩, fun D v3 v4 hD M hM => ?_, fun D hD M C hM => ?_⟩
    · have g1 : gI M r 1 = iI (p.1 2) := hM.f 1 (by decide)
      refine ⟨M, ?_, Eqx.rf, fun _ => hM, fun x => absurd rfl x⟩
      show X2 D m_RR_readKinds 27 [.ref 106, .int (iI ρ), .int (iI i), v3, v4] [] M = _
      rw [e_RR_readKinds_27, hM.2.2.1, rm_k _ r hr, gb_T, g1, if_neg (by rw [iI_lt (by omega) (by omega) (by omega) (by omega)]; omega)]
      rfl
    · have g2 : gI M 201 2 = iI (p.1 2) := hM.2.1.1 2 (Or.inl (by decide))
      refine ⟨M, C, ?_, OM2.rf M, fun _ => hM, fun x => absurd rfl x⟩
      show X2 D m_Mo_readRow 20 [.ref 197, .int (iI ρ), .int (iI i)] [] M = _
      rw [e_Mo_readRow_20, g2, if_neg (by rw [iI_lt (by omega) (by omega) (by omega) (by omega)]; omega)]
  | succ m ih =>
    intro i jj p hm hρ hp hj
    have q1 := hp.1.2.1
    have q2 := hp.1.2.2.2.1
    have nz9 : p.1 1 * p.1 2 ≤ 9 := Nat.mul_le_mul q1 q2
    have lt1 : ρ * p.1 2 + i < p.1 1 * p.1 2 := by
      have a := Nat.mul_le_mul_right (p.1 2) (show ρ + 1 ≤ p.1 1 from hρ)
      rw [Nat.succ_mul] at a
      omega
    have ec : ((ρ : Int) * (p.1 2 : Int)) + (i : Int) = ((ρ * p.1 2 + i : Nat) : Int) := by
      rw [Int.natCast_add, Int.natCast_mul]
    have em : (12 + (p.1 2 : Int) * (ρ : Int)) + (i : Int) = ((12 + (ρ * p.1 2 + i) : Nat) : Int) := by
      rw [Int.natCast_add, ← ec, Int.mul_comm]; omega
    have clC : ∀ D v3 v4 M, LnC T n N r jj p M → X2 D m_RR_readKinds 27 [.ref 106, .int (iI ρ), .int (iI i), v3, v4] [] M = bI (c2 D m_Tok_passNumber [.ref 102, .int (iI 0), .int (iI 9)] M) fun r2 M1 => gb (isK O2 M1 (gR M1 106 2) 16) (if r2 = iI (-1) then some (.int (iI 0), M1) else gb (isK O2 M1 (gR M1 106 2) 16 && !false) (bI (c2 D m_Room_hasRose [.ref (gR M1 106 2), .int (((iI ρ) * (gI M1 (gR M1 106 2) 1)) + iI i)] M1) fun r4 M3 => if r4 = 0 then some (.int (iI 0), M3) else gb (isK O2 M3 (gR M3 106 2) 16) (gb (at_ O2 M3 (gR M3 (gR M3 106 2) 10) 40 (((iI ρ) * (gI M1 (gR M1 106 2) 1)) + iI i)) (X2 D m_RR_readKinds 27 [.ref 106, .int (iI ρ), .int (iI i + iI 1), .int r2, .int (((iI ρ) * (gI M1 (gR M1 106 2) 1)) + iI i)] [] (wI M3 (gR M3 (gR M3 106 2) 10) (ix (((iI ρ) * (gI M1 (gR M1 106 2) 1)) + iI i)) r2))))) := fun D v3 v4 M hM => by
      have g1 : gI M r 1 = iI (p.1 2) := hM.f 1 (by decide)
      rw [e_RR_readKinds_27, hM.2.2.1, rm_k _ r hr, gb_T, g1, if_pos (by rw [iI_lt (by omega) (by omega) (by omega) (by omega)]; omega), hM.2.1, kk]
      rfl
    by_cases ok : okN T n jj 0 9
    · have ov := okN_up ok
      have hj2 := hN.2 jj hj (by have := ok.1; omega)
      have v9 : VV T n jj ≤ 9 := by omega
      have c9 : ρ * p.1 2 + i < 9 := by omega
      have up : ∀ k, k < 12 → upN p.1 (12 + (ρ * p.1 2 + i)) (VV T n jj) k = p.1 k := fun k hk => if_neg (by omega)
      obtain ⟨f, q, p', f4, fo, fc, fm⟩ := ih (i + 1) (jj + 1) (upN p.1 (12 + (ρ * p.1 2 + i)) (VV T n jj), p.2) (by show m + (i + 1) = upN _ _ _ 2; rw [up 2 (by decide)]; omega) (by show ρ < upN _ _ _ 1; rw [up 1 (by decide)]; exact hρ) (hp.kind c9 v9) hj2
      refine ⟨f, q, p', f4, fun x => ⟨by have := (fo x).1; omega, (fo x).2.1, (fo x).2.2.1, (fo x).2.2.2.trans (up 0 (by decide))⟩, fun D v3 v4 hD M hM => ?_, fun D hD M C hM => ?_⟩
      · obtain ⟨M1, e1, hE1, k1⟩ := (j_num (D := D) (by omega) hM.1 (by decide) (by decide) (by decide) (by decide)).1 ok
        have l1 := hM.fr2 hr hE1 k1
        have g1 : gI M1 r 1 = iI (p.1 2) := l1.f 1 (by decide)
        have g2 : gI M1 r 2 = iI ((p.1 1 * p.1 2 : Nat) : Int) := l1.f 2 (by decide)
        obtain ⟨M2, e2, hE2, ok2, no2⟩ := fc D (.int (iI (VV T n jj))) (.int (iI ((ρ * p.1 2 + i : Nat) : Int))) hD _ (l1.kind hr c9 (v := VV T n jj))
        refine ⟨M2, ?_, (eqW hE1).tr (Eqx.tr (eqx_wI Eqx.rf (by simp [roomW, roomS])) hE2), ok2, no2⟩
        show X2 D m_RR_readKinds 27 [.ref 106, .int (iI ρ), .int (iI i), v3, v4] [] M = _
        rw [clC D v3 v4 M hM, e1, bI_some, l1.2.2.1, rm_k _ r hr, gb_T, if_neg (by rw [iI_eq (by omega) (by omega) (by omega) (by omega)]; omega), g1, iI_mul, iI_add, ec, c_hasR (by omega) hr g2 nz9 lt1]
        show gb true _ = _
        rw [gb_T, bI_some, if_neg (by decide), l1.2.2.1, rm_k _ r hr, gb_T, rm_10 _ r hr, rm_t1 _ _ r hr, inb_ok (by omega) (by omega) (by omega), gb_T, ix_nat (by omega), iI_add]
        exact e2
      · obtain ⟨M1, e1, hO1, hF1, k1⟩ := (k_num (D := D) (by omega) hM.1 (lo := 0) (hi := 9) (by decide) (by decide) (by decide) (by decide)).1 ok
        have l1 := hM.nx2 hF1 k1 (by omega) (by omega)
        have g2 : gI M 201 2 = iI (p.1 2) := hM.2.1.1 2 (Or.inl (by decide))
        obtain ⟨M2, C2, e2, hO2, ok2, no2⟩ := fm D hD _ C (l1.put (k0 := 12 + (ρ * p.1 2 + i)) (v := VV T n jj) (by omega) (by omega) (by omega))
        refine ⟨M2, C2, ?_, (hO1.o2.put _ _).tr hO2, ok2, no2⟩
        show X2 D m_Mo_readRow 20 [.ref 197, .int (iI ρ), .int (iI i)] [] M = _
        rw [e_Mo_readRow_20, g2, if_pos (by rw [iI_lt (by omega) (by omega) (by omega) (by omega)]; omega), if_pos hM.1.w, e1, bI_some, iI_mul, iI_add, iI_add, em, inb_ok (by omega) (by omega) (by omega), gb_T, ix_nat (by omega), iI_add]
        exact e2
    · have z := nf_rng T n jj
      refine ⟨nf T n jj, SS T n jj, p, z.2, fun x => absurd x z.1, fun D v3 v4 hD M hM => ?_, fun D hD M C hM => ?_⟩
      · obtain ⟨M1, e1, hE1, k1⟩ := (j_num (D := D) (by omega) hM.1 (by decide) (by decide) (by decide) (by decide)).2 ok
        refine ⟨M1, ?_, eqW hE1, fun x => absurd x z.1, fun _ => k1⟩
        show X2 D m_RR_readKinds 27 [.ref 106, .int (iI ρ), .int (iI i), v3, v4] [] M = _
        have g6 : gR M1 106 2 = r := (eqx_R hE1 (by decide) 2).trans hM.2.2.1
        rw [clC D v3 v4 M hM, e1, bI_some, g6, rm_k _ r hr, gb_T, if_pos rfl, if_neg z.1]
      · obtain ⟨w, M1, e1, hO1, hF1, k1⟩ := (k_num (D := D) (by omega) hM.1 (lo := 0) (hi := 9) (by decide) (by decide) (by decide) (by decide)).2 ok
        have g2 : gI M 201 2 = iI (p.1 2) := hM.2.1.1 2 (Or.inl (by decide))
        have w1 : Wr (wI M1 201 (12 + (ρ * p.1 2 + i)) w) := by
          have := k1.wr z.1 z.2
          unfold Wr at this ⊢
          rw [gI_na (by decide)]; exact this
        have g3 : gI (wI M1 201 (12 + (ρ * p.1 2 + i)) w) 201 2 = iI (p.1 2) := by
          rw [gI_nk (by omega)]; exact (congrFun hF1 2).trans g2
        refine ⟨wI M1 201 (12 + (ρ * p.1 2 + i)) w, C, ?_, hO1.o2.put _ _, fun x => absurd x z.1, fun _ => ⟨(gI_na (by decide)).trans k1.1, (gI_na (by decide)).trans k1.2⟩⟩
        show X2 D m_Mo_readRow 20 [.ref 197, .int (iI ρ), .int (iI i)] [] M = _
        rw [e_Mo_readRow_20, g2, if_pos (by rw [iI_lt (by omega) (by omega) (by omega) (by omega)]; omega), if_pos hM.1.w, e1, bI_some, iI_mul, iI_add, iI_add, em, inb_ok (by omega) (by omega) (by omega), gb_T, ix_nat (by omega), iI_add, e_Mo_readRow_20, if_neg w1]
        split <;> rfl
theorem l_1 {p : Ps} {j : Nat} (hN : TN T n N) (hr : r ∈ rooms) (hp : OkP p) (hj : j < N) (hc : KK T n j = 1) : LQ T n N r p j := by
  have hN1 := hN.1
  have hj1 := hN.2 j hj (by omega)
  have q1 := hp.1.2.1
  have kk : ∀ M, isK O2 M 102 19 = true := fun _ => rfl
  have isl1 : isl (KK T n j) = true := by rw [hc]; decide
  have hiR : (-10 : Int) ≤ (p.1 1 : Int) - 1 ∧ (p.1 1 : Int) - 1 ≤ (1000 : Int) := by omega
  have sw : ∀ d M, LnC T n N r (j + 1) p M → swB (d + 1) (iI (kcls (KK T n j))) M = bI (bI (c2 d m_Tok_passNumber [.ref 102, .int (iI 0), .int (iI ((p.1 1 : Int) - 1))] M) fun r2 M1 => if r2 = iI (-1) then some (.int (iI 0), M1) else X2 d m_RR_readKinds 27 [.ref 106, .int r2, .int (iI 0), uns, uns] [] M1) fun y M' => gb (decide (y &&& 1 = y)) (some (.int y, M')) := fun d M hM => by
    have g0 : gI M r 0 = iI (p.1 1) := hM.f 0 (by decide)
    have e0 : c2 (d + 1) m_RR_readKinds [.ref 106] M = X2 d m_RR_readKinds 0 [.ref 106, uns, uns, uns, uns] [] M := rfl
    rw [hc, show iI ((kcls 1 : Nat) : Int) = iI 11 from rfl]
    unfold swB
    rw [if_neg (show ¬ iI 11 = iI 1 by decide), if_neg (show ¬ iI 11 = iI 2 by decide), if_neg (show ¬ iI 11 = iI 3 by decide), if_neg (show ¬ iI 11 = iI 4 by decide), if_neg (show ¬ iI 11 = iI 5 by decide), if_neg (show ¬ iI 11 = iI 6 by decide), if_neg (show ¬ iI 11 = iI 7 by decide), if_neg (show ¬ iI 11 = iI 8 by decide), if_neg (show ¬ iI 11 = iI 9 by decide), if_neg (show ¬ iI 11 = iI 10 by decide), if_pos rfl, e0, e_RR_readKinds_0, hM.2.2.1, rm_k _ r hr, gb_T, hM.2.1, kk, g0, iI_sub]
    rfl
  by_cases ok : okN T n (j + 1) 0 ((p.1 1 : Int) - 1)
  · have ov := okN_up ok
    have hj2 := hN.2 (j + 1) hj1 (by have := ok.1; omega)
    obtain ⟨f, q, p', f4, fo, fc, fm⟩ := rk_loop hN hr (ρ := VV T n (j + 1)) (p.1 2) 0 (j + 1 + 1) p (by omega) (by omega) hp hj2
    refine ⟨f, q, p', f4, fun x => ⟨by have := (fo x).1; omega, (fo x).2⟩, fun D hD => ?_, fun D hD M C hM => ?_⟩
    · obtain ⟨d, rfl⟩ : ∃ d, D = d + 1 + 1 := ⟨D - 2, by omega⟩
      refine LiC.ln (by omega) hr hp isl1 (fun e => by omega) (fun M hM => ?_)
      obtain ⟨M1, e1, hE1, k1⟩ := (j_num (D := d) (by omega) hM.1 (by decide) (by decide) hiR.1 hiR.2).1 ok
      obtain ⟨M2, e2, hE2, ok2, no2⟩ := fc d uns uns (by omega) M1 (hM.fr2 hr hE1 k1)
      refine ⟨M2, ?_, (eqW hE1).tr hE2, ok2, no2⟩
      have e2' : X2 d m_RR_readKinds 27 [.ref 106, .int (iI (VV T n (j + 1))), .int (iI 0), uns, uns] [] M1 = some (.int (iI (if f = 0 then 1 else 0)), M2) := e2
      rw [sw d M hM, e1, bI_some, if_neg (by rw [iI_eq (by omega) (by omega) (by omega) (by omega)]; omega), e2', bI_some]
      split <;> rfl
    · obtain ⟨d, rfl⟩ : ∃ d, D = d + 1 + 1 := ⟨D - 2, by omega⟩
      obtain ⟨M0, e0, hO0, hF0, k0⟩ := k_nx (D := d) (by omega) hM.1
      have l0 := hM.nx2 hF0 k0 (by omega) (by omega)
      have g1 : gI M0 201 1 = iI (p.1 1) := l0.2.1.1 1 (Or.inl (by decide))
      obtain ⟨M1, e1, hO1, hF1, k1⟩ := (k_num (D := d) (by omega) k0 (lo := 0) (hi := (p.1 1 : Int) - 1) (by decide) (by decide) hiR.1 hiR.2).1 ok
      obtain ⟨M2, C2, e2, hO2, ok2, no2⟩ := fm d (by omega) M1 C (l0.nx2 hF1 k1 (by omega) (by omega))
      refine ⟨M2, C2, ?_, (hO0.o2.tr hO1.o2).tr hO2, ok2, no2⟩
      have er : c2 (d + 1) m_Mo_readRow [.ref 197] M = some (.null, M2) := by
        show X2 d m_Mo_readRow 0 [.ref 197, uns, uns] [] M = _
        rw [e_Mo_readRow_0, e0, bV_some, g1, iI_sub, e1, bI_some]
        exact e2
      rw [m_line1 (by omega) hM hc, er, bV_some]
  · have z := nf_rng T n (j + 1)
    refine ⟨nf T n (j + 1), SS T n (j + 1), p, z.2, fun x => absurd x z.1, fun D hD => ?_, fun D hD M C hM => ?_⟩
    · obtain ⟨d, rfl⟩ : ∃ d, D = d + 1 + 1 := ⟨D - 2, by omega⟩
      refine LiC.ln (by omega) hr hp isl1 (fun e => by omega) (fun M hM => ?_)
      obtain ⟨M1, e1, hE1, k1⟩ := (j_num (D := d) (by omega) hM.1 (by decide) (by decide) hiR.1 hiR.2).2 ok
      refine ⟨M1, ?_, eqW hE1, fun x => absurd x z.1, fun _ => k1⟩
      rw [sw d M hM, e1, bI_some, if_pos rfl, bI_some, if_neg z.1]
      rfl
    · obtain ⟨d, rfl⟩ : ∃ d, D = d + 1 + 1 := ⟨D - 2, by omega⟩
      obtain ⟨M0, e0, hO0, hF0, k0⟩ := k_nx (D := d) (by omega) hM.1
      have l0 := hM.nx2 hF0 k0 (by omega) (by omega)
      have g1 : gI M0 201 1 = iI (p.1 1) := l0.2.1.1 1 (Or.inl (by decide))
      obtain ⟨w, M1, e1, hO1, hF1, k1⟩ := (k_num (D := d) (by omega) k0 (lo := 0) (hi := (p.1 1 : Int) - 1) (by decide) (by decide) hiR.1 hiR.2).2 ok
      have w1 := k1.wr z.1 z.2
      refine ⟨M1, C, ?_, hO0.o2.tr hO1.o2, fun x => absurd x z.1, fun _ => k1⟩
      have er : c2 (d + 1) m_Mo_readRow [.ref 197] M = some (.null, M1) := by
        show X2 d m_Mo_readRow 0 [.ref 197, uns, uns] [] M = _
        rw [e_Mo_readRow_0, e0, bV_some, g1, iI_sub, e1, bI_some, e_Mo_readRow_20, if_neg w1]
        split <;> rfl
      rw [m_line1 (by omega) hM hc, er, bV_some]
end B2
