/-! THE ROOM'S TEXT: lines of one number. -/
section B1
variable {T : Nat → Nat} {n N r : Nat}
theorem LiC.one {d j : Nat} {x : Int} {hi : Int} {p p' : Ps} {k0 : Nat} {v : Int} (hr : r ∈ rooms) (hd : 3 ≤ d) (h1 : -10 ≤ hi) (h2 : hi ≤ 1000)
    (hH : ∀ M, LnC T n N r j p M → c2 (d - 1) m_RR_highest [.ref 106, .int (iI x)] M = some (.int (iI hi), M))
    (hW : ∀ M, LnC T n N r (j + 1) p M → okN T n j 0 hi → oneB (iI x) (iI (VV T n j)) M = some (.int (iI 1), wI M r k0 (iI v)))
    (hP : okN T n j 0 hi → ∀ M, LnC T n N r (j + 1) p M → LnC T n N r (j + 1) p' (wI M r k0 (iI v))) :
    (okN T n j 0 hi → LiC T n N r (fun M => bI (c2 d m_RR_readOne [.ref 106, .int (iI x)] M) fun y M' => gb (decide (y &&& 1 = y)) (some (.int y, M'))) j 0 (j + 1) p p') ∧
    (¬ okN T n j 0 hi → LiC T n N r (fun M => bI (c2 d m_RR_readOne [.ref 106, .int (iI x)] M) fun y M' => gb (decide (y &&& 1 = y)) (some (.int y, M'))) j (nf T n j) (SS T n j) p p') := by
  obtain ⟨d, rfl⟩ : ∃ e, d = e + 1 := ⟨d - 1, by omega⟩
  have kk : ∀ M, isK O2 M 102 19 = true := fun _ => rfl
  have e0 : ∀ M, LnC T n N r j p M → c2 (d + 1) m_RR_readOne [.ref 106, .int (iI x)] M = bI (c2 d m_Tok_passNumber [.ref 102, .int (iI 0), .int (iI hi)] M) fun r4 M3 => if r4 = iI (-1) then some (.int (iI 0), M3) else oneB (iI x) r4 M3 := fun M hM => by
    show X2 d m_RR_readOne 0 [.ref 106, .int (iI x), uns] [] M = _
    have eH : c2 d m_RR_highest [.ref 106, .int (iI x)] M = some (.int (iI hi), M) := hH M hM
    rw [e_RR_readOne_0, eH, bI_some, hM.2.1, kk]
    rfl
  constructor
  · intro ok M hM
    obtain ⟨M1, e1, hE1, k1⟩ := (j_num (D := d) (by omega) hM.1 (by decide) (by decide) h1 h2).1 ok
    have l1 := hM.fr2 hr hE1 k1
    have v0 := VV_lt ok.1
    refine ⟨wI M1 r k0 (iI v), ?_, (eqW hE1).tr (eqW2 (eqx_wI Eqx.rf (by simp))), fun _ => hP ok M1 l1, fun x => absurd rfl x⟩
    show bI (c2 (d + 1) m_RR_readOne [.ref 106, .int (iI x)] M) _ = _
    rw [e0 M hM, e1, bI_some, if_neg (by rw [iI_eq (by omega) (by omega) (by omega) (by omega)]; omega), hW M1 l1 ok, bI_some]
    rfl
  · intro no M hM
    obtain ⟨M1, e1, hE1, k1⟩ := (j_num (D := d) (by omega) hM.1 (by decide) (by decide) h1 h2).2 no
    have z := nf_rng T n j
    refine ⟨M1, ?_, eqW hE1, fun x => absurd x z.1, fun _ => k1⟩
    show bI (c2 (d + 1) m_RR_readOne [.ref 106, .int (iI x)] M) _ = _
    rw [e0 M hM, e1, bI_some, if_pos rfl, bI_some, if_neg z.1]
    rfl
theorem okN_up {j : Nat} {hi : Int} (h : okN T n j 0 hi) : (VV T n j : Int) ≤ hi ∧ VV T n j < 1000 := ⟨h.2.2, VV_lt h.1⟩
theorem l_4 {p : Ps} {j : Nat} (hN : TN T n N) (hr : r ∈ rooms) (hp : OkP p) (hj : j < N) (hc : KK T n j = 4) : LQ T n N r p j := by
  have hN1 := hN.1
  have hj1 := hN.2 j hj (by omega)
  obtain ⟨⟨p1, p2, p3, p4, p5, p6, p7, p8, p9, p10, p11, p12⟩, pk, pp, pt, pg⟩ := hp
  have nz9 : p.1 1 * p.1 2 ≤ 9 := Nat.mul_le_mul p2 p4
  have lc := fun d => LiC.one (d := d) (T := T) (n := n) (N := N) (p := p) (p' := (upN p.1 26 (VV T n (j + 1)), p.2)) (k0 := 4) (v := (cwho (VV T n (j + 1)))) (j := j + 1) (x := 12) (hi := ((p.1 3 : Int) - 1)) hr
  have hs : ∀ d, 1 ≤ d → ∀ M, LnC T n N r (j + 1) p M → c2 d m_RR_highest [.ref 106, .int (iI 12)] M = some (.int (iI ((p.1 3 : Int) - 1)), M) := fun d hd M hM => by
    obtain ⟨e, rfl⟩ := Nat.exists_eq_add_of_le' hd
    show X2 e m_RR_highest 0 [.ref 106, .int (iI 12)] [] M = _
    have g3 : gI M r 3 = iI (p.1 3) := hM.f 3 (by decide)
    rw [e_RR_highest_0, if_neg (by decide), if_pos rfl, hM.2.2.1, rm_k _ r hr, gb_T, g3, iI_sub]
  have hw : ∀ M, LnC T n N r (j + 1 + 1) p M → okN T n (j + 1) 0 ((p.1 3 : Int) - 1) → oneB (iI 12) (iI (VV T n (j + 1))) M = some (.int (iI 1), wI M r 4 (iI (cwho (VV T n (j + 1))))) := fun M hM ok => by
    have ov := okN_up ok
    unfold oneB
    rw [if_neg (show ¬ iI 12 = iI 5 by decide), if_pos (show iI 12 = iI 12 from rfl), hM.2.2.1, rm_k _ r hr, gb_T, show cwho (VV T n (j + 1)) = (VV T n (j + 1) : Int) from if_neg (by omega)]
  have hq : okN T n (j + 1) 0 ((p.1 3 : Int) - 1) → ∀ M, LnC T n N r (j + 1 + 1) p M → LnC T n N r (j + 1 + 1) (upN p.1 26 (VV T n (j + 1)), p.2) (wI M r 4 (iI (cwho (VV T n (j + 1))))) := fun ok M hM => hM.put hr (fun k hk => by
      rcases (show k = 0 ∨ k = 1 ∨ k = 2 ∨ k = 3 ∨ k = 4 ∨ k = 5 ∨ k = 6 ∨ k = 7 ∨ k = 8 ∨ k = 9 by omega) with rfl | rfl | rfl | rfl | rfl | rfl | rfl | rfl | rfl | rfl <;> rfl) (fun k hk => if_neg (by omega))
  have sw : ∀ d M, swB d (iI (kcls (KK T n j))) M = bI (c2 d m_RR_readOne [.ref 106, .int (iI 12)] M) fun y M' => gb (decide (y &&& 1 = y)) (some (.int y, M')) := fun d M => by
    rw [hc, show iI ((kcls 4 : Nat) : Int) = iI 12 from rfl]
    unfold swB
    rw [if_neg (show ¬ iI 12 = iI 1 by decide), if_neg (show ¬ iI 12 = iI 2 by decide), if_neg (show ¬ iI 12 = iI 3 by decide), if_neg (show ¬ iI 12 = iI 4 by decide), if_neg (show ¬ iI 12 = iI 5 by decide), if_neg (show ¬ iI 12 = iI 6 by decide), if_neg (show ¬ iI 12 = iI 7 by decide), if_neg (show ¬ iI 12 = iI 8 by decide), if_neg (show ¬ iI 12 = iI 9 by decide), if_neg (show ¬ iI 12 = iI 10 by decide), if_neg (show ¬ iI 12 = iI 11 by decide), if_pos rfl]
  have isl1 : isl (KK T n j) = true := by rw [hc]; decide
  have hiR : (-10 : Int) ≤ ((p.1 3 : Int) - 1) ∧ ((p.1 3 : Int) - 1) ≤ (1000 : Int) := by omega
  by_cases ok : okN T n (j + 1) 0 ((p.1 3 : Int) - 1)
  · have ov := okN_up ok
    have hj2 := hN.2 (j + 1) hj1 (by have := ok.1; omega)
    refine ⟨0, j + 1 + 1, (upN p.1 26 (VV T n (j + 1)), p.2), Nat.zero_le _, fun _ => ⟨by omega, hj2, ?_, rfl⟩, fun D hD => ?_, fun D hD M C hM => ?_⟩
    · exact ⟨⟨p1, p2, p3, p4, p5, p6, p7, p8, Or.inr (show VV T n (j + 1) < p.1 3 by omega), p10, p11, p12⟩, fun c hc => by show upN p.1 26 _ (12 + c) ≤ 9; rw [show upN p.1 26 (VV T n (j + 1)) (12 + c) = p.1 (12 + c) from if_neg (by omega)]; exact pk c hc, fun t ht => by show upN p.1 26 _ (21 + t) ≤ 9; have ht' : t < p.1 3 := ht; rw [show upN p.1 26 (VV T n (j + 1)) (21 + t) = p.1 (21 + t) from if_neg (by omega)]; exact pp t ht, pt, pg⟩
    · obtain ⟨d, rfl⟩ : ∃ d, D = d + 1 := ⟨D - 1, by omega⟩
      exact LiC.ln (by omega) hr ⟨⟨p1, p2, p3, p4, p5, p6, p7, p8, p9, p10, p11, p12⟩, pk, pp, pt, pg⟩ isl1 (fun e => by omega) (((lc d (by omega) hiR.1 hiR.2 (fun M hM => hs (d - 1) (by omega) M hM) hw hq).1 ok).cg (fun M _ => sw d M))
    · obtain ⟨d, rfl⟩ : ∃ d, D = d + 1 := ⟨D - 1, by omega⟩
      obtain ⟨M1, hO1, l1, em⟩ := m_line4 (d := d) (by omega) hM hc (by omega)
      have g3 : gI M1 201 3 = iI (p.1 3) := l1.2.1.1 3 (Or.inl (by decide))
      obtain ⟨M2, e2, hO2, hF2, k2⟩ := (k_num (D := d) (by omega) l1.1 (lo := 0) (hi := ((p.1 3 : Int) - 1)) (by decide) (by decide) hiR.1 hiR.2).1 ok
      refine ⟨wI M2 201 26 (iI (VV T n (j + 1))), C, ?_, (hO1.o2.tr hO2.o2).put _ _, fun _ => (l1.nx2 hF2 k2 (by omega) (by omega)).put (by decide) (by decide) (by decide), fun x => absurd rfl x⟩
      rw [em, g3, iI_sub, e2, bI_some]
  · have z := nf_rng T n (j + 1)
    refine ⟨nf T n (j + 1), SS T n (j + 1), (upN p.1 26 (VV T n (j + 1)), p.2), z.2, fun x => absurd x z.1, fun D hD => ?_, fun D hD M C hM => ?_⟩
    · obtain ⟨d, rfl⟩ : ∃ d, D = d + 1 := ⟨D - 1, by omega⟩
      exact LiC.ln (by omega) hr ⟨⟨p1, p2, p3, p4, p5, p6, p7, p8, p9, p10, p11, p12⟩, pk, pp, pt, pg⟩ isl1 (fun e => by omega) (((lc d (by omega) hiR.1 hiR.2 (fun M hM => hs (d - 1) (by omega) M hM) hw hq).2 ok).cg (fun M _ => sw d M))
    · obtain ⟨d, rfl⟩ : ∃ d, D = d + 1 := ⟨D - 1, by omega⟩
      obtain ⟨M1, hO1, l1, em⟩ := m_line4 (d := d) (by omega) hM hc (by omega)
      have g3 : gI M1 201 3 = iI (p.1 3) := l1.2.1.1 3 (Or.inl (by decide))
      obtain ⟨w, M2, e2, hO2, hF2, k2⟩ := (k_num (D := d) (by omega) l1.1 (lo := 0) (hi := ((p.1 3 : Int) - 1)) (by decide) (by decide) hiR.1 hiR.2).2 ok
      refine ⟨wI M2 201 26 w, C, ?_, (hO1.o2.tr hO2.o2).put _ _, fun x => absurd x z.1, fun _ => ⟨(gI_na (by decide)).trans k2.1, (gI_na (by decide)).trans k2.2⟩⟩
      rw [em, g3, iI_sub, e2, bI_some]
theorem l_5 {p : Ps} {j : Nat} (hN : TN T n N) (hr : r ∈ rooms) (hp : OkP p) (hj : j < N) (hc : KK T n j = 5) : LQ T n N r p j := by
  have hN1 := hN.1
  have hj1 := hN.2 j hj (by omega)
  obtain ⟨⟨p1, p2, p3, p4, p5, p6, p7, p8, p9, p10, p11, p12⟩, pk, pp, pt, pg⟩ := hp
  have nz9 : p.1 1 * p.1 2 ≤ 9 := Nat.mul_le_mul p2 p4
  have lc := fun d => LiC.one (d := d) (T := T) (n := n) (N := N) (p := p) (p' := (upN p.1 25 (p.1 25 ||| 1 <<< VV T n (j + 1)), p.2)) (k0 := 5) (v := ((p.1 25 ||| 1 <<< VV T n (j + 1) : Nat) : Int)) (j := j + 1) (x := 5) (hi := (((p.1 1 * p.1 2 : Nat) : Int) - 1)) hr
  have hs : ∀ d, 1 ≤ d → ∀ M, LnC T n N r (j + 1) p M → c2 d m_RR_highest [.ref 106, .int (iI 5)] M = some (.int (iI (((p.1 1 * p.1 2 : Nat) : Int) - 1)), M) := fun d hd M hM => by
    obtain ⟨e, rfl⟩ := Nat.exists_eq_add_of_le' hd
    show X2 e m_RR_highest 0 [.ref 106, .int (iI 5)] [] M = _
    have g2 : gI M r 2 = iI ((p.1 1 * p.1 2 : Nat) : Int) := hM.f 2 (by decide)
    rw [e_RR_highest_0, if_pos rfl, hM.2.2.1, rm_k _ r hr, gb_T, g2, iI_sub]
  have hw : ∀ M, LnC T n N r (j + 1 + 1) p M → okN T n (j + 1) 0 (((p.1 1 * p.1 2 : Nat) : Int) - 1) → oneB (iI 5) (iI (VV T n (j + 1))) M = some (.int (iI 1), wI M r 5 (iI ((p.1 25 ||| 1 <<< VV T n (j + 1) : Nat) : Int))) := fun M hM ok => by
    have ov := okN_up ok
    unfold oneB
    have g5 : gI M r 5 = iI (p.1 25) := hM.f 5 (by decide)
    rw [if_pos (show iI 5 = iI 5 from rfl), hM.2.2.1, rm_k _ r hr, gb_T, gb_T, g5, show iI 1 = iI ((1 : Nat) : Int) from rfl, iI_shl 1 (k := VV T n (j + 1)) (by omega), iI_or]
  have hq : okN T n (j + 1) 0 (((p.1 1 * p.1 2 : Nat) : Int) - 1) → ∀ M, LnC T n N r (j + 1 + 1) p M → LnC T n N r (j + 1 + 1) (upN p.1 25 (p.1 25 ||| 1 <<< VV T n (j + 1)), p.2) (wI M r 5 (iI ((p.1 25 ||| 1 <<< VV T n (j + 1) : Nat) : Int))) := fun ok M hM => hM.put hr (fun k hk => by
      rcases (show k = 0 ∨ k = 1 ∨ k = 2 ∨ k = 3 ∨ k = 4 ∨ k = 5 ∨ k = 6 ∨ k = 7 ∨ k = 8 ∨ k = 9 by omega) with rfl | rfl | rfl | rfl | rfl | rfl | rfl | rfl | rfl | rfl <;> rfl) (fun k hk => if_neg (by omega))
  have sw : ∀ d M, swB d (iI (kcls (KK T n j))) M = bI (c2 d m_RR_readOne [.ref 106, .int (iI 5)] M) fun y M' => gb (decide (y &&& 1 = y)) (some (.int y, M')) := fun d M => by
    rw [hc, show iI ((kcls 5 : Nat) : Int) = iI 5 from rfl]
    unfold swB
    rw [if_neg (show ¬ iI 5 = iI 1 by decide), if_neg (show ¬ iI 5 = iI 2 by decide), if_neg (show ¬ iI 5 = iI 3 by decide), if_neg (show ¬ iI 5 = iI 4 by decide), if_pos rfl]
  have isl1 : isl (KK T n j) = true := by rw [hc]; decide
  have hiR : (-10 : Int) ≤ (((p.1 1 * p.1 2 : Nat) : Int) - 1) ∧ (((p.1 1 * p.1 2 : Nat) : Int) - 1) ≤ (1000 : Int) := by omega
  by_cases ok : okN T n (j + 1) 0 (((p.1 1 * p.1 2 : Nat) : Int) - 1)
  · have ov := okN_up ok
    have hj2 := hN.2 (j + 1) hj1 (by have := ok.1; omega)
    refine ⟨0, j + 1 + 1, (upN p.1 25 (p.1 25 ||| 1 <<< VV T n (j + 1)), p.2), Nat.zero_le _, fun _ => ⟨by omega, hj2, ?_, rfl⟩, fun D hD => ?_, fun D hD M C hM => ?_⟩
    · exact ⟨⟨p1, p2, p3, p4, p5, p6, p7, Nat.or_lt_two_pow p8 (by rw [Nat.one_shiftLeft]; exact Nat.pow_lt_pow_right (by decide) (show VV T n (j + 1) < p.1 1 * p.1 2 by omega)), p9, p10, p11, p12⟩, fun c hc => by show upN p.1 25 _ (12 + c) ≤ 9; rw [show upN p.1 25 (p.1 25 ||| 1 <<< VV T n (j + 1)) (12 + c) = p.1 (12 + c) from if_neg (by omega)]; exact pk c hc, fun t ht => by show upN p.1 25 _ (21 + t) ≤ 9; have ht' : t < p.1 3 := ht; rw [show upN p.1 25 (p.1 25 ||| 1 <<< VV T n (j + 1)) (21 + t) = p.1 (21 + t) from if_neg (by omega)]; exact pp t ht, pt, pg⟩
    · obtain ⟨d, rfl⟩ : ∃ d, D = d + 1 := ⟨D - 1, by omega⟩
      exact LiC.ln (by omega) hr ⟨⟨p1, p2, p3, p4, p5, p6, p7, p8, p9, p10, p11, p12⟩, pk, pp, pt, pg⟩ isl1 (fun e => by omega) (((lc d (by omega) hiR.1 hiR.2 (fun M hM => hs (d - 1) (by omega) M hM) hw hq).1 ok).cg (fun M _ => sw d M))
    · obtain ⟨d, rfl⟩ : ∃ d, D = d + 1 := ⟨D - 1, by omega⟩
      obtain ⟨M1, hO1, l1, em⟩ := m_line5 (d := d) (by omega) hM hc (by omega)
      have g1 : gI M1 201 1 = iI (p.1 1) := l1.2.1.1 1 (Or.inl (by decide))
      have g2 : gI M1 201 2 = iI (p.1 2) := l1.2.1.1 2 (Or.inl (by decide))
      have g25 : gI M1 201 25 = iI (p.1 25) := l1.2.1.1 25 (Or.inr (Or.inr (by decide)))
      have mz : ((p.1 1 : Int) * (p.1 2 : Int)) = ((p.1 1 * p.1 2 : Nat) : Int) := (Int.natCast_mul _ _).symm
      obtain ⟨e, rfl⟩ : ∃ e, d = e + 1 := ⟨d - 1, by omega⟩
      obtain ⟨M2, e2, hO2, hF2, k2⟩ := (k_num (D := e) (by omega) l1.1 (lo := 0) (hi := (((p.1 1 * p.1 2 : Nat) : Int) - 1)) (by decide) (by decide) hiR.1 hiR.2).1 ok
      have er : c2 (e + 1) m_Mo_readRose [.ref 197] M1 = some (.int (iI ((1 <<< VV T n (j + 1) : Nat) : Int)), M2) := by
        show X2 e m_Mo_readRose 0 [.ref 197] [] M1 = _
        rw [e_Mo_readRose_0, g1, g2, iI_mul, iI_sub, mz, e2, bI_some, show iI 1 = iI ((1 : Nat) : Int) from rfl, iI_shl 1 (k := VV T n (j + 1)) (by omega)]
      refine ⟨wI M2 201 25 (iI ((p.1 25 ||| 1 <<< VV T n (j + 1) : Nat) : Int)), C, ?_, (hO1.o2.tr hO2.o2).put _ _, fun _ => (l1.nx2 hF2 k2 (by omega) (by omega)).put (by decide) (by decide) (by decide), fun x => absurd rfl x⟩
      rw [em, er, bI_some, g25, iI_or]
  · have z := nf_rng T n (j + 1)
    refine ⟨nf T n (j + 1), SS T n (j + 1), (upN p.1 25 (p.1 25 ||| 1 <<< VV T n (j + 1)), p.2), z.2, fun x => absurd x z.1, fun D hD => ?_, fun D hD M C hM => ?_⟩
    · obtain ⟨d, rfl⟩ : ∃ d, D = d + 1 := ⟨D - 1, by omega⟩
      exact LiC.ln (by omega) hr ⟨⟨p1, p2, p3, p4, p5, p6, p7, p8, p9, p10, p11, p12⟩, pk, pp, pt, pg⟩ isl1 (fun e => by omega) (((lc d (by omega) hiR.1 hiR.2 (fun M hM => hs (d - 1) (by omega) M hM) hw hq).2 ok).cg (fun M _ => sw d M))
    · obtain ⟨d, rfl⟩ : ∃ d, D = d + 1 := ⟨D - 1, by omega⟩
      obtain ⟨M1, hO1, l1, em⟩ := m_line5 (d := d) (by omega) hM hc (by omega)
      have g1 : gI M1 201 1 = iI (p.1 1) := l1.2.1.1 1 (Or.inl (by decide))
      have g2 : gI M1 201 2 = iI (p.1 2) := l1.2.1.1 2 (Or.inl (by decide))
      have mz : ((p.1 1 : Int) * (p.1 2 : Int)) = ((p.1 1 * p.1 2 : Nat) : Int) := (Int.natCast_mul _ _).symm
      obtain ⟨e, rfl⟩ : ∃ e, d = e + 1 := ⟨d - 1, by omega⟩
      obtain ⟨w, M2, e2, hO2, hF2, k2⟩ := (k_num (D := e) (by omega) l1.1 (lo := 0) (hi := (((p.1 1 * p.1 2 : Nat) : Int) - 1)) (by decide) (by decide) hiR.1 hiR.2).2 ok
      have er : c2 (e + 1) m_Mo_readRose [.ref 197] M1 = some (.int (iI 1 <<< (w &&& 31)), M2) := by
        show X2 e m_Mo_readRose 0 [.ref 197] [] M1 = _
        rw [e_Mo_readRose_0, g1, g2, iI_mul, iI_sub, mz, e2, bI_some]
      refine ⟨wI M2 201 25 (gI M1 201 25 ||| iI 1 <<< (w &&& 31)), C, ?_, (hO1.o2.tr hO2.o2).put _ _, fun x => absurd x z.1, fun _ => ⟨(gI_na (by decide)).trans k2.1, (gI_na (by decide)).trans k2.2⟩⟩
      rw [em, er, bI_some]
theorem l_7 {p : Ps} {j : Nat} (hN : TN T n N) (hr : r ∈ rooms) (hp : OkP p) (hj : j < N) (hc : KK T n j = 7) : LQ T n N r p j := by
  have hN1 := hN.1
  have hj1 := hN.2 j hj (by omega)
  obtain ⟨⟨p1, p2, p3, p4, p5, p6, p7, p8, p9, p10, p11, p12⟩, pk, pp, pt, pg⟩ := hp
  have nz9 : p.1 1 * p.1 2 ≤ 9 := Nat.mul_le_mul p2 p4
  have lc := fun d => LiC.one (d := d) (T := T) (n := n) (N := N) (p := p) (p' := (upN p.1 5 (VV T n (j + 1)), p.2)) (k0 := 7) (v := (VV T n (j + 1))) (j := j + 1) (x := 13) (hi := 10) hr
  have hs : ∀ d, 1 ≤ d → ∀ M, LnC T n N r (j + 1) p M → c2 d m_RR_highest [.ref 106, .int (iI 13)] M = some (.int (iI 10), M) := fun d hd M hM => by
    obtain ⟨e, rfl⟩ := Nat.exists_eq_add_of_le' hd
    show X2 e m_RR_highest 0 [.ref 106, .int (iI 13)] [] M = _
    rw [e_RR_highest_0, if_neg (by decide), if_neg (by decide), if_pos rfl]
  have hw : ∀ M, LnC T n N r (j + 1 + 1) p M → okN T n (j + 1) 0 10 → oneB (iI 13) (iI (VV T n (j + 1))) M = some (.int (iI 1), wI M r 7 (iI (VV T n (j + 1)))) := fun M hM ok => by
    have ov := okN_up ok
    unfold oneB
    rw [if_neg (show ¬ iI 13 = iI 5 by decide), if_neg (show ¬ iI 13 = iI 12 by decide), if_pos (show iI 13 = iI 13 from rfl), hM.2.2.1, rm_k _ r hr, gb_T]
  have hq : okN T n (j + 1) 0 10 → ∀ M, LnC T n N r (j + 1 + 1) p M → LnC T n N r (j + 1 + 1) (upN p.1 5 (VV T n (j + 1)), p.2) (wI M r 7 (iI (VV T n (j + 1)))) := fun ok M hM => hM.put hr (fun k hk => by
      rcases (show k = 0 ∨ k = 1 ∨ k = 2 ∨ k = 3 ∨ k = 4 ∨ k = 5 ∨ k = 6 ∨ k = 7 ∨ k = 8 ∨ k = 9 by omega) with rfl | rfl | rfl | rfl | rfl | rfl | rfl | rfl | rfl | rfl <;> rfl) (fun k hk => if_neg (by omega))
  have sw : ∀ d M, swB d (iI (kcls (KK T n j))) M = bI (c2 d m_RR_readOne [.ref 106, .int (iI 13)] M) fun y M' => gb (decide (y &&& 1 = y)) (some (.int y, M')) := fun d M => by
    rw [hc, show iI ((kcls 7 : Nat) : Int) = iI 13 from rfl]
    unfold swB
    rw [if_neg (show ¬ iI 13 = iI 1 by decide), if_neg (show ¬ iI 13 = iI 2 by decide), if_neg (show ¬ iI 13 = iI 3 by decide), if_neg (show ¬ iI 13 = iI 4 by decide), if_neg (show ¬ iI 13 = iI 5 by decide), if_neg (show ¬ iI 13 = iI 6 by decide), if_neg (show ¬ iI 13 = iI 7 by decide), if_neg (show ¬ iI 13 = iI 8 by decide), if_neg (show ¬ iI 13 = iI 9 by decide), if_neg (show ¬ iI 13 = iI 10 by decide), if_neg (show ¬ iI 13 = iI 11 by decide), if_neg (show ¬ iI 13 = iI 12 by decide), if_pos rfl]
  have isl1 : isl (KK T n j) = true := by rw [hc]; decide
  have hiR : (-10 : Int) ≤ 10 ∧ 10 ≤ (1000 : Int) := by omega
  by_cases ok : okN T n (j + 1) 0 10
  · have ov := okN_up ok
    have hj2 := hN.2 (j + 1) hj1 (by have := ok.1; omega)
    refine ⟨0, j + 1 + 1, (upN p.1 5 (VV T n (j + 1)), p.2), Nat.zero_le _, fun _ => ⟨by omega, hj2, ?_, rfl⟩, fun D hD => ?_, fun D hD M C hM => ?_⟩
    · exact ⟨⟨p1, p2, p3, p4, p5, p6, show VV T n (j + 1) ≤ 10 by omega, p8, p9, p10, p11, p12⟩, fun c hc => by show upN p.1 5 _ (12 + c) ≤ 9; rw [show upN p.1 5 (VV T n (j + 1)) (12 + c) = p.1 (12 + c) from if_neg (by omega)]; exact pk c hc, fun t ht => by show upN p.1 5 _ (21 + t) ≤ 9; rw [show upN p.1 5 (VV T n (j + 1)) (21 + t) = p.1 (21 + t) from if_neg (by omega)]; exact pp t ht, pt, pg⟩
    · obtain ⟨d, rfl⟩ : ∃ d, D = d + 1 := ⟨D - 1, by omega⟩
      exact LiC.ln (by omega) hr ⟨⟨p1, p2, p3, p4, p5, p6, p7, p8, p9, p10, p11, p12⟩, pk, pp, pt, pg⟩ isl1 (fun e => by omega) (((lc d (by omega) hiR.1 hiR.2 (fun M hM => hs (d - 1) (by omega) M hM) hw hq).1 ok).cg (fun M _ => sw d M))
    · obtain ⟨d, rfl⟩ : ∃ d, D = d + 1 := ⟨D - 1, by omega⟩
      obtain ⟨M1, hO1, l1, em⟩ := m_line7 (d := d) (by omega) hM hc (by omega)
      obtain ⟨M2, e2, hO2, hF2, k2⟩ := (k_num (D := d) (by omega) l1.1 (lo := 0) (hi := 10) (by decide) (by decide) hiR.1 hiR.2).1 ok
      refine ⟨wI M2 201 5 (iI (VV T n (j + 1))), C, ?_, (hO1.o2.tr hO2.o2).put _ _, fun _ => (l1.nx2 hF2 k2 (by omega) (by omega)).put (by decide) (by decide) (by decide), fun x => absurd rfl x⟩
      rw [em, e2, bI_some]
  · have z := nf_rng T n (j + 1)
    refine ⟨nf T n (j + 1), SS T n (j + 1), (upN p.1 5 (VV T n (j + 1)), p.2), z.2, fun x => absurd x z.1, fun D hD => ?_, fun D hD M C hM => ?_⟩
    · obtain ⟨d, rfl⟩ : ∃ d, D = d + 1 := ⟨D - 1, by omega⟩
      exact LiC.ln (by omega) hr ⟨⟨p1, p2, p3, p4, p5, p6, p7, p8, p9, p10, p11, p12⟩, pk, pp, pt, pg⟩ isl1 (fun e => by omega) (((lc d (by omega) hiR.1 hiR.2 (fun M hM => hs (d - 1) (by omega) M hM) hw hq).2 ok).cg (fun M _ => sw d M))
    · obtain ⟨d, rfl⟩ : ∃ d, D = d + 1 := ⟨D - 1, by omega⟩
      obtain ⟨M1, hO1, l1, em⟩ := m_line7 (d := d) (by omega) hM hc (by omega)
      obtain ⟨w, M2, e2, hO2, hF2, k2⟩ := (k_num (D := d) (by omega) l1.1 (lo := 0) (hi := 10) (by decide) (by decide) hiR.1 hiR.2).2 ok
      refine ⟨wI M2 201 5 w, C, ?_, (hO1.o2.tr hO2.o2).put _ _, fun x => absurd x z.1, fun _ => ⟨(gI_na (by decide)).trans k2.1, (gI_na (by decide)).trans k2.2⟩⟩
      rw [em, e2, bI_some]
theorem l_8 {p : Ps} {j : Nat} (hN : TN T n N) (hr : r ∈ rooms) (hp : OkP p) (hj : j < N) (hc : KK T n j = 8) : LQ T n N r p j := by
  have hN1 := hN.1
  have hj1 := hN.2 j hj (by omega)
  obtain ⟨⟨p1, p2, p3, p4, p5, p6, p7, p8, p9, p10, p11, p12⟩, pk, pp, pt, pg⟩ := hp
  have nz9 : p.1 1 * p.1 2 ≤ 9 := Nat.mul_le_mul p2 p4
  have lc := fun d => LiC.one (d := d) (T := T) (n := n) (N := N) (p := p) (p' := (upN p.1 27 (VV T n (j + 1)), p.2)) (k0 := 8) (v := (VV T n (j + 1))) (j := j + 1) (x := 6) (hi := 9) hr
  have hs : ∀ d, 1 ≤ d → ∀ M, LnC T n N r (j + 1) p M → c2 d m_RR_highest [.ref 106, .int (iI 6)] M = some (.int (iI 9), M) := fun d hd M hM => by
    obtain ⟨e, rfl⟩ := Nat.exists_eq_add_of_le' hd
    show X2 e m_RR_highest 0 [.ref 106, .int (iI 6)] [] M = _
    rw [e_RR_highest_0, if_neg (by decide), if_neg (by decide), if_neg (by decide)]
  have hw : ∀ M, LnC T n N r (j + 1 + 1) p M → okN T n (j + 1) 0 9 → oneB (iI 6) (iI (VV T n (j + 1))) M = some (.int (iI 1), wI M r 8 (iI (VV T n (j + 1)))) := fun M hM ok => by
    have ov := okN_up ok
    unfold oneB
    rw [if_neg (show ¬ iI 6 = iI 5 by decide), if_neg (show ¬ iI 6 = iI 12 by decide), if_neg (show ¬ iI 6 = iI 13 by decide), hM.2.2.1, rm_k _ r hr, gb_T]
  have hq : okN T n (j + 1) 0 9 → ∀ M, LnC T n N r (j + 1 + 1) p M → LnC T n N r (j + 1 + 1) (upN p.1 27 (VV T n (j + 1)), p.2) (wI M r 8 (iI (VV T n (j + 1)))) := fun ok M hM => hM.put hr (fun k hk => by
      rcases (show k = 0 ∨ k = 1 ∨ k = 2 ∨ k = 3 ∨ k = 4 ∨ k = 5 ∨ k = 6 ∨ k = 7 ∨ k = 8 ∨ k = 9 by omega) with rfl | rfl | rfl | rfl | rfl | rfl | rfl | rfl | rfl | rfl <;> rfl) (fun k hk => if_neg (by omega))
  have sw : ∀ d M, swB d (iI (kcls (KK T n j))) M = bI (c2 d m_RR_readOne [.ref 106, .int (iI 6)] M) fun y M' => gb (decide (y &&& 1 = y)) (some (.int y, M')) := fun d M => by
    rw [hc, show iI ((kcls 8 : Nat) : Int) = iI 6 from rfl]
    unfold swB
    rw [if_neg (show ¬ iI 6 = iI 1 by decide), if_neg (show ¬ iI 6 = iI 2 by decide), if_neg (show ¬ iI 6 = iI 3 by decide), if_neg (show ¬ iI 6 = iI 4 by decide), if_neg (show ¬ iI 6 = iI 5 by decide), if_pos rfl]
  have isl1 : isl (KK T n j) = true := by rw [hc]; decide
  have hiR : (-10 : Int) ≤ 9 ∧ 9 ≤ (1000 : Int) := by omega
  by_cases ok : okN T n (j + 1) 0 9
  · have ov := okN_up ok
    have hj2 := hN.2 (j + 1) hj1 (by have := ok.1; omega)
    refine ⟨0, j + 1 + 1, (upN p.1 27 (VV T n (j + 1)), p.2), Nat.zero_le _, fun _ => ⟨by omega, hj2, ?_, rfl⟩, fun D hD => ?_, fun D hD M C hM => ?_⟩
    · exact ⟨⟨p1, p2, p3, p4, p5, p6, p7, p8, p9, show VV T n (j + 1) ≤ 9 by omega, p11, p12⟩, fun c hc => by show upN p.1 27 _ (12 + c) ≤ 9; rw [show upN p.1 27 (VV T n (j + 1)) (12 + c) = p.1 (12 + c) from if_neg (by omega)]; exact pk c hc, fun t ht => by show upN p.1 27 _ (21 + t) ≤ 9; have ht' : t < p.1 3 := ht; rw [show upN p.1 27 (VV T n (j + 1)) (21 + t) = p.1 (21 + t) from if_neg (by omega)]; exact pp t ht, pt, pg⟩
    · obtain ⟨d, rfl⟩ : ∃ d, D = d + 1 := ⟨D - 1, by omega⟩
      exact LiC.ln (by omega) hr ⟨⟨p1, p2, p3, p4, p5, p6, p7, p8, p9, p10, p11, p12⟩, pk, pp, pt, pg⟩ isl1 (fun e => by omega) (((lc d (by omega) hiR.1 hiR.2 (fun M hM => hs (d - 1) (by omega) M hM) hw hq).1 ok).cg (fun M _ => sw d M))
    · obtain ⟨d, rfl⟩ : ∃ d, D = d + 1 := ⟨D - 1, by omega⟩
      obtain ⟨M1, hO1, l1, em⟩ := m_line8 (d := d) (by omega) hM hc (by omega)
      obtain ⟨M2, e2, hO2, hF2, k2⟩ := (k_num (D := d) (by omega) l1.1 (lo := 0) (hi := 9) (by decide) (by decide) hiR.1 hiR.2).1 ok
      refine ⟨wI M2 201 27 (iI (VV T n (j + 1))), C, ?_, (hO1.o2.tr hO2.o2).put _ _, fun _ => (l1.nx2 hF2 k2 (by omega) (by omega)).put (by decide) (by decide) (by decide), fun x => absurd rfl x⟩
      rw [em, e2, bI_some]
  · have z := nf_rng T n (j + 1)
    refine ⟨nf T n (j + 1), SS T n (j + 1), (upN p.1 27 (VV T n (j + 1)), p.2), z.2, fun x => absurd x z.1, fun D hD => ?_, fun D hD M C hM => ?_⟩
    · obtain ⟨d, rfl⟩ : ∃ d, D = d + 1 := ⟨D - 1, by omega⟩
      exact LiC.ln (by omega) hr ⟨⟨p1, p2, p3, p4, p5, p6, p7, p8, p9, p10, p11, p12⟩, pk, pp, pt, pg⟩ isl1 (fun e => by omega) (((lc d (by omega) hiR.1 hiR.2 (fun M hM => hs (d - 1) (by omega) M hM) hw hq).2 ok).cg (fun M _ => sw d M))
    · obtain ⟨d, rfl⟩ : ∃ d, D = d + 1 := ⟨D - 1, by omega⟩
      obtain ⟨M1, hO1, l1, em⟩ := m_line8 (d := d) (by omega) hM hc (by omega)
      obtain ⟨w, M2, e2, hO2, hF2, k2⟩ := (k_num (D := d) (by omega) l1.1 (lo := 0) (hi := 9) (by decide) (by decide) hiR.1 hiR.2).2 ok
      refine ⟨wI M2 201 27 w, C, ?_, (hO1.o2.tr hO2.o2).put _ _, fun x => absurd x z.1, fun _ => ⟨(gI_na (by decide)).trans k2.1, (gI_na (by decide)).trans k2.2⟩⟩
      rw [em, e2, bI_some]
end B1
