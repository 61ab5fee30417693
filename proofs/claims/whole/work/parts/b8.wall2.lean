/-! THE ROOM'S TEXT: its first line. -/
section B8
variable {T : Nat → Nat} {n N r : Nat}
def pW (R W : Nat) : Ps := (upN (upN (upN g0 1 R) 2 W) 0 1, fun _ => [])
theorem pW_1 (R W : Nat) : (pW R W).1 1 = R := rfl
theorem pW_2 (R W : Nat) : (pW R W).1 2 = W := rfl
theorem pW_o (R W : Nat) {k : Nat} (h : 2 < k) : (pW R W).1 k = g0 k := (if_neg (by omega)).trans ((if_neg (by omega)).trans (if_neg (by omega)))
theorem OkP.wal {R W : Nat} (h1 : 1 ≤ R) (h2 : R ≤ 3) (h3 : 1 ≤ W) (h4 : W ≤ 3) : OkP (pW R W) := by
  refine ⟨⟨h1, h2, h3, h4, Nat.zero_le _, Nat.two_pow_pos _, ?_, Nat.two_pow_pos _, Or.inl rfl, Nat.zero_le _, rfl, rfl⟩, fun c hc => ?_, fun t ht => absurd ht (Nat.not_lt_zero _), fun w => absurd rfl w, fun w => absurd rfl w⟩
  · show 5 ≤ 10; decide
  · rw [pW_o R W (by omega)]
    unfold g0
    rw [if_neg (by omega), if_neg (by omega), if_neg (by omega)]
    exact Nat.zero_le _
theorem wallQ (hN : TN T n N) (hr : r ∈ rooms) (h0 : 0 < N) : ∃ f q p', f ≤ 4 ∧ (f = 0 → q < N ∧ 0 < q ∧ OkP p') ∧ (∀ D M, 9 ≤ D → LnC T n N r 0 p0 M → ∃ M', c2 D m_RR_readWall [.ref 106] M = some (.int (iI (if f = 0 then 1 else 0)), M') ∧ Eqx (roomW r) M M' ∧ (f = 0 → LnC T n N r q p' (wI M' r 9 (iI 1))) ∧ (f ≠ 0 → FC f q M')) ∧ (∀ D M x1, 9 ≤ D → LnM T n 0 p0 [] M → ∃ M' C', walB D x1 M = X2 D m_Mo_room 94 [.ref 197, .int x1, uns] [] M' ∧ OM2 M M' ∧ (f = 0 → LnM T n q p' C' M') ∧ (f ≠ 0 → FM f q M')) := by
  have hN1 := hN.1
  have kk : ∀ M, isK O2 M 102 19 = true := fun _ => rfl
  have eC : ∀ d M, LnC T n N r 0 p0 M → c2 (d + 1) m_RR_readWall [.ref 106] M = bI (c2 d m_Tok_pass [.ref 102, .int (iI 10)] M) fun r2 M1 => if r2 = 0 then some (.int (iI 0), M1) else gb (isK O2 M1 (gR M1 106 1) 19 && !false) (bI (c2 d m_Tok_passNumber [.ref (gR M1 106 1), .int (iI 1), .int (iI 3)] M1) fun r4 M3 => if r4 = iI (-1) then some (.int (iI 0), M3) else gb (isK O2 M3 (gR M3 106 1) 19 && !false) (bI (c2 d m_Tok_passNumber [.ref (gR M3 106 1), .int (iI 1), .int (iI 3)] M3) fun r6 M5 => if r6 = iI (-1) then some (.int (iI 0), M5) else gb (isK O2 M5 (gR M5 106 2) 16 && !false) (bV (c2 d m_Room_shape [.ref (gR M5 106 2), .int r4, .int r6] M5) fun M7 => gb (isK O2 M7 (gR M7 106 1) 19 && !false) (bI (c2 d m_Tok_pass [.ref (gR M7 106 1), .int (iI 59)] M7) fun r9 M8 => gb (decide (r9 &&& 1 = r9)) (some (.int r9, M8)))))) := fun d M hM => by
    show X2 d m_RR_readWall 0 [.ref 106, uns, uns] [] M = _
    rw [e_RR_readWall_0, hM.2.1, kk]
    rfl
  by_cases c0 : KK T n 0 = 0
  · have hj1 := hN.2 0 h0 (by omega)
    have sC : ∀ d M, 8 ≤ d → LnC T n N r 0 p0 M → ∃ M1, Eqx [102] M M1 ∧ LnC T n N r 1 p0 M1 ∧ c2 (d + 1) m_RR_readWall [.ref 106] M = bI (c2 d m_Tok_passNumber [.ref 102, .int (iI 1), .int (iI 3)] M1) fun r4 M3 => if r4 = iI (-1) then some (.int (iI 0), M3) else gb (isK O2 M3 (gR M3 106 1) 19 && !false) (bI (c2 d m_Tok_passNumber [.ref (gR M3 106 1), .int (iI 1), .int (iI 3)] M3) fun r6 M5 => if r6 = iI (-1) then some (.int (iI 0), M5) else gb (isK O2 M5 (gR M5 106 2) 16 && !false) (bV (c2 d m_Room_shape [.ref (gR M5 106 2), .int r4, .int r6] M5) fun M7 => gb (isK O2 M7 (gR M7 106 1) 19 && !false) (bI (c2 d m_Tok_pass [.ref (gR M7 106 1), .int (iI 59)] M7) fun r9 M8 => gb (decide (r9 &&& 1 = r9)) (some (.int r9, M8))))) := fun d M hd hM => by
      obtain ⟨M1, e1, hE1, k1⟩ := (j_pass (D := d) (c := 0) (x := 10) (by omega) hM.1 (by decide) (by decide) (by decide)).1 c0
      have l1 := hM.fr2 hr hE1 k1
      refine ⟨M1, hE1, l1, ?_⟩
      rw [eC d M hM, e1, bI_some, if_neg (by decide), l1.2.1, kk]
      rfl
    have sM : ∀ d M x1, 8 ≤ d → LnM T n 0 p0 [] M → ∃ M1, OM M M1 ∧ LnM T n 1 p0 [] M1 ∧ walB d x1 M = bI (c2 d m_Mo_takes [.ref 197, .int (iI 1), .int (iI 3)] M1) fun r8 M7 => bI (c2 d m_Mo_takes [.ref 197, .int (iI 1), .int (iI 3)] (wI M7 201 1 r8)) fun r10 M9 => bV (c2 d m_Mo_ends [.ref 197] (wI M9 201 2 r10)) fun M11 => X2 d m_Mo_room 94 [.ref 197, .int x1, uns] [] M11 := fun d M x1 hd hM => by
      obtain ⟨M1, e1, hO1, hF1, k1⟩ := (k_eat (D := d) (by omega) hM.1 (by decide)).1 c0
      refine ⟨M1, hO1, hM.nx2 hF1 k1 (by omega) (by omega), ?_⟩
      unfold walB
      rw [show iI 0 = iI ((0 : Nat) : Int) from rfl, e1, bI_some, if_neg (by decide)]
    by_cases ok1 : okN T n 1 1 3
    · have ov1 := ok1.2
      have hj2 := hN.2 1 hj1 (by have := ok1.1; omega)
      have sC2 : ∀ d M, 8 ≤ d → LnC T n N r 0 p0 M → ∃ M2, Eqx [102] M M2 ∧ LnC T n N r 2 p0 M2 ∧ c2 (d + 1) m_RR_readWall [.ref 106] M = bI (c2 d m_Tok_passNumber [.ref 102, .int (iI 1), .int (iI 3)] M2) fun r6 M5 => if r6 = iI (-1) then some (.int (iI 0), M5) else gb (isK O2 M5 (gR M5 106 2) 16 && !false) (bV (c2 d m_Room_shape [.ref (gR M5 106 2), .int (iI (VV T n 1)), .int r6] M5) fun M7 => gb (isK O2 M7 (gR M7 106 1) 19 && !false) (bI (c2 d m_Tok_pass [.ref (gR M7 106 1), .int (iI 59)] M7) fun r9 M8 => gb (decide (r9 &&& 1 = r9)) (some (.int r9, M8)))) := fun d M hd hM => by
        obtain ⟨M1, hE1, l1, e1⟩ := sC d M hd hM
        obtain ⟨M2, e2, hE2, k2⟩ := (j_num (D := d) (by omega) l1.1 (by decide) (by decide) (by decide) (by decide)).1 ok1
        have l2 := l1.fr2 hr hE2 k2
        refine ⟨M2, hE1.tr hE2, l2, ?_⟩
        rw [e1, e2, bI_some, if_neg (by rw [iI_eq (by omega) (by omega) (by omega) (by omega)]; omega), l2.2.1, kk]
        rfl
      have sM2 : ∀ d M x1, 8 ≤ d → LnM T n 0 p0 [] M → ∃ M2, OM2 M M2 ∧ LnM T n 2 (upN g0 1 (VV T n 1), p0.2) [] M2 ∧ walB d x1 M = bI (c2 d m_Mo_takes [.ref 197, .int (iI 1), .int (iI 3)] M2) fun r10 M9 => bV (c2 d m_Mo_ends [.ref 197] (wI M9 201 2 r10)) fun M11 => X2 d m_Mo_room 94 [.ref 197, .int x1, uns] [] M11 := fun d M x1 hd hM => by
        obtain ⟨M1, hO1, l1, e1⟩ := sM d M x1 hd hM
        obtain ⟨M2, e2, hO2, hF2, k2⟩ := (k_num (D := d) (by omega) l1.1 (lo := 1) (hi := 3) (by decide) (by decide) (by decide) (by decide)).1 ok1
        have l2 := l1.nx2 hF2 k2 (by omega) (by omega)
        exact ⟨wI M2 201 1 (iI (VV T n 1)), (hO1.o2.tr hO2.o2).put _ _, l2.put (by decide) (by decide) (by decide), by rw [e1, e2, bI_some]⟩
      by_cases ok2 : okN T n 2 1 3
      · have ov2 := ok2.2
        have hj3 := hN.2 2 hj2 (by have := ok2.1; omega)
        have sC3 : ∀ d M, 8 ≤ d → LnC T n N r 0 p0 M → ∃ M3, Eqx (roomW r) M M3 ∧ CJ T n N 3 M3 ∧ gR M3 106 1 = 102 ∧ gR M3 106 2 = r ∧ RoomC (wI M3 r 9 (iI 1)) r (pW (VV T n 1) (VV T n 2)) ∧ c2 (d + 1) m_RR_readWall [.ref 106] M = bI (c2 d m_Tok_pass [.ref 102, .int (iI 59)] M3) fun r9 M8 => gb (decide (r9 &&& 1 = r9)) (some (.int r9, M8)) := fun d M hd hM => by
          have hl := rm_lt r hr
          obtain ⟨M1, hE1, l1, e1⟩ := sC2 d M hd hM
          obtain ⟨M2, e2, hE2, k2⟩ := (j_num (D := d) (by omega) l1.1 (by decide) (by decide) (by decide) (by decide)).1 ok2
          have l2 := l1.fr2 hr hE2 k2
          obtain ⟨M3, e3, hE3, s0, s1, s2, s3, s4⟩ := c_shape (D := d) (by omega) hr (R := VV T n 1) (W := VV T n 2) (by omega) (by omega) (by omega) M2
          have nq : ∀ a, a < 147 → a ∉ [r, r + 2] := fun a ha => by simp; omega
          have nr : ∀ i, i ≠ 0 → i ≠ 2 → r + i ∉ [r, r + 2] := fun i a b => by simp; omega
          obtain ⟨h1, h2, h3, h4, h5, h6⟩ := l2.2.2.2
          have g6 : gR M3 106 1 = 102 := (eqx_R hE3 (nq _ (by decide)) 1).trans l2.2.1
          refine ⟨M3, ((eqW hE1).tr (eqW hE2)).tr (hE3.mono (by simp [roomW, roomS])), k2.fr (hE3 102 (nq _ (by decide))).1 (hE3 103 (nq _ (by decide))).1 (hE3 104 (nq _ (by decide))).1 (hE3 105 (nq _ (by decide))).1, g6, (eqx_R hE3 (nq _ (by decide)) 2).trans l2.2.2.1, ?_, ?_⟩
          · have wn : ∀ i k, i ≠ 0 → gI (wI M3 r 9 (iI 1)) (r + i) k = gI M3 (r + i) k := fun i k hi => gI_na (by omega)
            have wn2 : ∀ i, i ≠ 0 → (wI M3 r 9 (iI 1)).1 (r + i) = M3.1 (r + i) := fun i hi => by funext k; exact wn i k hi
            refine ⟨fun k hk => ?_, fun c hc => ?_, fun c hc => ?_, fun t ht => absurd ht (Nat.not_lt_zero _), ⟨?_, trivial⟩, ?_, trivial⟩
            · by_cases q9 : k = 9
              · rw [q9, gI_eq]; rfl
              · rw [gI_nk q9]
                by_cases q : 2 < k
                · rw [s3 k q]
                  have := h1 k hk
                  rcases (show k = 3 ∨ k = 4 ∨ k = 5 ∨ k = 6 ∨ k = 7 ∨ k = 8 by omega) with rfl | rfl | rfl | rfl | rfl | rfl <;> exact this
                · rcases (show k = 0 ∨ k = 1 ∨ k = 2 by omega) with rfl | rfl | rfl
                  · exact s0
                  · exact s1
                  · exact s2
            · rw [wn 1 c (by decide), eqx_I hE3 (nr 1 (by decide) (by decide)), pW_o _ _ (by omega)]; exact h2 c hc
            · rw [wn 2 c (by decide)]; exact s4 c hc
            · rw [wn 4 2 (by decide), eqx_I hE3 (nr 4 (by decide) (by decide))]; exact h5.1
            · rw [wn 7 2 (by decide), eqx_I hE3 (nr 7 (by decide) (by decide))]; exact h6.1
          · rw [e1, e2, bI_some, if_neg (by rw [iI_eq (by omega) (by omega) (by omega) (by omega)]; omega), l2.2.2.1, rm_k _ r hr]
            show gb true _ = _
            rw [gb_T, e3, bV_some, g6, kk]
            rfl
        have sM3 : ∀ d M x1, 8 ≤ d → LnM T n 0 p0 [] M → ∃ M3, OM2 M M3 ∧ LnM T n 3 (upN (upN g0 1 (VV T n 1)) 2 (VV T n 2), p0.2) [] M3 ∧ walB d x1 M = bV (c2 d m_Mo_ends [.ref 197] M3) fun M11 => X2 d m_Mo_room 94 [.ref 197, .int x1, uns] [] M11 := fun d M x1 hd hM => by
          obtain ⟨M1, hO1, l1, e1⟩ := sM2 d M x1 hd hM
          obtain ⟨M2, e2, hO2, hF2, k2⟩ := (k_num (D := d) (by omega) l1.1 (lo := 1) (hi := 3) (by decide) (by decide) (by decide) (by decide)).1 ok2
          have l2 := l1.nx2 hF2 k2 (by omega) (by omega)
          exact ⟨wI M2 201 2 (iI (VV T n 2)), (hO1.tr hO2.o2).put _ _, l2.put (by decide) (by decide) (by decide), by rw [e1, e2, bI_some]⟩
        by_cases c30 : KK T n 3 = 30
        · have hj4 := hN.2 3 hj3 (by omega)
          refine ⟨0, 4, pW (VV T n 1) (VV T n 2), Nat.zero_le _, fun _ => ⟨hj4, by decide, OkP.wal (by omega) (by omega) (by omega) (by omega)⟩, fun D M hD hM => ?_, fun D M x1 hD hM => ?_⟩
          · obtain ⟨d, rfl⟩ : ∃ d, D = d + 1 := ⟨D - 1, by omega⟩
            have hl := rm_lt r hr
            obtain ⟨M3, hE3, k3, q1, q2, q3, e3⟩ := sC3 d M (by omega) hM
            obtain ⟨M4, e4, hE4, k4⟩ := (j_pass (D := d) (c := 30) (x := 59) (by omega) k3 (by decide) (by decide) (by decide)).1 c30
            refine ⟨M4, by rw [e3, e4, bI_some]; rfl, hE3.tr (eqW hE4), fun _ => ⟨k4.fr (wI_na (by omega)) (wI_na (by omega)) (wI_na (by omega)) (wI_na (by omega)), (eqx_R hE4 (by decide) 1).trans q1, (eqx_R hE4 (by decide) 2).trans q2, q3.fr (fun a ha => ?_)⟩, fun x => absurd rfl x⟩
            have := roomS_ge ha
            have ea : M4.1 a = M3.1 a := (hE4 a (ni1 (by omega))).1
            funext k
            show gI (wI M4 r 9 (iI 1)) a k = gI (wI M3 r 9 (iI 1)) a k
            rw [gI_wI, gI_wI]
            unfold gI
            rw [ea]
          · obtain ⟨M3, hO3, l3, e3⟩ := sM3 D M x1 (by omega) hM
            obtain ⟨M4, e4, hO4, k4⟩ := (k_ends (D := D) (by omega) l3).1 c30 (by omega)
            exact ⟨M4, [], by rw [e3, e4, bV_some], hO3.tr hO4, fun _ => k4, fun x => absurd rfl x⟩
        · have z := ff_rng T n 3 (why := 2) (by decide) (by decide)
          refine ⟨ff T n 3 2, SS T n 3, p0, z.2, fun x => absurd x z.1, fun D M hD hM => ?_, fun D M x1 hD hM => ?_⟩
          · obtain ⟨d, rfl⟩ : ∃ d, D = d + 1 := ⟨D - 1, by omega⟩
            obtain ⟨M3, hE3, k3, q1, q2, q3, e3⟩ := sC3 d M (by omega) hM
            obtain ⟨M4, e4, hE4, k4⟩ := (j_pass (D := d) (c := 30) (x := 59) (by omega) k3 (by decide) (by decide) (by decide)).2 c30
            exact ⟨M4, by rw [e3, e4, bI_some, if_neg z.1]; rfl, hE3.tr (eqW hE4), fun x => absurd x z.1, fun _ => k4⟩
          · obtain ⟨M3, hO3, l3, e3⟩ := sM3 D M x1 (by omega) hM
            obtain ⟨M4, e4, hO4, k4⟩ := (k_ends (D := D) (by omega) l3).2 c30
            exact ⟨M4, [], by rw [e3, e4, bV_some], hO3.tr hO4, fun x => absurd x z.1, fun _ => k4⟩
      · have z := nf_rng T n 2
        refine ⟨nf T n 2, SS T n 2, p0, z.2, fun x => absurd x z.1, fun D M hD hM => ?_, fun D M x1 hD hM => ?_⟩
        · obtain ⟨d, rfl⟩ : ∃ d, D = d + 1 := ⟨D - 1, by omega⟩
          obtain ⟨M1, hE1, l1, e1⟩ := sC2 d M (by omega) hM
          obtain ⟨M2, e2, hE2, k2⟩ := (j_num (D := d) (by omega) l1.1 (by decide) (by decide) (by decide) (by decide)).2 ok2
          exact ⟨M2, by rw [e1, e2, bI_some, if_pos rfl, if_neg z.1], (eqW hE1).tr (eqW hE2), fun x => absurd x z.1, fun _ => k2⟩
        · obtain ⟨M1, hO1, l1, e1⟩ := sM2 D M x1 (by omega) hM
          obtain ⟨w, M2, e2, hO2, hF2, k2⟩ := (k_num (D := D) (by omega) l1.1 (lo := 1) (hi := 3) (by decide) (by decide) (by decide) (by decide)).2 ok2
          have w1 : Wr (wI M2 201 2 w) := by unfold Wr; rw [gI_na (by decide)]; exact k2.wr z.1 z.2
          exact ⟨_, [], by rw [e1, e2, bI_some, w_ends (by omega) w1, bV_some], ((hO1.tr hO2.o2).put _ _).put _ _, fun x => absurd x z.1, fun _ => ⟨by rw [gI_na (by decide), gI_na (by decide)]; exact k2.1, by rw [gI_na (by decide), gI_na (by decide)]; exact k2.2⟩⟩
    · have z := nf_rng T n 1
      refine ⟨nf T n 1, SS T n 1, p0, z.2, fun x => absurd x z.1, fun D M hD hM => ?_, fun D M x1 hD hM => ?_⟩
      · obtain ⟨d, rfl⟩ : ∃ d, D = d + 1 := ⟨D - 1, by omega⟩
        obtain ⟨M1, hE1, l1, e1⟩ := sC d M (by omega) hM
        obtain ⟨M2, e2, hE2, k2⟩ := (j_num (D := d) (by omega) l1.1 (by decide) (by decide) (by decide) (by decide)).2 ok1
        exact ⟨M2, by rw [e1, e2, bI_some, if_pos rfl, if_neg z.1], (eqW hE1).tr (eqW hE2), fun x => absurd x z.1, fun _ => k2⟩
      · obtain ⟨M1, hO1, l1, e1⟩ := sM D M x1 (by omega) hM
        obtain ⟨w, M2, e2, hO2, hF2, k2⟩ := (k_num (D := D) (by omega) l1.1 (lo := 1) (hi := 3) (by decide) (by decide) (by decide) (by decide)).2 ok1
        have w1 : Wr (wI M2 201 1 w) := by unfold Wr; rw [gI_na (by decide)]; exact k2.wr z.1 z.2
        obtain ⟨w2, e3⟩ := w_num (D := D) (by omega) w1 (iI 1) (iI 3)
        have w3 : Wr (wI (wI M2 201 1 w) 201 2 w2) := by unfold Wr; rw [gI_na (by decide)]; exact w1
        exact ⟨_, [], by rw [e1, e2, bI_some, e3, bI_some, w_ends (by omega) w3, bV_some], (((hO1.o2.tr hO2.o2).put _ _).put _ _).put _ _, fun x => absurd x z.1, fun _ => ⟨by rw [gI_na (by decide), gI_na (by decide), gI_na (by decide)]; exact k2.1, by rw [gI_na (by decide), gI_na (by decide), gI_na (by decide)]; exact k2.2⟩⟩
  · have z := ff_rng T n 0 (why := 2) (by decide) (by decide)
    refine ⟨ff T n 0 2, SS T n 0, p0, z.2, fun x => absurd x z.1, fun D M hD hM => ?_, fun D M x1 hD hM => ?_⟩
    · obtain ⟨d, rfl⟩ : ∃ d, D = d + 1 := ⟨D - 1, by omega⟩
      obtain ⟨M1, e1, hE1, k1⟩ := (j_pass (D := d) (c := 0) (x := 10) (by omega) hM.1 (by decide) (by decide) (by decide)).2 c0
      exact ⟨M1, by rw [eC d M hM, e1, bI_some, if_pos (by decide), if_neg z.1], eqW hE1, fun x => absurd x z.1, fun _ => k1⟩
    · obtain ⟨M1, e1, hO1, hF1, k1⟩ := k_fl (D := D) (by omega) hM.1 2
      obtain ⟨w1, w2, M2, q1, q2, q3, q4, q5⟩ := w_wal (d := D) (by omega) (k1.wr z.1 z.2) k1
      refine ⟨M2, [], ?_, hO1.o2.tr q4, fun x => absurd x z.1, fun _ => q5⟩
      unfold walB
      rw [show iI 0 = iI ((0 : Nat) : Int) from rfl, (k_eat (by omega) hM.1 (by decide)).2 c0, bI_some, if_pos (by decide), show iI 2 = iI ((2 : Nat) : Int) from rfl, e1, bV_some, q1, bI_some, q2, bI_some, q3, bV_some]
end B8
