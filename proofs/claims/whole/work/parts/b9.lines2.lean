/-! THE ROOM'S TEXT: all its lines. -/
section B9
variable {T : Nat → Nat} {n N r : Nat}
def pLn (p : Ps) : Ps := (upN p.1 0 (p.1 0 + 1), p.2)
theorem OkP.ln {p : Ps} (h : OkP p) : OkP (pLn p) := by
  obtain ⟨a, b, c, e, f⟩ := h
  have u : ∀ k, k ≠ 0 → (pLn p).1 k = p.1 k := fun k hk => if_neg hk
  refine ⟨?_, fun c hc => ?_, fun t ht => ?_, e, f⟩
  · rw [u 1 (by decide), u 2 (by decide), u 3 (by decide), u 4 (by decide), u 5 (by decide), u 25 (by decide), u 26 (by decide), u 27 (by decide), u 28 (by decide), u 29 (by decide)]
    exact a
  · rw [u _ (by omega)]; exact b c hc
  · rw [u 3 (by decide)] at ht
    rw [u _ (by omega)]; exact c t ht
theorem linesQ (hN : TN T n N) (hr : r ∈ rooms) : ∀ (m j : Nat) (p : Ps), N - j ≤ m → j < N → OkP p → ∃ f q p', f ≤ 4 ∧ (f = 0 → OkP p') ∧ (∀ D M i v1 v2, 41 ≤ D → 2 * i ≤ j → LnC T n N r j p M → ∃ M', X2 D m_RR_readRoom 36 [.ref 106, v1, v2, .int (iI (i : Nat))] [] M = some (.int (iI (if f = 0 then 1 else 0)), M') ∧ Eqx (roomW r) M M' ∧ (f = 0 → RoomC M' r p' ∧ gI M' 102 11 = iI 0 ∧ gI M' 102 12 = iI (-1)) ∧ (f ≠ 0 → FC f q M')) ∧ (∀ D M C v1 v2, 41 ≤ D → LnM T n j p C M → ∃ M' C', X2 D m_Mo_room 94 [.ref 197, v1, v2] [] M = X2 D m_Mo_room 121 [.ref 197, v1, v2] [] M' ∧ OM2 M M' ∧ (f = 0 → gI M' 197 11 = iI 0 ∧ RowP M' p' C' ∧ C'.length ≤ 900) ∧ (f ≠ 0 → FM f q M')) := by
  have kk : ∀ M, isK O2 M 102 19 = true := fun _ => rfl
  have wr94 : ∀ D M v1 v2, Wr M → X2 D m_Mo_room 94 [.ref 197, v1, v2] [] M = X2 D m_Mo_room 121 [.ref 197, v1, v2] [] M := fun D M v1 v2 h => by
    rw [e_Mo_room_94, if_neg h]
  intro m
  induction m with
  | zero => intro j p hm hj; omega
  | succ m ih =>
    intro j p hm hj hp
    have hN1 := hN.1
    by_cases c24 : KK T n j = 24
    · refine ⟨0, 0, p, Nat.zero_le _, fun _ => hp, fun D M i v1 v2 hD hi hM => ⟨M, ?_, Eqx.rf, fun _ => ⟨hM.2.2.2, hM.1.2.1, hM.1.2.2⟩, fun x => absurd rfl x⟩, fun D M C v1 v2 hD hM => ⟨M, C, ?_, OM2.rf M, fun _ => ⟨hM.1.2, hM.2.1, Nat.le_trans hM.2.2.1 hM.2.2.2⟩, fun x => absurd rfl x⟩⟩
      · rw [e_RR_readRoom_36, if_pos (by rw [iI_lt (by omega) (by omega) (by omega) (by omega)]; omega), hM.2.1, kk, gb_T, if_pos (by rw [hM.1.kd (c := 24) (by decide) (by decide)]; exact c24)] <;> rfl
      · rw [e_Mo_room_94, if_pos hM.1.w, if_pos (by rw [show iI 24 = iI ((24 : Nat) : Int) from rfl, hM.1.kd (by decide)]; exact c24)]
    · obtain ⟨f, q, p', f4, ok, rc, rm⟩ := l_all hN hr hp hj
      have sC : ∀ D M i v1 v2, 41 ≤ D → 2 * i ≤ j → LnC T n N r j p M → X2 D m_RR_readRoom 36 [.ref 106, v1, v2, .int (iI (i : Nat))] [] M = bI (c2 D m_RR_readLine [.ref 106] M) fun r2 M1 => if r2 = 0 then some (.int (iI 0), M1) else gb (isK O2 M1 (gR M1 106 1) 19 && !false) (bI (c2 D m_Tok_pass [.ref (gR M1 106 1), .int (iI 59)] M1) fun r4 M3 => if r4 = 0 then some (.int (iI 0), M3) else gb (isK O2 M3 (gR M3 106 2) 16) (gb (isK O2 M3 (gR M3 106 2) 16) (X2 D m_RR_readRoom 36 [.ref 106, v1, v2, .int (iI (i : Nat) + iI 1)] [] (wI M3 (gR M3 106 2) 9 ((gI M3 (gR M3 106 2) 9) + (iI 1)))))) := fun D M i v1 v2 hD hi hM => by
        rw [e_RR_readRoom_36, if_pos (by rw [iI_lt (by omega) (by omega) (by omega) (by omega)]; omega), hM.2.1, kk, gb_T, if_neg (by rw [hM.1.kd (c := 24) (by decide) (by decide)]; exact c24)]
      have sM : ∀ D M C v1 v2, LnM T n j p C M → X2 D m_Mo_room 94 [.ref 197, v1, v2] [] M = bV (c2 D m_Mo_readLine [.ref 197] M) fun M1 => bV (c2 D m_Mo_ends [.ref 197] M1) fun M2 => X2 D m_Mo_room 94 [.ref 197, v1, v2] [] M2 := fun D M C v1 v2 hM => by
        rw [e_Mo_room_94, if_pos hM.1.w, if_neg (by rw [show iI 24 = iI ((24 : Nat) : Int) from rfl, hM.1.kd (by decide)]; exact c24)]
      by_cases z : f = 0
      · subst z
        obtain ⟨o1, o2, o3, o4⟩ := ok rfl
        by_cases c30 : KK T n q = 30
        · have hq1 := hN.2 q o2 (by omega)
          obtain ⟨g, u, p2, g4, gk, gc, gm⟩ := ih (q + 1) (pLn p') (by omega) hq1 o3.ln
          refine ⟨g, u, p2, g4, gk, fun D M i v1 v2 hD hi hM => ?_, fun D M C v1 v2 hD hM => ?_⟩
          · obtain ⟨M1, e1, hE1, k1, _⟩ := rc D (by omega) M hM
            have l1 := k1 rfl
            obtain ⟨M2, e2, hE2, k2⟩ := (j_pass (D := D) (c := 30) (x := 59) (by omega) l1.1 (by decide) (by decide) (by decide)).1 c30
            have l2 := l1.fr2 hr hE2 k2
            have l3 : LnC T n N r (q + 1) (pLn p') (wI M2 r 9 (iI ((p'.1 0 + 1 : Nat) : Int))) := l2.put hr (fun k hk => by rcases (show k = 0 ∨ k = 1 ∨ k = 2 ∨ k = 3 ∨ k = 4 ∨ k = 5 ∨ k = 6 ∨ k = 7 ∨ k = 8 ∨ k = 9 by omega) with rfl | rfl | rfl | rfl | rfl | rfl | rfl | rfl | rfl | rfl <;> rfl) (fun k hk => if_neg (by omega))
            obtain ⟨M3, e3, hE3, y1, y2⟩ := gc D _ (i + 1) v1 v2 hD (by omega) l3
            have g9 : gI M2 r 9 = iI (p'.1 0) := l2.f 9 (by decide)
            refine ⟨M3, ?_, ((hE1.tr (eqW hE2)).tr (eqW2 (eqx_wI Eqx.rf (by simp)))).tr hE3, y1, y2⟩
            rw [sC D M i v1 v2 hD hi hM, e1, bI_some, if_neg (by decide), l1.2.1, kk, show (true && !false) = true from rfl, gb_T, e2, bI_some, if_neg (by decide), l2.2.2.1, rm_k _ r hr, gb_T, gb_T, g9, iI_add, iI_add]
            exact e3
          · obtain ⟨M1, C1, e1, hO1, k1, _⟩ := rm D (by omega) M C hM
            have l1 := k1 rfl
            obtain ⟨M2, e2, hO2, l2⟩ := (k_ends (D := D) (by omega) l1).1 c30 (by omega)
            obtain ⟨M3, C3, e3, hO3, y1, y2⟩ := gm D M2 C1 v1 v2 hD l2
            exact ⟨M3, C3, by rw [sM D M C v1 v2 hM, e1, bV_some, e2, bV_some, e3], (hO1.tr hO2).tr hO3, y1, y2⟩
        · have z := ff_rng T n q (why := 2) (by decide) (by decide)
          refine ⟨ff T n q 2, SS T n q, p', z.2, fun x => absurd x z.1, fun D M i v1 v2 hD hi hM => ?_, fun D M C v1 v2 hD hM => ?_⟩
          · obtain ⟨M1, e1, hE1, k1, _⟩ := rc D (by omega) M hM
            have l1 := k1 rfl
            obtain ⟨M2, e2, hE2, k2⟩ := (j_pass (D := D) (c := 30) (x := 59) (by omega) l1.1 (by decide) (by decide) (by decide)).2 c30
            refine ⟨M2, ?_, hE1.tr (eqW hE2), fun x => absurd x z.1, fun _ => k2⟩
            rw [sC D M i v1 v2 hD hi hM, e1, bI_some, if_neg (by decide), l1.2.1, kk, show (true && !false) = true from rfl, gb_T, e2, bI_some, if_pos (by decide), if_neg z.1]
          · obtain ⟨M1, C1, e1, hO1, k1, _⟩ := rm D (by omega) M C hM
            have l1 := k1 rfl
            obtain ⟨M2, e2, hO2, k2⟩ := (k_ends (D := D) (by omega) l1).2 c30
            exact ⟨M2, C1, by rw [sM D M C v1 v2 hM, e1, bV_some, e2, bV_some, wr94 D M2 v1 v2 (k2.wr z.1 z.2)], hO1.tr hO2, fun x => absurd x z.1, fun _ => k2⟩
      · refine ⟨f, q, p', f4, fun x => absurd x z, fun D M i v1 v2 hD hi hM => ?_, fun D M C v1 v2 hD hM => ?_⟩
        · obtain ⟨M1, e1, hE1, _, k1⟩ := rc D (by omega) M hM
          exact ⟨M1, by rw [sC D M i v1 v2 hD hi hM, e1, bI_some, if_neg z, if_pos (by decide)], hE1, fun x => absurd x z, k1⟩
        · obtain ⟨M1, C1, e1, hO1, _, k1⟩ := rm D (by omega) M C hM
          have w1 := (k1 z).wr z f4
          have w2 : Wr (wI M1 201 0 (gI M1 201 0 + iI 1)) := by unfold Wr; rw [gI_na (by decide)]; exact w1
          exact ⟨wI M1 201 0 (gI M1 201 0 + iI 1), C1, by rw [sM D M C v1 v2 hM, e1, bV_some, w_ends (by omega) w1, bV_some, wr94 D _ v1 v2 w2], hO1.put _ _, fun x => absurd x z, fun _ => ⟨by rw [gI_na (by decide)]; exact (k1 z).1, by rw [gI_na (by decide)]; exact (k1 z).2⟩⟩
/-- the whole text -/
theorem roomQ (hN : TN T n N) (hr : r ∈ rooms) (h0 : 0 < N) : ∃ f q p', f ≤ 4 ∧ (f = 0 → OkP p') ∧ (∀ D M, 50 ≤ D → CJ T n N 0 M → ∃ M', c2 D m_RR_readRoom [.ref 106, .ref 102, .ref r] M = some (.int (iI (if f = 0 then 1 else 0)), M') ∧ Eqx (106 :: roomW r) M M' ∧ (f = 0 → RoomC M' r p' ∧ gI M' 102 11 = iI 0 ∧ gI M' 102 12 = iI (-1)) ∧ (f ≠ 0 → FC f q M')) ∧ (∀ D M x1, 50 ≤ D → LnM T n 0 p0 [] M → ∃ M' C', walB D x1 M = X2 D m_Mo_room 121 [.ref 197, .int x1, uns] [] M' ∧ OM2 M M' ∧ (f = 0 → gI M' 197 11 = iI 0 ∧ RowP M' p' C' ∧ C'.length ≤ 900) ∧ (f ≠ 0 → FM f q M')) := by
  have hl := rm_lt r hr
  have hN1 := hN.1
  obtain ⟨f, q, p', f4, ok, rc, rm⟩ := wallQ hN hr h0
  have sC : ∀ d M, 49 ≤ d → CJ T n N 0 M → ∃ M1, Eqx (106 :: roomW r) M M1 ∧ LnC T n N r 0 p0 M1 ∧ c2 (d + 1) m_RR_readRoom [.ref 106, .ref 102, .ref r] M = bI (c2 d m_RR_readWall [.ref 106] M1) fun r3 M2 => if r3 = 0 then some (.int (iI 0), M2) else gb (isK O2 M2 (gR M2 106 2) 16) (X2 d m_RR_readRoom 36 [.ref 106, .ref 102, .ref r, .int (iI ((0 : Nat) : Int))] [] (wI M2 (gR M2 106 2) 9 (iI 1))) := fun d M hd hM => by
    let A := wR (wR M 106 1 102) 106 2 r
    have hA : Eqx [106] M A := eqx_wR (eqx_wR Eqx.rf (by simp)) (by simp)
    obtain ⟨M1, e1, hE1, k1⟩ := c_clear (D := d) (by omega) hr A
    have nq : ∀ a, a < 147 → a ∉ roomS r := fun a ha h => by have := roomS_ge h; omega
    have a1 : gR A 106 1 = 102 := by
      show up2 (up2 M.2.2 106 1 102) 106 2 r 106 1 = 102
      unfold up2; rw [if_pos rfl, if_neg (by decide), if_pos rfl, if_pos rfl]
    have a2 : gR A 106 2 = r := by
      show up2 (up2 M.2.2 106 1 102) 106 2 r 106 2 = r
      unfold up2; rw [if_pos rfl, if_pos rfl]
    have f : ∀ a, a < 147 → M1.1 a = M.1 a := fun a ha => (hE1 a (nq a ha)).1
    refine ⟨M1, (hA.mono (by simp)).tr (hE1.mono (fun a ha => by simp [roomW, ha])), ⟨hM.fr (f _ (by decide)) (f _ (by decide)) (f _ (by decide)) (f _ (by decide)), (eqx_R hE1 (nq _ (by decide)) 1).trans a1, (eqx_R hE1 (nq _ (by decide)) 2).trans a2, k1⟩, ?_⟩
    show X2 d m_RR_readRoom 0 [.ref 106, .ref 102, .ref r, uns] [] M = _
    rw [e_RR_readRoom_0, rm_k _ r hr]
    show gb true (bV (c2 d m_Room_clear [.ref r] A) _) = _
    rw [gb_T, e1, bV_some]
    rfl
  by_cases z : f = 0
  · subst z
    obtain ⟨o1, o2, o3⟩ := ok rfl
    obtain ⟨g, u, p2, g4, gk, gc, gm⟩ := linesQ (T := T) (n := n) (N := N) (r := r) hN hr (N - q) q p' (Nat.le_refl _) o1 o3
    refine ⟨g, u, p2, g4, gk, fun D M hD hM => ?_, fun D M x1 hD hM => ?_⟩
    · obtain ⟨d, rfl⟩ : ∃ d, D = d + 1 := ⟨D - 1, by omega⟩
      obtain ⟨M1, hE1, l1, e1⟩ := sC d M (by omega) hM
      obtain ⟨M2, e2, hE2, k2, _⟩ := rc d M1 (by omega) l1
      have l2 := k2 rfl
      have r2 : gR M2 106 2 = r := l2.2.2.1
      obtain ⟨M3, e3, hE3, y1, y2⟩ := gc d _ 0 (.ref 102) (.ref r) (by omega) (by omega) l2
      refine ⟨M3, ?_, hE1.tr (((hE2.tr (eqW2 (eqx_wI Eqx.rf (by simp)))).tr hE3).mono (fun a ha => List.mem_cons_of_mem _ ha)), y1, y2⟩
      rw [e1, e2, bI_some, if_neg (by decide), r2, rm_k _ r hr, gb_T]
      exact e3
    · obtain ⟨M1, C1, e1, hO1, k1, _⟩ := rm D M x1 (by omega) hM
      obtain ⟨M2, C2, e2, hO2, y1, y2⟩ := gm D M1 C1 (.int x1) uns (by omega) (k1 rfl)
      exact ⟨M2, C2, by rw [e1, e2], hO1.tr hO2, y1, y2⟩
  · refine ⟨f, q, p', f4, fun x => absurd x z, fun D M hD hM => ?_, fun D M x1 hD hM => ?_⟩
    · obtain ⟨d, rfl⟩ : ∃ d, D = d + 1 := ⟨D - 1, by omega⟩
      obtain ⟨M1, hE1, l1, e1⟩ := sC d M (by omega) hM
      obtain ⟨M2, e2, hE2, _, k2⟩ := rc d M1 (by omega) l1
      exact ⟨M2, by rw [e1, e2, bI_some, if_neg z, if_pos (by decide)], hE1.tr (hE2.mono (fun a ha => List.mem_cons_of_mem _ ha)), fun x => absurd x z, k2⟩
    · obtain ⟨M1, C1, e1, hO1, _, k1⟩ := rm D M x1 (by omega) hM
      have w1 := (k1 z).wr z f4
      exact ⟨M1, C1, by rw [e1, e_Mo_room_94, if_neg w1], hO1, fun x => absurd x z, k1⟩
end B9
