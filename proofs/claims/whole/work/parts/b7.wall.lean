/-! THE ROOM'S TEXT: a room cleared, and its first line. -/
section B7
variable {T : Nat → Nat} {n N r : Nat}
def g0 (k : Nat) : Nat := if k = 1 ∨ k = 2 then 1 else if k = 5 then 5 else if k = 26 then 4 else 0
def p0 : Ps := (g0, fun _ => [])
theorem rm_sh : ∀ r, r ∈ rooms → sh0 (r + 1) = (40, 9) := rm_all rfl rfl rfl rfl
theorem c_clear {D : Nat} (hD : 4 ≤ D) (hr : r ∈ rooms) (M : Mem) : ∃ M', c2 D m_Room_clear [.ref r] M = some (.null, M') ∧ Eqx (roomS r) M M' ∧ RoomC M' r p0 := by
  obtain ⟨d, rfl⟩ := Nat.exists_eq_add_of_le' hD
  have hl := rm_lt r hr
  let A := wI (wI (wI (wI (wI (wI (wI M r 3 (iI 0)) r 4 (iI (-1))) r 5 (iI 0)) r 6 (iI 0)) r 7 (iI 5)) r 8 (iI 0)) r 9 (iI 0)
  have hA : Eqx (roomS r) M A := eqx_wI (eqx_wI (eqx_wI (eqx_wI (eqx_wI (eqx_wI (eqx_wI Eqx.rf (by simp [roomS])) (by simp [roomS])) (by simp [roomS])) (by simp [roomS])) (by simp [roomS])) (by simp [roomS])) (by simp [roomS])
  have aF : ∀ k, 2 < k → k < 10 → gI A r k = iI (fld g0 k) := fun k h1 h2 => by
    rcases (show k = 3 ∨ k = 4 ∨ k = 5 ∨ k = 6 ∨ k = 7 ∨ k = 8 ∨ k = 9 by omega) with rfl | rfl | rfl | rfl | rfl | rfl | rfl
    · show gI (wI (wI (wI (wI (wI (wI (wI M r 3 _) r 4 _) r 5 _) r 6 _) r 7 _) r 8 _) r 9 _) r 3 = _
      rw [gI_nk (by decide), gI_nk (by decide), gI_nk (by decide), gI_nk (by decide), gI_nk (by decide), gI_nk (by decide), gI_eq]; rfl
    · show gI (wI (wI (wI (wI (wI (wI (wI M r 3 _) r 4 _) r 5 _) r 6 _) r 7 _) r 8 _) r 9 _) r 4 = _
      rw [gI_nk (by decide), gI_nk (by decide), gI_nk (by decide), gI_nk (by decide), gI_nk (by decide), gI_eq]; rfl
    · show gI (wI (wI (wI (wI (wI (wI (wI M r 3 _) r 4 _) r 5 _) r 6 _) r 7 _) r 8 _) r 9 _) r 5 = _
      rw [gI_nk (by decide), gI_nk (by decide), gI_nk (by decide), gI_nk (by decide), gI_eq]; rfl
    · show gI (wI (wI (wI (wI (wI (wI (wI M r 3 _) r 4 _) r 5 _) r 6 _) r 7 _) r 8 _) r 9 _) r 6 = _
      rw [gI_nk (by decide), gI_nk (by decide), gI_nk (by decide), gI_eq]; rfl
    · show gI (wI (wI (wI (wI (wI (wI (wI M r 3 _) r 4 _) r 5 _) r 6 _) r 7 _) r 8 _) r 9 _) r 7 = _
      rw [gI_nk (by decide), gI_nk (by decide), gI_eq]; rfl
    · show gI (wI (wI (wI (wI (wI (wI (wI M r 3 _) r 4 _) r 5 _) r 6 _) r 7 _) r 8 _) r 9 _) r 8 = _
      rw [gI_nk (by decide), gI_eq]; rfl
    · show gI (wI (wI (wI (wI (wI (wI (wI M r 3 _) r 4 _) r 5 _) r 6 _) r 7 _) r 8 _) r 9 _) r 9 = _
      rw [gI_eq]; rfl
  obtain ⟨M1, e1, hE1, f1⟩ := c_Arr_fillI (d + 2) (M0 := A) (rm_sh r hr) (by decide) (iI 0)
  have cl : ∀ a M, a ∈ laws → c2 (d + 3) m_Lw_clear [.ref a] M = some (.null, wI M a 2 (iI 0)) := fun a M ha => by
    show X2 (d + 2) m_Lw_clear 0 [.ref a] [] M = _
    rw [e_Lw_clear_0, lw_k _ a ha, gb_T]
  let B := wI (wI M1 (r + 4) 2 (iI 0)) (r + 7) 2 (iI 0)
  have hB : Eqx [r + 4, r + 7] M1 B := eqx_wI (eqx_wI Eqx.rf (by simp)) (by simp)
  obtain ⟨M4, e4, hE4, s0, s1, s2, s3, s4⟩ := c_shape (D := d + 3) (by omega) hr (R := 1) (W := 1) (by decide) (by decide) (by decide) B
  have e4' : c2 (d + 3) m_Room_shape [.ref r, .int (iI 1), .int (iI 1)] B = some (.null, M4) := e4
  have nB : ∀ i, i ≠ 4 → i ≠ 7 → r + i ∉ [r + 4, r + 7] := fun i a b => by simp; omega
  have n4 : ∀ i, i ≠ 0 → i ≠ 2 → r + i ∉ [r, r + 2] := fun i a b => by simp; omega
  refine ⟨M4, ?_, hA.tr ((hE1.mono (by simp [roomS])).tr ((hB.mono (by simp [roomS])).tr (hE4.mono (by simp [roomS])))), fun k hk => ?_, fun c hc => ?_, fun c hc => ?_, fun t ht => absurd ht (Nat.not_lt_zero _), ⟨?_, trivial⟩, ?_, trivial⟩
  · have e0 := e_Room_clear_0 (d + 3) r M
    simp only [rm_k _ r hr, gb_T, rm_10 _ r hr, rm_13 _ r hr, rm_14 _ r hr, rm_k4 _ r hr, rm_k7 _ r hr, show (true && !false) = true from rfl] at e0
    refine e0.trans ?_
    show bV (c2 (d + 3) m_Arr_fillI [.ref (r + 1), .int (iI 0)] A) _ = _
    rw [e1, bV_some, cl _ _ (rm_l4 r hr), bV_some, cl _ _ (rm_l7 r hr), bV_some]
    show bV (c2 (d + 3) m_Room_shape [.ref r, .int (iI 1), .int (iI 1)] B) _ = _
    rw [e4', bV_some]
  · by_cases q : 2 < k
    · rw [s3 k q, show gI B r k = gI M1 r k from eqx_I hB (nB 0 (by decide) (by decide)) k, eqx_I hE1 (ni1 (by omega))]
      exact aF k q hk
    · rcases (show k = 0 ∨ k = 1 ∨ k = 2 by omega) with rfl | rfl | rfl
      · exact s0
      · exact s1
      · exact s2
  · rw [eqx_I hE4 (n4 1 (by decide) (by decide)), eqx_I hB (nB 1 (by decide) (by decide)), f1 c hc]
    have : g0 (12 + c) = 0 := by unfold g0; rw [if_neg (by omega), if_neg (by omega), if_neg (by omega)]
    show iI 0 = iI (g0 (12 + c))
    rw [this]; rfl
  · exact s4 c hc
  · rw [eqx_I hE4 (n4 4 (by decide) (by decide))]
    show gI (wI (wI M1 (r + 4) 2 (iI 0)) (r + 7) 2 (iI 0)) (r + 4) 2 = _
    rw [gI_na (by omega), gI_eq]; rfl
  · rw [eqx_I hE4 (n4 7 (by decide) (by decide))]
    exact gI_eq _ _ _ _
theorem c_plain {D : Nat} (hD : 1 ≤ D) (M : Mem) : ∃ M', c2 D m_Mo_plain [.ref 201] M = some (.null, M') ∧ Eqx [201] M M' ∧ ∀ k, k < 971 → gI M' 201 k = iI (g0 k) := by
  obtain ⟨d, rfl⟩ := Nat.exists_eq_add_of_le' hD
  have ta : ∀ (M : Mem) (x : Int32), at_ O2 M 201 40 x = inb x 971 := fun _ _ => rfl
  have go : ∀ j k M1, j + k = 971 → Eqx [201] M M1 → (∀ i, i < k → gI M1 201 i = iI 0) → ∃ M', X2 d m_Mo_plain 2 [.ref 201, .int (iI (k : Nat))] [] M1 = some (.null, M') ∧ Eqx [201] M M' ∧ ∀ k, k < 971 → gI M' 201 k = iI (g0 k) := by
    intro j
    induction j with
    | zero =>
      intro k M1 hk hE hi
      have e := e_Mo_plain_2 d 201 (iI (k : Nat)) M1
      rw [if_neg (by rw [iI_lt (by omega) (by omega) (by omega) (by omega)]; omega), ta, ta, ta, ta, inb_ok (by decide) (by decide) (by decide), gb_T, inb_ok (by decide) (by decide) (by decide), gb_T, inb_ok (by decide) (by decide) (by decide), gb_T, inb_ok (by decide) (by decide) (by decide), gb_T] at e
      refine ⟨_, e, eqx_wI (eqx_wI (eqx_wI (eqx_wI hE (by simp)) (by simp)) (by simp)) (by simp), fun q hq => ?_⟩
      unfold g0
      by_cases q26 : q = 26
      · rw [q26, gI_eq, if_neg (by decide), if_neg (by decide), if_pos rfl]; rfl
      · rw [gI_nk q26]
        by_cases q5 : q = 5
        · rw [q5, gI_eq, if_neg (by decide), if_pos rfl]; rfl
        · rw [gI_nk q5]
          by_cases q2 : q = 2
          · rw [q2, gI_eq, if_pos (Or.inr rfl)]; rfl
          · rw [gI_nk q2]
            by_cases q1 : q = 1
            · rw [q1, gI_eq, if_pos (Or.inl rfl)]; rfl
            · rw [gI_nk q1, if_neg (by omega), if_neg q5, if_neg q26]; exact hi q (by omega)
    | succ j ih =>
      intro k M1 hk hE hi
      rw [e_Mo_plain_2, if_pos (by rw [iI_lt (by omega) (by omega) (by omega) (by omega)]; omega), ta, inb_ok (by omega) (by omega) (by omega), gb_T, ix_nat (by omega), iI_add]
      refine ih (k + 1) _ (by omega) (eqx_wI hE (by simp)) (fun i h => ?_)
      by_cases q : i = k
      · rw [q, gI_eq]
      · rw [gI_nk q]; exact hi i (by omega)
  show ∃ M', X2 d m_Mo_plain 0 [.ref 201, uns] [] M = _ ∧ _
  rw [e_Mo_plain_0]
  exact go 971 0 M (by omega) Eqx.rf (fun i h => absurd h (Nat.not_lt_zero _))
theorem RowP.ini {M : Mem} (h : ∀ k, k < 971 → gI M 201 k = iI (g0 k)) : RowP M p0 [] := by
  refine ⟨fun k hk => h k (by unfold rix at hk; have : p0.1 3 = 0 := rfl; omega), fun i hi => ⟨?_, fun w => absurd rfl w⟩, ?_, trivial⟩
  · rw [h _ (by omega)]
    rcases (show i = 0 ∨ i = 1 by omega) with rfl | rfl <;> rfl
  · rw [h _ (by decide)]; rfl
theorem OkP.ini : OkP p0 := ⟨by decide, by decide, fun t ht => absurd ht (Nat.not_lt_zero _), fun w => absurd rfl w, fun w => absurd rfl w⟩
theorem w_ends {D : Nat} (hD : 3 ≤ D) {M : Mem} (h : Wr M) : c2 D m_Mo_ends [.ref 197] M = some (.null, wI M 201 0 (gI M 201 0 + iI 1)) := by
  obtain ⟨d, rfl⟩ := Nat.exists_eq_add_of_le' hD
  show X2 (d + 2) m_Mo_ends 0 [.ref 197] [] M = _
  rw [e_Mo_ends_0, w_eat (by omega) h, bI_some, if_pos (by decide), w_fl (by omega) h, bV_some]
theorem k_ends {D j : Nat} (hD : 8 ≤ D) {p : Ps} {C : List Nat} {M : Mem} (hM : LnM T n j p C M) : (KK T n j = 30 → j + 1 ≤ 900 → ∃ M', c2 D m_Mo_ends [.ref 197] M = some (.null, M') ∧ OM2 M M' ∧ LnM T n (j + 1) (upN p.1 0 (p.1 0 + 1), p.2) C M') ∧ (KK T n j ≠ 30 → ∃ M', c2 D m_Mo_ends [.ref 197] M = some (.null, M') ∧ OM2 M M' ∧ FM (ff T n j 2) (SS T n j) M') := by
  obtain ⟨d, rfl⟩ := Nat.exists_eq_add_of_le' hD
  have e := e_Mo_ends_0 (d + 7) M
  rw [show iI 30 = iI ((30 : Nat) : Int) from rfl] at e
  constructor
  · intro q hj
    obtain ⟨M1, e1, hO1, hF1, k1⟩ := (k_eat (D := d + 7) (by omega) hM.1 (by decide)).1 q
    have l1 := hM.nx2 hF1 k1 (by omega) hj
    have g : gI M1 201 0 = iI (p.1 0) := l1.2.1.1 0 (Or.inl (by decide))
    refine ⟨wI M1 201 0 (iI ((p.1 0 + 1 : Nat) : Int)), ?_, hO1.o2.put _ _, l1.put (by decide) (by decide) (by decide)⟩
    show X2 (d + 7) m_Mo_ends 0 [.ref 197] [] M = _
    rw [e, e1, bI_some, if_neg (by decide), g, iI_add]
    rfl
  · intro q
    obtain ⟨M1, e1, hO1, hF1, k1⟩ := k_fl (D := d + 7) (by omega) hM.1 2
    refine ⟨wI M1 201 0 (gI M1 201 0 + iI 1), ?_, hO1.o2.put _ _, ⟨(gI_na (by decide)).trans k1.1, (gI_na (by decide)).trans k1.2⟩⟩
    show X2 (d + 7) m_Mo_ends 0 [.ref 197] [] M = _
    rw [e, (k_eat (by omega) hM.1 (by decide)).2 q, bI_some, if_pos (by decide), show iI 2 = iI ((2 : Nat) : Int) from rfl, e1, bV_some]
noncomputable def walB (d : Nat) (x1 : Int32) (M4 : Mem) : Rs Mem := bI (c2 d m_Mo_eats [.ref 197, .int (iI 0)] M4) fun r6 M5 => if r6 = 0 then bV (c2 d m_Mo_fails [.ref 197, .int (iI 2)] M5) fun M12 => bI (c2 d m_Mo_takes [.ref 197, .int (iI 1), .int (iI 3)] M12) fun r14 M13 => bI (c2 d m_Mo_takes [.ref 197, .int (iI 1), .int (iI 3)] (wI M13 201 1 r14)) fun r16 M15 => bV (c2 d m_Mo_ends [.ref 197] (wI M15 201 2 r16)) fun M17 => X2 d m_Mo_room 94 [.ref 197, .int x1, uns] [] M17 else bI (c2 d m_Mo_takes [.ref 197, .int (iI 1), .int (iI 3)] M5) fun r8 M7 => bI (c2 d m_Mo_takes [.ref 197, .int (iI 1), .int (iI 3)] (wI M7 201 1 r8)) fun r10 M9 => bV (c2 d m_Mo_ends [.ref 197] (wI M9 201 2 r10)) fun M11 => X2 d m_Mo_room 94 [.ref 197, .int x1, uns] [] M11
/-- numbers that are taken where all is wrong already -/
theorem w_wal {d : Nat} (hd : 3 ≤ d) {M : Mem} (h : Wr M) {f q : Nat} (hF : FM f q M) : ∃ w1 w2 M', c2 d m_Mo_takes [.ref 197, .int (iI 1), .int (iI 3)] M = some (.int w1, M) ∧ c2 d m_Mo_takes [.ref 197, .int (iI 1), .int (iI 3)] (wI M 201 1 w1) = some (.int w2, wI M 201 1 w1) ∧ c2 d m_Mo_ends [.ref 197] (wI (wI M 201 1 w1) 201 2 w2) = some (.null, M') ∧ OM2 M M' ∧ FM f q M' := by
  obtain ⟨w1, e1⟩ := w_num (D := d) (by omega) h (iI 1) (iI 3)
  have h1 : Wr (wI M 201 1 w1) := by unfold Wr; rw [gI_na (by decide)]; exact h
  obtain ⟨w2, e2⟩ := w_num (D := d) (by omega) h1 (iI 1) (iI 3)
  have h2 : Wr (wI (wI M 201 1 w1) 201 2 w2) := by unfold Wr; rw [gI_na (by decide), gI_na (by decide)]; exact h
  exact ⟨w1, w2, _, e1, e2, w_ends (by omega) h2, (((OM2.rf M).put _ _).put _ _).put _ _, by rw [gI_na (by decide), gI_na (by decide), gI_na (by decide)]; exact hF.1, by rw [gI_na (by decide), gI_na (by decide), gI_na (by decide)]; exact hF.2⟩
end B7
