/-! THE START: the law up to its loop; class and reference as they are made stand in the relation. -/
set_option maxRecDepth 100000 in
set_option maxHeartbeats 4000000 in
theorem lw0 (d : Nat) (M : M1) : XX O1 d m_law 0 [.ref 1, uns, uns, uns] [] M = oP (n1 M (21, 0) 17) fun a m => XX O1 d m_law 3 [.ref 1, uns, uns, uns] [.ref a] m := (sx_eq O1 d m_law [3] 1 _ _ _ _).trans rfl
set_option maxRecDepth 100000 in
set_option maxHeartbeats 4000000 in
theorem lw3 (d a : Nat) (M : M1) : XX O1 d m_law 3 [.ref 1, uns, uns, uns] [.ref a] M = gb (isK O1 M a 21 && true) (bV (cl O1 d m_RW_init [.ref a] M) fun m => XX O1 d m_law 8 [.ref 1, .ref a, uns, uns] [] m) := (sx_eq O1 d m_law [8] 3 _ _ _ _).trans rfl
set_option maxRecDepth 100000 in
set_option maxHeartbeats 4000000 in
theorem lw8 (d a : Nat) (M : M1) : XX O1 d m_law 8 [.ref 1, .ref a, uns, uns] [] M = oP (n1 M (22, 0) 35) fun b m => XX O1 d m_law 11 [.ref 1, .ref a, uns, uns] [.ref b] m := (sx_eq O1 d m_law [11] 1 _ _ _ _).trans rfl
set_option maxRecDepth 100000 in
set_option maxHeartbeats 4000000 in
theorem lw11 (d a b : Nat) (M : M1) : XX O1 d m_law 11 [.ref 1, .ref a, uns, uns] [.ref b] M = gb (isK O1 M b 22 && true) (bV (cl O1 d m_Mo_init [.ref b] M) fun m => XX O1 d m_law 18 [.ref 1, .ref a, .ref b, .int (iI 0)] [] m) := (sx_eq O1 d m_law [18] 5 _ _ _ _).trans rfl
theorem bV_o {μ : Type} {m : μ} {f : μ → Rs μ} : bV (some (.null, m)) f = f m := rfl
theorem law_ini (B : Nat → Nat → Int32) : XX O1 80 m_law 0 [.ref 1, uns, uns, uns] [] (f3 B dZ) = XX O1 80 m_law 18 [.ref 1, .ref 100, .ref 197, .int (iI 0)] [] (f3 B dE) := by
  have nA : n1 (f3 B dZ) (21, 0) 17 = some (100, f3 B dA) := (hom3 B).2.2.2.2.2.2.2.1 dZ (21, 0) 17 100 dA new_A
  have nC : n1 (f3 B dB) (22, 0) 35 = some (197, f3 B dC) := (hom3 B).2.2.2.2.2.2.2.1 dB (22, 0) 35 197 dC new_C
  have cB := rc_sim B 80 _ _ _ _ _ (ok3_spec run_B)
  have cE := rc_sim B 80 _ _ _ _ _ (ok3_spec run_E)
  have kA : isK O1 (f3 B dA) 100 21 = true := rfl
  have kC : isK O1 (f3 B dC) 197 22 = true := rfl
  rw [lw0, f_oP nA, lw3, kA, show (true && true) = true from rfl, gb_T, cB, bV_o, lw8, f_oP nC, lw11, kC, show (true && true) = true from rfl, gb_T, cE, bV_o]
/-- the memory as it is made -/
def Mem0 (B : Nat → Nat → Int32) : Mem := (fun a k => bb (Nat.ble 100 a) (lk3 0 a k zI2) (B a k), fun _ _ => 0, fun a k => lk3 0 a k zR2)
theorem srT_l : srT.length = 116 := by decide +kernel
theorem srT_w : srT.all (fun l => Nat.ble l.length 40) = true := by decide +kernel
theorem ckR3 : ((List.range 116).all fun i => (List.range 40).all fun k => Nat.beq (sR (100 + i) k) 0 || Nat.beq (lk3 0 (100 + i) k zR2) (sR (100 + i) k)) = true := by decide +kernel
theorem sR_ok (a k : Nat) (h : sR a k ≠ 0) : lk3 0 a k zR2 = sR a k := by
  have h0 := h
  unfold sR at h
  cases hb : Nat.ble 100 a with
  | false => rw [hb] at h; exact absurd rfl h
  | true =>
    rw [hb] at h
    have ha := Nat.le_of_ble_eq_true hb
    have h : (srT.getD (a - 100) []).getD k 0 ≠ 0 := h
    by_cases q : a - 100 < srT.length
    · have e : srT.getD (a - 100) [] = srT[a - 100] := by rw [List.getD_eq_getElem?_getD, List.getElem?_eq_getElem q]; rfl
      rw [e] at h
      have hw := Nat.le_of_ble_eq_true (List.all_eq_true.mp srT_w _ (List.getElem_mem q))
      have hk : k < 40 := by
        apply Classical.byContradiction
        intro g
        refine h ?_
        rw [List.getD_eq_getElem?_getD, List.getElem?_eq_none (by omega)]
        rfl
      rw [srT_l] at q
      have c1 := List.all_eq_true.mp ckR3 (a - 100) (List.mem_range.mpr q)
      have c2 := List.all_eq_true.mp c1 k (List.mem_range.mpr hk)
      rw [show 100 + (a - 100) = a by omega, Bool.or_eq_true] at c2
      rcases c2 with c2 | c2
      · exact absurd (Nat.eq_of_beq_eq_true c2) h0
      · exact Nat.eq_of_beq_eq_true c2
    · rw [List.getD_eq_getElem?_getD (l := srT), List.getElem?_eq_none (l := srT) (i := a - 100) (Nat.le_of_not_lt q)] at h
      exact absurd rfl h
theorem emb_ini (B : Nat → Nat → Int32) : f3 B dE = emb 62989 (Mem0 B) := by
  have e : (fun a k => lk3 0 a k zR2) = fun a k => gR (Mem0 B) a k := by
    funext a k
    show lk3 0 a k zR2 = bb (Nat.beq (sR a k) 0) (lk3 0 a k zR2) (sR a k)
    cases hb : Nat.beq (sR a k) 0 with
    | true => rfl
    | false =>
      have hn : sR a k ≠ 0 := fun q => by rw [q] at hb; cases hb
      exact sR_ok a k hn
  show ((116, 62989, (Mem0 B).1, fun _ _ => 0, fun a k => lk3 0 a k zR2) : M1) = (116, 62989, (Mem0 B).1, fun _ _ => 0, fun a k => gR (Mem0 B) a k)
  rw [e]
theorem z0_row (B : Nat → Nat → Int32) (k : Nat) : (Mem0 B).1 198 k = iI (g0 k) := by
  show lk3 0 198 k zI2 = _
  unfold g0
  by_cases q26 : k = 26
  · rw [q26]; rfl
  · by_cases q5 : k = 5
    · rw [q5]; rfl
    · by_cases q2 : k = 2
      · rw [q2]; rfl
      · by_cases q1 : k = 1
        · rw [q1]; rfl
        · rw [if_neg (by omega), if_neg q5, if_neg q26]
          unfold zI2
          rw [lk3_c, if_pos rfl, if_neg q26, lk3_c, if_pos rfl, if_neg q5, lk3_c, if_pos rfl, if_neg q2, lk3_c, if_pos rfl, if_neg q1]
          rfl
theorem rel_ini (B : Nat → Nat → Int32) : Rel (Mem0 B) 1 := by
  have hz := z0_row B
  obtain ⟨wz, wR, wM, wA, w29, w0⟩ := row_new (M := ((fun _ k => (Mem0 B).1 198 k), fun _ _ => 0, fun _ _ => 0)) (p := p0) (C := []) (z := (Mem0 B).1 198) (RowP.ini (fun k _ => hz k)) (by decide) OkP.ini (fun k _ => rfl)
  have hC : RoomC (Mem0 B) 147 p0 := by
    refine ⟨fun k hk => ?_, fun c hc => ?_, fun c hc => ?_, fun t ht => absurd ht (Nat.not_lt_zero _), ⟨rfl, trivial⟩, rfl, trivial⟩
    · rcases (show k = 0 ∨ k = 1 ∨ k = 2 ∨ k = 3 ∨ k = 4 ∨ k = 5 ∨ k = 6 ∨ k = 7 ∨ k = 8 ∨ k = 9 by omega) with rfl | rfl | rfl | rfl | rfl | rfl | rfl | rfl | rfl | rfl <;> rfl
    · have e : g0 (12 + c) = 0 ∨ c = 14 := by unfold g0; rw [if_neg (by omega), if_neg (by omega)]; by_cases q : 12 + c = 26; exact Or.inr (by omega); exact Or.inl (if_neg q)
      rcases e with e | e
      · show _ = iI (g0 (12 + c))
        rw [e]; rfl
      · omega
    · have hc' : c < 1 := hc
      have : c = 0 := by omega
      subst this
      rfl
  refine ⟨147, 0, 1, 0, 0, (0, 4, 0, iI 0), fun _ => (0, 4, 0, iI 0), fun _ => -1, fun _ => 0, fun _ _ => 0, (Mem0 B).1 198, ⟨by decide, rfl, wR _ _ hC, wz, ?_, ?_, rfl, by decide, rfl, by decide, ?_⟩, Nat.le_refl _, rfl, ⟨rfl, rfl, rfl, rfl⟩, wM, RowEq.rf _, wA, ⟨rfl, by decide, rfl, by decide, fun j hj => absurd hj (Nat.not_lt_zero _)⟩, ⟨w29, fun j hj => absurd hj (Nat.not_lt_zero _)⟩, fun j hj => absurd hj (Nat.not_lt_zero _), ?_, ?_, ?_, ?_, rfl, rfl⟩
  · intro tm who bl c _ _ _ _
    exact ⟨0, rfl, by decide, fun nr tu _ _ => by rw [Nat.zero_testBit, Nat.zero_testBit]; rfl⟩
  · intro t bl _ _
    exact ⟨0, rfl, by decide, fun al fc _ _ => by rw [Nat.zero_testBit, Nat.zero_testBit]; rfl⟩
  · intro p bl _ _
    exact ⟨0, 0, rfl, by decide, by decide, fun q => absurd q (by decide)⟩
  · intro t ht
    rcases tr4 ht with rfl | rfl | rfl | rfl <;> exact ⟨rfl, fun q => absurd rfl q, by decide, by decide, by decide⟩
  · intro t ht
    rcases tr4 ht with rfl | rfl | rfl | rfl <;> exact ⟨rfl, rfl, fun k _ => rfl, by decide, by decide, by decide⟩
  · intro i hi
    rcases (show i = 0 ∨ i = 1 by omega) with rfl | rfl <;> exact Or.inl ⟨rfl, rfl⟩
  · exact ⟨0, rfl, rfl, by decide, fun k _ => ⟨0, by decide, rfl, rfl⟩⟩
/-- the whole law, over the first memory -/
theorem law_run (B : Nat → Nat → Int32) {L : Nat} (hL : L ≤ 3072) (hB : B 0 0 = iI (L : Nat)) : ∃ Mf : M1, XX O1 80 m_law 0 [.ref 1, uns, uns, uns] [] (f3 B dZ) = some (.int (iI 1), Mf) ∧ Mf.1 = 116 ∧ Mf.2.1 = 62989 := by
  obtain ⟨M', e⟩ := law_all 0 hL 512 0 1 (Mem0 B) (by omega) (Nat.zero_le _) (by decide) (rel_ini B) hB
  have e' : XX O2 80 m_law 18 [.ref 1, .ref 100, .ref 197, .int (iI 0)] [] (Mem0 B) = some (.int (iI 1), M') := e
  have h := XX_sim (emb_hom 62989) e'
  exact ⟨emb 62989 M', by rw [law_ini, emb_ini]; exact h, rfl, rfl⟩
