/-! A LAW'S TEXT: atoms. -/
section A5
variable {T : Nat → Nat} {n N a t : Nat}
theorem sqR4 {r1 r2 : Rd} (h1 : r1.1 ≤ 4) (h2 : r2.1 ≤ 4) : (sqR r1 r2).1 ≤ 4 := by
  unfold sqR
  split
  · exact h2
  · exact h1
theorem sqR0 {r1 r2 : Rd} (h : (sqR r1 r2).1 = 0) : r1.1 = 0 ∧ r2.1 = 0 ∧ sqR r1 r2 = (r2.1, r2.2.1, r1.2.2 ++ r2.2.2) := by
  by_cases q : r1.1 = 0
  · have e : sqR r1 r2 = (r2.1, r2.2.1, r1.2.2 ++ r2.2.2) := if_pos q
    rw [e] at h
    exact ⟨q, h, e⟩
  · have e : sqR r1 r2 = r1 := if_neg q
    rw [e] at h
    exact absurd h q
theorem MAt.fr0 {j j' s s' : Nat} {C : List Nat} {M M' : Mem} (h : MAt T n t j s C M) (hO : OM M M') (hF : M'.1 201 = M.1 201) (hJ : MJ T n j' M') (hl : C.length + s' ≤ j') (h9 : j' ≤ 900) : MAt T n t j' s' C M' := ⟨hJ, (hO.2 15 (by decide) (by decide) (by decide) (by decide) (by decide) (by decide)).trans h.2.1, (congrFun hF 70).trans h.2.2.1, by rw [hF]; exact h.2.2.2.1, hl, h9⟩
theorem CAt.fr0 {j j' s s' : Nat} {L : List Nat} {M M' : Mem} (ha : a ∈ laws) (h : CAt T n N a t j s L M) (hE : Eqx [102] M M') (hJ : CJ T n N j' M') (hl : L.length + s' ≤ j') : CAt T n N a t j' s' L M' := by
  have hr := laws_lt a ha
  obtain ⟨h1, h2, h3, h4, h5, h6, h7⟩ := h
  exact ⟨hJ, (eqx_R hE (by decide) 0).trans h2, (eqx_R hE (by decide) 1).trans h3, (eqx_I hE (by decide) 2).trans h4, (eqx_I hE (ni1 (by omega)) 2).trans h5, h6.fr (hE (a + 1) (ni1 (by omega))).1, hl⟩
theorem MR.ent {P Q : Mem → Rs Mem} {D j w : Nat} {r2 : Rd} (hD : 7 ≤ D) (hw : w ≤ 6) (hj : j + 1 ≤ 900) (h2 : w < 6 → MR T n t Q (j + 1) r2) (hP : ∀ s M C, MAt T n t j s C M → P M = bI (c2 D m_Mo_goesIn [.ref 197, .int (iI w)] M) fun x M4 => if x = 0 then some (.null, M4) else Q M4) : MR T n t P j (sqR (enR T n w j) r2) := by
  obtain ⟨d, rfl⟩ := Nat.exists_eq_add_of_le' hD
  have e0 : ∀ M, c2 (d + 7) m_Mo_goesIn [.ref 197, .int (iI w)] M = X2 (d + 6) m_Mo_goesIn 0 [.ref 197, .int (iI w)] [] M := fun _ => rfl
  intro s M C h
  rw [hP s M C h, e0, e_Mo_goesIn_0]
  by_cases q : w < 6
  · have e : enR T n w j = (0, j + 1, []) := if_pos q
    obtain ⟨M1, e1, hO1, hF1, k1⟩ := h.nx (D := d + 6) (by omega) hj
    obtain ⟨M2, e2, hO2, hF2, ok2, no2⟩ := h2 q s M1 C (k1.less (Nat.le_succ s))
    have w0 : gI M 197 11 = 0 := h.1.w
    have w1 : gI M1 197 11 = 0 := k1.1.w
    rw [e, if_neg (by rw [iI_eq (by omega) (by omega) (by omega) (by omega)]; omega), if_pos w0, e1, bV_some, if_pos w1, bI_some, if_neg (by decide)]
    exact ⟨M2, e2, hO1.tr hO2, fun k hk => (hF2 k hk).trans (hF1 k hk), ok2, no2⟩
  · have e : enR T n w j = (ff T n j 4, SS T n j, []) := if_neg q
    have z := ff_rng T n j (why := 4) (by decide) (by decide)
    have es : sqR (ff T n j 4, SS T n j, []) r2 = (ff T n j 4, SS T n j, []) := if_neg z.1
    obtain ⟨M1, e1, hO1, hF1, k1⟩ := h.fl (D := d + 6) (by omega) 4
    have w1 := k1.wr z.1 z.2
    rw [e, es, if_pos (by rw [iI_eq (by omega) (by omega) (by omega) (by omega)]; omega), show iI 4 = iI ((4 : Nat) : Int) from rfl, e1, bV_some, if_neg w1, if_neg w1, bI_some, if_pos (by decide)]
    exact ⟨M1, rfl, hO1, hF1, fun x => absurd x z.1, fun _ => k1⟩
/-- a sign that closes -/
def clR (T : Nat → Nat) (n c j : Nat) : Rd := if KK T n j = c then (0, j + 1, []) else (ff T n j 2, SS T n j, [])
theorem clR4 (T : Nat → Nat) (n c j : Nat) : (clR T n c j).1 ≤ 4 := by
  unfold clR
  split
  · exact Nat.zero_le _
  · exact (ff_rng T n j (by decide) (by decide)).2
theorem clR0 {c j : Nat} (h : (clR T n c j).1 = 0) : KK T n j = c ∧ clR T n c j = (0, j + 1, []) := by
  by_cases q : KK T n j = c
  · exact ⟨q, if_pos q⟩
  · have e : clR T n c j = (ff T n j 2, SS T n j, []) := if_neg q
    rw [e] at h
    exact absurd h (ff_rng T n j (by decide) (by decide)).1
theorem CR.cls {P : Mem → Rs Mem} {D j c : Nat} {x : Int} (hD : 2 ≤ D) (ha : a ∈ laws) (hc : okC c = true) (h24 : c ≠ 24) (hx : x = (kcls c : Int)) (hP : ∀ s M L, CAt T n N a t j s L M → P M = bI (c2 D m_Tok_pass [.ref 102, .int (iI x)] M) fun r M13 => if r = 0 then some (.int (iI 0), M13) else some (.int (iI 1), M13)) : CR T n N a t P j (clR T n c j) := by
  intro s M L h
  rw [hP s M L h]
  unfold clR
  by_cases q : KK T n j = c
  · obtain ⟨M1, e1, hE1, k1⟩ := (j_pass hD h.1 hc h24 hx).1 q
    rw [if_pos q, e1, bI_some, if_neg (by decide)]
    exact ⟨M1, rfl, hE1.mono (by simp), fun _ => by rw [List.append_nil]; exact h.fr0 ha hE1 k1 (show L.length + s ≤ j + 1 by have := h.2.2.2.2.2.2; omega), fun z => absurd rfl z⟩
  · obtain ⟨M1, e1, hE1, k1⟩ := (j_pass hD h.1 hc h24 hx).2 q
    have z := ff_rng T n j (why := 2) (by decide) (by decide)
    rw [if_neg q, e1, bI_some, if_pos (by decide)]
    exact ⟨M1, by rw [if_neg z.1], hE1.mono (by simp), fun y => absurd y z.1, fun _ => k1⟩
theorem MR.cls {P : Mem → Rs Mem} {D j c : Nat} (hD : 7 ≤ D) (hc : c ≤ 100) (hj : KK T n j = c → j + 1 ≤ 900) (hP : ∀ s M C, MAt T n t j s C M → P M = bI (c2 D m_Mo_eats [.ref 197, .int (iI c)] M) fun r M7 => if r = 0 then bV (c2 D m_Mo_fails [.ref 197, .int (iI 2)] M7) fun M9 => some (.null, M9) else some (.null, M7)) : MR T n t P j (clR T n c j) := by
  intro s M C h
  rw [hP s M C h]
  unfold clR
  by_cases q : KK T n j = c
  · obtain ⟨M1, e1, hO1, hF1, k1⟩ := h.eat hD (hj q) hc q
    rw [if_pos q, e1, bI_some, if_neg (by decide)]
    exact ⟨M1, rfl, hO1, hF1, fun _ => by rw [List.append_nil]; exact k1.less (Nat.le_succ s), fun z => absurd rfl z⟩
  · have z := ff_rng T n j (why := 2) (by decide) (by decide)
    obtain ⟨M1, e1, hO1, hF1, k1⟩ := h.fl (D := D) (by omega) 2
    rw [if_neg q, (k_eat hD h.1 hc).2 q, bI_some, if_pos (by decide), show iI 2 = iI ((2 : Nat) : Int) from rfl, e1, bV_some]
    exact ⟨M1, rfl, hO1, hF1, fun y => absurd y z.1, fun _ => k1⟩
/-- a number or a word -/
theorem CR.val {P : Mem → Rs Mem} {D j c : Nat} (hD : 1 ≤ D) (ha : a ∈ laws) (hk : KK T n j ≠ 24) (hP : ∀ s M L, CAt T n N a t j s L M → P M = bV (c2 D m_Lw_add [.ref a, .int (iI (encC c))] M) fun M5 => gb (isK O2 M5 (gR M5 107 0) 19 && !false) (bV (c2 D m_Tok_advance [.ref (gR M5 107 0)] M5) fun M6 => some (.int (iI 1), M6))) : CR T n N a t P j (0, j + 1, [c]) := by
  intro s M L h
  have hr := laws_lt a ha
  obtain ⟨d, rfl⟩ := Nat.exists_eq_add_of_le' hD
  have hj := h.1.nx hk
  have hN := h.1.lt
  rw [hP s M L h]
  obtain ⟨h1, h2, h3, h4, h5, h6, h7⟩ := h
  have e := e_Lw_add_0 d a (iI (encC c)) M
  simp only [lw_k _ a ha, lw_c _ a ha, lw_at1 _ _ a ha, gb_T] at e
  rw [h5, if_pos (by rw [iI_lt (by omega) (by omega) (by omega) (by omega)]; omega), inb_ok (by omega) (by omega) (by omega), gb_T, ix_nat (by omega), iI_add] at e
  have q1 : Eqx [a, a + 1] M (wI (wI M a 2 (iI ((L.length : Int) + 1))) (a + 1) L.length (iI (encC c))) := eqx_wI (eqx_wI Eqx.rf (by simp)) (by simp)
  have c0 : c2 (d + 1) m_Lw_add [.ref a, .int (iI (encC c))] M = some (.null, wI (wI M a 2 (iI ((L.length : Int) + 1))) (a + 1) L.length (iI (encC c))) := e
  have d1 : gI (wI (wI M a 2 (iI ((L.length : Int) + 1))) (a + 1) L.length (iI (encC c))) a 2 = iI ((L ++ [c]).length : Nat) := by
    rw [gI_na (by omega), gI_eq, List.length_append]; rfl
  have d2 : CellsE ((wI (wI M a 2 (iI ((L.length : Int) + 1))) (a + 1) L.length (iI (encC c))).1 (a + 1)) 0 (L ++ [c]) := by
    refine h6.sn (fun k _ hk => ?_) ?_
    · show gI (wI (wI M a 2 _) (a + 1) L.length _) (a + 1) k = _
      rw [gI_nk (by omega), gI_na (by omega)]; rfl
    · show gI (wI (wI M a 2 _) (a + 1) L.length _) (a + 1) (0 + L.length) = _
      rw [Nat.zero_add, gI_eq]
  rw [c0, bV_some]
  generalize wI (wI M a 2 (iI ((L.length : Int) + 1))) (a + 1) L.length (iI (encC c)) = M5 at q1 d1 d2
  have q2 : ∀ b, b < 151 → b ∉ [a, a + 1] := fun b hb => by simp; omega
  have g0 : gR M5 107 0 = 102 := (eqx_R q1 (q2 _ (by decide)) 0).trans h2
  obtain ⟨M6, e6, hE6, k6⟩ := j_adv (D := d + 1) (by omega) (h1.fr (q1 102 (q2 _ (by decide))).1 (q1 103 (q2 _ (by decide))).1 (q1 104 (q2 _ (by decide))).1 (q1 105 (q2 _ (by decide))).1) hk
  have kk : isK O2 M5 102 19 = true := rfl
  rw [g0, kk]
  refine ⟨M6, ?_, (q1.mono (by simp)).tr (hE6.mono (by simp)), fun _ => ?_, fun z => absurd rfl z⟩
  · show gb true _ = _
    rw [gb_T, e6, bV_some]
    rfl
  · exact ⟨k6, (eqx_R hE6 (by decide) 0).trans g0, (eqx_R hE6 (by decide) 1).trans ((eqx_R q1 (q2 _ (by decide)) 1).trans h3), (eqx_I hE6 (by decide) 2).trans ((eqx_I q1 (q2 _ (by decide)) 2).trans h4), (eqx_I hE6 (ni1 (by omega)) 2).trans d1, d2.fr (hE6 (a + 1) (ni1 (by omega))).1, by show (L ++ [c]).length + s ≤ j + 1; rw [List.length_append, List.length_singleton]; omega⟩
theorem MR.val {P : Mem → Rs Mem} {D j c : Nat} (hD : 6 ≤ D) (hj : j + 1 ≤ 900) (hP : ∀ s M C, MAt T n t j s C M → P M = bV (c2 D m_Mo_codes [.ref 197, .int (iI c)] M) fun M7 => bV (c2 D m_Mo_next [.ref 197] M7) fun M8 => some (.null, M8)) : MR T n t P j (0, j + 1, [c]) := by
  intro s M C h
  rw [hP s M C h]
  obtain ⟨h1, h2, h3, h4, h5, h6⟩ := h
  obtain ⟨d, rfl⟩ := Nat.exists_eq_add_of_le' hD
  have e := e_Mo_codes_0 (d + 5) (iI c) M
  rw [if_pos h1.w, h3, iI_add, inb_ok (by omega) (by omega) (by omega), gb_T, ix_eq (n := 71 + C.length) (by omega) (by omega), gI_nk (by omega), h3, iI_add] at e
  have q : Eqx [201] M (wI (wI M 201 (71 + C.length) (iI c)) 201 70 (iI ((C.length : Int) + 1))) := eqx_wI (eqx_wI Eqx.rf (by simp)) (by simp)
  have c0 : c2 (d + 6) m_Mo_codes [.ref 197, .int (iI c)] M = some (.null, wI (wI M 201 (71 + C.length) (iI c)) 201 70 (iI ((C.length : Int) + 1))) := e
  have d1 : gI (wI (wI M 201 (71 + C.length) (iI c)) 201 70 (iI ((C.length : Int) + 1))) 201 70 = iI ((C ++ [c]).length : Nat) := by
    rw [gI_eq, List.length_append]; rfl
  have d2 : Cells ((wI (wI M 201 (71 + C.length) (iI c)) 201 70 (iI ((C.length : Int) + 1))).1 201) 71 (C ++ [c]) := by
    refine h4.sn (fun k k1 k2 => ?_) ?_
    · show gI (wI (wI M 201 (71 + C.length) _) 201 70 _) 201 k = _
      rw [gI_nk (by omega), gI_nk (by omega)]; rfl
    · show gI (wI (wI M 201 (71 + C.length) _) 201 70 _) 201 (71 + C.length) = _
      rw [gI_nk (by omega), gI_eq]
  have d3 : ∀ k, k < 70 → gI (wI (wI M 201 (71 + C.length) (iI c)) 201 70 (iI ((C.length : Int) + 1))) 201 k = gI M 201 k := fun k hk => by rw [gI_nk (by omega), gI_nk (by omega)]
  rw [c0, bV_some]
  generalize wI (wI M 201 (71 + C.length) (iI c)) 201 70 (iI ((C.length : Int) + 1)) = M7 at q d1 d2 d3
  obtain ⟨M8, e8, hO8, hF8, k8⟩ := k_nx (D := d + 6) (by omega) (h1.fr (q 197 (by decide)).1 (q 200 (by decide)).1)
  have hO7 : OM M M7 := ⟨q.mono (by simp), fun k _ _ _ _ _ _ => eqx_I q (by decide) k⟩
  rw [e8, bV_some]
  exact ⟨M8, rfl, hO7.tr hO8, fun k hk => (congrFun hF8 k).trans (d3 k hk), fun _ => ⟨k8, ((hO7.tr hO8).2 15 (by decide) (by decide) (by decide) (by decide) (by decide) (by decide)).trans h2, (congrFun hF8 70).trans d1, by rw [hF8]; exact d2, by show (C ++ [c]).length + s ≤ j + 1; rw [List.length_append, List.length_singleton]; omega, hj⟩, fun z => absurd rfl z⟩
end A5
