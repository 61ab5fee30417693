/-! A LAW'S TEXT: steps in a row. -/
section A1
variable {T : Nat → Nat} {n N a t : Nat}
def sqR (r1 r2 : Rd) : Rd := if r1.1 = 0 then (r2.1, r2.2.1, r1.2.2 ++ r2.2.2) else r1
def opR (r1 : Rd) (c : Nat) (r2 : Rd) : Rd := if r1.1 = 0 then (r2.1, r2.2.1, r1.2.2 ++ c :: r2.2.2) else r1
theorem CR.cg {P Q : Mem → Rs Mem} {j : Nat} {r : Rd} (h : CR T n N a t Q j r) (he : ∀ s M L, CAt T n N a t j s L M → P M = Q M) : CR T n N a t P j r := by
  intro s M L hM
  rw [he s M L hM]
  exact h s M L hM
theorem MR.cg {P Q : Mem → Rs Mem} {j : Nat} {r : Rd} (h : MR T n t Q j r) (he : ∀ s M C, MAt T n t j s C M → P M = Q M) : MR T n t P j r := by
  intro s M L hM
  rw [he s M L hM]
  exact h s M L hM
theorem CR.dn {j : Nat} : CR T n N a t (fun M => some (.int (iI 1), M)) j (0, j, []) := by
  intro s M L h
  exact ⟨M, rfl, Eqx.rf, fun _ => by rw [List.append_nil]; exact h, fun w => absurd rfl w⟩
theorem MR.dn {j : Nat} : MR T n t (fun M => some (.null, M)) j (0, j, []) := by
  intro s M L h
  exact ⟨M, rfl, OM.rf M, fun _ _ => rfl, fun _ => by rw [List.append_nil]; exact h, fun w => absurd rfl w⟩
theorem CR.sq {P Q : Mem → Rs Mem} {j : Nat} {r1 r2 : Rd} (h1 : CR T n N a t P j r1) (h2 : r1.1 = 0 → CR T n N a t Q r1.2.1 r2) : CR T n N a t (fun M => bI (P M) fun x M1 => if x = 0 then some (.int (iI 0), M1) else Q M1) j (sqR r1 r2) := by
  intro s M L h
  obtain ⟨M1, e1, hE1, ok1, no1⟩ := h1 s M L h
  unfold sqR
  by_cases q : r1.1 = 0
  · rw [if_pos q]
    rw [if_pos q] at e1
    obtain ⟨M2, e2, hE2, ok2, no2⟩ := h2 q s M1 _ (ok1 q)
    refine ⟨M2, ?_, hE1.tr hE2, fun w => ?_, no2⟩
    · show bI (P M) _ = _
      rw [e1, bI_some, if_neg (by decide)]; exact e2
    · rw [← List.append_assoc]; exact ok2 w
  · rw [if_neg q]
    rw [if_neg q] at e1
    refine ⟨M1, ?_, hE1, fun w => absurd w q, no1⟩
    show bI (P M) _ = _
    rw [e1, bI_some, if_pos (by decide), if_neg q]
theorem MR.sq {P Q : Mem → Rs Mem} {j : Nat} {r1 r2 : Rd} (h4 : r1.1 ≤ 4) (h1 : MR T n t P j r1) (h2 : r1.1 = 0 → MR T n t Q r1.2.1 r2) (hw : ∀ M, Wr M → Q M = some (.null, M)) : MR T n t (fun M => bV (P M) Q) j (sqR r1 r2) := by
  intro s M L h
  obtain ⟨M1, e1, hO1, hF1, ok1, no1⟩ := h1 s M L h
  unfold sqR
  by_cases q : r1.1 = 0
  · rw [if_pos q]
    obtain ⟨M2, e2, hO2, hF2, ok2, no2⟩ := h2 q s M1 _ (ok1 q)
    refine ⟨M2, ?_, hO1.tr hO2, fun k hk => (hF2 k hk).trans (hF1 k hk), fun w => ?_, no2⟩
    · show bV (P M) _ = _
      rw [e1, bV_some]; exact e2
    · rw [← List.append_assoc]; exact ok2 w
  · rw [if_neg q]
    refine ⟨M1, ?_, hO1, hF1, fun w => absurd w q, no1⟩
    show bV (P M) _ = _
    rw [e1, bV_some]
    exact hw M1 ((no1 q).wr q h4)
theorem w_cod {D : Nat} (hD : 1 ≤ D) {M : Mem} (h : Wr M) (x : Int32) : c2 D m_Mo_codes [.ref 197, .int x] M = some (.null, M) := by
  obtain ⟨d, rfl⟩ := Nat.exists_eq_add_of_le' hD
  show X2 d m_Mo_codes 0 [.ref 197, .int x] [] M = _
  rw [e_Mo_codes_0, if_neg h]
theorem CR.op {P sub Q : Mem → Rs Mem} {D j c : Nat} {r1 r2 : Rd} (hD : 1 ≤ D) (ha : a ∈ laws) (hk : KK T n j ≠ 24) (h1 : CR T n N a t sub (j + 1) r1) (h2 : r1.1 = 0 → CR T n N a t Q r1.2.1 r2) (hP : ∀ s M L, CAt T n N a t j s L M → P M = bV (c2 D m_Tok_advance [.ref 102] M) fun M1 => bI (sub M1) fun x M2 => if x = 0 then some (.int (iI 0), M2) else gb (isK O2 M2 (gR M2 107 1) 11 && !false) (bV (c2 D m_Lw_add [.ref (gR M2 107 1), .int (iI (encC c))] M2) Q)) : CR T n N a t P j (opR r1 c r2) := by
  intro s M L h
  obtain ⟨M0, e0, hE0, h0⟩ := h.adv hD ha hk
  obtain ⟨M1, e1, hE1, ok1, no1⟩ := h1 (s + 1) M0 L h0
  rw [hP s M L h, e0, bV_some, e1, bI_some]
  unfold opR
  by_cases q : r1.1 = 0
  · have k1 := ok1 q
    have kl := k1.2.2.2.2.2.2
    have hq := k1.1.lt
    obtain ⟨M2, e2, hE2, k2⟩ := (k1.less (Nat.le_succ s)).add hD ha (by omega) c (by omega)
    obtain ⟨M3, e3, hE3, ok3, no3⟩ := h2 q s M2 _ k2
    have g1 : gR M1 107 1 = a := k1.2.2.1
    rw [if_pos q, if_pos q, if_neg (by decide), g1, lw_k _ a ha]
    refine ⟨M3, ?_, (hE0.tr hE1).tr (hE2.tr hE3), fun w => ?_, no3⟩
    · show gb true _ = _
      rw [gb_T, e2, bV_some]; exact e3
    · have := ok3 w
      rw [List.append_assoc, List.append_assoc, List.singleton_append] at this
      exact this
  · rw [if_neg q, if_neg q, if_pos (by decide)]
    exact ⟨M1, by rw [if_neg q], hE0.tr hE1, fun w => absurd w q, no1⟩
theorem MR.op {P sub Q : Mem → Rs Mem} {D j c : Nat} {r1 r2 : Rd} (hD : 1 ≤ D) (h4 : r1.1 ≤ 4) (h1 : MR T n t sub (j + 1) r1) (h2 : r1.1 = 0 → MR T n t Q r1.2.1 r2) (hw : ∀ M, Wr M → Q M = some (.null, M)) (hP : ∀ s M C, MAt T n t j s C M → ∃ M0, OM M M0 ∧ (∀ k, k < 70 → gI M0 201 k = gI M 201 k) ∧ MAt T n t (j + 1) (s + 1) C M0 ∧ P M = bV (sub M0) fun M2 => bV (c2 D m_Mo_codes [.ref 197, .int (iI c)] M2) Q) : MR T n t P j (opR r1 c r2) := by
  intro s M L h
  obtain ⟨M0, hO0, hF0, h0, e0⟩ := hP s M L h
  obtain ⟨M1, e1, hO1, hF1, ok1, no1⟩ := h1 (s + 1) M0 L h0
  rw [e0, e1, bV_some]
  unfold opR
  by_cases q : r1.1 = 0
  · have k1 := ok1 q
    have kl := k1.2.2.2.2.1
    have hq := k1.2.2.2.2.2
    obtain ⟨M2, e2, hO2, hF2, k2⟩ := (k1.less (Nat.le_succ s)).cod hD (by omega) c (by omega)
    obtain ⟨M3, e3, hO3, hF3, ok3, no3⟩ := h2 q s M2 _ k2
    rw [if_pos q]
    refine ⟨M3, by rw [e2, bV_some]; exact e3, (hO0.tr hO1).tr (hO2.tr hO3), fun k hk => (((hF3 k hk).trans (hF2 k hk)).trans (hF1 k hk)).trans (hF0 k hk), fun w => ?_, no3⟩
    have := ok3 w
    rw [List.append_assoc, List.append_assoc, List.singleton_append] at this
    exact this
  · have w := (no1 q).wr q h4
    rw [if_neg q, w_cod hD w, bV_some, hw M1 w]
    exact ⟨M1, rfl, hO0.tr hO1, fun k hk => (hF1 k hk).trans (hF0 k hk), fun w => absurd w q, no1⟩
/-! what a law's code does to the stack -/
theorem stL_app (wd : Nat → Int32) (lim : Nat) : ∀ (L1 L2 : List Nat) (s : List Int32), stL wd lim (L1 ++ L2) s = (stL wd lim L1 s).bind (stL wd lim L2)
  | [], L2, s => rfl
  | c :: L1, L2, s => by
    show (st1 wd lim c s).bind (stL wd lim (L1 ++ L2)) = ((st1 wd lim c s).bind (stL wd lim L1)).bind (stL wd lim L2)
    cases st1 wd lim c s with
    | none => rfl
    | some u => exact stL_app wd lim L1 L2 u
theorem OkL_app {al : Nat → Bool} : ∀ {L1 L2 : List Nat}, OkL al L1 → OkL al L2 → OkL al (L1 ++ L2)
  | [], _, _, h => h
  | _ :: _, _, h, g => ⟨h.1, OkL_app h.2 g⟩
def tv (b : Bool) (v : Int32) : Prop := b = true → v = iI 0 ∨ v = iI 1
def Eff (al : Nat → Bool) (b : Bool) (h : Nat) (L : List Nat) : Prop := OkL al L ∧ 1 ≤ L.length ∧ ∀ (wd : Nat → Int32) (lim : Nat) (s : List Int32), s.length + h ≤ lim → ∃ v : Int32, tv b v ∧ stL wd lim L s = some (v :: s)
def EffL (al : Nat → Bool) (b : Bool) (h : Nat) (L : List Nat) : Prop := OkL al L ∧ ∀ (wd : Nat → Int32) (lim : Nat) (s : List Int32) (u : Int32), s.length + h ≤ lim → tv b u → ∃ v : Int32, tv b v ∧ stL wd lim L (u :: s) = some (v :: s)
theorem Eff.le {al : Nat → Bool} {b : Bool} {h h' : Nat} {L : List Nat} (e : Eff al b h L) (hh : h ≤ h') : Eff al b h' L := ⟨e.1, e.2.1, fun wd lim s hs => e.2.2 wd lim s (by omega)⟩
theorem EffL.nil {al : Nat → Bool} {b : Bool} {h : Nat} : EffL al b h [] := ⟨trivial, fun _ _ _ u _ hu => ⟨u, hu, rfl⟩⟩
theorem Eff.sq {al : Nat → Bool} {b : Bool} {h : Nat} {L1 L2 : List Nat} (e1 : Eff al b h L1) (e2 : EffL al b h L2) : Eff al b h (L1 ++ L2) := by
  refine ⟨OkL_app e1.1 e2.1, by rw [List.length_append]; have := e1.2.1; omega, fun wd lim s hs => ?_⟩
  obtain ⟨u, hu, eu⟩ := e1.2.2 wd lim s hs
  obtain ⟨v, hv, ev⟩ := e2.2 wd lim s u hs hu
  exact ⟨v, hv, by rw [stL_app, eu]; exact ev⟩
theorem st1_op (wd : Nat → Int32) (lim : Nat) {c : Nat} (h1 : 3000 ≤ c) (h6 : c ≠ 3006) (x y : Int32) (s : List Int32) : st1 wd lim c (y :: x :: s) = some (op2 (c - 3000) x y :: s) := by
  unfold st1
  rw [if_neg (by omega), if_neg h6]
theorem EffL.op {al : Nat → Bool} {b : Bool} {h c : Nat} {L1 L2 : List Nat} (e1 : Eff al b h L1) (h1 : 3000 ≤ c) (h8 : c ≤ 3008) (h6 : c ≠ 3006) (hb : b = true → c = 3007 ∨ c = 3008) (e2 : EffL al b (h + 1) L2) : EffL al b (h + 1) (L1 ++ c :: L2) := by
  refine ⟨OkL_app e1.1 ⟨Or.inr (Or.inr ⟨h1, h8⟩), e2.1⟩, fun wd lim s u hs hu => ?_⟩
  obtain ⟨v, hv, ev⟩ := e1.2.2 wd lim (u :: s) (by rw [List.length_cons]; omega)
  have ho : tv b (op2 (c - 3000) u v) := by
    intro q
    rcases hu q with rfl | rfl <;> rcases hv q with rfl | rfl <;> rcases hb q with rfl | rfl <;> decide
  obtain ⟨x, hx, ex⟩ := e2.2 wd lim s _ hs ho
  refine ⟨x, hx, ?_⟩
  rw [stL_app, ev]
  show (st1 wd lim c (v :: u :: s)).bind (stL wd lim L2) = _
  rw [st1_op wd lim h1 h6]
  exact ex
theorem Eff.cmp {al : Nat → Bool} {h c : Nat} {L1 L2 : List Nat} (e1 : Eff al false h L1) (e2 : Eff al false h L2) (hc : c = 3003 ∨ c = 3004 ∨ c = 3005) : Eff al true (h + 1) (L1 ++ (L2 ++ c :: [])) := by
  refine ⟨OkL_app e1.1 (OkL_app e2.1 ⟨Or.inr (Or.inr (by omega)), trivial⟩), by rw [List.length_append]; have := e1.2.1; omega, fun wd lim s hs => ?_⟩
  obtain ⟨u, _, eu⟩ := e1.2.2 wd lim s (by omega)
  obtain ⟨v, _, ev⟩ := e2.2.2 wd lim (u :: s) (by rw [List.length_cons]; omega)
  refine ⟨op2 (c - 3000) u v, fun _ => ?_, ?_⟩
  · rcases hc with rfl | rfl | rfl
    · show iI (b2i _) = _ ∨ iI (b2i _) = _
      rcases b2i_01 (decide (u = v)) with q | q <;> rw [q] <;> simp
    · show iI (b2i _) = _ ∨ iI (b2i _) = _
      rcases b2i_01 (decide (u < v)) with q | q <;> rw [q] <;> simp
    · show iI (b2i _) = _ ∨ iI (b2i _) = _
      rcases b2i_01 (decide (v < u)) with q | q <;> rw [q] <;> simp
  · rw [stL_app, eu]
    show stL wd lim (L2 ++ [c]) (u :: s) = _
    rw [stL_app, ev]
    show (st1 wd lim c (v :: u :: s)).bind _ = _
    rw [st1_op wd lim (by omega) (by omega)]
    rfl
theorem Eff.no {al : Nat → Bool} {h : Nat} {L : List Nat} (e : Eff al true h L) : Eff al true h (L ++ 3006 :: []) := by
  refine ⟨OkL_app e.1 ⟨Or.inr (Or.inr ⟨by decide, by decide⟩), trivial⟩, by rw [List.length_append]; have := e.2.1; omega, fun wd lim s hs => ?_⟩
  obtain ⟨u, hu, eu⟩ := e.2.2 wd lim s hs
  refine ⟨iI 1 - u, fun q => ?_, by rw [stL_app, eu]; rfl⟩
  rcases hu q with rfl | rfl <;> decide
theorem Eff.val {al : Nat → Bool} {c : Nat} (hc : OkC al c) (h3 : c < 3000) : Eff al false 1 [c] := by
  refine ⟨⟨hc, trivial⟩, Nat.le_refl _, fun wd lim s hs => ⟨if c < 1000 then iI c else wd (c - 1000), fun q => absurd q (by decide), ?_⟩⟩
  show (st1 wd lim c s).bind (stL wd lim []) = _
  unfold st1
  rw [if_pos h3, if_pos (by omega)]
  rfl
end A1
