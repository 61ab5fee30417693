/-! A LAW'S TEXT: words, going within, atoms. -/
section A4
variable {T : Nat → Nat} {n N a t : Nat}
theorem ite_sm {p : Prop} {q : Decidable p} {x y : Int32} {M : Mem} : (@ite _ p q (some (Value.int x, M)) (some (Value.int y, M))) = some (.int (@ite _ p q x y), M) := by
  cases q <;> rfl
/-- the words that may stand in a law -/
def alw (t k : Nat) : Bool := decide (k ≤ 1) || (decide (t = 1) && decide (k ≤ 6)) || (decide (t = 0) && decide (7 ≤ k ∧ k ≤ 9))
def twf (x1 : Int32) : Int32 := if x1 = iI 5 then iI 5 else if x1 = iI 6 then iI (-1) else if x1 = iI 7 then iI (-1) else if x1 = iI 8 then iI 6 else if x1 = iI 9 then iI (-1) else if x1 = iI 10 then iI (-1) else if x1 = iI 11 then iI (-1) else if x1 = iI 12 then iI 2 else if x1 = iI 13 then iI 3 else if x1 = iI 14 then iI 4 else iI (-1)
def wof (x1 g : Int32) : Int32 := if x1 = iI 11 then iI 0 else if x1 = iI 2 then iI 1 else if g = 0 then twf x1 else if x1 = iI 15 then iI 7 else if x1 = iI 6 then iI 8 else if x1 = iI 3 then iI 9 else iI (-1)
theorem wof_eq : ∀ t : Fin 2, ∀ c : Fin 42, okC c.val = true → wof (iI (c.val : Nat)) (iI (1 - ((t.val : Nat) : Int))) = iI (if alw t.val (kcls c.val) = true then (kcls c.val : Int) else -1) := by decide +kernel
theorem c_Mo_wordOf {D : Nat} (hD : 2 ≤ D) {M : Mem} (ht : t ≤ 1) (h15 : gI M 197 15 = iI (1 - (t : Int))) {c : Nat} (hc : okC c = true) : c2 D m_Mo_wordOf [.ref 197, .int (iI c)] M = some (.int (iI (if alw t (kcls c) = true then (kcls c : Int) else -1)), M) := by
  obtain ⟨d, rfl⟩ := Nat.exists_eq_add_of_le' hD
  have e1 : ∀ x1, c2 (d + 1) m_Mo_turnsWord [.ref 197, .int x1] M = some (.int (twf x1), M) := fun x1 => by
    show X2 d m_Mo_turnsWord 0 [.ref 197, .int x1] [] M = _
    rw [e_Mo_turnsWord_0]
    simp only [ite_sm]
    rfl
  show X2 (d + 1) m_Mo_wordOf 0 [.ref 197, .int (iI c)] [] M = _
  rw [e_Mo_wordOf_0, e1, bI_some, h15]
  simp only [ite_sm]
  exact congrArg (fun v => some (Value.int v, M)) (wof_eq ⟨t, by omega⟩ ⟨c, okC_lt hc⟩ hc)
def ivf (x1 g : Int32) : Int32 := if iI 1 < x1 then (if g = 0 then (if x1 < iI 7 then iI 0 else if iI 9 < x1 then iI 0 else iI 1) else if iI 6 < x1 then iI 0 else iI 1) else iI 1
theorem ivf_eq : ∀ t : Fin 2, ∀ c : Fin 42, okC c.val = true → ivf (iI (kcls c.val : Nat)) (iI (t.val : Nat)) = iI (b2i (alw t.val (kcls c.val))) := by decide +kernel
theorem c_LR_isValue {D : Nat} (hD : 1 ≤ D) {M : Mem} (ht : t ≤ 1) (h2 : gI M 107 2 = iI t) {c : Nat} (hc : okC c = true) : c2 D m_LR_isValue [.ref 107, .int (iI (kcls c))] M = some (.int (iI (b2i (alw t (kcls c)))), M) := by
  obtain ⟨d, rfl⟩ := Nat.exists_eq_add_of_le' hD
  show X2 d m_LR_isValue 0 [.ref 107, .int (iI (kcls c))] [] M = _
  rw [e_LR_isValue_0, h2]
  simp only [ite_sm]
  exact congrArg (fun v => some (Value.int v, M)) (ivf_eq ⟨t, by omega⟩ ⟨c, okC_lt hc⟩ hc)
/-- a fault where the class stands -/
theorem CAt.ref {D : Nat} (hD : 1 ≤ D) {j s : Nat} {L : List Nat} {M : Mem} (h : CAt T n N a t j s L M) (why : Nat) : ∃ M', c2 D m_Tok_refuse [.ref 102, .int (iI why)] M = some (.int (iI 0), M') ∧ Eqx [102, a, a + 1] M M' ∧ FC (ff T n j why) (SS T n j) M' := by
  obtain ⟨M', e, hE, hF⟩ := j_ref hD h.1 why
  exact ⟨M', e, hE.mono (by simp), hF⟩
theorem MAt.fl {D : Nat} (hD : 1 ≤ D) {j s : Nat} {C : List Nat} {M : Mem} (h : MAt T n t j s C M) (why : Nat) : ∃ M', c2 D m_Mo_fails [.ref 197, .int (iI why)] M = some (.null, M') ∧ OM M M' ∧ (∀ k, k < 70 → gI M' 201 k = gI M 201 k) ∧ FM (ff T n j why) (SS T n j) M' := by
  obtain ⟨M', e, hO, hF, hJ⟩ := k_fl hD h.1 why
  exact ⟨M', e, hO, fun k _ => congrFun hF k, hJ⟩
theorem CR.no {P : Mem → Rs Mem} {D j why : Nat} (hD : 1 ≤ D) (h1 : why ≠ 0) (h4 : why ≤ 4) (hP : ∀ s M L, CAt T n N a t j s L M → P M = bI (c2 D m_Tok_refuse [.ref 102, .int (iI why)] M) fun r M2 => gb (decide (r &&& 1 = r)) (some (.int r, M2))) (L : List Nat) : CR T n N a t P j (ff T n j why, SS T n j, L) := by
  intro s M L' h
  obtain ⟨M', e, hE, hF⟩ := h.ref hD why
  have q := (ff_rng T n j h1 h4).1
  refine ⟨M', ?_, hE, fun w => absurd w q, fun _ => hF⟩
  rw [hP s M L' h, e, bI_some]
  show gb true _ = some (Value.int (iI (if ff T n j why = 0 then 1 else 0)), M')
  rw [gb_T, if_neg q]
theorem MR.no {P : Mem → Rs Mem} {D j why : Nat} (hD : 1 ≤ D) (h1 : why ≠ 0) (h4 : why ≤ 4) (hP : ∀ s M C, MAt T n t j s C M → P M = bV (c2 D m_Mo_fails [.ref 197, .int (iI why)] M) fun M2 => some (.null, M2)) (L : List Nat) : MR T n t P j (ff T n j why, SS T n j, L) := by
  intro s M C h
  obtain ⟨M', e, hO, hF, hX⟩ := h.fl hD why
  have q := (ff_rng T n j h1 h4).1
  exact ⟨M', by rw [hP s M C h, e, bV_some], hO, hF, fun w => absurd w q, fun _ => hX⟩
/-- going within: on, or beyond -/
def enR (T : Nat → Nat) (n w j : Nat) : Rd := if w < 6 then (0, j + 1, []) else (ff T n j 4, SS T n j, [])
theorem enR4 (T : Nat → Nat) (n w j : Nat) : (enR T n w j).1 ≤ 4 := by
  unfold enR
  split
  · exact Nat.zero_le _
  · exact (ff_rng T n j (by decide) (by decide)).2
theorem enR0 {w j : Nat} (h : (enR T n w j).1 = 0) : w < 6 ∧ enR T n w j = (0, j + 1, []) := by
  by_cases q : w < 6
  · exact ⟨q, if_pos q⟩
  · have e : enR T n w j = (ff T n j 4, SS T n j, []) := if_neg q
    rw [e] at h
    exact absurd h (ff_rng T n j (by decide) (by decide)).1
theorem CR.ent {D j w : Nat} (hD : 2 ≤ D) (ha : a ∈ laws) (hw : w ≤ 6) (hk : KK T n j ≠ 24) : CR T n N a t (c2 D m_LR_enter [.ref 107, .int (iI w)]) j (enR T n w j) := by
  obtain ⟨d, rfl⟩ := Nat.exists_eq_add_of_le' hD
  have e0 : ∀ M, c2 (d + 2) m_LR_enter [.ref 107, .int (iI w)] M = X2 (d + 1) m_LR_enter 0 [.ref 107, .int (iI w)] [] M := fun _ => rfl
  unfold enR
  by_cases q : w < 6
  · rw [if_pos q]
    intro s M L h
    obtain ⟨M', e, hE, hA⟩ := h.adv (D := d + 1) (by omega) ha hk
    have g0 : gR M 107 0 = 102 := h.2.1
    have kk : isK O2 M 102 19 = true := rfl
    refine ⟨M', ?_, hE, fun _ => by rw [List.append_nil]; exact hA.less (Nat.le_succ s), fun x => absurd rfl x⟩
    rw [e0, e_LR_enter_0, if_pos (by rw [iI_lt (by omega) (by omega) (by omega) (by omega)]; omega), g0, kk]
    show gb true _ = _
    rw [gb_T, e, bV_some]
    rfl
  · rw [if_neg q]
    refine CR.no (D := d + 1) (by omega) (by decide) (by decide) (fun s M L h => ?_) []
    have g0 : gR M 107 0 = 102 := h.2.1
    have kk : isK O2 M 102 19 = true := rfl
    rw [e0, e_LR_enter_0, if_neg (by rw [iI_lt (by omega) (by omega) (by omega) (by omega)]; omega), g0, kk]
    rfl
end A4
