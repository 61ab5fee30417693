/-! A LAW'S TEXT: class and reference at token j with code read so far; steps in a row. -/
section A0
variable {T : Nat → Nat} {n N a t : Nat}
/-- what a reader comes to: fault (0: none), next token or place of the fault, code -/
abbrev Rd : Type := Nat × Nat × List Nat
def CAt (T : Nat → Nat) (n N a t j s : Nat) (L : List Nat) (M : Mem) : Prop := CJ T n N j M ∧ gR M 107 0 = 102 ∧ gR M 107 1 = a ∧ gI M 107 2 = iI t ∧ gI M a 2 = iI L.length ∧ CellsE (M.1 (a + 1)) 0 L ∧ L.length + s ≤ j
def MAt (T : Nat → Nat) (n t j s : Nat) (C : List Nat) (M : Mem) : Prop := MJ T n j M ∧ gI M 197 15 = iI (1 - (t : Int)) ∧ gI M 201 70 = iI C.length ∧ Cells (M.1 201) 71 C ∧ C.length + s ≤ j ∧ j ≤ 900
def CR (T : Nat → Nat) (n N a t : Nat) (P : Mem → Rs Mem) (j : Nat) (r : Rd) : Prop := ∀ s M L, CAt T n N a t j s L M → ∃ M', P M = some (.int (iI (if r.1 = 0 then 1 else 0)), M') ∧ Eqx [102, a, a + 1] M M' ∧ (r.1 = 0 → CAt T n N a t r.2.1 s (L ++ r.2.2) M') ∧ (r.1 ≠ 0 → FC r.1 r.2.1 M')
def MR (T : Nat → Nat) (n t : Nat) (P : Mem → Rs Mem) (j : Nat) (r : Rd) : Prop := ∀ s M C, MAt T n t j s C M → ∃ M', P M = some (.null, M') ∧ OM M M' ∧ (∀ k, k < 70 → gI M' 201 k = gI M 201 k) ∧ (r.1 = 0 → MAt T n t r.2.1 s (C ++ r.2.2) M') ∧ (r.1 ≠ 0 → FM r.1 r.2.1 M')
theorem CellsE.sn {f g : Nat → Int32} {c : Nat} : ∀ {L : List Nat} {b : Nat}, CellsE f b L → (∀ k, b ≤ k → k < b + L.length → g k = f k) → g (b + L.length) = iI (encC c) → CellsE g b (L ++ [c])
  | [], b, _, _, h2 => ⟨h2, trivial⟩
  | x :: L, b, h, h1, h2 => ⟨(h1 b (Nat.le_refl _) (by rw [List.length_cons]; omega)).trans h.1, CellsE.sn (L := L) (b := b + 1) h.2 (fun k k1 k2 => h1 k (by omega) (by rw [List.length_cons]; omega)) (by rw [List.length_cons] at h2; rw [show b + 1 + L.length = b + (L.length + 1) by omega]; exact h2)⟩
theorem Cells.sn {f g : Nat → Int32} {c : Nat} : ∀ {L : List Nat} {b : Nat}, Cells f b L → (∀ k, b ≤ k → k < b + L.length → g k = f k) → g (b + L.length) = iI c → Cells g b (L ++ [c])
  | [], b, _, _, h2 => ⟨h2, trivial⟩
  | x :: L, b, h, h1, h2 => ⟨(h1 b (Nat.le_refl _) (by rw [List.length_cons]; omega)).trans h.1, Cells.sn (L := L) (b := b + 1) h.2 (fun k k1 k2 => h1 k (by omega) (by rw [List.length_cons]; omega)) (by rw [List.length_cons] at h2; rw [show b + 1 + L.length = b + (L.length + 1) by omega]; exact h2)⟩
theorem CJ.fr {j : Nat} {M M' : Mem} (h : CJ T n N j M) (h2 : M'.1 102 = M.1 102) (h3 : M'.1 103 = M.1 103) (h4 : M'.1 104 = M.1 104) (h5 : M'.1 105 = M.1 105) : CJ T n N j M' := by
  unfold CJ AtC Ent gI at h ⊢
  rw [h2, h3, h4, h5]
  exact h
theorem MJ.fr {j : Nat} {M M' : Mem} (h : MJ T n j M) (h2 : M'.1 197 = M.1 197) (h3 : M'.1 200 = M.1 200) : MJ T n j M' := by
  unfold MJ AtM TpM gI at h ⊢
  rw [h2, h3]
  exact h
theorem CAt.less {j s s' : Nat} {L : List Nat} {M : Mem} (h : CAt T n N a t j s L M) (hs : s' ≤ s) : CAt T n N a t j s' L M := ⟨h.1, h.2.1, h.2.2.1, h.2.2.2.1, h.2.2.2.2.1, h.2.2.2.2.2.1, by have := h.2.2.2.2.2.2; omega⟩
theorem MAt.less {j s s' : Nat} {C : List Nat} {M : Mem} (h : MAt T n t j s C M) (hs : s' ≤ s) : MAt T n t j s' C M := ⟨h.1, h.2.1, h.2.2.1, h.2.2.2.1, by have := h.2.2.2.2.1; omega, h.2.2.2.2.2⟩
theorem CAt.adv {D : Nat} (hD : 1 ≤ D) (ha : a ∈ laws) {j s : Nat} {L : List Nat} {M : Mem} (h : CAt T n N a t j s L M) (hk : KK T n j ≠ 24) : ∃ M', c2 D m_Tok_advance [.ref 102] M = some (.null, M') ∧ Eqx [102, a, a + 1] M M' ∧ CAt T n N a t (j + 1) (s + 1) L M' := by
  have hr := laws_lt a ha
  obtain ⟨h1, h2, h3, h4, h5, h6, h7⟩ := h
  obtain ⟨M', e, hE, hJ⟩ := j_adv hD h1 hk
  exact ⟨M', e, hE.mono (by simp), hJ, (eqx_R hE (by decide) 0).trans h2, (eqx_R hE (by decide) 1).trans h3, (eqx_I hE (by decide) 2).trans h4, (eqx_I hE (ni1 (by omega)) 2).trans h5, h6.fr (hE (a + 1) (ni1 (by omega))).1, by omega⟩
theorem CAt.add {D : Nat} (hD : 1 ≤ D) (ha : a ∈ laws) {j s : Nat} {L : List Nat} {M : Mem} (h : CAt T n N a t j s L M) (hl : L.length < 900) (c : Nat) (hs : L.length + 1 + s ≤ j) : ∃ M', c2 D m_Lw_add [.ref a, .int (iI (encC c))] M = some (.null, M') ∧ Eqx [102, a, a + 1] M M' ∧ CAt T n N a t j s (L ++ [c]) M' := by
  have hr := laws_lt a ha
  obtain ⟨d, rfl⟩ := Nat.exists_eq_add_of_le' hD
  obtain ⟨h1, h2, h3, h4, h5, h6, h7⟩ := h
  have e := e_Lw_add_0 d a (iI (encC c)) M
  simp only [lw_k _ a ha, lw_c _ a ha, lw_at1 _ _ a ha, gb_T] at e
  rw [h5, if_pos (by rw [iI_lt (by omega) (by omega) (by omega) (by omega)]; omega), inb_ok (by omega) (by omega) (by omega), gb_T, ix_nat (by omega), iI_add] at e
  have q1 : Eqx [a, a + 1] M (wI (wI M a 2 (iI ((L.length : Int) + 1))) (a + 1) L.length (iI (encC c))) := eqx_wI (eqx_wI Eqx.rf (by simp)) (by simp)
  have nm : ∀ b, b ≠ a → b ≠ a + 1 → b ∉ [a, a + 1] := fun b b1 b2 => by simp; omega
  have q2 : ∀ b, b < 151 → b ∉ [a, a + 1] := fun b hb => nm b (by omega) (by omega)
  refine ⟨_, e, q1.mono (by simp), h1.fr (q1 102 (q2 _ (by decide))).1 (q1 103 (q2 _ (by decide))).1 (q1 104 (q2 _ (by decide))).1 (q1 105 (q2 _ (by decide))).1, (eqx_R q1 (q2 _ (by decide)) 0).trans h2, (eqx_R q1 (q2 _ (by decide)) 1).trans h3, (eqx_I q1 (q2 _ (by decide)) 2).trans h4, ?_, ?_, ?_⟩
  · rw [gI_na (by omega), gI_eq, List.length_append]; rfl
  · refine h6.sn (fun k _ hk => ?_) ?_
    · show gI (wI (wI M a 2 _) (a + 1) L.length _) (a + 1) k = _
      rw [gI_nk (by omega), gI_na (by omega)]; rfl
    · show gI (wI (wI M a 2 _) (a + 1) L.length _) (a + 1) (0 + L.length) = _
      rw [Nat.zero_add, gI_eq]
  · rw [List.length_append, List.length_singleton]; omega
theorem MAt.nx {D : Nat} (hD : 6 ≤ D) {j s : Nat} {C : List Nat} {M : Mem} (h : MAt T n t j s C M) (hj : j + 1 ≤ 900) : ∃ M', c2 D m_Mo_next [.ref 197] M = some (.null, M') ∧ OM M M' ∧ (∀ k, k < 70 → gI M' 201 k = gI M 201 k) ∧ MAt T n t (j + 1) (s + 1) C M' := by
  obtain ⟨h1, h2, h3, h4, h5, h6⟩ := h
  obtain ⟨M', e, hO, hF, hJ⟩ := k_nx hD h1
  exact ⟨M', e, hO, fun k _ => congrFun hF k, hJ, (hO.2 15 (by decide) (by decide) (by decide) (by decide) (by decide) (by decide)).trans h2, (congrFun hF 70).trans h3, by rw [hF]; exact h4, by omega, hj⟩
theorem MAt.cod {D : Nat} (hD : 1 ≤ D) {j s : Nat} {C : List Nat} {M : Mem} (h : MAt T n t j s C M) (hl : C.length < 900) (c : Nat) (hs : C.length + 1 + s ≤ j) : ∃ M', c2 D m_Mo_codes [.ref 197, .int (iI c)] M = some (.null, M') ∧ OM M M' ∧ (∀ k, k < 70 → gI M' 201 k = gI M 201 k) ∧ MAt T n t j s (C ++ [c]) M' := by
  obtain ⟨d, rfl⟩ := Nat.exists_eq_add_of_le' hD
  obtain ⟨h1, h2, h3, h4, h5, h6⟩ := h
  have e := e_Mo_codes_0 d (iI c) M
  rw [if_pos h1.w, h3, iI_add, inb_ok (by omega) (by omega) (by omega), gb_T, ix_eq (n := 71 + C.length) (by omega) (by omega), gI_nk (by omega), h3, iI_add] at e
  have q : Eqx [201] M (wI (wI M 201 (71 + C.length) (iI c)) 201 70 (iI ((C.length : Int) + 1))) := eqx_wI (eqx_wI Eqx.rf (by simp)) (by simp)
  refine ⟨_, e, ⟨q.mono (by simp), fun k _ _ _ _ _ _ => eqx_I q (by decide) k⟩, fun k hk => by rw [gI_nk (by omega), gI_nk (by omega)], h1.fr (q 197 (by decide)).1 (q 200 (by decide)).1, (eqx_I q (by decide) 15).trans h2, ?_, ?_, ?_, h6⟩
  · rw [gI_eq, List.length_append]; rfl
  · refine h4.sn (fun k k1 k2 => ?_) ?_
    · show gI (wI (wI M 201 (71 + C.length) _) 201 70 _) 201 k = _
      rw [gI_nk (by omega), gI_nk (by omega)]; rfl
    · show gI (wI (wI M 201 (71 + C.length) _) 201 70 _) 201 (71 + C.length) = _
      rw [gI_nk (by omega), gI_eq]
  · rw [List.length_append, List.length_singleton]; omega
end A0
