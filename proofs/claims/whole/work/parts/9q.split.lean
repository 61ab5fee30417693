/-! THE TEXT: the class splits off a token. -/
def OthC (M M' : Mem) : Prop := Eqx [102] M M' ∧ (∀ k, k ≠ 2 → k ≠ 3 → gI M' 102 k = gI M 102 k) ∧ M'.2 = M.2
theorem OthC.rf (M : Mem) : OthC M M := ⟨Eqx.rf, fun _ _ _ => rfl, rfl⟩
theorem OthC.put {M M' : Mem} (h : OthC M M') {j : Nat} (hj : j = 2 ∨ j = 3) (v : Int32) : OthC M (wI M' 102 j v) := ⟨eqx_wI h.1 (by simp), fun k a b => by rw [gI_nk (by omega)]; exact h.2.1 k a b, h.2.2⟩
theorem OthC.tp {M M' : Mem} (h : OthC M M') {T : Nat → Nat} {n : Nat} (hT : TpC M T n) : TpC M' T n := by
  obtain ⟨a, b, c, e⟩ := hT
  refine ⟨?_, (h.2.1 1 (by decide) (by decide)).trans b, c, fun k hk => ?_⟩
  · have : gR M' 102 0 = gR M 102 0 := by unfold gR; rw [h.2.2]
    rw [this]; exact a
  · rw [eqx_I h.1 (by decide)]; exact e k hk
theorem sp166 (d : Nat) {M : Mem} {T : Nat → Nat} {n s : Nat} (hT : TpC M T n) (v1 : Value) : ∀ (j p : Nat) (M' : Mem), j + p = n → s ≤ p → OthC M M' → gI M' 102 2 = iI s → gI M' 102 3 = iI p → ∃ M'', X2 (d + 7) m_Tok_splitNext 166 [.ref 102, v1] [] M' = some (.int (iI (kcls (wdc T s (edd smB T n p) wds 0))), M'') ∧ OthC M M'' ∧ gI M'' 102 2 = iI s ∧ gI M'' 102 3 = iI (edd smB T n p) := by
  have hn := hT.2.2.1
  intro j
  induction j with
  | zero =>
    intro p M' hp hsp hO h2 h3
    have hT' := hO.tp hT
    rw [e_Tok_splitNext_166, h3, hT'.2.1, if_neg (by rw [iI_lt (by omega) (by omega) (by omega) (by omega)]; omega), c_Tok_kindOfWord d hT' h2 h3 hsp (by omega), bI_some, edd_f (fun q => by omega)]
    exact ⟨M', rfl, hO, h2, h3⟩
  | succ j ih =>
    intro p M' hp hsp hO h2 h3
    have hT' := hO.tp hT
    obtain ⟨t0, t1, -, t3⟩ := id hT'
    have tb := t3 p (by omega)
    rw [e_Tok_splitNext_166, h3, t1, if_pos (by rw [iI_lt (by omega) (by omega) (by omega) (by omega)]; omega), t0, tx_f, bb_f, tx_at M' (by omega), gb_T, ix_nat (by omega), tb.1, c_Tok_isLetter _ tb.2, bI_some]
    cases hP : smB (T p) with
    | false =>
      rw [b2i_f, if_pos (show iI 0 = 0 from rfl), c_Tok_kindOfWord d hT' h2 h3 hsp (by omega), bI_some, edd_f (fun _ => hP)]
      exact ⟨M', rfl, hO, h2, h3⟩
    | true =>
      rw [b2i_t, if_neg (show ¬ (iI 1 = 0) by decide), h3, iI_add, edd_t (by omega) hP]
      exact ih (p + 1) _ (by omega) (by omega) (hO.put (by omega) _) (by rw [gI_nk (by decide)]; exact h2) (gI_eq _ _ _ _)
theorem sp99 (d : Nat) {M : Mem} {T : Nat → Nat} {n s : Nat} (hT : TpC M T n) (v1 : Value) : ∀ (j p : Nat) (M' : Mem), j + p = n → s ≤ p → OthC M M' → gI M' 102 2 = iI s → gI M' 102 3 = iI p → ∃ M'', X2 (d + 7) m_Tok_splitNext 99 [.ref 102, v1] [] M' = some (.int (iI ((if 3 < edd dgB T n p - s then 22 else 20 : Nat) : Int)), M'') ∧ OthC M M'' ∧ gI M'' 102 2 = iI s ∧ gI M'' 102 3 = iI (edd dgB T n p) := by
  have hn := hT.2.2.1
  have fin : ∀ (p : Nat) (M' : Mem), p ≤ n → s ≤ p → (if iI 3 < iI (p : Int) - iI s then some (Value.int (iI 22), M') else some (Value.int (iI 20), M')) = some (Value.int (iI ((if 3 < p - s then 22 else 20 : Nat) : Int)), M') := by
    intro p M' h1 h2
    rw [iI_sub]
    by_cases q : 3 < p - s
    · rw [if_pos (by rw [iI_lt (by omega) (by omega) (by omega) (by omega)]; omega), if_pos q]; rfl
    · rw [if_neg (by rw [iI_lt (by omega) (by omega) (by omega) (by omega)]; omega), if_neg q]; rfl
  intro j
  induction j with
  | zero =>
    intro p M' hp hsp hO h2 h3
    have hT' := hO.tp hT
    rw [e_Tok_splitNext_99, h3, hT'.2.1, if_neg (by rw [iI_lt (by omega) (by omega) (by omega) (by omega)]; omega), h2, fin p M' (by omega) hsp, edd_f (fun q => by omega)]
    exact ⟨M', rfl, hO, h2, h3⟩
  | succ j ih =>
    intro p M' hp hsp hO h2 h3
    have hT' := hO.tp hT
    obtain ⟨t0, t1, -, t3⟩ := id hT'
    have tb := t3 p (by omega)
    rw [e_Tok_splitNext_99, h3, t1, if_pos (by rw [iI_lt (by omega) (by omega) (by omega) (by omega)]; omega), t0, tx_f, bb_f, tx_at M' (by omega), gb_T, ix_nat (by omega), tb.1, c_Tok_isDigit _ tb.2, bI_some]
    cases hP : dgB (T p) with
    | false =>
      rw [b2i_f, if_pos (show iI 0 = 0 from rfl), h3, h2, fin p M' (by omega) hsp, edd_f (fun _ => hP)]
      exact ⟨M', rfl, hO, h2, h3⟩
    | true =>
      rw [b2i_t, if_neg (show ¬ (iI 1 = 0) by decide), h3, iI_add, edd_t (by omega) hP]
      exact ih (p + 1) _ (by omega) (by omega) (hO.put (by omega) _) (by rw [gI_nk (by decide)]; exact h2) (gI_eq _ _ _ _)
