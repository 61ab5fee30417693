/-! THE TEXT: begin, whole; the class at token j. -/
/-- the class looks at token j of N -/
def AtC (M : Mem) (T : Nat → Nat) (n N j : Nat) : Prop := j < N ∧ N ≤ 901 ∧ gI M 102 7 = iI N ∧ gI M 102 8 = iI j ∧ gI M 102 9 = iI (kcls (tkC T n (posT T n j))) ∧ (tkC T n (posT T n j) = 23 → gI M 102 10 = iI (tkV T n (posT T n j))) ∧ (∀ k, k < N → Ent M T n k) ∧ tkC T n (posT T n (N - 1)) = 24 ∧ (∀ k, k + 1 < N → tkC T n (posT T n k) ≠ 24)
theorem c_beginL (d : Nat) {M0 : Mem} {T : Nat → Nat} {n : Nat} (hn : n ≤ 900) (v1 v2 : Value) : ∀ (j i : Nat) (M : Mem) (x3 : Int32), j + i = n + 1 → BegI M0 T n i M → x3 ≠ iI 21 → (∀ k, k < i → tkC T n (posT T n k) ≠ 24) → ∃ M' N, X2 (d + 8) m_Tok_begin 45 [.ref 102, v1, v2, .int x3, .int (iI i)] [] M = some (.null, M') ∧ Eqx [102, 103, 104, 105] M0 M' ∧ AtC M' T n N 0 ∧ gI M' 102 11 = iI 0 ∧ gI M' 102 12 = iI (-1) := by
  intro j
  induction j with
  | zero =>
    intro i M x3 hi hB hx hne
    have := posT_end T n hne
    omega
  | succ j ih =>
    intro i M x3 hi hB hx hne
    obtain ⟨M1, e1, hB1⟩ := begin_step d (show i ≤ 900 by omega) hB hx v1 v2
    rw [e1]
    have okc := tkC_ok T n (posT T n i)
    have k21 : (iI (kcls (tkC T n (posT T n i)) : Int) = iI 21) = (tkC T n (posT T n i) = 24) := kcls_eq (e := 24) okc (by decide)
    by_cases q : tkC T n (posT T n i) = 24
    · obtain ⟨hT, h3, ⟨h11, h12⟩, h7, hE, hX⟩ := hB1
      have h7' := h7 (by omega)
      have e0 := hE 0 (by omega)
      let A := wI M1 102 8 (iI (-1))
      have A7 : gI A 102 7 = iI ((i + 1 : Nat) : Int) := by show gI (wI M1 102 8 _) 102 7 = _; rw [gI_nk (by decide)]; exact h7'
      have A8 : gI A 102 8 = iI (-1) := gI_eq _ _ _ _
      have ad : c2 (d + 8) m_Tok_advance [.ref 102] A = some (.null, wI (wI (wI A 102 8 (iI 0)) 102 9 (gI A 103 0)) 102 10 (gI A 104 0)) := by
        show X2 (d + 7) m_Tok_advance 0 [.ref 102] [] A = _
        rw [e_Tok_advance_0, A8, A7, iI_add, show (-1 : Int) + 1 = ((0 : Nat) : Int) from rfl, if_pos (by rw [iI_lt (by omega) (by omega) (by omega) (by omega)]; omega), inb_ok (by omega) (by omega) (by omega), gb_T, gb_T, ix_nat (by omega)]
        rfl
      have out : X2 (d + 8) m_Tok_begin 45 [.ref 102, v1, v2, .int (iI (kcls (tkC T n (posT T n i)))), .int (iI ((i + 1 : Nat) : Int))] [] M1 = some (.null, wI (wI (wI A 102 8 (iI 0)) 102 9 (gI A 103 0)) 102 10 (gI A 104 0)) := by
        rw [e_Tok_begin_45]
        by_cases w : 900 < i + 1
        · rw [if_pos (by rw [iI_lt (by omega) (by omega) (by omega) (by omega)]; omega), ad, bV_some]
        · rw [if_neg (by rw [iI_lt (by omega) (by omega) (by omega) (by omega)]; omega), if_pos (by rw [k21]; exact q), ad, bV_some]
      have g3 : ∀ a k, a ≠ 102 → gI (wI (wI (wI A 102 8 (iI 0)) 102 9 (gI A 103 0)) 102 10 (gI A 104 0)) a k = gI M1 a k := fun a k ha => by
        rw [gI_na ha, gI_na ha, gI_na ha]; exact gI_na ha
      have g2 : ∀ k, k ≠ 8 → k ≠ 9 → k ≠ 10 → gI (wI (wI (wI A 102 8 (iI 0)) 102 9 (gI A 103 0)) 102 10 (gI A 104 0)) 102 k = gI M1 102 k := fun k k1 k2 k3 => by
        rw [gI_nk k3, gI_nk k2, gI_nk k1]; exact gI_nk k1
      refine ⟨_, i + 1, out, eqx_wI (eqx_wI (eqx_wI (eqx_wI hX (by simp)) (by simp)) (by simp)) (by simp), ⟨by omega, by omega, ?_, ?_, ?_, fun x => ?_, fun k hk => ?_, q, fun k hk => hne k (by omega)⟩, ?_, ?_⟩
      · rw [g2 7 (by decide) (by decide) (by decide)]; exact h7'
      · rw [gI_nk (by decide), gI_nk (by decide), gI_eq]; rfl
      · rw [gI_nk (by decide), gI_eq]
        exact (gI_na (by decide)).trans e0.1
      · rw [gI_eq]
        exact (gI_na (by decide)).trans (e0.2.2 x)
      · have := hE k (by omega)
        unfold Ent
        rw [g3 103 k (by decide), g3 105 k (by decide), g3 104 k (by decide)]
        exact this
      · rw [g2 11 (by decide) (by decide) (by decide)]; exact h11
      · rw [g2 12 (by decide) (by decide) (by decide)]; exact h12
    · refine ih (i + 1) M1 _ (by omega) hB1 (fun x => q (k21 ▸ x)) (fun k hk => ?_)
      by_cases w : k = i
      · rw [w]; exact q
      · exact hne k (by omega)
