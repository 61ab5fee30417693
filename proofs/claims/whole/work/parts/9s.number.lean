/-! THE TEXT: readNumber, advance. -/
theorem c_Tok_readNumber (d : Nat) {M : Mem} {T : Nat → Nat} {n s e : Nat} (hT : TpC M T n) (h2 : gI M 102 2 = iI s) (h3 : gI M 102 3 = iI e) (hse : s ≤ e) (he : e ≤ n) (hd : ∀ q, s ≤ q → q < e → dgB (T q) = true) : c2 (d + 1) m_Tok_readNumber [.ref 102] M = some (.int (iI (nvv T s (e - s))), M) := by
  obtain ⟨t0, t1, t2, t3⟩ := hT
  have go : ∀ (j k : Nat), j + k = e - s → X2 d m_Tok_readNumber 7 [.ref 102, .int (iI (nvv T s k)), .int (iI ((s + k : Nat) : Int))] [] M = some (.int (iI (nvv T s (e - s))), M) := by
    intro j
    induction j with
    | zero =>
      intro k hk
      have hk' : k = e - s := by omega
      rw [e_Tok_readNumber_7, h3, if_neg (by rw [iI_lt (by omega) (by omega) (by omega) (by omega)]; omega), hk']
    | succ j ih =>
      intro k hk
      have tb := t3 (s + k) (by omega)
      have dg : 48 ≤ T (s + k) ∧ T (s + k) ≤ 57 := of_decide_eq_true (hd (s + k) (by omega) (by omega))
      have sv : sg8 (T (s + k)) = T (s + k) := if_pos (by omega)
      rw [e_Tok_readNumber_7, h3, if_pos (by rw [iI_lt (by omega) (by omega) (by omega) (by omega)]; omega), t1, if_pos (by rw [iI_lt (by omega) (by omega) (by omega) (by omega)]; omega), t0, tx_f, bb_f, tx_at M (by omega), gb_T, ix_nat (by omega), tb.1, sv, iI_mul, iI_add, iI_sub, iI_add]
      have e1 : (nvv T s k : Int) * 10 + (T (s + k) : Int) - 48 = (nvv T s (k + 1) : Nat) := by
        show _ = ((10 * nvv T s k + (T (s + k) - 48) : Nat) : Int)
        omega
      rw [e1]
      exact ih (k + 1) (by omega)
  show X2 d m_Tok_readNumber 0 [.ref 102, uns, uns] [] M = _
  rw [e_Tok_readNumber_0, h2]
  exact go (e - s) 0 (by omega)
theorem tk_rng (T : Nat → Nat) {n p : Nat} (h : p ≤ n) : p ≤ tkS T n p ∧ tkS T n p ≤ tkE T n p ∧ tkE T n p ≤ n ∧ (tkC T n p ≠ 24 → p < tkE T n p) ∧ (tkC T n p = 23 → ∀ q, tkS T n p ≤ q → q < tkE T n p → dgB (T q) = true) := by
  obtain ⟨sa, sb, sc, -⟩ := edd_rng spB T (n := n) (n - p) p (by omega)
  have hst : edd spB T n p = tkS T n p := rfl
  rw [hst] at sa sb sc
  by_cases q : n ≤ tkS T n p
  · have eE : tkE T n p = tkS T n p := if_pos q
    have eC : tkC T n p = 24 := if_pos q
    rw [eE, eC]
    exact ⟨sa, Nat.le_refl _, sb, fun x => absurd rfl x, fun x => absurd x (by decide)⟩
  · cases hsm : smB (T (tkS T n p)) with
    | true =>
      have eE : tkE T n p = edd smB T n (tkS T n p) := (if_neg q).trans (if_pos hsm)
      have eC : tkC T n p = wdc T (tkS T n p) (tkE T n p) wds 0 := (if_neg q).trans (if_pos hsm)
      obtain ⟨ea, eb, -, -⟩ := edd_rng smB T (n := n) (n - (tkS T n p + 1)) (tkS T n p + 1) (by omega)
      have e2 := edd_t (P := smB) (T := T) (n := n) (p := tkS T n p) (by omega) hsm
      refine ⟨sa, by omega, by omega, fun _ => by omega, fun x => absurd (eC.symm.trans x) (wdc_23 _ _ _)⟩
    | false =>
      cases hdg : dgB (T (tkS T n p)) with
      | true =>
        have eE : tkE T n p = edd dgB T n (tkS T n p) := (if_neg q).trans ((if_neg (by rw [hsm]; decide)).trans (if_pos hdg))
        obtain ⟨ea, eb, -, -⟩ := edd_rng dgB T (n := n) (n - (tkS T n p + 1)) (tkS T n p + 1) (by omega)
        obtain ⟨-, -, -, ed⟩ := edd_rng dgB T (n := n) (n - tkS T n p) (tkS T n p) (by omega)
        have e2 := edd_t (P := dgB) (T := T) (n := n) (p := tkS T n p) (by omega) hdg
        exact ⟨sa, by omega, by omega, fun _ => by omega, fun _ j j1 j2 => ed j j1 (by omega)⟩
      | false =>
        have eE : tkE T n p = tkS T n p + 1 := (if_neg q).trans ((if_neg (by rw [hsm]; decide)).trans (if_neg (by rw [hdg]; decide)))
        have eC : tkC T n p = sgc (T (tkS T n p)) 12 := (if_neg q).trans ((if_neg (by rw [hsm]; decide)).trans (if_neg (by rw [hdg]; decide)))
        exact ⟨sa, by omega, by omega, fun _ => by omega, fun x => absurd (eC.symm.trans x) (sgc_23 _ _)⟩
