/-! THE TEXT: splitNext. -/
theorem dg_sm {v : Nat} (h : dgB v = true) : smB v = false := by
  have := of_decide_eq_true h
  exact decide_eq_false (by omega)
theorem c_Tok_splitNext (d : Nat) {M : Mem} {T : Nat → Nat} {n p : Nat} (hT : TpC M T n) (hp : p ≤ n) (h3 : gI M 102 3 = iI p) : ∃ M', c2 (d + 8) m_Tok_splitNext [.ref 102] M = some (.int (iI (kcls (tkC T n p))), M') ∧ OthC M M' ∧ gI M' 102 2 = iI (tkS T n p) ∧ gI M' 102 3 = iI (tkE T n p) := by
  have hn := hT.2.2.1
  obtain ⟨sa, sb, sc, -⟩ := edd_rng spB T (n := n) (n - p) p (by omega)
  have lp : ∀ (j p' : Nat) (M' : Mem), j + p' = n → OthC M M' → gI M' 102 2 = iI p' → ∃ M'', X2 (d + 7) m_Tok_splitNext 8 [.ref 102, uns] [] M' = X2 (d + 7) m_Tok_splitNext 60 [.ref 102, uns] [] M'' ∧ OthC M M'' ∧ gI M'' 102 2 = iI (edd spB T n p') := by
    intro j
    induction j with
    | zero =>
      intro p' M' hp' hO h2
      have hT' := hO.tp hT
      rw [e_Tok_splitNext_8, h2, hT'.2.1, if_neg (by rw [iI_lt (by omega) (by omega) (by omega) (by omega)]; omega), edd_f (fun q => by omega)]
      exact ⟨M', rfl, hO, h2⟩
    | succ j ih =>
      intro p' M' hp' hO h2
      have hT' := hO.tp hT
      obtain ⟨t0, t1, -, t3⟩ := id hT'
      have tb := t3 p' (by omega)
      have k32 : (iI (sg8 (T p')) = iI 32) = (T p' = 32) := sg8_eq (c := 32) tb.2 (by decide)
      have k10 : (iI (sg8 (T p')) = iI 10) = (T p' = 10) := sg8_eq (c := 10) tb.2 (by decide)
      rw [e_Tok_splitNext_8, h2, t1, if_pos (by rw [iI_lt (by omega) (by omega) (by omega) (by omega)]; omega), t0, tx_f, bb_f, bb_f, tx_at M' (by omega), gb_T, gb_T, ix_nat (by omega), tb.1, iI_add]
      have nx := ih (p' + 1) _ (by omega) (hO.put (j := 2) (by omega) (iI ((p' + 1 : Nat) : Int))) (gI_eq _ _ _ _)
      by_cases q : T p' = 32
      · rw [if_pos (by rw [k32]; exact q), edd_t (by omega) (by unfold spB; rw [decide_eq_true q, Bool.true_or])]
        exact nx
      · rw [if_neg (by rw [k32]; exact q)]
        by_cases q2 : T p' = 10
        · rw [if_pos (by rw [k10]; exact q2), edd_t (by omega) (by unfold spB; rw [decide_eq_true q2, Bool.or_true])]
          exact nx
        · rw [if_neg (by rw [k10]; exact q2), edd_f (fun _ => by unfold spB; rw [decide_eq_false q, decide_eq_false q2]; rfl)]
          exact ⟨M', rfl, hO, h2⟩
  obtain ⟨M1, e1, hO1, h21⟩ := lp (n - p) p (wI M 102 2 (iI p)) (by omega) ((OthC.rf M).put (by omega) _) (gI_eq _ _ _ _)
  have hst : edd spB T n p = tkS T n p := rfl
  rw [hst] at sa sb sc h21
  have hT1 := hO1.tp hT
  obtain ⟨t0, t1, -, t3⟩ := id hT1
  show ∃ M', X2 (d + 7) m_Tok_splitNext 0 [.ref 102, uns] [] M = _ ∧ _
  rw [e_Tok_splitNext_0, h3, e1, e_Tok_splitNext_60, h21, t1]
  have hA := hO1.put (j := 3) (by omega) (iI (tkS T n p))
  have hA2 : gI (wI M1 102 3 (iI (tkS T n p))) 102 2 = iI (tkS T n p) := by rw [gI_nk (by decide)]; exact h21
  have hA3 : gI (wI M1 102 3 (iI (tkS T n p))) 102 3 = iI (tkS T n p) := gI_eq _ _ _ _
  by_cases q : n ≤ tkS T n p
  · rw [if_neg (by rw [iI_lt (by omega) (by omega) (by omega) (by omega)]; omega)]
    have eE : tkE T n p = tkS T n p := if_pos q
    have eC : tkC T n p = 24 := if_pos q
    rw [eE, eC]
    exact ⟨_, rfl, hA, hA2, hA3⟩
  · have tb := t3 (tkS T n p) (by omega)
    have b1 : gI (wI M1 102 3 (iI (tkS T n p))) 101 (tkS T n p) = iI (sg8 (T (tkS T n p))) := by rw [gI_na (by decide)]; exact tb.1
    rw [if_pos (by rw [iI_lt (by omega) (by omega) (by omega) (by omega)]; omega), t0, tx_f, bb_f, tx_at _ (by omega), gb_T, ix_nat (by omega), b1, c_Tok_isDigit _ tb.2, bI_some]
    cases hdg : dgB (T (tkS T n p)) with
    | true =>
      have hsm := dg_sm hdg
      have eE : tkE T n p = edd dgB T n (tkS T n p) := (if_neg q).trans ((if_neg (by rw [hsm]; decide)).trans (if_pos hdg))
      have eC : tkC T n p = if 3 < tkE T n p - tkS T n p then 25 else 23 := (if_neg q).trans ((if_neg (by rw [hsm]; decide)).trans (if_pos hdg))
      rw [b2i_t, if_neg (show ¬ (iI 1 = 0) by decide)]
      obtain ⟨M2, e2, hO2, a, b⟩ := sp99 d hT (.int (iI (sg8 (T (tkS T n p))))) (n - tkS T n p) (tkS T n p) _ (by omega) (Nat.le_refl _) hA hA2 hA3
      rw [← eE] at e2 b
      refine ⟨M2, ?_, hO2, a, b⟩
      rw [e2, eC]
      split <;> rfl
    | false =>
      rw [b2i_f, if_pos (show iI 0 = 0 from rfl), c_Tok_isLetter _ tb.2, bI_some]
      cases hsm : smB (T (tkS T n p)) with
      | true =>
        have eE : tkE T n p = edd smB T n (tkS T n p) := (if_neg q).trans (if_pos hsm)
        have eC : tkC T n p = wdc T (tkS T n p) (tkE T n p) wds 0 := (if_neg q).trans (if_pos hsm)
        rw [b2i_t, if_neg (show ¬ (iI 1 = 0) by decide)]
        obtain ⟨M2, e2, hO2, a, b⟩ := sp166 d hT (.int (iI (sg8 (T (tkS T n p))))) (n - tkS T n p) (tkS T n p) _ (by omega) (Nat.le_refl _) hA hA2 hA3
        rw [← eE] at e2 b
        exact ⟨M2, by rw [e2, eC], hO2, a, b⟩
      | false =>
        have eE : tkE T n p = tkS T n p + 1 := (if_neg q).trans ((if_neg (by rw [hsm]; decide)).trans (if_neg (by rw [hdg]; decide)))
        have eC : tkC T n p = sgc (T (tkS T n p)) 12 := (if_neg q).trans ((if_neg (by rw [hsm]; decide)).trans (if_neg (by rw [hdg]; decide)))
        rw [b2i_f, if_pos (show iI 0 = 0 from rfl), hA2, iI_add]
        obtain ⟨f1, f2, f3⟩ := fnd_all ⟨T (tkS T n p), by omega⟩
        have hB := hA.put (j := 3) (by omega) (iI ((tkS T n p : Int) + 1))
        have hB2 : gI (wI (wI M1 102 3 (iI (tkS T n p))) 102 3 (iI ((tkS T n p : Int) + 1))) 102 2 = iI (tkS T n p) := by rw [gI_nk (by decide)]; exact hA2
        have hB3 : gI (wI (wI M1 102 3 (iI (tkS T n p))) 102 3 (iI ((tkS T n p : Int) + 1))) 102 3 = iI (tkE T n p) := by rw [gI_eq, eE]; rfl
        have hr := sg8_rng tb.2
        by_cases q3 : 0 < sg8 (T (tkS T n p))
        · have v8 : T (tkS T n p) < 128 := by unfold sg8 at q3; split at q3 <;> omega
          have sv : sg8 (T (tkS T n p)) = T (tkS T n p) := if_pos v8
          obtain ⟨-, c16⟩ := ch8_ok ⟨T (tkS T n p), v8⟩
          have c16' : ((iI (T (tkS T n p) : Int)).toUInt32 % 65536).toInt32 = iI (T (tkS T n p) : Int) := c16
          obtain ⟨g1, g2, g3, g4⟩ := f1 v8
          have g1' : -1 ≤ fndI (T (tkS T n p)) 12 0 := g1
          have g2' : fndI (T (tkS T n p)) 12 0 ≤ 11 := g2
          have p0 : (0 : Int32) < iI (sg8 (T (tkS T n p))) := by
            have e' : (0 : Int32) = iI 0 := rfl
            rw [e', iI_lt (by omega) (by omega) (by omega) (by omega)]; exact q3
          rw [if_pos p0, sv, c16', c_indexOf (d + 1) v8, bI_some]
          by_cases q4 : fndI (T (tkS T n p)) 12 0 < 0
          · rw [if_pos (by rw [iI_lt0 (by omega) (by omega)]; exact q4)]
            refine ⟨_, ?_, hB, hB2, hB3⟩
            rw [eC, show kcls (sgc (T (tkS T n p)) 12) = 22 from g3 q4]; rfl
          · rw [if_neg (by rw [iI_lt0 (by omega) (by omega)]; exact q4)]
            refine ⟨_, ?_, hB, hB2, hB3⟩
            rw [eC, show kcls (sgc (T (tkS T n p)) 12) = T (tkS T n p) from g4 (by show 0 ≤ fndI (T (tkS T n p)) 12 0; omega)]
        · have p0 : ¬ ((0 : Int32) < iI (sg8 (T (tkS T n p)))) := by
            have e' : (0 : Int32) = iI 0 := rfl
            rw [e', iI_lt (by omega) (by omega) (by omega) (by omega)]; exact q3
          rw [if_neg p0]
          refine ⟨_, ?_, hB, hB2, hB3⟩
          have : kcls (sgc (T (tkS T n p)) 12) = 22 := by
            by_cases w : 128 ≤ T (tkS T n p)
            · exact f2 w
            · exact f3 (by show T (tkS T n p) = 0; unfold sg8 at q3; rw [if_pos (by omega)] at q3; omega)
          rw [eC, this]; rfl
