/-! THE REFERENCE: a walk by one blind. -/
def StandM (M : Mem) (s : Nat) : Prop := iI 5 * gI M 198 25 + gI M 198 26 = iI s
theorem c_Mo_laysRound (d : Nat) {M0 : Mem} {tm s0 bl : Nat} (hz : OkZ (M0.1 198)) (ht : gI M0 198 27 = iI tm) (hs0 : OkS (M0.1 198) s0) (hst : StandM M0 s0) :
    ∃ M' n t, c2 (d + 6) m_Mo_laysRound [.ref 197, .int (iI bl)] M0 = some (.null, M') ∧ t < n ∧ n ≤ 2560 ∧ itr (fun s => nxt (M0.1 198) tm s bl) s0 n = itr (fun s => nxt (M0.1 198) tm s bl) s0 t ∧
      (∀ i, i < n → ∀ j, j < n → itr (fun s => nxt (M0.1 198) tm s bl) s0 i = itr (fun s => nxt (M0.1 198) tm s bl) s0 j → i = j) ∧ (∀ i, i < n → gI M' 205 i = iI (itr (fun s => nxt (M0.1 198) tm s bl) s0 i)) ∧ gI M' 197 23 = iI t ∧ gI M' 197 24 = iI ((n - t : Nat) : Int) ∧ Eqx [197, 202, 203, 205, 206] M0 M' ∧ (∀ k, k ≠ 23 → k ≠ 24 → gI M' 197 k = gI M0 197 k) := by
  have hok : ∀ i, OkS (M0.1 198) (itr (fun s => nxt (M0.1 198) tm s bl) s0 i) := by
    intro i
    induction i with
    | zero => exact hs0
    | succ i ih => exact nxt_ok hz tm ih bl
  have clr : ∀ j k M v3, j + k = 2560 → Eqx [206] M0 M → (∀ i, i < k → gI M 206 i = iI (-1)) → ∃ M', X2 (d + 5) m_Mo_laysRound 2 [.ref 197, .int (iI bl), .int (iI k), v3] [] M = X2 (d + 5) m_Mo_laysRound 29 [.ref 197, .int (iI bl), .int (iI s0), .int (iI 0)] [] M' ∧ Eqx [206] M0 M' ∧ (∀ i, i < 2560 → gI M' 206 i = iI (-1)) := by
    intro j
    induction j with
    | zero =>
      intro k M v3 hk hM hv
      rw [e_Mo_laysRound_2, if_neg (by rw [iI_lt (by omega) (by omega) (by omega) (by omega)]; omega), c_Mo_standNow, bI_some]
      have e : iI 5 * gI M 198 25 + gI M 198 26 = iI s0 := by rw [eqx_I hM (by decide), eqx_I hM (by decide)]; exact hst
      rw [e]
      exact ⟨M, rfl, hM, fun i hi => hv i (by omega)⟩
    | succ j ih =>
      intro k M v3 hk hM hv
      rw [e_Mo_laysRound_2, if_pos (by rw [iI_lt (by omega) (by omega) (by omega) (by omega)]; omega), inb_ok (by omega) (by omega) (by omega), gb_T, ix_nat (by omega), iI_add]
      refine ih (k + 1) _ v3 (by omega) (eqx_wI hM (by simp)) ?_
      intro i hi
      by_cases hq : i = k
      · subst hq; exact gI_eq _ _ _ _
      · rw [gI_nk hq]; exact hv i (by omega)
  have hlt : ∀ i, itr (fun s => nxt (M0.1 198) tm s bl) s0 i < 2560 := fun i => ((hok i).lt hz).2.1
  generalize hf : itr (fun s => nxt (M0.1 198) tm s bl) s0 = g at *
  have hg : ∀ i, g (i + 1) = nxt (M0.1 198) tm (g i) bl := fun i => by rw [← hf]; rfl
  have go : ∀ j k M, j + k = 2561 → Eqx [202, 203, 205, 206] M0 M → (∀ i, i < k → gI M 205 i = iI (g i) ∧ gI M 206 (g i) = iI i) → (∀ s, s < 2560 → (∀ i, i < k → g i ≠ s) → gI M 206 s = iI (-1)) →
      ∃ M' n t, X2 (d + 5) m_Mo_laysRound 29 [.ref 197, .int (iI bl), .int (iI (g k)), .int (iI k)] [] M = some (.null, M') ∧ t < n ∧ n ≤ 2560 ∧ g n = g t ∧ (∀ i, i < n → ∀ j, j < n → g i = g j → i = j) ∧ (∀ i, i < n → gI M' 205 i = iI (g i)) ∧ gI M' 197 23 = iI t ∧ gI M' 197 24 = iI ((n - t : Nat) : Int) ∧ Eqx [197, 202, 203, 205, 206] M0 M' ∧ (∀ k, k ≠ 23 → k ≠ 24 → gI M' 197 k = gI M0 197 k) := by
    intro j
    induction j with
    | zero =>
      intro k M hk hM h1 _
      have hp : k ≤ 2560 := pigeon 2560 k g (fun i _ => hlt i) (fun a ha b hb hab => by
        have x := (h1 a ha).2
        rw [hab, (h1 b hb).2, iI_eq (by omega) (by omega) (by omega) (by omega)] at x
        omega)
      omega
    | succ j ih =>
      intro k M hk hM h1 h2
      have hgk := hlt k
      have inj : ∀ a, a < k → ∀ b, b < k → g a = g b → a = b := fun a ha b hb hab => by
        have x := (h1 a ha).2
        rw [hab, (h1 b hb).2, iI_eq (by omega) (by omega) (by omega) (by omega)] at x
        omega
      rw [e_Mo_laysRound_29, inb_ok (by omega) (by omega) (by omega), gb_T, gb_T, gb_T, ix_nat (by omega)]
      by_cases hq : ∃ i, i < k ∧ g i = g k
      · obtain ⟨i, hi, hgi⟩ := hq
        have x := (h1 i hi).2
        rw [hgi] at x
        have hk2 : k ≤ 2560 := pigeon 2560 k g (fun i _ => hlt i) inj
        rw [x, if_neg (by rw [iI_eq (by omega) (by omega) (by omega) (by omega)]; omega), iI_sub]
        refine ⟨_, k, i, rfl, hi, hk2, hgi.symm, inj, ?_, ?_, ?_, eqx_wI (eqx_wI (hM.mono (by simp)) (by simp)) (by simp), ?_⟩
        · intro a ha
          rw [gI_na (by decide), gI_na (by decide)]; exact (h1 a ha).1
        · rw [gI_nk (by decide), gI_eq]
        · rw [gI_eq]; congr 1; omega
        · intro k' q1 q2
          rw [gI_nk q2, gI_nk q1, eqx_I hM (by decide)]
      · have hne : ∀ i, i < k → g i ≠ g k := fun i hi e => hq ⟨i, hi, e⟩
        have hk2 : k + 1 ≤ 2560 := pigeon 2560 (k + 1) g (fun i _ => hlt i) (by
          intro a ha b hb hab
          by_cases qa : a = k
          · by_cases qb : b = k
            · omega
            · exact absurd (hab.symm.trans (by rw [qa])) (hne b (by omega))
          · by_cases qb : b = k
            · exact absurd (hab.trans (by rw [qb])) (hne a (by omega))
            · exact inj a (by omega) b (by omega) hab)
        have hE1 : Eqx [202, 203, 205, 206] M0 (wI (wI M 206 (g k) (iI k)) 205 k (iI (g k))) := eqx_wI (eqx_wI hM (by simp)) (by simp)
        have hx : (wI (wI M 206 (g k) (iI k)) 205 k (iI (g k))).1 198 = M0.1 198 := (hE1 198 (by decide)).1
        obtain ⟨M1, e1, hE2⟩ := c_Mo_standThen d (M := wI (wI M 206 (g k) (iI k)) 205 k (iI (g k))) (tm := tm) (s := g k) (bl := bl) (by rw [hx]; exact hz) ((eqx_I hE1 (by decide) 27).trans ht) (by omega) (by rw [hx]; exact (hok k).2)
        rw [h2 (g k) hgk hne, if_pos rfl, inb_ok (by omega) (by omega) (by omega), gb_T, ix_nat (by omega), e1, bI_some, hx, ← hg, iI_add]
        refine ih (k + 1) M1 (by omega) (hE1.tr (hE2.mono (by simp))) ?_ ?_
        · intro i hi
          rw [eqx_I hE2 (by decide), eqx_I hE2 (by decide)]
          by_cases qi : i = k
          · subst qi
            exact ⟨gI_eq _ _ _ _, by rw [gI_na (by decide), gI_eq]⟩
          · have a := h1 i (by omega)
            exact ⟨by rw [gI_nk qi, gI_na (by decide)]; exact a.1, by rw [gI_na (by decide), gI_nk (hne i (by omega))]; exact a.2⟩
        · intro s hs hn
          rw [eqx_I hE2 (by decide), gI_na (by decide), gI_nk (fun q => hn k (by omega) q.symm)]
          exact h2 s hs (fun i hi => hn i (by omega))
  show ∃ M' n t, X2 (d + 5) m_Mo_laysRound 0 [.ref 197, .int (iI bl), uns, uns] [] M0 = _ ∧ _
  rw [e_Mo_laysRound_0]
  obtain ⟨M1, e1, hE1, hv⟩ := clr 2560 0 M0 uns (by omega) Eqx.rf (fun i hi => absurd hi (Nat.not_lt_zero i))
  have e0 : g 0 = s0 := by rw [← hf]; rfl
  rw [show iI 0 = iI ((0 : Nat) : Int) from rfl, e1, ← e0]
  exact go 2561 0 M1 (by omega) (hE1.mono (by simp)) (fun i hi => absurd hi (Nat.not_lt_zero i)) (fun s hs _ => hv s hs)
