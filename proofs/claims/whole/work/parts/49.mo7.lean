/-! THE REFERENCE: the table of what comes then. -/
def thn (z : Row) (tm s bl : Nat) : Nat := if s % 5 = 4 ∨ s % 5 < zn z 3 then nxt z tm s bl else s
def ThenM (M : Mem) (z : Row) (tm n : Nat) : Prop := ∀ s, s < n → ∀ bl, bl < 2 → gI M 207 (2 * s + bl) = iI (thn z tm s bl)
theorem five_shl {n : Nat} (h : n ≤ 9) : iI 5 <<< (iI n &&& 31) = iI ((5 * 2 ^ n : Nat) : Int) := by
  rw [show iI 5 = iI ((5 : Nat) : Int) from rfl, iI_shl _ (by omega), Nat.shiftLeft_eq]
theorem c_Mo_laysThen (d : Nat) {M0 : Mem} {tm : Nat} (hz : OkZ (M0.1 198)) (ht : gI M0 198 27 = iI tm) :
    ∃ M', c2 (d + 6) m_Mo_laysThen [.ref 197] M0 = some (.null, M') ∧ Eqx [202, 203, 207] M0 M' ∧ ThenM M' (M0.1 198) tm (5 * 2 ^ nz (M0.1 198)) := by
  have h9 := nz_le hz
  have hpw := pow9 h9
  have h3 := zn_rng hz.1.2.2.1 (by decide)
  have e3 : gI M0 198 3 = iI (zn (M0.1 198) 3) := zn_eq hz.1.2.2.1 (by decide)
  -- one entry
  have one : ∀ (M : Mem) (s bl can : Nat), Eqx [202, 203, 207] M0 M → s < 2560 → bl < 2 → can = (if s % 5 = 4 ∨ s % 5 < zn (M0.1 198) 3 then 1 else 0) → ∃ M', X2 (d + 5) m_Mo_laysThen 39 [.ref 197, .int (iI s), .int (iI can), .int (iI bl)] [] M = X2 (d + 5) m_Mo_laysThen 39 [.ref 197, .int (iI s), .int (iI can), .int (iI ((bl + 1 : Nat) : Int))] [] M' ∧ Eqx [202, 203, 207] M0 M' ∧ gI M' 207 (2 * s + bl) = iI (thn (M0.1 198) tm s bl) ∧ (∀ k, k ≠ 2 * s + bl → gI M' 207 k = gI M 207 k) := by
    intro M s bl can hM hs hbl hcan
    have hx : M.1 198 = M0.1 198 := (hM 198 (by decide)).1
    have e1 : iI 2 * iI s + iI bl = iI ((2 * s + bl : Nat) : Int) := by rw [iI_mul, iI_add]; rfl
    have b2 : iI bl < iI 2 := by rw [iI_lt (by omega) (by omega) (by omega) (by omega)]; omega
    rw [e_Mo_laysThen_39, if_pos b2, e1, inb_ok (by omega) (by omega) (by omega), gb_T, ix_nat (by omega), iI_add]
    by_cases hc : s % 5 = 4 ∨ s % 5 < zn (M0.1 198) 3
    · rw [if_pos hc] at hcan
      subst hcan
      obtain ⟨M1, e, hE⟩ := c_Mo_standThen d (M := M) (tm := tm) (s := s) (bl := bl) (by rw [hx]; exact hz) ((eqx_I hM (by decide) 27).trans ht) (by omega) (by rw [hx]; exact hc)
      rw [if_neg (by decide), e, bI_some, gb_T, hx]
      refine ⟨_, rfl, eqx_wI (hM.tr (hE.mono (by simp))) (by simp), ?_, ?_⟩
      · rw [gI_eq, thn, if_pos hc]
      · intro k hk
        rw [gI_nk hk, eqx_I hE (by decide)]
    · rw [if_neg hc] at hcan
      subst hcan
      rw [if_pos (by decide)]
      refine ⟨_, rfl, eqx_wI hM (by simp), ?_, ?_⟩
      · rw [gI_eq, thn, if_neg hc]
      · intro k hk
        rw [gI_nk hk]
  have go : ∀ j s M v2 v3, j + s = 5 * 2 ^ nz (M0.1 198) → Eqx [202, 203, 207] M0 M → ThenM M (M0.1 198) tm s → ∃ M', X2 (d + 5) m_Mo_laysThen 2 [.ref 197, .int (iI s), v2, v3] [] M = some (.null, M') ∧ Eqx [202, 203, 207] M0 M' ∧ ThenM M' (M0.1 198) tm (5 * 2 ^ nz (M0.1 198)) := by
    intro j
    induction j with
    | zero =>
      intro s M v2 v3 hs hM hT
      have hx : M.1 198 = M0.1 198 := (hM 198 (by decide)).1
      have hs' : s = 5 * 2 ^ nz (M0.1 198) := by omega
      rw [e_Mo_laysThen_2, c_Mo_rosesz _ (by rw [hx]; exact hz), bI_some, hx, five_shl h9, if_neg (by rw [iI_lt (by omega) (by omega) (by omega) (by omega)]; omega)]
      exact ⟨M, rfl, hM, hs' ▸ hT⟩
    | succ j ih =>
      intro s M v2 v3 hs hM hT
      have hx : M.1 198 = M0.1 198 := (hM 198 (by decide)).1
      have main : ∀ can : Nat, can = (if s % 5 = 4 ∨ s % 5 < zn (M0.1 198) 3 then 1 else 0) → ∃ M', X2 (d + 5) m_Mo_laysThen 39 [.ref 197, .int (iI s), .int (iI can), .int (iI ((0 : Nat) : Int))] [] M = some (.null, M') ∧ Eqx [202, 203, 207] M0 M' ∧ ThenM M' (M0.1 198) tm (5 * 2 ^ nz (M0.1 198)) := by
        intro can hcan
        obtain ⟨M1, e1, hE1, t1, f1⟩ := one M s 0 can hM (by omega) (by decide) hcan
        obtain ⟨M2, e2, hE2, t2, f2⟩ := one M1 s 1 can hE1 (by omega) (by decide) hcan
        rw [e1, e2, e_Mo_laysThen_39, if_neg (show ¬ (iI ((1 + 1 : Nat) : Int) < iI 2) by decide), iI_add]
        refine ih (s + 1) M2 _ _ (by omega) hE2 ?_
        intro s' hs' bl hbl
        by_cases hq : s' = s
        · subst hq
          rcases (show bl = 0 ∨ bl = 1 by omega) with q | q <;> subst q
          · rw [f2 _ (by omega)]; exact t1
          · exact t2
        · rw [f2 _ (by omega), f1 _ (by omega)]
          exact hT s' (by omega) bl hbl
      rw [e_Mo_laysThen_2, c_Mo_rosesz _ (by rw [hx]; exact hz), bI_some, hx, five_shl h9, if_pos (by rw [iI_lt (by omega) (by omega) (by omega) (by omega)]; omega), show gI M 198 3 = iI (zn (M0.1 198) 3) from (eqx_I hM (by decide) 3).trans e3, show iI 5 = iI ((5 : Nat) : Int) from rfl, iI_rem (by omega) (by decide)]
      by_cases h4 : s % 5 = 4
      · rw [if_pos (by rw [h4]; rfl)]
        exact main 1 (by rw [if_pos (Or.inl h4)])
      · rw [if_neg (by rw [iI_eq (by omega) (by omega) (by omega) (by omega)]; omega)]
        by_cases hl : s % 5 < zn (M0.1 198) 3
        · rw [if_pos (by rw [iI_lt (by omega) (by omega) (by omega) (by omega)]; omega)]
          exact main 1 (by rw [if_pos (Or.inr hl)])
        · rw [if_neg (by rw [iI_lt (by omega) (by omega) (by omega) (by omega)]; omega)]
          exact main 0 (by rw [if_neg (by omega)])
  show ∃ M', X2 (d + 5) m_Mo_laysThen 0 [.ref 197, uns, uns, uns] [] M0 = _ ∧ _
  rw [e_Mo_laysThen_0]
  exact go (5 * 2 ^ nz (M0.1 198)) 0 M0 _ _ (by omega) Eqx.rf (fun s hs => absurd hs (Nat.not_lt_zero s))
