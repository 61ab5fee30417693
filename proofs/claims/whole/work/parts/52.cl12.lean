/-! ARRAYS FILLED. -/
theorem sh_k {a k n : Nat} (h : sh0 a = (k, n)) (M : Mem) (j : Nat) : isK O2 M a j = Nat.beq k j := by
  show Nat.beq (sh0 a).1 j = _
  rw [h]
theorem sh_at {a k n : Nat} (h : sh0 a = (k, n)) (M : Mem) (x : Int32) : at_ O2 M a k x = inb x n := by
  show (Nat.beq (sh0 a).1 k && inb x (sh0 a).2) = _
  rw [h, Nat.beq_refl, Bool.true_and]
theorem c_Arr_fillJ (d : Nat) {M0 : Mem} {a n : Nat} (hs : sh0 a = (43, n)) (hn : n ≤ 100000) (v : Int64) :
    ∃ M', c2 (d + 1) m_Arr_fillJ [.ref a, .long v] M0 = some (.null, M') ∧ Eqx [a] M0 M' ∧ (∀ k, k < n → gL M' a k = v) ∧ M'.1 = M0.1 ∧ M'.2.2 = M0.2.2 := by
  show ∃ M', X2 d m_Arr_fillJ 0 [.ref a, .long v, mk2, uns, uns] [] M0 = _ ∧ _
  have go : ∀ j k M, j + k = n → Eqx [a] M0 M → (∀ i, i < k → gL M a i = v) → M.1 = M0.1 → M.2.2 = M0.2.2 → ∃ M', X2 d m_Arr_fillJ 6 [.ref a, .long v, mk2, .int (iI k), .int (iI n)] [] M = some (.null, M') ∧ Eqx [a] M0 M' ∧ (∀ k, k < n → gL M' a k = v) ∧ M'.1 = M0.1 ∧ M'.2.2 = M0.2.2 := by
    intro j
    induction j with
    | zero =>
      intro k M hk hM hv h1 h2
      rw [e_Arr_fillJ_6, if_neg (by rw [iI_lt (by omega) (by omega) (by omega) (by omega)]; omega)]
      exact ⟨M, rfl, hM, fun i hi => hv i (by omega), h1, h2⟩
    | succ j ih =>
      intro k M hk hM hv h1 h2
      rw [e_Arr_fillJ_6, if_pos (by rw [iI_lt (by omega) (by omega) (by omega) (by omega)]; omega), sh_at hs, inb_ok (by omega) (by omega) (by omega), gb_T, ix_nat (by omega), iI_add]
      refine ih (k + 1) _ (by omega) (eqx_wL hM (by simp)) ?_ h1 h2
      intro i hi
      by_cases hq : i = k
      · subst hq; exact gL_eq _ _ _ _
      · rw [gL_nk hq]; exact hv i (by omega)
  rw [e_Arr_fillJ_0, sh_k hs, sh_k hs, sh_k hs, sh_k hs, sh_k hs, sh_k hs, sh_k hs, sh_k hs, sh_k hs, show (oS O2 M0 a).2 = n from by show (sh0 a).2 = n; rw [hs]]
  exact go n 0 M0 (by omega) Eqx.rf (fun i hi => absurd hi (Nat.not_lt_zero i)) rfl rfl
theorem c_Stp_take (d : Nat) {M : Mem} {r' : Nat} {z' : Row} {tm st : Nat} (hr' : r' ∈ rooms) (hR' : RoomR M r' z') (hz' : OkZ z') (htm : gI M 127 1 = iI tm) (htm9 : tm < 10) (hst : gI M 127 6 = iI st) (hst2 : st < 100000)
    (hC : ∀ p bl, p < 2560 → bl < 2 → ∃ e s : Nat, gI M 131 (bl * 2560 + p) = iI ((s * 4096 + e : Nat) : Int) ∧ e < 4096 ∧ s ≤ st) :
    ∃ M', c2 (d + 2) m_Stp_take [.ref 127, .ref r'] M = some (.null, M') ∧ Eqx [127, 128, 129] M M' ∧ StepsC M' r' z' tm (st + 1) := by
  show ∃ M', X2 (d + 1) m_Stp_take 0 [.ref 127, .ref r'] [] M = _ ∧ _
  have hrl := rm_lt r' hr'
  obtain ⟨M1, e1, hE1, v1, i1, q1⟩ := c_Arr_fillJ d (M0 := wR M 127 0 r') (a := 128) (n := 900) rfl (by decide) (lI 0)
  obtain ⟨M2, e2, hE2, v2, i2, q2⟩ := c_Arr_fillJ d (M0 := M1) (a := 129) (n := 8) rfl (by decide) (lI 0)
  have hI : M2.1 = M.1 := i2.trans i1
  have g6 : gI M2 127 6 = iI st := by rw [gI, hI]; exact hst
  rw [e_Stp_take_0, e1, bV_some, e2, bV_some, g6]
  have hE : Eqx [127, 128, 129] M (wI M2 127 6 (iI st + iI 1)) := eqx_wI ((((eqx_wR Eqx.rf (by simp)) : Eqx [127, 128, 129] M (wR M 127 0 r')).tr (hE1.mono (by simp))).tr (hE2.mono (by simp))) (by simp)
  have g0 : gR (wI M2 127 6 (iI st + iI 1)) 127 0 = r' := by
    show bb (Nat.beq (sR 127 0) 0) (M2.2.2 127 0) (sR 127 0) = r'
    rw [q2, q1]
    rfl
  refine ⟨_, rfl, hE, hr', g0, hR'.fr (fun a ha => (hE a (by have := roomS_ge ha; simp <;> omega)).1), hz', ?_, ?_, ?_, htm9, ?_, by omega, ?_⟩
  · intro tm' who bl c h1 h2 h3 h4
    have h9 := nz_le hz'
    refine ⟨0, ?_, by decide, fun nr tu _ _ => by rw [Nat.zero_testBit, Nat.zero_testBit, Bool.false_and]⟩
    show gL M2 128 _ = _
    rw [eqx_L hE2 (by decide)]
    exact v1 _ (by omega)
  · intro t bl h1 h2
    have h3 := zn_rng hz'.1.2.2.1 (by decide)
    exact ⟨0, v2 _ (by omega), by decide, fun nr tu _ _ => by rw [Nat.zero_testBit, Nat.zero_testBit, Bool.false_and]⟩
  · rw [gI_nk (by decide), gI, hI]; exact htm
  · rw [gI_eq, iI_add]; rfl
  · intro p bl hp hbl
    obtain ⟨e, s, h1, h2, h3⟩ := hC p bl hp hbl
    refine ⟨e, s, ?_, h2, by omega, fun q => by omega⟩
    rw [eqx_I hE (by decide)]; exact h1
