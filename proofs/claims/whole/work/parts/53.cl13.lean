/-! THE CLASS: nodes of places. -/
theorem c_Arr_fillI (d : Nat) {M0 : Mem} {a n : Nat} (hs : sh0 a = (40, n)) (hn : n ≤ 100000) (v : Int32) :
    ∃ M', c2 (d + 1) m_Arr_fillI [.ref a, .int v] M0 = some (.null, M') ∧ Eqx [a] M0 M' ∧ (∀ k, k < n → gI M' a k = v) := by
  show ∃ M', X2 d m_Arr_fillI 0 [.ref a, .int v, uns, uns] [] M0 = _ ∧ _
  have go : ∀ j k M, j + k = n → Eqx [a] M0 M → (∀ i, i < k → gI M a i = v) → ∃ M', X2 d m_Arr_fillI 5 [.ref a, .int v, .int (iI k), .int (iI n)] [] M = some (.null, M') ∧ Eqx [a] M0 M' ∧ (∀ k, k < n → gI M' a k = v) := by
    intro j
    induction j with
    | zero =>
      intro k M hk hM hv
      rw [e_Arr_fillI_5, if_neg (by rw [iI_lt (by omega) (by omega) (by omega) (by omega)]; omega)]
      exact ⟨M, rfl, hM, fun i hi => hv i (by omega)⟩
    | succ j ih =>
      intro k M hk hM hv
      rw [e_Arr_fillI_5, if_pos (by rw [iI_lt (by omega) (by omega) (by omega) (by omega)]; omega), sh_at hs, inb_ok (by omega) (by omega) (by omega), gb_T, ix_nat (by omega), iI_add]
      refine ih (k + 1) _ (by omega) (eqx_wI hM (by simp)) ?_
      intro i hi
      by_cases hq : i = k
      · subst hq; exact gI_eq _ _ _ _
      · rw [gI_nk hq]; exact hv i (by omega)
  rw [e_Arr_fillI_0, sh_k hs, sh_k hs, sh_k hs, sh_k hs, sh_k hs, sh_k hs, sh_k hs, sh_k hs, sh_k hs, show (oS O2 M0 a).2 = n from by show (sh0 a).2 = n; rw [hs]]
  exact go n 0 M0 (by omega) Eqx.rf (fun i hi => absurd hi (Nat.not_lt_zero i))
/-- n nodes, of the places pl -/
def ReachC (M : Mem) (n : Nat) (pl : Nat → Nat) : Prop := gI M 133 1 = iI n ∧ n ≤ 1024 ∧ ∀ i, i < n → gI M 134 i = iI (pl i) ∧ pl i < 2560 ∧ gI M 137 (pl i) = iI i
theorem ReachC.inj {M : Mem} {n : Nat} {pl : Nat → Nat} (h : ReachC M n pl) : ∀ i, i < n → ∀ j, j < n → pl i = pl j → i = j := by
  intro i hi j hj e
  have a := (h.2.2 i hi).2.2
  have b := (h.2.2 j hj).2.2
  have hn := h.2.1
  rw [e, b] at a
  rw [iI_eq (by omega) (by omega) (by omega) (by omega)] at a
  omega
theorem ReachC.fr {M M' : Mem} {n : Nat} {pl : Nat → Nat} (h : ReachC M n pl) (h1 : M'.1 133 = M.1 133) (h2 : M'.1 134 = M.1 134) (h3 : M'.1 137 = M.1 137) : ReachC M' n pl := by
  unfold ReachC gI at *
  rw [h1, h2, h3]; exact h
theorem c_Rch_nodeOf (d : Nat) {M : Mem} {n : Nat} {pl : Nat → Nat} (h : ReachC M n pl) {p : Nat} (hp : p < 2560) :
    ∃ x : Int, c2 (d + 1) m_Rch_nodeOf [.ref 133, .int (iI p)] M = some (.int (iI x), M) ∧ ((∃ i : Nat, i < n ∧ pl i = p ∧ x = i) ∨ ((∀ i, i < n → pl i ≠ p) ∧ x = -1)) := by
  show ∃ x : Int, X2 d m_Rch_nodeOf 0 [.ref 133, .int (iI p), uns] [] M = _ ∧ _
  have hn := h.2.1
  have n0 : ¬ (iI p < 0) := by rw [iI_lt0 (by omega) (by omega)]; omega
  have n1 : iI p < iI 2560 := by rw [iI_lt (by omega) (by omega) (by omega) (by omega)]; omega
  rw [e_Rch_nodeOf_0, if_neg n0, if_pos n1, inb_ok (by omega) (by omega) (by omega), gb_T, ix_nat (by omega), h.1]
  by_cases hq : ∃ i, i < n ∧ pl i = p
  · obtain ⟨i, hi, hpi⟩ := hq
    have a := h.2.2 i hi
    rw [hpi] at a
    rw [a.2.2, ix_nat (by omega), a.1, if_neg (by rw [iI_lt0 (by omega) (by omega)]; omega), if_pos (by rw [iI_lt (by omega) (by omega) (by omega) (by omega)]; omega), inb_ok (by omega) (by omega) (by omega), gb_T, if_pos rfl]
    exact ⟨i, rfl, Or.inl ⟨i, hi, hpi, rfl⟩⟩
  · have hne : ∀ i, i < n → pl i ≠ p := fun i hi e => hq ⟨i, hi, e⟩
    refine ⟨-1, ?_, Or.inr ⟨hne, rfl⟩⟩
    obtain ⟨o, ho, o1, o2⟩ := iI_ex (gI M 137 p)
    rw [ho]
    by_cases l0 : o < 0
    · rw [if_pos (by rw [iI_lt0 o1 o2]; exact l0)]
    · rw [if_neg (by rw [iI_lt0 o1 o2]; exact l0)]
      by_cases l1 : o < n
      · rw [if_pos (by rw [iI_lt o1 o2 (by omega) (by omega)]; exact l1), inb_ok (by omega) (by omega) (by omega), gb_T, ix_eq (n := o.toNat) (by omega) (by omega)]
        have a := h.2.2 o.toNat (by omega)
        have ne := hne o.toNat (by omega)
        rw [a.1, if_neg (by rw [iI_eq (by omega) (by omega) (by omega) (by omega)]; omega)]
      · rw [if_neg (by rw [iI_lt o1 o2 (by omega) (by omega)]; exact l1)]
def upn (pl : Nat → Nat) (n p : Nat) (i : Nat) : Nat := if i = n then p else pl i
theorem c_Rch_add (d : Nat) {M : Mem} {n : Nat} {pl : Nat → Nat} (h : ReachC M n pl) (hn : n < 1024) {p : Nat} (hp : p < 2560) (hne : ∀ i, i < n → pl i ≠ p) (x : Int32) :
    ∃ M', c2 (d + 1) m_Rch_add [.ref 133, .int (iI p), .int x] M = some (.int (iI n), M') ∧ Eqx [133, 134, 136, 137] M M' ∧ ReachC M' (n + 1) (upn pl n p) ∧ gI M' 136 n = x ∧ (∀ k, k ≠ n → gI M' 136 k = gI M 136 k) := by
  show ∃ M', X2 d m_Rch_add 0 [.ref 133, .int (iI p), .int x] [] M = _ ∧ _
  have n0 : ¬ (iI p < 0) := by rw [iI_lt0 (by omega) (by omega)]; omega
  have n1 : iI p < iI 2560 := by rw [iI_lt (by omega) (by omega) (by omega) (by omega)]; omega
  have n2 : iI n < iI 1024 := by rw [iI_lt (by omega) (by omega) (by omega) (by omega)]; omega
  rw [e_Rch_add_0, h.1, if_pos n2, if_neg n0, if_pos n1, inb_ok (by omega) (by omega) (by omega), gb_T, gb_T, inb_ok (by omega) (by omega) (by omega), gb_T, ix_nat (by omega), ix_nat (by omega), iI_add]
  refine ⟨_, rfl, eqx_wI (eqx_wI (eqx_wI (eqx_wI Eqx.rf (by simp)) (by simp)) (by simp)) (by simp), ⟨gI_eq _ _ _ _, by omega, ?_⟩, ?_, ?_⟩
  · intro i hi
    by_cases hq : i = n
    · subst hq
      rw [upn, if_pos rfl]
      refine ⟨?_, hp, ?_⟩
      · rw [gI_na (by decide), gI_na (by decide), gI_na (by decide), gI_eq]
      · rw [gI_na (by decide), gI_eq]
    · rw [upn, if_neg hq]
      have a := h.2.2 i (by omega)
      refine ⟨?_, a.2.1, ?_⟩
      · rw [gI_na (by decide), gI_na (by decide), gI_na (by decide), gI_nk hq]; exact a.1
      · rw [gI_na (by decide), gI_nk (hne i (by omega)), gI_na (by decide), gI_na (by decide)]; exact a.2.2
  · rw [gI_na (by decide), gI_na (by decide), gI_eq]
  · intro k hk
    rw [gI_na (by decide), gI_na (by decide), gI_nk hk, gI_na (by decide)]
