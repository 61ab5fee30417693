/-! THE CLASS: rooms' cells; a law asked. -/
theorem rm_lt : ∀ r, r ∈ rooms → 147 ≤ r ∧ r ≤ 177 := by decide
theorem rm_k (M : Mem) : ∀ r, r ∈ rooms → isK O2 M r 16 = true := rm_all rfl rfl rfl rfl
theorem rm_10 (M : Mem) : ∀ r, r ∈ rooms → gR M r 10 = r + 1 := rm_all rfl rfl rfl rfl
theorem rm_11 (M : Mem) : ∀ r, r ∈ rooms → gR M r 11 = r + 2 := rm_all rfl rfl rfl rfl
theorem rm_12 (M : Mem) : ∀ r, r ∈ rooms → gR M r 12 = r + 3 := rm_all rfl rfl rfl rfl
theorem rm_13 (M : Mem) : ∀ r, r ∈ rooms → gR M r 13 = r + 4 := rm_all rfl rfl rfl rfl
theorem rm_14 (M : Mem) : ∀ r, r ∈ rooms → gR M r 14 = r + 7 := rm_all rfl rfl rfl rfl
theorem rm_a1 (M : Mem) : ∀ r, r ∈ rooms → isK O2 M (r + 1) 1 = false := rm_all rfl rfl rfl rfl
theorem rm_a2 (M : Mem) : ∀ r, r ∈ rooms → isK O2 M (r + 2) 1 = false := rm_all rfl rfl rfl rfl
theorem rm_a3 (M : Mem) : ∀ r, r ∈ rooms → isK O2 M (r + 3) 1 = false := rm_all rfl rfl rfl rfl
theorem rm_t1 (M : Mem) (x : Int32) : ∀ r, r ∈ rooms → at_ O2 M (r + 1) 40 x = inb x 9 := rm_all rfl rfl rfl rfl
theorem rm_t2 (M : Mem) (x : Int32) : ∀ r, r ∈ rooms → at_ O2 M (r + 2) 40 x = inb x 9 := rm_all rfl rfl rfl rfl
theorem rm_t3 (M : Mem) (x : Int32) : ∀ r, r ∈ rooms → at_ O2 M (r + 3) 40 x = inb x 4 := rm_all rfl rfl rfl rfl
theorem rm_l4 : ∀ r, r ∈ rooms → r + 4 ∈ laws := by decide
theorem rm_l7 : ∀ r, r ∈ rooms → r + 7 ∈ laws := by decide
theorem rm_k4 (M : Mem) : ∀ r, r ∈ rooms → isK O2 M (r + 4) 11 = true := fun r h => lw_k M _ (rm_l4 r h)
theorem rm_k7 (M : Mem) : ∀ r, r ∈ rooms → isK O2 M (r + 7) 11 = true := fun r h => lw_k M _ (rm_l7 r h)
theorem rm_ok : ∀ r, r ∈ rooms → rOk r = true := rm_all rfl rfl rfl rfl
theorem tt_and : (true && !false) = true := rfl
theorem c_Lw_isTold (d : Nat) {a : Nat} (ha : a ∈ laws) (M : Mem) : c2 (d + 1) m_Lw_isTold [.ref a] M = some (.int (iI (b2i (decide (0 < gI M a 2)))), M) := by
  show X2 d m_Lw_isTold 0 [.ref a] [] M = _
  rw [e_Lw_isTold_0, lw_k _ a ha, gb_T]
  split
  · rename_i h; rw [decide_eq_true h]; rfl
  · rename_i h; rw [decide_eq_false h]; rfl
theorem c_Lw_law (d : Nat) {M : Mem} {a : Nat} {z : Row} {law : Nat} {al : Nat → Bool} {wd : Nat → Int32} (ha : a ∈ laws) (hR : LawR M a z law) (ht : z (6 + law) ≠ 0) (hO : OkLaw z law al) (hw : ∀ j, j < 10 → al j = true → M.1 130 j = wd j) :
    ∃ M', c2 (d + 2) m_Lw_holds [.ref a, .ref 130] M = some (.int (iI (b2i (holdsB z law wd))), M') ∧ Eqx [a + 2] M M' := by
  obtain ⟨h1, h2, h3, h4, h5, h6, h7⟩ := hO
  obtain ⟨v, hv, hs⟩ := h6 wd
  rcases hR with hR | hR
  · exact absurd hR.1 ht
  · have hs2 : stL (M.1 130) 18 (lawC z law) [] = some [v] := (stL_al hw _ _ h5).trans hs
    have e2 : gI M a 2 = iI (zn z (10 + law)) := hR.2.1.trans (zn_eq (hi := 2147483647) ⟨h2, (iI_rng _).2⟩ (by decide))
    obtain ⟨M', e, hE⟩ := c_Lw_holds d ha e2 (by omega) (codeOf_len _ _ _) hR.2.2 h5 hs2
    refine ⟨M', ?_, hE⟩
    rw [e, holdsB, hs]
    have e3 : decide (v ≠ 0) = decide (some [v] = some [iI 1]) := by
      rcases hv with q | q <;> subst q <;> decide
    rw [e3]
theorem told_iff {M : Mem} {a : Nat} {z : Row} {law : Nat} {al : Nat → Bool} (hR : LawR M a z law) (hO : z (6 + law) ≠ 0 → OkLaw z law al) : decide (0 < gI M a 2) = decide (z (6 + law) ≠ 0) := by
  rcases hR with hR | hR
  · rw [hR.2, decide_eq_false (p := z (6 + law) ≠ 0) (fun h => h hR.1)]; rfl
  · obtain ⟨h1, h2, h3, h4, h5, h6, h7⟩ := hO hR.1
    have e2 : gI M a 2 = iI (zn z (10 + law)) := hR.2.1.trans (zn_eq (hi := 2147483647) ⟨h2, (iI_rng _).2⟩ (by decide))
    rw [decide_eq_true hR.1, e2, decide_eq_true]
    rw [iI_0lt (by omega) (by omega)]
    omega
