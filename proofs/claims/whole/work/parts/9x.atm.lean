/-! THE TEXT: the reference at token j. -/
theorem sgc_24 (v : Nat) : ∀ k, sgc v k ≠ 24
  | 0 => by rw [sgc]; decide
  | k + 1 => by
    rw [sgc]
    split
    · omega
    · exact sgc_24 v k
theorem tk_end {T : Nat → Nat} {n p : Nat} (hp : p ≤ n) (h : tkC T n p = 24) : tkS T n p = n ∧ tkE T n p = n := by
  have sb := (edd_rng spB T (n := n) (n - p) p (by omega)).2.1
  have hst : edd spB T n p = tkS T n p := rfl
  rw [hst] at sb
  have q : n ≤ tkS T n p := by
    apply Classical.byContradiction
    intro q
    unfold tkC at h
    rw [if_neg q] at h
    split at h
    · have := wdc_lt T (tkS T n p) (tkE T n p) wds 0 (by decide); omega
    · split at h
      · split at h <;> omega
      · exact sgc_24 _ _ h
  have eE : tkE T n p = tkS T n p := if_pos q
  omega
theorem tk_n (T : Nat → Nat) (n : Nat) : tkS T n n = n ∧ tkE T n n = n ∧ tkC T n n = 24 := by
  have a : tkS T n n = n := edd_f (fun q => by omega)
  have q : n ≤ tkS T n n := by omega
  exact ⟨a, (if_pos q).trans a, if_pos q⟩
def AtM (M : Mem) (T : Nat → Nat) (n j : Nat) : Prop := TpM M T n ∧ gI M 197 6 = iI (tkS T n (posT T n j)) ∧ gI M 197 7 = iI (tkE T n (posT T n j)) ∧ gI M 197 9 = iI (tkC T n (posT T n j)) ∧ (tkC T n (posT T n j) = 23 → gI M 197 10 = iI (tkV T n (posT T n j)))
theorem c_Mo_nextJ (d : Nat) {M : Mem} {T : Nat → Nat} {n j : Nat} (h : AtM M T n j) : ∃ M', c2 (d + 6) m_Mo_next [.ref 197] M = some (.null, M') ∧ Oth M M' ∧ AtM M' T n (j + 1) := by
  obtain ⟨a1, a2, a3, a4, a5⟩ := h
  obtain ⟨M', e, hO, b2, b3, b4, b5⟩ := c_Mo_next d a1 (posT_le T n (j + 1)) (show gI M 197 7 = iI (posT T n (j + 1)) from a3)
  exact ⟨M', e, hO, hO.tp a1, b2, b3, b4, b5⟩
/-- behind the end the reference's token is the end's -/
theorem AtM.stay {M : Mem} {T : Nat → Nat} {n j : Nat} (h : AtM M T n (j + 1)) (he : tkC T n (posT T n j) = 24) : AtM M T n j := by
  obtain ⟨a1, a2, a3, a4, a5⟩ := h
  obtain ⟨e1, e2⟩ := tk_end (posT_le T n j) he
  have p1 : posT T n (j + 1) = n := e2
  obtain ⟨n1, n2, n3⟩ := tk_n T n
  rw [p1] at a2 a3 a4 a5
  rw [n1] at a2
  rw [n2] at a3
  rw [n3] at a4
  exact ⟨a1, by rw [e1]; exact a2, by rw [e2]; exact a3, by rw [he]; exact a4, fun x => by omega⟩
