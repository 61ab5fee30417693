/-! THE CLASS: the way to a node. -/
/-- in m steps from s to t -/
def Rm (f : Nat → Nat → Nat) : Nat → Nat → Nat → Prop
  | 0, s, t => s = t
  | m + 1, s, t => ∃ b, b < 2 ∧ Rm f m (f s b) t
/-- the way from node 0 to g, by the edges by which nodes were found -/
def PathC (N : Nat) (cb : Nat → Nat) (g D : Nat) (T : Nat → Nat) : Prop := T 0 = 0 ∧ T D = g ∧ D ≤ g ∧ g < N ∧ (∀ k, k < D → 1 ≤ T (k + 1) ∧ T (k + 1) < N ∧ cb (T (k + 1)) / 2 = T k)
theorem ExpC.path {M : Mem} {z : Row} {tm N E : Nat} {pl cb : Nat → Nat} {ex : Nat → Bool} (h : ExpC M z tm N E pl cb ex) : ∀ n g, g < n → g < N → ∃ D T, PathC N cb g D T := by
  intro n
  induction n with
  | zero => intro g hg; exact absurd hg (Nat.not_lt_zero g)
  | succ n ih =>
    intro g hg hN
    by_cases h0 : g = 0
    · exact ⟨0, fun _ => 0, rfl, h0.symm, by omega, hN, fun k hk => absurd hk (Nat.not_lt_zero k)⟩
    · have a := h.2.2.2.1 g (by omega) hN
      obtain ⟨D, T, t1, t2, t3, t4, t5⟩ := ih (cb g / 2) (by omega) (by omega)
      refine ⟨D + 1, upn T (D + 1) g, ?_, ?_, ?_, hN, ?_⟩
      · rw [upn_lt (by omega)]; exact t1
      · rw [upn_eq]
      · omega
      · intro k hk
        by_cases e : k = D
        · subst e
          rw [upn_eq, upn_lt (by omega), t2]
          exact ⟨by omega, hN, rfl⟩
        · rw [upn_lt (by omega), upn_lt (by omega)]
          exact t5 k (by omega)
theorem c_Rch_depth (d : Nat) {M : Mem} {z : Row} {tm N E g D : Nat} {pl cb T : Nat → Nat} {ex : Nat → Bool} (hX : ExpC M z tm N E pl cb ex) (hT : PathC N cb g D T) :
    c2 (d + 1) m_Rch_depth [.ref 133, .int (iI g)] M = some (.int (iI D), M) := by
  have hN := hX.1.2.1
  obtain ⟨t1, t2, t3, t4, t5⟩ := hT
  have go : ∀ j k, j + k = D → X2 d m_Rch_depth 23 [.ref 133, .int (iI g), .int (iI k), .int (gI M 136 (T j))] [] M = some (.int (iI D), M) := by
    intro j
    induction j with
    | zero =>
      intro k hk
      rw [e_Rch_depth_23, t1, hX.2.2.1, if_pos (by decide), show k = D by omega]
    | succ j ih =>
      intro k hk
      obtain ⟨a1, a2, a3⟩ := t5 j (by omega)
      obtain ⟨b1, b2, _⟩ := hX.2.2.2.1 (T (j + 1)) a1 a2
      have e2 : iI (cb (T (j + 1))) / iI 2 = iI ((cb (T (j + 1)) / 2 : Nat) : Int) := iI_div (b := 2) (by omega) (by decide)
      rw [e_Rch_depth_23, b1, if_neg (by rw [iI_lt0 (by omega) (by omega)]; omega), if_pos (by rw [iI_lt (by omega) (by omega) (by omega) (by omega)]; omega), if_pos (by rw [iI_lt (by omega) (by omega) (by omega) (by omega)]; omega), e2, inb_ok (by omega) (by omega) (by omega), gb_T, ix_nat (by omega), a3, iI_add]
      exact ih (k + 1) (by omega)
  show X2 d m_Rch_depth 0 [.ref 133, .int (iI g), uns, uns] [] M = _
  rw [e_Rch_depth_0, hX.1.1, if_neg (by rw [iI_lt0 (by omega) (by omega)]; omega), if_pos (by rw [iI_lt (by omega) (by omega) (by omega) (by omega)]; omega), inb_ok (by omega) (by omega) (by omega), gb_T, ix_nat (by omega), ← t2]
  exact (t2 ▸ go D 0 (by omega))
theorem c_Rch_depthN (d : Nat) (M : Mem) : c2 (d + 1) m_Rch_depth [.ref 133, .int (iI (-1))] M = some (.int (iI (-1)), M) := by
  show X2 d m_Rch_depth 0 [.ref 133, .int (iI (-1)), uns, uns] [] M = _
  rw [e_Rch_depth_0, if_pos (by decide)]
theorem c_Rch_blindTo (d : Nat) {M : Mem} {z : Row} {tm N E g D : Nat} {pl cb T : Nat → Nat} {ex : Nat → Bool} {i : Int} (hX : ExpC M z tm N E pl cb ex) (hT : PathC N cb g D T) (hi : 0 ≤ i) (hi2 : i ≤ 2147483647) :
    c2 (d + 2) m_Rch_blindTo [.ref 133, .int (iI g), .int (iI i)] M = some (.int (iI (if i < D then ((cb (T (i.toNat + 1)) % 2 : Nat) : Int) else -1)), M) := by
  have hN := hX.1.2.1
  have hdp := c_Rch_depth d hX hT
  obtain ⟨t1, t2, t3, t4, t5⟩ := hT
  show X2 (d + 1) m_Rch_blindTo 0 [.ref 133, .int (iI g), .int (iI i), uns, uns, uns, uns] [] M = _
  rw [e_Rch_blindTo_0, hdp, bI_some, if_neg (by rw [iI_lt0 (by omega) (by omega)]; omega)]
  by_cases hq : i < D
  · obtain ⟨i, rfl⟩ := Int.eq_ofNat_of_zero_le hi
    have go : ∀ j k, j + k = D - 1 - i → X2 (d + 1) m_Rch_blindTo 46 [.ref 133, .int (iI g), .int (iI i), .int (iI D), .int (iI ((D - 1 - i : Nat) : Int)), .int (gI M 136 (T (j + i + 1))), .int (iI k)] [] M = some (.int (iI ((cb (T (i + 1)) % 2 : Nat) : Int)), M) := by
      intro j
      induction j with
      | zero =>
        intro k hk
        obtain ⟨a1, a2, a3⟩ := t5 i (by omega)
        obtain ⟨b1, b2, _⟩ := hX.2.2.2.1 (T (i + 1)) a1 a2
        rw [e_Rch_blindTo_46, show 0 + i + 1 = i + 1 by omega, b1, if_neg (by rw [iI_lt (by omega) (by omega) (by omega) (by omega)]; omega), if_neg (by rw [iI_lt0 (by omega) (by omega)]; omega)]
        rw [show irm (iI (cb (T (i + 1)))) (iI 2) = iI ((cb (T (i + 1)) % 2 : Nat) : Int) from iI_rem (b := 2) (by omega) (by decide)]
      | succ j ih =>
        intro k hk
        obtain ⟨a1, a2, a3⟩ := t5 (j + i + 1) (by omega)
        obtain ⟨b1, b2, _⟩ := hX.2.2.2.1 (T (j + i + 1 + 1)) a1 a2
        have e2 : iI (cb (T (j + i + 1 + 1))) / iI 2 = iI ((cb (T (j + i + 1 + 1)) / 2 : Nat) : Int) := iI_div (b := 2) (by omega) (by decide)
        rw [e_Rch_blindTo_46, show j + 1 + i + 1 = j + i + 1 + 1 by omega, b1, if_pos (by rw [iI_lt (by omega) (by omega) (by omega) (by omega)]; omega), if_neg (by rw [iI_lt0 (by omega) (by omega)]; omega), if_pos (by rw [iI_lt (by omega) (by omega) (by omega) (by omega)]; omega), e2, inb_ok (by omega) (by omega) (by omega), gb_T, ix_nat (by omega), a3, iI_add]
        exact ih (k + 1) (by omega)
    have e1 : (iI D - iI 1) - iI i = iI ((D - 1 - i : Nat) : Int) := by rw [iI_sub, iI_sub]; congr 1; omega
    rw [if_pos (by rw [iI_lt (by omega) (by omega) (by omega) (by omega)]; omega), if_neg (by rw [iI_lt0 (by omega) (by omega)]; omega), if_pos (by rw [iI_lt (by omega) (by omega) (by omega) (by omega)]; omega), inb_ok (by omega) (by omega) (by omega), gb_T, ix_nat (by omega), e1, if_pos hq]
    have := go (D - 1 - i) 0 (by omega)
    rw [show D - 1 - i + i + 1 = D by omega, t2] at this
    exact this
  · rw [if_neg (by rw [iI_lt (by omega) (by omega) (by omega) (by omega)]; omega), if_neg hq]
theorem c_Rch_blindToN (d : Nat) {i : Int} (hi : 0 ≤ i) (hi2 : i ≤ 2147483647) (M : Mem) : c2 (d + 2) m_Rch_blindTo [.ref 133, .int (iI (-1)), .int (iI i)] M = some (.int (iI (-1)), M) := by
  show X2 (d + 1) m_Rch_blindTo 0 [.ref 133, .int (iI (-1)), .int (iI i), uns, uns, uns, uns] [] M = _
  rw [e_Rch_blindTo_0, c_Rch_depthN, bI_some, if_neg (by rw [iI_lt0 (by omega) (by omega)]; omega), if_neg (by rw [iI_lt (by omega) (by omega) (by omega) (by omega)]; omega)]
theorem PathC.inc {N g D : Nat} {cb T : Nat → Nat} (hT : PathC N cb g D T) (hc : ∀ i, 1 ≤ i → i < N → cb i < 2 * i) : ∀ j k, k + j < D → T k < T (k + j + 1) := by
  intro j
  induction j with
  | zero =>
    intro k hk
    obtain ⟨a1, a2, a3⟩ := hT.2.2.2.2 k (by omega)
    have := hc _ a1 a2
    show T k < T (k + 1)
    omega
  | succ j ih =>
    intro k hk
    have h1 := ih k (by omega)
    obtain ⟨a1, a2, a3⟩ := hT.2.2.2.2 (k + j + 1) (by omega)
    have := hc _ a1 a2
    show T k < T (k + j + 1 + 1)
    omega
/-- who begins ahead of the way ends ahead of its end -/
theorem ExpC.ahead {M : Mem} {z : Row} {tm N E g D : Nat} {pl cb T : Nat → Nat} {ex : Nat → Bool} (hX : ExpC M z tm N E pl cb ex) (hT : PathC N cb g D T) (hex : ∀ p, ex p = true) : ∀ m k j t, k + m = D → j < T k → Rm (pas z tm) m (pl j) t → ∃ j', j' < g ∧ pl j' = t := by
  intro m
  induction m with
  | zero =>
    intro k j t hk hj hR
    exact ⟨j, by rw [← hT.2.1, ← hk]; exact hj, hR⟩
  | succ m ih =>
    intro k j t hk hj hR
    obtain ⟨b, hb, hR⟩ := hR
    obtain ⟨a1, a2, a3⟩ := hT.2.2.2.2 k (by omega)
    obtain ⟨b1, b2, b3, b4, b5⟩ := hX.2.2.2.1 _ a1 a2
    obtain ⟨c1, c2⟩ := hX.2.2.2.2.2 (2 * j + b) (by omega)
    obtain ⟨j', d1, d2, d3, d4⟩ := c2 (hex _)
    rw [show (2 * j + b) / 2 = j by omega, show (2 * j + b) % 2 = b by omega] at d3
    rw [← d3] at hR
    refine ih (k + 1) j' t (by omega) ?_ hR
    by_cases e : 1 ≤ j'
    · have := d4 e
      rcases Nat.lt_trichotomy j' (T (k + 1)) with q | q | q
      · exact q
      · subst q; omega
      · have := hX.2.2.2.2.1 _ _ a1 q d1; omega
    · omega
theorem ExpC.closed {M : Mem} {z : Row} {tm N E : Nat} {pl cb : Nat → Nat} {ex : Nat → Bool} (hX : ExpC M z tm N E pl cb ex) (hE : E = 2 * N) (hex : ∀ p, ex p = true) : ∀ m j t, j < N → Rm (pas z tm) m (pl j) t → ∃ j', j' < N ∧ pl j' = t := by
  intro m
  induction m with
  | zero =>
    intro j t hj hR
    exact ⟨j, hj, hR⟩
  | succ m ih =>
    intro j t hj hR
    obtain ⟨b, hb, hR⟩ := hR
    obtain ⟨c1, c2⟩ := hX.2.2.2.2.2 (2 * j + b) (by omega)
    obtain ⟨j', d1, d2, d3, d4⟩ := c2 (hex _)
    rw [show (2 * j + b) / 2 = j by omega, show (2 * j + b) % 2 = b by omega] at d3
    rw [← d3] at hR
    exact ih j' t d1 hR
