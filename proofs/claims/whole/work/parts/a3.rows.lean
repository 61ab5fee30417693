/-! A LAW'S TEXT: terms, sums, both, truths. -/
section A3
variable {T : Nat → Nat} {n N a t : Nat}
theorem MAt.eat {D : Nat} (hD : 7 ≤ D) {j s : Nat} {C : List Nat} {M : Mem} (h : MAt T n t j s C M) (hj : j + 1 ≤ 900) {c : Nat} (hc : c ≤ 100) (hk : KK T n j = c) : ∃ M', c2 D m_Mo_eats [.ref 197, .int (iI c)] M = some (.int (iI 1), M') ∧ OM M M' ∧ (∀ k, k < 70 → gI M' 201 k = gI M 201 k) ∧ MAt T n t (j + 1) (s + 1) C M' := by
  obtain ⟨h1, h2, h3, h4, h5, h6⟩ := h
  obtain ⟨M', e, hO, hF, hJ⟩ := (k_eat hD h1 hc).1 hk
  exact ⟨M', e, hO, fun k _ => congrFun hF k, hJ, (hO.2 15 (by decide) (by decide) (by decide) (by decide) (by decide) (by decide)).trans h2, (congrFun hF 70).trans h3, by rw [hF]; exact h4, by omega, hj⟩
def op1 (k e c : Nat) : Option Nat := if c = k then some e else none
theorem op1_n {k e c : Nat} (h : op1 k e c = none) : c ≠ k := fun q => by unfold op1 at h; rw [if_pos q] at h; cases h
theorem op1_s {k e c x : Nat} (h : op1 k e c = some x) : c = k ∧ x = e := by
  unfold op1 at h
  split at h
  · exact ⟨by assumption, (Option.some.inj h).symm⟩
  · cases h
theorem q_Term {al : Nat → Bool} {h kd w : Nat} (hN : TN T n N) (ha : a ∈ laws) (hkd : 7 ≤ kd) (hsub : PQ T n N a t al m_LR_readAtom m_Mo_readAtom kd w false h) : PQ T n N a t al m_LR_readTerm m_Mo_readTerm (kd + 1) w false (h + 1) := by
  have M3 : ∀ (D : Nat) (v : Value) (M : Mem), kd ≤ D → Wr M → X2 D m_Mo_readTerm 5 [.ref 197, .int (iI w)] [] M = some (.null, M) := fun D v M hD hM => by
    rw [e_Mo_readTerm_5, w_eat (by omega) hM, bI_some, if_pos (by decide)]
  refine wrapQ hsub (fun D _ i M => X2 D m_LR_readTerm 12 [.ref 107, .int (iI w), .int i] [] M) (fun D _ M => X2 D m_Mo_readTerm 5 [.ref 197, .int (iI w)] [] M) uns (loopQ hN ha hkd hsub (op1 34 3002) ?_ (fun D _ i M => X2 D m_LR_readTerm 12 [.ref 107, .int (iI w), .int i] [] M) (fun _ => uns) ?_ ?_ (fun D _ M => X2 D m_Mo_readTerm 5 [.ref 197, .int (iI w)] [] M) (fun _ => uns) ?_ ?_ M3) M3 (fun D M => ?_) (fun D M => ?_)
  · intro c e q
    obtain ⟨rfl, rfl⟩ := op1_s q
    decide
  · intro D v i j s L M hM hi q
    have k : (gI M 102 9 = iI 42) = (KK T n j = 34) := hM.1.kd (by decide) (by decide)
    have g0 : gR M 107 0 = 102 := hM.2.1
    have kk : isK O2 M 102 19 = true := rfl
    show X2 D m_LR_readTerm 12 [.ref 107, .int (iI w), .int (iI i)] [] M = _
    rw [e_LR_readTerm_12, g0, kk, gb_T, if_neg (show ¬ gI M 102 9 = iI 42 by rw [k]; exact op1_n q)]
    split <;> rfl
  · intro D v i j s L M e hM hi q
    obtain ⟨q1, rfl⟩ := op1_s q
    have k : (gI M 102 9 = iI 42) = (KK T n j = 34) := hM.1.kd (by decide) (by decide)
    have g0 : gR M 107 0 = 102 := hM.2.1
    have kk : isK O2 M 102 19 = true := rfl
    show X2 D m_LR_readTerm 12 [.ref 107, .int (iI w), .int (iI i)] [] M = _
    rw [e_LR_readTerm_12, g0, kk, gb_T, if_pos (show gI M 102 9 = iI 42 by rw [k]; exact q1), if_pos (by rw [iI_lt (by omega) (by omega) (by omega) (by omega)]; omega), show (true && !false) = true from rfl, gb_T, show encC 3002 = -43 by decide, iI_add]
    rfl
  · intro D v j s C M hD hM q
    show X2 D m_Mo_readTerm 5 [.ref 197, .int (iI w)] [] M = _
    rw [e_Mo_readTerm_5, show iI 34 = iI ((34 : Nat) : Int) from rfl, (k_eat (by omega) hM.1 (by decide)).2 (op1_n q), bI_some, if_pos (by decide)]
  · intro D v j s C M e hD hM hj q
    obtain ⟨q1, rfl⟩ := op1_s q
    obtain ⟨M0, e0, o1, o2, o3⟩ := hM.eat (D := D) (c := 34) (by omega) hj (by decide) q1
    refine ⟨M0, o1, o2, o3, ?_⟩
    show X2 D m_Mo_readTerm 5 [.ref 197, .int (iI w)] [] M = _
    rw [e_Mo_readTerm_5, show iI 34 = iI ((34 : Nat) : Int) from rfl, e0, bI_some, if_neg (by decide)]
    rfl
  · show X2 D m_LR_readTerm 0 [.ref 107, .int (iI w), uns] [] M = _
    rw [e_LR_readTerm_0]
  · show X2 D m_Mo_readTerm 0 [.ref 197, .int (iI w)] [] M = _
    rw [e_Mo_readTerm_0]
theorem q_Both {al : Nat → Bool} {h kd w : Nat} (hN : TN T n N) (ha : a ∈ laws) (hkd : 7 ≤ kd) (hsub : PQ T n N a t al m_LR_readUnit m_Mo_readUnit kd w true h) : PQ T n N a t al m_LR_readBoth m_Mo_readBoth (kd + 1) w true (h + 1) := by
  have M3 : ∀ (D : Nat) (v : Value) (M : Mem), kd ≤ D → Wr M → X2 D m_Mo_readBoth 5 [.ref 197, .int (iI w)] [] M = some (.null, M) := fun D v M hD hM => by
    rw [e_Mo_readBoth_5, w_eat (by omega) hM, bI_some, if_pos (by decide)]
  refine wrapQ hsub (fun D _ i M => X2 D m_LR_readBoth 12 [.ref 107, .int (iI w), .int i] [] M) (fun D _ M => X2 D m_Mo_readBoth 5 [.ref 197, .int (iI w)] [] M) uns (loopQ hN ha hkd hsub (op1 16 3007) ?_ (fun D _ i M => X2 D m_LR_readBoth 12 [.ref 107, .int (iI w), .int i] [] M) (fun _ => uns) ?_ ?_ (fun D _ M => X2 D m_Mo_readBoth 5 [.ref 197, .int (iI w)] [] M) (fun _ => uns) ?_ ?_ M3) M3 (fun D M => ?_) (fun D M => ?_)
  · intro c e q
    obtain ⟨rfl, rfl⟩ := op1_s q
    decide
  · intro D v i j s L M hM hi q
    have k : (gI M 102 9 = iI 17) = (KK T n j = 16) := hM.1.kd (by decide) (by decide)
    have g0 : gR M 107 0 = 102 := hM.2.1
    have kk : isK O2 M 102 19 = true := rfl
    show X2 D m_LR_readBoth 12 [.ref 107, .int (iI w), .int (iI i)] [] M = _
    rw [e_LR_readBoth_12, g0, kk, gb_T, if_neg (show ¬ gI M 102 9 = iI 17 by rw [k]; exact op1_n q)]
    split <;> rfl
  · intro D v i j s L M e hM hi q
    obtain ⟨q1, rfl⟩ := op1_s q
    have k : (gI M 102 9 = iI 17) = (KK T n j = 16) := hM.1.kd (by decide) (by decide)
    have g0 : gR M 107 0 = 102 := hM.2.1
    have kk : isK O2 M 102 19 = true := rfl
    show X2 D m_LR_readBoth 12 [.ref 107, .int (iI w), .int (iI i)] [] M = _
    rw [e_LR_readBoth_12, g0, kk, gb_T, if_pos (show gI M 102 9 = iI 17 by rw [k]; exact q1), if_pos (by rw [iI_lt (by omega) (by omega) (by omega) (by omega)]; omega), show (true && !false) = true from rfl, gb_T, show encC 3007 = -18 by decide, iI_add]
    rfl
  · intro D v j s C M hD hM q
    show X2 D m_Mo_readBoth 5 [.ref 197, .int (iI w)] [] M = _
    rw [e_Mo_readBoth_5, show iI 16 = iI ((16 : Nat) : Int) from rfl, (k_eat (by omega) hM.1 (by decide)).2 (op1_n q), bI_some, if_pos (by decide)]
  · intro D v j s C M e hD hM hj q
    obtain ⟨q1, rfl⟩ := op1_s q
    obtain ⟨M0, e0, o1, o2, o3⟩ := hM.eat (D := D) (c := 16) (by omega) hj (by decide) q1
    refine ⟨M0, o1, o2, o3, ?_⟩
    show X2 D m_Mo_readBoth 5 [.ref 197, .int (iI w)] [] M = _
    rw [e_Mo_readBoth_5, show iI 16 = iI ((16 : Nat) : Int) from rfl, e0, bI_some, if_neg (by decide)]
    rfl
  · show X2 D m_LR_readBoth 0 [.ref 107, .int (iI w), uns] [] M = _
    rw [e_LR_readBoth_0]
  · show X2 D m_Mo_readBoth 0 [.ref 197, .int (iI w)] [] M = _
    rw [e_Mo_readBoth_0]
theorem q_Truth {al : Nat → Bool} {h kd w : Nat} (hN : TN T n N) (ha : a ∈ laws) (hkd : 7 ≤ kd) (hsub : PQ T n N a t al m_LR_readBoth m_Mo_readBoth kd w true h) : PQ T n N a t al m_LR_readTruth m_Mo_readTruth (kd + 1) w true (h + 1) := by
  have M3 : ∀ (D : Nat) (v : Value) (M : Mem), kd ≤ D → Wr M → X2 D m_Mo_readTruth 5 [.ref 197, .int (iI w)] [] M = some (.null, M) := fun D v M hD hM => by
    rw [e_Mo_readTruth_5, w_eat (by omega) hM, bI_some, if_pos (by decide)]
  refine wrapQ hsub (fun D _ i M => X2 D m_LR_readTruth 12 [.ref 107, .int (iI w), .int i] [] M) (fun D _ M => X2 D m_Mo_readTruth 5 [.ref 197, .int (iI w)] [] M) uns (loopQ hN ha hkd hsub (op1 17 3008) ?_ (fun D _ i M => X2 D m_LR_readTruth 12 [.ref 107, .int (iI w), .int i] [] M) (fun _ => uns) ?_ ?_ (fun D _ M => X2 D m_Mo_readTruth 5 [.ref 197, .int (iI w)] [] M) (fun _ => uns) ?_ ?_ M3) M3 (fun D M => ?_) (fun D M => ?_)
  · intro c e q
    obtain ⟨rfl, rfl⟩ := op1_s q
    decide
  · intro D v i j s L M hM hi q
    have k : (gI M 102 9 = iI 16) = (KK T n j = 17) := hM.1.kd (by decide) (by decide)
    have g0 : gR M 107 0 = 102 := hM.2.1
    have kk : isK O2 M 102 19 = true := rfl
    show X2 D m_LR_readTruth 12 [.ref 107, .int (iI w), .int (iI i)] [] M = _
    rw [e_LR_readTruth_12, g0, kk, gb_T, if_neg (show ¬ gI M 102 9 = iI 16 by rw [k]; exact op1_n q)]
    split <;> rfl
  · intro D v i j s L M e hM hi q
    obtain ⟨q1, rfl⟩ := op1_s q
    have k : (gI M 102 9 = iI 16) = (KK T n j = 17) := hM.1.kd (by decide) (by decide)
    have g0 : gR M 107 0 = 102 := hM.2.1
    have kk : isK O2 M 102 19 = true := rfl
    show X2 D m_LR_readTruth 12 [.ref 107, .int (iI w), .int (iI i)] [] M = _
    rw [e_LR_readTruth_12, g0, kk, gb_T, if_pos (show gI M 102 9 = iI 16 by rw [k]; exact q1), if_pos (by rw [iI_lt (by omega) (by omega) (by omega) (by omega)]; omega), show (true && !false) = true from rfl, gb_T, show encC 3008 = -17 by decide, iI_add]
    rfl
  · intro D v j s C M hD hM q
    show X2 D m_Mo_readTruth 5 [.ref 197, .int (iI w)] [] M = _
    rw [e_Mo_readTruth_5, show iI 17 = iI ((17 : Nat) : Int) from rfl, (k_eat (by omega) hM.1 (by decide)).2 (op1_n q), bI_some, if_pos (by decide)]
  · intro D v j s C M e hD hM hj q
    obtain ⟨q1, rfl⟩ := op1_s q
    obtain ⟨M0, e0, o1, o2, o3⟩ := hM.eat (D := D) (c := 17) (by omega) hj (by decide) q1
    refine ⟨M0, o1, o2, o3, ?_⟩
    show X2 D m_Mo_readTruth 5 [.ref 197, .int (iI w)] [] M = _
    rw [e_Mo_readTruth_5, show iI 17 = iI ((17 : Nat) : Int) from rfl, e0, bI_some, if_neg (by decide)]
    rfl
  · show X2 D m_LR_readTruth 0 [.ref 107, .int (iI w), uns] [] M = _
    rw [e_LR_readTruth_0]
  · show X2 D m_Mo_readTruth 0 [.ref 197, .int (iI w)] [] M = _
    rw [e_Mo_readTruth_0]
def op2s (c : Nat) : Option Nat := if c = 32 then some 3000 else if c = 33 then some 3001 else none
theorem op2s_n {c : Nat} (h : op2s c = none) : c ≠ 32 ∧ c ≠ 33 := by
  unfold op2s at h
  split at h
  · cases h
  · split at h
    · cases h
    · exact ⟨by assumption, by assumption⟩
theorem op2s_s {c x : Nat} (h : op2s c = some x) : (c = 32 ∧ x = 3000) ∨ (c = 33 ∧ x = 3001) := by
  unfold op2s at h
  split at h
  · exact Or.inl ⟨by assumption, (Option.some.inj h).symm⟩
  · split at h
    · exact Or.inr ⟨by assumption, (Option.some.inj h).symm⟩
    · cases h
theorem q_Sum {al : Nat → Bool} {h kd w : Nat} (hN : TN T n N) (ha : a ∈ laws) (hkd : 7 ≤ kd) (hsub : PQ T n N a t al m_LR_readTerm m_Mo_readTerm kd w false h) : PQ T n N a t al m_LR_readSum m_Mo_readSum (kd + 1) w false (h + 1) := by
  have M3 : ∀ (D : Nat) (v : Value) (M : Mem), kd ≤ D → Wr M → X2 D m_Mo_readSum 5 [.ref 197, .int (iI w), v] [] M = some (.null, M) := fun D v M hD hM => by
    rw [e_Mo_readSum_5, w_is (by omega) hM, bI_some, if_pos (by decide), w_is (by omega) hM, bI_some, if_pos (by decide)]
  refine wrapQ hsub (fun D v i M => X2 D m_LR_readSum 12 [.ref 107, .int (iI w), .int i, v] [] M) (fun D v M => X2 D m_Mo_readSum 5 [.ref 197, .int (iI w), v] [] M) uns (loopQ hN ha hkd hsub op2s ?_ (fun D v i M => X2 D m_LR_readSum 12 [.ref 107, .int (iI w), .int i, v] [] M) (fun c => .int (iI (kcls c))) ?_ ?_ (fun D v M => X2 D m_Mo_readSum 5 [.ref 197, .int (iI w), v] [] M) (fun c => if c = 32 then .int (iI 3000) else .int (iI 3001)) ?_ ?_ M3) M3 (fun D M => ?_) (fun D M => ?_)
  · intro c e q
    rcases op2s_s q with ⟨rfl, rfl⟩ | ⟨rfl, rfl⟩ <;> decide
  · intro D v i j s L M hM hi q
    have k1 : (gI M 102 9 = iI 43) = (KK T n j = 32) := hM.1.kd (by decide) (by decide)
    have k2 : (gI M 102 9 = iI 45) = (KK T n j = 33) := hM.1.kd (by decide) (by decide)
    have g0 : gR M 107 0 = 102 := hM.2.1
    have kk : isK O2 M 102 19 = true := rfl
    show X2 D m_LR_readSum 12 [.ref 107, .int (iI w), .int (iI i), v] [] M = _
    rw [e_LR_readSum_12, g0, kk, gb_T, if_neg (show ¬ gI M 102 9 = iI 43 by rw [k1]; exact (op2s_n q).1), gb_T, if_neg (show ¬ gI M 102 9 = iI 45 by rw [k2]; exact (op2s_n q).2)]
    split <;> rfl
  · intro D v i j s L M e hM hi q
    have k1 : (gI M 102 9 = iI 43) = (KK T n j = 32) := hM.1.kd (by decide) (by decide)
    have k2 : (gI M 102 9 = iI 45) = (KK T n j = 33) := hM.1.kd (by decide) (by decide)
    have g0 : gR M 107 0 = 102 := hM.2.1
    have g9 : gI M 102 9 = iI (kcls (KK T n j)) := hM.1.1.2.2.2.2.1
    have kk : isK O2 M 102 19 = true := rfl
    have li : iI (i : Int) < iI 900 := by rw [iI_lt (by omega) (by omega) (by omega) (by omega)]; omega
    show X2 D m_LR_readSum 12 [.ref 107, .int (iI w), .int (iI i), v] [] M = _
    rcases op2s_s q with ⟨q1, rfl⟩ | ⟨q1, rfl⟩
    · rw [e_LR_readSum_12, g0, kk, gb_T, if_pos (show gI M 102 9 = iI 43 by rw [k1]; exact q1), if_pos li, gb_T, show (true && !false) = true from rfl, gb_T, g9, iI_not, q1, show encC 3000 = -1 - ((kcls 32 : Nat) : Int) by decide, iI_add]
      rfl
    · rw [e_LR_readSum_12, g0, kk, gb_T, if_neg (show ¬ gI M 102 9 = iI 43 by rw [k1]; omega), if_pos li, gb_T, if_pos (show gI M 102 9 = iI 45 by rw [k2]; exact q1), gb_T, show (true && !false) = true from rfl, gb_T, g9, iI_not, q1, show encC 3001 = -1 - ((kcls 33 : Nat) : Int) by decide, iI_add]
      rfl
  · intro D v j s C M hD hM q
    show X2 D m_Mo_readSum 5 [.ref 197, .int (iI w), v] [] M = _
    rw [e_Mo_readSum_5, show iI 32 = iI ((32 : Nat) : Int) from rfl, k_is (by omega) hM.1 (by decide), bI_some, decide_eq_false (op2s_n q).1, if_pos (by decide), show iI 33 = iI ((33 : Nat) : Int) from rfl, k_is (by omega) hM.1 (by decide), bI_some, decide_eq_false (op2s_n q).2, if_pos (by decide)]
  · intro D v j s C M e hD hM hj q
    obtain ⟨M0, e0, o1, o2, o3⟩ := hM.nx (D := D) (by omega) hj
    refine ⟨M0, o1, o2, o3, ?_⟩
    show X2 D m_Mo_readSum 5 [.ref 197, .int (iI w), v] [] M = _
    have k9 : (gI M 197 9 = iI 32) = (KK T n j = 32) := hM.1.kd (c := 32) (by decide)
    rcases op2s_s q with ⟨q1, rfl⟩ | ⟨q1, rfl⟩
    · rw [e_Mo_readSum_5, show iI 32 = iI ((32 : Nat) : Int) from rfl, k_is (by omega) hM.1 (by decide), bI_some, decide_eq_true q1, if_neg (by decide), e_Mo_readSum_23, if_pos (show gI M 197 9 = iI 32 by rw [k9]; exact q1), e0, bV_some, q1]
      rfl
    · rw [e_Mo_readSum_5, show iI 32 = iI ((32 : Nat) : Int) from rfl, k_is (by omega) hM.1 (by decide), bI_some, decide_eq_false (show ¬ KK T n j = 32 by omega), if_pos (by decide), show iI 33 = iI ((33 : Nat) : Int) from rfl, k_is (by omega) hM.1 (by decide), bI_some, decide_eq_true q1, if_neg (by decide), e_Mo_readSum_23, if_neg (show ¬ gI M 197 9 = iI 32 by rw [k9]; omega), e0, bV_some, q1]
      rfl
  · show X2 D m_LR_readSum 0 [.ref 107, .int (iI w), uns, uns] [] M = _
    rw [e_LR_readSum_0]
  · show X2 D m_Mo_readSum 0 [.ref 197, .int (iI w), uns] [] M = _
    rw [e_Mo_readSum_0]
end A3
