/-! A LAW'S TEXT: a unit. -/
section A7
variable {T : Nat → Nat} {n N a t : Nat}
theorem w_Atom {D : Nat} (hD : 2 ≤ D) {M : Mem} (h : Wr M) (x : Int32) : c2 D m_Mo_readAtom [.ref 197, .int x] M = some (.null, M) := by
  obtain ⟨d, rfl⟩ := Nat.exists_eq_add_of_le' hD
  show X2 (d + 1) m_Mo_readAtom 0 [.ref 197, .int x] [] M = _
  rw [e_Mo_readAtom_0, w_is (by omega) h, bI_some, if_pos (by decide), if_neg h, e_Mo_readAtom_66, w_is (by omega) h, bI_some, if_pos (by decide), w_fl (by omega) h, bV_some]
theorem w_Term {D : Nat} (hD : 3 ≤ D) {M : Mem} (h : Wr M) (x : Int32) : c2 D m_Mo_readTerm [.ref 197, .int x] M = some (.null, M) := by
  obtain ⟨d, rfl⟩ := Nat.exists_eq_add_of_le' hD
  show X2 (d + 2) m_Mo_readTerm 0 [.ref 197, .int x] [] M = _
  rw [e_Mo_readTerm_0, w_Atom (by omega) h, bV_some, e_Mo_readTerm_5, w_eat (by omega) h, bI_some, if_pos (by decide)]
theorem w_Sum {D : Nat} (hD : 4 ≤ D) {M : Mem} (h : Wr M) (x : Int32) : c2 D m_Mo_readSum [.ref 197, .int x] M = some (.null, M) := by
  obtain ⟨d, rfl⟩ := Nat.exists_eq_add_of_le' hD
  show X2 (d + 3) m_Mo_readSum 0 [.ref 197, .int x, uns] [] M = _
  rw [e_Mo_readSum_0, w_Term (by omega) h, bV_some, e_Mo_readSum_5, w_is (by omega) h, bI_some, if_pos (by decide), w_is (by omega) h, bI_some, if_pos (by decide)]
noncomputable def gU (d : Nat) (x1 : Int32) (M1 : Mem) : Rs Mem := gb (isK O2 M1 (gR M1 107 0) 19) (if gI M1 (gR M1 107 0) 9 = iI 61 then gb (isK O2 M1 (gR M1 107 0) 19 && !false) (bV (c2 d m_Tok_advance [.ref (gR M1 107 0)] M1) fun M3 => bI (c2 d m_LR_readSum [.ref 107, .int x1] M3) fun r5 M4 => if r5 = 0 then some (.int (iI 0), M4) else gb (isK O2 M4 (gR M4 107 1) 11 && !false) (bV (c2 d m_Lw_add [.ref (gR M4 107 1), .int ((gI M1 (gR M1 107 0) 9) ^^^ (iI (-1)))] M4) fun M6 => some (.int (iI 1), M6))) else if gI M1 (gR M1 107 0) 9 = iI 60 then gb (isK O2 M1 (gR M1 107 0) 19 && !false) (bV (c2 d m_Tok_advance [.ref (gR M1 107 0)] M1) fun M7 => bI (c2 d m_LR_readSum [.ref 107, .int x1] M7) fun r9 M8 => if r9 = 0 then some (.int (iI 0), M8) else gb (isK O2 M8 (gR M8 107 1) 11 && !false) (bV (c2 d m_Lw_add [.ref (gR M8 107 1), .int ((gI M1 (gR M1 107 0) 9) ^^^ (iI (-1)))] M8) fun M10 => some (.int (iI 1), M10))) else if gI M1 (gR M1 107 0) 9 = iI 62 then gb (isK O2 M1 (gR M1 107 0) 19 && !false) (bV (c2 d m_Tok_advance [.ref (gR M1 107 0)] M1) fun M11 => bI (c2 d m_LR_readSum [.ref 107, .int x1] M11) fun r13 M12 => if r13 = 0 then some (.int (iI 0), M12) else gb (isK O2 M12 (gR M12 107 1) 11 && !false) (bV (c2 d m_Lw_add [.ref (gR M12 107 1), .int ((gI M1 (gR M1 107 0) 9) ^^^ (iI (-1)))] M12) fun M14 => some (.int (iI 1), M14))) else gb (isK O2 M1 (gR M1 107 0) 19 && !false) (bI (c2 d m_Tok_refuse [.ref (gR M1 107 0), .int (iI 2)] M1) fun r16 M15 => gb (decide (r16 &&& 1 = r16)) (some (.int r16, M15))))
noncomputable def gV (d : Nat) (x1 : Int32) (M5 : Mem) : Rs Mem := bI (c2 d m_Mo_is [.ref 197, .int (iI 39)] M5) fun r7 M6 => if r7 = 0 then bI (c2 d m_Mo_is [.ref 197, .int (iI 40)] M6) fun r9 M8 => if r9 = 0 then X2 d m_Mo_readUnit 111 [.ref 197, .int x1, uns] [.int (iI 3005)] M8 else X2 d m_Mo_readUnit 111 [.ref 197, .int x1, uns] [.int (iI 3004)] M8 else X2 d m_Mo_readUnit 111 [.ref 197, .int x1, uns] [.int (iI 3003)] M6
def cmpc (c : Nat) : Option Nat := if c = 39 then some 3003 else if c = 40 then some 3004 else if c = 41 then some 3005 else none
theorem cmpc_s {c e : Nat} (h : cmpc c = some e) : (c = 39 ∧ e = 3003) ∨ (c = 40 ∧ e = 3004) ∨ (c = 41 ∧ e = 3005) := by
  unfold cmpc at h
  repeat' split at h
  · exact Or.inl ⟨by assumption, (Option.some.inj h).symm⟩
  · exact Or.inr (Or.inl ⟨by assumption, (Option.some.inj h).symm⟩)
  · exact Or.inr (Or.inr ⟨by assumption, (Option.some.inj h).symm⟩)
  · cases h
theorem cmpc_n {c : Nat} (h : cmpc c = none) : c ≠ 39 ∧ c ≠ 40 ∧ c ≠ 41 := by
  unfold cmpc at h
  repeat' split at h
  · cases h
  · cases h
  · cases h
  · exact ⟨by assumption, by assumption, by assumption⟩
theorem gV_w {d : Nat} (hd : 4 ≤ d) {x1 : Int32} {M : Mem} (h : Wr M) : gV d x1 M = some (.null, M) := by
  unfold gV
  rw [w_is (by omega) h, bI_some, if_pos (by decide), w_is (by omega) h, bI_some, if_pos (by decide), e_Mo_readUnit_111, w_is (by omega) h, bI_some, if_pos (by decide), w_is (by omega) h, bI_some, if_pos (by decide), w_is (by omega) h, bI_some, if_pos (by decide), w_fl (by omega) h, bV_some, w_Sum (by omega) h, bV_some, w_cod (by omega) h, bV_some]
/-- the sign between two sums, and the second sum -/
theorem q_cmp {al : Nat → Bool} {kd w h : Nat} (hN : TN T n N) (ha : a ∈ laws) (hkd : 8 ≤ kd) (hsum : PQ T n N a t al m_LR_readSum m_Mo_readSum kd w false h) {j : Nat} (hj : j < N) : ∃ r : Rd, r.1 ≤ 4 ∧ (r.1 = 0 → j < r.2.1 ∧ r.2.1 < N ∧ ∀ L1, Eff al false h L1 → Eff al true (h + 1) (L1 ++ r.2.2)) ∧ (∀ D, kd ≤ D → CR T n N a t (gU D (iI w)) j r) ∧ (∀ D, kd ≤ D → MR T n t (gV D (iI w)) j r) := by
  have hN1 := hN.1
  have k61 : ∀ {s L M}, CAt T n N a t j s L M → (gI M 102 9 = iI 61) = (KK T n j = 39) := fun hM => hM.1.kd (by decide) (by decide)
  have k60 : ∀ {s L M}, CAt T n N a t j s L M → (gI M 102 9 = iI 60) = (KK T n j = 40) := fun hM => hM.1.kd (by decide) (by decide)
  have k62 : ∀ {s L M}, CAt T n N a t j s L M → (gI M 102 9 = iI 62) = (KK T n j = 41) := fun hM => hM.1.kd (by decide) (by decide)
  have kk : ∀ M, isK O2 M 102 19 = true := fun _ => rfl
  cases q : cmpc (KK T n j) with
  | none =>
    obtain ⟨q1, q2, q3⟩ := cmpc_n q
    have z := ff_rng T n j (why := 2) (by decide) (by decide)
    refine ⟨(ff T n j 2, SS T n j, []), z.2, fun x => absurd x z.1, fun D hD => ?_, fun D hD => ?_⟩
    · refine CR.no (D := D) (by omega) (by decide) (by decide) (fun s M L hM => ?_) []
      have g0 : gR M 107 0 = 102 := hM.2.1
      unfold gU
      rw [g0, kk, gb_T, if_neg (by rw [k61 hM]; exact q1), if_neg (by rw [k60 hM]; exact q2), if_neg (by rw [k62 hM]; exact q3)]
      rfl
    · refine MR.no (D := D) (by omega) (by decide) (by decide) (fun s M C hM => ?_) []
      obtain ⟨M1, e1, hO1, hF1, k1⟩ := hM.fl (D := D) (by omega) 2
      have w1 := k1.wr z.1 z.2
      unfold gV
      rw [show iI 39 = iI ((39 : Nat) : Int) from rfl, k_is (by omega) hM.1 (by decide), bI_some, decide_eq_false q1, if_pos (by decide), show iI 40 = iI ((40 : Nat) : Int) from rfl, k_is (by omega) hM.1 (by decide), bI_some, decide_eq_false q2, if_pos (by decide), e_Mo_readUnit_111, show iI 39 = iI ((39 : Nat) : Int) from rfl, k_is (by omega) hM.1 (by decide), bI_some, decide_eq_false q1, if_pos (by decide), show iI 40 = iI ((40 : Nat) : Int) from rfl, k_is (by omega) hM.1 (by decide), bI_some, decide_eq_false q2, if_pos (by decide), show iI 41 = iI ((41 : Nat) : Int) from rfl, k_is (by omega) hM.1 (by decide), bI_some, decide_eq_false q3, if_pos (by decide), show iI 2 = iI ((2 : Nat) : Int) from rfl, e1, bV_some, bV_some, w_Sum (by omega) w1, bV_some, w_cod (by omega) w1, bV_some]
  | some e =>
    have p0 := cmpc_s q
    have hj1 := hN.2 j hj (by omega)
    obtain ⟨r1, r4, ro, rc, rm⟩ := hsum (j + 1) hj1
    refine ⟨opR r1 e (0, r1.2.1, []), ?_, fun x => ?_, fun D hD => ?_, fun D hD => ?_⟩
    · unfold opR; split
      · exact Nat.zero_le _
      · exact r4
    · by_cases z : r1.1 = 0
      · have eo : opR r1 e (0, r1.2.1, []) = (0, r1.2.1, r1.2.2 ++ e :: []) := if_pos z
        obtain ⟨o1, o2, o3⟩ := ro z
        rw [eo]
        exact ⟨by show j < r1.2.1; omega, o2, fun L1 h1 => h1.cmp o3 (by omega)⟩
      · have eo : opR r1 e (0, r1.2.1, []) = r1 := if_neg z
        rw [eo] at x
        exact absurd x z
    · refine CR.op (Q := fun M => some (.int (iI 1), M)) (D := D) (by omega) ha (by omega) (rc D hD) (fun _ => CR.dn) (fun s M L hM => ?_)
      have g0 : gR M 107 0 = 102 := hM.2.1
      have g9 : gI M 102 9 = iI (kcls (KK T n j)) := hM.1.1.2.2.2.2.1
      unfold gU
      rcases p0 with ⟨q1, rfl⟩ | ⟨q1, rfl⟩ | ⟨q1, rfl⟩
      · rw [g0, kk, gb_T, if_pos (show gI M 102 9 = iI 61 by rw [k61 hM]; exact q1), show (true && !false) = true from rfl, gb_T, g9, iI_not, q1, show encC 3003 = -1 - ((kcls 39 : Nat) : Int) by decide]
      · rw [g0, kk, gb_T, if_neg (show ¬ gI M 102 9 = iI 61 by rw [k61 hM]; omega), if_pos (show gI M 102 9 = iI 60 by rw [k60 hM]; exact q1), show (true && !false) = true from rfl, gb_T, g9, iI_not, q1, show encC 3004 = -1 - ((kcls 40 : Nat) : Int) by decide]
      · rw [g0, kk, gb_T, if_neg (show ¬ gI M 102 9 = iI 61 by rw [k61 hM]; omega), if_neg (show ¬ gI M 102 9 = iI 60 by rw [k60 hM]; omega), if_pos (show gI M 102 9 = iI 62 by rw [k62 hM]; exact q1), show (true && !false) = true from rfl, gb_T, g9, iI_not, q1, show encC 3005 = -1 - ((kcls 41 : Nat) : Int) by decide]
    · refine MR.op (Q := fun M => some (.null, M)) (D := D) (by omega) r4 (rm D hD) (fun _ => MR.dn) (fun _ _ => rfl) (fun s M C hM => ?_)
      obtain ⟨M0, e0, o1, o2, o3⟩ := hM.nx (D := D) (by omega) (by omega)
      refine ⟨M0, o1, o2, o3, ?_⟩
      unfold gV
      rcases p0 with ⟨q1, rfl⟩ | ⟨q1, rfl⟩ | ⟨q1, rfl⟩
      · rw [show iI 39 = iI ((39 : Nat) : Int) from rfl, k_is (by omega) hM.1 (by decide), bI_some, decide_eq_true q1, if_neg (by decide), e_Mo_readUnit_111, show iI 39 = iI ((39 : Nat) : Int) from rfl, k_is (by omega) hM.1 (by decide), bI_some, decide_eq_true q1, if_neg (by decide), e0, bV_some]
        rfl
      · rw [show iI 39 = iI ((39 : Nat) : Int) from rfl, k_is (by omega) hM.1 (by decide), bI_some, decide_eq_false (show ¬ KK T n j = 39 by omega), if_pos (by decide), show iI 40 = iI ((40 : Nat) : Int) from rfl, k_is (by omega) hM.1 (by decide), bI_some, decide_eq_true q1, if_neg (by decide), e_Mo_readUnit_111, show iI 39 = iI ((39 : Nat) : Int) from rfl, k_is (by omega) hM.1 (by decide), bI_some, decide_eq_false (show ¬ KK T n j = 39 by omega), if_pos (by decide), show iI 40 = iI ((40 : Nat) : Int) from rfl, k_is (by omega) hM.1 (by decide), bI_some, decide_eq_true q1, if_neg (by decide), e0, bV_some]
        rfl
      · rw [show iI 39 = iI ((39 : Nat) : Int) from rfl, k_is (by omega) hM.1 (by decide), bI_some, decide_eq_false (show ¬ KK T n j = 39 by omega), if_pos (by decide), show iI 40 = iI ((40 : Nat) : Int) from rfl, k_is (by omega) hM.1 (by decide), bI_some, decide_eq_false (show ¬ KK T n j = 40 by omega), if_pos (by decide), e_Mo_readUnit_111, show iI 39 = iI ((39 : Nat) : Int) from rfl, k_is (by omega) hM.1 (by decide), bI_some, decide_eq_false (show ¬ KK T n j = 39 by omega), if_pos (by decide), show iI 40 = iI ((40 : Nat) : Int) from rfl, k_is (by omega) hM.1 (by decide), bI_some, decide_eq_false (show ¬ KK T n j = 40 by omega), if_pos (by decide), show iI 41 = iI ((41 : Nat) : Int) from rfl, k_is (by omega) hM.1 (by decide), bI_some, decide_eq_true q1, if_neg (by decide), e0, bV_some]
        rfl
end A7
