/-! A LAW'S TEXT: an atom, whole. -/
section A6
variable {T : Nat → Nat} {n N a t : Nat}
theorem alw_lt {t k : Nat} (h : alw t k = true) : k < 10 := by
  unfold alw at h
  simp only [Bool.or_eq_true, Bool.and_eq_true, decide_eq_true_eq] at h
  omega
theorem kcls_35 : kcls 35 = 40 := by decide
theorem q_Atom {al : Nat → Bool} {kd w h : Nat} (hN : TN T n N) (ha : a ∈ laws) (ht : t ≤ 1) (hal : ∀ k, alw t k = true → al k = true) (hw : w ≤ 6) (hkd : 8 ≤ kd) (h1 : 1 ≤ h) (hsum : w < 6 → PQ T n N a t al m_LR_readSum m_Mo_readSum kd (w + 1) false h) : PQ T n N a t al m_LR_readAtom m_Mo_readAtom (kd + 1) w false h := by
  intro j hj
  have hN1 := hN.1
  have okk := KK_ok T n j
  have eC : ∀ d M, c2 (d + 1) m_LR_readAtom [.ref 107, .int (iI w)] M = X2 d m_LR_readAtom 0 [.ref 107, .int (iI w), uns] [] M := fun _ _ => rfl
  have eM : ∀ d M, c2 (d + 1) m_Mo_readAtom [.ref 197, .int (iI w)] M = X2 d m_Mo_readAtom 0 [.ref 197, .int (iI w)] [] M := fun _ _ => rfl
  have k40 : ∀ {s L M}, CAt T n N a t j s L M → (gI M 102 9 = iI 40) = (KK T n j = 35) := fun hM => hM.1.kd (by decide) (by decide)
  have k20 : ∀ {s L M}, CAt T n N a t j s L M → (gI M 102 9 = iI 20) = (KK T n j = 23) := fun hM => hM.1.kd (by decide) (by decide)
  have kk : ∀ M, isK O2 M 102 19 = true := fun _ => rfl
  by_cases c35 : KK T n j = 35
  · have hj1 := hN.2 j hj (by omega)
    -- the reference comes to its last case
    have m66 : ∀ d s C M, 2 ≤ d → MAt T n t j s C M → X2 d m_Mo_readAtom 0 [.ref 197, .int (iI w)] [] M = bI (c2 d m_Mo_goesIn [.ref 197, .int (iI w)] M) fun r5 M4 => if r5 = 0 then some (.null, M4) else bV (c2 d m_Mo_readSum [.ref 197, .int (iI ((w + 1 : Nat) : Int))] M4) fun M6 => bI (c2 d m_Mo_eats [.ref 197, .int (iI ((36 : Nat) : Int))] M6) fun r8 M7 => if r8 = 0 then bV (c2 d m_Mo_fails [.ref 197, .int (iI 2)] M7) fun M9 => some (.null, M9) else some (.null, M7) := fun d s C M hd hM => by
      have g9 : gI M 197 9 = iI (KK T n j) := hM.1.1.2.2.2.1
      rw [e_Mo_readAtom_0, show iI 23 = iI ((23 : Nat) : Int) from rfl, k_is (by omega) hM.1 (by decide), bI_some, decide_eq_false (show ¬ KK T n j = 23 by omega), if_pos (by decide), if_pos hM.1.w, g9, c_Mo_wordOf hd ht hM.2.1 okk, bI_some, c35, kcls_35, if_neg (show ¬ alw t 40 = true by intro z; have := alw_lt z; omega), if_pos rfl, e_Mo_readAtom_66, show iI 35 = iI ((35 : Nat) : Int) from rfl, k_is (by omega) hM.1 (by decide), bI_some, decide_eq_true c35, if_neg (by decide), iI_add]
      rfl
    have c66 : ∀ d s L M, CAt T n N a t j s L M → X2 d m_LR_readAtom 0 [.ref 107, .int (iI w), uns] [] M = bI (c2 d m_LR_enter [.ref 107, .int (iI w)] M) fun r10 M9 => if r10 = 0 then some (.int (iI 0), M9) else bI (c2 d m_LR_readSum [.ref 107, .int (iI ((w + 1 : Nat) : Int))] M9) fun r12 M11 => if r12 = 0 then some (.int (iI 0), M11) else gb (isK O2 M11 (gR M11 107 0) 19 && !false) (bI (c2 d m_Tok_pass [.ref (gR M11 107 0), .int (iI 41)] M11) fun r14 M13 => if r14 = 0 then some (.int (iI 0), M13) else some (.int (iI 1), M13)) := fun d s L M hM => by
      have g0 : gR M 107 0 = 102 := hM.2.1
      rw [e_LR_readAtom_0, g0, kk, gb_T, if_pos (by rw [k40 hM]; exact c35), iI_add]
      rfl
    by_cases w6 : w < 6
    · obtain ⟨r1, r4, ro, rc, rm⟩ := hsum w6 (j + 1) hj1
      have en : enR T n w j = (0, j + 1, []) := if_pos w6
      refine ⟨sqR (enR T n w j) (sqR r1 (clR T n 36 r1.2.1)), sqR4 (enR4 _ _ _ _) (sqR4 r4 (clR4 _ _ _ _)), fun x => ?_, fun D hD => ?_, fun D hD => ?_⟩
      · obtain ⟨x1, x2, x3⟩ := sqR0 x
        obtain ⟨y1, y2, y3⟩ := sqR0 x2
        obtain ⟨z1, z2⟩ := clR0 y2
        obtain ⟨o1, o2, o3⟩ := ro y1
        have o4 := hN.2 r1.2.1 o2 (by omega)
        rw [x3, y3, z2, en]
        exact ⟨by show j < r1.2.1 + 1; omega, o4, by show Eff al false h ([] ++ (r1.2.2 ++ [])); rw [List.append_nil]; exact o3⟩
      · obtain ⟨d, rfl⟩ : ∃ d, D = d + 1 := ⟨D - 1, by omega⟩
        refine (CR.sq (CR.ent (D := d) (by omega) ha hw (by omega)) (fun _ => ?_)).cg (fun s M L hM => by rw [eC, c66 d s L M hM])
        rw [en]
        refine CR.sq (rc d (by omega)) (fun _ => CR.cls (D := d) (c := 36) (x := 41) (by omega) ha (by decide) (by decide) (by decide) (fun s M L hM => ?_))
        have g0 : gR M 107 0 = 102 := hM.2.1
        rw [g0, kk]
        rfl
      · obtain ⟨d, rfl⟩ : ∃ d, D = d + 1 := ⟨D - 1, by omega⟩
        refine MR.ent (D := d) (by omega) hw (by omega) (fun _ => ?_) (fun s M C hM => by rw [eM, m66 d s C M (by omega) hM])
        refine MR.sq r4 (rm d (by omega)) (fun z => MR.cls (D := d) (c := 36) (by omega) (by decide) (fun y => by have := hN.2 r1.2.1 (ro z).2.1 (by omega); omega) (fun s M C _ => rfl)) (fun M hM => ?_)
        rw [w_eat (by omega) hM, bI_some, if_pos (by decide), w_fl (by omega) hM, bV_some]
    · have en : (enR T n w j).1 ≠ 0 := fun z => w6 (enR0 z).1
      have es : sqR (enR T n w j) (0, 0, []) = enR T n w j := if_neg en
      refine ⟨sqR (enR T n w j) (0, 0, []), sqR4 (enR4 _ _ _ _) (Nat.zero_le _), fun x => by rw [es] at x; exact absurd x en, fun D hD => ?_, fun D hD => ?_⟩
      · obtain ⟨d, rfl⟩ : ∃ d, D = d + 1 := ⟨D - 1, by omega⟩
        exact (CR.sq (CR.ent (D := d) (by omega) ha hw (by omega)) (fun z => absurd z en)).cg (fun s M L hM => by rw [eC, c66 d s L M hM])
      · obtain ⟨d, rfl⟩ : ∃ d, D = d + 1 := ⟨D - 1, by omega⟩
        exact MR.ent (D := d) (by omega) hw (by omega) (fun z => absurd z w6) (fun s M C hM => by rw [eM, m66 d s C M (by omega) hM])
  · by_cases c23 : KK T n j = 23
    · have hj1 := hN.2 j hj (by omega)
      have v := VV_lt c23
      refine ⟨(0, j + 1, [VV T n j]), Nat.zero_le 4, fun _ => ⟨Nat.lt_succ_self j, hj1, (Eff.val (Or.inl v) (by omega)).le h1⟩, fun D hD => ?_, fun D hD => ?_⟩
      · obtain ⟨d, rfl⟩ : ∃ d, D = d + 1 := ⟨D - 1, by omega⟩
        refine CR.val (D := d) (by omega) ha (by omega) (fun s M L hM => ?_)
        have g0 : gR M 107 0 = 102 := hM.2.1
        have g1 : gR M 107 1 = a := hM.2.2.1
        have g10 : gI M 102 10 = iI (VV T n j) := hM.1.1.2.2.2.2.2.1 c23
        rw [eC, e_LR_readAtom_0, g0, kk, gb_T, if_neg (by rw [k40 hM]; exact c35), if_pos (by rw [k20 hM]; exact c23), gb_T, g1, lw_k _ a ha, g10, show encC (VV T n j) = (VV T n j : Int) from if_pos v]
        rfl
      · obtain ⟨d, rfl⟩ : ∃ d, D = d + 1 := ⟨D - 1, by omega⟩
        refine MR.val (D := d) (by omega) (by omega) (fun s M C hM => ?_)
        have g10 : gI M 197 10 = iI (VV T n j) := hM.1.1.2.2.2.2 c23
        rw [eM, e_Mo_readAtom_0, show iI 23 = iI ((23 : Nat) : Int) from rfl, k_is (by omega) hM.1 (by decide), bI_some, decide_eq_true c23, if_neg (by decide), g10]
    · by_cases va : alw t (kcls (KK T n j)) = true
      · have k9 := alw_lt va
        have n24 : KK T n j ≠ 24 := fun z => by rw [z] at k9; exact absurd k9 (by decide)
        have hj1 := hN.2 j hj n24
        have en : encC (1000 + kcls (KK T n j)) = -1 - (kcls (KK T n j) : Int) := by
          unfold encC
          rw [if_neg (by omega), if_pos (by omega)]
          omega
        refine ⟨(0, j + 1, [1000 + kcls (KK T n j)]), Nat.zero_le 4, fun _ => ⟨Nat.lt_succ_self j, hj1, (Eff.val (Or.inr (Or.inl ⟨by omega, by omega, by rw [Nat.add_sub_cancel_left]; exact hal _ va⟩)) (by omega)).le h1⟩, fun D hD => ?_, fun D hD => ?_⟩
        · obtain ⟨d, rfl⟩ : ∃ d, D = d + 1 := ⟨D - 1, by omega⟩
          refine CR.val (D := d) (by omega) ha n24 (fun s M L hM => ?_)
          have g0 : gR M 107 0 = 102 := hM.2.1
          have g1 : gR M 107 1 = a := hM.2.2.1
          have g9 : gI M 102 9 = iI (kcls (KK T n j)) := hM.1.1.2.2.2.2.1
          rw [eC, e_LR_readAtom_0, g0, kk, gb_T, if_neg (by rw [k40 hM]; exact c35), if_neg (by rw [k20 hM]; exact c23), g9, c_LR_isValue (by omega) ht hM.2.2.2.1 okk, bI_some, va, if_neg (by decide), g1, lw_k _ a ha, iI_not, en]
          rfl
        · obtain ⟨d, rfl⟩ : ∃ d, D = d + 1 := ⟨D - 1, by omega⟩
          refine MR.val (D := d) (by omega) (by omega) (fun s M C hM => ?_)
          have g9 : gI M 197 9 = iI (KK T n j) := hM.1.1.2.2.2.1
          rw [eM, e_Mo_readAtom_0, show iI 23 = iI ((23 : Nat) : Int) from rfl, k_is (by omega) hM.1 (by decide), bI_some, decide_eq_false c23, if_pos (by decide), if_pos hM.1.w, g9, c_Mo_wordOf (by omega) ht hM.2.1 okk, bI_some, if_pos va, if_neg (by rw [iI_eq (by omega) (by omega) (by omega) (by omega)]; omega), g9, c_Mo_wordOf (by omega) ht hM.2.1 okk, bI_some, if_pos va, iI_add]
          rfl
      · have z := ff_rng T n j (why := 2) (by decide) (by decide)
        refine ⟨(ff T n j 2, SS T n j, []), z.2, fun x => absurd x z.1, fun D hD => ?_, fun D hD => ?_⟩
        · obtain ⟨d, rfl⟩ : ∃ d, D = d + 1 := ⟨D - 1, by omega⟩
          refine CR.no (D := d) (by omega) (by decide) (by decide) (fun s M L hM => ?_) []
          have g0 : gR M 107 0 = 102 := hM.2.1
          have g9 : gI M 102 9 = iI (kcls (KK T n j)) := hM.1.1.2.2.2.2.1
          rw [eC, e_LR_readAtom_0, g0, kk, gb_T, if_neg (by rw [k40 hM]; exact c35), if_neg (by rw [k20 hM]; exact c23), g9, c_LR_isValue (by omega) ht hM.2.2.2.1 okk, bI_some, Bool.eq_false_iff.mpr va, if_pos (by decide), g0, kk]
          rfl
        · obtain ⟨d, rfl⟩ : ∃ d, D = d + 1 := ⟨D - 1, by omega⟩
          refine MR.no (D := d) (by omega) (by decide) (by decide) (fun s M C hM => ?_) []
          have g9 : gI M 197 9 = iI (KK T n j) := hM.1.1.2.2.2.1
          rw [eM, e_Mo_readAtom_0, show iI 23 = iI ((23 : Nat) : Int) from rfl, k_is (by omega) hM.1 (by decide), bI_some, decide_eq_false c23, if_pos (by decide), if_pos hM.1.w, g9, c_Mo_wordOf (by omega) ht hM.2.1 okk, bI_some, if_neg va, if_pos rfl, e_Mo_readAtom_66, show iI 35 = iI ((35 : Nat) : Int) from rfl, k_is (by omega) hM.1 (by decide), bI_some, decide_eq_false c35, if_pos (by decide)]
          rfl
end A6
