/-! A LAW'S TEXT: a unit, whole; all levels. -/
section A8
variable {T : Nat → Nat} {n N a t : Nat}
theorem PQ.mono {al : Nat → Bool} {mc mm : MD} {kd kd' w : Nat} {b : Bool} {h h' : Nat} (q : PQ T n N a t al mc mm kd w b h) (hk : kd ≤ kd') (hh : h ≤ h') : PQ T n N a t al mc mm kd' w b h' := by
  intro j hj
  obtain ⟨r, r4, ro, rc, rm⟩ := q j hj
  exact ⟨r, r4, fun x => ⟨(ro x).1, (ro x).2.1, (ro x).2.2.le hh⟩, fun D hD => rc D (by omega), fun D hD => rm D (by omega)⟩
theorem CAt.ent {D : Nat} (hD : 2 ≤ D) (ha : a ∈ laws) {j s w : Nat} {L : List Nat} {M : Mem} (h : CAt T n N a t j s L M) (hk : KK T n j ≠ 24) (hw : w < 6) : ∃ M', c2 D m_LR_enter [.ref 107, .int (iI w)] M = some (.int (iI 1), M') ∧ Eqx [102, a, a + 1] M M' ∧ CAt T n N a t (j + 1) (s + 1) L M' := by
  obtain ⟨d, rfl⟩ := Nat.exists_eq_add_of_le' hD
  obtain ⟨M', e, hE, hA⟩ := h.adv (D := d + 1) (by omega) ha hk
  have g0 : gR M 107 0 = 102 := h.2.1
  have kk : isK O2 M 102 19 = true := rfl
  refine ⟨M', ?_, hE, hA⟩
  show X2 (d + 1) m_LR_enter 0 [.ref 107, .int (iI w)] [] M = _
  rw [e_LR_enter_0, if_pos (by rw [iI_lt (by omega) (by omega) (by omega) (by omega)]; omega), g0, kk]
  show gb true _ = _
  rw [gb_T, e, bV_some]
theorem MAt.goin {D : Nat} (hD : 7 ≤ D) {j s w : Nat} {C : List Nat} {M : Mem} (h : MAt T n t j s C M) (hj : j + 1 ≤ 900) (hw : w < 6) : ∃ M', c2 D m_Mo_goesIn [.ref 197, .int (iI w)] M = some (.int (iI 1), M') ∧ OM M M' ∧ (∀ k, k < 70 → gI M' 201 k = gI M 201 k) ∧ MAt T n t (j + 1) (s + 1) C M' := by
  obtain ⟨d, rfl⟩ := Nat.exists_eq_add_of_le' hD
  obtain ⟨M1, e1, hO1, hF1, k1⟩ := h.nx (D := d + 6) (by omega) hj
  refine ⟨M1, ?_, hO1, hF1, k1⟩
  show X2 (d + 6) m_Mo_goesIn 0 [.ref 197, .int (iI w)] [] M = _
  rw [e_Mo_goesIn_0, if_neg (by rw [iI_eq (by omega) (by omega) (by omega) (by omega)]; omega), if_pos h.1.w, e1, bV_some, if_pos k1.1.w]
/-- as CR.op, with the way to the operand told -/
theorem CR.opx {P sub Q : Mem → Rs Mem} {D j c : Nat} {r1 r2 : Rd} (hD : 1 ≤ D) (ha : a ∈ laws) (h1 : CR T n N a t sub (j + 1) r1) (h2 : r1.1 = 0 → CR T n N a t Q r1.2.1 r2) (hP : ∀ s M L, CAt T n N a t j s L M → ∃ M0, Eqx [102, a, a + 1] M M0 ∧ CAt T n N a t (j + 1) (s + 1) L M0 ∧ P M = bI (sub M0) fun x M2 => if x = 0 then some (.int (iI 0), M2) else gb (isK O2 M2 (gR M2 107 1) 11 && !false) (bV (c2 D m_Lw_add [.ref (gR M2 107 1), .int (iI (encC c))] M2) Q)) : CR T n N a t P j (opR r1 c r2) := by
  intro s M L h
  obtain ⟨M0, hE0, h0, e0⟩ := hP s M L h
  obtain ⟨M1, e1, hE1, ok1, no1⟩ := h1 (s + 1) M0 L h0
  rw [e0, e1, bI_some]
  unfold opR
  by_cases q : r1.1 = 0
  · have k1 := ok1 q
    have kl := k1.2.2.2.2.2.2
    have hq := k1.1.lt
    obtain ⟨M2, e2, hE2, k2⟩ := (k1.less (Nat.le_succ s)).add hD ha (by omega) c (by omega)
    obtain ⟨M3, e3, hE3, ok3, no3⟩ := h2 q s M2 _ k2
    have g1 : gR M1 107 1 = a := k1.2.2.1
    rw [if_pos q, if_pos q, if_neg (by decide), g1, lw_k _ a ha]
    refine ⟨M3, ?_, (hE0.tr hE1).tr (hE2.tr hE3), fun w => ?_, no3⟩
    · show gb true _ = _
      rw [gb_T, e2, bV_some]; exact e3
    · have := ok3 w
      rw [List.append_assoc, List.append_assoc, List.singleton_append] at this
      exact this
  · rw [if_neg q, if_neg q, if_pos (by decide)]
    exact ⟨M1, by rw [if_neg q], hE0.tr hE1, fun w => absurd w q, no1⟩
theorem q_Unit {al : Nat → Bool} {kd w h : Nat} (hN : TN T n N) (ha : a ∈ laws) (hw : w ≤ 6) (hkd : 8 ≤ kd) (hsum : PQ T n N a t al m_LR_readSum m_Mo_readSum kd w false h) (hun : w < 6 → PQ T n N a t al m_LR_readUnit m_Mo_readUnit kd (w + 1) true (h + 1)) (htr : w < 6 → PQ T n N a t al m_LR_readTruth m_Mo_readTruth kd (w + 1) true (h + 1)) : PQ T n N a t al m_LR_readUnit m_Mo_readUnit (kd + 1) w true (h + 1) := by
  intro j hj
  have hN1 := hN.1
  have eC : ∀ d M, c2 (d + 1) m_LR_readUnit [.ref 107, .int (iI w)] M = X2 d m_LR_readUnit 0 [.ref 107, .int (iI w), uns] [] M := fun _ _ => rfl
  have eM : ∀ d M, c2 (d + 1) m_Mo_readUnit [.ref 197, .int (iI w)] M = X2 d m_Mo_readUnit 0 [.ref 197, .int (iI w), uns] [] M := fun _ _ => rfl
  have k18 : ∀ {s L M}, CAt T n N a t j s L M → (gI M 102 9 = iI 18) = (KK T n j = 18) := fun hM => hM.1.kd (by decide) (by decide)
  have k91 : ∀ {s L M}, CAt T n N a t j s L M → (gI M 102 9 = iI 91) = (KK T n j = 37) := fun hM => hM.1.kd (by decide) (by decide)
  have kk : ∀ M, isK O2 M 102 19 = true := fun _ => rfl
  by_cases c18 : KK T n j = 18
  · have hj1 := hN.2 j hj (by omega)
    have cN : ∀ d s L M, CAt T n N a t j s L M → X2 d m_LR_readUnit 0 [.ref 107, .int (iI w), uns] [] M = bI (c2 d m_LR_enter [.ref 107, .int (iI w)] M) fun r24 M23 => if r24 = 0 then some (.int (iI 0), M23) else bI (c2 d m_LR_readUnit [.ref 107, .int (iI ((w + 1 : Nat) : Int))] M23) fun r26 M25 => if r26 = 0 then some (.int (iI 0), M25) else gb (isK O2 M25 (gR M25 107 1) 11 && !false) (bV (c2 d m_Lw_add [.ref (gR M25 107 1), .int (iI (encC 3006))] M25) fun M27 => some (.int (iI 1), M27)) := fun d s L M hM => by
      have g0 : gR M 107 0 = 102 := hM.2.1
      rw [e_LR_readUnit_0, g0, kk, gb_T, if_pos (show gI M 102 9 = iI 18 by rw [k18 hM]; exact c18), iI_add, show encC 3006 = -19 by decide]
      rfl
    have mN : ∀ d s C M, 2 ≤ d → MAt T n t j s C M → X2 d m_Mo_readUnit 0 [.ref 197, .int (iI w), uns] [] M = bI (c2 d m_Mo_goesIn [.ref 197, .int (iI w)] M) fun r17 M16 => if r17 = 0 then some (.null, M16) else bV (c2 d m_Mo_readUnit [.ref 197, .int (iI ((w + 1 : Nat) : Int))] M16) fun M18 => bV (c2 d m_Mo_codes [.ref 197, .int (iI ((3006 : Nat) : Int))] M18) fun M19 => some (.null, M19) := fun d s C M hd hM => by
      rw [e_Mo_readUnit_0, show iI 18 = iI ((18 : Nat) : Int) from rfl, k_is (by omega) hM.1 (by decide), bI_some, decide_eq_true c18, if_neg (by decide), iI_add]
      rfl
    by_cases w6 : w < 6
    · obtain ⟨r1, r4, ro, rc, rm⟩ := hun w6 (j + 1) hj1
      refine ⟨opR r1 3006 (0, r1.2.1, []), ?_, fun x => ?_, fun D hD => ?_, fun D hD => ?_⟩
      · unfold opR; split
        · exact Nat.zero_le _
        · exact r4
      · by_cases z : r1.1 = 0
        · have eo : opR r1 3006 (0, r1.2.1, []) = (0, r1.2.1, r1.2.2 ++ 3006 :: []) := if_pos z
          obtain ⟨o1, o2, o3⟩ := ro z
          rw [eo]
          exact ⟨by show j < r1.2.1; omega, o2, o3.no⟩
        · have eo : opR r1 3006 (0, r1.2.1, []) = r1 := if_neg z
          rw [eo] at x
          exact absurd x z
      · obtain ⟨d, rfl⟩ : ∃ d, D = d + 1 := ⟨D - 1, by omega⟩
        refine CR.opx (Q := fun M => some (.int (iI 1), M)) (D := d) (by omega) ha (rc d (by omega)) (fun _ => CR.dn) (fun s M L hM => ?_)
        obtain ⟨M0, e0, o1, o2⟩ := hM.ent (D := d) (by omega) ha (by omega) w6
        exact ⟨M0, o1, o2, by rw [eC, cN d s L M hM, e0, bI_some, if_neg (by decide)]⟩
      · obtain ⟨d, rfl⟩ : ∃ d, D = d + 1 := ⟨D - 1, by omega⟩
        refine MR.op (Q := fun M => some (.null, M)) (D := d) (by omega) r4 (rm d (by omega)) (fun _ => MR.dn) (fun _ _ => rfl) (fun s M C hM => ?_)
        obtain ⟨M0, e0, o1, o2, o3⟩ := hM.goin (D := d) (by omega) (by omega) w6
        exact ⟨M0, o1, o2, o3, by rw [eM, mN d s C M (by omega) hM, e0, bI_some, if_neg (by decide)]⟩
    · have en : (enR T n w j).1 ≠ 0 := fun z => w6 (enR0 z).1
      have es : sqR (enR T n w j) (0, 0, []) = enR T n w j := if_neg en
      refine ⟨sqR (enR T n w j) (0, 0, []), sqR4 (enR4 _ _ _ _) (Nat.zero_le _), fun x => by rw [es] at x; exact absurd x en, fun D hD => ?_, fun D hD => ?_⟩
      · obtain ⟨d, rfl⟩ : ∃ d, D = d + 1 := ⟨D - 1, by omega⟩
        exact (CR.sq (CR.ent (D := d) (by omega) ha hw (by omega)) (fun z => absurd z en)).cg (fun s M L hM => by rw [eC, cN d s L M hM])
      · obtain ⟨d, rfl⟩ : ∃ d, D = d + 1 := ⟨D - 1, by omega⟩
        exact MR.ent (D := d) (by omega) hw (by omega) (fun z => absurd z w6) (fun s M C hM => by rw [eM, mN d s C M (by omega) hM])
  · by_cases c37 : KK T n j = 37
    · have hj1 := hN.2 j hj (by omega)
      have cN : ∀ d s L M, CAt T n N a t j s L M → X2 d m_LR_readUnit 0 [.ref 107, .int (iI w), uns] [] M = bI (c2 d m_LR_enter [.ref 107, .int (iI w)] M) fun r18 M17 => if r18 = 0 then some (.int (iI 0), M17) else bI (c2 d m_LR_readTruth [.ref 107, .int (iI ((w + 1 : Nat) : Int))] M17) fun r20 M19 => if r20 = 0 then some (.int (iI 0), M19) else gb (isK O2 M19 (gR M19 107 0) 19 && !false) (bI (c2 d m_Tok_pass [.ref (gR M19 107 0), .int (iI 93)] M19) fun r22 M21 => if r22 = 0 then some (.int (iI 0), M21) else some (.int (iI 1), M21)) := fun d s L M hM => by
        have g0 : gR M 107 0 = 102 := hM.2.1
        rw [e_LR_readUnit_0, g0, kk, gb_T, if_neg (show ¬ gI M 102 9 = iI 18 by rw [k18 hM]; exact c18), gb_T, if_pos (show gI M 102 9 = iI 91 by rw [k91 hM]; exact c37), iI_add]
        rfl
      have mN : ∀ d s C M, 2 ≤ d → MAt T n t j s C M → X2 d m_Mo_readUnit 0 [.ref 197, .int (iI w), uns] [] M = bI (c2 d m_Mo_goesIn [.ref 197, .int (iI w)] M) fun r11 M10 => if r11 = 0 then some (.null, M10) else bV (c2 d m_Mo_readTruth [.ref 197, .int (iI ((w + 1 : Nat) : Int))] M10) fun M12 => bI (c2 d m_Mo_eats [.ref 197, .int (iI ((38 : Nat) : Int))] M12) fun r14 M13 => if r14 = 0 then bV (c2 d m_Mo_fails [.ref 197, .int (iI 2)] M13) fun M15 => some (.null, M15) else some (.null, M13) := fun d s C M hd hM => by
        rw [e_Mo_readUnit_0, show iI 18 = iI ((18 : Nat) : Int) from rfl, k_is (by omega) hM.1 (by decide), bI_some, decide_eq_false c18, if_pos (by decide), show iI 37 = iI ((37 : Nat) : Int) from rfl, k_is (by omega) hM.1 (by decide), bI_some, decide_eq_true c37, if_neg (by decide), iI_add]
        rfl
      by_cases w6 : w < 6
      · obtain ⟨r1, r4, ro, rc, rm⟩ := htr w6 (j + 1) hj1
        have en : enR T n w j = (0, j + 1, []) := if_pos w6
        refine ⟨sqR (enR T n w j) (sqR r1 (clR T n 38 r1.2.1)), sqR4 (enR4 _ _ _ _) (sqR4 r4 (clR4 _ _ _ _)), fun x => ?_, fun D hD => ?_, fun D hD => ?_⟩
        · obtain ⟨x1, x2, x3⟩ := sqR0 x
          obtain ⟨y1, y2, y3⟩ := sqR0 x2
          obtain ⟨z1, z2⟩ := clR0 y2
          obtain ⟨o1, o2, o3⟩ := ro y1
          have o4 := hN.2 r1.2.1 o2 (by omega)
          rw [x3, y3, z2, en]
          exact ⟨by show j < r1.2.1 + 1; omega, o4, by show Eff al true (h + 1) ([] ++ (r1.2.2 ++ [])); rw [List.append_nil]; exact o3⟩
        · obtain ⟨d, rfl⟩ : ∃ d, D = d + 1 := ⟨D - 1, by omega⟩
          refine (CR.sq (CR.ent (D := d) (by omega) ha hw (by omega)) (fun _ => ?_)).cg (fun s M L hM => by rw [eC, cN d s L M hM])
          rw [en]
          refine CR.sq (rc d (by omega)) (fun _ => CR.cls (D := d) (c := 38) (x := 93) (by omega) ha (by decide) (by decide) (by decide) (fun s M L hM => ?_))
          have g0 : gR M 107 0 = 102 := hM.2.1
          rw [g0, kk]
          rfl
        · obtain ⟨d, rfl⟩ : ∃ d, D = d + 1 := ⟨D - 1, by omega⟩
          refine MR.ent (D := d) (by omega) hw (by omega) (fun _ => ?_) (fun s M C hM => by rw [eM, mN d s C M (by omega) hM])
          refine MR.sq r4 (rm d (by omega)) (fun z => MR.cls (D := d) (c := 38) (by omega) (by decide) (fun y => by have := hN.2 r1.2.1 (ro z).2.1 (by omega); omega) (fun s M C _ => rfl)) (fun M hM => ?_)
          rw [w_eat (by omega) hM, bI_some, if_pos (by decide), w_fl (by omega) hM, bV_some]
      · have en : (enR T n w j).1 ≠ 0 := fun z => w6 (enR0 z).1
        have es : sqR (enR T n w j) (0, 0, []) = enR T n w j := if_neg en
        refine ⟨sqR (enR T n w j) (0, 0, []), sqR4 (enR4 _ _ _ _) (Nat.zero_le _), fun x => by rw [es] at x; exact absurd x en, fun D hD => ?_, fun D hD => ?_⟩
        · obtain ⟨d, rfl⟩ : ∃ d, D = d + 1 := ⟨D - 1, by omega⟩
          exact (CR.sq (CR.ent (D := d) (by omega) ha hw (by omega)) (fun z => absurd z en)).cg (fun s M L hM => by rw [eC, cN d s L M hM])
        · obtain ⟨d, rfl⟩ : ∃ d, D = d + 1 := ⟨D - 1, by omega⟩
          exact MR.ent (D := d) (by omega) hw (by omega) (fun z => absurd z w6) (fun s M C hM => by rw [eM, mN d s C M (by omega) hM])
    · have cN : ∀ d s L M, CAt T n N a t j s L M → c2 (d + 1) m_LR_readUnit [.ref 107, .int (iI w)] M = bI (c2 d m_LR_readSum [.ref 107, .int (iI w)] M) fun x M1 => if x = 0 then some (.int (iI 0), M1) else gU d (iI w) M1 := fun d s L M hM => by
        have g0 : gR M 107 0 = 102 := hM.2.1
        rw [eC, e_LR_readUnit_0, g0, kk, gb_T, if_neg (show ¬ gI M 102 9 = iI 18 by rw [k18 hM]; exact c18), gb_T, if_neg (show ¬ gI M 102 9 = iI 91 by rw [k91 hM]; exact c37)]
        rfl
      have mN : ∀ d s C M, 2 ≤ d → MAt T n t j s C M → c2 (d + 1) m_Mo_readUnit [.ref 197, .int (iI w)] M = bV (c2 d m_Mo_readSum [.ref 197, .int (iI w)] M) (gV d (iI w)) := fun d s C M hd hM => by
        rw [eM, e_Mo_readUnit_0, show iI 18 = iI ((18 : Nat) : Int) from rfl, k_is (by omega) hM.1 (by decide), bI_some, decide_eq_false c18, if_pos (by decide), show iI 37 = iI ((37 : Nat) : Int) from rfl, k_is (by omega) hM.1 (by decide), bI_some, decide_eq_false c37, if_pos (by decide)]
        rfl
      obtain ⟨r1, r4, ro, rc, rm⟩ := hsum j hj
      by_cases z : r1.1 = 0
      · obtain ⟨o1, o2, o3⟩ := ro z
        obtain ⟨r2, r24, ro2, rc2, rm2⟩ := q_cmp hN ha hkd hsum o2
        refine ⟨sqR r1 r2, sqR4 r4 r24, fun x => ?_, fun D hD => ?_, fun D hD => ?_⟩
        · obtain ⟨x1, x2, x3⟩ := sqR0 x
          obtain ⟨y1, y2, y3⟩ := ro2 x2
          rw [x3]
          exact ⟨by show j < r2.2.1; omega, y2, y3 _ o3⟩
        · obtain ⟨d, rfl⟩ : ∃ d, D = d + 1 := ⟨D - 1, by omega⟩
          exact (CR.sq (rc d (by omega)) (fun _ => rc2 d (by omega))).cg (fun s M L hM => cN d s L M hM)
        · obtain ⟨d, rfl⟩ : ∃ d, D = d + 1 := ⟨D - 1, by omega⟩
          exact (MR.sq r4 (rm d (by omega)) (fun _ => rm2 d (by omega)) (fun M hM => gV_w (by omega) hM)).cg (fun s M C hM => mN d s C M (by omega) hM)
      · have es : sqR r1 (0, 0, []) = r1 := if_neg z
        refine ⟨sqR r1 (0, 0, []), sqR4 r4 (Nat.zero_le _), fun x => by rw [es] at x; exact absurd x z, fun D hD => ?_, fun D hD => ?_⟩
        · obtain ⟨d, rfl⟩ : ∃ d, D = d + 1 := ⟨D - 1, by omega⟩
          exact (CR.sq (rc d (by omega)) (fun y => absurd y z)).cg (fun s M L hM => cN d s L M hM)
        · obtain ⟨d, rfl⟩ : ∃ d, D = d + 1 := ⟨D - 1, by omega⟩
          exact (MR.sq r4 (rm d (by omega)) (fun y => absurd y z) (fun M hM => gV_w (by omega) hM)).cg (fun s M C hM => mN d s C M (by omega) hM)
/-- sums, at every level: m levels are left -/
theorem q_sums {al : Nat → Bool} (hN : TN T n N) (ha : a ∈ laws) (ht : t ≤ 1) (hal : ∀ k, alw t k = true → al k = true) : ∀ m w, m + w = 6 → PQ T n N a t al m_LR_readSum m_Mo_readSum (11 + 3 * m) w false (3 + 2 * m) := by
  intro m
  induction m with
  | zero =>
    intro w hw
    exact q_Sum hN ha (by decide) (q_Term hN ha (by decide) (q_Atom (kd := 8) (h := 1) hN ha ht hal (by omega) (by decide) (by decide) (fun z => by omega)))
  | succ m ih =>
    intro w hw
    have q := ih (w + 1) (by omega)
    exact (q_Sum hN ha (by omega) (q_Term hN ha (by omega) (q_Atom hN ha ht hal (by omega) (by omega) (by omega) (fun _ => q)))).mono (by omega) (by omega)
theorem q_units {al : Nat → Bool} (hN : TN T n N) (ha : a ∈ laws) (ht : t ≤ 1) (hal : ∀ k, alw t k = true → al k = true) : ∀ m w, m + w = 6 → PQ T n N a t al m_LR_readUnit m_Mo_readUnit (12 + 3 * m) w true (4 + 2 * m) ∧ PQ T n N a t al m_LR_readTruth m_Mo_readTruth (14 + 3 * m) w true (6 + 2 * m) := by
  intro m
  induction m with
  | zero =>
    intro w hw
    have s := q_sums (T := T) (n := n) (N := N) hN ha ht hal 0 w hw
    have u := q_Unit (w := w) hN ha (by omega) (by decide) s (fun z => by omega) (fun z => by omega)
    exact ⟨u, q_Truth hN ha (by decide) (q_Both hN ha (by decide) u)⟩
  | succ m ih =>
    intro w hw
    obtain ⟨u1, t1⟩ := ih (w + 1) (by omega)
    have s := q_sums (T := T) (n := n) (N := N) hN ha ht hal (m + 1) w hw
    have u := q_Unit (w := w) hN ha (by omega) (by omega) s (fun _ => u1.mono (by omega) (by omega)) (fun _ => t1.mono (by omega) (by omega))
    exact ⟨u.mono (by omega) (by omega), (q_Truth hN ha (by omega) (q_Both hN ha (by omega) u)).mono (by omega) (by omega)⟩
theorem q_law {al : Nat → Bool} (hN : TN T n N) (ha : a ∈ laws) (ht : t ≤ 1) (hal : ∀ k, alw t k = true → al k = true) : PQ T n N a t al m_LR_readTruth m_Mo_readTruth 32 0 true 18 := (q_units hN ha ht hal 6 0 rfl).2
end A8
