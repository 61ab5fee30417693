/-! THE ROOM'S TEXT: a line's beginning. -/
section B0
variable {T : Nat → Nat} {n N r : Nat}
noncomputable def swB (d : Nat) (x1 : Int32) (M3 : Mem) : Rs Mem := if x1 = iI 1 then bI (c2 d m_RR_readTenant [.ref 106] M3) fun r5 M4 => gb (decide (r5 &&& 1 = r5)) (some (.int r5, M4)) else if x1 = iI 2 then bI (c2 d m_RR_readOne [.ref 106, .int x1] M3) fun r7 M6 => gb (decide (r7 &&& 1 = r7)) (some (.int r7, M6)) else if x1 = iI 3 then bI (c2 d m_RR_readOne [.ref 106, .int x1] M3) fun r9 M8 => gb (decide (r9 &&& 1 = r9)) (some (.int r9, M8)) else if x1 = iI 4 then bI (c2 d m_RR_readOne [.ref 106, .int x1] M3) fun r11 M10 => gb (decide (r11 &&& 1 = r11)) (some (.int r11, M10)) else if x1 = iI 5 then bI (c2 d m_RR_readOne [.ref 106, .int x1] M3) fun r13 M12 => gb (decide (r13 &&& 1 = r13)) (some (.int r13, M12)) else if x1 = iI 6 then bI (c2 d m_RR_readOne [.ref 106, .int x1] M3) fun r15 M14 => gb (decide (r15 &&& 1 = r15)) (some (.int r15, M14)) else if x1 = iI 7 then bI (c2 d m_RR_readOne [.ref 106, .int x1] M3) fun r17 M16 => gb (decide (r17 &&& 1 = r17)) (some (.int r17, M16)) else if x1 = iI 8 then bI (c2 d m_RR_readFace [.ref 106] M3) fun r19 M18 => gb (decide (r19 &&& 1 = r19)) (some (.int r19, M18)) else if x1 = iI 9 then bI (c2 d m_RR_readOne [.ref 106, .int x1] M3) fun r21 M20 => gb (decide (r21 &&& 1 = r21)) (some (.int r21, M20)) else if x1 = iI 10 then bI (c2 d m_RR_readOne [.ref 106, .int x1] M3) fun r23 M22 => gb (decide (r23 &&& 1 = r23)) (some (.int r23, M22)) else if x1 = iI 11 then bI (c2 d m_RR_readKinds [.ref 106] M3) fun r25 M24 => gb (decide (r25 &&& 1 = r25)) (some (.int r25, M24)) else if x1 = iI 12 then bI (c2 d m_RR_readOne [.ref 106, .int x1] M3) fun r27 M26 => gb (decide (r27 &&& 1 = r27)) (some (.int r27, M26)) else if x1 = iI 13 then bI (c2 d m_RR_readOne [.ref 106, .int x1] M3) fun r29 M28 => gb (decide (r29 &&& 1 = r29)) (some (.int r29, M28)) else if x1 = iI 14 then gb (isK O2 M3 (gR M3 106 1) 19 && !false) (bI (c2 d m_Tok_pass [.ref (gR M3 106 1), .int (iI 58)] M3) fun r31 M30 => if r31 = 0 then some (.int (iI 0), M30) else gb (isK O2 M30 (gR M30 106 2) 16) (bI (c2 d m_LR_readLaw [.ref 107, .ref (gR M30 106 1), .ref (gR M30 (gR M30 106 2) 13), .int (iI 1)] M30) fun r33 M32 => if r33 = 0 then some (.int (iI 0), M32) else some (.int (iI 1), M32))) else if x1 = iI 15 then gb (isK O2 M3 (gR M3 106 1) 19 && !false) (bI (c2 d m_Tok_pass [.ref (gR M3 106 1), .int (iI 58)] M3) fun r35 M34 => if r35 = 0 then some (.int (iI 0), M34) else gb (isK O2 M34 (gR M34 106 2) 16) (bI (c2 d m_LR_readLaw [.ref 107, .ref (gR M34 106 1), .ref (gR M34 (gR M34 106 2) 14), .int (iI 0)] M34) fun r37 M36 => if r37 = 0 then some (.int (iI 0), M36) else some (.int (iI 1), M36))) else bI (c2 d m_RR_readOne [.ref 106, .int x1] M3) fun r39 M38 => gb (decide (r39 &&& 1 = r39)) (some (.int r39, M38))
noncomputable def oneB (x1 r4 : Int32) (M3 : Mem) : Rs Mem := if x1 = iI 5 then gb (isK O2 M3 (gR M3 106 2) 16) (gb (isK O2 M3 (gR M3 106 2) 16) (some (.int (iI 1), wI M3 (gR M3 106 2) 5 ((gI M3 (gR M3 106 2) 5) ||| ((iI 1) <<< (r4 &&& 31)))))) else if x1 = iI 12 then gb (isK O2 M3 (gR M3 106 2) 16) (some (.int (iI 1), wI M3 (gR M3 106 2) 4 r4)) else if x1 = iI 13 then gb (isK O2 M3 (gR M3 106 2) 16) (some (.int (iI 1), wI M3 (gR M3 106 2) 7 r4)) else gb (isK O2 M3 (gR M3 106 2) 16) (some (.int (iI 1), wI M3 (gR M3 106 2) 8 r4))
def ilf (x0 : Int32) : Int32 := if x0 = iI 1 then iI 1 else if x0 = iI 2 then iI 0 else if x0 = iI 3 then iI 0 else if x0 = iI 4 then iI 0 else if x0 = iI 5 then iI 1 else if x0 = iI 6 then iI 1 else if x0 = iI 7 then iI 0 else if x0 = iI 8 then iI 1 else if x0 = iI 9 then iI 0 else if x0 = iI 10 then iI 0 else if x0 = iI 11 then iI 1 else if x0 = iI 12 then iI 1 else if x0 = iI 13 then iI 1 else if x0 = iI 14 then iI 1 else if x0 = iI 15 then iI 1 else iI 0
def isl (c : Nat) : Bool := decide (c = 1) || decide (c = 2) || decide (4 ≤ c ∧ c ≤ 10)
theorem ilf_eq : ∀ c : Fin 42, okC c.val = true → ilf (iI (kcls c.val : Nat)) = iI (b2i (isl c.val)) := by decide +kernel
theorem c_isLine {D : Nat} (hD : 1 ≤ D) (M : Mem) {c : Nat} (hc : okC c = true) : c2 D m_RR_isLine [.int (iI (kcls c))] M = some (.int (iI (b2i (isl c))), M) := by
  obtain ⟨d, rfl⟩ := Nat.exists_eq_add_of_le' hD
  show X2 d m_RR_isLine 0 [.int (iI (kcls c))] [] M = _
  rw [e_RR_isLine_0]
  simp only [ite_sm]
  exact congrArg (fun v => some (Value.int v, M)) (ilf_eq ⟨c, okC_lt hc⟩ hc)
theorem LnC.f {j : Nat} {p : Ps} {M : Mem} (h : LnC T n N r j p M) (k : Nat) (hk : k < 10) : gI M r k = iI (fld p.1 k) := h.2.2.2.1 k hk
theorem cl_line {d j : Nat} {p : Ps} {M : Mem} (hd : 1 ≤ d) (hr : r ∈ rooms) (hp : OkP p) (h : LnC T n N r j p M) (hl : isl (KK T n j) = true) (h2 : KK T n j = 2 → p.1 3 < 4) : c2 (d + 1) m_RR_readLine [.ref 106] M = bV (c2 d m_Tok_advance [.ref 102] M) (swB d (iI (kcls (KK T n j)))) := by
  have kk : isK O2 M 102 19 = true := rfl
  have g9 : gI M 102 9 = iI (kcls (KK T n j)) := h.1.1.2.2.2.2.1
  have k2 : (gI M 102 9 = iI 1) = (KK T n j = 2) := h.1.kd (by decide) (by decide)
  have g3 : gI M r 3 = iI (p.1 3) := h.f 3 (by decide)
  have p4 := hp.1.2.2.2.2.1
  have e33 : X2 d m_RR_readLine 33 [.ref 106, .int (gI M 102 9)] [] M = bV (c2 d m_Tok_advance [.ref 102] M) (swB d (iI (kcls (KK T n j)))) := by
    rw [e_RR_readLine_33, g9, c_isLine (by omega) M (KK_ok T n j), bI_some, hl, if_neg (by decide), h.2.1, kk]
    rfl
  show X2 d m_RR_readLine 0 [.ref 106, uns] [] M = _
  rw [e_RR_readLine_0, h.2.1, kk, gb_T]
  by_cases q : KK T n j = 2
  · rw [if_pos (by rw [k2]; exact q), h.2.2.1, rm_k _ r hr, gb_T, g3, if_pos (by rw [iI_lt (by omega) (by omega) (by omega) (by omega)]; have := h2 q; omega), e33]
  · rw [if_neg (by rw [k2]; exact q), e33]
theorem LiC.ln {d j f q : Nat} {p p' : Ps} (hd : 1 ≤ d) (hr : r ∈ rooms) (hp : OkP p) (hl : isl (KK T n j) = true) (h2 : KK T n j = 2 → p.1 3 < 4) (h : LiC T n N r (swB d (iI (kcls (KK T n j)))) (j + 1) f q p p') : LiC T n N r (c2 (d + 1) m_RR_readLine [.ref 106]) j f q p p' := by
  intro M hM
  have k24 : KK T n j ≠ 24 := fun e => by rw [e] at hl; exact absurd hl (by decide)
  obtain ⟨M1, e1, hE1, k1⟩ := j_adv hd hM.1 k24
  obtain ⟨M2, e2, hE2, ok2, no2⟩ := h M1 (hM.fr2 hr hE1 k1)
  exact ⟨M2, by rw [cl_line hd hr hp hM hl h2, e1, bV_some]; exact e2, (eqW hE1).tr hE2, ok2, no2⟩
theorem LiC.cg {P Q : Mem → Rs Mem} {j f q : Nat} {p p' : Ps} (h : LiC T n N r Q j f q p p') (he : ∀ M, LnC T n N r j p M → P M = Q M) : LiC T n N r P j f q p p' := by
  intro M hM
  rw [he M hM]
  exact h M hM
/-- a line that can't stand -/
theorem l_no {p : Ps} {j : Nat} (hr : r ∈ rooms) (hl : isl (KK T n j) = false) : LQ T n N r p j := by
  have z := ff_rng T n j (why := 2) (by decide) (by decide)
  refine ⟨ff T n j 2, SS T n j, p, z.2, fun x => absurd x z.1, fun D hD M hM => ?_, fun D hD M C hM => ?_⟩
  · obtain ⟨d, rfl⟩ : ∃ d, D = d + 1 := ⟨D - 1, by omega⟩
    obtain ⟨M1, e1, hE1, k1⟩ := j_ref (D := d) (by omega) hM.1 2
    have kk : isK O2 M 102 19 = true := rfl
    have g9 : gI M 102 9 = iI (kcls (KK T n j)) := hM.1.1.2.2.2.2.1
    have k2 : (gI M 102 9 = iI 1) = (KK T n j = 2) := hM.1.kd (by decide) (by decide)
    refine ⟨M1, ?_, eqW hE1, fun x => absurd x z.1, fun _ => k1⟩
    show X2 d m_RR_readLine 0 [.ref 106, uns] [] M = _
    rw [e_RR_readLine_0, hM.2.1, kk, gb_T, if_neg (by rw [k2]; intro e; rw [e] at hl; exact absurd hl (by decide)), e_RR_readLine_33, g9, c_isLine (by omega) M (KK_ok T n j), bI_some, hl, if_pos (by decide), hM.2.1, kk, if_neg z.1]
    show gb true _ = _
    rw [gb_T, show iI 2 = iI ((2 : Nat) : Int) from rfl, e1, bI_some]
    rfl
  · obtain ⟨d, rfl⟩ : ∃ d, D = d + 1 := ⟨D - 1, by omega⟩
    obtain ⟨M1, e1, hO1, hF1, k1⟩ := k_fl (D := d) (by omega) hM.1 2
    have ne : ∀ c, isl c = true → KK T n j ≠ c := fun c hc e => by rw [e, hc] at hl; cases hl
    refine ⟨M1, C, ?_, hO1.o2, fun x => absurd x z.1, fun _ => k1⟩
    show X2 d m_Mo_readLine 0 [.ref 197] [] M = _
    rw [e_Mo_readLine_0, if_pos hM.1.w, show iI 1 = iI ((1 : Nat) : Int) from rfl, k_is (by omega) hM.1 (by decide), bI_some, decide_eq_false (ne 1 (by decide)), if_pos (by decide), show iI 2 = iI ((2 : Nat) : Int) from rfl, k_is (by omega) hM.1 (by decide), bI_some, decide_eq_false (ne 2 (by decide)), if_pos (by decide), show iI 4 = iI ((4 : Nat) : Int) from rfl, (k_eat (by omega) hM.1 (by decide)).2 (ne 4 (by decide)), bI_some, if_pos (by decide), show iI 5 = iI ((5 : Nat) : Int) from rfl, (k_eat (by omega) hM.1 (by decide)).2 (ne 5 (by decide)), bI_some, if_pos (by decide), show iI 6 = iI ((6 : Nat) : Int) from rfl, k_is (by omega) hM.1 (by decide), bI_some, decide_eq_false (ne 6 (by decide)), if_pos (by decide), show iI 7 = iI ((7 : Nat) : Int) from rfl, (k_eat (by omega) hM.1 (by decide)).2 (ne 7 (by decide)), bI_some, if_pos (by decide), show iI 8 = iI ((8 : Nat) : Int) from rfl, (k_eat (by omega) hM.1 (by decide)).2 (ne 8 (by decide)), bI_some, if_pos (by decide), show iI 9 = iI ((9 : Nat) : Int) from rfl, k_is (by omega) hM.1 (by decide), bI_some, decide_eq_false (ne 9 (by decide)), if_pos (by decide), show iI 10 = iI ((10 : Nat) : Int) from rfl, k_is (by omega) hM.1 (by decide), bI_some, decide_eq_false (ne 10 (by decide)), if_pos (by decide), e1, bV_some]
theorem m_line1 {d j : Nat} {p : Ps} {C : List Nat} {M : Mem} (hd : 8 ≤ d) (hM : LnM T n j p C M) (hc : KK T n j = 1) : c2 (d + 1) m_Mo_readLine [.ref 197] M = bV (c2 d m_Mo_readRow [.ref 197] M) fun M32 => some (.null, M32) := by
  have ne : ∀ k, k ≠ 1 → KK T n j ≠ k := fun k hk e => hk (by omega)
  have g9 : gI M 197 9 = iI (KK T n j) := hM.1.1.2.2.2.1
  show X2 d m_Mo_readLine 0 [.ref 197] [] M = _
  rw [e_Mo_readLine_0, if_pos hM.1.w, show iI 1 = iI ((1 : Nat) : Int) from rfl, k_is (by omega) hM.1 (by decide), bI_some, decide_eq_true hc, if_neg (by decide)]
theorem m_line2 {d j : Nat} {p : Ps} {C : List Nat} {M : Mem} (hd : 8 ≤ d) (hM : LnM T n j p C M) (hc : KK T n j = 2) : c2 (d + 1) m_Mo_readLine [.ref 197] M = bV (c2 d m_Mo_readTenant [.ref 197] M) fun M31 => some (.null, M31) := by
  have ne : ∀ k, k ≠ 2 → KK T n j ≠ k := fun k hk e => hk (by omega)
  have g9 : gI M 197 9 = iI (KK T n j) := hM.1.1.2.2.2.1
  show X2 d m_Mo_readLine 0 [.ref 197] [] M = _
  rw [e_Mo_readLine_0, if_pos hM.1.w, show iI 1 = iI ((1 : Nat) : Int) from rfl, k_is (by omega) hM.1 (by decide), bI_some, decide_eq_false (ne 1 (by decide)), if_pos (by decide), show iI 2 = iI ((2 : Nat) : Int) from rfl, k_is (by omega) hM.1 (by decide), bI_some, decide_eq_true hc, if_neg (by decide)]
theorem m_line6 {d j : Nat} {p : Ps} {C : List Nat} {M : Mem} (hd : 8 ≤ d) (hM : LnM T n j p C M) (hc : KK T n j = 6) : c2 (d + 1) m_Mo_readLine [.ref 197] M = bV (c2 d m_Mo_readFace [.ref 197] M) fun M26 => some (.null, M26) := by
  have ne : ∀ k, k ≠ 6 → KK T n j ≠ k := fun k hk e => hk (by omega)
  have g9 : gI M 197 9 = iI (KK T n j) := hM.1.1.2.2.2.1
  show X2 d m_Mo_readLine 0 [.ref 197] [] M = _
  rw [e_Mo_readLine_0, if_pos hM.1.w, show iI 1 = iI ((1 : Nat) : Int) from rfl, k_is (by omega) hM.1 (by decide), bI_some, decide_eq_false (ne 1 (by decide)), if_pos (by decide), show iI 2 = iI ((2 : Nat) : Int) from rfl, k_is (by omega) hM.1 (by decide), bI_some, decide_eq_false (ne 2 (by decide)), if_pos (by decide), show iI 4 = iI ((4 : Nat) : Int) from rfl, (k_eat (by omega) hM.1 (by decide)).2 (ne 4 (by decide)), bI_some, if_pos (by decide), show iI 5 = iI ((5 : Nat) : Int) from rfl, (k_eat (by omega) hM.1 (by decide)).2 (ne 5 (by decide)), bI_some, if_pos (by decide), show iI 6 = iI ((6 : Nat) : Int) from rfl, k_is (by omega) hM.1 (by decide), bI_some, decide_eq_true hc, if_neg (by decide)]
theorem m_line9 {d j : Nat} {p : Ps} {C : List Nat} {M : Mem} (hd : 8 ≤ d) (hM : LnM T n j p C M) (hc : KK T n j = 9) : c2 (d + 1) m_Mo_readLine [.ref 197] M = bV (c2 d m_Mo_readLaw [.ref 197, .int (iI 0)] M) fun M17 => some (.null, M17) := by
  have ne : ∀ k, k ≠ 9 → KK T n j ≠ k := fun k hk e => hk (by omega)
  have g9 : gI M 197 9 = iI (KK T n j) := hM.1.1.2.2.2.1
  show X2 d m_Mo_readLine 0 [.ref 197] [] M = _
  rw [e_Mo_readLine_0, if_pos hM.1.w, show iI 1 = iI ((1 : Nat) : Int) from rfl, k_is (by omega) hM.1 (by decide), bI_some, decide_eq_false (ne 1 (by decide)), if_pos (by decide), show iI 2 = iI ((2 : Nat) : Int) from rfl, k_is (by omega) hM.1 (by decide), bI_some, decide_eq_false (ne 2 (by decide)), if_pos (by decide), show iI 4 = iI ((4 : Nat) : Int) from rfl, (k_eat (by omega) hM.1 (by decide)).2 (ne 4 (by decide)), bI_some, if_pos (by decide), show iI 5 = iI ((5 : Nat) : Int) from rfl, (k_eat (by omega) hM.1 (by decide)).2 (ne 5 (by decide)), bI_some, if_pos (by decide), show iI 6 = iI ((6 : Nat) : Int) from rfl, k_is (by omega) hM.1 (by decide), bI_some, decide_eq_false (ne 6 (by decide)), if_pos (by decide), show iI 7 = iI ((7 : Nat) : Int) from rfl, (k_eat (by omega) hM.1 (by decide)).2 (ne 7 (by decide)), bI_some, if_pos (by decide), show iI 8 = iI ((8 : Nat) : Int) from rfl, (k_eat (by omega) hM.1 (by decide)).2 (ne 8 (by decide)), bI_some, if_pos (by decide), show iI 9 = iI ((9 : Nat) : Int) from rfl, k_is (by omega) hM.1 (by decide), bI_some, decide_eq_true hc, if_neg (by decide), g9, hc, iI_sub]
  rfl
theorem m_line10 {d j : Nat} {p : Ps} {C : List Nat} {M : Mem} (hd : 8 ≤ d) (hM : LnM T n j p C M) (hc : KK T n j = 10) : c2 (d + 1) m_Mo_readLine [.ref 197] M = bV (c2 d m_Mo_readLaw [.ref 197, .int (iI 1)] M) fun M21 => some (.null, M21) := by
  have ne : ∀ k, k ≠ 10 → KK T n j ≠ k := fun k hk e => hk (by omega)
  have g9 : gI M 197 9 = iI (KK T n j) := hM.1.1.2.2.2.1
  show X2 d m_Mo_readLine 0 [.ref 197] [] M = _
  rw [e_Mo_readLine_0, if_pos hM.1.w, show iI 1 = iI ((1 : Nat) : Int) from rfl, k_is (by omega) hM.1 (by decide), bI_some, decide_eq_false (ne 1 (by decide)), if_pos (by decide), show iI 2 = iI ((2 : Nat) : Int) from rfl, k_is (by omega) hM.1 (by decide), bI_some, decide_eq_false (ne 2 (by decide)), if_pos (by decide), show iI 4 = iI ((4 : Nat) : Int) from rfl, (k_eat (by omega) hM.1 (by decide)).2 (ne 4 (by decide)), bI_some, if_pos (by decide), show iI 5 = iI ((5 : Nat) : Int) from rfl, (k_eat (by omega) hM.1 (by decide)).2 (ne 5 (by decide)), bI_some, if_pos (by decide), show iI 6 = iI ((6 : Nat) : Int) from rfl, k_is (by omega) hM.1 (by decide), bI_some, decide_eq_false (ne 6 (by decide)), if_pos (by decide), show iI 7 = iI ((7 : Nat) : Int) from rfl, (k_eat (by omega) hM.1 (by decide)).2 (ne 7 (by decide)), bI_some, if_pos (by decide), show iI 8 = iI ((8 : Nat) : Int) from rfl, (k_eat (by omega) hM.1 (by decide)).2 (ne 8 (by decide)), bI_some, if_pos (by decide), show iI 9 = iI ((9 : Nat) : Int) from rfl, k_is (by omega) hM.1 (by decide), bI_some, decide_eq_false (ne 9 (by decide)), if_pos (by decide), show iI 10 = iI ((10 : Nat) : Int) from rfl, k_is (by omega) hM.1 (by decide), bI_some, decide_eq_true hc, if_neg (by decide), g9, hc, iI_sub]
  rfl
theorem m_line4 {d j : Nat} {p : Ps} {C : List Nat} {M : Mem} (hd : 8 ≤ d) (hM : LnM T n j p C M) (hc : KK T n j = 4) (hj : j + 1 ≤ 900) : ∃ M1, OM M M1 ∧ LnM T n (j + 1) p C M1 ∧ c2 (d + 1) m_Mo_readLine [.ref 197] M = bI (c2 d m_Mo_takes [.ref 197, .int (iI 0), .int ((gI M1 201 3) - (iI 1))] M1) fun r30 M29 => some (.null, wI M29 201 26 r30) := by
  have ne : ∀ k, k ≠ 4 → KK T n j ≠ k := fun k hk e => hk (by omega)
  obtain ⟨M1, e1, hO1, hF1, k1⟩ := (k_eat (D := d) (by omega) hM.1 (by decide)).1 hc
  refine ⟨M1, hO1, hM.nx2 hF1 k1 (by omega) hj, ?_⟩
  show X2 d m_Mo_readLine 0 [.ref 197] [] M = _
  rw [e_Mo_readLine_0, if_pos hM.1.w, show iI 1 = iI ((1 : Nat) : Int) from rfl, k_is (by omega) hM.1 (by decide), bI_some, decide_eq_false (ne 1 (by decide)), if_pos (by decide), show iI 2 = iI ((2 : Nat) : Int) from rfl, k_is (by omega) hM.1 (by decide), bI_some, decide_eq_false (ne 2 (by decide)), if_pos (by decide), show iI 4 = iI ((4 : Nat) : Int) from rfl, e1, bI_some, if_neg (by decide)]
theorem m_line5 {d j : Nat} {p : Ps} {C : List Nat} {M : Mem} (hd : 8 ≤ d) (hM : LnM T n j p C M) (hc : KK T n j = 5) (hj : j + 1 ≤ 900) : ∃ M1, OM M M1 ∧ LnM T n (j + 1) p C M1 ∧ c2 (d + 1) m_Mo_readLine [.ref 197] M = bI (c2 d m_Mo_readRose [.ref 197] M1) fun r28 M27 => some (.null, wI M27 201 25 ((gI M1 201 25) ||| r28)) := by
  have ne : ∀ k, k ≠ 5 → KK T n j ≠ k := fun k hk e => hk (by omega)
  obtain ⟨M1, e1, hO1, hF1, k1⟩ := (k_eat (D := d) (by omega) hM.1 (by decide)).1 hc
  refine ⟨M1, hO1, hM.nx2 hF1 k1 (by omega) hj, ?_⟩
  show X2 d m_Mo_readLine 0 [.ref 197] [] M = _
  rw [e_Mo_readLine_0, if_pos hM.1.w, show iI 1 = iI ((1 : Nat) : Int) from rfl, k_is (by omega) hM.1 (by decide), bI_some, decide_eq_false (ne 1 (by decide)), if_pos (by decide), show iI 2 = iI ((2 : Nat) : Int) from rfl, k_is (by omega) hM.1 (by decide), bI_some, decide_eq_false (ne 2 (by decide)), if_pos (by decide), show iI 4 = iI ((4 : Nat) : Int) from rfl, (k_eat (by omega) hM.1 (by decide)).2 (ne 4 (by decide)), bI_some, if_pos (by decide), show iI 5 = iI ((5 : Nat) : Int) from rfl, e1, bI_some, if_neg (by decide)]
theorem m_line7 {d j : Nat} {p : Ps} {C : List Nat} {M : Mem} (hd : 8 ≤ d) (hM : LnM T n j p C M) (hc : KK T n j = 7) (hj : j + 1 ≤ 900) : ∃ M1, OM M M1 ∧ LnM T n (j + 1) p C M1 ∧ c2 (d + 1) m_Mo_readLine [.ref 197] M = bI (c2 d m_Mo_takes [.ref 197, .int (iI 0), .int (iI 10)] M1) fun r25 M24 => some (.null, wI M24 201 5 r25) := by
  have ne : ∀ k, k ≠ 7 → KK T n j ≠ k := fun k hk e => hk (by omega)
  obtain ⟨M1, e1, hO1, hF1, k1⟩ := (k_eat (D := d) (by omega) hM.1 (by decide)).1 hc
  refine ⟨M1, hO1, hM.nx2 hF1 k1 (by omega) hj, ?_⟩
  show X2 d m_Mo_readLine 0 [.ref 197] [] M = _
  rw [e_Mo_readLine_0, if_pos hM.1.w, show iI 1 = iI ((1 : Nat) : Int) from rfl, k_is (by omega) hM.1 (by decide), bI_some, decide_eq_false (ne 1 (by decide)), if_pos (by decide), show iI 2 = iI ((2 : Nat) : Int) from rfl, k_is (by omega) hM.1 (by decide), bI_some, decide_eq_false (ne 2 (by decide)), if_pos (by decide), show iI 4 = iI ((4 : Nat) : Int) from rfl, (k_eat (by omega) hM.1 (by decide)).2 (ne 4 (by decide)), bI_some, if_pos (by decide), show iI 5 = iI ((5 : Nat) : Int) from rfl, (k_eat (by omega) hM.1 (by decide)).2 (ne 5 (by decide)), bI_some, if_pos (by decide), show iI 6 = iI ((6 : Nat) : Int) from rfl, k_is (by omega) hM.1 (by decide), bI_some, decide_eq_false (ne 6 (by decide)), if_pos (by decide), show iI 7 = iI ((7 : Nat) : Int) from rfl, e1, bI_some, if_neg (by decide)]
theorem m_line8 {d j : Nat} {p : Ps} {C : List Nat} {M : Mem} (hd : 8 ≤ d) (hM : LnM T n j p C M) (hc : KK T n j = 8) (hj : j + 1 ≤ 900) : ∃ M1, OM M M1 ∧ LnM T n (j + 1) p C M1 ∧ c2 (d + 1) m_Mo_readLine [.ref 197] M = bI (c2 d m_Mo_takes [.ref 197, .int (iI 0), .int (iI 9)] M1) fun r23 M22 => some (.null, wI M22 201 27 r23) := by
  have ne : ∀ k, k ≠ 8 → KK T n j ≠ k := fun k hk e => hk (by omega)
  obtain ⟨M1, e1, hO1, hF1, k1⟩ := (k_eat (D := d) (by omega) hM.1 (by decide)).1 hc
  refine ⟨M1, hO1, hM.nx2 hF1 k1 (by omega) hj, ?_⟩
  show X2 d m_Mo_readLine 0 [.ref 197] [] M = _
  rw [e_Mo_readLine_0, if_pos hM.1.w, show iI 1 = iI ((1 : Nat) : Int) from rfl, k_is (by omega) hM.1 (by decide), bI_some, decide_eq_false (ne 1 (by decide)), if_pos (by decide), show iI 2 = iI ((2 : Nat) : Int) from rfl, k_is (by omega) hM.1 (by decide), bI_some, decide_eq_false (ne 2 (by decide)), if_pos (by decide), show iI 4 = iI ((4 : Nat) : Int) from rfl, (k_eat (by omega) hM.1 (by decide)).2 (ne 4 (by decide)), bI_some, if_pos (by decide), show iI 5 = iI ((5 : Nat) : Int) from rfl, (k_eat (by omega) hM.1 (by decide)).2 (ne 5 (by decide)), bI_some, if_pos (by decide), show iI 6 = iI ((6 : Nat) : Int) from rfl, k_is (by omega) hM.1 (by decide), bI_some, decide_eq_false (ne 6 (by decide)), if_pos (by decide), show iI 7 = iI ((7 : Nat) : Int) from rfl, (k_eat (by omega) hM.1 (by decide)).2 (ne 7 (by decide)), bI_some, if_pos (by decide), show iI 8 = iI ((8 : Nat) : Int) from rfl, e1, bI_some, if_neg (by decide)]
end B0
