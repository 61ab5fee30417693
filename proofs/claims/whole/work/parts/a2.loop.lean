/-! A LAW'S TEXT: a row of operands with operators between them. -/
section A2
variable {T : Nat → Nat} {n N a t : Nat}
def PQ (T : Nat → Nat) (n N a t : Nat) (al : Nat → Bool) (mc mm : MD) (kd w : Nat) (b : Bool) (h : Nat) : Prop := ∀ j, j < N → ∃ r : Rd, r.1 ≤ 4 ∧ (r.1 = 0 → j < r.2.1 ∧ r.2.1 < N ∧ Eff al b h r.2.2) ∧ (∀ D, kd ≤ D → CR T n N a t (c2 D mc [.ref 107, .int (iI w)]) j r) ∧ (∀ D, kd ≤ D → MR T n t (c2 D mm [.ref 197, .int (iI w)]) j r)
def TN (T : Nat → Nat) (n N : Nat) : Prop := N ≤ 901 ∧ ∀ j, j < N → KK T n j ≠ 24 → j + 1 < N
theorem loopQ {al : Nat → Bool} {b : Bool} {h kd w : Nat} {mc mm : MD} (hN : TN T n N) (ha : a ∈ laws) (hkd : 7 ≤ kd) (hsub : PQ T n N a t al mc mm kd w b h) (ops : Nat → Option Nat)
    (hops : ∀ c e, ops c = some e → c ≠ 24 ∧ 3000 ≤ e ∧ e ≤ 3008 ∧ e ≠ 3006 ∧ (b = true → e = 3007 ∨ e = 3008))
    (FCl : Nat → Value → Int32 → Mem → Rs Mem) (nv : Nat → Value)
    (C1 : ∀ (D : Nat) (v : Value) (i j s : Nat) (L : List Nat) (M : Mem), CAt T n N a t j s L M → i ≤ 900 → ops (KK T n j) = none → FCl D v (iI i) M = some (.int (iI 1), M))
    (C2 : ∀ (D : Nat) (v : Value) (i j s : Nat) (L : List Nat) (M : Mem) (e : Nat), CAt T n N a t j s L M → i < 900 → ops (KK T n j) = some e → FCl D v (iI i) M = bV (c2 D m_Tok_advance [.ref 102] M) fun M1 => bI (c2 D mc [.ref 107, .int (iI w)] M1) fun x M2 => if x = 0 then some (.int (iI 0), M2) else gb (isK O2 M2 (gR M2 107 1) 11 && !false) (bV (c2 D m_Lw_add [.ref (gR M2 107 1), .int (iI (encC e))] M2) fun M4 => FCl D (nv (KK T n j)) (iI ((i + 1 : Nat) : Int)) M4))
    (FMl : Nat → Value → Mem → Rs Mem) (nm : Nat → Value)
    (M1 : ∀ (D : Nat) (v : Value) (j s : Nat) (C : List Nat) (M : Mem), kd ≤ D → MAt T n t j s C M → ops (KK T n j) = none → FMl D v M = some (.null, M))
    (M2 : ∀ (D : Nat) (v : Value) (j s : Nat) (C : List Nat) (M : Mem) (e : Nat), kd ≤ D → MAt T n t j s C M → j + 1 ≤ 900 → ops (KK T n j) = some e → ∃ M0, OM M M0 ∧ (∀ k, k < 70 → gI M0 201 k = gI M 201 k) ∧ MAt T n t (j + 1) (s + 1) C M0 ∧ FMl D v M = bV (c2 D mm [.ref 197, .int (iI w)] M0) fun M2 => bV (c2 D m_Mo_codes [.ref 197, .int (iI e)] M2) fun M3 => FMl D (nm (KK T n j)) M3)
    (M3 : ∀ (D : Nat) (v : Value) (M : Mem), kd ≤ D → Wr M → FMl D v M = some (.null, M)) :
    ∀ m j, j < N → N - j ≤ m → ∃ r : Rd, r.1 ≤ 4 ∧ (r.1 = 0 → j ≤ r.2.1 ∧ r.2.1 < N ∧ EffL al b (h + 1) r.2.2) ∧ (∀ D v i, kd ≤ D → i ≤ j → CR T n N a t (FCl D v (iI (i : Nat))) j r) ∧ (∀ D v, kd ≤ D → MR T n t (FMl D v) j r) := by
  intro m
  induction m with
  | zero => intro j h1 h2; omega
  | succ m ih =>
    intro j h1 h2
    have hN1 := hN.1
    cases q : ops (KK T n j) with
    | none =>
      exact ⟨(0, j, []), Nat.zero_le 4, fun _ => ⟨Nat.le_refl _, h1, EffL.nil⟩, fun D v i _ hi => CR.dn.cg (fun s M L hM => C1 D v i j s L M hM (by omega) q), fun D v hD => MR.dn.cg (fun s M C hM => M1 D v j s C M hD hM q)⟩
    | some e =>
      obtain ⟨p1, p2, p3, p4, p5⟩ := hops _ _ q
      have hj := hN.2 j h1 p1
      obtain ⟨r1, r4, ro, rc, rm⟩ := hsub (j + 1) hj
      by_cases z : r1.1 = 0
      · obtain ⟨o1, o2, o3⟩ := ro z
        obtain ⟨r2, r24, ro2, rc2, rm2⟩ := ih r1.2.1 o2 (by omega)
        have eo : opR r1 e r2 = (r2.1, r2.2.1, r1.2.2 ++ e :: r2.2.2) := if_pos z
        refine ⟨opR r1 e r2, by rw [eo]; exact r24, fun x => ?_, fun D v i hD hi => ?_, fun D v hD => ?_⟩
        · rw [eo] at x ⊢
          obtain ⟨y1, y2, y3⟩ := ro2 x
          exact ⟨by show j ≤ r2.2.1; omega, y2, EffL.op o3 p2 p3 p4 p5 y3⟩
        · exact CR.op (D := D) (by omega) ha p1 (rc D hD) (fun _ => rc2 D (nv (KK T n j)) (i + 1) hD (by omega)) (fun s M L hM => C2 D v i j s L M e hM (by omega) q)
        · exact MR.op (D := D) (by omega) r4 (rm D hD) (fun _ => rm2 D (nm (KK T n j)) hD) (fun M hM => M3 D _ M hD hM) (fun s M C hM => M2 D v j s C M e hD hM (by omega) q)
      · have eo : opR r1 e (0, 0, []) = r1 := if_neg z
        refine ⟨opR r1 e (0, 0, []), by rw [eo]; exact r4, fun x => by rw [eo] at x; exact absurd x z, fun D v i hD hi => ?_, fun D v hD => ?_⟩
        · exact CR.op (Q := fun M4 => FCl D (nv (KK T n j)) (iI ((i + 1 : Nat) : Int)) M4) (D := D) (by omega) ha p1 (rc D hD) (fun w => absurd w z) (fun s M L hM => C2 D v i j s L M e hM (by omega) q)
        · exact MR.op (Q := fun M3 => FMl D (nm (KK T n j)) M3) (D := D) (by omega) r4 (rm D hD) (fun w => absurd w z) (fun M hM => M3 D _ M hD hM) (fun s M C hM => M2 D v j s C M e hD hM (by omega) q)
/-- an operand, then the row -/
theorem wrapQ {al : Nat → Bool} {b : Bool} {h kd w : Nat} {mc mm mc' mm' : MD} (hsub : PQ T n N a t al mc mm kd w b h) (FCl : Nat → Value → Int32 → Mem → Rs Mem) (FMl : Nat → Value → Mem → Rs Mem) (v0 : Value)
    (hl : ∀ m j, j < N → N - j ≤ m → ∃ r : Rd, r.1 ≤ 4 ∧ (r.1 = 0 → j ≤ r.2.1 ∧ r.2.1 < N ∧ EffL al b (h + 1) r.2.2) ∧ (∀ D v i, kd ≤ D → i ≤ j → CR T n N a t (FCl D v (iI (i : Nat))) j r) ∧ (∀ D v, kd ≤ D → MR T n t (FMl D v) j r))
    (M3 : ∀ (D : Nat) (v : Value) (M : Mem), kd ≤ D → Wr M → FMl D v M = some (.null, M))
    (eC : ∀ (D : Nat) (M : Mem), c2 (D + 1) mc' [.ref 107, .int (iI w)] M = bI (c2 D mc [.ref 107, .int (iI w)] M) fun x M1 => if x = 0 then some (.int (iI 0), M1) else FCl D v0 (iI 0) M1)
    (eM : ∀ (D : Nat) (M : Mem), c2 (D + 1) mm' [.ref 197, .int (iI w)] M = bV (c2 D mm [.ref 197, .int (iI w)] M) fun M1 => FMl D v0 M1) : PQ T n N a t al mc' mm' (kd + 1) w b (h + 1) := by
  intro j hj
  obtain ⟨r1, r4, ro, rc, rm⟩ := hsub j hj
  by_cases z : r1.1 = 0
  · obtain ⟨o1, o2, o3⟩ := ro z
    obtain ⟨r2, r24, ro2, rc2, rm2⟩ := hl _ r1.2.1 o2 (Nat.le_refl _)
    have es : sqR r1 r2 = (r2.1, r2.2.1, r1.2.2 ++ r2.2.2) := if_pos z
    refine ⟨sqR r1 r2, by rw [es]; exact r24, fun x => ?_, fun D hD => ?_, fun D hD => ?_⟩
    · rw [es] at x ⊢
      obtain ⟨y1, y2, y3⟩ := ro2 x
      exact ⟨by show j < r2.2.1; omega, y2, (o3.le (Nat.le_succ h)).sq y3⟩
    · obtain ⟨d, rfl⟩ : ∃ d, D = d + 1 := ⟨D - 1, by omega⟩
      exact ((rc d (by omega)).sq (fun _ => rc2 d v0 0 (by omega) (Nat.zero_le _))).cg (fun s M L _ => eC d M)
    · obtain ⟨d, rfl⟩ : ∃ d, D = d + 1 := ⟨D - 1, by omega⟩
      exact (MR.sq r4 (rm d (by omega)) (fun _ => rm2 d v0 (by omega)) (fun M hM => M3 d v0 M (by omega) hM)).cg (fun s M C _ => eM d M)
  · have es : sqR r1 (0, 0, []) = r1 := if_neg z
    refine ⟨sqR r1 (0, 0, []), by rw [es]; exact r4, fun x => by rw [es] at x; exact absurd x z, fun D hD => ?_, fun D hD => ?_⟩
    · obtain ⟨d, rfl⟩ : ∃ d, D = d + 1 := ⟨D - 1, by omega⟩
      exact ((rc d (by omega)).sq (Q := FCl d v0 (iI 0)) (fun w => absurd w z)).cg (fun s M L _ => eC d M)
    · obtain ⟨d, rfl⟩ : ∃ d, D = d + 1 := ⟨D - 1, by omega⟩
      exact (MR.sq (Q := FMl d v0) r4 (rm d (by omega)) (fun w => absurd w z) (fun M hM => M3 d v0 M (by omega) hM)).cg (fun s M C _ => eM d M)
end A2
