/-! THE TEXT: both at token j, and what may be asked and done there. -/
def CJ (T : Nat → Nat) (n N j : Nat) (M : Mem) : Prop := AtC M T n N j ∧ gI M 102 11 = iI 0 ∧ gI M 102 12 = iI (-1)
def MJ (T : Nat → Nat) (n j : Nat) (M : Mem) : Prop := AtM M T n j ∧ gI M 197 11 = iI 0
def KK (T : Nat → Nat) (n j : Nat) : Nat := tkC T n (posT T n j)
def SS (T : Nat → Nat) (n j : Nat) : Nat := tkS T n (posT T n j)
def VV (T : Nat → Nat) (n j : Nat) : Nat := tkV T n (posT T n j)
def ff (T : Nat → Nat) (n j why : Nat) : Nat := if KK T n j = 25 then 1 else why
/-- the fault as the class tells it, as the reference does -/
def FC (f p : Nat) (M : Mem) : Prop := gI M 102 11 = iI f ∧ gI M 102 12 = iI p
def FM (f p : Nat) (M : Mem) : Prop := gI M 197 11 = iI f ∧ gI M 197 12 = iI p
def OM (M M' : Mem) : Prop := Eqx [197, 201] M M' ∧ ∀ k, k ≠ 6 → k ≠ 7 → k ≠ 9 → k ≠ 10 → k ≠ 11 → k ≠ 12 → gI M' 197 k = gI M 197 k
theorem OM.rf (M : Mem) : OM M M := ⟨Eqx.rf, fun _ _ _ _ _ _ _ => rfl⟩
theorem OM.tr {M M1 M2 : Mem} (h : OM M M1) (g : OM M1 M2) : OM M M2 := ⟨h.1.tr g.1, fun k a b c e f i => (g.2 k a b c e f i).trans (h.2 k a b c e f i)⟩
theorem OM.of {M M' : Mem} (h : Oth M M') : OM M M' := ⟨h.1.mono (by simp), fun k a b c e _ _ => h.2 k a b c e⟩
def Wr (M : Mem) : Prop := ¬ gI M 197 11 = 0
theorem FM.wr {f p : Nat} {M : Mem} (h : FM f p M) (h1 : f ≠ 0) (h4 : f ≤ 4) : Wr M := by
  unfold Wr
  rw [h.1, iI_eq0 (by omega) (by omega)]
  omega
theorem MJ.w {T : Nat → Nat} {n j : Nat} {M : Mem} (h : MJ T n j M) : gI M 197 11 = 0 := h.2
theorem ff_rng (T : Nat → Nat) (n j : Nat) {why : Nat} (h1 : why ≠ 0) (h4 : why ≤ 4) : ff T n j why ≠ 0 ∧ ff T n j why ≤ 4 := by
  unfold ff; split <;> omega
theorem KK_ok (T : Nat → Nat) (n j : Nat) : okC (KK T n j) = true := tkC_ok T n _
/-- the class's question of a kind -/
theorem CJ.kd {T : Nat → Nat} {n N j : Nat} {M : Mem} (h : CJ T n N j M) {c : Nat} {x : Int} (hc : okC c = true) (hx : x = (kcls c : Int)) : (gI M 102 9 = iI x) = (KK T n j = c) := by
  rw [h.1.2.2.2.2.1, hx]
  exact kcls_eq (KK_ok T n j) hc
theorem MJ.kd {T : Nat → Nat} {n j : Nat} {M : Mem} (h : MJ T n j M) {c : Nat} (hc : c ≤ 100) : (gI M 197 9 = iI c) = (KK T n j = c) := by
  rw [h.1.2.2.2.1]
  have := okC_lt (KK_ok T n j)
  have e : tkC T n (posT T n j) = KK T n j := rfl
  rw [e, iI_eq (by omega) (by omega) (by omega) (by omega)]
  exact propext ⟨fun h => by omega, fun h => by omega⟩
theorem CJ.lt {T : Nat → Nat} {n N j : Nat} {M : Mem} (h : CJ T n N j M) : j < N ∧ N ≤ 901 := ⟨h.1.1, h.1.2.1⟩
theorem CJ.nx {T : Nat → Nat} {n N j : Nat} {M : Mem} (h : CJ T n N j M) (hk : KK T n j ≠ 24) : j + 1 < N := by
  apply Classical.byContradiction
  intro q
  have e : N - 1 = j := by have := h.1.1; omega
  have h8 := h.1.2.2.2.2.2.2.2.1
  rw [e] at h8
  exact hk h8
theorem j_adv {D : Nat} (hD : 1 ≤ D) {T : Nat → Nat} {n N j : Nat} {M : Mem} (h : CJ T n N j M) (hk : KK T n j ≠ 24) : ∃ M', c2 D m_Tok_advance [.ref 102] M = some (.null, M') ∧ Eqx [102] M M' ∧ CJ T n N (j + 1) M' := by
  obtain ⟨d, rfl⟩ := Nat.exists_eq_add_of_le' hD
  obtain ⟨M', e, hE, ho, hA⟩ := c_Tok_advance d h.1
  have e1 : nxJ N j = j + 1 := if_pos (h.nx hk)
  rw [e1] at hA
  exact ⟨M', e, hE, hA, (ho 11 (by decide) (by decide) (by decide)).trans h.2.1, (ho 12 (by decide) (by decide) (by decide)).trans h.2.2⟩
theorem j_ref {D : Nat} (hD : 1 ≤ D) {T : Nat → Nat} {n N j : Nat} {M : Mem} (h : CJ T n N j M) (why : Nat) : ∃ M', c2 D m_Tok_refuse [.ref 102, .int (iI why)] M = some (.int (iI 0), M') ∧ Eqx [102] M M' ∧ FC (ff T n j why) (SS T n j) M' := by
  obtain ⟨d, rfl⟩ := Nat.exists_eq_add_of_le' hD
  have hl := h.lt
  have e4 : gI M 102 8 = iI j := h.1.2.2.2.1
  have en : gI M 105 j = iI (SS T n j) := (h.1.2.2.2.2.2.2.1 j h.1.1).2.1
  show ∃ M', X2 d m_Tok_refuse 0 [.ref 102, .int (iI why)] [] M = _ ∧ _
  have e := e_Tok_refuse_0 d (iI why) M
  simp only [h.kd (c := 25) (by decide) (show (22 : Int) = (kcls 25 : Int) by decide)] at e
  have q0 : ¬ iI (j : Int) < 0 := by rw [iI_lt0 (by omega) (by omega)]; omega
  rw [e, e4, if_neg q0, if_neg q0, inb_ok (by omega) (by omega) (by omega), gb_T, gb_T, ix_nat (by omega), en]
  unfold ff
  by_cases q : KK T n j = 25
  · rw [if_pos q, if_pos q]
    exact ⟨_, rfl, eqx_wI (eqx_wI Eqx.rf (by simp)) (by simp), by rw [gI_nk (by decide), gI_eq]; rfl, gI_eq _ _ _ _⟩
  · rw [if_neg q, if_neg q]
    exact ⟨_, rfl, eqx_wI (eqx_wI Eqx.rf (by simp)) (by simp), by rw [gI_nk (by decide), gI_eq], gI_eq _ _ _ _⟩
theorem j_pass {D : Nat} (hD : 2 ≤ D) {T : Nat → Nat} {n N j : Nat} {M : Mem} (h : CJ T n N j M) {c : Nat} {x : Int} (hc : okC c = true) (h24 : c ≠ 24) (hx : x = (kcls c : Int)) : (KK T n j = c → ∃ M', c2 D m_Tok_pass [.ref 102, .int (iI x)] M = some (.int (iI 1), M') ∧ Eqx [102] M M' ∧ CJ T n N (j + 1) M') ∧ (KK T n j ≠ c → ∃ M', c2 D m_Tok_pass [.ref 102, .int (iI x)] M = some (.int (iI 0), M') ∧ Eqx [102] M M' ∧ FC (ff T n j 2) (SS T n j) M') := by
  obtain ⟨d, rfl⟩ := Nat.exists_eq_add_of_le' hD
  have e := e_Tok_pass_0 (d + 1) (iI x) M
  simp only [h.kd hc hx] at e
  constructor
  · intro q
    obtain ⟨M', e1, r⟩ := j_adv (D := d + 1) (by omega) h (by omega)
    refine ⟨M', ?_, r⟩
    show X2 (d + 1) m_Tok_pass 0 [.ref 102, .int (iI x)] [] M = _
    rw [e, if_pos q, e1, bV_some]
  · intro q
    obtain ⟨M', e1, r⟩ := j_ref (D := d + 1) (by omega) h 2
    refine ⟨M', ?_, r⟩
    show X2 (d + 1) m_Tok_pass 0 [.ref 102, .int (iI x)] [] M = _
    rw [e, if_neg q, show iI 2 = iI ((2 : Nat) : Int) from rfl, e1, bI_some]
    rfl
