/-! THE TEXT: numbers; the reference's questions. -/
theorem nvv_lt (T : Nat → Nat) (s : Nat) : ∀ k, (∀ i, i < k → T (s + i) ≤ 57) → nvv T s k < 10 ^ k
  | 0, _ => Nat.one_pos
  | k + 1, h => by
    have a := nvv_lt T s k (fun i hi => h i (by omega))
    have b := h k (by omega)
    show 10 * nvv T s k + (T (s + k) - 48) < 10 ^ (k + 1)
    rw [Nat.pow_succ]
    omega
theorem VV_lt {T : Nat → Nat} {n j : Nat} (h : KK T n j = 23) : VV T n j < 1000 := by
  unfold KK tkC at h
  split at h
  · omega
  · rename_i q1
    split at h
    · exact absurd h (wdc_23 _ _ _)
    · rename_i q2
      split at h
      · rename_i q3
        split at h
        · omega
        · rename_i q4
          have eE : tkE T n (posT T n j) = edd dgB T n (tkS T n (posT T n j)) := by
            unfold tkE; rw [if_neg q1, if_neg q2, if_pos q3]
          have r := edd_rng dgB T (n := n) (n - tkS T n (posT T n j)) (tkS T n (posT T n j)) (by omega)
          have a := nvv_lt T (tkS T n (posT T n j)) (tkE T n (posT T n j) - tkS T n (posT T n j)) (fun i hi => by
            have := r.2.2.2 (tkS T n (posT T n j) + i) (by omega) (by rw [← eE]; omega)
            have := of_decide_eq_true this
            omega)
          have b : 10 ^ (tkE T n (posT T n j) - tkS T n (posT T n j)) ≤ 10 ^ 3 := Nat.pow_le_pow_right (by decide) (by omega)
          exact Nat.lt_of_lt_of_le a b
      · exact absurd h (sgc_23 _ _)
def okN (T : Nat → Nat) (n j : Nat) (lo hi : Int) : Prop := KK T n j = 23 ∧ lo ≤ (VV T n j : Int) ∧ (VV T n j : Int) ≤ hi
def nf (T : Nat → Nat) (n j : Nat) : Nat := ff T n j (if KK T n j = 23 then 3 else 2)
theorem nf_rng (T : Nat → Nat) (n j : Nat) : nf T n j ≠ 0 ∧ nf T n j ≤ 4 := by
  unfold nf; split <;> exact ff_rng T n j (by decide) (by decide)
theorem j_num {D : Nat} (hD : 2 ≤ D) {T : Nat → Nat} {n N j : Nat} {M : Mem} (h : CJ T n N j M) {lo hi : Int} (l1 : -10 ≤ lo) (l2 : lo ≤ 1000) (h1 : -10 ≤ hi) (h2 : hi ≤ 1000) : (okN T n j lo hi → ∃ M', c2 D m_Tok_passNumber [.ref 102, .int (iI lo), .int (iI hi)] M = some (.int (iI (VV T n j)), M') ∧ Eqx [102] M M' ∧ CJ T n N (j + 1) M') ∧ (¬ okN T n j lo hi → ∃ M', c2 D m_Tok_passNumber [.ref 102, .int (iI lo), .int (iI hi)] M = some (.int (iI (-1)), M') ∧ Eqx [102] M M' ∧ FC (nf T n j) (SS T n j) M') := by
  obtain ⟨d, rfl⟩ := Nat.exists_eq_add_of_le' hD
  have e := e_Tok_passNumber_0 (d + 1) (iI lo) (iI hi) M
  simp only [h.kd (c := 23) (by decide) (show (20 : Int) = (kcls 23 : Int) by decide)] at e
  have s0 : ∀ r, (c2 (d + 2) m_Tok_passNumber [.ref 102, .int (iI lo), .int (iI hi)] M = r) = (X2 (d + 1) m_Tok_passNumber 0 [.ref 102, .int (iI lo), .int (iI hi), uns] [] M = r) := fun _ => rfl
  by_cases q : KK T n j = 23
  · have v := VV_lt q
    have g : gI M 102 10 = iI (VV T n j) := h.1.2.2.2.2.2.1 q
    rw [if_pos q, g] at e
    constructor
    · intro ⟨_, o1, o2⟩
      obtain ⟨M', e1, r⟩ := j_adv (D := d + 1) (by omega) h (by omega)
      refine ⟨M', ?_, r⟩
      rw [s0, e, if_neg (by rw [iI_lt (by omega) (by omega) (by omega) (by omega)]; omega), if_neg (by rw [iI_lt (by omega) (by omega) (by omega) (by omega)]; omega), e1, bV_some]
    · intro o
      obtain ⟨M', e1, r⟩ := j_ref (D := d + 1) (by omega) h 3
      refine ⟨M', ?_, r.1, by unfold nf; rw [if_pos q]; exact r.2⟩
      rw [s0, e, show iI 3 = iI ((3 : Nat) : Int) from rfl, e1, bI_some]
      by_cases w : (VV T n j : Int) < lo
      · rw [if_pos (by rw [iI_lt (by omega) (by omega) (by omega) (by omega)]; omega)]
      · have w2 : hi < (VV T n j : Int) := by
          apply Classical.byContradiction; intro w2
          exact o ⟨q, by omega, by omega⟩
        rw [if_neg (by rw [iI_lt (by omega) (by omega) (by omega) (by omega)]; omega), if_pos (by rw [iI_lt (by omega) (by omega) (by omega) (by omega)]; omega)]
  · rw [if_neg q] at e
    refine ⟨fun o => absurd o.1 q, fun _ => ?_⟩
    obtain ⟨M', e1, r⟩ := j_ref (D := d + 1) (by omega) h 2
    refine ⟨M', ?_, r.1, by unfold nf; rw [if_neg q]; exact r.2⟩
    rw [s0, e, show iI 2 = iI ((2 : Nat) : Int) from rfl, e1, bI_some]
/-! the reference -/
theorem k_nx {D : Nat} (hD : 6 ≤ D) {T : Nat → Nat} {n j : Nat} {M : Mem} (h : MJ T n j M) : ∃ M', c2 D m_Mo_next [.ref 197] M = some (.null, M') ∧ OM M M' ∧ M'.1 201 = M.1 201 ∧ MJ T n (j + 1) M' := by
  obtain ⟨d, rfl⟩ := Nat.exists_eq_add_of_le' hD
  obtain ⟨M', e, hO, hA⟩ := c_Mo_nextJ d h.1
  exact ⟨M', e, OM.of hO, (hO.1 201 (by decide)).1, hA, (hO.2 11 (by decide) (by decide) (by decide) (by decide)).trans h.2⟩
theorem k_is {D : Nat} (hD : 1 ≤ D) {T : Nat → Nat} {n j : Nat} {M : Mem} (h : MJ T n j M) {c : Nat} (hc : c ≤ 100) : c2 D m_Mo_is [.ref 197, .int (iI c)] M = some (.int (iI (b2i (decide (KK T n j = c)))), M) := by
  obtain ⟨d, rfl⟩ := Nat.exists_eq_add_of_le' hD
  show X2 d m_Mo_is 0 [.ref 197, .int (iI c)] [] M = _
  have e := e_Mo_is_0 d (iI c) M
  simp only [h.kd hc] at e
  rw [e, if_pos h.w]
  by_cases q : KK T n j = c
  · rw [if_pos q, decide_eq_true q]; rfl
  · rw [if_neg q, decide_eq_false q]; rfl
theorem w_is {D : Nat} (hD : 1 ≤ D) {M : Mem} (h : Wr M) (x : Int32) : c2 D m_Mo_is [.ref 197, .int x] M = some (.int (iI 0), M) := by
  obtain ⟨d, rfl⟩ := Nat.exists_eq_add_of_le' hD
  show X2 d m_Mo_is 0 [.ref 197, .int x] [] M = _
  rw [e_Mo_is_0, if_neg h]
theorem k_fl {D : Nat} (hD : 1 ≤ D) {T : Nat → Nat} {n j : Nat} {M : Mem} (h : MJ T n j M) (why : Nat) : ∃ M', c2 D m_Mo_fails [.ref 197, .int (iI why)] M = some (.null, M') ∧ OM M M' ∧ M'.1 201 = M.1 201 ∧ FM (ff T n j why) (SS T n j) M' := by
  obtain ⟨d, rfl⟩ := Nat.exists_eq_add_of_le' hD
  show ∃ M', X2 d m_Mo_fails 0 [.ref 197, .int (iI why)] [] M = _ ∧ _
  have e := e_Mo_fails_0 d (iI why) M
  simp only [show (gI M 197 9 = iI 25) = (KK T n j = 25) from h.kd (c := 25) (by decide)] at e
  rw [e, if_pos h.w, show gI M 197 6 = iI (SS T n j) from h.1.2.1]
  have o : ∀ x y, OM M (wI (wI M 197 11 x) 197 12 y) := fun x y => ⟨eqx_wI (eqx_wI Eqx.rf (by simp)) (by simp), fun k _ _ _ _ a b => by rw [gI_nk b, gI_nk a]⟩
  have o2 : ∀ x y, (wI (wI M 197 11 x) 197 12 y).1 201 = M.1 201 := fun x y => ((eqx_wI (eqx_wI Eqx.rf (by simp)) (by simp) : Eqx [197] M (wI (wI M 197 11 x) 197 12 y)) 201 (by decide)).1
  unfold ff
  by_cases q : KK T n j = 25
  · rw [if_pos q, if_pos q]
    exact ⟨_, rfl, o _ _, o2 _ _, by rw [gI_nk (by decide), gI_eq]; rfl, gI_eq _ _ _ _⟩
  · rw [if_neg q, if_neg q]
    exact ⟨_, rfl, o _ _, o2 _ _, by rw [gI_nk (by decide), gI_eq], gI_eq _ _ _ _⟩
theorem w_fl {D : Nat} (hD : 1 ≤ D) {M : Mem} (h : Wr M) (x : Int32) : c2 D m_Mo_fails [.ref 197, .int x] M = some (.null, M) := by
  obtain ⟨d, rfl⟩ := Nat.exists_eq_add_of_le' hD
  show X2 d m_Mo_fails 0 [.ref 197, .int x] [] M = _
  rw [e_Mo_fails_0, if_neg h]
theorem k_eat {D : Nat} (hD : 7 ≤ D) {T : Nat → Nat} {n j : Nat} {M : Mem} (h : MJ T n j M) {c : Nat} (hc : c ≤ 100) : (KK T n j = c → ∃ M', c2 D m_Mo_eats [.ref 197, .int (iI c)] M = some (.int (iI 1), M') ∧ OM M M' ∧ M'.1 201 = M.1 201 ∧ MJ T n (j + 1) M') ∧ (KK T n j ≠ c → c2 D m_Mo_eats [.ref 197, .int (iI c)] M = some (.int (iI 0), M)) := by
  obtain ⟨d, rfl⟩ := Nat.exists_eq_add_of_le' hD
  have e := e_Mo_eats_0 (d + 6) (iI c) M
  rw [k_is (by omega) h hc, bI_some] at e
  constructor
  · intro q
    rw [decide_eq_true q, if_neg (by decide)] at e
    obtain ⟨M', e1, r⟩ := k_nx (D := d + 6) (by omega) h
    refine ⟨M', ?_, r⟩
    show X2 (d + 6) m_Mo_eats 0 [.ref 197, .int (iI c)] [] M = _
    rw [e, e1, bV_some]
  · intro q
    rw [decide_eq_false q, if_pos (by decide)] at e
    exact e
theorem w_eat {D : Nat} (hD : 2 ≤ D) {M : Mem} (h : Wr M) (x : Int32) : c2 D m_Mo_eats [.ref 197, .int x] M = some (.int (iI 0), M) := by
  obtain ⟨d, rfl⟩ := Nat.exists_eq_add_of_le' hD
  show X2 (d + 1) m_Mo_eats 0 [.ref 197, .int x] [] M = _
  rw [e_Mo_eats_0, w_is (by omega) h, bI_some, if_pos (by decide)]
theorem k_num {D : Nat} (hD : 7 ≤ D) {T : Nat → Nat} {n j : Nat} {M : Mem} (h : MJ T n j M) {lo hi : Int} (l1 : -10 ≤ lo) (l2 : lo ≤ 1000) (h1 : -10 ≤ hi) (h2 : hi ≤ 1000) : (okN T n j lo hi → ∃ M', c2 D m_Mo_takes [.ref 197, .int (iI lo), .int (iI hi)] M = some (.int (iI (VV T n j)), M') ∧ OM M M' ∧ M'.1 201 = M.1 201 ∧ MJ T n (j + 1) M') ∧ (¬ okN T n j lo hi → ∃ v M', c2 D m_Mo_takes [.ref 197, .int (iI lo), .int (iI hi)] M = some (.int v, M') ∧ OM M M' ∧ M'.1 201 = M.1 201 ∧ FM (nf T n j) (SS T n j) M') := by
  obtain ⟨d, rfl⟩ := Nat.exists_eq_add_of_le' hD
  have e := e_Mo_takes_0 (d + 6) (iI lo) (iI hi) M
  rw [show iI 23 = iI ((23 : Nat) : Int) from rfl, k_is (by omega) h (by decide), bI_some] at e
  have s0 : ∀ r, (c2 (d + 7) m_Mo_takes [.ref 197, .int (iI lo), .int (iI hi)] M = r) = (X2 (d + 6) m_Mo_takes 0 [.ref 197, .int (iI lo), .int (iI hi), uns] [] M = r) := fun _ => rfl
  by_cases q : KK T n j = 23
  · have v := VV_lt q
    have g : gI M 197 10 = iI (VV T n j) := h.1.2.2.2.2 q
    rw [decide_eq_true q, if_neg (by decide), c_Mo_within (d + 5), bI_some, g, if_pos h.w, Int32.toInt_toInt64, Int32.toInt_toInt64, Int32.toInt_toInt64, iI_toInt (by omega) (by omega), iI_toInt (by omega) (by omega), iI_toInt (by omega) (by omega)] at e
    constructor
    · intro ⟨_, o1, o2⟩
      rw [decide_eq_true ⟨o1, o2⟩, if_neg (by decide)] at e
      obtain ⟨M', e1, r⟩ := k_nx (D := d + 6) (by omega) h
      refine ⟨M', ?_, r⟩
      rw [s0, e, e1, bV_some]
    · intro o
      rw [decide_eq_false (fun w => o ⟨q, w.1, w.2⟩), if_pos (by decide)] at e
      obtain ⟨M', e1, r⟩ := k_fl (D := d + 6) (by omega) h 3
      have w := r.2.2.wr (ff_rng T n j (by decide) (by decide)).1 (ff_rng T n j (by decide) (by decide)).2
      refine ⟨gI M' 197 10, M', ?_, r.1, r.2.1, by unfold nf; rw [if_pos q]; exact r.2.2⟩
      rw [s0, e, show iI 3 = iI ((3 : Nat) : Int) from rfl, e1, bV_some, if_neg w]
  · rw [decide_eq_false q, if_pos (by decide)] at e
    refine ⟨fun o => absurd o.1 q, fun _ => ?_⟩
    obtain ⟨M', e1, r⟩ := k_fl (D := d + 6) (by omega) h 2
    have w := r.2.2.wr (ff_rng T n j (by decide) (by decide)).1 (ff_rng T n j (by decide) (by decide)).2
    refine ⟨gI M' 197 10, M', ?_, r.1, r.2.1, by unfold nf; rw [if_neg q]; exact r.2.2⟩
    rw [s0, e, show iI 2 = iI ((2 : Nat) : Int) from rfl, e1, bV_some, if_neg w]
theorem w_num {D : Nat} (hD : 2 ≤ D) {M : Mem} (h : Wr M) (x y : Int32) : ∃ v, c2 D m_Mo_takes [.ref 197, .int x, .int y] M = some (.int v, M) := by
  obtain ⟨d, rfl⟩ := Nat.exists_eq_add_of_le' hD
  refine ⟨gI M 197 10, ?_⟩
  show X2 (d + 1) m_Mo_takes 0 [.ref 197, .int x, .int y, uns] [] M = _
  rw [e_Mo_takes_0, w_is (by omega) h, bI_some, if_pos (by decide), w_fl (by omega) h, bV_some, if_neg h]
