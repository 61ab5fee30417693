/-! THE CLASS: places found one by one. -/
def goalB (gl : Int) (p : Nat) : Bool := if gl = -2 then decide (p / 512 = 4) else decide (((p % 512 : Nat) : Int) = gl)
def exB (gl : Int) (p : Nat) : Bool := !(decide (gl = -3) && decide (p / 512 = 4))
theorem c_Rch_isGoal (d : Nat) {p : Nat} {gl : Int} (hp : p < 2560) (h1 : -3 ≤ gl) (h2 : gl ≤ 511) (M : Mem) : c2 (d + 1) m_Rch_isGoal [.int (iI p), .int (iI gl)] M = some (.int (iI (b2i (goalB gl p))), M) := by
  show X2 d m_Rch_isGoal 0 [.int (iI p), .int (iI gl)] [] M = _
  rw [e_Rch_isGoal_0, shr9 (by omega), and511m, goalB]
  by_cases h : gl = -2
  · rw [if_pos (by rw [h]), if_pos h]
    by_cases q : p / 512 = 4
    · rw [if_pos (by rw [q]; rfl), decide_eq_true q]; rfl
    · rw [if_neg (by rw [iI_eq (by omega) (by omega) (by omega) (by omega)]; omega), decide_eq_false q]; rfl
  · rw [if_neg (by rw [iI_eq (by omega) (by omega) (by omega) (by omega)]; exact h), if_neg h]
    by_cases q : ((p % 512 : Nat) : Int) = gl
    · rw [if_pos (by rw [q]), decide_eq_true q]; rfl
    · rw [if_neg (by rw [iI_eq (by omega) (by omega) (by omega) (by omega)]; exact q), decide_eq_false q]; rfl
theorem upn_eq (f : Nat → Nat) (n p : Nat) : upn f n p n = p := if_pos rfl
theorem upn_lt {f : Nat → Nat} {n p i : Nat} (h : i < n) : upn f n p i = f i := if_neg (by omega)
/-- N nodes found, by the edges below E -/
def ExpC (M : Mem) (z : Row) (tm N E : Nat) (pl cb : Nat → Nat) (ex : Nat → Bool) : Prop :=
  ReachC M N pl ∧ 1 ≤ N ∧ gI M 136 0 = iI (-1) ∧
  (∀ i, 1 ≤ i → i < N → gI M 136 i = iI (cb i) ∧ cb i < 2 * i ∧ pl i = pas z tm (pl (cb i / 2)) (cb i % 2) ∧ ex (pl (cb i / 2)) = true ∧ cb i ≤ E) ∧
  (∀ i j, 1 ≤ i → i < j → j < N → cb i < cb j) ∧
  (∀ e, e < E → e / 2 < N ∧ (ex (pl (e / 2)) = true → ∃ j, j < N ∧ gI M 135 e = iI j ∧ pl j = pas z tm (pl (e / 2)) (e % 2) ∧ (1 ≤ j → cb j ≤ e)))
theorem ExpC.fr {M M' : Mem} {z : Row} {tm N E : Nat} {pl cb : Nat → Nat} {ex : Nat → Bool} (h : ExpC M z tm N E pl cb ex) (hf : ∀ a, 133 ≤ a → a ≤ 137 → M'.1 a = M.1 a) : ExpC M' z tm N E pl cb ex := by
  unfold ExpC gI at *
  rw [hf 135 (by decide) (by decide), hf 136 (by decide) (by decide)]
  exact ⟨h.1.fr (hf 133 (by decide) (by decide)) (hf 134 (by decide) (by decide)) (hf 137 (by decide) (by decide)), h.2⟩
/-- nodes, and the edge e added: the node was there -/
theorem ExpC.old {M : Mem} {z : Row} {tm N E : Nat} {pl cb : Nat → Nat} {ex : Nat → Bool} (h : ExpC M z tm N E pl cb ex) (hE : E < 2 * N) {i : Nat} (hi : i < N) (hp : pl i = pas z tm (pl (E / 2)) (E % 2)) (hst : ∀ i, 1 ≤ i → i < N → cb i < E) : ExpC (wI M 135 E (iI i)) z tm N (E + 1) pl cb ex := by
  obtain ⟨h1, h2, h3, h4, h5, h6⟩ := h
  refine ⟨h1.fr (wI_na (by decide)) (wI_na (by decide)) (wI_na (by decide)), h2, by rw [gI_na (by decide)]; exact h3, ?_, h5, ?_⟩
  · intro k k1 k2
    obtain ⟨a, b, c, d, e⟩ := h4 k k1 k2
    exact ⟨by rw [gI_na (by decide)]; exact a, b, c, d, by omega⟩
  · intro e he
    by_cases q : e = E
    · subst q
      exact ⟨by omega, fun _ => ⟨i, hi, gI_eq _ _ _ _, hp, fun h1 => by have := hst i h1 hi; omega⟩⟩
    · obtain ⟨a, b⟩ := h6 e (by omega)
      refine ⟨a, fun hx => ?_⟩
      obtain ⟨j, b1, b2, b3, b4⟩ := b hx
      exact ⟨j, b1, by rw [gI_nk q]; exact b2, b3, b4⟩
/-- the edge E is passed over -/
theorem ExpC.skip {M : Mem} {z : Row} {tm N E : Nat} {pl cb : Nat → Nat} {ex : Nat → Bool} (h : ExpC M z tm N E pl cb ex) (hE : E < 2 * N) (hx : ex (pl (E / 2)) = false) : ExpC M z tm N (E + 1) pl cb ex := by
  obtain ⟨h1, h2, h3, h4, h5, h6⟩ := h
  refine ⟨h1, h2, h3, ?_, h5, ?_⟩
  · intro k k1 k2
    obtain ⟨a, b, c, d, e⟩ := h4 k k1 k2
    exact ⟨a, b, c, d, by omega⟩
  · intro e he
    by_cases q : e = E
    · subst q
      exact ⟨by omega, fun hx2 => by rw [hx] at hx2; exact absurd hx2 (by decide)⟩
    · exact h6 e (by omega)
/-- a node added by the edge E -/
theorem ExpC.add {M M' : Mem} {z : Row} {tm N E : Nat} {pl cb : Nat → Nat} {ex : Nat → Bool} (h : ExpC M z tm N E pl cb ex) (hE : E < 2 * N) {q : Nat} (hq : q = pas z tm (pl (E / 2)) (E % 2)) (hx : ex (pl (E / 2)) = true) (hst : ∀ i, 1 ≤ i → i < N → cb i < E)
    (hR : ReachC M' (N + 1) (upn pl N q)) (h6 : gI M' 136 N = iI E) (h7 : ∀ k, k ≠ N → gI M' 136 k = gI M 136 k) (h8 : M'.1 135 = M.1 135) : ExpC M' z tm (N + 1) E (upn pl N q) (upn cb N E) ex := by
  obtain ⟨g1, g2, g3, g4, g5, g6⟩ := h
  refine ⟨hR, by omega, by rw [h7 0 (by omega)]; exact g3, ?_, ?_, ?_⟩
  · intro k k1 k2
    by_cases e : k = N
    · subst e
      rw [upn_eq, upn_eq, upn_lt (show E / 2 < k by omega)]
      exact ⟨h6, hE, hq, hx, Nat.le_refl _⟩
    · obtain ⟨a, b, c, d, f⟩ := g4 k k1 (by omega)
      rw [upn_lt (show k < N by omega), upn_lt (show k < N by omega), upn_lt (show cb k / 2 < N by omega), h7 k e]
      exact ⟨a, b, c, d, f⟩
  · intro i j i1 i2 i3
    by_cases e : j = N
    · subst e
      rw [upn_eq, upn_lt i2]; exact hst i i1 i2
    · rw [upn_lt (show j < N by omega), upn_lt (show i < N by omega)]
      exact g5 i j i1 i2 (by omega)
  · intro e he
    obtain ⟨a, b⟩ := g6 e he
    refine ⟨by omega, ?_⟩
    rw [upn_lt a]
    intro hx2
    obtain ⟨j, b1, b2, b3, b4⟩ := b hx2
    refine ⟨j, by omega, ?_, ?_, ?_⟩
    · unfold gI at *; rw [h8]; exact b2
    · rw [upn_lt b1]; exact b3
    · rw [upn_lt b1]; exact b4
def expS (r : Nat) : List Nat := [128, 129, 130, 131, 133, 134, 135, 136, 137, r + 6, r + 9]
theorem expS_mem {r a : Nat} : a ∈ expS r ↔ ((128 ≤ a ∧ a ≤ 131) ∨ (133 ≤ a ∧ a ≤ 137) ∨ a = r + 6 ∨ a = r + 9) := by
  simp only [expS, List.mem_cons, List.not_mem_nil, or_false]; omega
/-- what is found, told in all: none as looked for, or the last one -/
def ExpR (M : Mem) (z : Row) (tm p0 w0 : Nat) (gl : Int) (res : Int) (N E : Nat) (pl cb : Nat → Nat) : Prop :=
  ExpC M z tm N E pl cb (exB gl) ∧ pl 0 = p0 ∧ (∀ i, i < N → WIn w0 (pl i)) ∧
  ((res = -1 ∧ E = 2 * N ∧ (∀ i, i < N → goalB gl (pl i) = false)) ∨ (res = ((N - 1 : Nat) : Int) ∧ goalB gl (pl (N - 1)) = true ∧ (∀ i, i < N - 1 → goalB gl (pl i) = false) ∧ (2 ≤ N → cb (N - 1) = E)))
theorem c_Rch_explore (d : Nat) {M0 : Mem} {r : Nat} {z : Row} {tm st p0 w0 : Nat} {gl : Int} (hS : StepsC M0 r z tm st) (hp : WIn w0 p0) (hg1 : -3 ≤ gl) (hg2 : gl ≤ 511) :
    ∃ M' N E pl cb res, c2 (d + 7) m_Rch_explore [.ref 133, .ref 127, .int (iI p0), .int (iI gl)] M0 = some (.int (iI res), M') ∧ ExpR M' z tm p0 w0 gl res N E pl cb ∧ StepsC M' r z tm st ∧ Eqx (expS r) M0 M' := by
  have hz := hS.2.2.2.1
  have hr := hS.1
  have hrl := rm_lt r hr
  have go : ∀ j E N pl cb M v2 v5 v6 v7, j + E = 2049 → ExpC M z tm N E pl cb (exB gl) → E ≤ 2 * N → (∀ i, 1 ≤ i → i < N → cb i < E) → pl 0 = p0 → (∀ i, i < N → WIn w0 (pl i)) → (∀ i, i < N → goalB gl (pl i) = false) → StepsC M r z tm st → Eqx (expS r) M0 M →
      ∃ M' N' E' pl' cb' res, X2 (d + 6) m_Rch_explore 25 [.ref 133, .ref 127, v2, .int (iI gl), .int (iI (E : Nat)), v5, v6, v7] [] M = some (.int (iI res), M') ∧ ExpR M' z tm p0 w0 gl res N' E' pl' cb' ∧ StepsC M' r z tm st ∧ Eqx (expS r) M0 M' := by
    intro j
    induction j with
    | zero =>
      intro E N pl cb M v2 v5 v6 v7 hj hX hE _ _ _ _ _ _
      have := hX.1.2.1
      omega
    | succ j ih =>
      intro E N pl cb M v2 v5 v6 v7 hj hX hE hst h0 hW hG hS1 hM
      have hN := hX.1.2.1
      rw [e_Rch_explore_25, hX.1.1, iI_mul]
      by_cases hq : E < 2 * N
      · have hpe := hX.1.2.2 (E / 2) (by omega)
        have e2 : iI E / iI 2 = iI ((E / 2 : Nat) : Int) := iI_div (b := 2) (by omega) (by decide)
        have e3 : irm (iI E) (iI 2) = iI ((E % 2 : Nat) : Int) := iI_rem (b := 2) (by omega) (by decide)
        rw [if_pos (by rw [iI_lt (by omega) (by omega) (by omega) (by omega)]; omega), if_pos (by rw [iI_lt (by omega) (by omega) (by omega) (by omega)]; omega), e2, inb_ok (by omega) (by omega) (by omega), gb_T, ix_nat (by omega), hpe.1, shr9 (by omega)]
        -- the step at 75
        have step : exB gl (pl (E / 2)) = true → ∃ M' N' E' pl' cb' res, X2 (d + 6) m_Rch_explore 75 [.ref 133, .ref 127, v2, .int (iI gl), .int (iI (E : Nat)), .int (iI (pl (E / 2))), v6, v7] [] M = some (.int (iI res), M') ∧ ExpR M' z tm p0 w0 gl res N' E' pl' cb' ∧ StepsC M' r z tm st ∧ Eqx (expS r) M0 M' := by
          intro hex
          obtain ⟨M1, e1, hE1, hS2⟩ := c_Stp_next (d + 1) (p := pl (E / 2)) (bl := E % 2) hS1 hpe.2.1 (by omega)
          have hX1 : ExpC M1 z tm N E pl cb (exB gl) := hX.fr (fun a a1 a2 => (hE1 a (by simp; omega)).1)
          have hM1 : Eqx (expS r) M0 M1 := hM.tr (hE1.mono (fun a ha => expS_mem.mpr (by simp only [List.mem_cons, List.not_mem_nil, or_false] at ha; omega)))
          generalize hqq : pas z tm (pl (E / 2)) (E % 2) = q at *
          have hWq : WIn w0 q := hqq ▸ pas_who hz tm (E % 2) (hW (E / 2) (by omega))
          obtain ⟨x, e4, hx⟩ := c_Rch_nodeOf (d + 5) hX1.1 hWq.1
          rw [e_Rch_explore_75, e3, e1, bI_some, e4, bI_some]
          rcases hx with ⟨i, hi, hpi, rfl⟩ | ⟨hne, rfl⟩
          · rw [if_neg (by rw [iI_eq (by omega) (by omega) (by omega) (by omega)]; omega), inb_ok (by omega) (by omega) (by omega), gb_T, ix_nat (by omega), iI_add]
            refine ih (E + 1) N pl cb _ _ _ _ _ (by omega) (hX1.old hq hi (by rw [hpi, hqq]) hst) (by omega) (fun k k1 k2 => by have := hst k k1 k2; omega) h0 hW hG (hS2.fq (eqx_wI Eqx.rf (by simp) : Eqx [135] M1 _) (by intro a ha; simp only [List.mem_cons, List.not_mem_nil, or_false] at ha; omega)) (eqx_wI hM1 (expS_mem.mpr (by omega)))
          · have hinj := hX1.1.inj
            have hN1 : N + 1 ≤ 1024 := win_pigeon (w0 := w0) (g := upn pl N q) (fun i hi => by
              by_cases e : i = N
              · subst e; rw [upn_eq]; exact hWq
              · rw [upn_lt (show i < N by omega)]; exact hW i (by omega)) (fun i hi k hk e => by
              by_cases a : i = N
              · by_cases b : k = N
                · omega
                · subst a; rw [upn_eq, upn_lt (show k < i by omega)] at e; exact absurd e.symm (hne k (by omega))
              · by_cases b : k = N
                · subst b; rw [upn_eq, upn_lt (show i < k by omega)] at e; exact absurd e (hne i (by omega))
                · rw [upn_lt (show i < N by omega), upn_lt (show k < N by omega)] at e; exact hinj i (by omega) k (by omega) e)
            obtain ⟨M2, e5, hE2, hR2, h6, h7⟩ := c_Rch_add (d + 5) hX1.1 (by omega) hWq.1 hne (iI E)
            have hX2 := hX1.add (M' := M2) hq hqq.symm hex hst hR2 h6 h7 (hE2 135 (by decide)).1
            have hS3 : StepsC M2 r z tm st := hS2.fq hE2 (by intro a ha; simp only [List.mem_cons, List.not_mem_nil, or_false] at ha; omega)
            have hM2 : Eqx (expS r) M0 M2 := hM1.tr (hE2.mono (fun a ha => expS_mem.mpr (by simp only [List.mem_cons, List.not_mem_nil, or_false] at ha; omega)))
            have h0' : upn pl N q 0 = p0 := by rw [upn_lt (by have := hX.2.1; omega)]; exact h0
            have hW' : ∀ i, i < N + 1 → WIn w0 (upn pl N q i) := fun i hi => by
              by_cases e : i = N
              · subst e; rw [upn_eq]; exact hWq
              · rw [upn_lt (show i < N by omega)]; exact hW i (by omega)
            rw [if_pos rfl, e5, bI_some, c_Rch_isGoal _ hWq.1 hg1 hg2, bI_some]
            cases hgq : goalB gl q
            · rw [b2i_f, if_pos (by decide), inb_ok (by omega) (by omega) (by omega), gb_T, ix_nat (by omega), iI_add]
              refine ih (E + 1) (N + 1) (upn pl N q) (upn cb N E) _ _ _ _ _ (by omega) ?_ (by omega) ?_ h0' hW' ?_ (hS3.fq (eqx_wI Eqx.rf (by simp) : Eqx [135] M2 _) (by intro a ha; simp only [List.mem_cons, List.not_mem_nil, or_false] at ha; omega)) (eqx_wI hM2 (expS_mem.mpr (by omega)))
              · obtain ⟨g1, g2, g3, g4, g5, g6⟩ := hX2
                refine ⟨g1.fr (wI_na (by decide)) (wI_na (by decide)) (wI_na (by decide)), g2, by rw [gI_na (by decide)]; exact g3, ?_, g5, ?_⟩
                · intro k k1 k2
                  obtain ⟨a, b, c, dd, e⟩ := g4 k k1 k2
                  exact ⟨by rw [gI_na (by decide)]; exact a, b, c, dd, by omega⟩
                · intro e he
                  by_cases qe : e = E
                  · subst qe
                    refine ⟨by omega, fun _ => ⟨N, by omega, gI_eq _ _ _ _, ?_, fun _ => by rw [upn_eq]; exact Nat.le_refl _⟩⟩
                    rw [upn_eq, upn_lt (show e / 2 < N by omega)]; exact hqq.symm
                  · obtain ⟨a, b⟩ := g6 e (by omega)
                    refine ⟨a, fun hx2 => ?_⟩
                    obtain ⟨j', b1, b2, b3, b4⟩ := b hx2
                    exact ⟨j', b1, by rw [gI_nk qe]; exact b2, b3, b4⟩
              · intro k k1 k2
                by_cases e : k = N
                · subst e; rw [upn_eq]; omega
                · rw [upn_lt (show k < N by omega)]; have := hst k k1 (by omega); omega
              · intro i hi
                by_cases e : i = N
                · subst e; rw [upn_eq]; exact hgq
                · rw [upn_lt (show i < N by omega)]; exact hG i (by omega)
            · rw [b2i_t, if_neg (by decide)]
              refine ⟨M2, N + 1, E, upn pl N q, upn cb N E, (N : Int), rfl, ⟨hX2, h0', hW', Or.inr ⟨by omega, ?_, ?_, ?_⟩⟩, hS3, hM2⟩
              · rw [show N + 1 - 1 = N from rfl, upn_eq]; exact hgq
              · intro i hi
                rw [upn_lt (show i < N by omega)]; exact hG i (by omega)
              · intro _
                rw [show N + 1 - 1 = N from rfl, upn_eq]
        by_cases hi3 : gl = -3
        · rw [if_pos (by rw [hi3])]
          by_cases h4 : pl (E / 2) / 512 = 4
          · rw [if_pos (by rw [h4]; rfl), iI_add]
            exact ih (E + 1) N pl cb M _ _ _ _ (by omega) (hX.skip hq (by rw [exB, decide_eq_true hi3, decide_eq_true h4]; rfl)) (by omega) (fun k k1 k2 => by have := hst k k1 k2; omega) h0 hW hG hS1 hM
          · rw [if_neg (by rw [iI_eq (by omega) (by omega) (by omega) (by omega)]; omega)]
            exact step (by rw [exB, decide_eq_false h4, Bool.and_false]; rfl)
        · rw [if_neg (by rw [iI_eq (by omega) (by omega) (by omega) (by omega)]; exact hi3)]
          exact step (by rw [exB, decide_eq_false hi3, Bool.false_and]; rfl)
      · rw [if_neg (by rw [iI_lt (by omega) (by omega) (by omega) (by omega)]; omega)]
        exact ⟨M, N, E, pl, cb, -1, rfl, ⟨hX, h0, hW, Or.inl ⟨rfl, by omega, hG⟩⟩, hS1, hM⟩
  show ∃ M' N E pl cb res, X2 (d + 6) m_Rch_explore 0 [.ref 133, .ref 127, .int (iI p0), .int (iI gl), uns, uns, uns, uns] [] M0 = _ ∧ _
  have hE0 : Eqx [133] M0 (wI M0 133 1 (iI 0)) := eqx_wI Eqx.rf (by simp)
  obtain ⟨M1, e1, hE1, hR1, h6, h7⟩ := c_Rch_add (d + 5) (M := wI M0 133 1 (iI 0)) (n := 0) (pl := fun _ => p0) ⟨gI_eq _ _ _ _, by decide, fun i hi => absurd hi (Nat.not_lt_zero i)⟩ (by decide) hp.1 (fun i hi => absurd hi (Nat.not_lt_zero i)) (iI (-1))
  have hE2 : Eqx (expS r) M0 M1 := (hE0.mono (fun a ha => expS_mem.mpr (by simp only [List.mem_cons, List.not_mem_nil, or_false] at ha; omega))).tr (hE1.mono (fun a ha => expS_mem.mpr (by simp only [List.mem_cons, List.not_mem_nil, or_false] at ha; omega)))
  have hS1 : StepsC M1 r z tm st := (hS.fq hE0 (by intro a ha; simp only [List.mem_cons, List.not_mem_nil, or_false] at ha; omega)).fq hE1 (by intro a ha; simp only [List.mem_cons, List.not_mem_nil, or_false] at ha; omega)
  have hpl : upn (fun _ => p0) 0 p0 = fun _ => p0 := by funext i; unfold upn; split <;> rfl
  rw [hpl] at hR1
  have hX : ExpC M1 z tm 1 0 (fun _ => p0) (fun _ => 0) (exB gl) := ⟨hR1, by decide, h6, fun i i1 i2 => by omega, fun i j i1 i2 i3 => by omega, fun e he => absurd he (Nat.not_lt_zero e)⟩
  rw [e_Rch_explore_0, e1, bI_some, c_Rch_isGoal _ hp.1 hg1 hg2, bI_some]
  cases hgq : goalB gl p0
  · rw [b2i_f, if_pos (by decide)]
    exact go 2049 0 1 (fun _ => p0) (fun _ => 0) M1 _ _ _ _ (by omega) hX (by omega) (fun i i1 i2 => by omega) rfl (fun _ _ => hp) (fun _ _ => hgq) hS1 hE2
  · rw [b2i_t, if_neg (by decide)]
    exact ⟨M1, 1, 0, (fun _ => p0), (fun _ => 0), 0, rfl, ⟨hX, rfl, fun _ _ => hp, Or.inr ⟨rfl, hgq, fun i hi => absurd hi (Nat.not_lt_zero i), fun h => by omega⟩⟩, hS1, hE2⟩
