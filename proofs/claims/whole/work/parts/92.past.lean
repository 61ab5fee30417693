/-! WHAT CAN BE BROUGHT BACK. -/
def pastL : List Nat := [114, 116, 117, 118, 119, 120, 121, 122, 123, 124, 125]
theorem pastL_mem {a : Nat} : a ∈ pastL ↔ (a = 114 ∨ (116 ≤ a ∧ a ≤ 125)) := by
  simp only [pastL, List.mem_cons, List.not_mem_nil, or_false]; omega
theorem kp_ref {k : Nat} (h : k < 10) (M : Mem) : gR M 115 k = 116 + k ∧ 116 + k ∈ moms := by
  rcases (show k = 0 ∨ k = 1 ∨ k = 2 ∨ k = 3 ∨ k = 4 ∨ k = 5 ∨ k = 6 ∨ k = 7 ∨ k = 8 ∨ k = 9 by omega) with q | q | q | q | q | q | q | q | q | q <;> subst q <;> exact ⟨rfl, by decide⟩
theorem c_Mat_min (d : Nat) (x y : Int) (hx1 : -2147483648 ≤ x) (hx2 : x ≤ 2147483647) (hy1 : -2147483648 ≤ y) (hy2 : y ≤ 2147483647) (M : Mem) : c2 (d + 1) m_Mat_min [.int (iI x), .int (iI y)] M = some (.int (iI (if y < x then y else x)), M) := by
  show X2 d m_Mat_min 0 [.int (iI x), .int (iI y)] [] M = _
  rw [e_Mat_min_0]
  simp only [iI_lt hy1 hy2 hx1 hx2]
  split <;> rfl
/-- the moments kept, one more -/
def psh (f : Nat → Mo) (nd : Nat) (m : Mo) (j : Nat) : Mo := if nd = 10 then (if j = 9 then m else f (j + 1)) else (if j = nd then m else f j)
def nd1 (nd : Nat) : Nat := if nd = 10 then 10 else nd + 1
theorem psh_all {P : Mo → Prop} {f : Nat → Mo} {nd : Nat} {m : Mo} (hn : nd ≤ 10) (h : ∀ j, j < nd → P (f j)) (hm : P m) : ∀ j, j < nd1 nd → P (psh f nd m j) := by
  intro j hj
  unfold nd1 at hj
  unfold psh
  split
  · rename_i q
    rw [if_pos q] at hj
    split
    · exact hm
    · exact h _ (by omega)
  · rename_i q
    rw [if_neg q] at hj
    split
    · exact hm
    · exact h _ (by omega)
theorem c_Past_keep (d : Nat) {M : Mem} {nx nd a : Nat} {f : Nat → Mo} {m : Mo} (h : PastC M nx nd f) (ha : a ∈ moms) (ha2 : a < 116) (hm : MoC M a m) :
    ∃ M', c2 (d + 2) m_Past_keep [.ref 114, .ref a] M = some (.null, M') ∧ Eqx pastL M M' ∧ PastC M' ((nx + 1) % 10) (nd1 nd) (psh f nd m) := by
  obtain ⟨a1, a2, a3, a4, a5⟩ := h
  obtain ⟨kr, km⟩ := kp_ref a2 M
  obtain ⟨M1, e1, hE1, hm1⟩ := c_Mom_copy d km ha (by omega) hm
  have g1 : gI M1 114 1 = iI nx := (eqx_I hE1 (ni1 (by omega)) 1).trans a1
  have g2 : gI M1 114 2 = iI nd := (eqx_I hE1 (ni1 (by omega)) 2).trans a3
  show ∃ M', X2 (d + 1) m_Past_keep 0 [.ref 114, .ref a] [] M = _ ∧ _
  have i1 : (false || inb (iI nx) 10 || false) = true := by rw [inb_ok (by omega) (by omega) (by omega)]; rfl
  have er : irm (iI nx + iI 1) (iI 10) = iI (((nx + 1) % 10 : Nat) : Int) := by
    rw [iI_add, show (nx : Int) + 1 = ((nx + 1 : Nat) : Int) from rfl, show iI 10 = iI ((10 : Nat) : Int) from rfl, iI_rem (by omega) (by decide)]
  rw [e_Past_keep_0, a1, i1, gb_T, ix_nat (by omega), kr, mm_k _ _ km, tt_and, gb_T, e1, bV_some, g1, g2, er, iI_add, c_Mat_min _ _ _ (by omega) (by omega) (by omega) (by omega), bI_some]
  have e10 : (if (10 : Int) < (nd : Int) + 1 then (10 : Int) else (nd : Int) + 1) = (nd1 nd : Int) := by
    unfold nd1
    by_cases q : nd = 10
    · rw [if_pos (by omega), if_pos q]; rfl
    · rw [if_neg (by omega), if_neg q]; rfl
  rw [e10]
  have hE2 : Eqx pastL M (wI (wI M1 114 1 (iI (((nx + 1) % 10 : Nat) : Int))) 114 2 (iI (nd1 nd))) := eqx_wI (eqx_wI (hE1.mono (fun b hb => pastL_mem.mpr (by simp only [List.mem_cons, List.not_mem_nil, or_false] at hb; omega))) (pastL_mem.mpr (by omega))) (pastL_mem.mpr (by omega))
  have hn1 : nd1 nd ≤ 10 := by unfold nd1; split <;> omega
  refine ⟨_, rfl, hE2, by rw [gI_nk (by decide), gI_eq], by omega, gI_eq _ _ _ _, hn1, ?_⟩
  intro j hj
  have fr : ∀ b mm, b ≠ 114 → MoC M1 b mm → MoC (wI (wI M1 114 1 (iI (((nx + 1) % 10 : Nat) : Int))) 114 2 (iI (nd1 nd))) b mm := fun b mm hb h => h.fr (by rw [wI_na hb, wI_na hb])
  have old : ∀ b mm, b ≠ 116 + nx → MoC M b mm → MoC M1 b mm := fun b mm hb h => h.fr (hE1 b (ni1 hb)).1
  apply fr _ _ (by omega)
  unfold psh
  by_cases q : nd = 10
  · rw [if_pos q, show nd1 nd = 10 from if_pos q]
    rw [show nd1 nd = 10 from if_pos q] at hj
    by_cases q2 : j = 9
    · rw [if_pos q2, show ((nx + 1) % 10 + 10 - 10 + j) % 10 = nx by omega]; exact hm1
    · rw [if_neg q2]
      have := a5 (j + 1) (by omega)
      rw [show (nx + 10 - nd + (j + 1)) % 10 = ((nx + 1) % 10 + 10 - 10 + j) % 10 by omega] at this
      exact old _ _ (by omega) this
  · rw [if_neg q, show nd1 nd = nd + 1 from if_neg q]
    rw [show nd1 nd = nd + 1 from if_neg q] at hj
    by_cases q2 : j = nd
    · rw [if_pos q2, show ((nx + 1) % 10 + 10 - (nd + 1) + j) % 10 = nx by omega]; exact hm1
    · rw [if_neg q2]
      have := a5 j (by omega)
      rw [show (nx + 10 - nd + j) % 10 = ((nx + 1) % 10 + 10 - (nd + 1) + j) % 10 by omega] at this
      exact old _ _ (by omega) this
/-! the reference -/
def WasM (M : Mem) (m : Mo) : Prop := gI M 204 0 = iI m.1 ∧ gI M 204 1 = iI m.2.1 ∧ gI M 204 2 = iI m.2.2.1 ∧ gI M 204 3 = m.2.2.2
theorem WasM.fr {M M' : Mem} {m : Mo} (h : WasM M m) (hf : M'.1 204 = M.1 204) : WasM M' m := by unfold WasM gI at *; rw [hf]; exact h
theorem c_Mo_keeps (d : Nat) {M : Mem} {m : Mo} (h : momAt (M.1 198) 25 m) : ∃ M', c2 (d + 1) m_Mo_keeps [.ref 197] M = some (.null, M') ∧ Eqx [204] M M' ∧ WasM M' m := by
  have st : ∀ (k : Nat) (M' : Mem), k < 4 → M'.1 198 = M.1 198 → X2 d m_Mo_keeps 2 [.ref 197, .int (iI k)] [] M' = X2 d m_Mo_keeps 2 [.ref 197, .int (iI ((k + 1 : Nat) : Int))] [] (wI M' 204 k (M.1 198 (25 + k))) := by
    intro k M' hk hM
    rw [e_Mo_keeps_2, if_pos (by rw [iI_lt (by omega) (by omega) (by omega) (by omega)]; omega), iI_add, inb_ok (by omega) (by omega) (by omega), gb_T, inb_ok (by omega) (by omega) (by omega), gb_T, ix_nat (by omega), ix_eq (n := 25 + k) (by omega) (by omega), iI_add, gI, hM]
    rfl
  show ∃ M', X2 d m_Mo_keeps 0 [.ref 197, uns] [] M = _ ∧ _
  have s0 := st 0 M (by decide) rfl
  have s1 := st 1 (wI M 204 0 (M.1 198 (25 + 0))) (by decide) (by rw [wI_na (by decide)])
  have s2 := st 2 (wI (wI M 204 0 (M.1 198 (25 + 0))) 204 1 (M.1 198 (25 + 1))) (by decide) (by rw [wI_na (by decide), wI_na (by decide)])
  have s3 := st 3 (wI (wI (wI M 204 0 (M.1 198 (25 + 0))) 204 1 (M.1 198 (25 + 1))) 204 2 (M.1 198 (25 + 2))) (by decide) (by rw [wI_na (by decide), wI_na (by decide), wI_na (by decide)])
  have s0' : X2 d m_Mo_keeps 2 [.ref 197, .int (iI 0)] [] M = _ := s0
  rw [e_Mo_keeps_0, s0', s1, s2, s3, e_Mo_keeps_2, if_neg (by decide)]
  refine ⟨_, rfl, eqx_wI (eqx_wI (eqx_wI (eqx_wI Eqx.rf (by simp)) (by simp)) (by simp)) (by simp), ?_, ?_, ?_, ?_⟩
  · rw [gI_nk (by decide), gI_nk (by decide), gI_nk (by decide), gI_eq]; exact h.1
  · rw [gI_nk (by decide), gI_nk (by decide), gI_eq]; exact h.2.1
  · rw [gI_nk (by decide), gI_eq]; exact h.2.2.1
  · rw [gI_eq]; exact h.2.2.2
/-- rows alike but for what can be brought back -/
def NotR (z z' : Row) : Prop := ∀ k, k < 29 ∨ 69 < k → z' k = z k
theorem c_Mo_notes (d : Nat) {M : Mem} {m : Mo} {nd : Nat} {f : Nat → Mo} (hw : WasM M m) (hp : PastM (M.1 198) nd f) (hn : nd ≤ 10) :
    ∃ M', c2 (d + 1) m_Mo_notes [.ref 197] M = some (.null, M') ∧ Eqx [198] M M' ∧ NotR (M.1 198) (M'.1 198) ∧ PastM (M'.1 198) (nd1 nd) (psh f nd m) := by
  -- writing the latest
  have wr : ∀ (M0 : Mem) (n : Nat) (g : Nat → Mo), Eqx [198] M M0 → NotR (M.1 198) (M0.1 198) → n ≤ 9 → PastM (M0.1 198) n g → ∃ M', X2 d m_Mo_notes 57 [.ref 197, .int (iI 0)] [] M0 = some (.null, M') ∧ Eqx [198] M M' ∧ NotR (M.1 198) (M'.1 198) ∧ PastM (M'.1 198) (n + 1) (fun j => if j = n then m else g j) := by
    intro M0 n g hE hN hn9 hP
    have st : ∀ (k : Nat) (M' : Mem), k < 4 → M'.1 198 29 = iI n → M'.1 204 = M.1 204 → X2 d m_Mo_notes 57 [.ref 197, .int (iI k)] [] M' = X2 d m_Mo_notes 57 [.ref 197, .int (iI ((k + 1 : Nat) : Int))] [] (wI M' 198 (30 + 4 * n + k) (M.1 204 k)) := by
      intro k M' hk h29 h204
      have e4 : iI 4 * iI n = iI ((4 * n : Nat) : Int) := by rw [iI_mul]; rfl
      rw [e_Mo_notes_57, if_pos (by rw [iI_lt (by omega) (by omega) (by omega) (by omega)]; omega), show gI M' 198 29 = iI n from h29, e4, iI_add, iI_add, inb_ok (by omega) (by omega) (by omega), gb_T, inb_ok (by omega) (by omega) (by omega), gb_T, ix_nat (by omega), ix_eq (n := 30 + 4 * n + k) (by omega) (by omega), iI_add, gI, h204]
      rfl
    have h29 : M0.1 198 29 = iI n := hP.1
    have h204 : M0.1 204 = M.1 204 := (hE 204 (by decide)).1
    have c29 : ∀ (M' : Mem) (j : Nat) (v : Int32), 30 ≤ j → M'.1 198 29 = iI n → (wI M' 198 j v).1 198 29 = iI n := fun M' j v hj h => by rw [wI_row, upr_ne (by omega)]; exact h
    have c204 : ∀ (M' : Mem) (j : Nat) (v : Int32), M'.1 204 = M.1 204 → (wI M' 198 j v).1 204 = M.1 204 := fun M' j v h => by rw [wI_na (by decide)]; exact h
    have s0 := st 0 M0 (by decide) h29 h204
    have s1 := st 1 _ (by decide) (c29 M0 (30 + 4 * n + 0) (M.1 204 0) (by omega) h29) (c204 _ _ _ h204)
    have s2 := st 2 _ (by decide) (c29 _ (30 + 4 * n + 1) (M.1 204 1) (by omega) (c29 M0 (30 + 4 * n + 0) (M.1 204 0) (by omega) h29)) (c204 _ _ _ (c204 _ _ _ h204))
    have s3 := st 3 _ (by decide) (c29 _ (30 + 4 * n + 2) (M.1 204 2) (by omega) (c29 _ (30 + 4 * n + 1) (M.1 204 1) (by omega) (c29 M0 (30 + 4 * n + 0) (M.1 204 0) (by omega) h29))) (c204 _ _ _ (c204 _ _ _ (c204 _ _ _ h204)))
    have c4 := c29 _ (30 + 4 * n + 3) (M.1 204 3) (by omega) (c29 _ (30 + 4 * n + 2) (M.1 204 2) (by omega) (c29 _ (30 + 4 * n + 1) (M.1 204 1) (by omega) (c29 M0 (30 + 4 * n + 0) (M.1 204 0) (by omega) h29)))
    have s0' : X2 d m_Mo_notes 57 [.ref 197, .int (iI 0)] [] M0 = _ := s0
    rw [s0', s1, s2, s3, e_Mo_notes_57, if_neg (by decide)]
    refine ⟨_, rfl, eqx_wI (eqx_wI (eqx_wI (eqx_wI (eqx_wI hE (by simp)) (by simp)) (by simp)) (by simp)) (by simp), ?_, ?_⟩
    · intro k hk
      rw [wI_row, upr_ne (by omega), wI_row, upr_ne (by omega), wI_row, upr_ne (by omega), wI_row, upr_ne (by omega), wI_row, upr_ne (by omega)]
      exact hN k hk
    · rw [wI_row, wI_row, wI_row, wI_row, wI_row]
      rw [wI_row, wI_row, wI_row, wI_row] at c4
      refine ⟨?_, ?_⟩
      · rw [upr_eq, gI, wI_row, wI_row, wI_row, wI_row, c4, iI_add]; rfl
      · intro j hj
        show momAt _ (30 + 4 * j) (if j = n then m else g j)
        by_cases q : j = n
        · rw [if_pos q]
          subst q
          refine ⟨?_, ?_, ?_, ?_⟩
          · rw [upr_ne (by omega), upr_ne (by omega), upr_ne (by omega), upr_ne (by omega), show 30 + 4 * j = 30 + 4 * j + 0 from rfl, upr_eq]; exact hw.1
          · rw [upr_ne (by omega), upr_ne (by omega), upr_ne (by omega), upr_eq]; exact hw.2.1
          · rw [upr_ne (by omega), upr_ne (by omega), upr_eq]; exact hw.2.2.1
          · rw [upr_ne (by omega), upr_eq]; exact hw.2.2.2
        · rw [if_neg q]
          obtain ⟨b1, b2, b3, b4⟩ := hP.2 j (by omega)
          refine ⟨?_, ?_, ?_, ?_⟩
          · rw [upr_ne (by omega), upr_ne (by omega), upr_ne (by omega), upr_ne (by omega), upr_ne (by omega)]; exact b1
          · rw [upr_ne (by omega), upr_ne (by omega), upr_ne (by omega), upr_ne (by omega), upr_ne (by omega)]; exact b2
          · rw [upr_ne (by omega), upr_ne (by omega), upr_ne (by omega), upr_ne (by omega), upr_ne (by omega)]; exact b3
          · rw [upr_ne (by omega), upr_ne (by omega), upr_ne (by omega), upr_ne (by omega), upr_ne (by omega)]; exact b4
  show ∃ M', X2 d m_Mo_notes 0 [.ref 197, uns] [] M = _ ∧ _
  rw [e_Mo_notes_0, show gI M 198 29 = iI nd from hp.1]
  by_cases q : nd = 10
  · rw [if_pos (by rw [q]; rfl)]
    have go : ∀ (j k : Nat) (M0 : Mem), j + k = 36 → Eqx [198] M M0 → (∀ i, M0.1 198 i = if 30 ≤ i ∧ i < 30 + k then M.1 198 (i + 4) else M.1 198 i) → ∃ M', X2 d m_Mo_notes 14 [.ref 197, .int (iI k)] [] M0 = some (.null, M') ∧ Eqx [198] M M' ∧ NotR (M.1 198) (M'.1 198) ∧ PastM (M'.1 198) (nd1 nd) (psh f nd m) := by
      intro j
      induction j with
      | zero =>
        intro k M0 hk hE hv
        have g29 : gI M0 198 29 = iI 10 := by
          rw [gI, hv 29, if_neg (by omega)]; rw [hp.1, q]; rfl
        have e9 : iI 10 - iI 1 = iI ((9 : Nat) : Int) := by decide
        rw [e_Mo_notes_14, if_neg (by rw [iI_lt (by omega) (by omega) (by omega) (by omega)]; omega), g29, e9]
        obtain ⟨M', a1, a2, a3, a4⟩ := wr (wI M0 198 29 (iI ((9 : Nat) : Int))) 9 (fun j => f (j + 1)) (eqx_wI hE (by simp)) (by
          intro i hi
          rw [wI_row, upr_ne (by omega), hv i, if_neg (by omega)]) (by decide) ⟨by rw [wI_row, upr_eq], by
          intro j hj
          obtain ⟨b1, b2, b3, b4⟩ := hp.2 (j + 1) (by omega)
          have sh : ∀ i, 30 ≤ i → i < 66 → (wI M0 198 29 (iI ((9 : Nat) : Int))).1 198 i = M.1 198 (i + 4) := fun i h1 h2 => by rw [wI_row, upr_ne (by omega), hv i, if_pos (by omega)]
          refine ⟨?_, ?_, ?_, ?_⟩
          · rw [sh _ (by omega) (by omega), show 30 + 4 * j + 4 = 30 + 4 * (j + 1) by omega]; exact b1
          · rw [sh _ (by omega) (by omega), show 30 + 4 * j + 1 + 4 = 30 + 4 * (j + 1) + 1 by omega]; exact b2
          · rw [sh _ (by omega) (by omega), show 30 + 4 * j + 2 + 4 = 30 + 4 * (j + 1) + 2 by omega]; exact b3
          · rw [sh _ (by omega) (by omega), show 30 + 4 * j + 3 + 4 = 30 + 4 * (j + 1) + 3 by omega]; exact b4⟩
        refine ⟨M', a1, a2, a3, ?_⟩
        rw [show nd1 nd = 10 from if_pos q]
        refine ⟨a4.1, fun j hj => ?_⟩
        have := a4.2 j hj
        unfold psh
        rw [if_pos q]; exact this
      | succ j ih =>
        intro k M0 hk hE hv
        rw [e_Mo_notes_14, if_pos (by rw [iI_lt (by omega) (by omega) (by omega) (by omega)]; omega), iI_add, iI_add, inb_ok (by omega) (by omega) (by omega), gb_T, inb_ok (by omega) (by omega) (by omega), gb_T, ix_eq (n := 30 + k) (by omega) (by omega), ix_eq (n := 34 + k) (by omega) (by omega), iI_add]
        refine ih (k + 1) _ (by omega) (eqx_wI hE (by simp)) ?_
        intro i
        rw [wI_row]
        by_cases e : i = 30 + k
        · subst e
          rw [upr_eq, gI, hv (34 + k), if_neg (by omega), if_pos (by omega), show 34 + k = 30 + k + 4 by omega]
        · rw [upr_ne e, hv i]
          by_cases w : 30 ≤ i ∧ i < 30 + k
          · rw [if_pos w, if_pos (by omega)]
          · rw [if_neg w, if_neg (by omega)]
    exact go 36 0 M (by omega) Eqx.rf (fun i => by rw [if_neg (by omega)])
  · rw [if_neg (by rw [iI_eq (by omega) (by omega) (by omega) (by omega)]; omega)]
    obtain ⟨M', a1, a2, a3, a4⟩ := wr M nd f Eqx.rf (fun _ _ => rfl) (by omega) hp
    refine ⟨M', a1, a2, a3, ?_⟩
    rw [show nd1 nd = nd + 1 from if_neg q]
    refine ⟨a4.1, fun j hj => ?_⟩
    have := a4.2 j hj
    unfold psh
    rw [if_neg q]; exact this
