/-! fault, count. -/
theorem s_fault (x1 : Int32) : Step m_RW_fault m_Mo_fault [.int x1] := by
  intro d M b hRel hb
  have hRel0 := hRel
  obtain ⟨r, tm0, st, nx, nd, m, f, so, tn, tv, z, hS, hst, h5, hm, okm, rq, hmo, hpc, hpm, hof, hrest⟩ := hRel
  obtain ⟨f1, f2⟩ := hrest.2.2.2.2
  have fin := fin_same hRel0 (Eqx.rf : Eqx [] M M) (fun a ha => absurd ha (List.not_mem_nil)) (eqx_wI Eqx.rf (by simp) : Eqx [197] M (wI M 197 0 (iI 0))) (by intro a ha; simp only [List.mem_cons, List.not_mem_nil, or_false] at ha; omega) (fun k hk => by rw [gI_nk (by omega)]) (wI_na (by decide))
  have ec : c2 (d + 80) m_RW_fault [.ref 100, .int x1] M = if x1 = iI 0 then some (.int (gI M 102 11), M) else if x1 = iI 1 then some (.int (gI M 102 12), M) else some (.int (iI (-1)), M) := e_RW_fault_0 (d + 79) x1 M
  have em : c2 (d + 80) m_Mo_fault [.ref 197, .int x1] M = if x1 = 0 then some (.int (gI M 197 13), wI M 197 0 (iI 0)) else if x1 = iI 1 then some (.int (gI M 197 14), wI M 197 0 (iI 0)) else some (.int (iI (-1)), wI M 197 0 (iI 0)) := e_Mo_fault_0 (d + 79) x1 M
  by_cases q0 : x1 = iI 0
  · rw [if_pos q0, f1] at ec
    rw [if_pos (show x1 = 0 from q0)] at em
    exact ⟨_, _, _, ec, em, fin⟩
  · rw [if_neg q0] at ec
    rw [if_neg (show ¬ x1 = 0 from q0)] at em
    by_cases q1 : x1 = iI 1
    · rw [if_pos q1, f2] at ec
      rw [if_pos q1] at em
      exact ⟨_, _, _, ec, em, fin⟩
    · rw [if_neg q1] at ec em
      exact ⟨_, _, _, ec, em, fin⟩
theorem c_Mo_toldWho (d : Nat) {u : Nat} (h : u < 5) (M : Mem) : c2 (d + 1) m_Mo_toldWho [.int (iI u)] M = some (.int (iI (cwho u)), M) := by
  show X2 d m_Mo_toldWho 0 [.int (iI u)] [] M = _
  rw [e_Mo_toldWho_0, cwho]
  by_cases q : u = 4
  · rw [if_pos q, if_pos (by rw [who_eq h]; exact q)]
  · rw [if_neg q, if_neg (by rw [who_eq h]; exact q)]
theorem s_count (x1 : Int32) : Step m_RW_count m_Mo_count [.int x1] := by
  intro d M b hRel hb
  have hRel0 := hRel
  obtain ⟨r, tm0, st, nx, nd, m, f, so, tn, tv, z, hS, hst, h5, hm, okm, rq, hmo, hpc, hpm, hof, hrest⟩ := hRel
  obtain ⟨tp, t1, t2, t3, t4⟩ := hrest.2.2.2.1
  have hz := hS.2.2.2.1
  have hz1 := rq_ok rq hz
  obtain ⟨⟨r0, r1, r2, r3, r6, r7, r9⟩, -⟩ := rq_room rq hz hS.2.2.1
  have fin := fin_same hRel0 (Eqx.rf : Eqx [] M M) (fun a ha => absurd ha (List.not_mem_nil)) (eqx_wI Eqx.rf (by simp) : Eqx [197] M (wI M 197 0 (iI 0))) (by intro a ha; simp only [List.mem_cons, List.not_mem_nil, or_false] at ha; omega) (fun k hk => by rw [gI_nk (by omega)]) (wI_na (by decide))
  have thr : (wI M 197 0 (iI 0)).1 198 = M.1 198 := wI_na (by decide)
  have ec := e_RW_count_0 (d + 79) x1 M
  have em := e_Mo_count_0 (d + 79) x1 M
  have ro := c_Mo_rosesz (d + 78) (M := wI M 197 0 (iI 0)) (by rw [thr]; exact hz1)
  rw [thr] at ro
  have m25 : gI M 198 25 = iI m.1 := hmo.1
  have m26 : gI M 198 26 = iI m.2.1 := hmo.2.1
  have m27 : gI M 198 27 = iI m.2.2.1 := hmo.2.2.1
  have m28 : gI M 198 28 = m.2.2.2 := hmo.2.2.2
  have m29 : gI M 198 29 = iI nd := hpm.1
  have kk : isK O2 M (gR M 100 5) 16 = true := by rw [h5]; exact rm_k M r hS.1
  rw [ro, bI_some, m25, m26, m27, m28, m29, t2, c_Mo_toldWho _ okm.2.1, bI_some, c_Mo_bitsOf _ _ (by have := okm.2.2.1; omega), bI_some] at em
  rw [kk, gb_T, gb_T, gb_T, gb_T, h5, r2, r3, r6, r9, hm.1, hm.2.1, hm.2.2.1, hm.2.2.2, hpc.2.2.1, t1, c_Int_bitCount _ okm.2.2.1, bI_some] at ec
  have em' : c2 (d + 80) m_Mo_count [.ref 197, .int x1] M = _ := em
  have ec' : c2 (d + 80) m_RW_count [.ref 100, .int x1] M = _ := ec
  have all : ∀ k : Int, k = k := fun _ => rfl
  show ∃ v M1 M2, c2 (d + 80) m_RW_count [.ref 100, .int x1] M = some (.int v, M1) ∧ c2 (d + 80) m_Mo_count [.ref 197, .int x1] M1 = some (.int v, M2) ∧ _
  by_cases q0 : x1 = iI 0
  · rw [if_pos q0] at ec' em'; exact ⟨_, _, _, ec', em', fin⟩
  rw [if_neg q0] at ec' em'
  by_cases q1 : x1 = iI 1
  · rw [if_pos q1] at ec' em'; exact ⟨_, _, _, ec', em', fin⟩
  rw [if_neg q1] at ec' em'
  by_cases q2 : x1 = iI 2
  · rw [if_pos q2] at ec' em'; exact ⟨_, _, _, ec', em', fin⟩
  rw [if_neg q2] at ec' em'
  by_cases q3 : x1 = iI 3
  · rw [if_pos q3] at ec' em'; exact ⟨_, _, _, ec', em', fin⟩
  rw [if_neg q3] at ec' em'
  by_cases q4 : x1 = iI 4
  · rw [if_pos q4] at ec' em'; exact ⟨_, _, _, ec', em', fin⟩
  rw [if_neg q4] at ec' em'
  by_cases q5 : x1 = iI 5
  · rw [if_pos q5] at ec' em'; exact ⟨_, _, _, ec', em', fin⟩
  rw [if_neg q5] at ec' em'
  by_cases q6 : x1 = iI 6
  · rw [if_pos q6] at ec' em'; exact ⟨_, _, _, ec', em', fin⟩
  rw [if_neg q6] at ec' em'
  by_cases q7 : x1 = iI 7
  · rw [if_pos q7] at ec' em'; exact ⟨_, _, _, ec', em', fin⟩
  rw [if_neg q7] at ec' em'
  by_cases q8 : x1 = iI 8
  · rw [if_pos q8] at ec' em'; exact ⟨_, _, _, ec', em', fin⟩
  rw [if_neg q8] at ec' em'
  by_cases q9 : x1 = iI 9
  · rw [if_pos q9] at ec' em'; exact ⟨_, _, _, ec', em', fin⟩
  rw [if_neg q9] at ec' em'
  by_cases qa : x1 = iI 10
  · rw [if_pos qa] at ec' em'; exact ⟨_, _, _, ec', em', fin⟩
  rw [if_neg qa] at ec' em'
  exact ⟨_, _, _, ec', em', fin⟩
