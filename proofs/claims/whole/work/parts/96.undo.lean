/-! undo. -/
theorem fm_key : ∀ a : Fin 10, ∀ b : Fin 11, (((iI (a.val : Int) - iI (b.val : Int)) ^^^ iI 10 < 0 → (irm (iI (a.val : Int) - iI (b.val : Int)) (iI 10) = 0 → irm (iI (a.val : Int) - iI (b.val : Int)) (iI 10) = iI (((a.val + 10 - b.val) % 10 : Nat) : Int)) ∧ (¬ irm (iI (a.val : Int) - iI (b.val : Int)) (iI 10) = 0 → irm (iI (a.val : Int) - iI (b.val : Int)) (iI 10) + iI 10 = iI (((a.val + 10 - b.val) % 10 : Nat) : Int))) ∧ (¬ (iI (a.val : Int) - iI (b.val : Int)) ^^^ iI 10 < 0 → irm (iI (a.val : Int) - iI (b.val : Int)) (iI 10) = iI (((a.val + 10 - b.val) % 10 : Nat) : Int))) := by
  decide +kernel
theorem c_fm10 (d : Nat) {nx n : Nat} (h1 : nx < 10) (h2 : n ≤ 10) (M : Mem) : c2 (d + 1) m_Mat_floorMod [.int (iI nx - iI n), .int (iI 10)] M = some (.int (iI (((nx + 10 - n) % 10 : Nat) : Int)), M) := by
  show X2 d m_Mat_floorMod 0 [.int (iI nx - iI n), .int (iI 10), uns] [] M = _
  have k := fm_key ⟨nx, h1⟩ ⟨n, by omega⟩
  rw [e_Mat_floorMod_0, show (!(decide (iI 10 = 0))) = true by decide, gb_T]
  by_cases q : (iI nx - iI n) ^^^ iI 10 < 0
  · rw [if_pos q]
    by_cases q2 : irm (iI nx - iI n) (iI 10) = 0
    · rw [if_pos q2]; exact congrArg (fun v => some (Value.int v, M)) ((k.1 q).1 q2)
    · rw [if_neg q2]; exact congrArg (fun v => some (Value.int v, M)) ((k.1 q).2 q2)
  · rw [if_neg q]; exact congrArg (fun v => some (Value.int v, M)) (k.2 q)
theorem c_Past_bringBack (d : Nat) {M : Mem} {nx nd n : Nat} {f : Nat → Mo} (h : PastC M nx nd f) (hn1 : 1 ≤ n) (hn2 : n ≤ nd) :
    ∃ M', c2 (d + 2) m_Past_bringBack [.ref 114, .int (iI n), .ref 111] M = some (.null, M') ∧ Eqx [111, 114] M M' ∧ MoC M' 111 (f (nd - n)) ∧ PastC M' ((nx + 10 - n) % 10) (nd - n) f := by
  obtain ⟨a1, a2, a3, a4, a5⟩ := h
  have hk : (nx + 10 - n) % 10 < 10 := Nat.mod_lt _ (by decide)
  obtain ⟨kr, km⟩ := kp_ref hk M
  have f5 := a5 (nd - n) (by omega)
  rw [show (nx + 10 - nd + (nd - n)) % 10 = (nx + 10 - n) % 10 by omega] at f5
  have hsub : iI nd - iI n = iI ((nd - n : Nat) : Int) := by rw [iI_sub, show (nd : Int) - n = ((nd - n : Nat) : Int) by omega]
  have fr : MoC (wI (wI M 114 1 (iI (((nx + 10 - n) % 10 : Nat) : Int))) 114 2 (iI ((nd - n : Nat) : Int))) (116 + (nx + 10 - n) % 10) (f (nd - n)) := f5.fr (by rw [wI_na (by omega), wI_na (by omega)])
  obtain ⟨M1, e1, hE1, hm1⟩ := c_Mom_copy d (a := 111) (by decide) km (by omega) fr
  show ∃ M', X2 (d + 1) m_Past_bringBack 0 [.ref 114, .int (iI n), .ref 111] [] M = _ ∧ _
  have i1 : (false || inb (iI (((nx + 10 - n) % 10 : Nat) : Int)) 10 || false) = true := by rw [inb_ok (by omega) (by omega) (by omega)]; rfl
  rw [e_Past_bringBack_0, a1, c_fm10 _ a2 (by omega), bI_some, i1, gb_T, a3, hsub, mm_k _ _ (show 111 ∈ moms by decide), show (true && !false) = true from rfl, gb_T, ix_nat (by omega), kr, e1, bV_some]
  have hE2 : Eqx [111, 114] M M1 := (eqx_wI (eqx_wI Eqx.rf (by simp)) (by simp)).tr (hE1.mono (by simp))
  refine ⟨M1, rfl, hE2, hm1, ?_, hk, ?_, by omega, ?_⟩
  · rw [eqx_I hE1 (by decide), gI_nk (by decide), gI_eq]
  · rw [eqx_I hE1 (by decide), gI_eq]
  · intro j hj
    have := a5 j (by omega)
    rw [show (nx + 10 - nd + j) % 10 = ((nx + 10 - n) % 10 + 10 - (nd - n) + j) % 10 by omega] at this
    exact this.fr (hE2 _ (by simp only [List.mem_cons, List.not_mem_nil, or_false]; omega)).1
theorem s_undo (x1 : Int32) : Step m_RW_undo m_Mo_undo [.int x1] := by
  intro d M b hRel hb
  have hRel0 := hRel
  obtain ⟨r, tm0, st, nx, nd, m, f, so, tn, tv, z, hS, hst, h5, hm, okm, rq, hmo, hpc, hpm, hof, hrest⟩ := hRel
  have hr := rm_mod hS.1
  have hnd := hpc.2.2.2.1
  obtain ⟨n, rfl, n1, n2⟩ := iI_ex x1
  have p114 : gI M 114 2 = iI nd := hpc.2.2.1
  have p29 : ∀ (v : Int32), gI (wI M 197 0 v) 198 29 = iI nd := fun v => by rw [gI_na (by decide)]; exact hpm.1
  by_cases hn : 1 ≤ n ∧ n ≤ nd
  · obtain ⟨n, rfl⟩ := Int.eq_ofNat_of_zero_le (show 0 ≤ n by omega)
    obtain ⟨M1, e1, hE1, hm1, hp1⟩ := c_Past_bringBack (d + 77) hpc (n := n) (by omega) (by omega)
    have hS1 : StepsC M1 r z tm0 st := hS.fq hE1 (by intro a ha; simp only [List.mem_cons, List.not_mem_nil, or_false] at ha; omega)
    have x198 : M1.1 198 = M.1 198 := (hE1 198 (by decide)).1
    have hsub : iI nd - iI n = iI ((nd - n : Nat) : Int) := by rw [iI_sub, show (nd : Int) - n = ((nd - n : Nat) : Int) by omega]
    have p29' : gI (wI M1 197 0 (iI 0)) 198 29 = iI nd := by rw [gI_na (by decide), gI, x198]; exact hpm.1
    have stp : ∀ (k : Nat) (M' : Mem), k < 4 → gI M' 198 29 = iI ((nd - n : Nat) : Int) → M'.1 198 (30 + 4 * (nd - n) + k) = M.1 198 (30 + 4 * (nd - n) + k) → X2 (d + 79) m_Mo_undo 44 [.ref 197, .int (iI n), .int (iI k)] [] M' = X2 (d + 79) m_Mo_undo 44 [.ref 197, .int (iI n), .int (iI ((k + 1 : Nat) : Int))] [] (wI M' 198 (25 + k) (M.1 198 (30 + 4 * (nd - n) + k))) := by
      intro k M' hk h29 hx
      have e4 : iI 4 * iI ((nd - n : Nat) : Int) = iI ((4 * (nd - n) : Nat) : Int) := by rw [iI_mul]; rfl
      rw [e_Mo_undo_44, if_pos (by rw [iI_lt (by omega) (by omega) (by omega) (by omega)]; omega), h29, e4, iI_add, iI_add, inb_ok (by omega) (by omega) (by omega), gb_T, iI_add, inb_ok (by omega) (by omega) (by omega), gb_T, ix_eq (n := 25 + k) (by omega) (by omega), ix_eq (n := 30 + 4 * (nd - n) + k) (by omega) (by omega), iI_add, gI, hx]
      rfl
    have W := fun (M' : Mem) (k : Nat) => wI M' 198 (25 + k) (M.1 198 (30 + 4 * (nd - n) + k))
    have y : ∀ (M' : Mem) (i k : Nat) (v : Int32), i < 4 → 29 ≤ k → (wI M' 198 (25 + i) v).1 198 k = M'.1 198 k := fun M' i k v hi hk => by rw [wI_row, upr_ne (by omega)]
    let A0 := wI (wI M1 197 0 (iI 0)) 198 29 (iI ((nd - n : Nat) : Int))
    have a0 : ∀ k, 30 ≤ k → A0.1 198 k = M.1 198 k := fun k hk => by
      show (wI (wI M1 197 0 (iI 0)) 198 29 _).1 198 k = _
      rw [wI_row, upr_ne (by omega), wI_na (by decide), x198]
    have a29 : A0.1 198 29 = iI ((nd - n : Nat) : Int) := gI_eq _ _ _ _
    let A1 := wI A0 198 (25 + 0) (M.1 198 (30 + 4 * (nd - n) + 0))
    let A2 := wI A1 198 (25 + 1) (M.1 198 (30 + 4 * (nd - n) + 1))
    let A3 := wI A2 198 (25 + 2) (M.1 198 (30 + 4 * (nd - n) + 2))
    let A4 := wI A3 198 (25 + 3) (M.1 198 (30 + 4 * (nd - n) + 3))
    have b1 : ∀ k, 29 ≤ k → A1.1 198 k = A0.1 198 k := fun k hk => y A0 0 k _ (by decide) hk
    have b2 : ∀ k, 29 ≤ k → A2.1 198 k = A0.1 198 k := fun k hk => (y A1 1 k _ (by decide) hk).trans (b1 k hk)
    have b3 : ∀ k, 29 ≤ k → A3.1 198 k = A0.1 198 k := fun k hk => (y A2 2 k _ (by decide) hk).trans (b2 k hk)
    have b4 : ∀ k, 29 ≤ k → A4.1 198 k = A0.1 198 k := fun k hk => (y A3 3 k _ (by decide) hk).trans (b3 k hk)
    have s0 := stp 0 A0 (by decide) a29 (a0 _ (by omega))
    have s1 := stp 1 A1 (by decide) ((b1 29 (by omega)).trans a29) ((b1 _ (by omega)).trans (a0 _ (by omega)))
    have s2 := stp 2 A2 (by decide) ((b2 29 (by omega)).trans a29) ((b2 _ (by omega)).trans (a0 _ (by omega)))
    have s3 := stp 3 A3 (by decide) ((b3 29 (by omega)).trans a29) ((b3 _ (by omega)).trans (a0 _ (by omega)))
    have g29 : gI A4 198 29 = iI ((nd - n : Nat) : Int) := (b4 29 (by omega)).trans a29
    have e2 : X2 (d + 79) m_Mo_undo 44 [.ref 197, .int (iI n), .int (iI 0)] [] A0 = some (.int (iI ((nd - n : Nat) : Int)), A4) := by
      have s0' : X2 (d + 79) m_Mo_undo 44 [.ref 197, .int (iI n), .int (iI 0)] [] A0 = X2 (d + 79) m_Mo_undo 44 [.ref 197, .int (iI n), .int (iI ((0 + 1 : Nat) : Int))] [] A1 := s0
      rw [s0', s1, s2, s3, e_Mo_undo_44, if_neg (by decide)]
      exact congrArg (fun v => some (Value.int v, A4)) g29
    have hE4 : Eqx [197, 198] M1 A4 := eqx_wI (eqx_wI (eqx_wI (eqx_wI (eqx_wI (eqx_wI Eqx.rf (by simp)) (by simp)) (by simp)) (by simp)) (by simp)) (by simp)
    have hpn := hpm.2 (nd - n) (by omega)
    refine ⟨iI ((nd - n : Nat) : Int), M1, A4, ?_, ?_, fin_deed (b := b + 1) (S1 := [111, 114]) (S2 := [197, 198]) (m' := f (nd - n)) (f := f) (nd := nd - n) rq hrest h5 (by omega) hE1 ?_ hE4 (by intro a ha; simp only [List.mem_cons, List.not_mem_nil, or_false] at ha; omega) ?_ hS1 hm1 (hof _ (by omega)) hp1 (fun j hj => hof j (by omega)) ?_ ?_⟩
    · show X2 (d + 79) m_RW_undo 0 [.ref 100, .int (iI n)] [] M = _
      rw [e_RW_undo_0, if_neg (by rw [iI_lt (by omega) (by omega) (by omega) (by omega)]; omega), p114, if_neg (by rw [iI_lt (by omega) (by omega) (by omega) (by omega)]; omega), e1, bV_some, hp1.2.2.1]
    · show X2 (d + 79) m_Mo_undo 0 [.ref 197, .int (iI n), uns] [] M1 = _
      rw [e_Mo_undo_0, c_Mo_within, bI_some, i2l_iI (by omega) (by omega), lI_toInt (by omega) (by omega), lI_toInt (by omega) (by omega), lI_toInt (by omega) (by omega), decide_eq_true (show (1 : Int) ≤ n ∧ (n : Int) ≤ 10 by omega), b2i_t, if_neg (show ¬ (iI 1 = 0) by decide), p29', if_neg (by rw [iI_lt (by omega) (by omega) (by omega) (by omega)]; omega), hsub]
      exact e2
    · intro a ha
      simp only [List.mem_cons, List.not_mem_nil, or_false] at ha
      unfold okA; omega
    · intro k hk
      show gI (wI (wI (wI (wI (wI (wI M1 197 0 _) 198 29 _) 198 _ _) 198 _ _) 198 _ _) 198 _ _) 197 k = _
      rw [gI_na (by decide), gI_na (by decide), gI_na (by decide), gI_na (by decide), gI_na (by decide), gI_nk (by omega)]
    · intro k hk
      rw [rowM_at]
      show upr (upr (upr (upr (upr (M1.1 198) 29 _) 25 _) 26 _) 27 _) 28 _ k = _
      unfold upr
      by_cases q8 : k = 28
      · rw [if_pos q8, if_pos q8]; exact hpn.2.2.2
      · rw [if_neg q8, if_neg q8]
        by_cases q7 : k = 27
        · rw [if_pos q7, if_pos q7]; exact hpn.2.2.1
        · rw [if_neg q7, if_neg q7]
          by_cases q6 : k = 26
          · rw [if_pos q6, if_pos q6]; exact hpn.2.1
          · rw [if_neg q6, if_neg q6]
            by_cases q5 : k = 25
            · rw [if_pos q5, if_pos q5]; exact hpn.1
            · rw [if_neg q5, if_neg q5, if_neg (by omega), x198]
    · refine ⟨g29, fun j hj => ?_⟩
      have := hpm.2 j (by omega)
      have c : ∀ k, 30 ≤ k → A4.1 198 k = M.1 198 k := fun k hk => (b4 k (by omega)).trans (a0 k hk)
      exact ⟨(c _ (by omega)).trans this.1, (c _ (by omega)).trans this.2.1, (c _ (by omega)).trans this.2.2.1, (c _ (by omega)).trans this.2.2.2⟩
  · refine ⟨iI (-3), M, wI M 197 0 (iI 0), ?_, ?_, fin_same hRel0 (Eqx.rf : Eqx [] M M) (fun a ha => absurd ha (List.not_mem_nil)) (eqx_wI Eqx.rf (by simp) : Eqx [197] M _) (by intro a ha; simp only [List.mem_cons, List.not_mem_nil, or_false] at ha; omega) (fun k hk => by rw [gI_nk (by omega)]) (wI_na (by decide))⟩
    · show X2 (d + 79) m_RW_undo 0 [.ref 100, .int (iI n)] [] M = _
      rw [e_RW_undo_0]
      by_cases q : n < 1
      · rw [if_pos (by rw [iI_lt n1 n2 (by omega) (by omega)]; exact q)]
      · rw [if_neg (by rw [iI_lt n1 n2 (by omega) (by omega)]; exact q), p114, if_pos (by rw [iI_lt (by omega) (by omega) n1 n2]; omega)]
    · show X2 (d + 79) m_Mo_undo 0 [.ref 197, .int (iI n), uns] [] M = _
      rw [e_Mo_undo_0, c_Mo_within, bI_some, i2l_iI n1 n2, lI_toInt (by omega) (by omega), lI_toInt (by omega) (by omega), lI_toInt (by omega) (by omega)]
      by_cases q : 1 ≤ n ∧ n ≤ 10
      · rw [decide_eq_true q, b2i_t, if_neg (show ¬ (iI 1 = 0) by decide), p29, if_pos (by rw [iI_lt (by omega) (by omega) n1 n2]; omega)]
      · rw [decide_eq_false q, b2i_f, if_pos (show iI 0 = 0 from rfl)]
