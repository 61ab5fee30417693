/-! season. -/
def hi16 (x : Int32) : Nat := x.toUInt32.toNat / 65536
theorem hi16_lt (x : Int32) : hi16 x < 65536 := by
  have := x.toUInt32.toNat_lt
  unfold hi16; omega
theorem u32_iI (y : UInt32) : y.toInt32 = iI (y.toNat : Int) := by
  apply Int32.toBitVec_inj.mp
  show y.toBitVec = BitVec.ofInt 32 (y.toNat : Int)
  rw [BitVec.ofInt_natCast]
  exact (BitVec.ofNat_toNat 32 y.toBitVec).symm ▸ (by simp)
theorem hi16_eq (x : Int32) : ((x.toUInt32 >>> ((iI 16).toUInt32 &&& Int32.toUInt32 31)).toInt32) = iI (hi16 x : Int) := by
  rw [u32_iI]
  have : (x.toUInt32 >>> ((iI 16).toUInt32 &&& Int32.toUInt32 31)).toNat = hi16 x := by
    rw [UInt32.toNat_shiftRight, show ((iI 16).toUInt32 &&& Int32.toUInt32 31).toNat % 32 = 16 from by decide, Nat.shiftRight_eq_div_pow]
    rfl
  rw [this]
def LC (x : Int32) : Int32 := iI 1103515245 * x + iI 12345
def sdV (x : Int32) : Nat := if hi16 (LC x) % 6 = 3 then 10 + hi16 (LC (LC x)) % 4 else if hi16 (LC x) % 6 = 4 then 20 + hi16 (LC (LC x)) % 9 else if hi16 (LC x) % 6 = 5 then 30 + hi16 (LC (LC x)) % 10 else hi16 (LC (LC x)) % 2
theorem sdV_lt (x : Int32) : sdV x < 40 := by unfold sdV; split <;> (try split) <;> (try split) <;> omega
theorem h6 (u c : Nat) (hc : c < 6) : (iI ((u % 6 : Nat) : Int) = iI (c : Int)) = (u % 6 = c) := by
  rw [iI_eq (by omega) (by omega) (by omega) (by omega)]
  apply propext; constructor <;> intro h <;> omega
theorem c_RW_seasonDeed (d : Nat) (x : Int32) (M : Mem) : c2 (d + 1) m_RW_seasonDeed [.int (irm (iI (hi16 (LC x))) (iI 6)), .int (iI (hi16 (LC (LC x))))] M = some (.int (iI (sdV x)), M) := by
  have u1 := hi16_lt (LC x)
  have u2 := hi16_lt (LC (LC x))
  have r6 : irm (iI (hi16 (LC x))) (iI 6) = iI ((hi16 (LC x) % 6 : Nat) : Int) := iI_rem (b := 6) (by omega) (by decide)
  have r4 : irm (iI (hi16 (LC (LC x)))) (iI 4) = iI ((hi16 (LC (LC x)) % 4 : Nat) : Int) := iI_rem (b := 4) (by omega) (by decide)
  have r9 : irm (iI (hi16 (LC (LC x)))) (iI 9) = iI ((hi16 (LC (LC x)) % 9 : Nat) : Int) := iI_rem (b := 9) (by omega) (by decide)
  have r10 : irm (iI (hi16 (LC (LC x)))) (iI 10) = iI ((hi16 (LC (LC x)) % 10 : Nat) : Int) := iI_rem (b := 10) (by omega) (by decide)
  have r2 : irm (iI (hi16 (LC (LC x)))) (iI 2) = iI ((hi16 (LC (LC x)) % 2 : Nat) : Int) := iI_rem (b := 2) (by omega) (by decide)
  have k3 : (iI ((hi16 (LC x) % 6 : Nat) : Int) = iI 3) = (hi16 (LC x) % 6 = 3) := h6 _ 3 (by decide)
  have k4 : (iI ((hi16 (LC x) % 6 : Nat) : Int) = iI 4) = (hi16 (LC x) % 6 = 4) := h6 _ 4 (by decide)
  have k5 : (iI ((hi16 (LC x) % 6 : Nat) : Int) = iI 5) = (hi16 (LC x) % 6 = 5) := h6 _ 5 (by decide)
  show X2 d m_RW_seasonDeed 0 [.int (irm (iI (hi16 (LC x))) (iI 6)), .int (iI (hi16 (LC (LC x))))] [] M = _
  rw [e_RW_seasonDeed_0, r6, r4, r9, r10, r2, iI_add, iI_add, iI_add]
  simp only [k3, k4, k5]
  unfold sdV
  split
  · rfl
  · split
    · rfl
    · split <;> rfl
theorem c_Mo_draw (d : Nat) {M : Mem} {x : Int32} (hx : gI M 197 20 = x) {n : Nat} (h1 : 1 ≤ n) (h2 : n ≤ 100) : c2 (d + 1) m_Mo_draw [.ref 197, .int (iI n)] M = some (.int (iI ((hi16 (LC x) % n : Nat) : Int)), wI M 197 20 (LC x)) := by
  have u1 := hi16_lt (LC x)
  show X2 d m_Mo_draw 0 [.ref 197, .int (iI n)] [] M = _
  rw [e_Mo_draw_0, decide_eq_false (by rw [iI_eq0 (by omega) (by omega)]; omega), show (!false) = true from rfl, gb_T, hx, hi16_eq, show iI 1103515245 * x + iI 12345 = LC x from rfl, iI_rem (by omega) (by omega)]
theorem c_Mo_drawn (d : Nat) {M : Mem} {x : Int32} (hx : gI M 197 20 = x) : c2 (d + 2) m_Mo_drawn [.ref 197] M = some (.int (iI (sdV x)), wI (wI M 197 20 (LC x)) 197 20 (LC (LC x))) := by
  have u2 := hi16_lt (LC (LC x))
  have hx1 : gI (wI M 197 20 (LC x)) 197 20 = LC x := gI_eq _ _ _ _
  have d6 := c_Mo_draw d hx (n := 6) (by decide) (by decide)
  have d2 := c_Mo_draw d hx1 (n := 2) (by decide) (by decide)
  have d4 := c_Mo_draw d hx1 (n := 4) (by decide) (by decide)
  have d9 := c_Mo_draw d hx1 (n := 9) (by decide) (by decide)
  have d10 := c_Mo_draw d hx1 (n := 10) (by decide) (by decide)
  have d6' : c2 (d + 1) m_Mo_draw [.ref 197, .int (iI 6)] M = _ := d6
  have d2' : c2 (d + 1) m_Mo_draw [.ref 197, .int (iI 2)] (wI M 197 20 (LC x)) = _ := d2
  have d4' : c2 (d + 1) m_Mo_draw [.ref 197, .int (iI 4)] (wI M 197 20 (LC x)) = _ := d4
  have d9' : c2 (d + 1) m_Mo_draw [.ref 197, .int (iI 9)] (wI M 197 20 (LC x)) = _ := d9
  have d10' : c2 (d + 1) m_Mo_draw [.ref 197, .int (iI 10)] (wI M 197 20 (LC x)) = _ := d10
  have k3 : (iI ((hi16 (LC x) % 6 : Nat) : Int) = iI 3) = (hi16 (LC x) % 6 = 3) := h6 _ 3 (by decide)
  have k4 : (iI ((hi16 (LC x) % 6 : Nat) : Int) = iI 4) = (hi16 (LC x) % 6 = 4) := h6 _ 4 (by decide)
  show X2 (d + 1) m_Mo_drawn 0 [.ref 197, uns] [] M = _
  rw [e_Mo_drawn_0, d6', bI_some, d2', bI_some, d4', bI_some, d9', bI_some, d10', bI_some, iI_add, iI_add, iI_add]
  simp only [k3, k4]
  unfold sdV
  by_cases q : hi16 (LC x) % 6 < 3
  · rw [if_pos (by rw [iI_lt (by omega) (by omega) (by omega) (by omega)]; omega), if_neg (by omega), if_neg (by omega), if_neg (by omega)]
  · rw [if_neg (by rw [iI_lt (by omega) (by omega) (by omega) (by omega)]; omega)]
    by_cases q3 : hi16 (LC x) % 6 = 3
    · rw [if_pos q3, if_pos q3]; rfl
    · rw [if_neg q3, if_neg q3]
      by_cases q4 : hi16 (LC x) % 6 = 4
      · rw [if_pos q4, if_pos q4]; rfl
      · rw [if_neg q4, if_neg q4, if_pos (by omega)]; rfl
def seaM (z : Row) : Nat → Int32 → Mo → Nat → Nat × Mo
  | 0, _, m, c => (c, m)
  | j + 1, x, m, c => if dWhy z (sdV x) m = 0 then seaM z j (LC (LC x)) (dDo z (sdV x) m) (c + 1) else seaM z j (LC (LC x)) m c
theorem seaM_s0 {z : Row} {j c : Nat} {x : Int32} {m : Mo} (h : dWhy z (sdV x) m = 0) : seaM z (j + 1) x m c = seaM z j (LC (LC x)) (dDo z (sdV x) m) (c + 1) := if_pos h
theorem seaM_s1 {z : Row} {j c : Nat} {x : Int32} {m : Mo} (h : dWhy z (sdV x) m ≠ 0) : seaM z (j + 1) x m c = seaM z j (LC (LC x)) m c := if_neg h
theorem seaM_all {z : Row} (hz : OkZ z) : ∀ (j : Nat) (x : Int32) (m : Mo) (c : Nat), OkM z m → (c ≤ (seaM z j x m c).1 ∧ (seaM z j x m c).1 ≤ c + j) ∧ OkM z (seaM z j x m c).2 ∧ ((seaM z j x m c).1 = c → (seaM z j x m c).2 = m)
  | 0, _, _, _, ok => ⟨⟨Nat.le_refl _, Nat.le_refl _⟩, ok, fun _ => rfl⟩
  | j + 1, x, m, c, ok => by
    by_cases h : dWhy z (sdV x) m = 0
    · rw [seaM_s0 h]
      obtain ⟨a, b, e⟩ := seaM_all hz j (LC (LC x)) (dDo z (sdV x) m) (c + 1) (dDo_ok hz h ok)
      exact ⟨⟨by omega, by omega⟩, b, fun q => by omega⟩
    · rw [seaM_s1 h]
      obtain ⟨a, b, e⟩ := seaM_all hz j (LC (LC x)) m c ok
      exact ⟨⟨by omega, by omega⟩, b, e⟩
theorem rq_seaM {z z' : Row} (h : RowEq z z') (hz : OkZ z) : ∀ (j : Nat) (x : Int32) (m : Mo) (c : Nat), OkM z m → seaM z' j x m c = seaM z j x m c
  | 0, _, _, _, _ => rfl
  | j + 1, x, m, c, ok => by
    have w := rq_dWhy h (sdV x) m
    by_cases q : dWhy z (sdV x) m = 0
    · rw [seaM_s0 q, seaM_s0 (w.trans q), rq_dDo h hz]; exact rq_seaM h hz j _ _ _ (dDo_ok hz q ok)
    · rw [seaM_s1 q, seaM_s1 (by rw [w]; exact q)]; exact rq_seaM h hz j _ _ _ ok
theorem s_season (x1 x2 : Int32) : Step m_RW_season m_Mo_season [.int x1, .int x2] := by
  intro d M b hRel hb
  have hRel0 := hRel
  obtain ⟨r, tm0, st, nx, nd, m, f, so, tn, tv, z, hS, hst, h5, hm, okm, rq, hmo, hpc, hpm, hof, hrest⟩ := hRel
  have hz := hS.2.2.2.1
  have hr := rm_mod hS.1
  obtain ⟨n, rfl, n1, n2⟩ := iI_ex x2
  by_cases hn : 1 ≤ n ∧ n ≤ 40
  · obtain ⟨n, rfl⟩ := Int.eq_ofNat_of_zero_le (show 0 ≤ n by omega)
    -- the class
    obtain ⟨M1, e1, hE1, hm1⟩ := c_Mom_copy (d + 78) (a := 112) (b := 111) (by decide) (by decide) (by decide) hm
    have hS1 : StepsC M1 r z tm0 st := hS.fq hE1 (by intro a ha; simp only [List.mem_cons, List.not_mem_nil, or_false] at ha; omega)
    have hm11 : MoC M1 111 m := hm.fr (hE1 111 (by decide)).1
    have hE1' : Eqx (aloL r) M M1 := hE1.mono (fun a ha => aloL_mem.mpr (by simp only [List.mem_cons, List.not_mem_nil, or_false] at ha; omega))
    have cls : ∀ (j i c : Nat) (x : Int32) (m' : Mo) (v6 : Value) (M' : Mem), j + i = n → c ≤ i → Eqx (aloL r) M M' → StepsC M' r z tm0 st → MoC M' 111 m' → OkM z m' → MoC M' 112 m → PastC M' nx nd f → ∃ M2, X2 (d + 79) m_RW_season 33 [.ref 100, .int x1, .int (iI n), .int x, .int (iI c), .int (iI i), v6] [] M' = (if (0 : Int32) < iI ((seaM z j x m' c).1 : Nat) then bV (c2 (d + 79) m_Past_keep [.ref 114, .ref 112] M2) fun M6 => some (.int (iI ((seaM z j x m' c).1 : Nat)), M6) else some (.int (iI ((seaM z j x m' c).1 : Nat)), M2)) ∧ Eqx (aloL r) M M2 ∧ StepsC M2 r z tm0 st ∧ MoC M2 111 (seaM z j x m' c).2 ∧ MoC M2 112 m ∧ PastC M2 nx nd f := by
      intro j
      induction j with
      | zero =>
        intro i c x m' v6 M' hi hc hE hS' hm' ok' hm2 hp
        rw [e_RW_season_33, if_neg (by rw [iI_lt (by omega) (by omega) (by omega) (by omega)]; omega)]
        exact ⟨M', rfl, hE, hS', hm', hm2, hp⟩
      | succ j ih =>
        intro i c x m' v6 M' hi hc hE hS' hm' ok' hm2 hp
        have h51 : gR M' 100 5 = r := (eqx_R hE (fun q => by have := aloL_mem.mp q; omega) 5).trans h5
        have hv := sdV_lt x
        have hw := dWhy_rng z (sdV x) m'
        obtain ⟨M3, e3, hE3, hS3, hm3⟩ := c_RW_doDeed (d + 73) hS' h51 (a := 111) (by decide) hm' ok' (lI (sdV x))
        rw [lI_toInt (by omega) (by omega)] at e3 hm3
        have dr : ∀ (y : Int32) (M : Mem), c2 (d + 79) m_RW_drawn [.int y] M = some (.int (LC y), M) := fun y M => by
          show X2 (d + 78) m_RW_drawn 0 [.int y] [] M = _
          rw [e_RW_drawn_0]; rfl
        have hE4 : Eqx (aloL r) M M3 := hE.tr (hE3.mono (fun a ha => aloL_mem.mpr (by simp only [List.mem_cons, List.not_mem_nil, or_false] at ha; omega)))
        have hm4 : MoC M3 112 m := MoC.fr hm2 (hE3 112 (by simp <;> omega)).1
        have hp4 : PastC M3 nx nd f := hp.fr hE3 (by intro a ha; simp only [List.mem_cons, List.not_mem_nil, or_false] at ha; omega)
        rw [e_RW_season_33, if_pos (by rw [iI_lt (by omega) (by omega) (by omega) (by omega)]; omega), dr, bI_some, dr, bI_some, hi16_eq, hi16_eq, c_RW_seasonDeed, bI_some, i2l_iI (by omega) (by omega), e3, bI_some, iI_add, iI_add]
        by_cases q : dWhy z (sdV x) m' = 0
        · rw [q, if_pos (show iI 0 = 0 from rfl), seaM_s0 q]
          rw [dNx, if_pos q] at hm3
          exact ih (i + 1) (c + 1) _ _ _ M3 (by omega) (by omega) hE4 hS3 hm3 (dDo_ok hz q ok') hm4 hp4
        · rw [if_neg (by rw [iI_eq0 (by omega) (by omega)]; exact q), seaM_s1 q]
          rw [dNx, if_neg q] at hm3
          exact ih (i + 1) c _ _ _ M3 (by omega) (by omega) hE4 hS3 hm3 ok' hm4 hp4
    obtain ⟨M2, e2, hE12, hS2, hm2, hm22, hp2⟩ := cls n 0 0 x1 m uns M1 (by omega) (by omega) hE1' hS1 hm11 okm hm1 (hpc.fr hE1 (by intro a ha; simp only [List.mem_cons, List.not_mem_nil, or_false] at ha; omega))
    obtain ⟨⟨-, t2⟩, tok, t0⟩ := seaM_all hz n x1 m 0 okm
    have cls' : X2 (d + 79) m_RW_season 0 [.ref 100, .int x1, .int (iI n), uns, uns, uns, uns] [] M = (if (0 : Int32) < iI ((seaM z n x1 m 0).1 : Nat) then bV (c2 (d + 79) m_Past_keep [.ref 114, .ref 112] M2) fun M6 => some (.int (iI ((seaM z n x1 m 0).1 : Nat)), M6) else some (.int (iI ((seaM z n x1 m 0).1 : Nat)), M2)) := by
      rw [e_RW_season_0, if_neg (by rw [iI_lt (by omega) (by omega) (by omega) (by omega)]; omega), if_neg (by rw [iI_lt (by omega) (by omega) (by omega) (by omega)]; omega), e1, bV_some]
      exact e2
    -- the reference
    have hz1 := rq_ok rq hz
    have ok1 : OkM (M.1 198) m := ⟨rq_oks rq okm.1, okm.2⟩
    have ref : ∀ M3 : Mem, Eqx (aloL r) M M3 → ∃ M5, Eqx [197, 198, 202, 203, 204] M3 M5 ∧ Eq7 M3 M5 ∧ M5.1 198 = rowM (M.1 198) (seaM z n x1 m 0).2 ∧ WasM M5 m ∧ X2 (d + 79) m_Mo_season 0 [.ref 197, .int x1, .int (iI n), uns, uns, uns] [] M3 = (if (0 : Int32) < iI ((seaM z n x1 m 0).1 : Nat) then bV (c2 (d + 79) m_Mo_notes [.ref 197] M5) fun M6 => some (.int (iI ((seaM z n x1 m 0).1 : Nat)), M6) else some (.int (iI ((seaM z n x1 m 0).1 : Nat)), M5)) := by
      intro M3 hE3
      have x3 : (wI M3 197 0 (iI 0)).1 198 = M.1 198 := (wI_na (by decide)).trans (hE3 198 (fun q => by have := aloL_mem.mp q; omega)).1
      obtain ⟨M4, e4, hE4, hw4⟩ := c_Mo_keeps (d + 78) (M := wI M3 197 0 (iI 0)) (m := m) (by rw [x3]; exact hmo)
      have x4 : M4.1 198 = rowM (M.1 198) m := by rw [rowM_self hmo, (hE4 198 (by decide)).1, x3]
      have lp : ∀ (j i c : Nat) (x : Int32) (m' : Mo) (v5 : Value) (M' : Mem), j + i = n → c ≤ i → Eqx [197, 198, 202, 203] M4 M' → Eq7 M4 M' → M'.1 198 = rowM (M.1 198) m' → OkM (M.1 198) m' → gI M' 197 20 = x → ∃ M5, X2 (d + 79) m_Mo_season 34 [.ref 197, .int x1, .int (iI n), .int (iI c), .int (iI i), v5] [] M' = (if (0 : Int32) < iI ((seaM (M.1 198) j x m' c).1 : Nat) then bV (c2 (d + 79) m_Mo_notes [.ref 197] M5) fun M6 => some (.int (iI ((seaM (M.1 198) j x m' c).1 : Nat)), M6) else some (.int (iI ((seaM (M.1 198) j x m' c).1 : Nat)), M5)) ∧ Eqx [197, 198, 202, 203] M4 M5 ∧ Eq7 M4 M5 ∧ M5.1 198 = rowM (M.1 198) (seaM (M.1 198) j x m' c).2 := by
        intro j
        induction j with
        | zero =>
          intro i c x m' v5 M' hi hc hE h7 hx ok' h20
          rw [e_Mo_season_34, if_neg (by rw [iI_lt (by omega) (by omega) (by omega) (by omega)]; omega)]
          exact ⟨M', rfl, hE, h7, hx⟩
        | succ j ih =>
          intro i c x m' v5 M' hi hc hE h7 hx ok' h20
          have hv := sdV_lt x
          have hw := dWhy_rng (M.1 198) (sdV x) m'
          let A := wI (wI M' 197 20 (LC x)) 197 20 (LC (LC x))
          have hxA : A.1 198 = rowM (M.1 198) m' := (wI_na (by decide)).trans ((wI_na (by decide)).trans hx)
          have hEA : Eqx [197, 198, 202, 203] M4 A := eqx_wI (eqx_wI hE (by simp)) (by simp)
          have h7A : Eq7 M4 A := fun k hk => by
            show gI (wI (wI M' 197 20 _) 197 20 _) 197 k = _
            rw [gI_nk (by omega), gI_nk (by omega)]; exact h7 k hk
          have hA20 : gI A 197 20 = LC (LC x) := gI_eq _ _ _ _
          have dn : c2 (d + 79) m_Mo_drawn [.ref 197] M' = some (.int (iI (sdV x)), A) := c_Mo_drawn (d + 77) h20
          have wn := c_Mo_whyNot (d + 75) hz1 hxA ok' (lI (sdV x))
          rw [lI_toInt (by omega) (by omega)] at wn
          rw [e_Mo_season_34, if_pos (by rw [iI_lt (by omega) (by omega) (by omega) (by omega)]; omega), dn, bI_some, i2l_iI (by omega) (by omega), wn, bI_some, iI_add, iI_add]
          by_cases q : dWhy (M.1 198) (sdV x) m' = 0
          · obtain ⟨M6, e6, hE6, hx6⟩ := c_Mo_does (d + 72) hz1 hxA ok' q
            rw [q, if_pos (show iI 0 = 0 from rfl), e6, bV_some, seaM_s0 q]
            exact ih (i + 1) (c + 1) _ _ _ M6 (by omega) (by omega) (hEA.tr (hE6.mono (by simp))) (fun k hk => by rw [eqx_I hE6 (by decide)]; exact h7A k hk) hx6 (dDo_ok hz1 q ok') ((eqx_I hE6 (by decide) 20).trans hA20)
          · rw [if_neg (by rw [iI_eq0 (by omega) (by omega)]; exact q), seaM_s1 q]
            exact ih (i + 1) c _ _ _ A (by omega) (by omega) hEA h7A hxA ok' hA20
      obtain ⟨M5, e5, hE5, h75, x5⟩ := lp n 0 0 x1 m uns (wI M4 197 20 x1) (by omega) (by omega) (eqx_wI Eqx.rf (by simp)) (fun k hk => by rw [gI_nk (by omega)]) (by rw [wI_na (by decide)]; exact x4) ok1 (gI_eq _ _ _ _)
      rw [rq_seaM rq hz n x1 m 0 okm] at e5 x5
      refine ⟨M5, ((eqx_wI Eqx.rf (by simp) : Eqx [197, 198, 202, 203, 204] M3 (wI M3 197 0 (iI 0))).tr (hE4.mono (by simp))).tr (hE5.mono (by simp)), ?_, x5, hw4.fr (hE5 204 (by decide)).1, ?_⟩
      · intro k hk
        rw [h75 k hk, eqx_I hE4 (by decide), gI_nk (by omega)]
      · rw [e_Mo_season_0, c_Mo_within, bI_some, i2l_iI (by omega) (by omega), lI_toInt (by omega) (by omega), lI_toInt (by omega) (by omega), lI_toInt (by omega) (by omega), decide_eq_true hn, b2i_t, if_neg (show ¬ (iI 1 = 0) by decide), e4, bV_some]
        exact e5
    by_cases q : (seaM z n x1 m 0).1 = 0
    · have hmm := t0 q
      obtain ⟨M5, hE5, h75, x5, hw5, e5⟩ := ref M2 hE12
      rw [hmm, rowM_self hmo] at x5
      rw [q, if_neg (show ¬ ((0 : Int32) < iI ((0 : Nat) : Int)) by decide)] at e5 cls'
      rw [hmm] at hm2
      refine ⟨iI ((0 : Nat) : Int), M2, M5, cls', e5, fin_deed (b := b + 1) rq hrest h5 (by omega) hE12 (aloL_ok hS.1) hE5 (by intro a ha; simp only [List.mem_cons, List.not_mem_nil, or_false] at ha; omega) h75 hS2 hm2 okm hp2 hof ?_ ?_⟩
      · intro k _; rw [rowM_self hmo, x5]
      · rw [x5]; exact hpm
    · obtain ⟨M3, e3, hE3, hp3⟩ := c_Past_keep (d + 77) hp2 (a := 112) (by decide) (by decide) hm22
      have hE13 : Eqx (aloL r) M M3 := hE12.tr (hE3.mono (fun a ha => aloL_mem.mpr (by have := pastL_mem.mp ha; omega)))
      have hS3 : StepsC M3 r z tm0 st := hS2.fq hE3 (fun a ha => by have := pastL_mem.mp ha; omega)
      have hm3 : MoC M3 111 (seaM z n x1 m 0).2 := hm2.fr (hE3 111 (by decide)).1
      obtain ⟨M5, hE5, h75, x5, hw5, e5⟩ := ref M3 hE13
      obtain ⟨M6, e6, hE6, hN6, hp6⟩ := ref_notes (d + 78) (M1 := M) hw5 x5 hpm hpc.2.2.2.1
      have pos : (0 : Int32) < iI ((seaM z n x1 m 0).1 : Nat) := by
        have e' : (0 : Int32) = iI 0 := rfl
        rw [e', iI_lt (by omega) (by omega) (by omega) (by omega)]; omega
      rw [if_pos pos, e6, bV_some] at e5
      rw [if_pos pos, e3, bV_some] at cls'
      refine ⟨iI ((seaM z n x1 m 0).1 : Nat), M3, M6, cls', e5, fin_deed (b := b + 1) (S2 := [197, 198, 202, 203, 204]) rq hrest h5 (by omega) hE13 (aloL_ok hS.1) (hE5.tr (hE6.mono (by simp))) (by intro a ha; simp only [List.mem_cons, List.not_mem_nil, or_false] at ha; omega) ?_ hS3 hm3 tok hp3 (psh_all hpc.2.2.2.1 hof okm) hN6 hp6⟩
      intro k hk
      rw [eqx_I hE6 (by decide)]; exact h75 k hk
  · refine ⟨iI (-3), M, wI M 197 0 (iI 0), ?_, ?_, fin_same hRel0 (Eqx.rf : Eqx [] M M) (fun a ha => absurd ha (List.not_mem_nil)) (eqx_wI Eqx.rf (by simp) : Eqx [197] M _) (by intro a ha; simp only [List.mem_cons, List.not_mem_nil, or_false] at ha; omega) (fun k hk => by rw [gI_nk (by omega)]) (wI_na (by decide))⟩
    · show X2 (d + 79) m_RW_season 0 [.ref 100, .int x1, .int (iI n), uns, uns, uns, uns] [] M = _
      rw [e_RW_season_0]
      by_cases q : n < 1
      · rw [if_pos (by rw [iI_lt n1 n2 (by omega) (by omega)]; exact q)]
      · rw [if_neg (by rw [iI_lt n1 n2 (by omega) (by omega)]; exact q), if_pos (by rw [iI_lt (by omega) (by omega) n1 n2]; omega)]
    · show X2 (d + 79) m_Mo_season 0 [.ref 197, .int x1, .int (iI n), uns, uns, uns] [] M = _
      rw [e_Mo_season_0, c_Mo_within, bI_some, i2l_iI n1 n2, lI_toInt (by omega) (by omega), lI_toInt (by omega) (by omega), lI_toInt (by omega) (by omega), decide_eq_false hn, b2i_f, if_pos (show iI 0 = 0 from rfl)]
