/-! nights, undo. -/
def itM (z : Row) (bl : Nat) (m : Mo) : Nat → Mo
  | 0 => m
  | k + 1 => nightM z (itM z bl m k) bl
theorem itM_ok {z : Row} (hz : OkZ z) (bl : Nat) {m : Mo} (h : OkM z m) : ∀ k, OkM z (itM z bl m k)
  | 0 => h
  | k + 1 => night_ok hz (itM_ok hz bl h k) bl
theorem itM_4 (z : Row) (bl : Nat) (m : Mo) (k : Nat) (h : (itM z bl m k).2.1 = 4) (h5 : (itM z bl m k).2.1 < 5) : (itM z bl m (k + 1)).2.1 = 4 := by
  show nxt z _ (5 * (itM z bl m k).1 + (itM z bl m k).2.1) bl % 5 = 4
  exact nxt_4 z _ bl (by omega)
/-- in which night one went, so far: 0 none -/
def cqN (z : Row) (bl : Nat) (m : Mo) (n : Nat) : Nat → Nat
  | 0 => if m.2.1 = 4 then n else 0
  | i + 1 => if cqN z bl m n i = 0 ∧ (itM z bl m (i + 1)).2.1 = 4 then i + 1 else cqN z bl m n i
theorem cqN_iff {z : Row} (hz : OkZ z) {bl : Nat} {m : Mo} (ok : OkM z m) {n : Nat} (hn : 1 ≤ n) : ∀ i, (cqN z bl m n i = 0 ↔ (itM z bl m i).2.1 ≠ 4)
  | 0 => by
    rw [cqN]
    show _ ↔ m.2.1 ≠ 4
    split <;> constructor <;> intro h <;> omega
  | i + 1 => by
    have ih := cqN_iff hz (bl := bl) ok hn i
    rw [cqN]
    by_cases c : cqN z bl m n i = 0
    · by_cases w : (itM z bl m (i + 1)).2.1 = 4
      · rw [if_pos ⟨c, w⟩]; constructor <;> intro h <;> omega
      · rw [if_neg (fun x => w x.2)]; exact ⟨fun _ => w, fun _ => c⟩
    · rw [if_neg (fun x => c x.1)]
      have h4 : (itM z bl m i).2.1 = 4 := Classical.byContradiction (fun x => c (ih.mpr x))
      have := itM_4 z bl m i h4 (by omega)
      exact ⟨fun x => absurd x c, fun x => absurd this x⟩
theorem cqN_le (z : Row) (bl : Nat) (m : Mo) {n : Nat} : ∀ i, i ≤ n → cqN z bl m n i ≤ n
  | 0, _ => by rw [cqN]; split <;> omega
  | i + 1, h => by
    have := cqN_le z bl m (n := n) i (by omega)
    rw [cqN]; split <;> omega
theorem s_nights (x1 x2 : Int32) : Step m_RW_nights m_Mo_nights [.int x1, .int x2] := by
  intro d M b hRel hb
  have hRel0 := hRel
  obtain ⟨r, tm0, st, nx, nd, m, f, so, tn, tv, z, hS, hst, h5, hm, okm, rq, hmo, hpc, hpm, hof, hrest⟩ := hRel
  have hz := hS.2.2.2.1
  have hr := rm_mod hS.1
  obtain ⟨n, rfl, n1, n2⟩ := iI_ex x1
  obtain ⟨bl, rfl, b1, b2⟩ := iI_ex x2
  have same : ∀ v : Int32, c2 (d + 80) m_RW_nights [.ref 100, .int (iI n), .int (iI bl)] M = some (.int v, M) → c2 (d + 80) m_Mo_nights [.ref 197, .int (iI n), .int (iI bl)] M = some (.int v, wI M 197 0 (iI 0)) → ∃ v M1 M2, c2 (d + 80) m_RW_nights [.ref 100, .int (iI n), .int (iI bl)] M = some (.int v, M1) ∧ c2 (d + 80) m_Mo_nights [.ref 197, .int (iI n), .int (iI bl)] M1 = some (.int v, M2) ∧ Rel M2 (b + 1) ∧ Keep M M2 := fun v h1 h2 => ⟨v, M, _, h1, h2, fin_same hRel0 (Eqx.rf : Eqx [] M M) (fun a ha => absurd ha (List.not_mem_nil)) (eqx_wI Eqx.rf (by simp) : Eqx [197] M _) (by intro a ha; simp only [List.mem_cons, List.not_mem_nil, or_false] at ha; omega) (fun k hk => by rw [gI_nk (by omega)]) (wI_na (by decide))⟩
  by_cases hn : 1 ≤ n ∧ n ≤ 99
  · by_cases hbl : 0 ≤ bl ∧ bl ≤ 1
    · obtain ⟨n, rfl⟩ := Int.eq_ofNat_of_zero_le (show 0 ≤ n by omega)
      obtain ⟨bl, rfl⟩ := Int.eq_ofNat_of_zero_le hbl.1
      -- the class
      obtain ⟨M1, e1, hE1, hp1⟩ := c_Past_keep (d + 77) hpc (a := 111) (by decide) (by decide) hm
      have hS1 : StepsC M1 r z tm0 st := hS.fq hE1 (fun a ha => by have := pastL_mem.mp ha; omega)
      have hm1 : MoC M1 111 m := hm.fr (hE1 111 (by decide)).1
      have hE1' : Eqx (aloL r) M M1 := hE1.mono (fun a ha => aloL_mem.mpr (by have := pastL_mem.mp ha; omega))
      have cls : ∀ (j i : Nat) (M' : Mem), j + i = n → Eqx (aloL r) M M' → StepsC M' r z tm0 st → MoC M' 111 (itM z bl m i) → PastC M' ((nx + 1) % 10) (nd1 nd) (psh f nd m) → ∃ M2, X2 (d + 79) m_RW_nights 55 [.ref 100, .int (iI n), .int (iI bl), .int (iI (cqN z bl m n i)), .int (iI ((i + 1 : Nat) : Int))] [] M' = some (.int (iI ((if cqN z bl m n n = 0 then n else cqN z bl m n n : Nat) : Int)), M2) ∧ Eqx (aloL r) M M2 ∧ StepsC M2 r z tm0 st ∧ MoC M2 111 (itM z bl m n) ∧ PastC M2 ((nx + 1) % 10) (nd1 nd) (psh f nd m) := by
        intro j
        induction j with
        | zero =>
          intro i M' hi hE hS' hm' hp'
          have hi' : i = n := by omega
          subst hi'
          have hcl := cqN_le z bl m (n := i) i (Nat.le_refl _)
          rw [e_RW_nights_55, if_pos (by rw [iI_lt (by omega) (by omega) (by omega) (by omega)]; omega)]
          refine ⟨M', ?_, hE, hS', hm', hp'⟩
          by_cases q : cqN z bl m i i = 0
          · rw [if_pos (by rw [q]; rfl), if_pos q]
          · rw [if_neg (by rw [iI_eq0 (by omega) (by omega)]; omega), if_neg q]
        | succ j ih =>
          intro i M' hi hE hS' hm' hp'
          have oki := itM_ok hz bl okm i
          have oki1 := itM_ok hz bl okm (i + 1)
          have hcl := cqN_le z bl m (n := n) i (by omega)
          obtain ⟨M3, e3, hE3, hS3, hm3⟩ := c_RW_passNightM (d + 74) (a := 111) (bl := bl) hS' (by decide) hm' oki (by omega)
          have hE4 : Eqx (aloL r) M M3 := hE.tr (hE3.mono (fun a ha => aloL_mem.mpr (by simp only [List.mem_cons, List.not_mem_nil, or_false] at ha; omega)))
          obtain ⟨M4, e4, a4⟩ := ih (i + 1) M3 (by omega) hE4 hS3 hm3 (hp'.fr hE3 (by intro a ha; simp only [List.mem_cons, List.not_mem_nil, or_false] at ha; omega))
          refine ⟨M4, ?_, a4⟩
          rw [e_RW_nights_55, if_neg (by rw [iI_lt (by omega) (by omega) (by omega) (by omega)]; omega), e3, bV_some, show gI M3 111 1 = iI (cwho (itM z bl m (i + 1)).2.1) from hm3.2.1, iI_add]
          rw [cqN] at e4
          by_cases q : cqN z bl m n i = 0
          · rw [if_pos (by rw [q]; rfl)]
            by_cases w : (itM z bl m (i + 1)).2.1 = 4
            · rw [if_pos ⟨q, w⟩] at e4
              rw [if_pos (by rw [cw_eq oki1.2.1]; exact w)]; exact e4
            · rw [if_neg (fun x => w x.2)] at e4
              rw [if_neg (by rw [cw_eq oki1.2.1]; exact w)]; exact e4
          · rw [if_neg (fun x => q x.1)] at e4
            rw [if_neg (by rw [iI_eq0 (by omega) (by omega)]; omega)]; exact e4
      obtain ⟨M2, e2, hE2, hS2, hm2, hp2⟩ := cls n 0 M1 (by omega) hE1' hS1 hm1 hp1
      have x198 : M2.1 198 = M.1 198 := (hE2 198 (fun q => by have := aloL_mem.mp q; omega)).1
      -- the reference
      have hz1 := rq_ok rq hz
      have ok1 : OkM (M.1 198) m := ⟨rq_oks rq okm.1, okm.2⟩
      have hitz : ∀ i, itM (M.1 198) bl m i = itM z bl m i := by
        intro i
        induction i with
        | zero => rfl
        | succ i ih =>
          show nightM (M.1 198) (itM (M.1 198) bl m i) bl = nightM z (itM z bl m i) bl
          rw [ih]; unfold nightM; rw [rq_nxt rq hz]
      obtain ⟨M3, e3, hE3, hw3⟩ := c_Mo_keeps (d + 78) (M := wI M2 197 0 (iI 0)) (m := m) (by rw [wI_na (by decide), x198]; exact hmo)
      have r3 : M3.1 198 = rowM (M.1 198) m := by rw [rowM_self hmo, (hE3 198 (by decide)).1, wI_na (by decide), x198]
      have ref : ∀ (j i : Nat) (M' : Mem) (v5 : Value), j + i = n → Eqx [198, 202, 203] M3 M' → M'.1 198 = rowM (M.1 198) (itM z bl m i) → ∃ M4, X2 (d + 79) m_Mo_nights 40 [.ref 197, .int (iI n), .int (iI bl), .int (iI ((if cqN z bl m n i = 0 then n else cqN z bl m n i : Nat) : Int)), .int (iI ((i + 1 : Nat) : Int)), v5] [] M' = some (.int (iI ((if cqN z bl m n n = 0 then n else cqN z bl m n n : Nat) : Int)), M4) ∧ Eqx [198, 202, 203] M3 M4 ∧ NotR (rowM (M.1 198) (itM z bl m n)) (M4.1 198) ∧ PastM (M4.1 198) (nd1 nd) (psh f nd m) := by
        intro j
        induction j with
        | zero =>
          intro i M' v5 hi hE hrow
          have hi' : i = n := by omega
          subst hi'
          obtain ⟨M5, e5, hE5, hN5, hp5⟩ := ref_notes (d + 78) (M1 := M) (hw3.fr (hE 204 (by decide)).1) hrow hpm hpc.2.2.2.1
          rw [e_Mo_nights_40, if_pos (by rw [iI_lt (by omega) (by omega) (by omega) (by omega)]; omega), e5, bV_some]
          exact ⟨M5, rfl, hE.tr (hE5.mono (by simp)), hN5, hp5⟩
        | succ j ih =>
          intro i M' v5 hi hE hrow
          have oki := itM_ok hz bl okm i
          have oki1 := itM_ok hz bl okm (i + 1)
          have okz : OkM (M.1 198) (itM z bl m i) := ⟨rq_oks rq oki.1, oki.2⟩
          obtain ⟨M5, e5, hE5, hr5⟩ := c_Mo_goesNightM (d + 73) (bl := bl) hz1 hrow okz
          have hnn : nightM (M.1 198) (itM z bl m i) bl = itM z bl m (i + 1) := by
            show nightM (M.1 198) (itM z bl m i) bl = nightM z (itM z bl m i) bl
            unfold nightM; rw [rq_nxt rq hz]
          rw [hnn] at hr5
          have h26 : gI M' 198 26 = iI (itM z bl m i).2.1 := by rw [gI, hrow]; rfl
          have h26' : gI M5 198 26 = iI (itM z bl m (i + 1)).2.1 := by rw [gI, hr5]; rfl
          have c1 := cqN_iff hz (bl := bl) okm (show 1 ≤ n by omega) i
          rw [e_Mo_nights_40, if_neg (by rw [iI_lt (by omega) (by omega) (by omega) (by omega)]; omega), h26]
          have ihn := fun v5 => ih (i + 1) M5 v5 (by omega) (hE.tr hE5) hr5
          by_cases w : (itM z bl m i).2.1 = 4
          · have hc : cqN z bl m n i ≠ 0 := fun x => (c1.mp x) w
            have hcs : cqN z bl m n (i + 1) = cqN z bl m n i := if_neg (fun x => hc x.1)
            rw [if_pos (by rw [w]; rfl), e_Mo_nights_62, e5, bV_some, if_pos (show iI 0 = 0 from rfl), iI_add]
            rw [hcs] at ihn
            exact ihn _
          · have hc : cqN z bl m n i = 0 := c1.mpr w
            rw [if_neg (by rw [who_eq oki.2.1]; exact w), e_Mo_nights_62, e5, bV_some, if_neg (show ¬ (iI 1 = 0) by decide), h26', iI_add, if_pos hc]
            by_cases w1 : (itM z bl m (i + 1)).2.1 = 4
            · have hcs : cqN z bl m n (i + 1) = i + 1 := if_pos ⟨hc, w1⟩
              rw [hcs, if_neg (show ¬ (i + 1 = 0) by omega)] at ihn
              rw [if_pos (by rw [w1]; rfl)]
              exact ihn _
            · have hcs : cqN z bl m n (i + 1) = cqN z bl m n i := if_neg (fun x => w1 x.2)
              rw [hcs, if_pos hc] at ihn
              rw [if_neg (by rw [who_eq oki1.2.1]; exact w1)]
              exact ihn _
      obtain ⟨M4, e4, hE4, hN4, hp4⟩ := ref n 0 M3 uns (by omega) Eqx.rf r3
      have hc0 : (if cqN z bl m n 0 = 0 then n else cqN z bl m n 0) = n := by
        rw [cqN]
        by_cases q : m.2.1 = 4
        · rw [if_pos q]; split <;> rfl
        · rw [if_neg q, if_pos rfl]
      rw [hc0] at e4
      refine ⟨iI ((if cqN z bl m n n = 0 then n else cqN z bl m n n : Nat) : Int), M2, M4, ?_, ?_, fin_deed (b := b + 1) (S2 := [197, 198, 202, 203, 204]) rq hrest h5 (by omega) hE2 (aloL_ok hS.1) ?_ (by intro a ha; simp only [List.mem_cons, List.not_mem_nil, or_false] at ha; omega) ?_ hS2 hm2 (itM_ok hz bl okm n) hp2 (psh_all hpc.2.2.2.1 hof okm) hN4 hp4⟩
      · show X2 (d + 79) m_RW_nights 0 [.ref 100, .int (iI n), .int (iI bl), uns, uns] [] M = _
        rw [e_RW_nights_0, if_neg (by rw [iI_lt (by omega) (by omega) (by omega) (by omega)]; omega), if_neg (by rw [iI_lt (by omega) (by omega) (by omega) (by omega)]; omega), c_RW_isBlind, bI_some, iI_toInt (by omega) (by omega), decide_eq_true hbl, b2i_t, if_neg (show ¬ (iI 1 = 0) by decide), e1, bV_some, hm1.2.1]
        rw [cqN] at e2
        by_cases q : m.2.1 = 4
        · rw [if_pos q] at e2
          rw [if_pos (by rw [cw_eq okm.2.1]; exact q)]; exact e2
        · rw [if_neg q] at e2
          rw [if_neg (by rw [cw_eq okm.2.1]; exact q)]; exact e2
      · show X2 (d + 79) m_Mo_nights 0 [.ref 197, .int (iI n), .int (iI bl), uns, uns, uns] [] M2 = _
        rw [e_Mo_nights_0, c_Mo_within, bI_some, i2l_iI (by omega) (by omega), lI_toInt (by omega) (by omega), lI_toInt (by omega) (by omega), lI_toInt (by omega) (by omega), decide_eq_true hn, b2i_t, if_neg (show ¬ (iI 1 = 0) by decide), c_Mo_isBlind, bI_some, i2l_iI (by omega) (by omega), lI_toInt (by omega) (by omega), decide_eq_true hbl, b2i_t, if_neg (show ¬ (iI 1 = 0) by decide), e3, bV_some]
        exact e4
      · exact (((eqx_wI Eqx.rf (by simp)) : Eqx [197, 198, 202, 203, 204] M2 (wI M2 197 0 (iI 0))).tr (hE3.mono (by simp))).tr (hE4.mono (by simp))
      · intro k hk
        rw [eqx_I hE4 (by decide), eqx_I hE3 (by decide), gI_nk (by omega)]
    · refine same (iI (-11)) ?_ ?_
      · show X2 (d + 79) m_RW_nights 0 [.ref 100, .int (iI n), .int (iI bl), uns, uns] [] M = _
        rw [e_RW_nights_0, if_neg (by rw [iI_lt (by omega) (by omega) (by omega) (by omega)]; omega), if_neg (by rw [iI_lt (by omega) (by omega) (by omega) (by omega)]; omega), c_RW_isBlind, bI_some, iI_toInt b1 b2, decide_eq_false hbl, b2i_f, if_pos (show iI 0 = 0 from rfl)]
      · show X2 (d + 79) m_Mo_nights 0 [.ref 197, .int (iI n), .int (iI bl), uns, uns, uns] [] M = _
        rw [e_Mo_nights_0, c_Mo_within, bI_some, i2l_iI n1 n2, lI_toInt (by omega) (by omega), lI_toInt (by omega) (by omega), lI_toInt (by omega) (by omega), decide_eq_true hn, b2i_t, if_neg (show ¬ (iI 1 = 0) by decide), c_Mo_isBlind, bI_some, i2l_iI b1 b2, lI_toInt (by omega) (by omega), decide_eq_false hbl, b2i_f, if_pos (show iI 0 = 0 from rfl)]
  · refine same (iI (-3)) ?_ ?_
    · show X2 (d + 79) m_RW_nights 0 [.ref 100, .int (iI n), .int (iI bl), uns, uns] [] M = _
      rw [e_RW_nights_0]
      by_cases q : n < 1
      · rw [if_pos (by rw [iI_lt n1 n2 (by omega) (by omega)]; exact q)]
      · rw [if_neg (by rw [iI_lt n1 n2 (by omega) (by omega)]; exact q), if_pos (by rw [iI_lt (by omega) (by omega) n1 n2]; omega)]
    · show X2 (d + 79) m_Mo_nights 0 [.ref 197, .int (iI n), .int (iI bl), uns, uns, uns] [] M = _
      rw [e_Mo_nights_0, c_Mo_within, bI_some, i2l_iI n1 n2, lI_toInt (by omega) (by omega), lI_toInt (by omega) (by omega), lI_toInt (by omega) (by omega), decide_eq_false hn, b2i_f, if_pos (show iI 0 = 0 from rfl)]
