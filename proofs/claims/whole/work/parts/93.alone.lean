/-! night, let, turn, temper. -/
theorem rowM_self {z : Row} {m : Mo} (h : momAt z 25 m) : rowM z m = z := by
  funext j
  rw [rowM_at]
  by_cases j28 : j = 28
  · rw [if_pos j28, j28]; exact h.2.2.2.symm
  · rw [if_neg j28]
    by_cases j27 : j = 27
    · rw [if_pos j27, j27]; exact h.2.2.1.symm
    · rw [if_neg j27]
      by_cases j26 : j = 26
      · rw [if_pos j26, j26]; exact h.2.1.symm
      · rw [if_neg j26]
        by_cases j25 : j = 25
        · rw [if_pos j25, j25]; exact h.1.symm
        · rw [if_neg j25]
theorem rowM_mom (z : Row) (m : Mo) : momAt (rowM z m) 25 m := ⟨rfl, rfl, rfl, rfl⟩
theorem rowM_past {z : Row} {m : Mo} {nd : Nat} {f : Nat → Mo} (h : PastM z nd f) : PastM (rowM z m) nd f := by
  refine ⟨by rw [rowM_o _ _ (by omega)]; exact h.1, fun j hj => ?_⟩
  obtain ⟨a, b, c, e⟩ := h.2 j hj
  exact ⟨by rw [rowM_o _ _ (by omega)]; exact a, by rw [rowM_o _ _ (by omega)]; exact b, by rw [rowM_o _ _ (by omega)]; exact c, by rw [rowM_o _ _ (by omega)]; exact e⟩
/-- a deed done on both sides -/
theorem fin_deed {M M1 M2 : Mem} {b r tm0 st nx nd : Nat} {m' : Mo} {f : Nat → Mo} {so : Nat → Int} {tn : Nat → Nat} {tv : Nat → Nat → Int64} {z : Row} {S1 S2 : List Nat}
    (rq : RowEq z (M.1 198)) (hrest : Rest M (M.1 198) so tn tv) (h5 : gR M 100 5 = r) (hst : st ≤ b)
    (hE1 : Eqx S1 M M1) (hS1 : ∀ a, a ∈ S1 → okA a ∧ a < 187) (hE2 : Eqx S2 M1 M2) (hS2 : ∀ a, a ∈ S2 → a = 197 ∨ a = 198 ∨ (202 ≤ a ∧ a ≤ 212)) (h7 : Eq7 M1 M2)
    (hS : StepsC M1 r z tm0 st) (hm : MoC M1 111 m') (ok : OkM z m') (hpc : PastC M1 nx nd f) (hof : ∀ j, j < nd → OkM z (f j))
    (hN : NotR (rowM (M.1 198) m') (M2.1 198)) (hpm : PastM (M2.1 198) nd f) : Rel M2 b ∧ Keep M M2 := by
  have n1 : ∀ a, ¬ (okA a ∧ a < 187) → a ∉ S1 := fun a h q => h (hS1 a q)
  have n2 : ∀ a, ¬ (a = 197 ∨ a = 198 ∨ (202 ≤ a ∧ a ≤ 212)) → a ∉ S2 := fun a h q => h (hS2 a q)
  refine ⟨⟨r, tm0, st, nx, nd, m', f, so, tn, tv, z, hS.ref hE2 (fun a ha => by have := hS2 a ha; omega), hst, ?_, hm.fr (hE2 111 (n2 _ (by omega))).1, ok, ?_, ?_, hpc.fr hE2 (fun a ha => by have := hS2 a ha; omega), hpm, hof, ?_⟩, ?_, ?_⟩
  · exact (eqx_R hE2 (n2 _ (by omega)) 5).trans ((eqx_R hE1 (n1 _ (by unfold okA; omega)) 5).trans h5)
  · intro k hk
    rw [hN k (by omega), rowM_o _ _ (by omega)]; exact rq k hk
  · have hmm := rowM_mom (M.1 198) m'
    exact ⟨(hN 25 (by omega)).trans hmm.1, (hN 26 (by omega)).trans hmm.2.1, (hN 27 (by omega)).trans hmm.2.2.1, (hN 28 (by omega)).trans hmm.2.2.2⟩
  · refine (hrest.fr hE1 (fun a ha => (hS1 a ha).1) (Eq7.of hE1 (n1 _ (by omega))) (fun _ _ => rfl)).fr hE2 (fun a ha => by have := hS2 a ha; unfold okA; omega) h7 ?_
    intro k hk
    rw [hN k (by omega), rowM_o _ _ (by omega)]
  · exact ((hE2 0 (n2 _ (by omega))).1).trans (hE1 0 (n1 _ (by unfold okA; omega))).1
  · exact ((hE2 1 (n2 _ (by omega))).1).trans (hE1 1 (n1 _ (by unfold okA; omega))).1
/-- nothing done -/
theorem fin_same {M M1 M2 : Mem} {b : Nat} (h : Rel M b) {S1 S2 : List Nat} (hE1 : Eqx S1 M M1) (hS1 : ∀ a, a ∈ S1 → a = 112 ∨ a = 113) (hE2 : Eqx S2 M1 M2) (hS2 : ∀ a, a ∈ S2 → a = 197 ∨ a = 198 ∨ (202 ≤ a ∧ a ≤ 212)) (h7 : Eq7 M1 M2) (hz : M2.1 198 = M1.1 198) : Rel M2 (b + 1) ∧ Keep M M2 := by
  obtain ⟨r, tm0, st, nx, nd, m, f, so, tn, tv, z, hS, hst, h5, hm, okm, rq, hmo, hpc, hpm, hof, hrest⟩ := h
  have n1 : ∀ a, ¬ (a = 112 ∨ a = 113) → a ∉ S1 := fun a h q => h (hS1 a q)
  have x198 : M1.1 198 = M.1 198 := (hE1 198 (n1 _ (by omega))).1
  have hsame := rowM_self hmo
  refine fin_deed (b := b + 1) rq hrest h5 (by omega) hE1 (fun a ha => by have := hS1 a ha; unfold okA; omega) hE2 hS2 h7 (hS.fq hE1 (fun a ha => by have := hS1 a ha; omega)) (hm.fr (hE1 111 (n1 _ (by omega))).1) okm (hpc.fr hE1 (fun a ha => by have := hS1 a ha; omega)) hof ?_ ?_
  · intro k _; rw [hsame, hz, x198]
  · rw [hz, x198]; exact hpm
def aloL (r : Nat) : List Nat := [111, 112, 114, 116, 117, 118, 119, 120, 121, 122, 123, 124, 125, 128, 129, 130, r + 6, r + 9]
theorem aloL_mem {r a : Nat} : a ∈ aloL r ↔ (a = 111 ∨ a = 112 ∨ a = 114 ∨ (116 ≤ a ∧ a ≤ 125) ∨ (128 ≤ a ∧ a ≤ 130) ∨ a = r + 6 ∨ a = r + 9) := by
  simp only [aloL, List.mem_cons, List.not_mem_nil, or_false]; omega
theorem aloL_ok {r : Nat} (hr : r ∈ rooms) : ∀ a, a ∈ aloL r → okA a ∧ a < 187 := fun a ha => by
  have h1 := aloL_mem.mp ha
  have h2 := rm_mod hr
  unfold okA; omega
def whyA (z : Row) (fs v : Int) (m : Mo) : Int := if 0 ≤ v ∧ v ≤ 9 then dWhy z (fs + v) m else 1
theorem whyA_rng (z : Row) (fs v : Int) (m : Mo) : 0 ≤ whyA z fs v m ∧ whyA z fs v m ≤ 2 := by
  have := dWhy_rng z (fs + v) m
  unfold whyA; split <;> omega
theorem c_RW_doneAlone (d : Nat) {M : Mem} {r tm0 st nx nd : Nat} {z : Row} {m : Mo} {f : Nat → Mo} {v fs : Int} (hS : StepsC M r z tm0 st) (h5 : gR M 100 5 = r) (hm : MoC M 111 m) (ok : OkM z m) (hpc : PastC M nx nd f) (v1 : -2147483648 ≤ v) (v2 : v ≤ 2147483647) (f1 : 0 ≤ fs) (f2 : fs ≤ 30) :
    ∃ M', c2 (d + 7) m_RW_doneAlone [.ref 100, .int (iI v), .int (iI fs)] M = some (.int (iI (whyA z fs v m)), M') ∧ Eqx (aloL r) M M' ∧ StepsC M' r z tm0 st ∧
      (whyA z fs v m = 0 → MoC M' 111 (dDo z (fs + v) m) ∧ MoC M' 112 m ∧ PastC M' ((nx + 1) % 10) (nd1 nd) (psh f nd m)) ∧ (whyA z fs v m ≠ 0 → MoC M' 111 m ∧ PastC M' nx nd f) := by
  have hr := hS.1
  have hrl := rm_lt r hr
  show ∃ M', X2 (d + 6) m_RW_doneAlone 0 [.ref 100, .int (iI v), .int (iI fs), uns] [] M = _ ∧ _
  rw [e_RW_doneAlone_0, whyA]
  by_cases hv : 0 ≤ v ∧ v ≤ 9
  · obtain ⟨M1, e1, hE1, hm1⟩ := c_Mom_copy (d + 5) (a := 112) (b := 111) (by decide) (by decide) (by decide) hm
    have hS1 : StepsC M1 r z tm0 st := hS.fq hE1 (by intro a ha; simp only [List.mem_cons, List.not_mem_nil, or_false] at ha; omega)
    have h51 : gR M1 100 5 = r := (eqx_R hE1 (by decide) 5).trans h5
    have hm11 : MoC M1 111 m := hm.fr (hE1 111 (by decide)).1
    obtain ⟨M2, e2, hE2, hS2, hm2⟩ := c_RW_doDeed d hS1 h51 (a := 111) (by decide) hm11 ok (lI (fs + v))
    rw [lI_toInt (by omega) (by omega)] at e2 hm2
    have hw := dWhy_rng z (fs + v) m
    have hE12 : Eqx (aloL r) M M2 := (hE1.mono (fun a ha => aloL_mem.mpr (by simp only [List.mem_cons, List.not_mem_nil, or_false] at ha; omega))).tr (hE2.mono (fun a ha => aloL_mem.mpr (by simp only [List.mem_cons, List.not_mem_nil, or_false] at ha; omega)))
    rw [if_neg (by rw [iI_lt0 (by omega) (by omega)]; omega), if_neg (by rw [iI_lt (by omega) (by omega) (by omega) (by omega)]; omega), e1, bV_some, iI_add, i2l_iI (by omega) (by omega), e2, bI_some, if_pos hv]
    by_cases q : dWhy z (fs + v) m = 0
    · have hp2 : PastC M2 nx nd f := (hpc.fr hE1 (by intro a ha; simp only [List.mem_cons, List.not_mem_nil, or_false] at ha; omega)).fr hE2 (by intro a ha; simp only [List.mem_cons, List.not_mem_nil, or_false] at ha; omega)
      have hm22 : MoC M2 112 m := MoC.fr hm1 (hE2 112 (by simp <;> omega)).1
      obtain ⟨M3, e3, hE3, hp3⟩ := c_Past_keep (d + 4) hp2 (a := 112) (by decide) (by decide) hm22
      rw [if_pos (by rw [q]; rfl), e3, bV_some]
      refine ⟨M3, rfl, hE12.tr (hE3.mono (fun a ha => aloL_mem.mpr (by have := pastL_mem.mp ha; omega))), hS2.fq hE3 (fun a ha => by have := pastL_mem.mp ha; omega), fun _ => ⟨?_, MoC.fr hm22 (hE3 112 (by decide)).1, hp3⟩, fun x => absurd q x⟩
      unfold dNx at hm2
      rw [if_pos q] at hm2
      exact hm2.fr (hE3 111 (by decide)).1
    · rw [if_neg (by rw [iI_eq0 (by omega) (by omega)]; exact q)]
      refine ⟨M2, rfl, hE12, hS2, fun x => absurd x q, fun _ => ⟨?_, (hpc.fr hE1 (by intro a ha; simp only [List.mem_cons, List.not_mem_nil, or_false] at ha; omega)).fr hE2 (by intro a ha; simp only [List.mem_cons, List.not_mem_nil, or_false] at ha; omega)⟩⟩
      unfold dNx at hm2
      rw [if_neg q] at hm2
      exact hm2
  · rw [if_neg hv]
    have fin : ∃ M', (some (.int (iI 1), M) : Rs Mem) = some (.int (iI 1), M') ∧ Eqx (aloL r) M M' ∧ StepsC M' r z tm0 st ∧ ((1 : Int) = 0 → MoC M' 111 (dDo z (fs + v) m) ∧ MoC M' 112 m ∧ PastC M' ((nx + 1) % 10) (nd1 nd) (psh f nd m)) ∧ ((1 : Int) ≠ 0 → MoC M' 111 m ∧ PastC M' nx nd f) := ⟨M, rfl, Eqx.rf, hS, fun x => absurd x (by decide), fun _ => ⟨hm, hpc⟩⟩
    by_cases q : v < 0
    · rw [if_pos (by rw [iI_lt0 v1 v2]; exact q)]; exact fin
    · rw [if_neg (by rw [iI_lt0 v1 v2]; exact q), if_pos (by rw [iI_lt (by omega) (by omega) v1 v2]; omega)]; exact fin
/-- the reference, behind a deed -/
theorem ref_notes (d : Nat) {M1 M4 : Mem} {z1 : Row} {m m' : Mo} {nd : Nat} {f : Nat → Mo} (hw : WasM M4 m) (hr : M4.1 198 = rowM z1 m') (hp : PastM z1 nd f) (hn : nd ≤ 10) :
    ∃ M', c2 (d + 1) m_Mo_notes [.ref 197] M4 = some (.null, M') ∧ Eqx [198] M4 M' ∧ NotR (rowM z1 m') (M'.1 198) ∧ PastM (M'.1 198) (nd1 nd) (psh f nd m) := by
  obtain ⟨M', a, b, c, e⟩ := c_Mo_notes d hw (by rw [hr]; exact rowM_past hp) hn
  rw [hr] at c
  exact ⟨M', a, b, c, e⟩
/-- a call that does one deed: what both sides answer, and that all goes on -/
theorem alone_step {mc mm : MD} {x1 : Int32} (fs : Int) (f1 : 0 ≤ fs) (f2 : fs ≤ 30)
    (hC : ∀ (d : Nat) (M M1 : Mem) (z : Row) (m : Mo), OkZ z → OkM z m → c2 (d + 79) m_RW_doneAlone [.ref 100, .int x1, .int (iI fs)] M = some (.int (iI (whyA z fs x1.toInt m)), M1) → (whyA z fs x1.toInt m = 0 → MoC M1 111 (dDo z (fs + x1.toInt) m) ∧ MoC M1 112 m) → ∃ v, c2 (d + 80) mc [.ref 100, .int x1] M = some (.int v, M1) ∧
      (whyA z fs x1.toInt m ≠ 0 → v = iI (-10 - whyA z fs x1.toInt m)) ∧ (whyA z fs x1.toInt m = 0 → ∀ (M1 : Mem) (nd : Nat) (f : Nat → Mo) (z1 : Row), RowEq z z1 → M1.1 198 = z1 → momAt z1 25 m → PastM z1 nd f → nd ≤ 10 → ∃ M2 S2, c2 (d + 80) mm [.ref 197, .int x1] M1 = some (.int v, M2) ∧ Eqx S2 M1 M2 ∧ (∀ a, a ∈ S2 → a = 197 ∨ a = 198 ∨ (202 ≤ a ∧ a ≤ 212)) ∧ Eq7 M1 M2 ∧ NotR (rowM z1 (dDo z (fs + x1.toInt) m)) (M2.1 198) ∧ PastM (M2.1 198) (nd1 nd) (psh f nd m)) ∧
      (whyA z fs x1.toInt m ≠ 0 → ∀ (M1 : Mem) (z1 : Row), RowEq z z1 → M1.1 198 = z1 → momAt z1 25 m → c2 (d + 80) mm [.ref 197, .int x1] M1 = some (.int v, wI M1 197 0 (iI 0)))) : Step mc mm [.int x1] := by
  intro d M b hRel hb
  have hRel0 := hRel
  obtain ⟨r, tm0, st, nx, nd, m, f, so, tn, tv, z, hS, hst, h5, hm, okm, rq, hmo, hpc, hpm, hof, hrest⟩ := hRel
  have hz := hS.2.2.2.1
  have hr := rm_mod hS.1
  have hx := iI_self x1
  have hxr := iI_rng x1
  obtain ⟨M1, e1, hE1, hS1, hd, hn⟩ := c_RW_doneAlone (d + 72) (v := x1.toInt) (fs := fs) hS h5 hm okm hpc hxr.1 hxr.2 f1 f2
  rw [hx] at e1
  obtain ⟨v, g1, g2, g3, g4⟩ := hC d M M1 z m hz okm e1 (fun q => ⟨(hd q).1, (hd q).2.1⟩)
  have x198 : M1.1 198 = M.1 198 := (hE1 198 (fun q => by have := aloL_mem.mp q; omega)).1
  by_cases q : whyA z fs x1.toInt m = 0
  · obtain ⟨M2, S2, a1, a2, a3, a4, a5, a6⟩ := g3 q M1 nd f (M.1 198) rq x198 hmo hpm hpc.2.2.2.1
    obtain ⟨d1, d2, d3⟩ := hd q
    have hdo : OkM z (dDo z (fs + x1.toInt) m) := by
      unfold whyA at q
      split at q
      · exact dDo_ok hz q okm
      · exact absurd q (by decide)
    refine ⟨v, M1, M2, g1, a1, fin_deed (b := b + 1) rq hrest h5 (by omega) hE1 (aloL_ok hS.1) a2 a3 a4 hS1 d1 hdo d3 (psh_all hpc.2.2.2.1 hof okm) a5 a6⟩
  · obtain ⟨d1, d2⟩ := hn q
    have a1 := g4 q M1 (M.1 198) rq x198 hmo
    have hsame := rowM_self hmo
    have hx2 : (wI M1 197 0 (iI 0)).1 198 = M.1 198 := by rw [wI_na (by decide)]; exact x198
    refine ⟨v, M1, _, g1, a1, fin_deed (b := b + 1) rq hrest h5 (by omega) hE1 (aloL_ok hS.1) (eqx_wI Eqx.rf (by simp) : Eqx [197] M1 _) (by intro a ha; simp only [List.mem_cons, List.not_mem_nil, or_false] at ha; omega) (fun k hk => by rw [gI_nk (by omega)]) hS1 d1 okm d2 hof ?_ ?_⟩
    · intro k _; rw [hsame, hx2]
    · rw [hx2]; exact hpm
theorem s_night (x1 : Int32) : Step m_RW_night m_Mo_night [.int x1] := by
  refine alone_step 0 (by decide) (by decide) ?_
  intro d M M1 z m hz ok e hmo
  have hw := whyA_rng z 0 x1.toInt m
  obtain ⟨v, rfl, v1, v2⟩ := iI_ex x1
  rw [iI_toInt v1 v2] at *
  have hbl : whyA z 0 v m = if 0 ≤ v ∧ v ≤ 1 then 0 else 1 := by
    unfold whyA dWhy
    by_cases q : 0 ≤ v ∧ v ≤ 1
    · rw [if_pos q, if_pos (by omega), if_pos (by omega)]
    · rw [if_neg q]
      by_cases q2 : 0 ≤ v ∧ v ≤ 9
      · rw [if_pos q2, if_neg (by omega), if_neg (by omega), if_neg (by omega)]
      · rw [if_neg q2]
  have thr : ∀ M1 : Mem, (wI M1 197 0 (iI 0)).1 198 = M1.1 198 := fun M1 => wI_na (by decide)
  by_cases q : whyA z 0 v m = 0
  · have hv : 0 ≤ v ∧ v ≤ 1 := by rw [hbl] at q; split at q; assumption; exact absurd q (by decide)
    obtain ⟨hm1, _⟩ := hmo q
    refine ⟨iI (dDo z (0 + v) m).1, ?_, fun x => absurd q x, fun _ => ?_, fun x => absurd q x⟩
    · show X2 (d + 79) m_RW_night 0 [.ref 100, .int (iI v), uns] [] M = _
      rw [e_RW_night_0, e, bI_some, q, if_pos (show iI 0 = 0 from rfl), hm1.1]
    · intro M1 nd f z1 rq hr hmz hp hnd
      obtain ⟨n, rfl⟩ := Int.eq_ofNat_of_zero_le hv.1
      obtain ⟨M3, e3, hE3, hw3⟩ := c_Mo_keeps (d + 78) (M := wI M1 197 0 (iI 0)) (m := m) (by rw [thr, hr]; exact hmz)
      have r3 : M3.1 198 = rowM z1 m := by rw [rowM_self hmz, (hE3 198 (by decide)).1, thr, hr]
      have hz1 := rq_ok rq hz
      have ok1 : OkM z1 m := ⟨rq_oks rq ok.1, ok.2⟩
      obtain ⟨M4, e4, hE4, r4⟩ := c_Mo_goesNightM (d + 73) (bl := n) hz1 r3 ok1
      have hdd : dDo z (0 + (n : Int)) m = nightM z1 m n := by
        unfold dDo nightM
        rw [if_pos (by omega), show (0 + (n : Int)).toNat = n by omega, rq_nxt rq hz]
      obtain ⟨M5, e5, hE5, hN5, hp5⟩ := ref_notes (d + 78) (M1 := M1) (hw3.fr (hE4 204 (by decide)).1) r4 hp hnd
      refine ⟨M5, [197, 198, 202, 203, 204], ?_, ?_, (by intro a ha; simp only [List.mem_cons, List.not_mem_nil, or_false] at ha; omega), ?_, ?_, hp5⟩
      · show X2 (d + 79) m_Mo_night 0 [.ref 197, .int (iI n)] [] M1 = _
        have h25 : gI M5 198 25 = iI (dDo z (0 + (n : Int)) m).1 := by rw [hdd]; exact (hN5 25 (by omega)).trans (rowM_mom z1 (nightM z1 m n)).1
        rw [e_Mo_night_0, c_Mo_isBlind, bI_some, i2l_iI (by omega) (by omega), lI_toInt (by omega) (by omega), decide_eq_true hv, b2i_t, if_neg (show ¬ (iI 1 = 0) by decide), e3, bV_some, e4, bV_some, e5, bV_some, h25]
      · exact ((((eqx_wI Eqx.rf (by simp)) : Eqx [197, 198, 202, 203, 204] M1 (wI M1 197 0 (iI 0))).tr (hE3.mono (by simp))).tr (hE4.mono (by simp))).tr (hE5.mono (by simp))
      · intro k hk
        rw [eqx_I hE5 (by decide), eqx_I hE4 (by decide), eqx_I hE3 (by decide), gI_nk (by omega)]
      · rw [hdd]; exact hN5
  · have hv : ¬ (0 ≤ v ∧ v ≤ 1) := fun x => q (by rw [hbl, if_pos x])
    have h1 : whyA z 0 v m = 1 := by rw [hbl, if_neg hv]
    refine ⟨iI (-11), ?_, fun _ => by rw [h1]; rfl, fun x => absurd x q, fun _ => ?_⟩
    · show X2 (d + 79) m_RW_night 0 [.ref 100, .int (iI v), uns] [] M = _
      rw [e_RW_night_0, e, bI_some, h1, if_neg (show ¬ (iI 1 = 0) by decide)]; rfl
    · intro M1 z1 rq hr hmz
      show X2 (d + 79) m_Mo_night 0 [.ref 197, .int (iI v)] [] M1 = _
      rw [e_Mo_night_0, c_Mo_isBlind, bI_some, i2l_iI v1 v2, lI_toInt (by omega) (by omega), decide_eq_false hv, b2i_f, if_pos (show iI 0 = 0 from rfl)]
