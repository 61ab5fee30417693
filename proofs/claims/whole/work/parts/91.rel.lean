/-! THE WHOLE RELATION of class and reference, in one memory. -/
def momAt (z : Row) (o : Nat) (m : Mo) : Prop := z o = iI m.1 ∧ z (o + 1) = iI m.2.1 ∧ z (o + 2) = iI m.2.2.1 ∧ z (o + 3) = m.2.2.2
def PastC (M : Mem) (nx nd : Nat) (f : Nat → Mo) : Prop := gI M 114 1 = iI nx ∧ nx < 10 ∧ gI M 114 2 = iI nd ∧ nd ≤ 10 ∧ ∀ j, j < nd → MoC M (116 + (nx + 10 - nd + j) % 10) (f j)
def PastM (z : Row) (nd : Nat) (f : Nat → Mo) : Prop := z 29 = iI nd ∧ ∀ j, j < nd → momAt z (30 + 4 * j) (f j)
def zim (z : Row) (i : Nat) : Row := fun k => z (971 * (i + 1) + k)
def ImgR (M : Mem) (z : Row) : Prop := ∀ i, i < 2 → (gI M 199 i = iI 0 ∧ gR M 109 i = 0) ∨ (gI M 199 i = iI 1 ∧ ∃ ri m, ri ∈ rooms ∧ gR M 109 i = ri ∧ RoomR M ri (zim z i) ∧ OkZ (zim z i) ∧ MoC M (187 + i) m ∧ momAt (zim z i) 25 m ∧ OkM (zim z i) m)
def sg8 (v : Nat) : Int := if v < 128 then v else (v : Int) - 256
def TapeR (M : Mem) : Prop := ∃ n : Nat, gI M 100 1 = iI n ∧ gI M 197 5 = iI n ∧ n ≤ 900 ∧ ∀ k, k < 900 → ∃ v : Nat, v ≤ 255 ∧ gI M 200 k = iI v ∧ gI M 101 k = iI (sg8 v)
def FaultR (M : Mem) : Prop := gI M 102 11 = gI M 197 13 ∧ gI M 102 12 = gI M 197 14
def Rest (M : Mem) (z : Row) (so : Nat → Int) (tn : Nat → Nat) (tv : Nat → Nat → Int64) : Prop := TrC M so tn tv ∧ TrM M so tn tv ∧ ImgR M z ∧ TapeR M ∧ FaultR M
/-- cells that the rest doesn't lie in -/
def okA (a : Nat) : Prop := (102 < a ∧ a < 109) ∨ (109 < a ∧ a < 147) ∨ (147 ≤ a ∧ a < 187 ∧ (a % 10 = 3 ∨ a % 10 = 6)) ∨ a = 197 ∨ a = 198 ∨ (200 < a ∧ a < 213)
theorem rm_mod {r : Nat} (h : r ∈ rooms) : r % 10 = 7 ∧ 147 ≤ r ∧ r ≤ 177 := by
  simp only [rooms, List.mem_cons, List.not_mem_nil, or_false] at h
  omega
theorem MoC.fr {M M' : Mem} {a : Nat} {m : Mo} (h : MoC M a m) (hf : M'.1 a = M.1 a) : MoC M' a m := MomR.fr h hf
theorem ImgR.fr {M M' : Mem} {z z' : Row} {S : List Nat} (h : ImgR M z) (hE : Eqx S M M') (hS : ∀ a, a ∈ S → okA a) (hz : ∀ k, 971 ≤ k → z' k = z k) : ImgR M' z' := by
  have e : ∀ i, zim z' i = zim z i := fun i => by funext k; exact hz _ (by omega)
  have n : ∀ b, ¬ okA b → b ∉ S := fun b hb q => hb (hS b q)
  intro i hi
  have n199 : 199 ∉ S := n _ (by unfold okA; omega)
  have n109 : 109 ∉ S := n _ (by unfold okA; omega)
  rw [e i, eqx_I hE n199, eqx_R hE n109]
  rcases h i hi with q | ⟨q1, ri, m, q2, q3, q4, q5, q6, q7, q8⟩
  · exact Or.inl q
  · refine Or.inr ⟨q1, ri, m, q2, q3, q4.fr (fun a ha => (hE a (n _ ?_)).1), q5, q6.fr (hE (187 + i) (n _ (by unfold okA; omega))).1, q7, q8⟩
    have h1 := roomS_ge ha
    have h2 := rm_mod q2
    unfold okA
    omega
theorem Rest.fr {M M' : Mem} {z z' : Row} {so : Nat → Int} {tn : Nat → Nat} {tv : Nat → Nat → Int64} {S : List Nat} (h : Rest M z so tn tv) (hE : Eqx S M M') (hS : ∀ a, a ∈ S → okA a) (h7 : Eq7 M M') (hz : ∀ k, 971 ≤ k → z' k = z k) : Rest M' z' so tn tv := by
  obtain ⟨a, b, c, e, f⟩ := h
  have n : ∀ b, ¬ okA b → b ∉ S := fun b hb q => hb (hS b q)
  refine ⟨a.fr hE (fun a ha => by have := hS a ha; unfold okA at this; omega), b.fr (hE 213 (n _ (by unfold okA; omega))).1 (hE 214 (n _ (by unfold okA; omega))).1 (hE 215 (n _ (by unfold okA; omega))).2.1, c.fr hE hS hz, ?_, ?_⟩
  · obtain ⟨t, e1, e2, e3, e4⟩ := e
    refine ⟨t, (eqx_I hE (n _ (by unfold okA; omega)) 1).trans e1, (h7 5 (Or.inl rfl)).trans e2, e3, fun k hk => ?_⟩
    obtain ⟨v, v1, v2, v3⟩ := e4 k hk
    exact ⟨v, v1, (eqx_I hE (n _ (by unfold okA; omega)) k).trans v2, (eqx_I hE (n _ (by unfold okA; omega)) k).trans v3⟩
  · exact ⟨((eqx_I hE (n _ (by unfold okA; omega)) 11).trans f.1).trans (h7 13 (by omega)).symm, ((eqx_I hE (n _ (by unfold okA; omega)) 12).trans f.2).trans (h7 14 (by omega)).symm⟩
def Rel (M : Mem) (b : Nat) : Prop := ∃ (r tm0 st nx nd : Nat) (m : Mo) (f : Nat → Mo) (so : Nat → Int) (tn : Nat → Nat) (tv : Nat → Nat → Int64) (z : Row), StepsC M r z tm0 st ∧ st ≤ b ∧ gR M 100 5 = r ∧ MoC M 111 m ∧ OkM z m ∧ RowEq z (M.1 198) ∧ momAt (M.1 198) 25 m ∧ PastC M nx nd f ∧ PastM (M.1 198) nd f ∧ (∀ j, j < nd → OkM z (f j)) ∧ Rest M (M.1 198) so tn tv
/-- the script stays -/
def Keep (M M' : Mem) : Prop := M'.1 0 = M.1 0 ∧ M'.1 1 = M.1 1
/-- one call of both -/
def Step (mc mm : MD) (as : List Value) : Prop := ∀ d M b, Rel M b → b < 99990 → ∃ v M1 M2, c2 (d + 80) mc (.ref 100 :: as) M = some (.int v, M1) ∧ c2 (d + 80) mm (.ref 197 :: as) M1 = some (.int v, M2) ∧ Rel M2 (b + 1) ∧ Keep M M2
theorem Eq7.of {S : List Nat} {M M' : Mem} (hE : Eqx S M M') (h : 197 ∉ S) : Eq7 M M' := fun k _ => eqx_I hE h k
theorem PastC.fr {M M' : Mem} {nx nd : Nat} {f : Nat → Mo} (h : PastC M nx nd f) {S : List Nat} (hE : Eqx S M M') (hS : ∀ a, a ∈ S → a < 114 ∨ a = 115 ∨ 125 < a) : PastC M' nx nd f := by
  have n : ∀ b, (b = 114 ∨ (116 ≤ b ∧ b ≤ 125)) → b ∉ S := fun b hb q => by have := hS b q; omega
  obtain ⟨a1, a2, a3, a4, a5⟩ := h
  exact ⟨(eqx_I hE (n _ (by omega)) 1).trans a1, a2, (eqx_I hE (n _ (by omega)) 2).trans a3, a4, fun j hj => (a5 j hj).fr (hE _ (n _ (by omega))).1⟩
theorem StepsC.ref {M M' : Mem} {r : Nat} {z : Row} {tm st : Nat} {S : List Nat} (h : StepsC M r z tm st) (hE : Eqx S M M') (hS : ∀ a, a ∈ S → 196 < a) : StepsC M' r z tm st := h.fq hE (fun a ha => by have := hS a ha; omega)
theorem refA {a : Nat} (ha : a ∈ 197 :: 198 :: refQ) : a = 197 ∨ a = 198 ∨ (202 ≤ a ∧ a ≤ 212) := by
  rcases List.mem_cons.mp ha with q | q
  · exact Or.inl q
  · rcases List.mem_cons.mp q with q | q
    · exact Or.inr (Or.inl q)
    · exact Or.inr (Or.inr (refQ_mem.mp q))
/-- a question is a step -/
theorem step_T {mc mm : MD} {as : List Value} (hP : ∀ z w who tm so tn tv, OkZ z → OkS z (5 * w + who) → who < 5 → PairT mc mm as z w who tm so tn tv) : Step mc mm as := by
  intro d M b hRel hb
  obtain ⟨r, tm0, st, nx, nd, m, f, so, tn, tv, z, hS, hst, h5, hm, okm, rq, hmo, hpc, hpm, hof, hrest⟩ := hRel
  have hz := hS.2.2.2.1
  have hr := rm_mod hS.1
  have hS' := rq_steps rq hS
  have ok' := rq_oks rq okm.1
  have hQC : QC M r (M.1 198) m.1 m.2.1 m.2.2.1 m.2.2.2 st := ⟨⟨tm0, hS'⟩, h5, hm, ok', okm.2.2.2, okm.2.1, okm.2.2.1⟩
  have hQM : QM M (M.1 198) m.1 m.2.1 m.2.2.1 := ⟨rfl, rq_ok rq hz, hmo.1, hmo.2.1, hmo.2.2.1, ok', okm.2.2.2, okm.2.1, okm.2.2.1⟩
  obtain ⟨v, M1, st', e1, hE1, hQ1, hle, ref⟩ := hP (M.1 198) m.1 m.2.1 m.2.2.1 so tn tv (rq_ok rq hz) ok' okm.2.1 d M r m.2.2.2 st hQC hrest.1 (by omega)
  have x198 : M1.1 198 = M.1 198 := (hE1 198 (scr_n hr.2.1 (by omega))).1
  have hT1 : TrM M1 so tn tv := hrest.2.1.fr (hE1 213 (scr_n hr.2.1 (by omega))).1 (hE1 214 (scr_n hr.2.1 (by omega))).1 (hE1 215 (scr_n hr.2.1 (by omega))).2.1
  obtain ⟨M2, e2, hR2⟩ := ref M1 (hQM.fr x198) hT1
  have y198 : M2.1 198 = M.1 198 := hR2.2.1.trans x198
  have scA : ∀ a, a ∈ scr r → okA a := fun a ha => by have := scr_mem.mp ha; unfold okA; omega
  have rfA : ∀ a, a ∈ 197 :: 198 :: refQ → okA a := fun a ha => by have := refA ha; unfold okA; omega
  obtain ⟨⟨tm1, hS1⟩, h51, hm1, _⟩ := hQ1
  refine ⟨v, M1, M2, e1, e2, ⟨r, tm1, st', nx, nd, m, f, so, tn, tv, M.1 198, hS1.ref hR2.1 (fun a ha => by have := refA ha; omega), by omega, (eqx_R hR2.1 (by decide) 5).trans h51, hm1.fr (hR2.1 111 (by decide)).1, ⟨ok', okm.2⟩, by rw [y198]; exact RowEq.rf _, by rw [y198]; exact hmo, (hpc.fr hE1 (fun a ha => by have := scr_mem.mp ha; omega)).fr hR2.1 (fun a ha => by have := refA ha; omega), by rw [y198]; exact hpm, fun j hj => ⟨rq_oks rq (hof j hj).1, (hof j hj).2⟩, ?_⟩, ?_⟩
  · rw [y198]
    exact (hrest.fr hE1 scA (Eq7.of hE1 (scr_n hr.2.1 (by omega))) (fun _ _ => rfl)).fr hR2.1 rfA hR2.2.2 (fun _ _ => rfl)
  · exact ⟨((hR2.1 0 (by decide)).1).trans (hE1 0 (scr_n hr.2.1 (by omega))).1, ((hR2.1 1 (by decide)).1).trans (hE1 1 (scr_n hr.2.1 (by omega))).1⟩
theorem step_Q {mc mm : MD} {as : List Value} (hP : ∀ z w who tm, OkZ z → OkS z (5 * w + who) → who < 5 → PairQ mc mm as z w who tm) : Step mc mm as :=
  step_T (fun z w who tm so tn tv hz ok h5 d M r ni st hQ _ hst => by
    obtain ⟨v, M', st', a, b, c, e, g⟩ := hP z w who tm hz ok h5 d M r ni st hQ hst
    exact ⟨v, M', st', a, b, c, e, fun M2 h _ => g M2 h⟩)
theorem s_rose (x1 x2 : Int32) : Step m_RW_rose m_Mo_rose [.int x1, .int x2] := step_Q (fun z w who tm _ _ _ => (p_rose z w who tm x1 x2).q)
theorem s_tenant (x1 x2 : Int32) : Step m_RW_tenant m_Mo_tenant [.int x1, .int x2] := step_Q (fun z w who tm _ _ _ => (p_tenant z w who tm x1 x2).q)
theorem s_lies (x1 x2 : Int32) : Step m_RW_lies m_Mo_lies [.int x1, .int x2] := step_Q (fun z w who tm _ _ _ => (p_lies z w who tm x1 x2).q)
theorem s_round (x1 x2 : Int32) : Step m_RW_round m_Mo_round [.int x1, .int x2] := step_Q (fun z w who tm hz ok h5 => (p_round z hz w who tm ok h5 x1 x2).q)
theorem s_stays : Step m_RW_stays m_Mo_stays [] := step_Q (fun z w who tm _ _ _ => p_stays z w who tm)
theorem s_stayBy (x1 : Int32) : Step m_RW_stayBy m_Mo_stayBy [.int x1] := step_Q (fun z w who tm _ _ _ => p_stayBy z w who tm x1)
theorem s_out : Step m_RW_out m_Mo_out [] := step_Q (fun z w who tm _ _ _ => p_out z w who tm)
theorem s_outBy (x1 : Int32) : Step m_RW_outBy m_Mo_outBy [.int x1] := step_Q (fun z w who tm _ _ _ => p_outBy z w who tm x1)
theorem s_forces : Step m_RW_forces m_Mo_forces [] := step_Q (fun z w who tm _ _ _ => p_forces z w who tm)
theorem s_minds : Step m_RW_minds m_Mo_minds [] := step_Q (fun z w who tm _ _ _ => p_minds z w who tm)
theorem s_soonest (x1 : Int32) : Step m_RW_soonest m_Mo_soonest [.int x1] := step_Q (fun z w who tm _ _ _ => p_soonest z w who tm x1)
theorem s_way (x1 x2 : Int32) : Step m_RW_way m_Mo_way [.int x1, .int x2] := step_Q (fun z w who tm _ _ _ => p_way z w who tm x1 x2)
theorem s_toFace : Step m_RW_toFace m_Mo_toFace [] := step_Q (fun z w who tm _ _ _ => p_toFace z w who tm)
theorem s_walls : Step m_RW_walls m_Mo_walls [] := step_Q (fun z w who tm _ _ _ => p_walls z w who tm)
theorem s_parents (x1 x2 x3 : Int32) : Step m_RW_parents m_Mo_parents [.int x1, .int x2, .int x3] := step_Q (fun z w who tm hz _ _ => (p_parents z hz w who tm x1 x2 x3).q)
theorem s_orphans (x1 x2 : Int32) : Step m_RW_orphans m_Mo_orphans [.int x1, .int x2] := step_Q (fun z w who tm hz _ _ => (p_orphans z hz w who tm x1 x2).q)
theorem s_still (x1 x2 : Int32) : Step m_RW_still m_Mo_still [.int x1, .int x2] := step_Q (fun z w who tm hz _ _ => (p_still z hz w who tm x1 x2).q)
theorem s_rows (x1 x2 : Int32) : Step m_RW_rows m_Mo_rows [.int x1, .int x2] := step_Q (fun z w who tm _ _ _ => p_rows z w who tm x1 x2)
theorem s_chance (x1 x2 : Int32) : Step m_RW_chance m_Mo_chance [.int x1, .int x2] := step_Q (fun z w who tm _ _ _ => p_chance z w who tm x1 x2)
theorem s_gone (x1 : Int32) : Step m_RW_gone m_Mo_gone [.int x1] := step_Q (fun z w who tm _ _ _ => p_gone z w who tm x1)
theorem s_best (x1 : Int32) : Step m_RW_best m_Mo_best [.int x1] := step_Q (fun z w who tm _ _ _ => p_best z w who tm x1)
theorem s_seen (x1 : Int32) : Step m_RW_seen m_Mo_seen [.int x1] := step_T (fun z w who tm so tn tv _ _ _ => p_seen z w who tm so tn tv x1)
theorem s_seenBy (x1 x2 : Int32) : Step m_RW_seenBy m_Mo_seenBy [.int x1, .int x2] := step_T (fun z w who tm so tn tv _ _ _ => p_seenBy z w who tm so tn tv x1 x2)
theorem s_whose (x1 : Int32) : Step m_RW_whose m_Mo_whose [.int x1] := step_T (fun z w who tm so tn tv _ _ _ => p_whose z w who tm so tn tv x1)
theorem s_tempers (x1 x2 : Int32) : Step m_RW_tempers m_Mo_tempers [.int x1, .int x2] := step_T (fun z w who tm so tn tv _ _ _ => p_tempers z w who tm so tn tv x1 x2)
theorem s_attempt (x1 x2 : Int32) : Step m_RW_attempt m_Mo_attempt [.int x1, .int x2] := step_T (fun z w who tm so tn tv _ _ _ => p_attempt z w who tm so tn tv x1 x2)
