/-! CALLS: a call of the interpreter is a call of the machine. -/
def Kt (G : Wd) (M : M1) (as : List Value) : Array Value → State → Prop := va_Pc (as.map (cv G)) (fun U => RepH G M U.heap ∧ KX G U ∧ Ext G U U.heap)
def Kq (G : Wd) (r : Value) (M' : M1) : Array Value → State → Outcome → State → Prop := fun _ st o t => o = .returned (rv G r) ∧ RepH G M' t.heap ∧ va_F (AA G) st t
def wsM (me : MD) : List Cond := .code (yOf me) (byt me) me.2.2.2.1 (rty me) :: TB
def rmM (d : Nat) (M M' : M1) : Room := { frames := d, cells := M'.1 - M.1, slots := M'.2.1 - M.2.1, locals := 60 * d }
def MetD (l : Launch) (G : Wd) (d : Nat) (me : MD) (as : List Value) (M : M1) (r : Value) (M' : M1) : Prop := M.1 ≤ M'.1 ∧ M.2.1 ≤ M'.2.1 ∧ Met l (yOf me) (wsM me) (rmM d M M') (Kt G M as) (Kq G r M') (M'.1 - M.1) (M'.2.1 - M.2.1) (AA G)
def AllMet (l : Launch) (G : Wd) (d : Nat) : Prop := ∀ me ∈ mds, me.1 ≠ 0 → ∀ as M r M', cl O1 d me as M = some (r, M') → MetD l G d me as M r M'
def rst (r : Value) : List Value := match r with
  | .null => []
  | v => [v]
theorem rst_map {G : Wd} (r : Value) : (rst r).map (cv G) = (rv G r).toList := by cases r <;> rfl
theorem cat_cv {G : Wd} (v : Value) : (cv G v).category = v.category := by
  cases v with
  | ref n => exact cat_rf _
  | _ => rfl
theorem catS_cv {G : Wd} (st : List Value) : ((st.map (cv G)).map fun v => v.category).sum = catS st := by
  unfold catS
  rw [List.map_map]
  congr 1
  apply List.map_congr_left
  intro v _
  exact cat_cv v
theorem mds_id : ∀ i, i < 310 → (mds.getD i m_law).1 = i := by
  have h : (List.range 310).all (fun i => Nat.beq (mds.getD i m_law).1 i) = true := by decide +kernel
  intro i hi
  exact Nat.eq_of_beq_eq_true (List.all_eq_true.mp h i (List.mem_range.mpr hi))
theorem mds_len : mds.length = 310 := by decide +kernel
theorem mds_mem {i : Nat} (h : i < 310) : mds.getD i m_law ∈ mds := by
  rw [List.getD_eq_getElem?_getD, List.getElem?_eq_getElem (by rw [mds_len]; exact h)]
  exact List.getElem_mem _
theorem ckM_spec {me : MD} (hm : me ∈ mds) (h0 : me.1 ≠ 0) : Cond.code (yOf me) (byt me) me.2.2.2.1 (rty me) ∈ TB ∧ plainFor (yOf me) = true ∧ ownN me.2.1 = (yOf me).cls ∧ me.2.2.2.1 ≤ 41 ∧ (me.2.2.2.2.2 = true → (yOf me).name = "<init>") ∧ Cond.initialized (yOf me).cls ∈ TB ∧ ((yOf me).cls ≠ "java/lang/invoke/MethodHandle" ∧ (yOf me).cls ≠ "java/lang/invoke/VarHandle") ∧ (match rty me with
  | none => Nat.beq me.2.2.2.2.1 0
  | some .int => Nat.beq me.2.2.2.2.1 1
  | some .boolean => Nat.beq me.2.2.2.2.1 2
  | some .byte => Nat.beq me.2.2.2.2.1 3
  | some .char => Nat.beq me.2.2.2.2.1 4
  | some .long => Nat.beq me.2.2.2.2.1 6
  | some (.object _) => Nat.beq me.2.2.2.2.1 7
  | _ => false) = true := by
  have h := ckM_all me hm h0
  unfold ckM at h
  simp only [Bool.and_eq_true] at h
  obtain ⟨h1, h2, h3, h4, h5, h6, h7, h8⟩ := h
  exact ⟨inTB (of_decide_eq_true h1) rfl, h2, of_decide_eq_true h3, Nat.le_of_ble_eq_true h4, of_decide_eq_true h5, inTB (of_decide_eq_true h6) rfl, of_decide_eq_true h7, h8⟩
theorem wsM_good {me : MD} (hm : me ∈ mds) (h0 : me.1 ≠ 0) : GoodIn TB (wsM me) := by
  intro w hw
  rcases List.mem_cons.mp hw with rfl | h
  · exact TB_good _ (ckM_spec hm h0).1
  · exact TB_good _ h
theorem goodC {ws : List Cond} {w : Cond} (hw : w ∈ TB) (h : GoodIn TB ws) : GoodIn TB (w :: ws) := by
  intro x hx
  rcases List.mem_cons.mp hx with rfl | hx
  · exact TB_good _ hw
  · exact h x hx
theorem Kt_blind {G : Wd} {M : M1} {as : List Value} : FrameBlind (Kt G M as) := by
  intro a U g mk h
  obtain ⟨h1, h2, h3, h4⟩ := h
  exact ⟨h1, h2, va_K.moved (u := U) (U := U.calling g mk a) (Vm.Alike.refl U.vm) h3, Ext.same (u := U) (U := U.calling g mk a) rfl h4⟩
section Calls1
variable {p : Program} {l : Launch} {e : Env} {R : Room} {s : State} {m : MethodId} {args : Array Value} {below : List Frame} {meth : Method} {c : Code} {G : Wd} {me : MD} {Q : State → Prop} {n0 w0 d : Nat} {pc : Nat} {ls st : List Value} {M : M1}
theorem go_run {H : Heap} {locs : List Loc} {cells slots mc ms : Nat} {sl : Array Slot} {st0 rest : List Value} {r : Value} {M' : M1} {a : Array Value} (hr : va_Run p l e R s m args below meth c H locs cells slots mc ms (F0 m pc sl st0) rest (Kq G r M' a) (AA G)) (hS : va_S (AA G) s.heap H locs)
    (kk : ∀ (H1 : Heap) (locs1 : List Loc), RepH G M' H1 → va_S (AA G) s.heap H1 locs1 → W p l e R s m args below meth c H1 locs1 (cells + mc) (slots + ms) Q (F0 m (pc + 3) sl ((rv G r).toList ++ rest))) : W p l e R s m args below meth c H locs cells slots Q (F0 m pc sl st0) := by
  intro T hT X
  obtain ⟨v, st₀, t, T', L, h0, X', hL, e1, e2, ⟨hv, hrep, hz, hk⟩, st⟩ := hr T hT X
  cases hv
  rw [h0] at hz hk
  obtain ⟨t2, a1, b1⟩ := kk T'.heap (locs ++ L) (by rw [e1]; exact hrep)
    ⟨Nat.le_trans hS.1 (by rw [e1]; exact hz), fun q h1 h2 => by rw [e1, hk q (Nat.lt_of_lt_of_le h1 hS.1) h2]; exact hS.2.1 q h1 h2, fun q hq => by
      rcases List.mem_append.mp hq with h | h
      · exact hS.2.2 q h
      · exact hL q h⟩ T' rfl X'
  exact ⟨t2, st t2 a1, b1⟩
theorem pre_call {H : Heap} {locs : List Loc} {as : List Value} (X : Ctx p R s m args meth c G me d) (hR : RepH G M H) (hS : va_S (AA G) s.heap H locs) : ∀ U : State, U.heap = H → s.WarmedH U.vm → Kt G M as (as.map (cv G)).toArray U := by
  intro U hU hW
  refine ⟨rfl, by rw [hU]; exact hR, va_K.moved hW.alike X.2.2.2.2.2.1, ?_⟩
  rw [hU]
  exact Ext.warm hW hS.2.1 X.2.2.2.2.2.2.1
theorem room_ok {M' : M1} {d : Nat} {me' : MD} (hm : me'.2.2.2.1 ≤ 41) (h1 : d + 1 ≤ R.frames) (h2 : 60 * (d + 1) ≤ R.locals) : (rmM d M M').frames + 1 ≤ R.frames ∧ 8 + (me'.2.2.2.1 + 11) + (rmM d M M').locals ≤ R.locals := by
  refine ⟨h1, ?_⟩
  show 8 + (me'.2.2.2.1 + 11) + 60 * d ≤ R.locals
  omega
theorem mrow_spec {own n : Nat} {q : Nat × Nat × Nat × Nat × Nat} (h : mrow own n = some q) : q.1 ≠ 0 ∧ q.1 < 310 ∧ (parseMethodDescriptor (yOf (mds.getD q.1 m_law)).desc).map (fun d => d.parameters.length) = some q.2.1 ∧ (q.2.2.2.2 = 0 → Cond.methodLink (ownN own) n (yOf (mds.getD q.1 m_law)) ∈ TB) ∧ (q.2.2.1 = 0 → Cond.static (yOf (mds.getD q.1 m_law)) ∈ TB) ∧ (q.2.2.1 ≠ 0 → Cond.instanceMethod (yOf (mds.getD q.1 m_law)) ∈ TB ∧ ((q.2.2.1 = 2 ∧ (yOf (mds.getD q.1 m_law)).cls = "java/lang/String") ∨ (q.2.2.1 ≠ 2 ∧ 10 ≤ q.2.2.1 ∧ q.2.2.1 < 40 ∧ ∃ r, vwCl[q.2.2.1 - 10]? = some r ∧ r.1 = (yOf (mds.getD q.1 m_law)).cls)) ∧ ((yOf (mds.getD q.1 m_law)).name = "<init>" ∨ Cond.selects (yOf (mds.getD q.1 m_law)).cls (yOf (mds.getD q.1 m_law)) (yOf (mds.getD q.1 m_law)) ∈ TB)) := by
  have hc := ckRows_spec ckR_all h
  unfold ckR at hc
  simp only [Bool.and_eq_true] at hc
  obtain ⟨h1, h2, h3, h4, h5⟩ := hc
  have hlt : q.1 < 310 := blt_lt h2
  have ey : yOf (mds.getD q.1 m_law) = nmT.getD q.1 ⟨"", "", ""⟩ := by unfold yOf; rw [mds_id _ hlt]
  rw [ey]
  refine ⟨?_, hlt, of_decide_eq_true h3, fun hz => ?_, fun hz => ?_, fun hz => ?_⟩
  · have : 0 < q.1 := blt_lt h1
    omega
  · rw [hz] at h4
    exact inTB (of_decide_eq_true h4) rfl
  · rw [hz] at h5
    exact inTB (of_decide_eq_true h5) rfl
  · rw [show Nat.beq q.2.2.1 0 = false from Bool.eq_false_iff.mpr (fun e => hz (Nat.eq_of_beq_eq_true e))] at h5
    simp only [Bool.and_eq_true, Bool.or_eq_true] at h5
    obtain ⟨g1, g2, g3⟩ := h5
    refine ⟨inTB (of_decide_eq_true g1) rfl, ?_, ?_⟩
    · cases hb : Nat.beq q.2.2.1 2 with
      | true => rw [hb] at g2; exact Or.inl ⟨Nat.eq_of_beq_eq_true hb, of_decide_eq_true g2⟩
      | false =>
        rw [hb] at g2
        dsimp only at g2
        cases hv : vwCl[q.2.2.1 - 10]? with
        | none => rw [hv] at g2; cases g2
        | some r =>
          rw [hv] at g2
          simp only [Bool.and_eq_true] at g2
          exact Or.inr ⟨fun e => (Bool.eq_false_iff.mp hb) (by rw [e]; rfl), Nat.le_of_ble_eq_true g2.1, blt_lt g2.2.1, r, rfl, of_decide_eq_true g2.2.2⟩
    · rcases g3 with g | g
      · exact Or.inl (of_decide_eq_true g)
      · exact Or.inr (inTB (of_decide_eq_true g) rfl)
/-- the receiver's cell -/
theorem recv_ok {H : Heap} {locs : List Loc} {q : Nat × Nat × Nat × Nat × Nat} {n b : Nat} (X : Ctx p R s m args meth c G me d) (hq : mrow me.2.1 n = some q) (hrk : q.2.2.1 ≠ 0) (hk : isK O1 M b q.2.2.1 = true) (hR : RepH G M H) (hS : va_S (AA G) s.heap H locs) : ∃ a, cv G (.ref b) = .ref a ∧ ∃ cellB : Cell, H[a]? = some cellB ∧ cellB.vm.isStatics = false ∧ s.vm.findClass (yOf (mds.getD q.1 m_law)).cls = some cellB.cls := by
  obtain ⟨-, -, -, -, -, h6⟩ := mrow_spec hq
  obtain ⟨-, h7, -⟩ := h6 hrk
  rcases h7 with ⟨e2, ec⟩ | ⟨h2, h10, h40, r, hr, hrc⟩
  · rw [e2] at hk
    obtain ⟨g1, g2⟩ := isK_low hk (by decide) (by decide)
    obtain ⟨j, hj, ha⟩ := sh_str g1 g2
    obtain ⟨k, v, q1, -, hO, -⟩ := X.2.2.2.2.2.2.1.2.1 j hj
    obtain ⟨cell, z1, z2, z3, -⟩ := hO.kept hS.2.1
    exact ⟨k, cv_low (by omega) g2 (by rw [ha]; exact q1), cell, z1, z2, by rw [ec]; exact z3⟩
  · obtain ⟨g1, g2⟩ := s1_kind hk hrk
    have h100 : 100 ≤ b := kind_ge (by omega)
    obtain ⟨cell, z1, z2, z3, -⟩ := hR.obj (a := b) (by omega) h100 g2
    refine ⟨ad G b, cv_ref h100, cell, z1, by rw [z3]; rfl, ?_⟩
    rw [z2, g1, ← hrc]
    exact (X.2.2.2.2.2.1.1 _ _ hr).2.1
theorem w_callV {k : Nat} {q : Nat × Nat × Nat × Nat × Nat} {b : Nat} {As rest : List Value} {r : Value} {M' : M1} (X : Ctx p R s m args meth c G me d) (hA : AllMet l G d) (hd : decode (byt me) pc = .ok (.invokevirtual k, 3)) (hq : mrow me.2.1 k = some q) (hrk : q.2.2.1 ≠ 0) (hk : isK O1 M b q.2.2.1 = true) (hnest : q.2.2.2.2 = 0) (hni : (yOf (mds.getD q.1 m_law)).name ≠ "<init>") (hcl : cl O1 d (mds.getD q.1 m_law) (.ref b :: As) M = some (r, M')) (hlen : As.length = q.2.1) (hcat : catS rest ≤ 8) (h0 : n0 ≤ M.1) (h1 : w0 ≤ M.2.1) (hc : M'.1 - n0 ≤ R.cells) (hs : M'.2.1 - w0 ≤ R.slots)
    (kk : WW p l e R s m args below meth c G me Q n0 w0 (pc + 3) ls (rst r ++ rest) M') : WW p l e R s m args below meth c G me Q n0 w0 pc ls (As.reverse ++ .ref b :: rest) M := by
  intro H locs sl hL hR hS
  obtain ⟨y0, y1, y2, y3, -, y5⟩ := mrow_spec hq
  obtain ⟨y6, -, y7⟩ := y5 hrk
  have hid := mds_id _ y1
  obtain ⟨g1, g2, hM⟩ := hA _ (mds_mem y1) (by rw [hid]; exact y0) _ _ _ _ hcl
  obtain ⟨c1, c2, c3, c4, c5, c6, c7, -⟩ := ckM_spec (mds_mem y1) (by rw [hid]; exact y0)
  obtain ⟨a, ea, hcell⟩ := recv_ok X hq hrk hk hR hS
  have hsel := y7.resolve_left hni
  have hpre := pre_call (as := .ref b :: As) X hR hS
  rw [List.map_cons, ea] at hpre
  have hMet := hM
  rw [List.map_append, List.map_reverse, List.map_cons, ea]
  refine go_run (mc := M'.1 - M.1) (ms := M'.2.1 - M.2.1) (va_runV (Ts := TB) (own := ownN me.2.1) (C := (yOf (mds.getD q.1 m_law)).cls) (As := As.map (cv G)) (rest := rest.map (cv G)) ⟨X.1, X.2.1, X.2.2.1, X.2.2.2.1, X.2.2.2.2.1⟩ hMet (cwV (ws' := TB) q.2.1 X.2.2.2.2.1 (goodC (y3 hnest) (goodC y6 (goodC hsel (goodC c6 (wsM_good (mds_mem y1) (by rw [hid]; exact y0)))))) rfl rfl rfl ⟨rfl, c7.1, c7.2, y2⟩ (room_ok c4 X.2.2.2.2.2.2.2.2.1 X.2.2.2.2.2.2.2.2.2.1)) ⟨Kt_blind, hcell, hpre⟩ rfl (by rw [List.length_map]; exact hlen) hL.1 rfl (lv_room (by rw [catS_cv]; exact hcat)) hd ⟨by omega, by omega⟩) hS (fun H1 locs1 hR1 hS1 => ?_)
  have := kk H1 locs1 sl hL hR1 hS1
  rw [List.map_append, rst_map] at this
  rw [show M.1 - n0 + (M'.1 - M.1) = M'.1 - n0 by omega, show M.2.1 - w0 + (M'.2.1 - M.2.1) = M'.2.1 - w0 by omega]
  exact this
theorem w_callS {k : Nat} {q : Nat × Nat × Nat × Nat × Nat} {As rest : List Value} {r : Value} {M' : M1} (X : Ctx p R s m args meth c G me d) (hA : AllMet l G d) (hd : decode (byt me) pc = .ok (.invokestatic k, 3)) (hq : mrow me.2.1 k = some q) (hrk : q.2.2.1 = 0) (hcl : cl O1 d (mds.getD q.1 m_law) As M = some (r, M')) (hlen : As.length = q.2.1) (hcat : catS rest ≤ 8) (h0 : n0 ≤ M.1) (h1 : w0 ≤ M.2.1) (hc : M'.1 - n0 ≤ R.cells) (hs : M'.2.1 - w0 ≤ R.slots)
    (kk : WW p l e R s m args below meth c G me Q n0 w0 (pc + 3) ls (rst r ++ rest) M') : WW p l e R s m args below meth c G me Q n0 w0 pc ls (As.reverse ++ rest) M := by
  intro H locs sl hL hR hS
  obtain ⟨y0, y1, y2, y3, y4, -⟩ := mrow_spec hq
  have hid := mds_id _ y1
  obtain ⟨g1, g2, hM⟩ := hA _ (mds_mem y1) (by rw [hid]; exact y0) _ _ _ _ hcl
  obtain ⟨c1, c2, c3, c4, c5, c6, c7, -⟩ := ckM_spec (mds_mem y1) (by rw [hid]; exact y0)
  have hpre := pre_call (as := As) X hR hS
  rw [List.map_append, List.map_reverse]
  have hrun : va_Run p l e R s m args below meth c H locs (M.1 - n0) (M.2.1 - w0) (M'.1 - M.1) (M'.2.1 - M.2.1) (F0 m pc sl ((As.map (cv G)).reverse ++ rest.map (cv G))) (rest.map (cv G)) (Kq G r M' (As.map (cv G)).toArray) (AA G) := by
    by_cases hnest : q.2.2.2.2 = 0
    · exact va_runS (Ts := TB) (own := ownN me.2.1) (As := As.map (cv G)) (rest := rest.map (cv G)) ⟨X.1, X.2.1, X.2.2.1, X.2.2.2.1, X.2.2.2.2.1⟩ hM (va_cwS (ws' := TB) q.2.1 X.2.2.2.2.1 (goodC (y3 hnest) (goodC (y4 hrk) (goodC c6 (wsM_good (mds_mem y1) (by rw [hid]; exact y0))))) rfl rfl rfl ⟨c7.1, c7.2, y2⟩ (room_ok c4 X.2.2.2.2.2.2.2.2.1 X.2.2.2.2.2.2.2.2.2.1)) ⟨Kt_blind, hpre⟩ rfl (by rw [List.length_map]; exact hlen) hL.1 rfl (lv_room (by rw [catS_cv]; exact hcat)) hd ⟨by omega, by omega⟩
    · have hN := X.2.2.2.2.2.2.1.2.2.2.2.2.2 _ _ _ hq hnest
      have ey : nmT.getD q.1 ⟨"", "", ""⟩ = yOf (mds.getD q.1 m_law) := by unfold yOf; rw [hid]
      rw [ey] at hN
      exact va_runSN (Ts := TB) (own := ownN me.2.1) (host := "RoseWall") (As := As.map (cv G)) (rest := rest.map (cv G)) ⟨X.1, X.2.1, X.2.2.1, X.2.2.2.1, X.2.2.2.2.1⟩ hM ⟨va_cnB (ws' := TB) q.2.1 X.2.2.2.2.1 (wsM_good (mds_mem y1) (by rw [hid]; exact y0)) rfl rfl rfl hN (X.2.2.2.2.1 _ c6) ⟨c7.1, c7.2, y2⟩ (room_ok c4 X.2.2.2.2.2.2.2.2.1 X.2.2.2.2.2.2.2.2.2.1), X.2.2.2.2.1 _ (y4 hrk), trivial⟩ ⟨Kt_blind, hpre⟩ rfl (by rw [List.length_map]; exact hlen) hL.1 rfl (lv_room (by rw [catS_cv]; exact hcat)) hd ⟨by omega, by omega⟩
  refine go_run hrun hS (fun H1 locs1 hR1 hS1 => ?_)
  have := kk H1 locs1 sl hL hR1 hS1
  rw [List.map_append, rst_map] at this
  rw [show M.1 - n0 + (M'.1 - M.1) = M'.1 - n0 by omega, show M.2.1 - w0 + (M'.2.1 - M.2.1) = M'.2.1 - w0 by omega]
  exact this
theorem w_callI {k : Nat} {q : Nat × Nat × Nat × Nat × Nat} {b : Nat} {As rest : List Value} {r : Value} {M' : M1} (X : Ctx p R s m args meth c G me d) (hA : AllMet l G d) (hd : decode (byt me) pc = .ok (.invokespecial k, 3)) (hq : mrow me.2.1 k = some q) (hrk : q.2.2.1 ≠ 0) (hk : isK O1 M b q.2.2.1 = true) (hini : (mds.getD q.1 m_law).2.2.2.2.2 = true) (hcl : cl O1 d (mds.getD q.1 m_law) (.ref b :: As) M = some (r, M')) (hlen : As.length = q.2.1) (hcat : catS rest ≤ 8) (h0 : n0 ≤ M.1) (h1 : w0 ≤ M.2.1) (hc : M'.1 - n0 ≤ R.cells) (hs : M'.2.1 - w0 ≤ R.slots) (hrt : rty (mds.getD q.1 m_law) = none)
    (kk : WW p l e R s m args below meth c G me Q n0 w0 (pc + 3) ls (rst r ++ rest) M') : WW p l e R s m args below meth c G me Q n0 w0 pc ls (As.reverse ++ .ref b :: rest) M := by
  intro H locs sl hL hR hS
  obtain ⟨y0, y1, y2, y3, -, y5⟩ := mrow_spec hq
  obtain ⟨y6, -, -⟩ := y5 hrk
  have hid := mds_id _ y1
  obtain ⟨g1, g2, hM⟩ := hA _ (mds_mem y1) (by rw [hid]; exact y0) _ _ _ _ hcl
  obtain ⟨c1, c2, c3, c4, c5, c6, c7, -⟩ := ckM_spec (mds_mem y1) (by rw [hid]; exact y0)
  obtain ⟨a, ea, -⟩ := recv_ok X hq hrk hk hR hS
  have hpre := pre_call (as := .ref b :: As) X hR hS
  rw [List.map_cons, ea] at hpre
  rw [List.map_append, List.map_reverse, List.map_cons, ea]
  have hw : wsM (mds.getD q.1 m_law) = Cond.code (yOf (mds.getD q.1 m_law)) (byt (mds.getD q.1 m_law)) (mds.getD q.1 m_law).2.2.2.1 none :: TB := by unfold wsM; rw [hrt]
  have hrun : va_Run p l e R s m args below meth c H locs (M.1 - n0) (M.2.1 - w0) (M'.1 - M.1) (M'.2.1 - M.2.1) (F0 m pc sl ((As.map (cv G)).reverse ++ .ref a :: rest.map (cv G))) (rest.map (cv G)) (Kq G r M' (Value.ref a :: As.map (cv G)).toArray) (AA G) := by
    by_cases hnest : q.2.2.2.2 = 0
    · exact va_runI (Ts := TB) (own := ownN me.2.1) (As := As.map (cv G)) (rest := rest.map (cv G)) ⟨X.1, X.2.1, X.2.2.1, X.2.2.2.1, X.2.2.2.2.1⟩ hM (cwI (ws' := TB) q.2.1 X.2.2.2.2.1 (wsM_good (mds_mem y1) (by rw [hid]; exact y0)) hw rfl rfl (X.2.2.2.2.1 _ c6) (X.2.2.2.2.1 _ (y3 hnest)) (X.2.2.2.2.1 _ y6) (c5 hini) ⟨c7.1, c7.2, y2⟩ (room_ok c4 X.2.2.2.2.2.2.2.2.1 X.2.2.2.2.2.2.2.2.2.1)) ⟨Kt_blind, hpre⟩ rfl (by rw [List.length_map]; exact hlen) hL.1 rfl (lv_room (by rw [catS_cv]; exact hcat)) hd ⟨by omega, by omega⟩
    · have hN := X.2.2.2.2.2.2.1.2.2.2.2.2.2 _ _ _ hq hnest
      have ey : nmT.getD q.1 ⟨"", "", ""⟩ = yOf (mds.getD q.1 m_law) := by unfold yOf; rw [hid]
      rw [ey] at hN
      exact va_runIN (Ts := TB) (own := ownN me.2.1) (host := "RoseWall") (As := As.map (cv G)) (rest := rest.map (cv G)) ⟨X.1, X.2.1, X.2.2.1, X.2.2.2.1, X.2.2.2.2.1⟩ hM ⟨va_cnB (ws' := TB) q.2.1 X.2.2.2.2.1 (wsM_good (mds_mem y1) (by rw [hid]; exact y0)) hw rfl rfl hN (X.2.2.2.2.1 _ c6) ⟨c7.1, c7.2, y2⟩ (room_ok c4 X.2.2.2.2.2.2.2.2.1 X.2.2.2.2.2.2.2.2.2.1), c5 hini, X.2.2.2.2.1 _ y6⟩ ⟨Kt_blind, hpre⟩ rfl (by rw [List.length_map]; exact hlen) hL.1 rfl (lv_room (by rw [catS_cv]; exact hcat)) hd ⟨by omega, by omega⟩
  refine go_run hrun hS (fun H1 locs1 hR1 hS1 => ?_)
  have := kk H1 locs1 sl hL hR1 hS1
  rw [List.map_append, rst_map] at this
  rw [show M.1 - n0 + (M'.1 - M.1) = M'.1 - n0 by omega, show M.2.1 - w0 + (M'.2.1 - M.2.1) = M'.2.1 - w0 by omega]
  exact this
end Calls1
