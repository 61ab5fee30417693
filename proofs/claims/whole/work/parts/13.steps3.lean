/-! INSTRUCTIONS on arrays, new cells, constants, statics. -/
section Steps3
variable {p : Program} {l : Launch} {e : Env} {R : Room} {s : State} {m : MethodId} {args : Array Value} {below : List Frame} {meth : Method} {c : Code} {G : Wd} {me : MD} {Q : State → Prop} {n0 w0 d : Nat} {pc : Nat} {ls st : List Value} {M : M1}
theorem va_P1 {D : va_G} {cl : List vw_C} {q : Nat × va_E} {H : Heap} (h : va_at D cl q H) : va_P D cl [q] H := by
  intro k x hx
  match k, hx with
  | 0, hx => cases hx; exact h
  | k + 1, hx => cases hx
theorem at_spec {a k : Nat} {i : Int32} (h : at_ O1 M a k i = true) (hk : k ≠ 0) : (sh0 a).1 = k ∧ a < 100 + M.1 ∧ inb i (sh0 a).2 = true := by
  unfold at_ at h
  rw [Bool.and_eq_true] at h
  obtain ⟨h1, h2⟩ := s1_kind (m := M) h.1 hk
  refine ⟨h1, h2, ?_⟩
  have e : oS O1 M a = sh0 a := by
    show bb (Nat.blt a (100 + M.1)) (sh0 a) (0, 0) = sh0 a
    rw [lt_blt h2]
    rfl
  have h3 := h.2
  rw [e] at h3
  exact h3
theorem aV_int {a kd : Nat} (h : kd < 43) : aV G M a kd = fun j => .int (M.2.2.1 a j) := by
  funext j; unfold aV; rw [if_neg (by omega), if_neg (by omega)]
theorem aV_long {a : Nat} : aV G M a 43 = fun j => .long (M.2.2.2.1 a j) := by
  funext j; unfold aV; rw [if_pos rfl]
theorem aV_ref {a kd : Nat} (h : 44 ≤ kd) : aV G M a kd = fun j => va_rf (adr G (M.2.2.2.2 a j)) := by
  funext j; unfold aV; rw [if_neg (by omega), if_pos h]
theorem w_iald {a : Nat} {i : Int32} (X : Ctx p R s m args meth c G me d) (hd : decode (byt me) pc = .ok (.iaload, 1)) (hk : at_ O1 M a 40 i = true) (kk : WW p l e R s m args below meth c G me Q n0 w0 (pc + 1) ls (.int (M.2.2.1 a (ix i)) :: st) M) : WW p l e R s m args below meth c G me Q n0 w0 pc ls (.int i :: .ref a :: st) M := by
  intro H locs sl hL hR hS
  obtain ⟨h1, h2, h3⟩ := at_spec hk (by decide)
  have h100 : 100 ≤ a := kind_ge (by omega)
  have hc := hR.arr (a := a) (by omega) h100 h2
  rw [h1, aV_int (by decide)] at hc
  have hkk := kk H locs sl hL hR hS
  rw [List.map_cons] at hkk
  rw [List.map_cons, List.map_cons, cv_ref h100]
  exact va_iald (ws := [(ad G a, .inl (G.2.1 40, (sh0 a).2, .inl (M.2.2.1 a)))]) X.1 X.2.1 X.2.2.2.2.2.1 (va_P1 hc) 0 0 rfl rfl (inb_in h3) hd hkk
theorem w_bald {a : Nat} {i : Int32} (X : Ctx p R s m args meth c G me d) (hd : decode (byt me) pc = .ok (.baload, 1)) (hk : (at_ O1 M a 41 i || at_ O1 M a 42 i) = true) (kk : WW p l e R s m args below meth c G me Q n0 w0 (pc + 1) ls (.int (M.2.2.1 a (ix i)) :: st) M) : WW p l e R s m args below meth c G me Q n0 w0 pc ls (.int i :: .ref a :: st) M := by
  intro H locs sl hL hR hS
  have hkk := kk H locs sl hL hR hS
  rw [List.map_cons] at hkk
  rw [List.map_cons, List.map_cons]
  rcases Bool.or_eq_true_iff.mp hk with hk | hk
  · obtain ⟨h1, h2, h3⟩ := at_spec hk (by decide)
    have h100 : 100 ≤ a := kind_ge (by omega)
    have hc := hR.arr (a := a) (by omega) h100 h2
    rw [h1, aV_int (by decide)] at hc
    rw [cv_ref h100]
    exact va_bald (ws := [(ad G a, .inl (G.2.1 41, (sh0 a).2, .inl (M.2.2.1 a)))]) X.1 X.2.1 X.2.2.2.2.2.1 (va_P1 hc) 0 1 rfl rfl (inb_in h3) hd hkk
  · obtain ⟨h1, h2, h3⟩ := at_spec hk (by decide)
    have h100 : 100 ≤ a := kind_ge (by omega)
    have hc := hR.arr (a := a) (by omega) h100 h2
    rw [h1, aV_int (by decide)] at hc
    rw [cv_ref h100]
    exact va_zald (ws := [(ad G a, .inl (G.2.1 42, (sh0 a).2, .inl (M.2.2.1 a)))]) X.1 X.2.1 X.2.2.2.2.2.1 (va_P1 hc) 0 2 rfl rfl (inb_in h3) hd hkk
theorem w_lald {a : Nat} {i : Int32} (X : Ctx p R s m args meth c G me d) (hd : decode (byt me) pc = .ok (.laload, 1)) (hk : at_ O1 M a 43 i = true) (kk : WW p l e R s m args below meth c G me Q n0 w0 (pc + 1) ls (.long (M.2.2.2.1 a (ix i)) :: st) M) : WW p l e R s m args below meth c G me Q n0 w0 pc ls (.int i :: .ref a :: st) M := by
  intro H locs sl hL hR hS
  obtain ⟨h1, h2, h3⟩ := at_spec hk (by decide)
  have h100 : 100 ≤ a := kind_ge (by omega)
  have hc := hR.arr (a := a) (by omega) h100 h2
  rw [h1, aV_long] at hc
  have hkk := kk H locs sl hL hR hS
  rw [List.map_cons] at hkk
  rw [List.map_cons, List.map_cons, cv_ref h100]
  exact va_lald (ws := [(ad G a, .inl (G.2.1 43, (sh0 a).2, .inr (.inl (M.2.2.2.1 a))))]) X.1 X.2.1 X.2.2.2.2.2.1 (va_P1 hc) 0 3 rfl rfl (inb_in h3) hd hkk
theorem or3 {a b c : Bool} (h : (a || b || c) = true) : a = true ∨ b = true ∨ c = true := by cases a <;> cases b <;> cases c <;> simp_all
theorem w_aald {a : Nat} {i : Int32} (X : Ctx p R s m args meth c G me d) (hd : decode (byt me) pc = .ok (.aaload, 1)) (hk : (at_ O1 M a 44 i || at_ O1 M a 45 i || at_ O1 M a 46 i) = true) (kk : WW p l e R s m args below meth c G me Q n0 w0 (pc + 1) ls (.ref (M.2.2.2.2 a (ix i)) :: st) M) : WW p l e R s m args below meth c G me Q n0 w0 pc ls (.int i :: .ref a :: st) M := by
  intro H locs sl hL hR hS
  have hkk := kk H locs sl hL hR hS
  rw [List.map_cons] at hkk
  rw [List.map_cons, List.map_cons]
  have go : ∀ (k t0 : Nat) (C : String), 44 ≤ k → (TYS G)[t0]? = some (G.2.1 k, .object C) → at_ O1 M a k i = true → W p l e R s m args below meth c H locs (M.1 - n0) (M.2.1 - w0) Q (F0 m pc sl (cv G (.int i) :: cv G (.ref a) :: st.map (cv G))) := by
    intro k t0 C hk44 ht hk
    obtain ⟨h1, h2, h3⟩ := at_spec hk (by omega)
    have h100 : 100 ≤ a := kind_ge (by omega)
    have hc := hR.arr (a := a) (by omega) h100 h2
    rw [h1, aV_ref hk44] at hc
    rw [cv_ref h100]
    exact va_aldq (ws := [(ad G a, .inl (G.2.1 k, (sh0 a).2, .inr (.inr (.inr (.inr (fun j => adr G (M.2.2.2.2 a j)))))))]) X.1 X.2.1 X.2.2.2.2.2.1 (va_P1 hc) 0 t0 rfl ht (inb_in h3) hd hkk
  rcases or3 hk with hk | hk | hk
  · exact go 44 4 _ (by decide) rfl hk
  · exact go 45 5 _ (by decide) rfl hk
  · exact go 46 6 _ (by decide) rfl hk
/-- an array's cell is written -/
theorem RepH.ast {M' : M1} {H H' : Heap} {a k kd : Nat} {x : Value} (hR : RepH G M H) (hkd : (sh0 a).1 = kd) (h40 : 40 ≤ kd) (hM1 : M'.1 = M.1) (hrow : ∀ b, b ≠ a → M'.2.2.1 b = M.2.2.1 b ∧ M'.2.2.2.1 b = M.2.2.2.1 b ∧ M'.2.2.2.2 b = M.2.2.2.2 b) (hV : ∀ j, aV G M' a kd j = updV (aV G M a kd) k x j) (e : H'[ad G a]? = some ((arrV (G.2.1 kd) (sh0 a).2 (aV G M a kd)).setSlot k x)) (z : H'.size = H.size) (oq : ∀ q, q ≠ ad G a → H'[q]? = H[q]?) : RepH G M' H' := by
  refine hR.put (kind_ge (by omega)) hM1 z oq hrow ?_
  unfold RepC
  rw [if_neg (by omega), hkd, e, arrV_store]
  congr 2
  funext j
  exact (hV j).symm
theorem i1_row {a k : Nat} {v : Int32} : ∀ b, b ≠ a → (i1 M a k v).2.2.1 b = M.2.2.1 b ∧ (i1 M a k v).2.2.2.1 b = M.2.2.2.1 b ∧ (i1 M a k v).2.2.2.2 b = M.2.2.2.2 b := fun b hb => ⟨by funext j; show up2 _ _ _ _ b j = _; unfold up2; rw [if_neg hb], rfl, rfl⟩
theorem l1_row {a k : Nat} {v : Int64} : ∀ b, b ≠ a → (l1 M a k v).2.2.1 b = M.2.2.1 b ∧ (l1 M a k v).2.2.2.1 b = M.2.2.2.1 b ∧ (l1 M a k v).2.2.2.2 b = M.2.2.2.2 b := fun b hb => ⟨rfl, by funext j; show up2 _ _ _ _ b j = _; unfold up2; rw [if_neg hb], rfl⟩
theorem r1_row {a k v : Nat} : ∀ b, b ≠ a → (r1 M a k v).2.2.1 b = M.2.2.1 b ∧ (r1 M a k v).2.2.2.1 b = M.2.2.2.1 b ∧ (r1 M a k v).2.2.2.2 b = M.2.2.2.2 b := fun b hb => ⟨rfl, rfl, by funext j; show up2 _ _ _ _ b j = _; unfold up2; rw [if_neg hb]⟩
theorem up2_self {α : Type} {f : Nat → Nat → α} {a k j : Nat} {v : α} : up2 f a k v a j = if j = k then v else f a j := by unfold up2; rw [if_pos rfl]
theorem arr_in {a : Nat} {i : Int32} {cA : ClassId} {f : Nat → Value} (h : inb i (sh0 a).2 = true) : ¬ (i < 0 ∨ (arrV cA (sh0 a).2 f).slots.size ≤ i.toNatClampNeg) := by
  rw [arrV_size]; exact inb_in h
theorem w_iast {a : Nat} {i v : Int32} (X : Ctx p R s m args meth c G me d) (hd : decode (byt me) pc = .ok (.iastore, 1)) (hk : at_ O1 M a 40 i = true) (kk : WW p l e R s m args below meth c G me Q n0 w0 (pc + 1) ls st (i1 M a (ix i) v)) : WW p l e R s m args below meth c G me Q n0 w0 pc ls (.int v :: .int i :: .ref a :: st) M := by
  intro H locs sl hL hR hS
  obtain ⟨h1, h2, h3⟩ := at_spec hk (by decide)
  have h100 : 100 ≤ a := kind_ge (by omega)
  have hc := hR.arr (a := a) (by omega) h100 h2
  rw [h1] at hc
  rw [List.map_cons, List.map_cons, List.map_cons, cv_ref h100]
  refine W.iast X.1 X.2.1 hc ((X.2.2.2.2.2.1.2 0 _ rfl).1 _ _) (fun q => by cases q) (arr_in h3) rfl rfl hd (fun H' e z oq => ?_)
  exact kk H' _ sl hL (hR.ast (x := .int v) h1 (by decide) rfl i1_row (fun j => by
    rw [aV_int (by decide), aV_int (by decide)]
    show Value.int (up2 _ _ _ _ a j) = _
    rw [up2_self]
    show _ = if j = ix i then _ else _
    by_cases hj : j = ix i
    · rw [if_pos hj, if_pos hj]
    · rw [if_neg hj, if_neg hj]) e z oq) (hS.put z oq (by show G.2.2.1 ≤ ad G a; unfold ad; omega))
theorem w_bast {a : Nat} {i v : Int32} (X : Ctx p R s m args meth c G me d) (hd : decode (byt me) pc = .ok (.bastore, 1)) (hk : at_ O1 M a 41 i = true) (kk : WW p l e R s m args below meth c G me Q n0 w0 (pc + 1) ls st (i1 M a (ix i) v.toInt8.toInt32)) : WW p l e R s m args below meth c G me Q n0 w0 pc ls (.int v :: .int i :: .ref a :: st) M := by
  intro H locs sl hL hR hS
  obtain ⟨h1, h2, h3⟩ := at_spec hk (by decide)
  have h100 : 100 ≤ a := kind_ge (by omega)
  have hc := hR.arr (a := a) (by omega) h100 h2
  rw [h1] at hc
  rw [List.map_cons, List.map_cons, List.map_cons, cv_ref h100]
  refine W.bast X.1 X.2.1 hc ((X.2.2.2.2.2.1.2 1 _ rfl).1 _ _) (fun q => by cases q) (arr_in h3) rfl rfl hd (fun H' e z oq => ?_)
  exact kk H' _ sl hL (hR.ast (x := .int v.toInt8.toInt32) h1 (by decide) rfl i1_row (fun j => by
    rw [aV_int (by decide), aV_int (by decide)]
    show Value.int (up2 _ _ _ _ a j) = _
    rw [up2_self]
    show _ = if j = ix i then _ else _
    by_cases hj : j = ix i
    · rw [if_pos hj, if_pos hj]
    · rw [if_neg hj, if_neg hj]) e z oq) (hS.put z oq (by show G.2.2.1 ≤ ad G a; unfold ad; omega))
theorem w_zast {a : Nat} {i v : Int32} (X : Ctx p R s m args meth c G me d) (hd : decode (byt me) pc = .ok (.bastore, 1)) (hk : at_ O1 M a 42 i = true) (kk : WW p l e R s m args below meth c G me Q n0 w0 (pc + 1) ls st (i1 M a (ix i) (v &&& 1))) : WW p l e R s m args below meth c G me Q n0 w0 pc ls (.int v :: .int i :: .ref a :: st) M := by
  intro H locs sl hL hR hS
  obtain ⟨h1, h2, h3⟩ := at_spec hk (by decide)
  have h100 : 100 ≤ a := kind_ge (by omega)
  have hc := hR.arr (a := a) (by omega) h100 h2
  rw [h1] at hc
  rw [List.map_cons, List.map_cons, List.map_cons, cv_ref h100]
  refine W.zast X.1 X.2.1 hc ((X.2.2.2.2.2.1.2 2 _ rfl).1 _ _) (fun q => by cases q) (arr_in h3) rfl rfl hd (fun H' e z oq => ?_)
  exact kk H' _ sl hL (hR.ast (x := .int (v &&& 1)) h1 (by decide) rfl i1_row (fun j => by
    rw [aV_int (by decide), aV_int (by decide)]
    show Value.int (up2 _ _ _ _ a j) = _
    rw [up2_self]
    show _ = if j = ix i then _ else _
    by_cases hj : j = ix i
    · rw [if_pos hj, if_pos hj]
    · rw [if_neg hj, if_neg hj]) e z oq) (hS.put z oq (by show G.2.2.1 ≤ ad G a; unfold ad; omega))
theorem w_last {a : Nat} {i : Int32} {v : Int64} (X : Ctx p R s m args meth c G me d) (hd : decode (byt me) pc = .ok (.lastore, 1)) (hk : at_ O1 M a 43 i = true) (kk : WW p l e R s m args below meth c G me Q n0 w0 (pc + 1) ls st (l1 M a (ix i) v)) : WW p l e R s m args below meth c G me Q n0 w0 pc ls (.long v :: .int i :: .ref a :: st) M := by
  intro H locs sl hL hR hS
  obtain ⟨h1, h2, h3⟩ := at_spec hk (by decide)
  have h100 : 100 ≤ a := kind_ge (by omega)
  have hc := hR.arr (a := a) (by omega) h100 h2
  rw [h1] at hc
  rw [List.map_cons, List.map_cons, List.map_cons, cv_ref h100]
  refine W.last X.1 X.2.1 hc ((X.2.2.2.2.2.1.2 3 _ rfl).1 _ _) (fun q => by cases q) (arr_in h3) rfl rfl hd (fun H' e z oq => ?_)
  exact kk H' _ sl hL (hR.ast (x := .long v) h1 (by decide) rfl l1_row (fun j => by
    rw [aV_long, aV_long]
    show Value.long (up2 _ _ _ _ a j) = _
    rw [up2_self]
    show _ = if j = ix i then _ else _
    by_cases hj : j = ix i
    · rw [if_pos hj, if_pos hj]
    · rw [if_neg hj, if_neg hj]) e z oq) (hS.put z oq (by show G.2.2.1 ≤ ad G a; unfold ad; omega))
theorem w_aast {a v : Nat} {i : Int32} (X : Ctx p R s m args meth c G me d) (hd : decode (byt me) pc = .ok (.aastore, 1)) (hk : (at_ O1 M a 44 i || at_ O1 M a 45 i || at_ O1 M a 46 i) = true) (hkv : isK O1 M v (nslots (oS O1 M a).1) = true) (kk : WW p l e R s m args below meth c G me Q n0 w0 (pc + 1) ls st (r1 M a (ix i) v)) : WW p l e R s m args below meth c G me Q n0 w0 pc ls (.ref v :: .int i :: .ref a :: st) M := by
  intro H locs sl hL hR hS
  have go : ∀ (k t0 ci : Nat) (C : String) (r : vw_C), 44 ≤ k → nslots k = 10 + ci → ci < 30 → (TYS G)[t0]? = some (G.2.1 k, .object C) → vwCl[ci]? = some r → r.1 = C → at_ O1 M a k i = true → W p l e R s m args below meth c H locs (M.1 - n0) (M.2.1 - w0) Q (F0 m pc sl ((.ref v :: .int i :: .ref a :: st).map (cv G))) := by
    intro k t0 ci C r hk44 hns hci ht hc0 hrC hk
    obtain ⟨h1, h2, h3⟩ := at_spec hk (by omega)
    have h100 : 100 ≤ a := kind_ge (by omega)
    have hc := hR.arr (a := a) (by omega) h100 h2
    rw [h1] at hc
    have e0 : oS O1 M a = sh0 a := by
      show bb (Nat.blt a (100 + M.1)) (sh0 a) (0, 0) = sh0 a
      rw [lt_blt h2]
      rfl
    rw [e0, h1, hns] at hkv
    obtain ⟨v1, v2⟩ := s1_kind hkv (by omega)
    have hv100 : 100 ≤ v := kind_ge (by omega)
    obtain ⟨cellV, g1, g2, g3, -⟩ := hR.obj (a := v) (by omega) hv100 v2
    rw [v1, show 10 + ci - 10 = ci by omega] at g2
    have hK := X.2.2.2.2.2.1
    have hcls := (hK.1 ci r hc0).2
    obtain ⟨kA, comp, k1, k2, k3, -⟩ := (hK.2 t0 _ ht).2
    have hcomp : comp = G.1.1 ci := Option.some.inj (k3.symm.trans (by rw [← hrC]; exact hcls.1))
    subst hcomp
    obtain ⟨kC, hkC, -⟩ := hcls.2
    have hin : ¬ i < 0 ∧ i.toNatClampNeg < (arrV (G.2.1 k) (sh0 a).2 (aV G M a k)).slots.size := by
      have := arr_in (cA := G.2.1 k) (f := aV G M a k) h3
      exact ⟨fun q => this (Or.inl q), Nat.not_le.mp fun q => this (Or.inr q)⟩
    rw [List.map_cons, List.map_cons, List.map_cons, cv_ref h100, cv_ref hv100]
    refine W.aast X.1 X.2.1 hc (fun q h => by cases h) (fun h => by cases h) k1 k2 rfl hkC hin g1 (fun q h => by rw [g3] at h; cases h) (by rw [g2]; exact hkC) (by rw [g2]; exact va_assign hcls) rfl rfl hd (fun H' e z oq => ?_)
    exact kk H' _ sl hL (hR.ast (x := .ref (ad G v)) h1 (by omega) rfl r1_row (fun j => by
    rw [aV_ref hk44, aV_ref hk44]
    show va_rf (adr G (up2 _ _ _ _ a j)) = _
    rw [up2_self]
    show _ = if j = ix i then _ else _
    by_cases hj : j = ix i
    · rw [if_pos hj, if_pos hj, adr_ge hv100]; rfl
    · rw [if_neg hj, if_neg hj]) e z oq) (hS.put z oq (by show G.2.2.1 ≤ ad G a; unfold ad; omega))
  rcases or3 hk with hk | hk | hk
  · exact go 44 4 6 "RoseWall$Room" _ (by decide) rfl (by decide) rfl rfl rfl hk
  · exact go 45 5 3 "RoseWall$Moment" _ (by decide) rfl (by decide) rfl rfl rfl hk
  · exact go 46 6 10 "RoseWall$Tray" _ (by decide) rfl (by decide) rfl rfl rfl hk
theorem iI_nat (n : Nat) : Int32.ofNat n = iI n := Int32.ofInt_eq_ofNat.symm
end Steps3
