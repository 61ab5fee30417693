/-! EACH INSTRUCTION of the interpreter is a step of the machine. -/
def Ctx (p : Program) (R : Room) (s : State) (m : MethodId) (args : Array Value) (meth : Method) (c : Code) (G : Wd) (me : MD) (d : Nat) : Prop :=
  p.tables.exec = Jvm.exec ∧ c.code = byt me ∧ c.maxLocals = me.2.2.2.1 ∧ s.vm.findClass (ownN me.2.1) = some m.cls ∧ (∀ w ∈ TB, w.before args s = true) ∧ KX G s ∧ Ext G s s.heap ∧ (me.2.2.2.2.2 = true → meth.name = "<init>") ∧ d + 1 ≤ R.frames ∧ 60 * (d + 1) ≤ R.locals ∧ ckD (byt me) me.2.2.1 = true ∧ G.2.2.1 ≤ s.heap.size
def WW (p : Program) (l : Launch) (e : Env) (R : Room) (s : State) (m : MethodId) (args : Array Value) (below : List Frame) (meth : Method) (c : Code) (G : Wd) (me : MD) (Q : State → Prop) (n0 w0 : Nat) (pc : Nat) (ls st : List Value) (M : M1) : Prop :=
  ∀ (H : Heap) (locs : List Loc) (sl : Array Slot), LH G sl me.2.2.2.1 ls → RepH G M H → va_S (AA G) s.heap H locs → W p l e R s m args below meth c H locs (M.1 - n0) (M.2.1 - w0) Q (F0 m pc sl (st.map (cv G)))
section Steps1
variable {p : Program} {l : Launch} {e : Env} {R : Room} {s : State} {m : MethodId} {args : Array Value} {below : List Frame} {meth : Method} {c : Code} {G : Wd} {me : MD} {Q : State → Prop} {n0 w0 d : Nat} {pc : Nat} {ls st : List Value} {M : M1}

theorem w_iload_n {k : Fin 4} {x : Int32} (X : Ctx p R s m args meth c G me d) (hd : decode (byt me) pc = .ok (.iload_n k, 1)) (hl : ls[k.val]? = some (.int x)) (kk : WW p l e R s m args below meth c G me Q n0 w0 (pc + 1) ls (.int x :: st) M) : WW p l e R s m args below meth c G me Q n0 w0 pc ls st M :=
  fun H locs sl hL hR hS => lv_iload_n X.1 X.2.1 hd rfl (hL.2.2.2 _ (.int x) hl trivial) (kk H locs sl hL hR hS)
theorem w_iload {k : Nat} {x : Int32} (X : Ctx p R s m args meth c G me d) (hd : decode (byt me) pc = .ok (.iload k, 2)) (hl : ls[k]? = some (.int x)) (kk : WW p l e R s m args below meth c G me Q n0 w0 (pc + 2) ls (.int x :: st) M) : WW p l e R s m args below meth c G me Q n0 w0 pc ls st M :=
  fun H locs sl hL hR hS => lv_iload X.1 X.2.1 hd (hL.2.2.2 _ (.int x) hl trivial) (kk H locs sl hL hR hS)
theorem w_lload_n {k : Fin 4} {x : Int64} (X : Ctx p R s m args meth c G me d) (hd : decode (byt me) pc = .ok (.lload_n k, 1)) (hl : ls[k.val]? = some (.long x)) (h2 : ls[k.val + 1]? = some mk2) (kk : WW p l e R s m args below meth c G me Q n0 w0 (pc + 1) ls (.long x :: st) M) : WW p l e R s m args below meth c G me Q n0 w0 pc ls st M :=
  fun H locs sl hL hR hS => lv_lload_n X.1 X.2.1 hd rfl (hL.2.2.2 _ (.long x) hl h2) (kk H locs sl hL hR hS)
theorem w_lload {k : Nat} {x : Int64} (X : Ctx p R s m args meth c G me d) (hd : decode (byt me) pc = .ok (.lload k, 2)) (hl : ls[k]? = some (.long x)) (h2 : ls[k + 1]? = some mk2) (kk : WW p l e R s m args below meth c G me Q n0 w0 (pc + 2) ls (.long x :: st) M) : WW p l e R s m args below meth c G me Q n0 w0 pc ls st M :=
  fun H locs sl hL hR hS => lv_lload X.1 X.2.1 hd (hL.2.2.2 _ (.long x) hl h2) (kk H locs sl hL hR hS)
theorem w_aload_n {k : Fin 4} {x : Nat} (X : Ctx p R s m args meth c G me d) (hd : decode (byt me) pc = .ok (.aload_n k, 1)) (hl : ls[k.val]? = some (.ref x)) (kk : WW p l e R s m args below meth c G me Q n0 w0 (pc + 1) ls (.ref x :: st) M) : WW p l e R s m args below meth c G me Q n0 w0 pc ls st M := by
  intro H locs sl hL hR hS
  have h := hL.2.2.2 _ (.ref x) hl trivial
  have k1 := kk H locs sl hL hR hS
  rw [List.map_cons] at k1
  change sl[k.val]? = some (.val (va_rf (adr G x))) at h
  change W _ _ _ _ _ _ _ _ _ _ _ _ _ _ _ (F0 m (pc + 1) sl (va_rf (adr G x) :: st.map (cv G))) at k1
  cases hx : adr G x with
  | none => rw [hx] at h k1; exact lv_aload_nN X.1 X.2.1 hd rfl h k1
  | some a => rw [hx] at h k1; exact lv_aload_n X.1 X.2.1 hd rfl h k1
theorem w_aload {k : Nat} {x : Nat} (X : Ctx p R s m args meth c G me d) (hd : decode (byt me) pc = .ok (.aload k, 2)) (hl : ls[k]? = some (.ref x)) (kk : WW p l e R s m args below meth c G me Q n0 w0 (pc + 2) ls (.ref x :: st) M) : WW p l e R s m args below meth c G me Q n0 w0 pc ls st M := by
  intro H locs sl hL hR hS
  have h := hL.2.2.2 _ (.ref x) hl trivial
  have k1 := kk H locs sl hL hR hS
  rw [List.map_cons] at k1
  change sl[k]? = some (.val (va_rf (adr G x))) at h
  change W _ _ _ _ _ _ _ _ _ _ _ _ _ _ _ (F0 m (pc + 2) sl (va_rf (adr G x) :: st.map (cv G))) at k1
  cases hx : adr G x with
  | none => rw [hx] at h k1; exact lv_aloadN X.1 X.2.1 hd  h k1
  | some a => rw [hx] at h k1; exact lv_aload X.1 X.2.1 hd  h k1
theorem w_istore_n {k : Fin 4} {x : Int32} (X : Ctx p R s m args meth c G me d) (hd : decode (byt me) pc = .ok (.istore_n k, 1)) (hi : k.val < ls.length) (kk : WW p l e R s m args below meth c G me Q n0 w0 (pc + 1) (ls.set k.val (.int x)) st M) : WW p l e R s m args below meth c G me Q n0 w0 pc ls (.int x :: st) M := by
  intro H locs sl hL hR hS
  have hi2 : k.val < me.2.2.2.1 := by rw [← hL.2.1]; exact hi
  exact lv_istore_n X.1 X.2.1 hd rfl hL.has hi2 rfl (fun sl' h' => kk H locs sl' (hL.set1 (v := .int x) hi2 (Or.inl ⟨x, rfl⟩) h') hR hS)
theorem w_istore {k : Nat} {x : Int32} (X : Ctx p R s m args meth c G me d) (hd : decode (byt me) pc = .ok (.istore k, 2)) (hi : k < ls.length) (kk : WW p l e R s m args below meth c G me Q n0 w0 (pc + 2) (ls.set k (.int x)) st M) : WW p l e R s m args below meth c G me Q n0 w0 pc ls (.int x :: st) M := by
  intro H locs sl hL hR hS
  have hi2 : k < me.2.2.2.1 := by rw [← hL.2.1]; exact hi
  exact lv_istore X.1 X.2.1 hd  hL.has hi2 rfl (fun sl' h' => kk H locs sl' (hL.set1 (v := .int x) hi2 (Or.inl ⟨x, rfl⟩) h') hR hS)
theorem w_lstore_n {k : Fin 4} {x : Int64} (X : Ctx p R s m args meth c G me d) (hd : decode (byt me) pc = .ok (.lstore_n k, 1)) (hi : k.val + 1 < ls.length) (kk : WW p l e R s m args below meth c G me Q n0 w0 (pc + 1) ((ls.set k.val (.long x)).set (k.val + 1) mk2) st M) : WW p l e R s m args below meth c G me Q n0 w0 pc ls (.long x :: st) M := by
  intro H locs sl hL hR hS
  have hi2 : k.val + 1 < me.2.2.2.1 := by rw [← hL.2.1]; exact hi
  exact lv_lstore_n X.1 X.2.1 hd rfl hL.has hi2 rfl (fun sl' h' => kk H locs sl' (hL.set2 hi2 h') hR hS)
theorem w_lstore {k : Nat} {x : Int64} (X : Ctx p R s m args meth c G me d) (hd : decode (byt me) pc = .ok (.lstore k, 2)) (hi : k + 1 < ls.length) (kk : WW p l e R s m args below meth c G me Q n0 w0 (pc + 2) ((ls.set k (.long x)).set (k + 1) mk2) st M) : WW p l e R s m args below meth c G me Q n0 w0 pc ls (.long x :: st) M := by
  intro H locs sl hL hR hS
  have hi2 : k + 1 < me.2.2.2.1 := by rw [← hL.2.1]; exact hi
  exact lv_lstore X.1 X.2.1 hd  hL.has hi2 rfl (fun sl' h' => kk H locs sl' (hL.set2 hi2 h') hR hS)
theorem w_astore_n {k : Fin 4} {x : Nat} (X : Ctx p R s m args meth c G me d) (hd : decode (byt me) pc = .ok (.astore_n k, 1)) (hi : k.val < ls.length) (kk : WW p l e R s m args below meth c G me Q n0 w0 (pc + 1) (ls.set k.val (.ref x)) st M) : WW p l e R s m args below meth c G me Q n0 w0 pc ls (.ref x :: st) M := by
  intro H locs sl hL hR hS
  have hi2 : k.val < me.2.2.2.1 := by rw [← hL.2.1]; exact hi
  have hh := fun (sl' : Array Slot) h' => kk H locs sl' (hL.set1 (v := .ref x) hi2 (Or.inr ⟨x, rfl⟩) h') hR hS
  rw [List.map_cons]
  change W _ _ _ _ _ _ _ _ _ _ _ _ _ _ _ (F0 m pc sl (va_rf (adr G x) :: st.map (cv G)))
  change ∀ (sl' : Array Slot), lv_has sl' me.2.2.2.1 ((k.val, va_rf (adr G x)) :: _) → _ at hh
  cases hx : adr G x with
  | none => rw [hx] at hh; exact lv_astore_nN X.1 X.2.1 hd rfl hL.has hi2 rfl hh
  | some a => rw [hx] at hh; exact lv_astore_n X.1 X.2.1 hd rfl hL.has hi2 rfl hh
theorem w_astore {k : Nat} {x : Nat} (X : Ctx p R s m args meth c G me d) (hd : decode (byt me) pc = .ok (.astore k, 2)) (hi : k < ls.length) (kk : WW p l e R s m args below meth c G me Q n0 w0 (pc + 2) (ls.set k (.ref x)) st M) : WW p l e R s m args below meth c G me Q n0 w0 pc ls (.ref x :: st) M := by
  intro H locs sl hL hR hS
  have hi2 : k < me.2.2.2.1 := by rw [← hL.2.1]; exact hi
  have hh := fun (sl' : Array Slot) h' => kk H locs sl' (hL.set1 (v := .ref x) hi2 (Or.inr ⟨x, rfl⟩) h') hR hS
  rw [List.map_cons]
  change W _ _ _ _ _ _ _ _ _ _ _ _ _ _ _ (F0 m pc sl (va_rf (adr G x) :: st.map (cv G)))
  change ∀ (sl' : Array Slot), lv_has sl' me.2.2.2.1 ((k, va_rf (adr G x)) :: _) → _ at hh
  cases hx : adr G x with
  | none => rw [hx] at hh; exact lv_astoreN X.1 X.2.1 hd  hL.has hi2 rfl hh
  | some a => rw [hx] at hh; exact lv_astore X.1 X.2.1 hd  hL.has hi2 rfl hh
theorem w_iinc {k : Nat} {n : Int} {x : Int32} (X : Ctx p R s m args meth c G me d) (hd : decode (byt me) pc = .ok (.iinc k n, 3)) (hl : ls[k]? = some (.int x)) (hi : k < ls.length) (kk : WW p l e R s m args below meth c G me Q n0 w0 (pc + 3) (ls.set k (.int (x + iI n))) st M) : WW p l e R s m args below meth c G me Q n0 w0 pc ls st M := by
  intro H locs sl hL hR hS
  have hi2 : k < me.2.2.2.1 := by rw [← hL.2.1]; exact hi
  have hm : (k, Value.int x) ∈ prs G ls := prs_mem.mpr ⟨.int x, hl, trivial, rfl⟩
  obtain ⟨j, hj⟩ := List.getElem?_of_mem hm
  exact lv_iinc X.1 X.2.1 hd hL.has hj rfl hi2 rfl (fun sl' h' => kk H locs sl' (hL.set1 (v := .int (x + iI n)) hi2 (Or.inl ⟨_, rfl⟩) h') hR hS)
theorem w_iconst {n : Int} (X : Ctx p R s m args meth c G me d) (hd : decode (byt me) pc = .ok (.iconst n, 1)) (kk : WW p l e R s m args below meth c G me Q n0 w0 (pc + 1) ls (.int (iI n) :: st) M) : WW p l e R s m args below meth c G me Q n0 w0 pc ls st M :=
  fun H locs sl hL hR hS => lv_iconst X.1 X.2.1 hd rfl (kk H locs sl hL hR hS)
theorem w_bipush {n : Int} (X : Ctx p R s m args meth c G me d) (hd : decode (byt me) pc = .ok (.bipush n, 2)) (hn : (Int8.ofInt n).toInt32 = Int32.ofInt n) (kk : WW p l e R s m args below meth c G me Q n0 w0 (pc + 2) ls (.int (iI n) :: st) M) : WW p l e R s m args below meth c G me Q n0 w0 pc ls st M :=
  fun H locs sl hL hR hS => lv_bipush X.1 X.2.1 hd hn (kk H locs sl hL hR hS)
theorem w_sipush {n : Int} (X : Ctx p R s m args meth c G me d) (hd : decode (byt me) pc = .ok (.sipush n, 3)) (hn : (Int16.ofInt n).toInt32 = Int32.ofInt n) (kk : WW p l e R s m args below meth c G me Q n0 w0 (pc + 3) ls (.int (iI n) :: st) M) : WW p l e R s m args below meth c G me Q n0 w0 pc ls st M :=
  fun H locs sl hL hR hS => lv_sipush X.1 X.2.1 hd hn (kk H locs sl hL hR hS)
theorem w_lconst {n : Fin 2} (X : Ctx p R s m args meth c G me d) (hd : decode (byt me) pc = .ok (.lconst n, 1)) (kk : WW p l e R s m args below meth c G me Q n0 w0 (pc + 1) ls (.long (lI n.val) :: st) M) : WW p l e R s m args below meth c G me Q n0 w0 pc ls st M :=
  fun H locs sl hL hR hS => lv_lconst X.1 X.2.1 hd rfl (kk H locs sl hL hR hS)
theorem w_iadd {x y : Int32} (X : Ctx p R s m args meth c G me d) (hd : decode (byt me) pc = .ok (.iadd, 1)) (kk : WW p l e R s m args below meth c G me Q n0 w0 (pc + 1) ls (.int (x + y) :: st) M) : WW p l e R s m args below meth c G me Q n0 w0 pc ls (.int y :: .int x :: st) M :=
  fun H locs sl hL hR hS => lv_iadd X.1 X.2.1 hd (kk H locs sl hL hR hS)
theorem w_isub {x y : Int32} (X : Ctx p R s m args meth c G me d) (hd : decode (byt me) pc = .ok (.isub, 1)) (kk : WW p l e R s m args below meth c G me Q n0 w0 (pc + 1) ls (.int (x - y) :: st) M) : WW p l e R s m args below meth c G me Q n0 w0 pc ls (.int y :: .int x :: st) M :=
  fun H locs sl hL hR hS => lv_isub X.1 X.2.1 hd (kk H locs sl hL hR hS)
theorem w_imul {x y : Int32} (X : Ctx p R s m args meth c G me d) (hd : decode (byt me) pc = .ok (.imul, 1)) (kk : WW p l e R s m args below meth c G me Q n0 w0 (pc + 1) ls (.int (x * y) :: st) M) : WW p l e R s m args below meth c G me Q n0 w0 pc ls (.int y :: .int x :: st) M :=
  fun H locs sl hL hR hS => lv_imul X.1 X.2.1 hd (kk H locs sl hL hR hS)
theorem w_iand {x y : Int32} (X : Ctx p R s m args meth c G me d) (hd : decode (byt me) pc = .ok (.iand, 1)) (kk : WW p l e R s m args below meth c G me Q n0 w0 (pc + 1) ls (.int (x &&& y) :: st) M) : WW p l e R s m args below meth c G me Q n0 w0 pc ls (.int y :: .int x :: st) M :=
  fun H locs sl hL hR hS => lv_iand X.1 X.2.1 hd (kk H locs sl hL hR hS)
theorem w_ior {x y : Int32} (X : Ctx p R s m args meth c G me d) (hd : decode (byt me) pc = .ok (.ior, 1)) (kk : WW p l e R s m args below meth c G me Q n0 w0 (pc + 1) ls (.int (x ||| y) :: st) M) : WW p l e R s m args below meth c G me Q n0 w0 pc ls (.int y :: .int x :: st) M :=
  fun H locs sl hL hR hS => lv_ior X.1 X.2.1 hd (kk H locs sl hL hR hS)
theorem w_ixor {x y : Int32} (X : Ctx p R s m args meth c G me d) (hd : decode (byt me) pc = .ok (.ixor, 1)) (kk : WW p l e R s m args below meth c G me Q n0 w0 (pc + 1) ls (.int (x ^^^ y) :: st) M) : WW p l e R s m args below meth c G me Q n0 w0 pc ls (.int y :: .int x :: st) M :=
  fun H locs sl hL hR hS => lv_ixor X.1 X.2.1 hd (kk H locs sl hL hR hS)
theorem w_ishl {x y : Int32} (X : Ctx p R s m args meth c G me d) (hd : decode (byt me) pc = .ok (.ishl, 1)) (kk : WW p l e R s m args below meth c G me Q n0 w0 (pc + 1) ls (.int (x <<< (y &&& 31)) :: st) M) : WW p l e R s m args below meth c G me Q n0 w0 pc ls (.int y :: .int x :: st) M :=
  fun H locs sl hL hR hS => lv_ishl X.1 X.2.1 hd (kk H locs sl hL hR hS)
theorem w_ishr {x y : Int32} (X : Ctx p R s m args meth c G me d) (hd : decode (byt me) pc = .ok (.ishr, 1)) (kk : WW p l e R s m args below meth c G me Q n0 w0 (pc + 1) ls (.int (x >>> (y &&& 31)) :: st) M) : WW p l e R s m args below meth c G me Q n0 w0 pc ls (.int y :: .int x :: st) M :=
  fun H locs sl hL hR hS => lv_ishr X.1 X.2.1 hd (kk H locs sl hL hR hS)
theorem w_idiv {x y : Int32} (X : Ctx p R s m args meth c G me d) (hd : decode (byt me) pc = .ok (.idiv, 1)) (hy : ¬ y = 0) (kk : WW p l e R s m args below meth c G me Q n0 w0 (pc + 1) ls (.int (x / y) :: st) M) : WW p l e R s m args below meth c G me Q n0 w0 pc ls (.int y :: .int x :: st) M :=
  fun H locs sl hL hR hS => lv_idiv X.1 X.2.1 hd hy (kk H locs sl hL hR hS)
theorem w_irem {x y : Int32} (X : Ctx p R s m args meth c G me d) (hd : decode (byt me) pc = .ok (.irem, 1)) (hy : ¬ y = 0) (kk : WW p l e R s m args below meth c G me Q n0 w0 (pc + 1) ls (.int (irm x y) :: st) M) : WW p l e R s m args below meth c G me Q n0 w0 pc ls (.int y :: .int x :: st) M :=
  fun H locs sl hL hR hS => lv_irem X.1 X.2.1 hd hy (kk H locs sl hL hR hS)
theorem w_iushr {x y : Int32} (X : Ctx p R s m args meth c G me d) (hd : decode (byt me) pc = .ok (.iushr, 1)) (kk : WW p l e R s m args below meth c G me Q n0 w0 (pc + 1) ls (.int ((x.toUInt32 >>> (y.toUInt32 &&& Int32.toUInt32 31)).toInt32) :: st) M) : WW p l e R s m args below meth c G me Q n0 w0 pc ls (.int y :: .int x :: st) M :=
  fun H locs sl hL hR hS => lv_iushr X.1 X.2.1 hd rfl (kk H locs sl hL hR hS)
theorem w_ineg {x : Int32} (X : Ctx p R s m args meth c G me d) (hd : decode (byt me) pc = .ok (.ineg, 1)) (kk : WW p l e R s m args below meth c G me Q n0 w0 (pc + 1) ls (.int (-x) :: st) M) : WW p l e R s m args below meth c G me Q n0 w0 pc ls (.int x :: st) M :=
  fun H locs sl hL hR hS => lv_ineg X.1 X.2.1 hd (kk H locs sl hL hR hS)
theorem w_ladd {x y : Int64} (X : Ctx p R s m args meth c G me d) (hd : decode (byt me) pc = .ok (.ladd, 1)) (kk : WW p l e R s m args below meth c G me Q n0 w0 (pc + 1) ls (.long (x + y) :: st) M) : WW p l e R s m args below meth c G me Q n0 w0 pc ls (.long y :: .long x :: st) M :=
  fun H locs sl hL hR hS => lv_ladd X.1 X.2.1 hd (kk H locs sl hL hR hS)
theorem w_lsub {x y : Int64} (X : Ctx p R s m args meth c G me d) (hd : decode (byt me) pc = .ok (.lsub, 1)) (kk : WW p l e R s m args below meth c G me Q n0 w0 (pc + 1) ls (.long (x - y) :: st) M) : WW p l e R s m args below meth c G me Q n0 w0 pc ls (.long y :: .long x :: st) M :=
  fun H locs sl hL hR hS => lv_lsub X.1 X.2.1 hd (kk H locs sl hL hR hS)
theorem w_lmul {x y : Int64} (X : Ctx p R s m args meth c G me d) (hd : decode (byt me) pc = .ok (.lmul, 1)) (kk : WW p l e R s m args below meth c G me Q n0 w0 (pc + 1) ls (.long (x * y) :: st) M) : WW p l e R s m args below meth c G me Q n0 w0 pc ls (.long y :: .long x :: st) M :=
  fun H locs sl hL hR hS => lv_lmul X.1 X.2.1 hd (kk H locs sl hL hR hS)
theorem w_land {x y : Int64} (X : Ctx p R s m args meth c G me d) (hd : decode (byt me) pc = .ok (.land, 1)) (kk : WW p l e R s m args below meth c G me Q n0 w0 (pc + 1) ls (.long (x &&& y) :: st) M) : WW p l e R s m args below meth c G me Q n0 w0 pc ls (.long y :: .long x :: st) M :=
  fun H locs sl hL hR hS => lv_land X.1 X.2.1 hd (kk H locs sl hL hR hS)
theorem w_lor {x y : Int64} (X : Ctx p R s m args meth c G me d) (hd : decode (byt me) pc = .ok (.lor, 1)) (kk : WW p l e R s m args below meth c G me Q n0 w0 (pc + 1) ls (.long (x ||| y) :: st) M) : WW p l e R s m args below meth c G me Q n0 w0 pc ls (.long y :: .long x :: st) M :=
  fun H locs sl hL hR hS => lv_lor X.1 X.2.1 hd (kk H locs sl hL hR hS)
theorem w_lshl {x : Int64} {y : Int32} (X : Ctx p R s m args meth c G me d) (hd : decode (byt me) pc = .ok (.lshl, 1)) (kk : WW p l e R s m args below meth c G me Q n0 w0 (pc + 1) ls (.long (x <<< (y.toInt64 &&& 63)) :: st) M) : WW p l e R s m args below meth c G me Q n0 w0 pc ls (.int y :: .long x :: st) M :=
  fun H locs sl hL hR hS => lv_lshl X.1 X.2.1 hd rfl (kk H locs sl hL hR hS)
theorem w_lshr {x : Int64} {y : Int32} (X : Ctx p R s m args meth c G me d) (hd : decode (byt me) pc = .ok (.lshr, 1)) (kk : WW p l e R s m args below meth c G me Q n0 w0 (pc + 1) ls (.long (x >>> (y.toInt64 &&& 63)) :: st) M) : WW p l e R s m args below meth c G me Q n0 w0 pc ls (.int y :: .long x :: st) M :=
  fun H locs sl hL hR hS => lv_lshr X.1 X.2.1 hd rfl (kk H locs sl hL hR hS)
theorem w_lcmp {x y : Int64} (X : Ctx p R s m args meth c G me d) (hd : decode (byt me) pc = .ok (.lcmp, 1)) (kk : WW p l e R s m args below meth c G me Q n0 w0 (pc + 1) ls (.int (lg_cmp x y) :: st) M) : WW p l e R s m args below meth c G me Q n0 w0 pc ls (.long y :: .long x :: st) M :=
  fun H locs sl hL hR hS => W.lcmp X.1 X.2.1 hd (kk H locs sl hL hR hS)
theorem w_i2l {x : Int32} (X : Ctx p R s m args meth c G me d) (hd : decode (byt me) pc = .ok (.i2l, 1)) (kk : WW p l e R s m args below meth c G me Q n0 w0 (pc + 1) ls (.long x.toInt64 :: st) M) : WW p l e R s m args below meth c G me Q n0 w0 pc ls (.int x :: st) M :=
  fun H locs sl hL hR hS => lv_i2l X.1 X.2.1 hd rfl (kk H locs sl hL hR hS)
theorem w_l2i {x : Int64} (X : Ctx p R s m args meth c G me d) (hd : decode (byt me) pc = .ok (.l2i, 1)) (kk : WW p l e R s m args below meth c G me Q n0 w0 (pc + 1) ls (.int x.toInt32 :: st) M) : WW p l e R s m args below meth c G me Q n0 w0 pc ls (.long x :: st) M :=
  fun H locs sl hL hR hS => lv_l2i X.1 X.2.1 hd rfl (kk H locs sl hL hR hS)
theorem w_i2b {x : Int32} (X : Ctx p R s m args meth c G me d) (hd : decode (byt me) pc = .ok (.i2b, 1)) (kk : WW p l e R s m args below meth c G me Q n0 w0 (pc + 1) ls (.int x.toInt8.toInt32 :: st) M) : WW p l e R s m args below meth c G me Q n0 w0 pc ls (.int x :: st) M :=
  fun H locs sl hL hR hS => lv_i2b X.1 X.2.1 hd rfl (kk H locs sl hL hR hS)
theorem w_i2s {x : Int32} (X : Ctx p R s m args meth c G me d) (hd : decode (byt me) pc = .ok (.i2s, 1)) (kk : WW p l e R s m args below meth c G me Q n0 w0 (pc + 1) ls (.int x.toInt16.toInt32 :: st) M) : WW p l e R s m args below meth c G me Q n0 w0 pc ls (.int x :: st) M :=
  fun H locs sl hL hR hS => lv_i2s X.1 X.2.1 hd rfl (kk H locs sl hL hR hS)
theorem w_i2c {x : Int32} (X : Ctx p R s m args meth c G me d) (hd : decode (byt me) pc = .ok (.i2c, 1)) (kk : WW p l e R s m args below meth c G me Q n0 w0 (pc + 1) ls (.int (x.toUInt32 % 65536).toInt32 :: st) M) : WW p l e R s m args below meth c G me Q n0 w0 pc ls (.int x :: st) M :=
  fun H locs sl hL hR hS => lv_i2c X.1 X.2.1 hd rfl (kk H locs sl hL hR hS)
theorem w1_cat {G : Wd} {v : Value} (h : w1 v = true) : (cv G v).category = 1 := by
  cases v with
  | int x => rfl
  | ref n => exact cat_rf _
  | _ => cases h
theorem w_dup {v : Value} (X : Ctx p R s m args meth c G me d) (hd : decode (byt me) pc = .ok (.dup, 1)) (hv : w1 v = true) (kk : WW p l e R s m args below meth c G me Q n0 w0 (pc + 1) ls (v :: v :: st) M) : WW p l e R s m args below meth c G me Q n0 w0 pc ls (v :: st) M :=
  fun H locs sl hL hR hS => lv_dup X.1 X.2.1 hd (w1_cat hv) (kk H locs sl hL hR hS)
theorem w_pop {v : Value} (X : Ctx p R s m args meth c G me d) (hd : decode (byt me) pc = .ok (.pop, 1)) (hv : w1 v = true) (kk : WW p l e R s m args below meth c G me Q n0 w0 (pc + 1) ls st M) : WW p l e R s m args below meth c G me Q n0 w0 pc ls (v :: st) M :=
  fun H locs sl hL hR hS => lv_pop X.1 X.2.1 hd (w1_cat hv) (kk H locs sl hL hR hS)
theorem w_dup_x1 {v u : Value} (X : Ctx p R s m args meth c G me d) (hd : decode (byt me) pc = .ok (.dup_x1, 1)) (hv : w1 v = true) (hu : w1 u = true) (kk : WW p l e R s m args below meth c G me Q n0 w0 (pc + 1) ls (v :: u :: v :: st) M) : WW p l e R s m args below meth c G me Q n0 w0 pc ls (v :: u :: st) M :=
  fun H locs sl hL hR hS => lv_dup_x1 X.1 X.2.1 hd (w1_cat hv) (w1_cat hu) (kk H locs sl hL hR hS)
theorem w_dup2 {v u : Value} (X : Ctx p R s m args meth c G me d) (hd : decode (byt me) pc = .ok (.dup2, 1)) (hv : w1 v = true) (hu : w1 u = true) (kk : WW p l e R s m args below meth c G me Q n0 w0 (pc + 1) ls (v :: u :: v :: u :: st) M) : WW p l e R s m args below meth c G me Q n0 w0 pc ls (v :: u :: st) M :=
  fun H locs sl hL hR hS => lv_dup2_11 X.1 X.2.1 hd (w1_cat hv) (w1_cat hu) (kk H locs sl hL hR hS)
theorem w_goto {off : Int} {t : Nat} (X : Ctx p R s m args meth c G me d) (hd : decode (byt me) pc = .ok (.goto off, 3)) (ht : (pc : Int) + off = (t : Int)) (kk : WW p l e R s m args below meth c G me Q n0 w0 t ls st M) : WW p l e R s m args below meth c G me Q n0 w0 pc ls st M :=
  fun H locs sl hL hR hS => lv_goto X.1 X.2.1 hd ht (kk H locs sl hL hR hS)
theorem le_of_nlt {x y : Int32} (h : ¬ x < y) : y ≤ x := Int32.not_lt.mp h
theorem nlt_of_le {x y : Int32} (h : y ≤ x) : ¬ x < y := Int32.not_lt.mpr h
theorem w_ifc {cd : Jvm.ClassFile.Cond} {x : Int32} {off : Int} {t : Nat} {A B : Rs M1} {r : Value × M1} (X : Ctx p R s m args meth c G me d) (hd : decode (byt me) pc = .ok (.ifCond cd off, 3)) (ht : (pc : Int) + off = (t : Int)) (h : br cd x 0 A B = some r) (kA : A = some r → WW p l e R s m args below meth c G me Q n0 w0 t ls st M) (kB : B = some r → WW p l e R s m args below meth c G me Q n0 w0 (pc + 3) ls st M) : WW p l e R s m args below meth c G me Q n0 w0 pc ls (.int x :: st) M := by
  intro H locs sl hL hR hS
  cases cd with
  | eq => exact lv_if_eq X.1 X.2.1 hd ht (fun hc => kA (by have h1 : (if x = 0 then A else B) = some r := h; rwa [if_pos hc] at h1) H locs sl hL hR hS) (fun hc => kB (by have h1 : (if x = 0 then A else B) = some r := h; rwa [if_neg hc] at h1) H locs sl hL hR hS)
  | ne => exact lv_if_ne X.1 X.2.1 hd ht (fun hc => kA (by have h1 : (if x = 0 then B else A) = some r := h; rwa [if_neg hc] at h1) H locs sl hL hR hS) (fun hc => kB (by have h1 : (if x = 0 then B else A) = some r := h; rwa [if_pos hc] at h1) H locs sl hL hR hS)
  | lt => exact lv_if_lt X.1 X.2.1 hd ht (fun hc => kA (by have h1 : (if x < 0 then A else B) = some r := h; rwa [if_pos hc] at h1) H locs sl hL hR hS) (fun hc => kB (by have h1 : (if x < 0 then A else B) = some r := h; rwa [if_neg hc] at h1) H locs sl hL hR hS)
  | ge => exact lv_if_ge X.1 X.2.1 hd ht (fun hc => kA (by have h1 : (if x < 0 then B else A) = some r := h; rwa [if_neg (nlt_of_le hc)] at h1) H locs sl hL hR hS) (fun hc => kB (by have h1 : (if x < 0 then B else A) = some r := h; rwa [if_pos (Int32.not_le.mp hc)] at h1) H locs sl hL hR hS)
  | gt => exact lv_if_gt X.1 X.2.1 hd ht (fun hc => kA (by have h1 : (if 0 < x then A else B) = some r := h; rwa [if_pos hc] at h1) H locs sl hL hR hS) (fun hc => kB (by have h1 : (if 0 < x then A else B) = some r := h; rwa [if_neg hc] at h1) H locs sl hL hR hS)
  | le => exact lv_if_le X.1 X.2.1 hd ht (fun hc => kA (by have h1 : (if 0 < x then B else A) = some r := h; rwa [if_neg (nlt_of_le hc)] at h1) H locs sl hL hR hS) (fun hc => kB (by have h1 : (if 0 < x then B else A) = some r := h; rwa [if_pos (Int32.not_le.mp hc)] at h1) H locs sl hL hR hS)
theorem w_icmp {cd : Jvm.ClassFile.Cond} {x y : Int32} {off : Int} {t : Nat} {A B : Rs M1} {r : Value × M1} (X : Ctx p R s m args meth c G me d) (hd : decode (byt me) pc = .ok (.if_icmp cd off, 3)) (ht : (pc : Int) + off = (t : Int)) (h : br cd x y A B = some r) (kA : A = some r → WW p l e R s m args below meth c G me Q n0 w0 t ls st M) (kB : B = some r → WW p l e R s m args below meth c G me Q n0 w0 (pc + 3) ls st M) : WW p l e R s m args below meth c G me Q n0 w0 pc ls (.int y :: .int x :: st) M := by
  intro H locs sl hL hR hS
  cases cd with
  | eq => exact lv_icmp_eq X.1 X.2.1 hd ht (fun hc => kA (by have h1 : (if x = y then A else B) = some r := h; rwa [if_pos hc] at h1) H locs sl hL hR hS) (fun hc => kB (by have h1 : (if x = y then A else B) = some r := h; rwa [if_neg hc] at h1) H locs sl hL hR hS)
  | ne => exact lv_icmp_ne X.1 X.2.1 hd ht (fun hc => kA (by have h1 : (if x = y then B else A) = some r := h; rwa [if_neg hc] at h1) H locs sl hL hR hS) (fun hc => kB (by have h1 : (if x = y then B else A) = some r := h; rwa [if_pos hc] at h1) H locs sl hL hR hS)
  | lt => exact lv_icmp_lt X.1 X.2.1 hd ht (fun hc => kA (by have h1 : (if x < y then A else B) = some r := h; rwa [if_pos hc] at h1) H locs sl hL hR hS) (fun hc => kB (by have h1 : (if x < y then A else B) = some r := h; rwa [if_neg hc] at h1) H locs sl hL hR hS)
  | ge => exact lv_icmp_ge X.1 X.2.1 hd ht (fun hc => kA (by have h1 : (if x < y then B else A) = some r := h; rwa [if_neg (nlt_of_le hc)] at h1) H locs sl hL hR hS) (fun hc => kB (by have h1 : (if x < y then B else A) = some r := h; rwa [if_pos (Int32.not_le.mp hc)] at h1) H locs sl hL hR hS)
  | gt => exact lv_icmp_gt X.1 X.2.1 hd ht (fun hc => kA (by have h1 : (if y < x then A else B) = some r := h; rwa [if_pos hc] at h1) H locs sl hL hR hS) (fun hc => kB (by have h1 : (if y < x then A else B) = some r := h; rwa [if_neg hc] at h1) H locs sl hL hR hS)
  | le => exact lv_icmp_le X.1 X.2.1 hd ht (fun hc => kA (by have h1 : (if y < x then B else A) = some r := h; rwa [if_neg (nlt_of_le hc)] at h1) H locs sl hL hR hS) (fun hc => kB (by have h1 : (if y < x then B else A) = some r := h; rwa [if_pos (Int32.not_le.mp hc)] at h1) H locs sl hL hR hS)
end Steps1
