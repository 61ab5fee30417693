/-! CHECKS of the tables by the kernel, and what they give. -/
def yOf (me : MD) : MethodName := nmT.getD me.1 ⟨"", "", ""⟩
def byt (me : MD) : ByteArray := bytT.getD me.1 ⟨#[]⟩
def rty (me : MD) : Option FieldType := rtyT.getD me.1 none
def ownN (k : Nat) : String := ownT.getD k ""
def TB : List Cond := lw_tbl.filter goodWord
theorem inTB {i : Nat} {w : Cond} (h : lw_tbl[i]? = some w) (hg : goodWord w = true) : w ∈ TB := List.mem_filter.mpr ⟨List.mem_of_getElem? h, hg⟩
theorem TB_tbl {w : Cond} (h : w ∈ TB) : w ∈ lw_tbl := (List.mem_filter.mp h).1
theorem TB_good : GoodIn TB TB := fun w h => ⟨h, good_of_word (List.mem_filter.mp h).2⟩
def ckRows {α : Type} (T : List (List (Nat × α))) (ck : Nat → Nat → α → Bool) : Bool := (List.range T.length).all fun own => (T.getD own []).all fun e => ck own e.1 e.2
theorem lkN_mem {α : Type} {n : Nat} {v : α} : ∀ {l : List (Nat × α)}, lkN l n = some v → (n, v) ∈ l
  | [], h => by cases h
  | (k, x) :: r, h => by
    unfold lkN at h
    split at h
    · rename_i hb
      have hk : k = n := Nat.eq_of_beq_eq_true hb
      cases h
      rw [hk]
      exact List.mem_cons_self
    · exact List.mem_cons_of_mem _ (lkN_mem h)
theorem ckRows_spec {α : Type} {T : List (List (Nat × α))} {ck : Nat → Nat → α → Bool} (h : ckRows T ck = true) {own n : Nat} {v : α} (hl : lkN (T.getD own []) n = some v) : ck own n v = true := by
  have hm := lkN_mem hl
  by_cases ho : own < T.length
  · have h1 := List.all_eq_true.mp h own (List.mem_range.mpr ho)
    exact List.all_eq_true.mp h1 _ hm
  · rw [List.getD_eq_getElem?_getD, List.getElem?_eq_none (Nat.le_of_not_lt ho)] at hm
    cases hm
def ckTy (d : String) (cat : Nat) : Bool := match parseFieldDescriptor d with
  | some .int => Nat.beq cat 0
  | some .long => Nat.beq cat 1
  | some .boolean => Nat.beq cat 3
  | some (.object _) => Nat.beq cat 2
  | some (.array _) => Nat.beq cat 2
  | _ => false
def ckF (own n : Nat) (f : Nat × Nat × Nat × Bool × Nat) : Bool := match Nat.beq f.1 2 with
  | true => match Nat.beq f.2.1 0 with
    | true => Nat.beq f.2.2.1 5 && decide (lw_tbl[f.2.2.2.2]? = some (.fieldLink (ownN own) n "java/lang/String" "value" "[B"))
    | false => Nat.beq f.2.2.1 4 && decide (lw_tbl[f.2.2.2.2]? = some (.fieldLink (ownN own) n "java/lang/String" "coder" "B"))
  | false => match vwCl[f.1 - 10]? with
    | some r => Nat.ble 10 f.1 && (Nat.blt f.1 40 && (Nat.blt f.2.1 r.2.2 && (decide ((r.2.1 f.2.1).1 = r.1) && (decide (lw_tbl[f.2.2.2.2]? = some (.fieldLink (ownN own) n r.1 (r.2.1 f.2.1).2.1 (r.2.1 f.2.1).2.2.1)) && (decide ((r.2.1 f.2.1).2.2.2 = f.2.2.2.1) && (ckTy (r.2.1 f.2.1).2.2.1 f.2.2.1 && Nat.beq ((ftyT.getD (f.1 - 10) []).getD f.2.1 0) f.2.2.1))))))
    | none => false
set_option maxRecDepth 100000 in
set_option maxHeartbeats 4000000 in
theorem ckF_all : ckRows fresT ckF = true := by decide +kernel
def ckM (me : MD) : Bool := decide (lw_tbl[wcT.getD me.1 0]? = some (.code (yOf me) (byt me) me.2.2.2.1 (rty me))) && (plainFor (yOf me) && (decide (ownN me.2.1 = (yOf me).cls) && (Nat.ble me.2.2.2.1 41 && (decide (me.2.2.2.2.2 = true → (yOf me).name = "<init>") && (decide (lw_tbl[wiT.getD me.1 0]? = some (.initialized (yOf me).cls)) && (decide ((yOf me).cls ≠ "java/lang/invoke/MethodHandle" ∧ (yOf me).cls ≠ "java/lang/invoke/VarHandle") && (match rty me with
  | none => Nat.beq me.2.2.2.2.1 0
  | some .int => Nat.beq me.2.2.2.2.1 1
  | some .boolean => Nat.beq me.2.2.2.2.1 2
  | some .byte => Nat.beq me.2.2.2.2.1 3
  | some .char => Nat.beq me.2.2.2.2.1 4
  | some .long => Nat.beq me.2.2.2.2.1 6
  | some (.object _) => Nat.beq me.2.2.2.2.1 7
  | _ => false)))))))
def ckR (own n : Nat) (q : Nat × Nat × Nat × Nat × Nat) : Bool := Nat.blt 0 q.1 && (Nat.blt q.1 310 && (decide ((parseMethodDescriptor (nmT.getD q.1 ⟨"", "", ""⟩).desc).map (fun d => d.parameters.length) = some q.2.1) && ((match Nat.beq q.2.2.2.2 0 with
  | true => decide (lw_tbl[q.2.2.2.1]? = some (.methodLink (ownN own) n (nmT.getD q.1 ⟨"", "", ""⟩)))
  | false => decide (lw_tbl[q.2.2.2.1]? = some (.methodLinkNest (ownN own) n (nmT.getD q.1 ⟨"", "", ""⟩) "RoseWall"))) && (match Nat.beq q.2.2.1 0 with
  | true => decide (lw_tbl[wstT.getD q.1 0]? = some (.static (nmT.getD q.1 ⟨"", "", ""⟩)))
  | false => decide (lw_tbl[winT.getD q.1 0]? = some (.instanceMethod (nmT.getD q.1 ⟨"", "", ""⟩))) && ((match Nat.beq q.2.2.1 2 with
    | true => decide ((nmT.getD q.1 ⟨"", "", ""⟩).cls = "java/lang/String")
    | false => match vwCl[q.2.2.1 - 10]? with
      | some r => Nat.ble 10 q.2.2.1 && (Nat.blt q.2.2.1 40 && decide (r.1 = (nmT.getD q.1 ⟨"", "", ""⟩).cls))
      | none => false) && (decide ((nmT.getD q.1 ⟨"", "", ""⟩).name = "<init>") || decide (lw_tbl[wseT.getD q.1 0]? = some (.selects (nmT.getD q.1 ⟨"", "", ""⟩).cls (nmT.getD q.1 ⟨"", "", ""⟩) (nmT.getD q.1 ⟨"", "", ""⟩)))))))))
theorem all_app {α : Type} {f : α → Bool} {a b : List α} (ha : a.all f = true) (hb : b.all f = true) : (a ++ b).all f = true := by rw [List.all_append, ha, hb]; rfl
theorem ckRows_of {α : Type} {T : List (List (Nat × α))} {ck : Nat → Nat → α → Bool} {N : Nat} (hN : T.length = N) (h : ∀ own, own < N → (T.getD own []).all (fun e => ck own e.1 e.2) = true) : ckRows T ck = true := by
  subst hN
  exact List.all_eq_true.mpr (fun own ho => h own (List.mem_range.mp ho))
def arrN (k : Nat) : String := match k with
  | 44 => "RoseWall$Room"
  | 45 => "RoseWall$Moment"
  | _ => "RoseWall$Tray"
set_option maxRecDepth 100000 in
theorem ckO_all : ckRows oiniT (fun own n w => decide (lw_tbl[w]? = some (.methodLink (ownN own) n Lib.objectInit))) = true := by decide +kernel
set_option maxRecDepth 100000 in
theorem ckC_all : ckRows cresT (fun own n q => match vwCl[q.1]? with
  | some r => Nat.beq r.2.2 q.2.1 && (decide (lw_tbl[q.2.2.1]? = some (.classLink (ownN own) n r.1)) && (decide (lw_tbl[q.2.2.2.1]? = some (.instantiable r.1 r.2.2)) && decide (lw_tbl[q.2.2.2.2]? = some (.initialized r.1))))
  | none => false) = true := by decide +kernel
set_option maxRecDepth 100000 in
theorem ckA_all : ckRows anewT (fun own n q => Nat.ble 44 q.1 && (Nat.ble q.1 46 && (decide (lw_tbl[q.2.1]? = some (.classLink (ownN own) n (arrN q.1))) && decide (lw_tbl[q.2.2]? = some (.arrayOver (.object (arrN q.1))))))) = true := by decide +kernel
set_option maxRecDepth 100000 in
theorem ckKI_all : ckRows kintT (fun own n q => decide (lw_tbl[q.2]? = some (.constant (ownN own) n (Int32.ofInt q.1)))) = true := by decide +kernel
set_option maxRecDepth 100000 in
theorem ckKL_all : ckRows klongT (fun own n q => decide (lw_tbl[q.2]? = some (.constantLong (ownN own) n (Int64.ofInt q.1)))) = true := by decide +kernel
set_option maxRecDepth 100000 in
theorem ckG_all : ckRows gstT (fun own n q => match Nat.beq q.1 1 with
  | true => decide (lw_tbl[q.2]? = some (.fieldLink (ownN own) n "java/lang/String" "COMPACT_STRINGS" "Z"))
  | false => decide (lw_tbl[q.2]? = some (.fieldLink (ownN own) n "jdk/internal/util/Preconditions" "SIOOBE_FORMATTER" "Ljava/util/function/BiFunction;"))) = true := by decide +kernel
/-- the classes' own words -/
def lays (ci : Nat) : List Cond := match vwCl[ci]? with
  | some r => u_ws r.1 r.2.1 r.2.2
  | none => []
set_option maxRecDepth 100000 in
set_option maxHeartbeats 4000000 in
theorem ckL_all : (List.range 13).all (fun ci => (lays ci).all (fun w => decide (w ∈ lw_tbl) && goodWord w)) = true := by decide +kernel
def lenI : Jvm.ClassFile.Instr → Nat
  | .iload _ => 2
  | .aload _ => 2
  | .lload _ => 2
  | .istore _ => 2
  | .astore _ => 2
  | .lstore _ => 2
  | .bipush _ => 2
  | .ldc _ => 2
  | .newarray _ => 2
  | .iinc _ _ => 3
  | .sipush _ => 3
  | .ldc_w _ => 3
  | .ldc2_w _ => 3
  | .ifCond _ _ => 3
  | .if_icmp _ _ => 3
  | .if_acmp _ _ => 3
  | .ifnull _ => 3
  | .ifnonnull _ => 3
  | .goto _ => 3
  | .getfield _ => 3
  | .putfield _ => 3
  | .getstatic _ => 3
  | .new _ => 3
  | .anewarray _ => 3
  | .invokevirtual _ => 3
  | .invokestatic _ => 3
  | .invokespecial _ => 3
  | _ => 1
def i32 (z : Int) : Bool := decide (-2147483648 ≤ z) && decide (z ≤ 2147483647)
def wfI (pc : Nat) (i : Jvm.ClassFile.Instr) (len : Nat) : Bool := match i with
  | .bipush n => Nat.beq len 2 && decide ((Int8.ofInt n).toInt32 = Int32.ofInt n)
  | .sipush n => Nat.beq len 3 && decide ((Int16.ofInt n).toInt32 = Int32.ofInt n)
  | .ifCond _ o => Nat.beq len 3 && decide (0 ≤ (pc : Int) + o)
  | .if_icmp _ o => Nat.beq len 3 && decide (0 ≤ (pc : Int) + o)
  | .if_acmp _ o => Nat.beq len 3 && decide (0 ≤ (pc : Int) + o)
  | .ifnull o => Nat.beq len 3 && decide (0 ≤ (pc : Int) + o)
  | .ifnonnull o => Nat.beq len 3 && decide (0 ≤ (pc : Int) + o)
  | .goto o => Nat.beq len 3 && decide (0 ≤ (pc : Int) + o)
  | .tableswitch d lo hi offs => decide (0 ≤ (pc : Int) + d) && (offs.toList.all (fun o => decide (0 ≤ (pc : Int) + o)) && (i32 lo && (i32 hi && decide ((offs.toList.length : Int) = hi - lo + 1))))
  | .lookupswitch d ps => decide (0 ≤ (pc : Int) + d) && (ps.toList.all (fun q => i32 q.1 && decide (0 ≤ (pc : Int) + q.2)) && (ps.toList.zip (ps.toList.drop 1)).all (fun (a, next) => a.1 < next.1))
  | i => Nat.beq len (lenI i)
def ckD (b : ByteArray) (rows : List (Nat × Jvm.ClassFile.Instr × Nat)) : Bool := rows.all (fun q => decide (decode b q.1 = .ok q.2) && wfI q.1 q.2.1 q.2.2)
theorem ckD_app {b : ByteArray} {r1 r2 : List (Nat × Jvm.ClassFile.Instr × Nat)} (h1 : ckD b r1 = true) (h2 : ckD b r2 = true) : ckD b (r1 ++ r2) = true := by
  unfold ckD at *
  rw [List.all_append, h1, h2]
  rfl
theorem ckD_spec {b : ByteArray} {rows : List (Nat × Jvm.ClassFile.Instr × Nat)} (h : ckD b rows = true) {pc : Nat} {i : Jvm.ClassFile.Instr} {len : Nat} (hl : lkN rows pc = some (i, len)) : decode b pc = .ok (i, len) ∧ wfI pc i len = true := by
  have h1 := List.all_eq_true.mp h _ (lkN_mem hl)
  rw [Bool.and_eq_true] at h1
  exact ⟨of_decide_eq_true h1.1, h1.2⟩
