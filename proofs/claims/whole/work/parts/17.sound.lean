/-! THE INDUCTION over a run. -/
theorem arrTB_int : Cond.arrayClass .int ∈ TB := inTB (i := 194) (by decide +kernel) rfl
theorem arrTB_byte : Cond.arrayClass .byte ∈ TB := inTB (i := 193) (by decide +kernel) rfl
theorem arrTB_boolean : Cond.arrayClass .boolean ∈ TB := inTB (i := 1432) (by decide +kernel) rfl
theorem arrTB_long : Cond.arrayClass .long ∈ TB := inTB (i := 305) (by decide +kernel) rfl
section Snd
variable {p : Program} {l : Launch} {e : Env} {R : Room} {s : State} {m : MethodId} {args : Array Value} {below : List Frame} {meth : Method} {c : Code} {G : Wd} {me : MD} {Q : State → Prop} {n0 w0 d : Nat} {pc : Nat} {ls st : List Value} {M : M1}
def isRet : Jvm.ClassFile.Instr → Bool
  | .ireturn => true
  | .lreturn => true
  | .areturn => true
  | .return_ => true
  | _ => false
def Gw (M Mf : M1) : Prop := M.1 ≤ Mf.1 ∧ M.2.1 ≤ Mf.2.1
theorem w_acmp {cd : Jvm.ClassFile.ACond} {x y : Nat} {off : Int} {t : Nat} {A B : Rs M1} {r : Value × M1} (X : Ctx p R s m args meth c G me d) (hinj : adr G x = adr G y ↔ x = y) (hd : decode (byt me) pc = .ok (.if_acmp cd off, 3)) (ht : (pc : Int) + off = (t : Int)) (h : bra cd x y A B = some r) (kA : A = some r → WW p l e R s m args below meth c G me Q n0 w0 t ls st M) (kB : B = some r → WW p l e R s m args below meth c G me Q n0 w0 (pc + 3) ls st M) : WW p l e R s m args below meth c G me Q n0 w0 pc ls (.ref y :: .ref x :: st) M := by
  intro H locs sl hL hR hS
  rw [List.map_cons, List.map_cons]
  cases cd with
  | eq => exact lv_acmp_eq X.1 X.2.1 hd ht (fun hc => kA (by have h1 : (if x = y then A else B) = some r := h; rwa [if_pos (hinj.mp hc)] at h1) H locs sl hL hR hS) (fun hc => kB (by have h1 : (if x = y then A else B) = some r := h; rwa [if_neg (fun q => hc (hinj.mpr q))] at h1) H locs sl hL hR hS)
  | ne => exact lv_acmp_ne X.1 X.2.1 hd ht (fun hc => kA (by have h1 : (if x = y then B else A) = some r := h; rwa [if_neg (fun q => hc (hinj.mpr q))] at h1) H locs sl hL hR hS) (fun hc => kB (by have h1 : (if x = y then B else A) = some r := h; rwa [if_pos (hinj.mp (by simpa using hc))] at h1) H locs sl hL hR hS)
theorem adr_inj {x y : Nat} (hx : x = 0 ∨ 100 ≤ x) (hy : y = 0 ∨ 100 ≤ y) : adr G x = adr G y ↔ x = y := by
  constructor
  · intro h
    rcases hx with hx | hx <;> rcases hy with hy | hy
    · rw [hx, hy]
    · rw [hx, adr_ge hy] at h; exact absurd h (by simp [adr])
    · rw [hy, adr_ge hx] at h; exact absurd h (by simp [adr])
    · rw [adr_ge hx, adr_ge hy] at h
      exact ad_inj hx hy (Option.some.inj h)
  · intro h; rw [h]
theorem w_ifnull {x : Nat} {off : Int} {t : Nat} {A B : Rs M1} {r : Value × M1} (X : Ctx p R s m args meth c G me d) (hz : adr G x = none ↔ x = 0) (hd : decode (byt me) pc = .ok (.ifnull off, 3)) (ht : (pc : Int) + off = (t : Int)) (h : (if x = 0 then A else B) = some r) (kA : A = some r → WW p l e R s m args below meth c G me Q n0 w0 t ls st M) (kB : B = some r → WW p l e R s m args below meth c G me Q n0 w0 (pc + 3) ls st M) : WW p l e R s m args below meth c G me Q n0 w0 pc ls (.ref x :: st) M := by
  intro H locs sl hL hR hS
  rw [List.map_cons]
  show W _ _ _ _ _ _ _ _ _ _ _ _ _ _ _ (F0 m pc sl (va_rf (adr G x) :: st.map (cv G)))
  cases hx : adr G x with
  | none =>
    rw [if_pos (hz.mp hx)] at h
    exact lv_ifnullN X.1 X.2.1 hd ht (kA h H locs sl hL hR hS)
  | some a =>
    rw [if_neg (fun q => by rw [hz.mpr q] at hx; cases hx)] at h
    exact lv_ifnull X.1 X.2.1 hd (kB h H locs sl hL hR hS)
theorem w_ifnonnull {x : Nat} {off : Int} {t : Nat} {A B : Rs M1} {r : Value × M1} (X : Ctx p R s m args meth c G me d) (hz : adr G x = none ↔ x = 0) (hd : decode (byt me) pc = .ok (.ifnonnull off, 3)) (ht : (pc : Int) + off = (t : Int)) (h : (if x = 0 then B else A) = some r) (kA : A = some r → WW p l e R s m args below meth c G me Q n0 w0 t ls st M) (kB : B = some r → WW p l e R s m args below meth c G me Q n0 w0 (pc + 3) ls st M) : WW p l e R s m args below meth c G me Q n0 w0 pc ls (.ref x :: st) M := by
  intro H locs sl hL hR hS
  rw [List.map_cons]
  show W _ _ _ _ _ _ _ _ _ _ _ _ _ _ _ (F0 m pc sl (va_rf (adr G x) :: st.map (cv G)))
  cases hx : adr G x with
  | none =>
    rw [if_pos (hz.mp hx)] at h
    exact lv_ifnonnullN X.1 X.2.1 hd (kB h H locs sl hL hR hS)
  | some a =>
    rw [if_neg (fun q => by rw [hz.mpr q] at hx; cases hx)] at h
    exact lv_ifnonnull X.1 X.2.1 hd ht (kA h H locs sl hL hR hS)
theorem w_objI {k : Nat} {a : Nat} (X : Ctx p R s m args meth c G me d) (hd : decode (byt me) pc = .ok (.invokespecial k, 3)) (ho : oini me.2.1 k = true) (h100 : adr G a ≠ none) (hcat : catS st ≤ 8) (kk : WW p l e R s m args below meth c G me Q n0 w0 (pc + 3) ls st M) : WW p l e R s m args below meth c G me Q n0 w0 pc ls (.ref a :: st) M := by
  intro H locs sl hL hR hS
  have hts := X.2.2.2.2.1
  unfold oini at ho
  obtain ⟨q, hq1, hq2⟩ := List.any_eq_true.mp ho
  have hk : q.1 = k := Nat.eq_of_beq_eq_true hq2
  have hrow : (fun own n w => decide (lw_tbl[w]? = some (.methodLink (ownN own) n Lib.objectInit))) me.2.1 q.1 q.2 = true := by
    by_cases hl : me.2.1 < oiniT.length
    · exact List.all_eq_true.mp (List.all_eq_true.mp ckO_all _ (List.mem_range.mpr hl)) _ hq1
    · rw [List.getD_eq_getElem?_getD, List.getElem?_eq_none (Nat.le_of_not_lt hl)] at hq1
      cases hq1
  have hlink := of_decide_eq_true hrow
  rw [hk] at hlink
  have hoi : Cond.instanceMethod Lib.objectInit ∈ TB ∧ Cond.code Lib.objectInit ⟨#[0xb1]⟩ 1 none ∈ TB := ⟨inTB (i := 140) (by decide +kernel) rfl, inTB (i := 141) (by decide +kernel) rfl⟩
  rw [List.map_cons]
  show W _ _ _ _ _ _ _ _ _ _ _ _ _ _ _ (F0 m pc sl (va_rf (adr G a) :: st.map (cv G)))
  cases hx : adr G a with
  | none => exact absurd hx h100
  | some b =>
    exact W.objInit X.1 X.2.1 X.2.2.2.1 (hts _ (inTB hlink rfl)) (hts _ hoi.1) (hts _ hoi.2) rfl (by rw [X.2.2.1]; exact hL.1) rfl hd (by have := X.2.2.2.2.2.2.2.2.1; omega) (by
      have h1 := lv_room (m := m) (pc := pc) (ls := sl) (rest := []) (st := st.map (cv G)) (by rw [catS_cv]; exact hcat)
      have h2 := X.2.2.2.2.2.2.2.2.2.1
      have h3 : 2 * (F0 m pc sl (va_rf (some b) :: st.map (cv G))).monitorRoom = 2 * (F0 m pc sl ([] : List Value)).monitorRoom := rfl
      omega) (kk H locs sl hL hR hS)

theorem fres_cat2 {own n : Nat} {f : Nat × Nat × Nat × Bool × Nat} (hf : fres own n = some f) (h2 : f.1 = 2) : f.2.2.1 = 4 ∨ f.2.2.1 = 5 := by
  have hc := ckRows_spec ckF_all hf
  unfold ckF at hc
  rw [h2, show Nat.beq 2 2 = true from rfl] at hc
  dsimp only at hc
  cases hb : Nat.beq f.2.1 0 with
  | true => rw [hb] at hc; simp only [Bool.and_eq_true] at hc; exact Or.inr (Nat.eq_of_beq_eq_true hc.1)
  | false => rw [hb] at hc; simp only [Bool.and_eq_true] at hc; exact Or.inl (Nat.eq_of_beq_eq_true hc.1)
theorem cat_lt {own n : Nat} {f : Nat × Nat × Nat × Bool × Nat} (hf : fres own n = some f) (h2 : f.1 ≠ 2) : f.2.2.1 < 4 := by
  obtain ⟨r, -, -, -, -, -, -, -, q8, -⟩ := fres_spec hf h2
  obtain ⟨ty, -, h⟩ := ckTy_spec q8
  rcases h with ⟨-, h⟩ | ⟨-, h⟩ | ⟨-, h⟩ | ⟨-, h⟩ | ⟨-, h⟩ <;> omega
theorem hV_i {a ci j cat : Nat} {v : Int32} (hc : (ftyT.getD ci []).getD j 0 = cat) (h1 : cat ≠ 1) (h2 : cat ≠ 2) : ∀ k, fV G (i1 M a j v) a ci k = updV (fV G M a ci) j (.int v) k := by
  intro k
  unfold updV
  by_cases hk : k = j
  · rw [if_pos hk, hk]
    unfold fV
    rw [hc]
    split
    · exact absurd rfl h1
    · exact absurd rfl h2
    · show Value.int (up2 _ a j v a j) = _
      rw [up2_self, if_pos rfl]
  · rw [if_neg hk]
    unfold fV
    have e : (i1 M a j v).2.2.1 a k = M.2.2.1 a k := by show up2 _ _ _ _ a k = _; rw [up2_self, if_neg hk]
    rw [e]
    rfl
theorem hV_l {a ci j : Nat} {v : Int64} (hc : (ftyT.getD ci []).getD j 0 = 1) : ∀ k, fV G (l1 M a j v) a ci k = updV (fV G M a ci) j (.long v) k := by
  intro k
  unfold updV
  by_cases hk : k = j
  · rw [if_pos hk, hk]
    unfold fV
    rw [hc]
    show Value.long (up2 _ a j v a j) = _
    rw [up2_self, if_pos rfl]
  · rw [if_neg hk]
    unfold fV
    have e : (l1 M a j v).2.2.2.1 a k = M.2.2.2.1 a k := by show up2 _ _ _ _ a k = _; rw [up2_self, if_neg hk]
    rw [e]
    rfl
theorem hV_r {a ci j v : Nat} (hc : (ftyT.getD ci []).getD j 0 = 2) : ∀ k, fV G (r1 M a j v) a ci k = updV (fV G M a ci) j (cv G (.ref v)) k := by
  intro k
  unfold updV
  by_cases hk : k = j
  · rw [if_pos hk, hk]
    unfold fV
    rw [hc]
    show va_rf (adr G (up2 _ a j v a j)) = _
    rw [up2_self, if_pos rfl]
    rfl
  · rw [if_neg hk]
    unfold fV
    have e : (r1 M a j v).2.2.2.2 a k = M.2.2.2.2 a k := by show up2 _ _ _ _ a k = _; rw [up2_self, if_neg hk]
    rw [e]
    rfl
theorem ret1_mem {st : List Value} {M Mf : M1} {r : Value} (h : ret1 me st M = some (r, Mf)) : Mf = M := by
  unfold ret1 at h
  repeat' split at h
  all_goals first | (cases h; rfl) | (obtain ⟨-, h⟩ := gb_some h; cases h; rfl) | cases h
set_option maxHeartbeats 4000000 in
theorem snd_ins {r : Value} {Mf : M1} (X : Ctx p R s m args meth c G me d) (hm : me ∈ mds) (hA : AllMet l G d) (hRc : Mf.1 - n0 ≤ R.cells) (hRs : Mf.2.1 - w0 ≤ R.slots)
    (hret : ∀ (pc : Nat) (ls st : List Value) (i : Jvm.ClassFile.Instr), decode (byt me) pc = .ok (i, 1) → isRet i = true → (∀ C : Cont M1, ins O1 (cl O1 d) C me pc (pc + 1) ls st Mf i = some (r, Mf)) → WW p l e R s m args below meth c G me Q n0 w0 pc ls st Mf)
    {C : Cont M1} (IH : ∀ (pc : Nat) (ls st : List Value) (M : M1), n0 ≤ M.1 → w0 ≤ M.2.1 → C pc ls st M = some (r, Mf) → Gw M Mf ∧ WW p l e R s m args below meth c G me Q n0 w0 pc ls st M)
    {pc : Nat} {ls st : List Value} {M : M1} (h0 : n0 ≤ M.1) (h1 : w0 ≤ M.2.1) {i : Jvm.ClassFile.Instr} {len : Nat} (hl : lkN me.2.2.1 pc = some (i, len)) (hd : decode (byt me) pc = .ok (i, len)) (hwf : wfI pc i len = true) (h : ins O1 (cl O1 d) C me pc (pc + len) ls st M i = some (r, Mf)) : Gw M Mf ∧ WW p l e R s m args below meth c G me Q n0 w0 pc ls st M := by
  cases i
  case iload_n kk =>
    have hlen : len = 1 := Nat.eq_of_beq_eq_true hwf
    subst hlen
    obtain ⟨x, hx, h⟩ := inv_ldI h
    obtain ⟨g, k⟩ := IH _ _ _ _ h0 h1 h
    exact ⟨g, w_iload_n X hd hx k⟩
  case iload kk =>
    have hlen : len = 2 := Nat.eq_of_beq_eq_true hwf
    subst hlen
    obtain ⟨x, hx, h⟩ := inv_ldI h
    obtain ⟨g, k⟩ := IH _ _ _ _ h0 h1 h
    exact ⟨g, w_iload X hd hx k⟩
  case aload_n kk =>
    have hlen : len = 1 := Nat.eq_of_beq_eq_true hwf
    subst hlen
    obtain ⟨x, hx, h⟩ := inv_ldA h
    obtain ⟨g, k⟩ := IH _ _ _ _ h0 h1 h
    exact ⟨g, w_aload_n X hd hx k⟩
  case aload kk =>
    have hlen : len = 2 := Nat.eq_of_beq_eq_true hwf
    subst hlen
    obtain ⟨x, hx, h⟩ := inv_ldA h
    obtain ⟨g, k⟩ := IH _ _ _ _ h0 h1 h
    exact ⟨g, w_aload X hd hx k⟩
  case lload_n kk =>
    have hlen : len = 1 := Nat.eq_of_beq_eq_true hwf
    subst hlen
    obtain ⟨x, hx, hx2, h⟩ := inv_ldL h
    obtain ⟨g, k⟩ := IH _ _ _ _ h0 h1 h
    exact ⟨g, w_lload_n X hd hx hx2 k⟩
  case lload kk =>
    have hlen : len = 2 := Nat.eq_of_beq_eq_true hwf
    subst hlen
    obtain ⟨x, hx, hx2, h⟩ := inv_ldL h
    obtain ⟨g, k⟩ := IH _ _ _ _ h0 h1 h
    exact ⟨g, w_lload X hd hx hx2 k⟩
  case istore_n kk =>
    have hlen : len = 1 := Nat.eq_of_beq_eq_true hwf
    subst hlen
    obtain ⟨x, rest, eq0, hh⟩ := inv_u1 h
    clear h
    subst eq0
    have h := hh
    clear hh
    obtain ⟨hb, h⟩ := gb_some h
    obtain ⟨g, k⟩ := IH _ _ _ _ h0 h1 h
    exact ⟨g, w_istore_n X hd (blt_lt hb) k⟩
  case istore kk =>
    have hlen : len = 2 := Nat.eq_of_beq_eq_true hwf
    subst hlen
    obtain ⟨x, rest, eq0, hh⟩ := inv_u1 h
    clear h
    subst eq0
    have h := hh
    clear hh
    obtain ⟨hb, h⟩ := gb_some h
    obtain ⟨g, k⟩ := IH _ _ _ _ h0 h1 h
    exact ⟨g, w_istore X hd (blt_lt hb) k⟩
  case astore_n kk =>
    have hlen : len = 1 := Nat.eq_of_beq_eq_true hwf
    subst hlen
    obtain ⟨x, rest, eq0, hh⟩ := inv_ua h
    clear h
    subst eq0
    have h := hh
    clear hh
    obtain ⟨hb, h⟩ := gb_some h
    obtain ⟨g, k⟩ := IH _ _ _ _ h0 h1 h
    exact ⟨g, w_astore_n X hd (blt_lt hb) k⟩
  case astore kk =>
    have hlen : len = 2 := Nat.eq_of_beq_eq_true hwf
    subst hlen
    obtain ⟨x, rest, eq0, hh⟩ := inv_ua h
    clear h
    subst eq0
    have h := hh
    clear hh
    obtain ⟨hb, h⟩ := gb_some h
    obtain ⟨g, k⟩ := IH _ _ _ _ h0 h1 h
    exact ⟨g, w_astore X hd (blt_lt hb) k⟩
  case lstore_n kk =>
    have hlen : len = 1 := Nat.eq_of_beq_eq_true hwf
    subst hlen
    obtain ⟨x, rest, eq0, hh⟩ := inv_ul h
    clear h
    subst eq0
    have h := hh
    clear hh
    obtain ⟨hb, h⟩ := gb_some h
    obtain ⟨g, k⟩ := IH _ _ _ _ h0 h1 h
    exact ⟨g, w_lstore_n X hd (blt_lt hb) k⟩
  case lstore kk =>
    have hlen : len = 2 := Nat.eq_of_beq_eq_true hwf
    subst hlen
    obtain ⟨x, rest, eq0, hh⟩ := inv_ul h
    clear h
    subst eq0
    have h := hh
    clear hh
    obtain ⟨hb, h⟩ := gb_some h
    obtain ⟨g, k⟩ := IH _ _ _ _ h0 h1 h
    exact ⟨g, w_lstore X hd (blt_lt hb) k⟩
  case iinc kk n =>
    have hlen : len = 3 := Nat.eq_of_beq_eq_true hwf
    subst hlen
    obtain ⟨x, hx, h⟩ := inv_ldI h
    obtain ⟨hb, h⟩ := gb_some h
    obtain ⟨g, k⟩ := IH _ _ _ _ h0 h1 h
    exact ⟨g, w_iinc X hd hx (blt_lt hb) k⟩
  case iconst n =>
    have hlen : len = 1 := Nat.eq_of_beq_eq_true hwf
    subst hlen
    obtain ⟨g, k⟩ := IH _ _ _ _ h0 h1 h
    exact ⟨g, w_iconst X hd k⟩
  case lconst n =>
    have hlen : len = 1 := Nat.eq_of_beq_eq_true hwf
    subst hlen
    obtain ⟨g, k⟩ := IH _ _ _ _ h0 h1 h
    exact ⟨g, w_lconst X hd k⟩
  case bipush n =>
    obtain ⟨q1, q2⟩ := Bool.and_eq_true_iff.mp hwf
    have hlen : len = 2 := Nat.eq_of_beq_eq_true q1
    subst hlen
    obtain ⟨g, k⟩ := IH _ _ _ _ h0 h1 h
    exact ⟨g, w_bipush X hd (of_decide_eq_true q2) k⟩
  case sipush n =>
    obtain ⟨q1, q2⟩ := Bool.and_eq_true_iff.mp hwf
    have hlen : len = 3 := Nat.eq_of_beq_eq_true q1
    subst hlen
    obtain ⟨g, k⟩ := IH _ _ _ _ h0 h1 h
    exact ⟨g, w_sipush X hd (of_decide_eq_true q2) k⟩
  case iadd =>
    have hlen : len = 1 := Nat.eq_of_beq_eq_true hwf
    subst hlen
    obtain ⟨x, y, rest, eq0, hh⟩ := inv_b2 h
    clear h
    subst eq0
    have h := hh
    clear hh
    obtain ⟨g, k⟩ := IH _ _ _ _ h0 h1 h
    exact ⟨g, w_iadd X hd k⟩
  case isub =>
    have hlen : len = 1 := Nat.eq_of_beq_eq_true hwf
    subst hlen
    obtain ⟨x, y, rest, eq0, hh⟩ := inv_b2 h
    clear h
    subst eq0
    have h := hh
    clear hh
    obtain ⟨g, k⟩ := IH _ _ _ _ h0 h1 h
    exact ⟨g, w_isub X hd k⟩
  case imul =>
    have hlen : len = 1 := Nat.eq_of_beq_eq_true hwf
    subst hlen
    obtain ⟨x, y, rest, eq0, hh⟩ := inv_b2 h
    clear h
    subst eq0
    have h := hh
    clear hh
    obtain ⟨g, k⟩ := IH _ _ _ _ h0 h1 h
    exact ⟨g, w_imul X hd k⟩
  case iand =>
    have hlen : len = 1 := Nat.eq_of_beq_eq_true hwf
    subst hlen
    obtain ⟨x, y, rest, eq0, hh⟩ := inv_b2 h
    clear h
    subst eq0
    have h := hh
    clear hh
    obtain ⟨g, k⟩ := IH _ _ _ _ h0 h1 h
    exact ⟨g, w_iand X hd k⟩
  case ior =>
    have hlen : len = 1 := Nat.eq_of_beq_eq_true hwf
    subst hlen
    obtain ⟨x, y, rest, eq0, hh⟩ := inv_b2 h
    clear h
    subst eq0
    have h := hh
    clear hh
    obtain ⟨g, k⟩ := IH _ _ _ _ h0 h1 h
    exact ⟨g, w_ior X hd k⟩
  case ixor =>
    have hlen : len = 1 := Nat.eq_of_beq_eq_true hwf
    subst hlen
    obtain ⟨x, y, rest, eq0, hh⟩ := inv_b2 h
    clear h
    subst eq0
    have h := hh
    clear hh
    obtain ⟨g, k⟩ := IH _ _ _ _ h0 h1 h
    exact ⟨g, w_ixor X hd k⟩
  case ishl =>
    have hlen : len = 1 := Nat.eq_of_beq_eq_true hwf
    subst hlen
    obtain ⟨x, y, rest, eq0, hh⟩ := inv_b2 h
    clear h
    subst eq0
    have h := hh
    clear hh
    obtain ⟨g, k⟩ := IH _ _ _ _ h0 h1 h
    exact ⟨g, w_ishl X hd k⟩
  case ishr =>
    have hlen : len = 1 := Nat.eq_of_beq_eq_true hwf
    subst hlen
    obtain ⟨x, y, rest, eq0, hh⟩ := inv_b2 h
    clear h
    subst eq0
    have h := hh
    clear hh
    obtain ⟨g, k⟩ := IH _ _ _ _ h0 h1 h
    exact ⟨g, w_ishr X hd k⟩
  case iushr =>
    have hlen : len = 1 := Nat.eq_of_beq_eq_true hwf
    subst hlen
    obtain ⟨x, y, rest, eq0, hh⟩ := inv_b2 h
    clear h
    subst eq0
    have h := hh
    clear hh
    obtain ⟨g, k⟩ := IH _ _ _ _ h0 h1 h
    exact ⟨g, w_iushr X hd k⟩
  case idiv =>
    have hlen : len = 1 := Nat.eq_of_beq_eq_true hwf
    subst hlen
    obtain ⟨x, y, rest, eq0, hh⟩ := inv_b2 h
    clear h
    subst eq0
    have h := hh
    clear hh
    obtain ⟨hb, h⟩ := gb_some h
    obtain ⟨g, k⟩ := IH _ _ _ _ h0 h1 h
    exact ⟨g, w_idiv X hd (by simpa using hb) k⟩
  case irem =>
    have hlen : len = 1 := Nat.eq_of_beq_eq_true hwf
    subst hlen
    obtain ⟨x, y, rest, eq0, hh⟩ := inv_b2 h
    clear h
    subst eq0
    have h := hh
    clear hh
    obtain ⟨hb, h⟩ := gb_some h
    obtain ⟨g, k⟩ := IH _ _ _ _ h0 h1 h
    exact ⟨g, w_irem X hd (by simpa using hb) k⟩
  case ladd =>
    have hlen : len = 1 := Nat.eq_of_beq_eq_true hwf
    subst hlen
    obtain ⟨x, y, rest, eq0, hh⟩ := inv_bl h
    clear h
    subst eq0
    have h := hh
    clear hh
    obtain ⟨g, k⟩ := IH _ _ _ _ h0 h1 h
    exact ⟨g, w_ladd X hd k⟩
  case lsub =>
    have hlen : len = 1 := Nat.eq_of_beq_eq_true hwf
    subst hlen
    obtain ⟨x, y, rest, eq0, hh⟩ := inv_bl h
    clear h
    subst eq0
    have h := hh
    clear hh
    obtain ⟨g, k⟩ := IH _ _ _ _ h0 h1 h
    exact ⟨g, w_lsub X hd k⟩
  case lmul =>
    have hlen : len = 1 := Nat.eq_of_beq_eq_true hwf
    subst hlen
    obtain ⟨x, y, rest, eq0, hh⟩ := inv_bl h
    clear h
    subst eq0
    have h := hh
    clear hh
    obtain ⟨g, k⟩ := IH _ _ _ _ h0 h1 h
    exact ⟨g, w_lmul X hd k⟩
  case land =>
    have hlen : len = 1 := Nat.eq_of_beq_eq_true hwf
    subst hlen
    obtain ⟨x, y, rest, eq0, hh⟩ := inv_bl h
    clear h
    subst eq0
    have h := hh
    clear hh
    obtain ⟨g, k⟩ := IH _ _ _ _ h0 h1 h
    exact ⟨g, w_land X hd k⟩
  case lor =>
    have hlen : len = 1 := Nat.eq_of_beq_eq_true hwf
    subst hlen
    obtain ⟨x, y, rest, eq0, hh⟩ := inv_bl h
    clear h
    subst eq0
    have h := hh
    clear hh
    obtain ⟨g, k⟩ := IH _ _ _ _ h0 h1 h
    exact ⟨g, w_lor X hd k⟩
  case lcmp =>
    have hlen : len = 1 := Nat.eq_of_beq_eq_true hwf
    subst hlen
    obtain ⟨x, y, rest, eq0, hh⟩ := inv_bl h
    clear h
    subst eq0
    have h := hh
    clear hh
    obtain ⟨g, k⟩ := IH _ _ _ _ h0 h1 h
    exact ⟨g, w_lcmp X hd k⟩
  case lshl =>
    have hlen : len = 1 := Nat.eq_of_beq_eq_true hwf
    subst hlen
    obtain ⟨x, y, rest, eq0, hh⟩ := inv_li h
    clear h
    subst eq0
    have h := hh
    clear hh
    obtain ⟨g, k⟩ := IH _ _ _ _ h0 h1 h
    exact ⟨g, w_lshl X hd k⟩
  case lshr =>
    have hlen : len = 1 := Nat.eq_of_beq_eq_true hwf
    subst hlen
    obtain ⟨x, y, rest, eq0, hh⟩ := inv_li h
    clear h
    subst eq0
    have h := hh
    clear hh
    obtain ⟨g, k⟩ := IH _ _ _ _ h0 h1 h
    exact ⟨g, w_lshr X hd k⟩
  case ineg =>
    have hlen : len = 1 := Nat.eq_of_beq_eq_true hwf
    subst hlen
    obtain ⟨x, rest, eq0, hh⟩ := inv_u1 h
    clear h
    subst eq0
    have h := hh
    clear hh
    obtain ⟨g, k⟩ := IH _ _ _ _ h0 h1 h
    exact ⟨g, w_ineg X hd k⟩
  case i2l =>
    have hlen : len = 1 := Nat.eq_of_beq_eq_true hwf
    subst hlen
    obtain ⟨x, rest, eq0, hh⟩ := inv_u1 h
    clear h
    subst eq0
    have h := hh
    clear hh
    obtain ⟨g, k⟩ := IH _ _ _ _ h0 h1 h
    exact ⟨g, w_i2l X hd k⟩
  case i2b =>
    have hlen : len = 1 := Nat.eq_of_beq_eq_true hwf
    subst hlen
    obtain ⟨x, rest, eq0, hh⟩ := inv_u1 h
    clear h
    subst eq0
    have h := hh
    clear hh
    obtain ⟨g, k⟩ := IH _ _ _ _ h0 h1 h
    exact ⟨g, w_i2b X hd k⟩
  case i2s =>
    have hlen : len = 1 := Nat.eq_of_beq_eq_true hwf
    subst hlen
    obtain ⟨x, rest, eq0, hh⟩ := inv_u1 h
    clear h
    subst eq0
    have h := hh
    clear hh
    obtain ⟨g, k⟩ := IH _ _ _ _ h0 h1 h
    exact ⟨g, w_i2s X hd k⟩
  case i2c =>
    have hlen : len = 1 := Nat.eq_of_beq_eq_true hwf
    subst hlen
    obtain ⟨x, rest, eq0, hh⟩ := inv_u1 h
    clear h
    subst eq0
    have h := hh
    clear hh
    obtain ⟨g, k⟩ := IH _ _ _ _ h0 h1 h
    exact ⟨g, w_i2c X hd k⟩
  case l2i =>
    have hlen : len = 1 := Nat.eq_of_beq_eq_true hwf
    subst hlen
    obtain ⟨x, rest, eq0, hh⟩ := inv_ul h
    clear h
    subst eq0
    have h := hh
    clear hh
    obtain ⟨g, k⟩ := IH _ _ _ _ h0 h1 h
    exact ⟨g, w_l2i X hd k⟩
  case dup =>
    have hlen : len = 1 := Nat.eq_of_beq_eq_true hwf
    subst hlen
    obtain ⟨v, rest, eq0, hv, hh⟩ := inv_v1 h
    clear h
    subst eq0
    have h := hh
    clear hh
    obtain ⟨g, k⟩ := IH _ _ _ _ h0 h1 h
    exact ⟨g, w_dup X hd hv k⟩
  case pop =>
    have hlen : len = 1 := Nat.eq_of_beq_eq_true hwf
    subst hlen
    obtain ⟨v, rest, eq0, hv, hh⟩ := inv_v1 h
    clear h
    subst eq0
    have h := hh
    clear hh
    obtain ⟨g, k⟩ := IH _ _ _ _ h0 h1 h
    exact ⟨g, w_pop X hd hv k⟩
  case dup_x1 =>
    have hlen : len = 1 := Nat.eq_of_beq_eq_true hwf
    subst hlen
    obtain ⟨v, u, rest, eq0, hv, hu, hh⟩ := inv_v2 h
    clear h
    subst eq0
    have h := hh
    clear hh
    obtain ⟨g, k⟩ := IH _ _ _ _ h0 h1 h
    exact ⟨g, w_dup_x1 X hd hv hu k⟩
  case dup2 =>
    have hlen : len = 1 := Nat.eq_of_beq_eq_true hwf
    subst hlen
    obtain ⟨v, u, rest, eq0, hv, hu, hh⟩ := inv_v2 h
    clear h
    subst eq0
    have h := hh
    clear hh
    obtain ⟨g, k⟩ := IH _ _ _ _ h0 h1 h
    exact ⟨g, w_dup2 X hd hv hu k⟩
  case goto off =>
    obtain ⟨q1, q2⟩ := Bool.and_eq_true_iff.mp hwf
    have hlen : len = 3 := Nat.eq_of_beq_eq_true q1
    subst hlen
    have ht := tg_eq (of_decide_eq_true q2)
    obtain ⟨g, k⟩ := IH _ _ _ _ h0 h1 h
    exact ⟨g, w_goto X hd ht k⟩
  case ifCond cd off =>
    obtain ⟨q1, q2⟩ := Bool.and_eq_true_iff.mp hwf
    have hlen : len = 3 := Nat.eq_of_beq_eq_true q1
    subst hlen
    have ht := tg_eq (of_decide_eq_true q2)
    obtain ⟨x, rest, eq0, hh⟩ := inv_u1 h
    clear h
    subst eq0
    have h := hh
    clear hh
    refine ⟨?_, w_ifc X hd ht h (fun ha => (IH _ _ _ _ h0 h1 ha).2) (fun hb => (IH _ _ _ _ h0 h1 hb).2)⟩
    by_cases hcc : C (tg pc off) ls rest M = some (r, Mf)
    · exact (IH _ _ _ _ h0 h1 hcc).1
    · exact (IH (pc + 3) _ _ _ h0 h1 (by
        have hx := h
        unfold br at hx
        repeat' split at hx
        all_goals first | exact hx | exact absurd hx hcc)).1
  case if_icmp cd off =>
    obtain ⟨q1, q2⟩ := Bool.and_eq_true_iff.mp hwf
    have hlen : len = 3 := Nat.eq_of_beq_eq_true q1
    subst hlen
    have ht := tg_eq (of_decide_eq_true q2)
    obtain ⟨x, y, rest, eq0, hh⟩ := inv_b2 h
    clear h
    subst eq0
    have h := hh
    clear hh
    refine ⟨?_, w_icmp X hd ht h (fun ha => (IH _ _ _ _ h0 h1 ha).2) (fun hb => (IH _ _ _ _ h0 h1 hb).2)⟩
    by_cases hcc : C (tg pc off) ls rest M = some (r, Mf)
    · exact (IH _ _ _ _ h0 h1 hcc).1
    · exact (IH (pc + 3) _ _ _ h0 h1 (by
        have hx := h
        unfold br at hx
        repeat' split at hx
        all_goals first | exact hx | exact absurd hx hcc)).1
  case if_acmp cd off =>
    obtain ⟨q1, q2⟩ := Bool.and_eq_true_iff.mp hwf
    have hlen : len = 3 := Nat.eq_of_beq_eq_true q1
    subst hlen
    have ht := tg_eq (of_decide_eq_true q2)
    have ok : ∀ z, rOk z = true → z = 0 ∨ 100 ≤ z := fun z hz => (Bool.or_eq_true_iff.mp hz).imp Nat.eq_of_beq_eq_true Nat.le_of_ble_eq_true
    obtain ⟨x, y, rest, eq0, hh⟩ := inv_ba h
    clear h
    subst eq0
    have h := hh
    clear hh
    obtain ⟨hb, h⟩ := gb_some h
    rw [Bool.and_eq_true] at hb
    refine ⟨?_, w_acmp X (adr_inj (ok _ hb.1) (ok _ hb.2)) hd ht h (fun ha => (IH _ _ _ _ h0 h1 ha).2) (fun hb => (IH _ _ _ _ h0 h1 hb).2)⟩
    by_cases hcc : C (tg pc off) ls rest M = some (r, Mf)
    · exact (IH _ _ _ _ h0 h1 hcc).1
    · exact (IH (pc + 3) _ _ _ h0 h1 (by
        have hx := h
        unfold bra at hx
        repeat' split at hx
        all_goals first | exact hx | exact absurd hx hcc)).1
  case ifnull off =>
    obtain ⟨q1, q2⟩ := Bool.and_eq_true_iff.mp hwf
    have hlen : len = 3 := Nat.eq_of_beq_eq_true q1
    subst hlen
    have ht := tg_eq (of_decide_eq_true q2)
    have ok : ∀ z, rOk z = true → z = 0 ∨ 100 ≤ z := fun z hz => (Bool.or_eq_true_iff.mp hz).imp Nat.eq_of_beq_eq_true Nat.le_of_ble_eq_true
    obtain ⟨x, rest, eq0, hh⟩ := inv_ua h
    clear h
    subst eq0
    have h := hh
    clear hh
    obtain ⟨hb, h⟩ := gb_some h
    have hz : adr G x = none ↔ x = 0 := by
      have := adr_inj (G := G) (ok _ hb) (Or.inl rfl : (0 : Nat) = 0 ∨ 100 ≤ 0)
      rwa [show adr G 0 = none from rfl] at this
    refine ⟨?_, w_ifnull X hz hd ht h (fun ha => (IH _ _ _ _ h0 h1 ha).2) (fun hb => (IH _ _ _ _ h0 h1 hb).2)⟩
    by_cases hcc : C (tg pc off) ls rest M = some (r, Mf)
    · exact (IH _ _ _ _ h0 h1 hcc).1
    · exact (IH (pc + 3) _ _ _ h0 h1 (by
        have hx := h
        split at hx
        all_goals first | exact hx | exact absurd hx hcc)).1
  case ifnonnull off =>
    obtain ⟨q1, q2⟩ := Bool.and_eq_true_iff.mp hwf
    have hlen : len = 3 := Nat.eq_of_beq_eq_true q1
    subst hlen
    have ht := tg_eq (of_decide_eq_true q2)
    have ok : ∀ z, rOk z = true → z = 0 ∨ 100 ≤ z := fun z hz => (Bool.or_eq_true_iff.mp hz).imp Nat.eq_of_beq_eq_true Nat.le_of_ble_eq_true
    obtain ⟨x, rest, eq0, hh⟩ := inv_ua h
    clear h
    subst eq0
    have h := hh
    clear hh
    obtain ⟨hb, h⟩ := gb_some h
    have hz : adr G x = none ↔ x = 0 := by
      have := adr_inj (G := G) (ok _ hb) (Or.inl rfl : (0 : Nat) = 0 ∨ 100 ≤ 0)
      rwa [show adr G 0 = none from rfl] at this
    refine ⟨?_, w_ifnonnull X hz hd ht h (fun ha => (IH _ _ _ _ h0 h1 ha).2) (fun hb => (IH _ _ _ _ h0 h1 hb).2)⟩
    by_cases hcc : C (tg pc off) ls rest M = some (r, Mf)
    · exact (IH _ _ _ _ h0 h1 hcc).1
    · exact (IH (pc + 3) _ _ _ h0 h1 (by
        have hx := h
        split at hx
        all_goals first | exact hx | exact absurd hx hcc)).1
  case tableswitch df lo hi offs =>
    unfold wfI at hwf
    simp only [Bool.and_eq_true] at hwf
    obtain ⟨q1, q2, q3, q4, q5⟩ := hwf
    have e5 := of_decide_eq_true q5
    have hi2 : hi ≤ 2147483647 := by unfold i32 at q4; rw [Bool.and_eq_true] at q4; exact of_decide_eq_true q4.2
    have hlo : -2147483648 ≤ lo := by unfold i32 at q3; rw [Bool.and_eq_true] at q3; exact of_decide_eq_true q3.1
    obtain ⟨x, rest, eq0, hh⟩ := inv_u1 h
    clear h
    subst eq0
    have h := hh
    clear hh
    by_cases hx : x.toInt < lo ∨ hi < x.toInt
    · rw [swt_out _ _ hlo (by omega) (by omega)] at h
      obtain ⟨g, k⟩ := IH _ _ _ _ h0 h1 h
      exact ⟨g, fun H locs sl hL hR hS => lv_tableOut X.1 X.2.1 hd hx (tg_eq (of_decide_eq_true q1)) (k H locs sl hL hR hS)⟩
    · obtain ⟨o, e1, e2⟩ := swt_in (x := x) (f := fun o => C (tg pc o) ls rest M) (D := C (tg pc df) ls rest M) offs.toList lo q3 (by omega) (by omega) (by omega)
      rw [e2] at h
      obtain ⟨g, k⟩ := IH _ _ _ _ h0 h1 h
      have ho := of_decide_eq_true (List.all_eq_true.mp q2 o (List.mem_of_getElem? e1))
      exact ⟨g, fun H locs sl hL hR hS => lv_tableIn X.1 X.2.1 hd (fun q => hx (Or.inl q)) (fun q => hx (Or.inr q)) (by rw [← Array.getElem?_toList]; exact e1) (tg_eq ho) (k H locs sl hL hR hS)⟩
  case lookupswitch df ps =>
    unfold wfI at hwf
    simp only [Bool.and_eq_true] at hwf
    obtain ⟨q1, q2, q3⟩ := hwf
    obtain ⟨x, rest, eq0, hh⟩ := inv_u1 h
    clear h
    subst eq0
    have h := hh
    clear hh
    have hall : ps.toList.all (fun q => i32 q.1) = true := List.all_eq_true.mpr (fun q hq => (Bool.and_eq_true_iff.mp (List.all_eq_true.mp q2 q hq)).1)
    have e := swl_eq (x := x) (f := fun o => C (tg pc o) ls rest M) (d := df) ps.toList hall
    have h : swl x (fun o => C (tg pc o) ls rest M) (C (tg pc df) ls rest M) ps.toList = some (r, Mf) := h
    rw [e] at h
    obtain ⟨g, k⟩ := IH _ _ _ _ h0 h1 h
    have ho : 0 ≤ (pc : Int) + Op.lookupswitch.offset ps.toList df x.toInt := swl_off (P := fun o => 0 ≤ (pc : Int) + o) (of_decide_eq_true q1) (fun q hq => of_decide_eq_true (Bool.and_eq_true_iff.mp (List.all_eq_true.mp q2 q hq)).2)
    exact ⟨g, fun H locs sl hL hR hS => lv_lookup X.1 X.2.1 hd q3 rfl (tg_eq ho) (k H locs sl hL hR hS)⟩
  case ldc kk =>
    have hlen : len = 2 := Nat.eq_of_beq_eq_true hwf
    subst hlen
    cases hk : kint me.2.1 kk with
    | some z =>
      have h : C (pc + 2) ls (.int (iI z.1) :: st) M = some (r, Mf) := by
        have hx := h
        change oE (kint me.2.1 kk) _ _ = _ at hx
        rw [hk] at hx
        exact hx
      obtain ⟨g, k⟩ := IH _ _ _ _ h0 h1 h
      exact ⟨g, w_ldc X hd hk k⟩
    | none =>
      have h : oX (kstr me.2.1 kk) (fun a => C (pc + 2) ls (.ref a.1 :: st) M) = some (r, Mf) := by
        have hx := h
        change oE (kint me.2.1 kk) _ _ = _ at hx
        rw [hk] at hx
        exact hx
      obtain ⟨q, hq, h⟩ := inv_oX h
      obtain ⟨g, k⟩ := IH _ _ _ _ h0 h1 h
      exact ⟨g, w_ldcS X hd hq k⟩
  case ldc_w kk =>
    have hlen : len = 3 := Nat.eq_of_beq_eq_true hwf
    subst hlen
    obtain ⟨z, hz, h⟩ := inv_oX h
    obtain ⟨g, k⟩ := IH _ _ _ _ h0 h1 h
    exact ⟨g, w_ldcw X hd hz k⟩
  case ldc2_w kk =>
    have hlen : len = 3 := Nat.eq_of_beq_eq_true hwf
    subst hlen
    obtain ⟨z, hz, h⟩ := inv_oX h
    obtain ⟨g, k⟩ := IH _ _ _ _ h0 h1 h
    exact ⟨g, w_ldc2 X hd hz k⟩
  case getstatic kk =>
    have hlen : len = 3 := Nat.eq_of_beq_eq_true hwf
    subst hlen
    obtain ⟨q, hq, h⟩ := inv_oX h
    have h : C (pc + 3) ls ((bb (Nat.beq q.1 1) (.int (iI 1)) (.ref 2) : Value) :: st) M = some (r, Mf) := by
      cases hb : Nat.beq q.1 1 with
      | true => rw [hb] at h; exact h
      | false => rw [hb] at h; exact h
    obtain ⟨g, k⟩ := IH _ _ _ _ h0 h1 h
    exact ⟨g, w_gst X hd hq rfl k⟩
  case getfield n =>
    have hlen : len = 3 := Nat.eq_of_beq_eq_true hwf
    subst hlen
    obtain ⟨f, hf, h⟩ := inv_oX h
    obtain ⟨a, rest, eq0, hh⟩ := inv_ua h
    clear h
    subst eq0
    have h := hh
    clear hh
    obtain ⟨hk, h⟩ := gb_some h
    by_cases h2 : f.1 = 2
    · rcases fres_cat2 hf h2 with hc | hc
      · rw [hc] at h
        obtain ⟨g, k⟩ := IH _ _ _ _ h0 h1 h
        exact ⟨g, w_getS X hd hf h2 (by rw [h2] at hk; exact hk) ⟨fun _ => k, fun e => by omega⟩⟩
      · rw [hc] at h
        obtain ⟨g, k⟩ := IH _ _ _ _ h0 h1 h
        exact ⟨g, w_getS X hd hf h2 (by rw [h2] at hk; exact hk) ⟨fun e => by omega, fun _ => k⟩⟩
    · obtain ⟨r', -, -, -, -, -, -, -, -, q9⟩ := fres_spec hf h2
      have hlt := cat_lt hf h2
      rcases (show f.2.2.1 = 0 ∨ f.2.2.1 = 1 ∨ f.2.2.1 = 2 ∨ f.2.2.1 = 3 by omega) with hc | hc | hc | hc
      · rw [hc] at h
        obtain ⟨g, k⟩ := IH _ _ _ _ h0 h1 h
        exact ⟨g, w_get X hd hf h2 hk (by unfold fV; rw [q9, hc]; rfl) k⟩
      · rw [hc] at h
        obtain ⟨g, k⟩ := IH _ _ _ _ h0 h1 h
        exact ⟨g, w_get X hd hf h2 hk (by unfold fV; rw [q9, hc]; rfl) k⟩
      · rw [hc] at h
        obtain ⟨g, k⟩ := IH _ _ _ _ h0 h1 h
        exact ⟨g, w_get X hd hf h2 hk (by unfold fV; rw [q9, hc]; rfl) k⟩
      · rw [hc] at h
        obtain ⟨g, k⟩ := IH _ _ _ _ h0 h1 h
        exact ⟨g, w_get X hd hf h2 hk (by unfold fV; rw [q9, hc]; rfl) k⟩
  case putfield n =>
    have hlen : len = 3 := Nat.eq_of_beq_eq_true hwf
    subst hlen
    obtain ⟨f, hf, h⟩ := inv_oX h
    obtain ⟨hfin, h⟩ := gb_some h
    by_cases h2 : f.1 = 2
    · rcases fres_cat2 hf h2 with hc | hc <;> (rw [hc] at h; cases h)
    · obtain ⟨r', -, -, -, -, -, -, -, -, q9⟩ := fres_spec hf h2
      have hlt := cat_lt hf h2
      rcases (show f.2.2.1 = 0 ∨ f.2.2.1 = 1 ∨ f.2.2.1 = 2 ∨ f.2.2.1 = 3 by omega) with hc | hc | hc | hc
      · rw [hc] at h
        obtain ⟨a, v, rest, eq0, hh⟩ := inv_ia h
        clear h
        subst eq0
        have h := hh
        clear hh
        obtain ⟨hk, h⟩ := gb_some h
        obtain ⟨g, k⟩ := IH _ _ _ (i1 M a f.2.1 v) h0 h1 h
        refine ⟨g, w_put (v := .int v) (M' := i1 M a f.2.1 v) X hd hf h2 hk hfin (fun ty hty => ?_) rfl rfl i1_row (hV_i q9 (by omega) (by omega)) k⟩
        rcases hty with ⟨rfl, -⟩ | ⟨-, e⟩ | ⟨-, e⟩ | ⟨-, e⟩ | ⟨-, e⟩
        · exact ⟨rfl, rfl⟩
        all_goals omega
      · rw [hc] at h
        obtain ⟨a, v, rest, eq0, hh⟩ := inv_la h
        clear h
        subst eq0
        have h := hh
        clear hh
        obtain ⟨hk, h⟩ := gb_some h
        obtain ⟨g, k⟩ := IH _ _ _ (l1 M a f.2.1 v) h0 h1 h
        refine ⟨g, w_put (v := .long v) (M' := l1 M a f.2.1 v) X hd hf h2 hk hfin (fun ty hty => ?_) rfl rfl l1_row (hV_l (by rw [q9, hc])) k⟩
        rcases hty with ⟨-, e⟩ | ⟨rfl, -⟩ | ⟨-, e⟩ | ⟨-, e⟩ | ⟨-, e⟩
        · omega
        · exact ⟨rfl, rfl⟩
        all_goals omega
      · rw [hc] at h
        obtain ⟨a, v, rest, eq0, hh⟩ := inv_ba h
        clear h
        subst eq0
        have h := hh
        clear hh
        obtain ⟨hk, h⟩ := gb_some h
        obtain ⟨M', hM', h⟩ := inv_oB h
        cases hM'
        obtain ⟨g, k⟩ := IH _ _ _ (r1 M a f.2.1 v) h0 h1 h
        refine ⟨g, w_put (v := .ref v) (M' := r1 M a f.2.1 v) X hd hf h2 hk hfin (fun ty hty => ?_) rfl rfl r1_row (hV_r (by rw [q9, hc])) k⟩
        rcases hty with ⟨-, e⟩ | ⟨-, e⟩ | ⟨-, e⟩ | ⟨⟨n, rfl⟩, -⟩ | ⟨⟨n, rfl⟩, -⟩
        · omega
        · omega
        · omega
        · show narrow _ (va_rf (adr G v)) = va_rf (adr G v) ∧ fits _ (va_rf (adr G v)) = true
          cases adr G v <;> exact ⟨rfl, rfl⟩
        · show narrow _ (va_rf (adr G v)) = va_rf (adr G v) ∧ fits _ (va_rf (adr G v)) = true
          cases adr G v <;> exact ⟨rfl, rfl⟩
      · rw [hc] at h
        obtain ⟨a, v, rest, eq0, hh⟩ := inv_ia h
        clear h
        subst eq0
        have h := hh
        clear hh
        obtain ⟨hk, h⟩ := gb_some h
        obtain ⟨hv, h⟩ := gb_some h
        obtain ⟨g, k⟩ := IH _ _ _ (i1 M a f.2.1 v) h0 h1 h
        refine ⟨g, w_put (v := .int v) (M' := i1 M a f.2.1 v) X hd hf h2 hk hfin (fun ty hty => ?_) rfl rfl i1_row (hV_i q9 (by omega) (by omega)) k⟩
        rcases hty with ⟨-, e⟩ | ⟨-, e⟩ | ⟨rfl, -⟩ | ⟨-, e⟩ | ⟨-, e⟩
        · omega
        · omega
        · rcases Bool.or_eq_true_iff.mp hv with hv | hv
          · rw [of_decide_eq_true hv]; exact ⟨rfl, rfl⟩
          · rw [of_decide_eq_true hv]; exact ⟨rfl, rfl⟩
        · omega
        · omega
  case iaload =>
    have hlen : len = 1 := Nat.eq_of_beq_eq_true hwf
    subst hlen
    obtain ⟨a, i, rest, eq0, hh⟩ := inv_ai h
    clear h
    subst eq0
    have h := hh
    clear hh
    cases hb : isK O1 M a 1 with
    | true =>
      rw [hb] at h
      obtain ⟨hi, h⟩ := gb_some h
      obtain ⟨g, k⟩ := IH _ _ _ _ h0 h1 h
      exact ⟨g, w_sld X hd hb hi k⟩
    | false =>
      rw [hb] at h
      obtain ⟨hi, h⟩ := gb_some h
      obtain ⟨g, k⟩ := IH _ _ _ _ h0 h1 h
      exact ⟨g, w_iald X hd hi k⟩
  case baload =>
    have hlen : len = 1 := Nat.eq_of_beq_eq_true hwf
    subst hlen
    obtain ⟨a, i, rest, eq0, hh⟩ := inv_ai h
    clear h
    subst eq0
    have h := hh
    clear hh
    cases hb : isK O1 M a 3 with
    | true =>
      rw [hb] at h
      obtain ⟨hi, h⟩ := gb_some h
      obtain ⟨g, k⟩ := IH _ _ _ _ h0 h1 h
      exact ⟨g, w_tb X hd hb hi k⟩
    | false =>
      rw [hb] at h
      obtain ⟨hi, h⟩ := gb_some h
      obtain ⟨g, k⟩ := IH _ _ _ _ h0 h1 h
      exact ⟨g, w_bald X hd hi k⟩
  case laload =>
    have hlen : len = 1 := Nat.eq_of_beq_eq_true hwf
    subst hlen
    obtain ⟨a, i, rest, eq0, hh⟩ := inv_ai h
    clear h
    subst eq0
    have h := hh
    clear hh
    obtain ⟨hi, h⟩ := gb_some h
    obtain ⟨g, k⟩ := IH _ _ _ _ h0 h1 h
    exact ⟨g, w_lald X hd hi k⟩
  case aaload =>
    have hlen : len = 1 := Nat.eq_of_beq_eq_true hwf
    subst hlen
    obtain ⟨a, i, rest, eq0, hh⟩ := inv_ai h
    clear h
    subst eq0
    have h := hh
    clear hh
    obtain ⟨hi, h⟩ := gb_some h
    obtain ⟨g, k⟩ := IH _ _ _ _ h0 h1 h
    exact ⟨g, w_aald X hd hi k⟩
  case iastore =>
    have hlen : len = 1 := Nat.eq_of_beq_eq_true hwf
    subst hlen
    obtain ⟨a, i, v, rest, eq0, hh⟩ := inv_aii h
    clear h
    subst eq0
    have h := hh
    clear hh
    obtain ⟨hi, h⟩ := gb_some h
    obtain ⟨g, k⟩ := IH _ _ _ (i1 M a (ix i) v) h0 h1 h
    exact ⟨g, w_iast X hd hi k⟩
  case bastore =>
    have hlen : len = 1 := Nat.eq_of_beq_eq_true hwf
    subst hlen
    obtain ⟨a, i, v, rest, eq0, hh⟩ := inv_aii h
    clear h
    subst eq0
    have h := hh
    clear hh
    cases hb : isK O1 M a 41 with
    | true =>
      rw [hb] at h
      obtain ⟨hi, h⟩ := gb_some h
      obtain ⟨g, k⟩ := IH _ _ _ (i1 M a (ix i) v.toInt8.toInt32) h0 h1 h
      exact ⟨g, w_bast X hd hi k⟩
    | false =>
      rw [hb] at h
      obtain ⟨hi, h⟩ := gb_some h
      obtain ⟨g, k⟩ := IH _ _ _ (i1 M a (ix i) (v &&& 1)) h0 h1 h
      exact ⟨g, w_zast X hd hi k⟩
  case lastore =>
    have hlen : len = 1 := Nat.eq_of_beq_eq_true hwf
    subst hlen
    obtain ⟨a, i, v, rest, eq0, hh⟩ := inv_ail h
    clear h
    subst eq0
    have h := hh
    clear hh
    obtain ⟨hi, h⟩ := gb_some h
    obtain ⟨g, k⟩ := IH _ _ _ (l1 M a (ix i) v) h0 h1 h
    exact ⟨g, w_last X hd hi k⟩
  case aastore =>
    have hlen : len = 1 := Nat.eq_of_beq_eq_true hwf
    subst hlen
    obtain ⟨a, i, v, rest, eq0, hh⟩ := inv_aia h
    clear h
    subst eq0
    have h := hh
    clear hh
    obtain ⟨hi, h⟩ := gb_some h
    rw [Bool.and_eq_true] at hi
    obtain ⟨M', hM', h⟩ := inv_oB h
    cases hM'
    obtain ⟨g, k⟩ := IH _ _ _ (r1 M a (ix i) v) h0 h1 h
    exact ⟨g, w_aast X hd hi.1 hi.2 k⟩
  case arraylength =>
    have hlen : len = 1 := Nat.eq_of_beq_eq_true hwf
    subst hlen
    obtain ⟨a, rest, eq0, hh⟩ := inv_ua h
    clear h
    subst eq0
    have h := hh
    clear hh
    cases hb : isK O1 M a 1 with
    | true =>
      rw [hb] at h
      obtain ⟨g, k⟩ := IH _ _ _ _ h0 h1 h
      exact ⟨g, w_slen X hd hb k⟩
    | false =>
      rw [hb] at h
      obtain ⟨hi, h⟩ := gb_some h
      obtain ⟨g, k⟩ := IH _ _ _ _ h0 h1 h
      simp only [Bool.or_eq_true] at hi
      rcases hi with ((((((hi | hi) | hi) | hi) | hi) | hi) | hi) | hi
      · exact ⟨g, w_tlen X hd hi k⟩
      · exact ⟨g, w_alen (t0 := 0) X hd hi (by decide) rfl k⟩
      · exact ⟨g, w_alen (t0 := 1) X hd hi (by decide) rfl k⟩
      · exact ⟨g, w_alen (t0 := 2) X hd hi (by decide) rfl k⟩
      · exact ⟨g, w_alen (t0 := 3) X hd hi (by decide) rfl k⟩
      · exact ⟨g, w_alen (t0 := 4) X hd hi (by decide) rfl k⟩
      · exact ⟨g, w_alen (t0 := 5) X hd hi (by decide) rfl k⟩
      · exact ⟨g, w_alen (t0 := 6) X hd hi (by decide) rfl k⟩
  case new n =>
    have hlen : len = 3 := Nat.eq_of_beq_eq_true hwf
    subst hlen
    obtain ⟨q, hq, h⟩ := inv_oX h
    obtain ⟨a, M', hn, h⟩ := inv_oP h
    have hn : n1 M (10 + q.1, 0) q.2.1 = some (a, M') := hn
    obtain ⟨-, -, eM⟩ := n1_spec hn
    have g1 : M.1 ≤ M'.1 ∧ M.2.1 ≤ M'.2.1 := by rw [eM]; exact ⟨Nat.le_succ _, Nat.le_add_right _ _⟩
    obtain ⟨g, k⟩ := IH _ _ _ _ (by omega) (by omega) h
    obtain ⟨g3, g4⟩ := id g
    exact ⟨⟨by omega, by omega⟩, w_new X hd hq hn h0 h1 (by omega) (by omega) k⟩
  case anewarray n =>
    have hlen : len = 3 := Nat.eq_of_beq_eq_true hwf
    subst hlen
    obtain ⟨q, hq, h⟩ := inv_oX h
    obtain ⟨x, rest, eq0, hh⟩ := inv_u1 h
    clear h
    subst eq0
    have h := hh
    clear hh
    obtain ⟨hb, h⟩ := gb_some h
    simp only [Bool.and_eq_true] at hb
    obtain ⟨a, M', hn, h⟩ := inv_oP h
    have hn : n1 M (q.1, ix x) (ix x) = some (a, M') := hn
    obtain ⟨-, -, eM⟩ := n1_spec hn
    have g1 : M.1 ≤ M'.1 ∧ M.2.1 ≤ M'.2.1 := by rw [eM]; exact ⟨Nat.le_succ _, Nat.le_add_right _ _⟩
    obtain ⟨g, k⟩ := IH _ _ _ _ (by omega) (by omega) h
    obtain ⟨g3, g4⟩ := id g
    exact ⟨⟨by omega, by omega⟩, w_anew X hd hq (by simpa using hb.1) (Nat.le_of_ble_eq_true hb.2.1) hn h0 h1 (by omega) (by omega) k⟩
  case newarray t =>
    have hlen : len = 2 := Nat.eq_of_beq_eq_true hwf
    subst hlen
    obtain ⟨x, rest, eq0, hh⟩ := inv_u1 h
    clear h
    subst eq0
    have h := hh
    clear hh
    obtain ⟨hb, h⟩ := gb_some h
    simp only [Bool.and_eq_true] at hb
    obtain ⟨a, M', hn, h⟩ := inv_oP h
    have hn : n1 M (arrK t, ix x) (ix x) = some (a, M') := hn
    obtain ⟨-, -, eM⟩ := n1_spec hn
    have g1 : M.1 ≤ M'.1 ∧ M.2.1 ≤ M'.2.1 := by rw [eM]; exact ⟨Nat.le_succ _, Nat.le_add_right _ _⟩
    obtain ⟨g, k⟩ := IH _ _ _ _ (by omega) (by omega) h
    obtain ⟨g3, g4⟩ := id g
    refine ⟨⟨by omega, by omega⟩, ?_⟩
    have hn0 : ¬ x < 0 := by simpa using hb.1
    have hbb := Nat.le_of_ble_eq_true hb.2.1
    cases t with
    | int => exact w_newa (t0 := 0) (kd := 40) (ty := .int) X hd rfl arrTB_int rfl (by decide) (fun _ h => h) (by rw [aV_int (by decide)]; show _ = Value.int (row0 _ (100 + M.1) 0 (100 + M.1) 0); unfold row0; rw [if_pos rfl]; rfl) (by decide) hn0 hbb hn h0 h1 (by omega) (by omega) k
    | byte => exact w_newa (t0 := 1) (kd := 41) (ty := .byte) X hd rfl arrTB_byte rfl (by decide) (fun _ h => h) (by rw [aV_int (by decide)]; show _ = Value.int (row0 _ (100 + M.1) 0 (100 + M.1) 0); unfold row0; rw [if_pos rfl]; rfl) (by decide) hn0 hbb hn h0 h1 (by omega) (by omega) k
    | boolean => exact w_newa (t0 := 2) (kd := 42) (ty := .boolean) X hd rfl arrTB_boolean rfl (by decide) (fun _ h => h) (by rw [aV_int (by decide)]; show _ = Value.int (row0 _ (100 + M.1) 0 (100 + M.1) 0); unfold row0; rw [if_pos rfl]; rfl) (by decide) hn0 hbb hn h0 h1 (by omega) (by omega) k
    | long => exact w_newa (t0 := 3) (kd := 43) (ty := .long) X hd rfl arrTB_long rfl (by decide) (fun _ h => h) (by rw [aV_long]; show _ = Value.long (row0 _ (100 + M.1) 0 (100 + M.1) 0); unfold row0; rw [if_pos rfl]; rfl) (by decide) hn0 hbb hn h0 h1 (by omega) (by omega) k
    | char => exact absurd hb.2.2 (by decide)
    | float => exact absurd hb.2.2 (by decide)
    | double => exact absurd hb.2.2 (by decide)
    | short => exact absurd hb.2.2 (by decide)
  case invokevirtual n =>
    have hlen : len = 3 := Nat.eq_of_beq_eq_true hwf
    subst hlen
    obtain ⟨q0, hq0, h⟩ := inv_oX h
    obtain ⟨q, hq, rfl⟩ := inv_mres hq0
    obtain ⟨hcat, h⟩ := gb_some h
    obtain ⟨b, rest, hst, h⟩ := inv_ua h
    obtain ⟨hk, h⟩ := gb_some h
    rw [Bool.and_eq_true] at hk
    obtain ⟨v, M', hK, h⟩ := inv_ivk h
    obtain ⟨p1, p2⟩ := inv_pop hst
    have hz : Nat.beq q.2.2.1 0 = false := by have := hk.2; rwa [Bool.not_eq_true'] at this
    have hrk : q.2.2.1 ≠ 0 := fun e => by rw [e] at hz; exact absurd hz (by decide)
    obtain ⟨s1, s2⟩ := ckV_spec hm hl hq
    have y := mrow_spec hq
    have g1 := hA _ (mds_mem y.2.1) (by rw [mds_id _ y.2.1]; exact y.1) _ _ _ _ hK
    have g11 := g1.1
    have g12 := g1.2.1
    obtain ⟨g, k⟩ := IH _ _ _ _ (by omega) (by omega) h
    obtain ⟨g3, g4⟩ := id g
    have hcat2 : catS rest ≤ 8 := by
      have e1 : st.drop (q.2.1 + 1) = rest := by rw [← List.drop_drop, hst]; rfl
      rw [← e1]; exact Nat.le_of_ble_eq_true hcat
    refine ⟨⟨by omega, by omega⟩, ?_⟩
    rw [p2]
    exact w_callV X hA hd hq hrk hk.1 s1 s2 hK p1 hcat2 h0 h1 (by omega) (by omega) k
  case invokestatic n =>
    have hlen : len = 3 := Nat.eq_of_beq_eq_true hwf
    subst hlen
    obtain ⟨q0, hq0, h⟩ := inv_oX h
    obtain ⟨q, hq, rfl⟩ := inv_mres hq0
    obtain ⟨hcat, h⟩ := gb_some h
    simp only [Bool.and_eq_true] at hcat
    obtain ⟨hc1, hc2, hc3⟩ := hcat
    obtain ⟨v, M', hK, h⟩ := inv_ivk h
    have y := mrow_spec hq
    have g1 := hA _ (mds_mem y.2.1) (by rw [mds_id _ y.2.1]; exact y.1) _ _ _ _ hK
    have g11 := g1.1
    have g12 := g1.2.1
    obtain ⟨g, k⟩ := IH _ _ _ _ (by omega) (by omega) h
    obtain ⟨g3, g4⟩ := id g
    refine ⟨⟨by omega, by omega⟩, ?_⟩
    have e : st = ((st.take q.2.1).reverse).reverse ++ st.drop q.2.1 := by rw [List.reverse_reverse, List.take_append_drop]
    have hlen2 : ((st.take q.2.1).reverse).length = q.2.1 := by rw [List.length_reverse, List.length_take]; exact Nat.min_eq_left (Nat.le_of_ble_eq_true hc2)
    have kk := w_callS X hA hd hq (Nat.eq_of_beq_eq_true hc3) hK hlen2 (Nat.le_of_ble_eq_true hc1) h0 h1 (by omega) (by omega) k
    rw [← e] at kk
    exact kk
  case invokespecial n =>
    have hlen : len = 3 := Nat.eq_of_beq_eq_true hwf
    subst hlen
    cases ho : oini me.2.1 n with
    | true =>
      have h : ua st (fun a rr => gb (Nat.ble (catS rr) 8 && Nat.ble 100 a) (C (pc + 3) ls rr M)) = some (r, Mf) := by
        have hx := h
        change bb (oini me.2.1 n) _ _ = _ at hx
        rw [ho] at hx
        exact hx
      obtain ⟨a, rest, eq0, hh⟩ := inv_ua h
      clear h
      subst eq0
      have h := hh
      clear hh
      obtain ⟨hcat, h⟩ := gb_some h
      rw [Bool.and_eq_true] at hcat
      obtain ⟨g, k⟩ := IH _ _ _ _ h0 h1 h
      exact ⟨g, w_objI X hd ho (by rw [adr_ge (Nat.le_of_ble_eq_true hcat.2)]; exact fun q => by cases q) (Nat.le_of_ble_eq_true hcat.1) k⟩
    | false =>
      have h : oX (mres me.2.1 n) (fun q => gb (Nat.ble (catS (st.drop (q.2.1 + 1))) 8) (ua (st.drop q.2.1) fun b rest => gb (isK O1 M b q.2.2 && (!(Nat.beq q.2.2 0) && q.1.2.2.2.2.2)) (ivk (cl O1 d) C q.1 (pc + 3) ls (.ref b :: (st.take q.2.1).reverse) rest M))) = some (r, Mf) := by
        have hx := h
        change bb (oini me.2.1 n) _ _ = _ at hx
        rw [ho] at hx
        exact hx
      obtain ⟨q0, hq0, h⟩ := inv_oX h
      obtain ⟨q, hq, rfl⟩ := inv_mres hq0
      obtain ⟨hcat, h⟩ := gb_some h
      obtain ⟨b, rest, hst, h⟩ := inv_ua h
      obtain ⟨hk, h⟩ := gb_some h
      simp only [Bool.and_eq_true] at hk
      obtain ⟨v, M', hK, h⟩ := inv_ivk h
      obtain ⟨p1, p2⟩ := inv_pop hst
      have hz : Nat.beq q.2.2.1 0 = false := by have := hk.2.1; rwa [Bool.not_eq_true'] at this
      have hrk : q.2.2.1 ≠ 0 := fun e => by rw [e] at hz; exact absurd hz (by decide)
      have y := mrow_spec hq
      have g1 := hA _ (mds_mem y.2.1) (by rw [mds_id _ y.2.1]; exact y.1) _ _ _ _ hK
      have g11 := g1.1
      have g12 := g1.2.1
      obtain ⟨g, k⟩ := IH _ _ _ _ (by omega) (by omega) h
      obtain ⟨g3, g4⟩ := id g
      have hcat2 : catS rest ≤ 8 := by
        have e1 : st.drop (q.2.1 + 1) = rest := by rw [← List.drop_drop, hst]; rfl
        rw [← e1]; exact Nat.le_of_ble_eq_true hcat
      refine ⟨⟨by omega, by omega⟩, ?_⟩
      rw [p2]
      exact w_callI X hA hd hq hrk hk.1 hk.2.2 hK p1 hcat2 h0 h1 (by omega) (by omega) (init_spec (mds_mem y.2.1) hk.2.2) k
  case ireturn =>
    have hlen : len = 1 := Nat.eq_of_beq_eq_true hwf
    subst hlen
    have h : ret1 me st M = some (r, Mf) := h
    have e := ret1_mem h
    subst e
    exact ⟨⟨Nat.le_refl _, Nat.le_refl _⟩, hret pc ls st .ireturn hd rfl (fun _ => h)⟩
  case lreturn =>
    have hlen : len = 1 := Nat.eq_of_beq_eq_true hwf
    subst hlen
    have hM : Mf = M := by
      have hx : ((match (generalizing := false) st with | [.long v] => (match (generalizing := false) me.2.2.2.2.1 with | 6 => some (.long v, M) | _ => none) | _ => none) : Rs M1) = some (r, Mf) := h
      repeat' split at hx
      all_goals first | (cases hx; rfl) | cases hx
    subst hM
    exact ⟨⟨Nat.le_refl _, Nat.le_refl _⟩, hret pc ls st .lreturn hd rfl (fun _ => h)⟩
  case areturn =>
    have hlen : len = 1 := Nat.eq_of_beq_eq_true hwf
    subst hlen
    have hM : Mf = M := by
      have hx : ((match (generalizing := false) st with | [.ref v] => (match (generalizing := false) me.2.2.2.2.1 with | 7 => some (.ref v, M) | _ => none) | _ => none) : Rs M1) = some (r, Mf) := h
      repeat' split at hx
      all_goals first | (cases hx; rfl) | cases hx
    subst hM
    exact ⟨⟨Nat.le_refl _, Nat.le_refl _⟩, hret pc ls st .areturn hd rfl (fun _ => h)⟩
  case return_ =>
    have hlen : len = 1 := Nat.eq_of_beq_eq_true hwf
    subst hlen
    have hM : Mf = M := by
      have hx : ((match (generalizing := false) st with | [] => (match (generalizing := false) me.2.2.2.2.1 with | 0 => some (.null, M) | _ => none) | _ => none) : Rs M1) = some (r, Mf) := h
      repeat' split at hx
      all_goals first | (cases hx; rfl) | cases hx
    subst hM
    exact ⟨⟨Nat.le_refl _, Nat.le_refl _⟩, hret pc ls st .return_ hd rfl (fun _ => h)⟩
  all_goals exact absurd (show (none : Rs M1) = some (r, Mf) from h) (by simp)
theorem snd_run {r : Value} {Mf : M1} (X : Ctx p R s m args meth c G me d) (hm : me ∈ mds) (hA : AllMet l G d) (hRc : Mf.1 - n0 ≤ R.cells) (hRs : Mf.2.1 - w0 ≤ R.slots)
    (hret : ∀ (pc : Nat) (ls st : List Value) (i : Jvm.ClassFile.Instr), decode (byt me) pc = .ok (i, 1) → isRet i = true → (∀ C : Cont M1, ins O1 (cl O1 d) C me pc (pc + 1) ls st Mf i = some (r, Mf)) → WW p l e R s m args below meth c G me Q n0 w0 pc ls st Mf) :
    ∀ (n pc : Nat) (ls st : List Value) (M : M1), n0 ≤ M.1 → w0 ≤ M.2.1 → run O1 (cl O1 d) me n pc ls st M = some (r, Mf) → Gw M Mf ∧ WW p l e R s m args below meth c G me Q n0 w0 pc ls st M := by
  intro n
  induction n with
  | zero => intro pc ls st M h0 h1 h; cases h
  | succ n IH =>
    intro pc ls st M h0 h1 h
    have h : stp O1 (cl O1 d) me (run O1 (cl O1 d) me n) pc ls st M = some (r, Mf) := h
    unfold stp at h
    cases hl : lkN me.2.2.1 pc with
    | none => rw [hl] at h; cases h
    | some q =>
      obtain ⟨i, len⟩ := q
      rw [hl] at h
      obtain ⟨hd, hwf⟩ := ckD_spec X.2.2.2.2.2.2.2.2.2.2.1 hl
      exact snd_ins X hm hA hRc hRs hret IH h0 h1 hl hd hwf h
end Snd
