/-! THE SCRIPT STAYS: no method writes it. Written by wip/whole/gen/gen_keep.py out of part 18. -/
def Kp (M M' : Mem) : Prop := M'.1 0 = M.1 0 ∧ M'.1 1 = M.1 1
theorem fresT_2 : fresT.all (fun l => l.all (fun q => Nat.ble 2 q.2.1)) = true := by decide +kernel
theorem fres_2 {own n : Nat} {f : Nat × Nat × Nat × Bool × Nat} (h : fres own n = some f) : 2 ≤ f.1 := by
  have h1 := lkN_mem (show lkN (fresT.getD own []) n = some f from h)
  by_cases q : own < fresT.length
  · have e : fresT.getD own [] = fresT[own] := by rw [List.getD_eq_getElem?_getD, List.getElem?_eq_getElem q]; rfl
    rw [e] at h1
    have h2 := List.all_eq_true.mp fresT_2 _ (List.getElem_mem q)
    have h3 := List.all_eq_true.mp h2 _ h1
    exact Nat.le_of_ble_eq_true h3
  · rw [List.getD_eq_getElem?_getD, List.getElem?_eq_none (by omega)] at h1
    cases h1
theorem ret1_memK {me : MD} {st : List Value} {M Mf : Mem} {r : Value} (h : ret1 me st M = some (r, Mf)) : Mf = M := by
  unfold ret1 at h
  repeat' split at h
  all_goals first | (cases h; rfl) | (cases (gb_some h).2; rfl) | cases h
section Keep
variable {K : MD → List Value → Mem → Rs Mem} {me : MD} {M : Mem}
def KR (M : Mem) (f : Cont Mem → Rs Mem) : Prop := ∀ (C : Cont Mem) (r : Value) (Mf : Mem), f C = some (r, Mf) → Kp M Mf ∨ ∃ (pc : Nat) (ls st : List Value) (m : Mem), Kp M m ∧ C pc ls st m = some (r, Mf)
theorem kp_r : Kp M M := ⟨rfl, rfl⟩
theorem kp_w {a k : Nat} {v : Int32} (h : a ≠ 0 ∧ a ≠ 1) : Kp M (wI M a k v) := ⟨wI_na (fun e => h.1 e.symm), wI_na (fun e => h.2 e.symm)⟩
theorem kp_k {a k : Nat} (h : isK O2 M a k = true) (hk : 2 ≤ k) : a ≠ 0 ∧ a ≠ 1 := by
  have e : (sh0 a).1 = k := Nat.eq_of_beq_eq_true h
  constructor
  · intro q
    rw [q] at e
    have : (sh0 0).1 = 0 := rfl
    omega
  · intro q
    rw [q] at e
    have : (sh0 1).1 = 1 := rfl
    omega
theorem kp_at {a k : Nat} {i : Int32} (h : at_ O2 M a k i = true) (hk : 2 ≤ k) : a ≠ 0 ∧ a ≠ 1 := by
  unfold at_ at h
  rw [Bool.and_eq_true] at h
  exact kp_k h.1 hk
theorem kp_R {a k v : Nat} {m : Mem} (h : pR O2 M a k v = some m) : Kp M m := by
  have h : wR2 M a k v = some m := h
  unfold wR2 at h
  cases hb : Nat.beq (sR a k) 0 with
  | false => rw [hb] at h; cases h
  | true => rw [hb] at h; cases h; exact ⟨rfl, rfl⟩
theorem kp_go {pc : Nat} {ls st : List Value} {m : Mem} (h : Kp M m) : KR M (fun C => C pc ls st m) := fun _ _ _ e => Or.inr ⟨_, _, _, _, h, e⟩
theorem kp_none : KR M (fun _ => none) := fun _ _ _ e => by cases e
theorem kp_gb {b : Bool} {f : Cont Mem → Rs Mem} (h : KR M f) : KR M (fun C => gb b (f C)) := fun C r Mf e => h C r Mf (gb_some e).2
theorem kp_ite {P : Prop} [Decidable P] {f g : Cont Mem → Rs Mem} (hf : KR M f) (hg : KR M g) : KR M (fun C => if P then f C else g C) := fun C r Mf e => by
  dsimp only at e
  split at e
  · exact hf C r Mf e
  · exact hg C r Mf e
theorem kp_bb {b : Bool} {f g : Cont Mem → Rs Mem} (hf : KR M f) (hg : KR M g) : KR M (fun C => bb b (f C) (g C)) := by
  cases b
  · exact hg
  · exact hf
theorem kp_oE {α : Type} {q : Option α} {f : α → Cont Mem → Rs Mem} {g : Cont Mem → Rs Mem} (h : ∀ x, KR M (f x)) (hg : KR M g) : KR M (fun C => oE q (fun x => f x C) (g C)) := by
  cases q with
  | none => exact hg
  | some x => exact h x
theorem kp_oX {α : Type} {q : Option α} {f : α → Cont Mem → Rs Mem} (h : ∀ x, KR M (f x)) : KR M (fun C => oX q (fun x => f x C)) := by
  cases q with
  | none => exact kp_none
  | some x => exact h x
theorem kp_oB {q : Option Mem} {f : Mem → Cont Mem → Rs Mem} (h : ∀ x, q = some x → KR M (f x)) : KR M (fun C => oB q (fun x => f x C)) := by
  cases q with
  | none => exact kp_none
  | some x => exact h x rfl
theorem kp_oP {q : Option (Nat × Mem)} {f : Nat → Mem → Cont Mem → Rs Mem} (h : ∀ a x, q = some (a, x) → KR M (f a x)) : KR M (fun C => oP q (fun a x => f a x C)) := by
  cases q with
  | none => exact kp_none
  | some x => exact h x.1 x.2 rfl
theorem kp_br {cd : Jvm.ClassFile.Cond} {x y : Int32} {f g : Cont Mem → Rs Mem} (hf : KR M f) (hg : KR M g) : KR M (fun C => br cd x y (f C) (g C)) := by
  cases cd
  · exact kp_ite hf hg
  · exact kp_ite hg hf
  · exact kp_ite hf hg
  · exact kp_ite hg hf
  · exact kp_ite hf hg
  · exact kp_ite hg hf
theorem kp_bra {cd : Jvm.ClassFile.ACond} {x y : Nat} {f g : Cont Mem → Rs Mem} (hf : KR M f) (hg : KR M g) : KR M (fun C => bra cd x y (f C) (g C)) := by
  cases cd
  · exact kp_ite hf hg
  · exact kp_ite hg hf
theorem kp_swt {x : Int32} {f : Int → Cont Mem → Rs Mem} {d : Cont Mem → Rs Mem} (hf : ∀ q, KR M (f q)) (hd : KR M d) : ∀ (l : List Int) (k : Int), KR M (fun C => swt x (fun q => f q C) (d C) k l)
  | [], _ => hd
  | q :: l, k => kp_ite (hf q) (kp_swt hf hd l (k + 1))
theorem kp_swl {x : Int32} {f : Int → Cont Mem → Rs Mem} {d : Cont Mem → Rs Mem} (hf : ∀ q, KR M (f q)) (hd : KR M d) : ∀ (l : List (Int × Int)), KR M (fun C => swl x (fun q => f q C) (d C) l)
  | [] => hd
  | (_, q) :: l => kp_ite (hf q) (kp_swl hf hd l)
theorem kp_ivk (hK : ∀ me as M r M', K me as M = some (r, M') → Kp M M') {me : MD} {nx : Nat} {ls as rest : List Value} : KR M (fun C => ivk K C me nx ls as rest M) := fun C r Mf e => by
  obtain ⟨v, m', h1, h2⟩ := inv_ivk e
  exact Or.inr ⟨_, _, _, _, hK _ _ _ _ _ h1, h2⟩
theorem kp_gT {b : Bool} {f : Cont Mem → Rs Mem} (h : b = true → KR M f) : KR M (fun C => gb b (f C)) := fun C r Mf e => h (gb_some e).1 C r Mf (gb_some e).2
theorem kp_oE2 {α : Type} {q : Option α} {f : α → Cont Mem → Rs Mem} (h : ∀ x, q = some x → KR M (f x)) : KR M (fun C => oX q (fun x => f x C)) := by
  cases q with
  | none => exact kp_none
  | some x => exact h x rfl
theorem kp_u1 {st : List Value} {f : Int32 → List Value → Cont Mem → Rs Mem} (h : ∀ x0 x1, KR M (f x0 x1)) : KR M (fun C => u1 st (fun x0 x1 => f x0 x1 C)) := fun C r Mf e => by
  obtain ⟨y0, y1, -, e⟩ := inv_u1 e
  exact h _ _ C r Mf e
theorem kp_b2 {st : List Value} {f : Int32 → Int32 → List Value → Cont Mem → Rs Mem} (h : ∀ x0 x1 x2, KR M (f x0 x1 x2)) : KR M (fun C => b2 st (fun x0 x1 x2 => f x0 x1 x2 C)) := fun C r Mf e => by
  obtain ⟨y0, y1, y2, -, e⟩ := inv_b2 e
  exact h _ _ _ C r Mf e
theorem kp_ul {st : List Value} {f : Int64 → List Value → Cont Mem → Rs Mem} (h : ∀ x0 x1, KR M (f x0 x1)) : KR M (fun C => ul st (fun x0 x1 => f x0 x1 C)) := fun C r Mf e => by
  obtain ⟨y0, y1, -, e⟩ := inv_ul e
  exact h _ _ C r Mf e
theorem kp_bl {st : List Value} {f : Int64 → Int64 → List Value → Cont Mem → Rs Mem} (h : ∀ x0 x1 x2, KR M (f x0 x1 x2)) : KR M (fun C => bl st (fun x0 x1 x2 => f x0 x1 x2 C)) := fun C r Mf e => by
  obtain ⟨y0, y1, y2, -, e⟩ := inv_bl e
  exact h _ _ _ C r Mf e
theorem kp_li {st : List Value} {f : Int64 → Int32 → List Value → Cont Mem → Rs Mem} (h : ∀ x0 x1 x2, KR M (f x0 x1 x2)) : KR M (fun C => li st (fun x0 x1 x2 => f x0 x1 x2 C)) := fun C r Mf e => by
  obtain ⟨y0, y1, y2, -, e⟩ := inv_li e
  exact h _ _ _ C r Mf e
theorem kp_ua {st : List Value} {f : Nat → List Value → Cont Mem → Rs Mem} (h : ∀ x0 x1, KR M (f x0 x1)) : KR M (fun C => ua st (fun x0 x1 => f x0 x1 C)) := fun C r Mf e => by
  obtain ⟨y0, y1, -, e⟩ := inv_ua e
  exact h _ _ C r Mf e
theorem kp_ba {st : List Value} {f : Nat → Nat → List Value → Cont Mem → Rs Mem} (h : ∀ x0 x1 x2, KR M (f x0 x1 x2)) : KR M (fun C => ba st (fun x0 x1 x2 => f x0 x1 x2 C)) := fun C r Mf e => by
  obtain ⟨y0, y1, y2, -, e⟩ := inv_ba e
  exact h _ _ _ C r Mf e
theorem kp_ai {st : List Value} {f : Nat → Int32 → List Value → Cont Mem → Rs Mem} (h : ∀ x0 x1 x2, KR M (f x0 x1 x2)) : KR M (fun C => ai st (fun x0 x1 x2 => f x0 x1 x2 C)) := fun C r Mf e => by
  obtain ⟨y0, y1, y2, -, e⟩ := inv_ai e
  exact h _ _ _ C r Mf e
theorem kp_aii {st : List Value} {f : Nat → Int32 → Int32 → List Value → Cont Mem → Rs Mem} (h : ∀ x0 x1 x2 x3, KR M (f x0 x1 x2 x3)) : KR M (fun C => aii st (fun x0 x1 x2 x3 => f x0 x1 x2 x3 C)) := fun C r Mf e => by
  obtain ⟨y0, y1, y2, y3, -, e⟩ := inv_aii e
  exact h _ _ _ _ C r Mf e
theorem kp_ail {st : List Value} {f : Nat → Int32 → Int64 → List Value → Cont Mem → Rs Mem} (h : ∀ x0 x1 x2 x3, KR M (f x0 x1 x2 x3)) : KR M (fun C => ail st (fun x0 x1 x2 x3 => f x0 x1 x2 x3 C)) := fun C r Mf e => by
  obtain ⟨y0, y1, y2, y3, -, e⟩ := inv_ail e
  exact h _ _ _ _ C r Mf e
theorem kp_aia {st : List Value} {f : Nat → Int32 → Nat → List Value → Cont Mem → Rs Mem} (h : ∀ x0 x1 x2 x3, KR M (f x0 x1 x2 x3)) : KR M (fun C => aia st (fun x0 x1 x2 x3 => f x0 x1 x2 x3 C)) := fun C r Mf e => by
  obtain ⟨y0, y1, y2, y3, -, e⟩ := inv_aia e
  exact h _ _ _ _ C r Mf e
theorem kp_ia {st : List Value} {f : Nat → Int32 → List Value → Cont Mem → Rs Mem} (h : ∀ x0 x1 x2, KR M (f x0 x1 x2)) : KR M (fun C => ia st (fun x0 x1 x2 => f x0 x1 x2 C)) := fun C r Mf e => by
  obtain ⟨y0, y1, y2, -, e⟩ := inv_ia e
  exact h _ _ _ C r Mf e
theorem kp_la {st : List Value} {f : Nat → Int64 → List Value → Cont Mem → Rs Mem} (h : ∀ x0 x1 x2, KR M (f x0 x1 x2)) : KR M (fun C => la st (fun x0 x1 x2 => f x0 x1 x2 C)) := fun C r Mf e => by
  obtain ⟨y0, y1, y2, -, e⟩ := inv_la e
  exact h _ _ _ C r Mf e
theorem kp_v1 {st : List Value} {f : Value → List Value → Cont Mem → Rs Mem} (h : ∀ x0 x1, KR M (f x0 x1)) : KR M (fun C => v1 st (fun x0 x1 => f x0 x1 C)) := fun C r Mf e => by
  obtain ⟨y0, y1, -, -, e⟩ := inv_v1 e
  exact h _ _ C r Mf e
theorem kp_v2 {st : List Value} {f : Value → Value → List Value → Cont Mem → Rs Mem} (h : ∀ x0 x1 x2, KR M (f x0 x1 x2)) : KR M (fun C => v2 st (fun x0 x1 x2 => f x0 x1 x2 C)) := fun C r Mf e => by
  obtain ⟨y0, y1, y2, -, -, -, e⟩ := inv_v2 e
  exact h _ _ _ C r Mf e
theorem kp_ldI {ls : List Value} {k : Nat} {f : Int32 → Cont Mem → Rs Mem} (h : ∀ x, KR M (f x)) : KR M (fun C => ldI ls k (fun x => f x C)) := fun C r Mf e => by
  obtain ⟨x, -, e⟩ := inv_ldI e
  exact h _ C r Mf e
theorem kp_ldA {ls : List Value} {k : Nat} {f : Nat → Cont Mem → Rs Mem} (h : ∀ x, KR M (f x)) : KR M (fun C => ldA ls k (fun x => f x C)) := fun C r Mf e => by
  obtain ⟨x, -, e⟩ := inv_ldA e
  exact h _ C r Mf e
theorem kp_ldL {ls : List Value} {k : Nat} {f : Int64 → Cont Mem → Rs Mem} (h : ∀ x, KR M (f x)) : KR M (fun C => ldL ls k (fun x => f x C)) := fun C r Mf e => by
  obtain ⟨x, -, -, e⟩ := inv_ldL e
  exact h _ C r Mf e
theorem kp_getF {nx : Nat} {ls rest : List Value} {a : Nat} {f : Nat × Nat × Nat × Bool × Nat} : KR M (fun C => getF O2 C nx ls rest M a f) := by
  unfold getF
  refine kp_gb ?_
  split <;> exact kp_go kp_r
theorem kp_putF {nx : Nat} {ls st : List Value} {f : Nat × Nat × Nat × Bool × Nat} (hf : 2 ≤ f.1) : KR M (fun C => putF O2 C me nx ls st M f) := by
  unfold putF
  refine kp_gb ?_
  split
  · exact kp_ia (fun _ _ _ => kp_gT (fun e => kp_go (kp_w (kp_k e hf))))
  · exact kp_la (fun _ _ _ => kp_gb (kp_go kp_r))
  · exact kp_ba (fun _ _ _ => kp_gb (kp_oB (fun _ e => kp_go (kp_R e))))
  · exact kp_ia (fun _ _ _ => kp_gT (fun e => kp_gb (kp_go (kp_w (kp_k e hf)))))
  · exact kp_none
theorem kp_sto {nx : Nat} {ls : List Value} {i : Nat} {v : Value} {rest : List Value} : KR M (fun C => sto C nx ls i v rest M) := kp_gb (kp_go kp_r)
theorem kp_sto2 {nx : Nat} {ls : List Value} {i : Nat} {v : Int64} {rest : List Value} : KR M (fun C => sto2 C nx ls i v rest M) := kp_gb (kp_go kp_r)
theorem kp_newA {nx : Nat} {ls rest : List Value} {k : Nat} {n : Int32} : KR M (fun C => newA O2 C nx ls rest M k n) := kp_gb (kp_oP (fun _ _ e => by cases (show (none : Option (Nat × Mem)) = some (_, _) from e)))
set_option maxHeartbeats 4000000 in
theorem kp_ins (hK : ∀ me as M r M', K me as M = some (r, M') → Kp M M') (pc nx : Nat) (ls st : List Value) (i : Jvm.ClassFile.Instr) : KR M (fun C => ins O2 K C me pc nx ls st M i) := by
  cases i
  case iload_n => exact kp_ldI (fun _ => kp_go kp_r)
  case iload => exact kp_ldI (fun _ => kp_go kp_r)
  case aload_n => exact kp_ldA (fun _ => kp_go kp_r)
  case aload => exact kp_ldA (fun _ => kp_go kp_r)
  case lload_n => exact kp_ldL (fun _ => kp_go kp_r)
  case lload => exact kp_ldL (fun _ => kp_go kp_r)
  case istore_n => exact kp_u1 (fun _ _ => kp_sto)
  case istore => exact kp_u1 (fun _ _ => kp_sto)
  case astore_n => exact kp_ua (fun _ _ => kp_sto)
  case astore => exact kp_ua (fun _ _ => kp_sto)
  case lstore_n => exact kp_ul (fun _ _ => kp_sto2)
  case lstore => exact kp_ul (fun _ _ => kp_sto2)
  case iinc => exact kp_ldI (fun _ => kp_sto)
  case iconst => exact kp_go kp_r
  case bipush => exact kp_go kp_r
  case sipush => exact kp_go kp_r
  case lconst => exact kp_go kp_r
  case ldc => exact kp_oE (fun _ => kp_go kp_r) (kp_oX (fun _ => kp_go kp_r))
  case ldc_w => exact kp_oX (fun _ => kp_go kp_r)
  case ldc2_w => exact kp_oX (fun _ => kp_go kp_r)
  case idiv => exact kp_b2 (fun _ _ _ => kp_gb (kp_go kp_r))
  case irem => exact kp_b2 (fun _ _ _ => kp_gb (kp_go kp_r))
  case dup => exact kp_v1 (fun _ _ => kp_go kp_r)
  case pop => exact kp_v1 (fun _ _ => kp_go kp_r)
  case dup_x1 => exact kp_v2 (fun _ _ _ => kp_go kp_r)
  case dup2 => exact kp_v2 (fun _ _ _ => kp_go kp_r)
  case ifCond => exact kp_u1 (fun _ _ => kp_br (kp_go kp_r) (kp_go kp_r))
  case if_icmp => exact kp_b2 (fun _ _ _ => kp_br (kp_go kp_r) (kp_go kp_r))
  case if_acmp => exact kp_ba (fun _ _ _ => kp_gb (kp_bra (kp_go kp_r) (kp_go kp_r)))
  case ifnull => exact kp_ua (fun _ _ => kp_gb (kp_ite (kp_go kp_r) (kp_go kp_r)))
  case ifnonnull => exact kp_ua (fun _ _ => kp_gb (kp_ite (kp_go kp_r) (kp_go kp_r)))
  case goto => exact kp_go kp_r
  case tableswitch => exact kp_u1 (fun _ _ => kp_swt (fun _ => kp_go kp_r) (kp_go kp_r) _ _)
  case lookupswitch => exact kp_u1 (fun _ _ => kp_swl (fun _ => kp_go kp_r) (kp_go kp_r) _)
  case getfield => exact kp_oX (fun _ => kp_ua (fun _ _ => kp_getF))
  case putfield => exact kp_oE2 (fun x e => kp_putF (fres_2 e))
  case getstatic => exact kp_oX (fun _ => kp_bb (kp_go kp_r) (kp_go kp_r))
  case iaload => exact kp_ai (fun _ _ _ => kp_bb (kp_gb (kp_go kp_r)) (kp_gb (kp_go kp_r)))
  case baload => exact kp_ai (fun _ _ _ => kp_bb (kp_gb (kp_go kp_r)) (kp_gb (kp_go kp_r)))
  case laload => exact kp_ai (fun _ _ _ => kp_gb (kp_go kp_r))
  case aaload => exact kp_ai (fun _ _ _ => kp_gb (kp_go kp_r))
  case iastore => exact kp_aii (fun _ _ _ _ => kp_gT (fun e => kp_go (kp_w (kp_at e (by decide)))))
  case bastore => exact kp_aii (fun _ _ _ _ => kp_bb (kp_gT (fun e => kp_go (kp_w (kp_at e (by decide))))) (kp_gT (fun e => kp_go (kp_w (kp_at e (by decide))))))
  case lastore => exact kp_ail (fun _ _ _ _ => kp_gb (kp_go kp_r))
  case aastore => exact kp_aia (fun _ _ _ _ => kp_gb (kp_oB (fun _ e => kp_go (kp_R e))))
  case arraylength => exact kp_ua (fun _ _ => kp_bb (kp_go kp_r) (kp_gb (kp_go kp_r)))
  case new => exact kp_oX (fun _ => kp_oP (fun _ _ e => by cases (show (none : Option (Nat × Mem)) = some (_, _) from e)))
  case newarray => exact kp_u1 (fun _ _ => kp_newA)
  case anewarray => exact kp_oX (fun _ => kp_u1 (fun _ _ => kp_newA))
  case invokevirtual => exact kp_oX (fun _ => kp_gb (kp_ua (fun _ _ => kp_gb (kp_ivk hK))))
  case invokestatic => exact kp_oX (fun _ => kp_gb (kp_ivk hK))
  case invokespecial => exact kp_bb (kp_ua (fun _ _ => kp_gb (kp_go kp_r))) (kp_oX (fun _ => kp_gb (kp_ua (fun _ _ => kp_gb (kp_ivk hK)))))
  case ireturn => exact fun C r Mf e => Or.inl (by rw [ret1_memK e]; exact kp_r)
  case lreturn => exact fun C r Mf e => Or.inl (by
    have e : ((match (generalizing := false) st with | [.long v] => (match (generalizing := false) me.2.2.2.2.1 with | 6 => some (.long v, M) | _ => none) | _ => none) : Rs Mem) = some (r, Mf) := e
    repeat' split at e
    all_goals first | (cases e; exact kp_r) | cases e)
  case areturn => exact fun C r Mf e => Or.inl (by
    have e : ((match (generalizing := false) st with | [.ref v] => (match (generalizing := false) me.2.2.2.2.1 with | 7 => some (.ref v, M) | _ => none) | _ => none) : Rs Mem) = some (r, Mf) := e
    repeat' split at e
    all_goals first | (cases e; exact kp_r) | cases e)
  case return_ => exact fun C r Mf e => Or.inl (by
    have e : ((match (generalizing := false) st with | [] => (match (generalizing := false) me.2.2.2.2.1 with | 0 => some (.null, M) | _ => none) | _ => none) : Rs Mem) = some (r, Mf) := e
    repeat' split at e
    all_goals first | (cases e; exact kp_r) | cases e)
  all_goals first
    | exact kp_b2 (fun _ _ _ => kp_go kp_r)
    | exact kp_bl (fun _ _ _ => kp_go kp_r)
    | exact kp_li (fun _ _ _ => kp_go kp_r)
    | exact kp_u1 (fun _ _ => kp_go kp_r)
    | exact kp_ul (fun _ _ => kp_go kp_r)
    | exact kp_none
theorem kp_run (hK : ∀ me as M r M', K me as M = some (r, M') → Kp M M') : ∀ (n pc : Nat) (ls st : List Value) (M : Mem) (r : Value) (Mf : Mem), run O2 K me n pc ls st M = some (r, Mf) → Kp M Mf
  | 0, _, _, _, _, _, _, h => by cases h
  | n + 1, pc, ls, st, M, r, Mf, h => by
    have h : stp O2 K me (run O2 K me n) pc ls st M = some (r, Mf) := h
    unfold stp at h
    split at h
    · rcases kp_ins hK _ _ _ _ _ _ _ _ h with h | ⟨pc', ls', st', m', g, h⟩
      · exact h
      · have g2 := kp_run hK n _ _ _ _ _ _ h
        exact ⟨g2.1.trans g.1, g2.2.trans g.2⟩
    · cases h
theorem kp_cl : ∀ (d : Nat) (me : MD) (as : List Value) (M : Mem) (r : Value) (M' : Mem), cl O2 d me as M = some (r, M') → Kp M M'
  | 0, _, _, _, _, _, h => by cases h
  | d + 1, me, as, M, r, M', h => by
    obtain ⟨n, hn⟩ := lim_some.mp (gb_some (show gb (aOk me.2.2.2.1 as) (lim O2 (cl O2 d) me 0 (ent me.2.2.2.1 as) [] M) = some (r, M') from h)).2
    exact kp_run (kp_cl d) n _ _ _ _ _ _ hn
end Keep
