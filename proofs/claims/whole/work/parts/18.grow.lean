/-! GROWTH: no cell goes; then every method meets its contract. -/
section Grow
variable {K : MD → List Value → M1 → Rs M1} {me : MD} {M : M1}
def GR (M : M1) (f : Cont M1 → Rs M1) : Prop := ∀ (C : Cont M1) (r : Value) (Mf : M1), f C = some (r, Mf) → Gw M Mf ∨ ∃ (pc : Nat) (ls st : List Value) (m : M1), Gw M m ∧ C pc ls st m = some (r, Mf)
theorem gw_r : Gw M M := ⟨Nat.le_refl _, Nat.le_refl _⟩
theorem gr_go {pc : Nat} {ls st : List Value} {m : M1} (h : Gw M m) : GR M (fun C => C pc ls st m) := fun _ _ _ e => Or.inr ⟨_, _, _, _, h, e⟩
theorem gr_none : GR M (fun _ => none) := fun _ _ _ e => by cases e
theorem gr_gb {b : Bool} {f : Cont M1 → Rs M1} (h : GR M f) : GR M (fun C => gb b (f C)) := fun C r Mf e => h C r Mf (gb_some e).2
theorem gr_ite {P : Prop} [Decidable P] {f g : Cont M1 → Rs M1} (hf : GR M f) (hg : GR M g) : GR M (fun C => if P then f C else g C) := fun C r Mf e => by
  dsimp only at e
  split at e
  · exact hf C r Mf e
  · exact hg C r Mf e
theorem gr_bb {b : Bool} {f g : Cont M1 → Rs M1} (hf : GR M f) (hg : GR M g) : GR M (fun C => bb b (f C) (g C)) := by
  cases b
  · exact hg
  · exact hf
theorem gr_oE {α : Type} {q : Option α} {f : α → Cont M1 → Rs M1} {g : Cont M1 → Rs M1} (h : ∀ x, GR M (f x)) (hg : GR M g) : GR M (fun C => oE q (fun x => f x C) (g C)) := by
  cases q with
  | none => exact hg
  | some x => exact h x
theorem gr_oX {α : Type} {q : Option α} {f : α → Cont M1 → Rs M1} (h : ∀ x, GR M (f x)) : GR M (fun C => oX q (fun x => f x C)) := by
  cases q with
  | none => exact gr_none
  | some x => exact h x
theorem gr_oB {q : Option M1} {f : M1 → Cont M1 → Rs M1} (h : ∀ x, q = some x → GR M (f x)) : GR M (fun C => oB q (fun x => f x C)) := by
  cases q with
  | none => exact gr_none
  | some x => exact h x rfl
theorem gr_oP {q : Option (Nat × M1)} {f : Nat → M1 → Cont M1 → Rs M1} (h : ∀ a x, q = some (a, x) → GR M (f a x)) : GR M (fun C => oP q (fun a x => f a x C)) := by
  cases q with
  | none => exact gr_none
  | some x => exact h x.1 x.2 rfl
theorem gr_br {cd : Jvm.ClassFile.Cond} {x y : Int32} {f g : Cont M1 → Rs M1} (hf : GR M f) (hg : GR M g) : GR M (fun C => br cd x y (f C) (g C)) := by
  cases cd
  · exact gr_ite hf hg
  · exact gr_ite hg hf
  · exact gr_ite hf hg
  · exact gr_ite hg hf
  · exact gr_ite hf hg
  · exact gr_ite hg hf
theorem gr_bra {cd : Jvm.ClassFile.ACond} {x y : Nat} {f g : Cont M1 → Rs M1} (hf : GR M f) (hg : GR M g) : GR M (fun C => bra cd x y (f C) (g C)) := by
  cases cd
  · exact gr_ite hf hg
  · exact gr_ite hg hf
theorem gr_swt {x : Int32} {f : Int → Cont M1 → Rs M1} {d : Cont M1 → Rs M1} (hf : ∀ q, GR M (f q)) (hd : GR M d) : ∀ (l : List Int) (k : Int), GR M (fun C => swt x (fun q => f q C) (d C) k l)
  | [], _ => hd
  | q :: l, k => gr_ite (hf q) (gr_swt hf hd l (k + 1))
theorem gr_swl {x : Int32} {f : Int → Cont M1 → Rs M1} {d : Cont M1 → Rs M1} (hf : ∀ q, GR M (f q)) (hd : GR M d) : ∀ (l : List (Int × Int)), GR M (fun C => swl x (fun q => f q C) (d C) l)
  | [] => hd
  | (_, q) :: l => gr_ite (hf q) (gr_swl hf hd l)
theorem gr_ivk (hK : ∀ me as M r M', K me as M = some (r, M') → Gw M M') {me : MD} {nx : Nat} {ls as rest : List Value} : GR M (fun C => ivk K C me nx ls as rest M) := fun C r Mf e => by
  obtain ⟨v, m', h1, h2⟩ := inv_ivk e
  exact Or.inr ⟨_, _, _, _, hK _ _ _ _ _ h1, h2⟩
theorem gr_n1 {sh : Nat × Nat} {w a : Nat} {m : M1} (h : n1 M sh w = some (a, m)) : Gw M m := by
  obtain ⟨-, -, e⟩ := n1_spec h
  rw [e]
  exact ⟨Nat.le_succ _, Nat.le_add_right _ _⟩
theorem gr_u1 {st : List Value} {f : Int32 → List Value → Cont M1 → Rs M1} (h : ∀ x0 x1, GR M (f x0 x1)) : GR M (fun C => u1 st (fun x0 x1 => f x0 x1 C)) := fun C r Mf e => by
  obtain ⟨y0, y1, -, e⟩ := inv_u1 e
  exact h _ _ C r Mf e
theorem gr_b2 {st : List Value} {f : Int32 → Int32 → List Value → Cont M1 → Rs M1} (h : ∀ x0 x1 x2, GR M (f x0 x1 x2)) : GR M (fun C => b2 st (fun x0 x1 x2 => f x0 x1 x2 C)) := fun C r Mf e => by
  obtain ⟨y0, y1, y2, -, e⟩ := inv_b2 e
  exact h _ _ _ C r Mf e
theorem gr_ul {st : List Value} {f : Int64 → List Value → Cont M1 → Rs M1} (h : ∀ x0 x1, GR M (f x0 x1)) : GR M (fun C => ul st (fun x0 x1 => f x0 x1 C)) := fun C r Mf e => by
  obtain ⟨y0, y1, -, e⟩ := inv_ul e
  exact h _ _ C r Mf e
theorem gr_bl {st : List Value} {f : Int64 → Int64 → List Value → Cont M1 → Rs M1} (h : ∀ x0 x1 x2, GR M (f x0 x1 x2)) : GR M (fun C => bl st (fun x0 x1 x2 => f x0 x1 x2 C)) := fun C r Mf e => by
  obtain ⟨y0, y1, y2, -, e⟩ := inv_bl e
  exact h _ _ _ C r Mf e
theorem gr_li {st : List Value} {f : Int64 → Int32 → List Value → Cont M1 → Rs M1} (h : ∀ x0 x1 x2, GR M (f x0 x1 x2)) : GR M (fun C => li st (fun x0 x1 x2 => f x0 x1 x2 C)) := fun C r Mf e => by
  obtain ⟨y0, y1, y2, -, e⟩ := inv_li e
  exact h _ _ _ C r Mf e
theorem gr_ua {st : List Value} {f : Nat → List Value → Cont M1 → Rs M1} (h : ∀ x0 x1, GR M (f x0 x1)) : GR M (fun C => ua st (fun x0 x1 => f x0 x1 C)) := fun C r Mf e => by
  obtain ⟨y0, y1, -, e⟩ := inv_ua e
  exact h _ _ C r Mf e
theorem gr_ba {st : List Value} {f : Nat → Nat → List Value → Cont M1 → Rs M1} (h : ∀ x0 x1 x2, GR M (f x0 x1 x2)) : GR M (fun C => ba st (fun x0 x1 x2 => f x0 x1 x2 C)) := fun C r Mf e => by
  obtain ⟨y0, y1, y2, -, e⟩ := inv_ba e
  exact h _ _ _ C r Mf e
theorem gr_ai {st : List Value} {f : Nat → Int32 → List Value → Cont M1 → Rs M1} (h : ∀ x0 x1 x2, GR M (f x0 x1 x2)) : GR M (fun C => ai st (fun x0 x1 x2 => f x0 x1 x2 C)) := fun C r Mf e => by
  obtain ⟨y0, y1, y2, -, e⟩ := inv_ai e
  exact h _ _ _ C r Mf e
theorem gr_aii {st : List Value} {f : Nat → Int32 → Int32 → List Value → Cont M1 → Rs M1} (h : ∀ x0 x1 x2 x3, GR M (f x0 x1 x2 x3)) : GR M (fun C => aii st (fun x0 x1 x2 x3 => f x0 x1 x2 x3 C)) := fun C r Mf e => by
  obtain ⟨y0, y1, y2, y3, -, e⟩ := inv_aii e
  exact h _ _ _ _ C r Mf e
theorem gr_ail {st : List Value} {f : Nat → Int32 → Int64 → List Value → Cont M1 → Rs M1} (h : ∀ x0 x1 x2 x3, GR M (f x0 x1 x2 x3)) : GR M (fun C => ail st (fun x0 x1 x2 x3 => f x0 x1 x2 x3 C)) := fun C r Mf e => by
  obtain ⟨y0, y1, y2, y3, -, e⟩ := inv_ail e
  exact h _ _ _ _ C r Mf e
theorem gr_aia {st : List Value} {f : Nat → Int32 → Nat → List Value → Cont M1 → Rs M1} (h : ∀ x0 x1 x2 x3, GR M (f x0 x1 x2 x3)) : GR M (fun C => aia st (fun x0 x1 x2 x3 => f x0 x1 x2 x3 C)) := fun C r Mf e => by
  obtain ⟨y0, y1, y2, y3, -, e⟩ := inv_aia e
  exact h _ _ _ _ C r Mf e
theorem gr_ia {st : List Value} {f : Nat → Int32 → List Value → Cont M1 → Rs M1} (h : ∀ x0 x1 x2, GR M (f x0 x1 x2)) : GR M (fun C => ia st (fun x0 x1 x2 => f x0 x1 x2 C)) := fun C r Mf e => by
  obtain ⟨y0, y1, y2, -, e⟩ := inv_ia e
  exact h _ _ _ C r Mf e
theorem gr_la {st : List Value} {f : Nat → Int64 → List Value → Cont M1 → Rs M1} (h : ∀ x0 x1 x2, GR M (f x0 x1 x2)) : GR M (fun C => la st (fun x0 x1 x2 => f x0 x1 x2 C)) := fun C r Mf e => by
  obtain ⟨y0, y1, y2, -, e⟩ := inv_la e
  exact h _ _ _ C r Mf e
theorem gr_v1 {st : List Value} {f : Value → List Value → Cont M1 → Rs M1} (h : ∀ x0 x1, GR M (f x0 x1)) : GR M (fun C => v1 st (fun x0 x1 => f x0 x1 C)) := fun C r Mf e => by
  obtain ⟨y0, y1, -, -, e⟩ := inv_v1 e
  exact h _ _ C r Mf e
theorem gr_v2 {st : List Value} {f : Value → Value → List Value → Cont M1 → Rs M1} (h : ∀ x0 x1 x2, GR M (f x0 x1 x2)) : GR M (fun C => v2 st (fun x0 x1 x2 => f x0 x1 x2 C)) := fun C r Mf e => by
  obtain ⟨y0, y1, y2, -, -, -, e⟩ := inv_v2 e
  exact h _ _ _ C r Mf e
theorem gr_ldI {ls : List Value} {k : Nat} {f : Int32 → Cont M1 → Rs M1} (h : ∀ x, GR M (f x)) : GR M (fun C => ldI ls k (fun x => f x C)) := fun C r Mf e => by
  obtain ⟨x, -, e⟩ := inv_ldI e
  exact h _ C r Mf e
theorem gr_ldA {ls : List Value} {k : Nat} {f : Nat → Cont M1 → Rs M1} (h : ∀ x, GR M (f x)) : GR M (fun C => ldA ls k (fun x => f x C)) := fun C r Mf e => by
  obtain ⟨x, -, e⟩ := inv_ldA e
  exact h _ C r Mf e
theorem gr_ldL {ls : List Value} {k : Nat} {f : Int64 → Cont M1 → Rs M1} (h : ∀ x, GR M (f x)) : GR M (fun C => ldL ls k (fun x => f x C)) := fun C r Mf e => by
  obtain ⟨x, -, -, e⟩ := inv_ldL e
  exact h _ C r Mf e
theorem gr_getF {nx : Nat} {ls rest : List Value} {a : Nat} {f : Nat × Nat × Nat × Bool × Nat} : GR M (fun C => getF O1 C nx ls rest M a f) := by
  unfold getF
  refine gr_gb ?_
  split <;> exact gr_go gw_r
theorem gr_putF {nx : Nat} {ls st : List Value} {f : Nat × Nat × Nat × Bool × Nat} : GR M (fun C => putF O1 C me nx ls st M f) := by
  unfold putF
  refine gr_gb ?_
  split
  · exact gr_ia (fun _ _ _ => gr_gb (gr_go ⟨Nat.le_refl _, Nat.le_refl _⟩))
  · exact gr_la (fun _ _ _ => gr_gb (gr_go ⟨Nat.le_refl _, Nat.le_refl _⟩))
  · exact gr_ba (fun _ _ _ => gr_gb (gr_oB (fun _ e => by cases e; exact gr_go ⟨Nat.le_refl _, Nat.le_refl _⟩)))
  · exact gr_ia (fun _ _ _ => gr_gb (gr_gb (gr_go ⟨Nat.le_refl _, Nat.le_refl _⟩)))
  · exact gr_none
theorem gr_sto {nx : Nat} {ls : List Value} {i : Nat} {v : Value} {rest : List Value} : GR M (fun C => sto C nx ls i v rest M) := gr_gb (gr_go gw_r)
theorem gr_sto2 {nx : Nat} {ls : List Value} {i : Nat} {v : Int64} {rest : List Value} : GR M (fun C => sto2 C nx ls i v rest M) := gr_gb (gr_go gw_r)
theorem gr_newA {nx : Nat} {ls rest : List Value} {k : Nat} {n : Int32} : GR M (fun C => newA O1 C nx ls rest M k n) := gr_gb (gr_oP (fun _ _ e => gr_go (gr_n1 e)))
set_option maxHeartbeats 4000000 in
theorem gr_ins (hK : ∀ me as M r M', K me as M = some (r, M') → Gw M M') (pc nx : Nat) (ls st : List Value) (i : Jvm.ClassFile.Instr) : GR M (fun C => ins O1 K C me pc nx ls st M i) := by
  cases i
  case iload_n => exact gr_ldI (fun _ => gr_go gw_r)
  case iload => exact gr_ldI (fun _ => gr_go gw_r)
  case aload_n => exact gr_ldA (fun _ => gr_go gw_r)
  case aload => exact gr_ldA (fun _ => gr_go gw_r)
  case lload_n => exact gr_ldL (fun _ => gr_go gw_r)
  case lload => exact gr_ldL (fun _ => gr_go gw_r)
  case istore_n => exact gr_u1 (fun _ _ => gr_sto)
  case istore => exact gr_u1 (fun _ _ => gr_sto)
  case astore_n => exact gr_ua (fun _ _ => gr_sto)
  case astore => exact gr_ua (fun _ _ => gr_sto)
  case lstore_n => exact gr_ul (fun _ _ => gr_sto2)
  case lstore => exact gr_ul (fun _ _ => gr_sto2)
  case iinc => exact gr_ldI (fun _ => gr_sto)
  case iconst => exact gr_go gw_r
  case bipush => exact gr_go gw_r
  case sipush => exact gr_go gw_r
  case lconst => exact gr_go gw_r
  case ldc => exact gr_oE (fun _ => gr_go gw_r) (gr_oX (fun _ => gr_go gw_r))
  case ldc_w => exact gr_oX (fun _ => gr_go gw_r)
  case ldc2_w => exact gr_oX (fun _ => gr_go gw_r)
  case idiv => exact gr_b2 (fun _ _ _ => gr_gb (gr_go gw_r))
  case irem => exact gr_b2 (fun _ _ _ => gr_gb (gr_go gw_r))
  case dup => exact gr_v1 (fun _ _ => gr_go gw_r)
  case pop => exact gr_v1 (fun _ _ => gr_go gw_r)
  case dup_x1 => exact gr_v2 (fun _ _ _ => gr_go gw_r)
  case dup2 => exact gr_v2 (fun _ _ _ => gr_go gw_r)
  case ifCond => exact gr_u1 (fun _ _ => gr_br (gr_go gw_r) (gr_go gw_r))
  case if_icmp => exact gr_b2 (fun _ _ _ => gr_br (gr_go gw_r) (gr_go gw_r))
  case if_acmp => exact gr_ba (fun _ _ _ => gr_gb (gr_bra (gr_go gw_r) (gr_go gw_r)))
  case ifnull => exact gr_ua (fun _ _ => gr_gb (gr_ite (gr_go gw_r) (gr_go gw_r)))
  case ifnonnull => exact gr_ua (fun _ _ => gr_gb (gr_ite (gr_go gw_r) (gr_go gw_r)))
  case goto => exact gr_go gw_r
  case tableswitch => exact gr_u1 (fun _ _ => gr_swt (fun _ => gr_go gw_r) (gr_go gw_r) _ _)
  case lookupswitch => exact gr_u1 (fun _ _ => gr_swl (fun _ => gr_go gw_r) (gr_go gw_r) _)
  case getfield => exact gr_oX (fun _ => gr_ua (fun _ _ => gr_getF))
  case putfield => exact gr_oX (fun _ => gr_putF)
  case getstatic => exact gr_oX (fun _ => gr_bb (gr_go gw_r) (gr_go gw_r))
  case iaload => exact gr_ai (fun _ _ _ => gr_bb (gr_gb (gr_go gw_r)) (gr_gb (gr_go gw_r)))
  case baload => exact gr_ai (fun _ _ _ => gr_bb (gr_gb (gr_go gw_r)) (gr_gb (gr_go gw_r)))
  case laload => exact gr_ai (fun _ _ _ => gr_gb (gr_go gw_r))
  case aaload => exact gr_ai (fun _ _ _ => gr_gb (gr_go gw_r))
  case iastore => exact gr_aii (fun _ _ _ _ => gr_gb (gr_go ⟨Nat.le_refl _, Nat.le_refl _⟩))
  case bastore => exact gr_aii (fun _ _ _ _ => gr_bb (gr_gb (gr_go ⟨Nat.le_refl _, Nat.le_refl _⟩)) (gr_gb (gr_go ⟨Nat.le_refl _, Nat.le_refl _⟩)))
  case lastore => exact gr_ail (fun _ _ _ _ => gr_gb (gr_go ⟨Nat.le_refl _, Nat.le_refl _⟩))
  case aastore => exact gr_aia (fun _ _ _ _ => gr_gb (gr_oB (fun _ e => by cases e; exact gr_go ⟨Nat.le_refl _, Nat.le_refl _⟩)))
  case arraylength => exact gr_ua (fun _ _ => gr_bb (gr_go gw_r) (gr_gb (gr_go gw_r)))
  case new => exact gr_oX (fun _ => gr_oP (fun _ _ e => gr_go (gr_n1 e)))
  case newarray => exact gr_u1 (fun _ _ => gr_newA)
  case anewarray => exact gr_oX (fun _ => gr_u1 (fun _ _ => gr_newA))
  case invokevirtual => exact gr_oX (fun _ => gr_gb (gr_ua (fun _ _ => gr_gb (gr_ivk hK))))
  case invokestatic => exact gr_oX (fun _ => gr_gb (gr_ivk hK))
  case invokespecial => exact gr_bb (gr_ua (fun _ _ => gr_gb (gr_go gw_r))) (gr_oX (fun _ => gr_gb (gr_ua (fun _ _ => gr_gb (gr_ivk hK)))))
  case ireturn => exact fun C r Mf e => Or.inl (by rw [ret1_mem e]; exact gw_r)
  case lreturn => exact fun C r Mf e => Or.inl (by
    have e : ((match (generalizing := false) st with | [.long v] => (match (generalizing := false) me.2.2.2.2.1 with | 6 => some (.long v, M) | _ => none) | _ => none) : Rs M1) = some (r, Mf) := e
    repeat' split at e
    all_goals first | (cases e; exact gw_r) | cases e)
  case areturn => exact fun C r Mf e => Or.inl (by
    have e : ((match (generalizing := false) st with | [.ref v] => (match (generalizing := false) me.2.2.2.2.1 with | 7 => some (.ref v, M) | _ => none) | _ => none) : Rs M1) = some (r, Mf) := e
    repeat' split at e
    all_goals first | (cases e; exact gw_r) | cases e)
  case return_ => exact fun C r Mf e => Or.inl (by
    have e : ((match (generalizing := false) st with | [] => (match (generalizing := false) me.2.2.2.2.1 with | 0 => some (.null, M) | _ => none) | _ => none) : Rs M1) = some (r, Mf) := e
    repeat' split at e
    all_goals first | (cases e; exact gw_r) | cases e)
  all_goals first
    | exact gr_b2 (fun _ _ _ => gr_go gw_r)
    | exact gr_bl (fun _ _ _ => gr_go gw_r)
    | exact gr_li (fun _ _ _ => gr_go gw_r)
    | exact gr_u1 (fun _ _ => gr_go gw_r)
    | exact gr_ul (fun _ _ => gr_go gw_r)
    | exact gr_none
theorem gr_run (hK : ∀ me as M r M', K me as M = some (r, M') → Gw M M') : ∀ (n pc : Nat) (ls st : List Value) (M : M1) (r : Value) (Mf : M1), run O1 K me n pc ls st M = some (r, Mf) → Gw M Mf
  | 0, _, _, _, _, _, _, h => by cases h
  | n + 1, pc, ls, st, M, r, Mf, h => by
    have h : stp O1 K me (run O1 K me n) pc ls st M = some (r, Mf) := h
    unfold stp at h
    split at h
    · rcases gr_ins hK _ _ _ _ _ _ _ _ h with h | ⟨pc', ls', st', m', g, h⟩
      · exact h
      · have g2 := gr_run hK n _ _ _ _ _ _ h
        exact ⟨Nat.le_trans g.1 g2.1, Nat.le_trans g.2 g2.2⟩
    · cases h
theorem gr_cl : ∀ (d : Nat) (me : MD) (as : List Value) (M : M1) (r : Value) (M' : M1), cl O1 d me as M = some (r, M') → Gw M M'
  | 0, _, _, _, _, _, h => by cases h
  | d + 1, me, as, M, r, M', h => by
    obtain ⟨n, hn⟩ := lim_some.mp (gb_some (show gb (aOk me.2.2.2.1 as) (lim O1 (cl O1 d) me 0 (ent me.2.2.2.1 as) [] M) = some (r, M') from h)).2
    exact gr_run (gr_cl d) n _ _ _ _ _ _ hn
end Grow
theorem cv_long {G : Wd} {v : Value} {x : Int64} (h : cv G v = .long x) : v = .long x := by
  cases v with
  | ref n => exact absurd h (by show va_rf _ ≠ _; cases adr G n <;> simp [va_rf])
  | long y => exact h
  | _ => cases h
/-- the locals at a method's entry -/
theorem ent_LH {G : Wd} {n : Nat} {as : List Value} (hok : ∀ v ∈ as, (∃ x, v = .int x) ∨ (∃ x, v = .ref x) ∨ ∃ x, v = .long x) (hn : (entA as).length ≤ n) : LH G ((lg_sl (as.map (cv G)) ++ List.replicate (n - (lg_sl (as.map (cv G))).length) Slot.unset).toArray) n (ent n as) := by
  have hlen : ∀ as : List Value, (∀ v ∈ as, (∃ x, v = .int x) ∨ (∃ x, v = .ref x) ∨ ∃ x, v = .long x) → (lg_sl (as.map (cv G))).length = (entA as).length ∧ ∀ i v, (entA as)[i]? = some v → okL (entA as) i v → (lg_sl (as.map (cv G)))[i]? = some (.val (cv G v)) := by
    intro as
    induction as with
    | nil => intro _; exact ⟨rfl, fun i v h => by simp [entA] at h⟩
    | cons a as ih =>
      intro hok
      have ih := ih (fun v hv => hok v (List.mem_cons_of_mem _ hv))
      rcases hok a List.mem_cons_self with ⟨x, rfl⟩ | ⟨x, rfl⟩ | ⟨x, rfl⟩
      · have e1 : lg_sl ((Value.int x :: as).map (cv G)) = Slot.val (.int x) :: lg_sl (as.map (cv G)) := rfl
        refine ⟨by rw [e1]; simp [entA, ih.1], fun i v h ho => ?_⟩
        rw [e1]
        cases i with
        | zero => simp [entA] at h; subst h; rfl
        | succ i => exact ih.2 i v h (by cases v <;> first | exact ho | exact trivial)
      · have e1 : lg_sl ((Value.ref x :: as).map (cv G)) = Slot.val (va_rf (adr G x)) :: lg_sl (as.map (cv G)) := by
          show lg_sl (va_rf (adr G x) :: as.map (cv G)) = _
          cases adr G x <;> rfl
        refine ⟨by rw [e1]; simp [entA, ih.1], fun i v h ho => ?_⟩
        rw [e1]
        cases i with
        | zero => simp [entA] at h; subst h; rfl
        | succ i => exact ih.2 i v h (by cases v <;> first | exact ho | exact trivial)
      · have e1 : lg_sl ((Value.long x :: as).map (cv G)) = Slot.val (.long x) :: Slot.second :: lg_sl (as.map (cv G)) := rfl
        refine ⟨by rw [e1]; simp [entA, ih.1], fun i v h ho => ?_⟩
        rw [e1]
        match i with
        | 0 => simp [entA] at h; subst h; rfl
        | 1 => simp [entA] at h; subst h; exact absurd ho (by simp [okL, mk2])
        | i + 2 => exact ih.2 i v h (by cases v <;> first | exact ho | exact trivial)
  obtain ⟨h1, h2⟩ := hlen as hok
  have hh := lv_entry (as.map (cv G)) (n := n) (by rw [h1]; exact hn)
  refine ⟨hh.1, ?_, hh.2.1, fun i v hi ho => ?_⟩
  · unfold ent padL
    rw [List.length_append, List.length_replicate]
    omega
  · unfold ent padL at hi ho
    by_cases hlt : i < (entA as).length
    · rw [List.getElem?_append_left hlt] at hi
      have ho2 : okL (entA as) i v := by
        cases v with
        | long x =>
          have ho3 : (entA as ++ List.replicate (n - (entA as).length) uns)[i + 1]? = some mk2 := ho
          by_cases hl2 : i + 1 < (entA as).length
          · rw [List.getElem?_append_left hl2] at ho3; exact ho3
          · rw [List.getElem?_append_right (by omega), List.getElem?_replicate] at ho3
            split at ho3
            · exact absurd ho3 (by simp [uns, mk2])
            · cases ho3
        | _ => exact ho
      have := h2 i v hi ho2
      rw [← Array.getElem?_toList]
      show (lg_sl (as.map (cv G)) ++ _)[i]? = _
      rw [List.getElem?_append_left (by rw [h1]; exact hlt)]
      exact this
    · rw [List.getElem?_append_right (by omega), List.getElem?_replicate] at hi
      split at hi
      · cases hi; exact absurd ho (by simp [okL, uns])
      · cases hi
theorem aOk_spec {n : Nat} {as : List Value} (h : aOk n as = true) : (∀ v ∈ as, (∃ x, v = .int x) ∨ (∃ x, v = .ref x) ∨ ∃ x, v = .long x) ∧ (entA as).length ≤ n := by
  unfold aOk at h
  rw [Bool.and_eq_true] at h
  refine ⟨fun v hv => ?_, Nat.le_of_ble_eq_true h.2⟩
  have := List.all_eq_true.mp h.1 v hv
  cases v <;> first | exact Or.inl ⟨_, rfl⟩ | exact Or.inr (Or.inl ⟨_, rfl⟩) | exact Or.inr (Or.inr ⟨_, rfl⟩) | cases this
theorem ret_ty {me : MD} {k : Nat} (h : (match rty me with
  | none => Nat.beq me.2.2.2.2.1 0
  | some .int => Nat.beq me.2.2.2.2.1 1
  | some .boolean => Nat.beq me.2.2.2.2.1 2
  | some .byte => Nat.beq me.2.2.2.2.1 3
  | some .char => Nat.beq me.2.2.2.2.1 4
  | some .long => Nat.beq me.2.2.2.2.1 6
  | some (.object _) => Nat.beq me.2.2.2.2.1 7
  | _ => false) = true) (hk : me.2.2.2.2.1 = k) : (k = 0 → rty me = none) ∧ (k = 1 → rty me = some .int) ∧ (k = 2 → rty me = some .boolean) ∧ (k = 3 → rty me = some .byte) ∧ (k = 4 → rty me = some .char) ∧ (k = 6 → rty me = some .long) ∧ (k = 7 → ∃ n, rty me = some (.object n)) := by
  rw [hk] at h
  cases hr : rty me with
  | none => rw [hr] at h; have := Nat.eq_of_beq_eq_true h; subst this; simp
  | some t =>
    rw [hr] at h
    cases t <;> first | (dsimp only at h; have := Nat.eq_of_beq_eq_true h; subst this; simp; done) | cases h
theorem inv_aret {μ : Type} {st : List Value} {m m' : μ} {r : Value} {k : Nat} (h : (match st with | [.ref v] => (match k with | 7 => some (.ref v, m) | _ => none) | _ => none : Rs μ) = some (r, m')) : ∃ v, st = [.ref v] ∧ k = 7 ∧ r = .ref v := by
  split at h
  · split at h
    · cases h; exact ⟨_, rfl, rfl, rfl⟩
    · cases h
  · cases h
theorem inv_lret {μ : Type} {st : List Value} {m m' : μ} {r : Value} {k : Nat} (h : (match st with | [.long v] => (match k with | 6 => some (.long v, m) | _ => none) | _ => none : Rs μ) = some (r, m')) : ∃ v, st = [.long v] ∧ k = 6 ∧ r = .long v := by
  split at h
  · split at h
    · cases h; exact ⟨_, rfl, rfl, rfl⟩
    · cases h
  · cases h
theorem inv_vret {μ : Type} {st : List Value} {m m' : μ} {r : Value} {k : Nat} (h : (match st with | [] => (match k with | 0 => some (.null, m) | _ => none) | _ => none : Rs μ) = some (r, m')) : st = [] ∧ k = 0 ∧ r = .null := by
  split at h
  · split at h
    · cases h; exact ⟨rfl, rfl, rfl⟩
    · cases h
  · cases h
theorem inv_iret {μ : Type} {me : MD} {st : List Value} {m m' : μ} {r : Value} (h : ret1 me st m = some (r, m')) : ∃ v, st = [.int v] ∧ r = .int v ∧ ((me.2.2.2.2.1 = 1) ∨ (me.2.2.2.2.1 = 2 ∧ v &&& 1 = v) ∨ (me.2.2.2.2.1 = 3 ∧ v.toInt8.toInt32 = v) ∨ (me.2.2.2.2.1 = 4 ∧ v.toUInt32.toUInt16.toUInt32.toInt32 = v)) := by
  unfold ret1 at h
  split at h
  · generalize hk : me.2.2.2.2.1 = k at h
    split at h
    · cases h; exact ⟨_, rfl, rfl, Or.inl rfl⟩
    · obtain ⟨hb, h⟩ := gb_some h; cases h; exact ⟨_, rfl, rfl, Or.inr (Or.inl ⟨rfl, of_decide_eq_true hb⟩)⟩
    · obtain ⟨hb, h⟩ := gb_some h; cases h; exact ⟨_, rfl, rfl, Or.inr (Or.inr (Or.inl ⟨rfl, of_decide_eq_true hb⟩))⟩
    · obtain ⟨hb, h⟩ := gb_some h; cases h; exact ⟨_, rfl, rfl, Or.inr (Or.inr (Or.inr ⟨rfl, of_decide_eq_true hb⟩))⟩
    · cases h
  · cases h
set_option maxHeartbeats 4000000 in
/-- every method, at every depth, meets what the interpreter answers -/
theorem all_met (l : Launch) (G : Wd) : ∀ d, AllMet l G d
  | 0 => fun me _ _ as M r M' h => by cases h
  | d + 1 => by
    intro me hm h0 as M r M' h
    have hg := gr_cl _ _ _ _ _ _ h
    obtain ⟨haok, hlim⟩ := gb_some (show gb (aOk me.2.2.2.1 as) (lim O1 (cl O1 d) me 0 (ent me.2.2.2.1 as) [] M) = some (r, M') from h)
    obtain ⟨n, hn⟩ := lim_some.mp hlim
    obtain ⟨hao1, hao2⟩ := aOk_spec haok
    obtain ⟨c1, c2, c3, c4, c5, c6, c7, c8⟩ := ckM_spec hm h0
    have ih := all_met l G d
    refine ⟨hg.1, hg.2, ?_⟩
    refine va_MetF (cc := byt me) (maxL := me.2.2.2.1) (ret := rty me) c2 rfl ?_
    intro p e s m args below meth c s₁ B hml hv
    obtain ⟨rfl, hR, hK, hE⟩ := hv
    have hts := atoms_spec (ws := wsM me) B.pre
    have hown : s.vm.findClass (ownN me.2.1) = some m.cls := by rw [c3]; exact findClass_of_methodNamed B.named
    have hlocks := B.notSynchronized
    have hr := B.returns
    have X : Ctx p (headSpec (wsM me) (rmM (d + 1) M M')).room s m (as.map (cv G)).toArray meth c G me d :=
      ⟨B.exec, B.bytes, hml, hown, fun w hw => hts w (List.mem_cons_of_mem _ hw), hK, hE, fun hi => by rw [(name_of_methodNamed B.named B.method).1]; exact c5 hi, Nat.le_refl _, Nat.le_refl _, dk_all me hm, by rw [hR.1]; omega⟩
    have hret : ∀ (pc : Nat) (ls st : List Value) (i : Jvm.ClassFile.Instr), decode (byt me) pc = .ok (i, 1) → isRet i = true → (∀ C : Cont M1, ins O1 (cl O1 d) C me pc (pc + 1) ls st M' i = some (r, M')) → WW p l e (headSpec (wsM me) (rmM (d + 1) M M')).room s m (as.map (cv G)).toArray below meth c G me (MQ below (Kq G r M') (as.map (cv G)).toArray s (M'.1 - M.1) (M'.2.1 - M.2.1) (AA G)) M.1 M.2.1 pc ls st M' := by
      intro pc ls st i hd hi hC H locs sl hL hR' hS
      have h1 := hC (fun _ _ _ _ => none)
      have hpost : ∀ t : State, t.heap = H → RepH G M' t.heap ∧ va_F (AA G) s t := fun t ht => ⟨by rw [ht]; exact hR', hS.F ht⟩
      cases i <;> first | cases hi; done | skip
      case areturn =>
        obtain ⟨v, rfl, hcode, rfl⟩ := inv_aret (st := st) (m := M') (k := me.2.2.2.2.1) h1
        obtain ⟨nm, hty⟩ := (ret_ty c8 hcode).2.2.2.2.2.2 rfl
        refine W.aret (v := va_rf (adr G v)) B.exec B.bytes (hr.trans hty) (Or.inl ⟨nm, rfl⟩) (by cases adr G v with | none => exact Or.inl rfl | some a => exact Or.inr ⟨a, rfl⟩) (fun t ht hW => ⟨?_, hpost t ht⟩) hS.2.2 hd
        rfl
      case ireturn =>
        obtain ⟨v, rfl, rfl, hcode⟩ := inv_iret (me := me) (st := st) (m := M') h1
        rcases hcode with hcode | ⟨hcode, hb⟩ | ⟨hcode, hb⟩ | ⟨hcode, hb⟩
        · exact W.iret B.exec B.bytes (hr.trans ((ret_ty c8 hcode).2.1 rfl)) (fun t ht hW => ⟨rfl, hpost t ht⟩) hS.2.2 hd
        · exact W.zret B.exec B.bytes (hr.trans ((ret_ty c8 hcode).2.2.1 rfl)) (by show Value.int (v &&& 1) = .int v; rw [hb]) (fun t ht hW => ⟨rfl, hpost t ht⟩) hS.2.2 hd
        · exact W.zret B.exec B.bytes (hr.trans ((ret_ty c8 hcode).2.2.2.1 rfl)) (by show Value.int v.toInt8.toInt32 = .int v; rw [hb]) (fun t ht hW => ⟨rfl, hpost t ht⟩) hS.2.2 hd
        · exact W.zret B.exec B.bytes (hr.trans ((ret_ty c8 hcode).2.2.2.2.1 rfl)) (by show Value.int v.toUInt32.toUInt16.toUInt32.toInt32 = .int v; rw [hb]) (fun t ht hW => ⟨rfl, hpost t ht⟩) hS.2.2 hd
      case lreturn =>
        obtain ⟨v, rfl, hcode, rfl⟩ := inv_lret (st := st) (m := M') (k := me.2.2.2.2.1) h1
        exact W.lret B.exec B.bytes (hr.trans ((ret_ty c8 hcode).2.2.2.2.2.1 rfl)) (fun t ht hW => ⟨rfl, hpost t ht⟩) hS.2.2 hd
      case return_ =>
        obtain ⟨rfl, hcode, rfl⟩ := inv_vret (st := st) (m := M') (k := me.2.2.2.2.1) h1
        exact W.vret B.exec B.bytes (hr.trans ((ret_ty c8 hcode).1 rfl)) (fun t ht hW => ⟨rfl, hpost t ht⟩) hS.2.2 hd
    have hW := (snd_run (n0 := M.1) (w0 := M.2.1) X hm ih (Nat.le_refl _) (Nat.le_refl _) hret n _ _ _ _ (Nat.le_refl _) (Nat.le_refl _) hn).2
    have := hW s.heap [] _ (ent_LH (G := G) hao1 hao2) hR va_S.rf
    rw [Nat.sub_self, Nat.sub_self] at this
    rw [lg_entry_eq]
    exact this
