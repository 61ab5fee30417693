/-! RUNS: a run's limit, calls by depth, unfolding. -/
section Runs
variable {μ : Type} {O : Ops μ} {K : MD → List Value → μ → Rs μ} {me : MD}
def Cont (μ : Type) : Type := Nat → List Value → List Value → μ → Rs μ
/-- one instruction goes on at one place, or is at an end -/
def One (f : Cont μ → Rs μ) : Prop := (∃ (pc : Nat) (ls st : List Value) (m : μ), ∀ C : Cont μ, f C = C pc ls st m) ∨ ∃ r : Rs μ, ∀ C : Cont μ, f C = r
theorem on_go (pc : Nat) (ls st : List Value) (m : μ) : One (fun C : Cont μ => C pc ls st m) := Or.inl ⟨pc, ls, st, m, fun _ => rfl⟩
theorem on_no (r : Rs μ) : One (fun _ : Cont μ => r) := Or.inr ⟨r, fun _ => rfl⟩
theorem on_gb {b : Bool} {f : Cont μ → Rs μ} (h : One f) : One (fun C => gb b (f C)) := by
  cases b
  · exact on_no none
  · exact h
theorem on_ite {P : Prop} [Decidable P] {f g : Cont μ → Rs μ} (hf : One f) (hg : One g) : One (fun C => if P then f C else g C) := by
  by_cases h : P
  · simp only [h, if_true]; exact hf
  · simp only [h, if_false]; exact hg
theorem on_oX {α : Type} {o : Option α} {f : α → Cont μ → Rs μ} (h : ∀ q, One (f q)) : One (fun C => oX o (fun q => f q C)) := by
  cases o with
  | none => exact on_no none
  | some q => exact h q
theorem on_oB {o : Option μ} {f : μ → Cont μ → Rs μ} (h : ∀ q, One (f q)) : One (fun C => oB o (fun q => f q C)) := by
  cases o with
  | none => exact on_no none
  | some q => exact h q
theorem on_oP {o : Option (Nat × μ)} {f : Nat → μ → Cont μ → Rs μ} (h : ∀ a q, One (f a q)) : One (fun C => oP o (fun a q => f a q C)) := by
  cases o with
  | none => exact on_no none
  | some q => exact h q.1 q.2
theorem on_bI {o : Rs μ} {f : Int32 → μ → Cont μ → Rs μ} (h : ∀ a q, One (f a q)) : One (fun C => bI o (fun a q => f a q C)) := by
  match o with
  | some (.int r, m) => exact h r m
  | none => exact on_no none
  | some (.long r, m) => exact on_no none
  | some (.float r, m) => exact on_no none
  | some (.double r, m) => exact on_no none
  | some (.null, m) => exact on_no none
  | some (.ref r, m) => exact on_no none
  | some (.retAddr r, m) => exact on_no none
theorem on_bL {o : Rs μ} {f : Int64 → μ → Cont μ → Rs μ} (h : ∀ a q, One (f a q)) : One (fun C => bL o (fun a q => f a q C)) := by
  match o with
  | some (.int r, m) => exact on_no none
  | none => exact on_no none
  | some (.long r, m) => exact h r m
  | some (.float r, m) => exact on_no none
  | some (.double r, m) => exact on_no none
  | some (.null, m) => exact on_no none
  | some (.ref r, m) => exact on_no none
  | some (.retAddr r, m) => exact on_no none
theorem on_bR {o : Rs μ} {f : Nat → μ → Cont μ → Rs μ} (h : ∀ a q, One (f a q)) : One (fun C => bR o (fun a q => f a q C)) := by
  match o with
  | some (.int r, m) => exact on_no none
  | none => exact on_no none
  | some (.long r, m) => exact on_no none
  | some (.float r, m) => exact on_no none
  | some (.double r, m) => exact on_no none
  | some (.null, m) => exact on_no none
  | some (.ref r, m) => exact h r m
  | some (.retAddr r, m) => exact on_no none
theorem on_bV {o : Rs μ} {f : μ → Cont μ → Rs μ} (h : ∀ q, One (f q)) : One (fun C => bV o (fun q => f q C)) := by
  match o with
  | some (.int r, m) => exact on_no none
  | none => exact on_no none
  | some (.long r, m) => exact on_no none
  | some (.float r, m) => exact on_no none
  | some (.double r, m) => exact on_no none
  | some (.null, m) => exact h m
  | some (.ref r, m) => exact on_no none
  | some (.retAddr r, m) => exact on_no none
theorem on_ivk {me : MD} {nx : Nat} {ls args rest : List Value} {m : μ} : One (fun C : Cont μ => ivk K C me nx ls args rest m) := by
  unfold ivk
  split
  · exact on_bV (fun q => on_go _ _ _ _)
  · exact on_bL (fun a q => on_go _ _ _ _)
  · exact on_bR (fun a q => on_go _ _ _ _)
  · exact on_bI (fun a q => on_go _ _ _ _)
theorem on_swt {x : Int32} {f : Int → Cont μ → Rs μ} {d : Cont μ → Rs μ} (hf : ∀ o, One (f o)) (hd : One d) : ∀ (l : List Int) (k : Int), One (fun C => swt x (fun o => f o C) (d C) k l)
  | [], k => hd
  | o :: l, k => on_ite (hf o) (on_swt hf hd l (k + 1))
theorem on_swl {x : Int32} {f : Int → Cont μ → Rs μ} {d : Cont μ → Rs μ} (hf : ∀ o, One (f o)) (hd : One d) : ∀ (l : List (Int × Int)), One (fun C => swl x (fun o => f o C) (d C) l)
  | [] => hd
  | (k, o) :: l => on_ite (hf o) (on_swl hf hd l)
theorem on_br {c : Jvm.ClassFile.Cond} {x y : Int32} {f g : Cont μ → Rs μ} (hf : One f) (hg : One g) : One (fun C => br c x y (f C) (g C)) := by
  cases c
  · exact on_ite hf hg
  · exact on_ite hg hf
  · exact on_ite hf hg
  · exact on_ite hg hf
  · exact on_ite hf hg
  · exact on_ite hg hf
theorem on_sto {nx : Nat} {ls : List Value} {i : Nat} {v : Value} {r : List Value} {m : μ} : One (fun C : Cont μ => sto C nx ls i v r m) := on_gb (on_go _ _ _ _)
theorem on_sto2 {nx : Nat} {ls : List Value} {i : Nat} {v : Int64} {r : List Value} {m : μ} : One (fun C : Cont μ => sto2 C nx ls i v r m) := on_gb (on_go _ _ _ _)
theorem on_newA {nx : Nat} {ls r : List Value} {m : μ} {k : Nat} {n : Int32} : One (fun C : Cont μ => newA O C nx ls r m k n) := on_gb (on_oP (fun _ _ => on_go _ _ _ _))
theorem on_ldI {ls : List Value} {k : Nat} {f : Int32 → Cont μ → Rs μ} (h : ∀ x0, One (f x0)) : One (fun C => ldI ls k (fun x0 => f x0 C)) := by
  unfold ldI
  repeat' split
  all_goals first | exact h _ | exact h _ _ | exact h _ _ _ | exact h _ _ _ _ | exact on_gb (h _ _) | exact on_gb (h _ _ _) | exact on_no none
theorem on_ldA {ls : List Value} {k : Nat} {f : Nat → Cont μ → Rs μ} (h : ∀ x0, One (f x0)) : One (fun C => ldA ls k (fun x0 => f x0 C)) := by
  unfold ldA
  repeat' split
  all_goals first | exact h _ | exact h _ _ | exact h _ _ _ | exact h _ _ _ _ | exact on_gb (h _ _) | exact on_gb (h _ _ _) | exact on_no none
theorem on_ldL {ls : List Value} {k : Nat} {f : Int64 → Cont μ → Rs μ} (h : ∀ x0, One (f x0)) : One (fun C => ldL ls k (fun x0 => f x0 C)) := by
  unfold ldL
  repeat' split
  all_goals first | exact h _ | exact h _ _ | exact h _ _ _ | exact h _ _ _ _ | exact on_gb (h _ _) | exact on_gb (h _ _ _) | exact on_no none
theorem on_u1 {st : List Value} {f : Int32 → List Value → Cont μ → Rs μ} (h : ∀ x0 x1, One (f x0 x1)) : One (fun C => u1 st (fun x0 x1 => f x0 x1 C)) := by
  unfold u1
  repeat' split
  all_goals first | exact h _ | exact h _ _ | exact h _ _ _ | exact h _ _ _ _ | exact on_gb (h _ _) | exact on_gb (h _ _ _) | exact on_no none
theorem on_b2 {st : List Value} {f : Int32 → Int32 → List Value → Cont μ → Rs μ} (h : ∀ x0 x1 x2, One (f x0 x1 x2)) : One (fun C => b2 st (fun x0 x1 x2 => f x0 x1 x2 C)) := by
  unfold b2
  repeat' split
  all_goals first | exact h _ | exact h _ _ | exact h _ _ _ | exact h _ _ _ _ | exact on_gb (h _ _) | exact on_gb (h _ _ _) | exact on_no none
theorem on_ul {st : List Value} {f : Int64 → List Value → Cont μ → Rs μ} (h : ∀ x0 x1, One (f x0 x1)) : One (fun C => ul st (fun x0 x1 => f x0 x1 C)) := by
  unfold ul
  repeat' split
  all_goals first | exact h _ | exact h _ _ | exact h _ _ _ | exact h _ _ _ _ | exact on_gb (h _ _) | exact on_gb (h _ _ _) | exact on_no none
theorem on_bl {st : List Value} {f : Int64 → Int64 → List Value → Cont μ → Rs μ} (h : ∀ x0 x1 x2, One (f x0 x1 x2)) : One (fun C => bl st (fun x0 x1 x2 => f x0 x1 x2 C)) := by
  unfold bl
  repeat' split
  all_goals first | exact h _ | exact h _ _ | exact h _ _ _ | exact h _ _ _ _ | exact on_gb (h _ _) | exact on_gb (h _ _ _) | exact on_no none
theorem on_li {st : List Value} {f : Int64 → Int32 → List Value → Cont μ → Rs μ} (h : ∀ x0 x1 x2, One (f x0 x1 x2)) : One (fun C => li st (fun x0 x1 x2 => f x0 x1 x2 C)) := by
  unfold li
  repeat' split
  all_goals first | exact h _ | exact h _ _ | exact h _ _ _ | exact h _ _ _ _ | exact on_gb (h _ _) | exact on_gb (h _ _ _) | exact on_no none
theorem on_ua {st : List Value} {f : Nat → List Value → Cont μ → Rs μ} (h : ∀ x0 x1, One (f x0 x1)) : One (fun C => ua st (fun x0 x1 => f x0 x1 C)) := by
  unfold ua
  repeat' split
  all_goals first | exact h _ | exact h _ _ | exact h _ _ _ | exact h _ _ _ _ | exact on_gb (h _ _) | exact on_gb (h _ _ _) | exact on_no none
theorem on_ba {st : List Value} {f : Nat → Nat → List Value → Cont μ → Rs μ} (h : ∀ x0 x1 x2, One (f x0 x1 x2)) : One (fun C => ba st (fun x0 x1 x2 => f x0 x1 x2 C)) := by
  unfold ba
  repeat' split
  all_goals first | exact h _ | exact h _ _ | exact h _ _ _ | exact h _ _ _ _ | exact on_gb (h _ _) | exact on_gb (h _ _ _) | exact on_no none
theorem on_ai {st : List Value} {f : Nat → Int32 → List Value → Cont μ → Rs μ} (h : ∀ x0 x1 x2, One (f x0 x1 x2)) : One (fun C => ai st (fun x0 x1 x2 => f x0 x1 x2 C)) := by
  unfold ai
  repeat' split
  all_goals first | exact h _ | exact h _ _ | exact h _ _ _ | exact h _ _ _ _ | exact on_gb (h _ _) | exact on_gb (h _ _ _) | exact on_no none
theorem on_aii {st : List Value} {f : Nat → Int32 → Int32 → List Value → Cont μ → Rs μ} (h : ∀ x0 x1 x2 x3, One (f x0 x1 x2 x3)) : One (fun C => aii st (fun x0 x1 x2 x3 => f x0 x1 x2 x3 C)) := by
  unfold aii
  repeat' split
  all_goals first | exact h _ | exact h _ _ | exact h _ _ _ | exact h _ _ _ _ | exact on_gb (h _ _) | exact on_gb (h _ _ _) | exact on_no none
theorem on_ail {st : List Value} {f : Nat → Int32 → Int64 → List Value → Cont μ → Rs μ} (h : ∀ x0 x1 x2 x3, One (f x0 x1 x2 x3)) : One (fun C => ail st (fun x0 x1 x2 x3 => f x0 x1 x2 x3 C)) := by
  unfold ail
  repeat' split
  all_goals first | exact h _ | exact h _ _ | exact h _ _ _ | exact h _ _ _ _ | exact on_gb (h _ _) | exact on_gb (h _ _ _) | exact on_no none
theorem on_aia {st : List Value} {f : Nat → Int32 → Nat → List Value → Cont μ → Rs μ} (h : ∀ x0 x1 x2 x3, One (f x0 x1 x2 x3)) : One (fun C => aia st (fun x0 x1 x2 x3 => f x0 x1 x2 x3 C)) := by
  unfold aia
  repeat' split
  all_goals first | exact h _ | exact h _ _ | exact h _ _ _ | exact h _ _ _ _ | exact on_gb (h _ _) | exact on_gb (h _ _ _) | exact on_no none
theorem on_ia {st : List Value} {f : Nat → Int32 → List Value → Cont μ → Rs μ} (h : ∀ x0 x1 x2, One (f x0 x1 x2)) : One (fun C => ia st (fun x0 x1 x2 => f x0 x1 x2 C)) := by
  unfold ia
  repeat' split
  all_goals first | exact h _ | exact h _ _ | exact h _ _ _ | exact h _ _ _ _ | exact on_gb (h _ _) | exact on_gb (h _ _ _) | exact on_no none
theorem on_la {st : List Value} {f : Nat → Int64 → List Value → Cont μ → Rs μ} (h : ∀ x0 x1 x2, One (f x0 x1 x2)) : One (fun C => la st (fun x0 x1 x2 => f x0 x1 x2 C)) := by
  unfold la
  repeat' split
  all_goals first | exact h _ | exact h _ _ | exact h _ _ _ | exact h _ _ _ _ | exact on_gb (h _ _) | exact on_gb (h _ _ _) | exact on_no none
theorem on_v1 {st : List Value} {f : Value → List Value → Cont μ → Rs μ} (h : ∀ x0 x1, One (f x0 x1)) : One (fun C => v1 st (fun x0 x1 => f x0 x1 C)) := by
  unfold v1
  repeat' split
  all_goals first | exact h _ | exact h _ _ | exact h _ _ _ | exact h _ _ _ _ | exact on_gb (h _ _) | exact on_gb (h _ _ _) | exact on_no none
theorem on_v2 {st : List Value} {f : Value → Value → List Value → Cont μ → Rs μ} (h : ∀ x0 x1 x2, One (f x0 x1 x2)) : One (fun C => v2 st (fun x0 x1 x2 => f x0 x1 x2 C)) := by
  unfold v2
  repeat' split
  all_goals first | exact h _ | exact h _ _ | exact h _ _ _ | exact h _ _ _ _ | exact on_gb (h _ _) | exact on_gb (h _ _ _) | exact on_no none
theorem on_bb {b : Bool} {f g : Cont μ → Rs μ} (hf : One f) (hg : One g) : One (fun C => bb b (f C) (g C)) := by
  cases b
  · exact hg
  · exact hf
theorem on_oE {α : Type} {o : Option α} {f : α → Cont μ → Rs μ} {g : Cont μ → Rs μ} (h : ∀ q, One (f q)) (hg : One g) : One (fun C => oE o (fun q => f q C) (g C)) := by
  cases o with
  | none => exact hg
  | some q => exact h q
theorem on_bra {c : Jvm.ClassFile.ACond} {x y : Nat} {f g : Cont μ → Rs μ} (hf : One f) (hg : One g) : One (fun C => bra c x y (f C) (g C)) := by
  cases c
  · exact on_ite hf hg
  · exact on_ite hg hf
theorem on_getF {nx : Nat} {ls r : List Value} {m : μ} {a : Nat} {f : Nat × Nat × Nat × Bool × Nat} : One (fun C : Cont μ => getF O C nx ls r m a f) := by
  unfold getF
  refine on_gb ?_
  split <;> exact on_go _ _ _ _
theorem on_putF {nx : Nat} {ls st : List Value} {m : μ} {f : Nat × Nat × Nat × Bool × Nat} : One (fun C : Cont μ => putF O C me nx ls st m f) := by
  unfold putF
  refine on_gb ?_
  split
  · exact on_ia (fun _ _ _ => on_gb (on_go _ _ _ _))
  · exact on_la (fun _ _ _ => on_gb (on_go _ _ _ _))
  · exact on_ba (fun _ _ _ => on_gb (on_oB (fun _ => on_go _ _ _ _)))
  · exact on_ia (fun _ _ _ => on_gb (on_gb (on_go _ _ _ _)))
  · exact on_no none
set_option maxHeartbeats 4000000 in
theorem one_ins (pc nx : Nat) (ls st : List Value) (m : μ) (i : Jvm.ClassFile.Instr) : One (fun C : Cont μ => ins O K C me pc nx ls st m i) := by
  cases i
  case iload_n => exact on_ldI (fun _ => on_go _ _ _ _)
  case iload => exact on_ldI (fun _ => on_go _ _ _ _)
  case aload_n => exact on_ldA (fun _ => on_go _ _ _ _)
  case aload => exact on_ldA (fun _ => on_go _ _ _ _)
  case lload_n => exact on_ldL (fun _ => on_go _ _ _ _)
  case lload => exact on_ldL (fun _ => on_go _ _ _ _)
  case istore_n => exact on_u1 (fun _ _ => on_sto)
  case istore => exact on_u1 (fun _ _ => on_sto)
  case astore_n => exact on_ua (fun _ _ => on_sto)
  case astore => exact on_ua (fun _ _ => on_sto)
  case lstore_n => exact on_ul (fun _ _ => on_sto2)
  case lstore => exact on_ul (fun _ _ => on_sto2)
  case iinc => exact on_ldI (fun _ => on_sto)
  case iconst => exact on_go _ _ _ _
  case bipush => exact on_go _ _ _ _
  case sipush => exact on_go _ _ _ _
  case lconst => exact on_go _ _ _ _
  case ldc => exact on_oE (fun _ => on_go _ _ _ _) (on_oX (fun _ => on_go _ _ _ _))
  case ldc_w => exact on_oX (fun _ => on_go _ _ _ _)
  case ldc2_w => exact on_oX (fun _ => on_go _ _ _ _)
  case idiv => exact on_b2 (fun _ _ _ => on_gb (on_go _ _ _ _))
  case irem => exact on_b2 (fun _ _ _ => on_gb (on_go _ _ _ _))
  case dup => exact on_v1 (fun _ _ => on_go _ _ _ _)
  case pop => exact on_v1 (fun _ _ => on_go _ _ _ _)
  case dup_x1 => exact on_v2 (fun _ _ _ => on_go _ _ _ _)
  case dup2 => exact on_v2 (fun _ _ _ => on_go _ _ _ _)
  case ifCond => exact on_u1 (fun _ _ => on_br (on_go _ _ _ _) (on_go _ _ _ _))
  case if_icmp => exact on_b2 (fun _ _ _ => on_br (on_go _ _ _ _) (on_go _ _ _ _))
  case if_acmp => exact on_ba (fun _ _ _ => on_gb (on_bra (on_go _ _ _ _) (on_go _ _ _ _)))
  case ifnull => exact on_ua (fun _ _ => on_gb (on_ite (on_go _ _ _ _) (on_go _ _ _ _)))
  case ifnonnull => exact on_ua (fun _ _ => on_gb (on_ite (on_go _ _ _ _) (on_go _ _ _ _)))
  case goto => exact on_go _ _ _ _
  case tableswitch => exact on_u1 (fun _ _ => on_swt (fun _ => on_go _ _ _ _) (on_go _ _ _ _) _ _)
  case lookupswitch => exact on_u1 (fun _ _ => on_swl (fun _ => on_go _ _ _ _) (on_go _ _ _ _) _)
  case getfield => exact on_oX (fun _ => on_ua (fun _ _ => on_getF))
  case putfield => exact on_oX (fun _ => on_putF)
  case getstatic => exact on_oX (fun _ => on_bb (on_go _ _ _ _) (on_go _ _ _ _))
  case iaload => exact on_ai (fun _ _ _ => on_bb (on_gb (on_go _ _ _ _)) (on_gb (on_go _ _ _ _)))
  case baload => exact on_ai (fun _ _ _ => on_bb (on_gb (on_go _ _ _ _)) (on_gb (on_go _ _ _ _)))
  case laload => exact on_ai (fun _ _ _ => on_gb (on_go _ _ _ _))
  case aaload => exact on_ai (fun _ _ _ => on_gb (on_go _ _ _ _))
  case iastore => exact on_aii (fun _ _ _ _ => on_gb (on_go _ _ _ _))
  case bastore => exact on_aii (fun _ _ _ _ => on_bb (on_gb (on_go _ _ _ _)) (on_gb (on_go _ _ _ _)))
  case lastore => exact on_ail (fun _ _ _ _ => on_gb (on_go _ _ _ _))
  case aastore => exact on_aia (fun _ _ _ _ => on_gb (on_oB (fun _ => on_go _ _ _ _)))
  case arraylength => exact on_ua (fun _ _ => on_bb (on_go _ _ _ _) (on_gb (on_go _ _ _ _)))
  case new => exact on_oX (fun _ => on_oP (fun _ _ => on_go _ _ _ _))
  case newarray => exact on_u1 (fun _ _ => on_newA)
  case anewarray => exact on_oX (fun _ => on_u1 (fun _ _ => on_newA))
  case invokevirtual => exact on_oX (fun _ => on_gb (on_ua (fun _ _ => on_gb on_ivk)))
  case invokestatic => exact on_oX (fun _ => on_gb on_ivk)
  case invokespecial => exact on_bb (on_ua (fun _ _ => on_gb (on_go _ _ _ _))) (on_oX (fun _ => on_gb (on_ua (fun _ _ => on_gb on_ivk))))
  all_goals first
    | exact on_b2 (fun _ _ _ => on_go _ _ _ _)
    | exact on_bl (fun _ _ _ => on_go _ _ _ _)
    | exact on_li (fun _ _ _ => on_go _ _ _ _)
    | exact on_u1 (fun _ _ => on_go _ _ _ _)
    | exact on_ul (fun _ _ => on_go _ _ _ _)
    | exact on_no _
theorem one_stp (pc : Nat) (ls st : List Value) (m : μ) : One (fun C : Cont μ => stp O K me C pc ls st m) := by
  unfold stp
  split
  · exact one_ins _ _ _ _ _ _
  · exact on_no none
theorem run_mono : ∀ (n pc : Nat) (ls st : List Value) (m : μ) (r : Value × μ), run O K me n pc ls st m = some r → run O K me (n + 1) pc ls st m = some r
  | 0, pc, ls, st, m, r, h => by cases h
  | n + 1, pc, ls, st, m, r, h => by
    rcases one_stp (O := O) (K := K) (me := me) pc ls st m with ⟨pc', ls', st', m', hC⟩ | ⟨q, hq⟩
    · have h1 : run O K me (n + 1) pc ls st m = run O K me n pc' ls' st' m' := hC _
      have h2 : run O K me (n + 1 + 1) pc ls st m = run O K me (n + 1) pc' ls' st' m' := hC _
      rw [h2]
      rw [h1] at h
      exact run_mono n _ _ _ _ _ h
    · have h1 : run O K me (n + 1) pc ls st m = q := hq _
      have h2 : run O K me (n + 1 + 1) pc ls st m = q := hq _
      rw [h2, ← h1]
      exact h
theorem run_le {n k : Nat} (hk : n ≤ k) {pc : Nat} {ls st : List Value} {m : μ} {r : Value × μ} (h : run O K me n pc ls st m = some r) : run O K me k pc ls st m = some r := by
  induction hk with
  | refl => exact h
  | step _ ih => exact run_mono _ _ _ _ _ _ ih
theorem run_det {n k pc : Nat} {ls st : List Value} {m : μ} {r q : Value × μ} (h : run O K me n pc ls st m = some r) (h2 : run O K me k pc ls st m = some q) : r = q := by
  have a := run_le (Nat.le_max_left n k) h
  have b := run_le (Nat.le_max_right n k) h2
  rw [a] at b
  exact Option.some.inj b
noncomputable def lim (O : Ops μ) (K : MD → List Value → μ → Rs μ) (me : MD) : Cont μ := fun pc ls st m =>
  @dite _ (∃ (r : Value × μ) (n : Nat), run O K me n pc ls st m = some r) (Classical.propDecidable _) (fun h => some (Classical.choose h)) (fun _ => none)
theorem lim_some {pc : Nat} {ls st : List Value} {m : μ} {r : Value × μ} : lim O K me pc ls st m = some r ↔ ∃ n, run O K me n pc ls st m = some r := by
  unfold lim
  by_cases h : ∃ (r : Value × μ) (n : Nat), run O K me n pc ls st m = some r
  · rw [dif_pos h]
    obtain ⟨n, hn⟩ := Classical.choose_spec h
    constructor
    · intro e
      exact ⟨n, by rw [hn]; exact e⟩
    · intro ⟨k, hk⟩
      exact congrArg some (run_det hn hk)
  · rw [dif_neg h]
    constructor
    · intro e; cases e
    · intro ⟨n, hn⟩; exact absurd ⟨r, n, hn⟩ h
theorem lim_eq (pc : Nat) (ls st : List Value) (m : μ) : lim O K me pc ls st m = stp O K me (lim O K me) pc ls st m := by
  refine Option.ext (fun r => ?_)
  rw [lim_some]
  rcases one_stp (O := O) (K := K) (me := me) pc ls st m with ⟨pc', ls', st', m', hC⟩ | ⟨q, hq⟩
  · have e1 : stp O K me (lim O K me) pc ls st m = lim O K me pc' ls' st' m' := hC _
    rw [e1, lim_some]
    constructor
    · intro ⟨n, hn⟩
      cases n with
      | zero => cases hn
      | succ n => exact ⟨n, by have h1 : run O K me (n + 1) pc ls st m = run O K me n pc' ls' st' m' := hC _; rw [← h1]; exact hn⟩
    · intro ⟨n, hn⟩
      exact ⟨n + 1, by have h1 : run O K me (n + 1) pc ls st m = run O K me n pc' ls' st' m' := hC _; rw [h1]; exact hn⟩
  · have e1 : stp O K me (lim O K me) pc ls st m = q := hq _
    rw [e1]
    constructor
    · intro ⟨n, hn⟩
      cases n with
      | zero => cases hn
      | succ n => have h1 : run O K me (n + 1) pc ls st m = q := hq _; rw [← h1]; exact hn
    · intro e
      exact ⟨1, by have h1 : run O K me (0 + 1) pc ls st m = q := hq _; rw [h1]; exact e⟩
end Runs
def entA : List Value → List Value
  | [] => []
  | .long x :: r => .long x :: mk2 :: entA r
  | v :: r => v :: entA r
def padL (l : List Value) (n : Nat) : List Value := l ++ List.replicate (n - l.length) uns
def ent (n : Nat) (args : List Value) : List Value := padL (entA args) n
def aV1 : Value → Bool
  | .int _ => true
  | .ref _ => true
  | .long _ => true
  | _ => false
def aOk (n : Nat) (as : List Value) : Bool := as.all aV1 && Nat.ble (entA as).length n
section Depth
variable {μ : Type}
/-- a call, by how deep calls may stand -/
noncomputable def cl (O : Ops μ) : Nat → MD → List Value → μ → Rs μ
  | 0 => fun _ _ _ => none
  | d + 1 => fun me args m => gb (aOk me.2.2.2.1 args) (lim O (cl O d) me 0 (ent me.2.2.2.1 args) [] m)
noncomputable def XX (O : Ops μ) (d : Nat) (me : MD) : Cont μ := lim O (cl O d) me
theorem XX_eq (O : Ops μ) (d : Nat) (me : MD) (pc : Nat) (ls st : List Value) (m : μ) : XX O d me pc ls st m = stp O (cl O d) me (XX O d me) pc ls st m := lim_eq pc ls st m
theorem cl_succ (O : Ops μ) (d : Nat) (me : MD) (args : List Value) (m : μ) : cl O (d + 1) me args m = gb (aOk me.2.2.2.1 args) (XX O d me 0 (ent me.2.2.2.1 args) [] m) := rfl
/-- unfolded n instructions far, up to the cuts -/
noncomputable def sx (O : Ops μ) (d : Nat) (me : MD) (cuts : List Nat) : Nat → Cont μ
  | 0 => XX O d me
  | n + 1 => stp O (cl O d) me (fun pc ls st m => bb (cuts.any (fun k => Nat.beq k pc)) (XX O d me pc ls st m) (sx O d me cuts n pc ls st m))
theorem sx_eq (O : Ops μ) (d : Nat) (me : MD) (cuts : List Nat) : ∀ (n pc : Nat) (ls st : List Value) (m : μ), XX O d me pc ls st m = sx O d me cuts n pc ls st m
  | 0, _, _, _, _ => rfl
  | n + 1, pc, ls, st, m => by
    rw [XX_eq]
    have e : (fun pc ls st m => bb (cuts.any (fun k => Nat.beq k pc)) (XX O d me pc ls st m) (sx O d me cuts n pc ls st m)) = XX O d me := by
      funext pc ls st m
      rw [← sx_eq O d me cuts n pc ls st m]
      cases cuts.any (fun k => Nat.beq k pc) <;> rfl
    show stp O (cl O d) me (XX O d me) pc ls st m = stp O (cl O d) me (fun pc ls st m => bb (cuts.any (fun k => Nat.beq k pc)) (XX O d me pc ls st m) (sx O d me cuts n pc ls st m)) pc ls st m
    rw [e]
end Depth
