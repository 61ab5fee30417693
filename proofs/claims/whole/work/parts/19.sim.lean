/-! SIMULATION: a run over one memory is one over another one into which it goes. -/
def Hom {μ ν : Type} (O : Ops μ) (O' : Ops ν) (f : μ → ν) : Prop :=
  (∀ m a, (oS O m a).1 ≠ 0 → oS O' (f m) a = oS O m a) ∧
  (∀ m a k, (oS O m a).1 ≠ 0 → oI O' (f m) a k = oI O m a k) ∧
  (∀ m a k, (oS O m a).1 ≠ 0 → oL O' (f m) a k = oL O m a k) ∧
  (∀ m a k, (oS O m a).1 ≠ 0 → oR O' (f m) a k = oR O m a k) ∧
  (∀ m a k v, (oS O m a).1 ≠ 0 → pI O' (f m) a k v = f (pI O m a k v)) ∧
  (∀ m a k v, (oS O m a).1 ≠ 0 → pL O' (f m) a k v = f (pL O m a k v)) ∧
  (∀ m a k v m', (oS O m a).1 ≠ 0 → pR O m a k v = some m' → pR O' (f m) a k v = some (f m')) ∧
  (∀ m sh w a m', oN O m sh w = some (a, m') → oN O' (f m) sh w = some (a, f m')) ∧
  (∀ m a, (oS O m a).1 = 1 → oI O' (f m) 0 0 = oI O m 0 0)
section Sim
variable {μ ν : Type} {O : Ops μ} {O' : Ops ν} {f : μ → ν} {K : MD → List Value → μ → Rs μ} {K' : MD → List Value → ν → Rs ν} {me : MD}
theorem f_ldI {μ : Type} {ls : List Value} {k : Nat} {x : Int32} {g : Int32 → Rs μ} (h : ls[k]? = some (.int x)) : ldI ls k g = g x := by unfold ldI; rw [h]
theorem f_ldA {μ : Type} {ls : List Value} {k x : Nat} {g : Nat → Rs μ} (h : ls[k]? = some (.ref x)) : ldA ls k g = g x := by unfold ldA; rw [h]
theorem f_ldL {μ : Type} {ls : List Value} {k : Nat} {x : Int64} {g : Int64 → Rs μ} (h : ls[k]? = some (.long x)) (h2 : ls[k + 1]? = some mk2) : ldL ls k g = g x := by unfold ldL; rw [h]; dsimp only; rw [h2]; rfl
theorem f_gb {α : Type} {b : Bool} {x : Option α} (h : b = true) : gb b x = x := by rw [h]; rfl
theorem f_oX {α μ : Type} {q : Option α} {x : α} {g : α → Rs μ} (h : q = some x) : oX q g = g x := by rw [h]; rfl
theorem f_oB {μ : Type} {q : Option μ} {x : μ} {g : μ → Rs μ} (h : q = some x) : oB q g = g x := by rw [h]; rfl
theorem f_oP {μ : Type} {q : Option (Nat × μ)} {a : Nat} {x : μ} {g : Nat → μ → Rs μ} (h : q = some (a, x)) : oP q g = g a x := by rw [h]; rfl
theorem f_ua {μ : Type} {st rest : List Value} {b : Nat} {g : Nat → List Value → Rs μ} (h : st = .ref b :: rest) : ua st g = g b rest := by rw [h]; rfl
theorem isK_sim (H : Hom O O' f) {m : μ} {a k : Nat} (hk : k ≠ 0) (h : isK O m a k = true) : isK O' (f m) a k = true ∧ (oS O m a).1 = k := by
  have h1 : (oS O m a).1 = k := Nat.eq_of_beq_eq_true h
  refine ⟨?_, h1⟩
  unfold isK
  rw [H.1 m a (by rw [h1]; exact hk)]
  exact h
theorem isK_sim0 (H : Hom O O' f) {m : μ} {a k : Nat} (hz : (oS O m a).1 ≠ 0) : isK O' (f m) a k = isK O m a k := by
  unfold isK; rw [H.1 m a hz]
theorem at_sim (H : Hom O O' f) {m : μ} {a k : Nat} {i : Int32} (hk : k ≠ 0) (h : at_ O m a k i = true) : at_ O' (f m) a k i = true ∧ (oS O m a).1 = k := by
  have h0 := h
  unfold at_ at h
  rw [Bool.and_eq_true] at h
  have h1 : (oS O m a).1 = k := Nat.eq_of_beq_eq_true h.1
  refine ⟨?_, h1⟩
  unfold at_
  rw [H.1 m a (by rw [h1]; exact hk)]
  exact h0
theorem at_sim0 (H : Hom O O' f) {m : μ} {a k : Nat} {i : Int32} (hz : (oS O m a).1 ≠ 0) : at_ O' (f m) a k i = at_ O m a k i := by
  unfold at_; rw [H.1 m a hz]
theorem ivk_sim {C : Cont μ} {C' : Cont ν} (hC : ∀ pc ls st m r m', C pc ls st m = some (r, m') → C' pc ls st (f m) = some (r, f m')) (hK : ∀ me as m r m', K me as m = some (r, m') → K' me as (f m) = some (r, f m')) {q : MD} {nx : Nat} {ls as rest : List Value} {m m' : μ} {r : Value} (h : ivk K C q nx ls as rest m = some (r, m')) : ivk K' C' q nx ls as rest (f m) = some (r, f m') := by
  unfold ivk at h ⊢
  split at h
  · unfold bV at h
    split at h
    · rename_i m1 e1; rw [hK _ _ _ _ _ e1]; exact hC _ _ _ _ _ _ h
    · cases h
  · unfold bL at h
    split at h
    · rename_i r1 m1 e1; rw [hK _ _ _ _ _ e1]; exact hC _ _ _ _ _ _ h
    · cases h
  · unfold bR at h
    split at h
    · rename_i r1 m1 e1; rw [hK _ _ _ _ _ e1]; exact hC _ _ _ _ _ _ h
    · cases h
  · unfold bI at h
    split at h
    · rename_i r1 m1 e1; rw [hK _ _ _ _ _ e1]; exact hC _ _ _ _ _ _ h
    · cases h
theorem newA_sim (H : Hom O O' f) {C : Cont μ} {C' : Cont ν} (hC : ∀ pc ls st m r m', C pc ls st m = some (r, m') → C' pc ls st (f m) = some (r, f m')) {nx : Nat} {ls rest : List Value} {m m' : μ} {r : Value} {k : Nat} {n : Int32} (h : newA O C nx ls rest m k n = some (r, m')) : newA O' C' nx ls rest (f m) k n = some (r, f m') := by
  unfold newA at h ⊢
  obtain ⟨hb, h⟩ := gb_some h
  obtain ⟨a, m1, hn, h⟩ := inv_oP h
  rw [f_gb hb, f_oP (H.2.2.2.2.2.2.2.1 _ _ _ _ _ hn)]
  exact hC _ _ _ _ _ _ h
theorem getF_sim (H : Hom O O' f) {C : Cont μ} {C' : Cont ν} (hC : ∀ pc ls st m r m', C pc ls st m = some (r, m') → C' pc ls st (f m) = some (r, f m')) {nx : Nat} {ls rest : List Value} {m m' : μ} {r : Value} {a : Nat} {q : Nat × Nat × Nat × Bool × Nat} (hq : q.1 ≠ 0) (h : getF O C nx ls rest m a q = some (r, m')) : getF O' C' nx ls rest (f m) a q = some (r, f m') := by
  unfold getF at h ⊢
  obtain ⟨hb, h⟩ := gb_some h
  obtain ⟨g1, g2⟩ := isK_sim H hq hb
  have hz : (oS O m a).1 ≠ 0 := by rw [g2]; exact hq
  rw [f_gb g1, H.2.1 m a _ hz, H.2.2.1 m a _ hz, H.2.2.2.1 m a _ hz]
  split at h <;> exact hC _ _ _ _ _ _ h
theorem putF_sim (H : Hom O O' f) {C : Cont μ} {C' : Cont ν} (hC : ∀ pc ls st m r m', C pc ls st m = some (r, m') → C' pc ls st (f m) = some (r, f m')) {nx : Nat} {ls st : List Value} {m m' : μ} {r : Value} {q : Nat × Nat × Nat × Bool × Nat} (hq : q.1 ≠ 0) (h : putF O C me nx ls st m q = some (r, m')) : putF O' C' me nx ls st (f m) q = some (r, f m') := by
  unfold putF at h ⊢
  obtain ⟨hb, h⟩ := gb_some h
  rw [f_gb hb]
  split at h
  · obtain ⟨a, v, rest, rfl, h⟩ := inv_ia h
    obtain ⟨hk, h⟩ := gb_some h
    obtain ⟨g1, g2⟩ := isK_sim H hq hk
    show gb _ _ = _
    rw [f_gb g1, H.2.2.2.2.1 m a _ _ (by rw [g2]; exact hq)]
    exact hC _ _ _ _ _ _ h
  · obtain ⟨a, v, rest, rfl, h⟩ := inv_la h
    obtain ⟨hk, h⟩ := gb_some h
    obtain ⟨g1, g2⟩ := isK_sim H hq hk
    show gb _ _ = _
    rw [f_gb g1, H.2.2.2.2.2.1 m a _ _ (by rw [g2]; exact hq)]
    exact hC _ _ _ _ _ _ h
  · obtain ⟨a, v, rest, rfl, h⟩ := inv_ba h
    obtain ⟨hk, h⟩ := gb_some h
    obtain ⟨m1, hm1, h⟩ := inv_oB h
    obtain ⟨g1, g2⟩ := isK_sim H hq hk
    show gb _ _ = _
    rw [f_gb g1, f_oB (H.2.2.2.2.2.2.1 m a _ _ _ (by rw [g2]; exact hq) hm1)]
    exact hC _ _ _ _ _ _ h
  · obtain ⟨a, v, rest, rfl, h⟩ := inv_ia h
    obtain ⟨hk, h⟩ := gb_some h
    obtain ⟨hv, h⟩ := gb_some h
    obtain ⟨g1, g2⟩ := isK_sim H hq hk
    show gb _ _ = _
    rw [f_gb g1, f_gb hv, H.2.2.2.2.1 m a _ _ (by rw [g2]; exact hq)]
    exact hC _ _ _ _ _ _ h
  · cases h
theorem fres_ne {own n : Nat} {q : Nat × Nat × Nat × Bool × Nat} (h : fres own n = some q) : q.1 ≠ 0 := by
  by_cases h2 : q.1 = 2
  · omega
  · obtain ⟨r, -, h10, -⟩ := fres_spec h h2
    omega
theorem swt_sim {C : Cont μ} {C' : Cont ν} {r : Value} {m' : μ} {x : Int32} {g : Int → Rs μ} {g' : Int → Rs ν} {D : Rs μ} {D' : Rs ν} (hg : ∀ q, g q = some (r, m') → g' q = some (r, f m')) (hD : D = some (r, m') → D' = some (r, f m')) : ∀ (l : List Int) (k : Int), swt x g D k l = some (r, m') → swt x g' D' k l = some (r, f m')
  | [], _, h => hD h
  | q :: l, k, h => by
    have h : (if x = iI k then g q else swt x g D (k + 1) l) = some (r, m') := h
    show (if x = iI k then g' q else swt x g' D' (k + 1) l) = some (r, f m')
    by_cases hx : x = iI k
    · rw [if_pos hx] at h ⊢; exact hg q h
    · rw [if_neg hx] at h ⊢; exact swt_sim (C := C) (C' := C') hg hD l (k + 1) h
theorem swl_sim {C : Cont μ} {C' : Cont ν} {r : Value} {m' : μ} {x : Int32} {g : Int → Rs μ} {g' : Int → Rs ν} {D : Rs μ} {D' : Rs ν} (hg : ∀ q, g q = some (r, m') → g' q = some (r, f m')) (hD : D = some (r, m') → D' = some (r, f m')) : ∀ (l : List (Int × Int)), swl x g D l = some (r, m') → swl x g' D' l = some (r, f m')
  | [], h => hD h
  | (k, q) :: l, h => by
    have h : (if x = iI k then g q else swl x g D l) = some (r, m') := h
    show (if x = iI k then g' q else swl x g' D' l) = some (r, f m')
    by_cases hx : x = iI k
    · rw [if_pos hx] at h ⊢; exact hg q h
    · rw [if_neg hx] at h ⊢; exact swl_sim (C := C) (C' := C') hg hD l h
theorem ite_sim {P : Prop} [Decidable P] {r : Value} {m' : μ} {A B : Rs μ} {A' B' : Rs ν} (hA : A = some (r, m') → A' = some (r, f m')) (hB : B = some (r, m') → B' = some (r, f m')) (h : (if P then A else B) = some (r, m')) : (if P then A' else B') = some (r, f m') := by
  split at h
  · rename_i hp; rw [if_pos hp]; exact hA h
  · rename_i hp; rw [if_neg hp]; exact hB h
theorem br_sim {cd : Jvm.ClassFile.Cond} {x y : Int32} {r : Value} {m' : μ} {A B : Rs μ} {A' B' : Rs ν} (hA : A = some (r, m') → A' = some (r, f m')) (hB : B = some (r, m') → B' = some (r, f m')) (h : br cd x y A B = some (r, m')) : br cd x y A' B' = some (r, f m') := by
  cases cd
  · exact ite_sim hA hB h
  · exact ite_sim hB hA h
  · exact ite_sim hA hB h
  · exact ite_sim hB hA h
  · exact ite_sim hA hB h
  · exact ite_sim hB hA h
theorem bra_sim {cd : Jvm.ClassFile.ACond} {x y : Nat} {r : Value} {m' : μ} {A B : Rs μ} {A' B' : Rs ν} (hA : A = some (r, m') → A' = some (r, f m')) (hB : B = some (r, m') → B' = some (r, f m')) (h : bra cd x y A B = some (r, m')) : bra cd x y A' B' = some (r, f m') := by
  cases cd
  · exact ite_sim hA hB h
  · exact ite_sim hB hA h
set_option maxHeartbeats 4000000 in
theorem ins_sim (H : Hom O O' f) (hK : ∀ me as m r m', K me as m = some (r, m') → K' me as (f m) = some (r, f m')) {C : Cont μ} {C' : Cont ν} (hC : ∀ pc ls st m r m', C pc ls st m = some (r, m') → C' pc ls st (f m) = some (r, f m')) (pc nx : Nat) (ls st : List Value) (m : μ) (i : Jvm.ClassFile.Instr) (r : Value) (m' : μ) (h : ins O K C me pc nx ls st m i = some (r, m')) : ins O' K' C' me pc nx ls st (f m) i = some (r, f m') := by
  cases i
  case iload_n kk =>
    obtain ⟨x, hx, h⟩ := inv_ldI h
    exact (f_ldI hx).trans (hC _ _ _ _ _ _ h)
  case iload kk =>
    obtain ⟨x, hx, h⟩ := inv_ldI h
    exact (f_ldI hx).trans (hC _ _ _ _ _ _ h)
  case aload_n kk =>
    obtain ⟨x, hx, h⟩ := inv_ldA h
    exact (f_ldA hx).trans (hC _ _ _ _ _ _ h)
  case aload kk =>
    obtain ⟨x, hx, h⟩ := inv_ldA h
    exact (f_ldA hx).trans (hC _ _ _ _ _ _ h)
  case lload_n kk =>
    obtain ⟨x, hx, hx2, h⟩ := inv_ldL h
    exact (f_ldL hx hx2).trans (hC _ _ _ _ _ _ h)
  case lload kk =>
    obtain ⟨x, hx, hx2, h⟩ := inv_ldL h
    exact (f_ldL hx hx2).trans (hC _ _ _ _ _ _ h)
  case istore_n kk =>
    obtain ⟨x, rest, eq0, hh⟩ := inv_u1 h
    clear h
    subst eq0
    have h := hh
    clear hh
    obtain ⟨hb, h⟩ := gb_some h
    exact (f_gb hb).trans (hC _ _ _ _ _ _ h)
  case istore kk =>
    obtain ⟨x, rest, eq0, hh⟩ := inv_u1 h
    clear h
    subst eq0
    have h := hh
    clear hh
    obtain ⟨hb, h⟩ := gb_some h
    exact (f_gb hb).trans (hC _ _ _ _ _ _ h)
  case astore_n kk =>
    obtain ⟨x, rest, eq0, hh⟩ := inv_ua h
    clear h
    subst eq0
    have h := hh
    clear hh
    obtain ⟨hb, h⟩ := gb_some h
    exact (f_gb hb).trans (hC _ _ _ _ _ _ h)
  case astore kk =>
    obtain ⟨x, rest, eq0, hh⟩ := inv_ua h
    clear h
    subst eq0
    have h := hh
    clear hh
    obtain ⟨hb, h⟩ := gb_some h
    exact (f_gb hb).trans (hC _ _ _ _ _ _ h)
  case lstore_n kk =>
    obtain ⟨x, rest, eq0, hh⟩ := inv_ul h
    clear h
    subst eq0
    have h := hh
    clear hh
    obtain ⟨hb, h⟩ := gb_some h
    exact (f_gb hb).trans (hC _ _ _ _ _ _ h)
  case lstore kk =>
    obtain ⟨x, rest, eq0, hh⟩ := inv_ul h
    clear h
    subst eq0
    have h := hh
    clear hh
    obtain ⟨hb, h⟩ := gb_some h
    exact (f_gb hb).trans (hC _ _ _ _ _ _ h)
  case iinc kk n =>
    obtain ⟨x, hx, h⟩ := inv_ldI h
    obtain ⟨hb, h⟩ := gb_some h
    exact (f_ldI hx).trans ((f_gb hb).trans (hC _ _ _ _ _ _ h))
  case iconst n =>
    exact hC _ _ _ _ _ _ h
  case bipush n =>
    exact hC _ _ _ _ _ _ h
  case sipush n =>
    exact hC _ _ _ _ _ _ h
  case lconst n =>
    exact hC _ _ _ _ _ _ h
  case ldc kk =>
    have h : oE (kint me.2.1 kk) (fun z => C nx ls (.int (iI z.1) :: st) m) (oX (kstr me.2.1 kk) fun a => C nx ls (.ref a.1 :: st) m) = some (r, m') := h
    show oE (kint me.2.1 kk) (fun z => C' nx ls (.int (iI z.1) :: st) (f m)) (oX (kstr me.2.1 kk) fun a => C' nx ls (.ref a.1 :: st) (f m)) = _
    cases hk : kint me.2.1 kk with
    | some z => rw [hk] at h; exact hC _ _ _ _ _ _ h
    | none =>
      rw [hk] at h
      obtain ⟨q, hq, h⟩ := inv_oX (show oX (kstr me.2.1 kk) (fun a => C nx ls (.ref a.1 :: st) m) = some (r, m') from h)
      exact (f_oX hq).trans (hC _ _ _ _ _ _ h)
  case ldc_w kk =>
    obtain ⟨z, hz, h⟩ := inv_oX h
    exact (f_oX hz).trans (hC _ _ _ _ _ _ h)
  case ldc2_w kk =>
    obtain ⟨z, hz, h⟩ := inv_oX h
    exact (f_oX hz).trans (hC _ _ _ _ _ _ h)
  case idiv =>
    obtain ⟨x, y, rest, eq0, hh⟩ := inv_b2 h
    clear h
    subst eq0
    have h := hh
    clear hh
    obtain ⟨hb, h⟩ := gb_some h
    exact (f_gb hb).trans (hC _ _ _ _ _ _ h)
  case irem =>
    obtain ⟨x, y, rest, eq0, hh⟩ := inv_b2 h
    clear h
    subst eq0
    have h := hh
    clear hh
    obtain ⟨hb, h⟩ := gb_some h
    exact (f_gb hb).trans (hC _ _ _ _ _ _ h)
  case iadd =>
    obtain ⟨x, y, rest, eq0, hh⟩ := inv_b2 h
    clear h
    subst eq0
    have h := hh
    clear hh
    exact hC _ _ _ _ _ _ h
  case isub =>
    obtain ⟨x, y, rest, eq0, hh⟩ := inv_b2 h
    clear h
    subst eq0
    have h := hh
    clear hh
    exact hC _ _ _ _ _ _ h
  case imul =>
    obtain ⟨x, y, rest, eq0, hh⟩ := inv_b2 h
    clear h
    subst eq0
    have h := hh
    clear hh
    exact hC _ _ _ _ _ _ h
  case iand =>
    obtain ⟨x, y, rest, eq0, hh⟩ := inv_b2 h
    clear h
    subst eq0
    have h := hh
    clear hh
    exact hC _ _ _ _ _ _ h
  case ior =>
    obtain ⟨x, y, rest, eq0, hh⟩ := inv_b2 h
    clear h
    subst eq0
    have h := hh
    clear hh
    exact hC _ _ _ _ _ _ h
  case ixor =>
    obtain ⟨x, y, rest, eq0, hh⟩ := inv_b2 h
    clear h
    subst eq0
    have h := hh
    clear hh
    exact hC _ _ _ _ _ _ h
  case ishl =>
    obtain ⟨x, y, rest, eq0, hh⟩ := inv_b2 h
    clear h
    subst eq0
    have h := hh
    clear hh
    exact hC _ _ _ _ _ _ h
  case ishr =>
    obtain ⟨x, y, rest, eq0, hh⟩ := inv_b2 h
    clear h
    subst eq0
    have h := hh
    clear hh
    exact hC _ _ _ _ _ _ h
  case iushr =>
    obtain ⟨x, y, rest, eq0, hh⟩ := inv_b2 h
    clear h
    subst eq0
    have h := hh
    clear hh
    exact hC _ _ _ _ _ _ h
  case ladd =>
    obtain ⟨x, y, rest, eq0, hh⟩ := inv_bl h
    clear h
    subst eq0
    have h := hh
    clear hh
    exact hC _ _ _ _ _ _ h
  case lsub =>
    obtain ⟨x, y, rest, eq0, hh⟩ := inv_bl h
    clear h
    subst eq0
    have h := hh
    clear hh
    exact hC _ _ _ _ _ _ h
  case lmul =>
    obtain ⟨x, y, rest, eq0, hh⟩ := inv_bl h
    clear h
    subst eq0
    have h := hh
    clear hh
    exact hC _ _ _ _ _ _ h
  case land =>
    obtain ⟨x, y, rest, eq0, hh⟩ := inv_bl h
    clear h
    subst eq0
    have h := hh
    clear hh
    exact hC _ _ _ _ _ _ h
  case lor =>
    obtain ⟨x, y, rest, eq0, hh⟩ := inv_bl h
    clear h
    subst eq0
    have h := hh
    clear hh
    exact hC _ _ _ _ _ _ h
  case lcmp =>
    obtain ⟨x, y, rest, eq0, hh⟩ := inv_bl h
    clear h
    subst eq0
    have h := hh
    clear hh
    exact hC _ _ _ _ _ _ h
  case lshl =>
    obtain ⟨x, y, rest, eq0, hh⟩ := inv_li h
    clear h
    subst eq0
    have h := hh
    clear hh
    exact hC _ _ _ _ _ _ h
  case lshr =>
    obtain ⟨x, y, rest, eq0, hh⟩ := inv_li h
    clear h
    subst eq0
    have h := hh
    clear hh
    exact hC _ _ _ _ _ _ h
  case ineg =>
    obtain ⟨x, rest, eq0, hh⟩ := inv_u1 h
    clear h
    subst eq0
    have h := hh
    clear hh
    exact hC _ _ _ _ _ _ h
  case i2l =>
    obtain ⟨x, rest, eq0, hh⟩ := inv_u1 h
    clear h
    subst eq0
    have h := hh
    clear hh
    exact hC _ _ _ _ _ _ h
  case i2b =>
    obtain ⟨x, rest, eq0, hh⟩ := inv_u1 h
    clear h
    subst eq0
    have h := hh
    clear hh
    exact hC _ _ _ _ _ _ h
  case i2s =>
    obtain ⟨x, rest, eq0, hh⟩ := inv_u1 h
    clear h
    subst eq0
    have h := hh
    clear hh
    exact hC _ _ _ _ _ _ h
  case i2c =>
    obtain ⟨x, rest, eq0, hh⟩ := inv_u1 h
    clear h
    subst eq0
    have h := hh
    clear hh
    exact hC _ _ _ _ _ _ h
  case l2i =>
    obtain ⟨x, rest, eq0, hh⟩ := inv_ul h
    clear h
    subst eq0
    have h := hh
    clear hh
    exact hC _ _ _ _ _ _ h
  case dup =>
    obtain ⟨v, rest, eq0, hv, hh⟩ := inv_v1 h
    clear h
    subst eq0
    have h := hh
    clear hh
    exact (f_gb hv).trans (hC _ _ _ _ _ _ h)
  case pop =>
    obtain ⟨v, rest, eq0, hv, hh⟩ := inv_v1 h
    clear h
    subst eq0
    have h := hh
    clear hh
    exact (f_gb hv).trans (hC _ _ _ _ _ _ h)
  case dup_x1 =>
    obtain ⟨v, u, rest, eq0, hv, hu, hh⟩ := inv_v2 h
    clear h
    subst eq0
    have h := hh
    clear hh
    exact (f_gb (by rw [hv, hu]; rfl)).trans (hC _ _ _ _ _ _ h)
  case dup2 =>
    obtain ⟨v, u, rest, eq0, hv, hu, hh⟩ := inv_v2 h
    clear h
    subst eq0
    have h := hh
    clear hh
    exact (f_gb (by rw [hv, hu]; rfl)).trans (hC _ _ _ _ _ _ h)
  case goto off =>
    exact hC _ _ _ _ _ _ h
  case ifCond cd off =>
    obtain ⟨x, rest, eq0, hh⟩ := inv_u1 h
    clear h
    subst eq0
    have h := hh
    clear hh
    exact br_sim (hC _ _ _ _ _ _) (hC _ _ _ _ _ _) h
  case if_icmp cd off =>
    obtain ⟨x, y, rest, eq0, hh⟩ := inv_b2 h
    clear h
    subst eq0
    have h := hh
    clear hh
    exact br_sim (hC _ _ _ _ _ _) (hC _ _ _ _ _ _) h
  case if_acmp cd off =>
    obtain ⟨x, y, rest, eq0, hh⟩ := inv_ba h
    clear h
    subst eq0
    have h := hh
    clear hh
    obtain ⟨hb, h⟩ := gb_some h
    exact (f_gb hb).trans (bra_sim (hC _ _ _ _ _ _) (hC _ _ _ _ _ _) h)
  case ifnull off =>
    obtain ⟨x, rest, eq0, hh⟩ := inv_ua h
    clear h
    subst eq0
    have h := hh
    clear hh
    obtain ⟨hb, h⟩ := gb_some h
    exact (f_gb hb).trans (ite_sim (hC _ _ _ _ _ _) (hC _ _ _ _ _ _) h)
  case ifnonnull off =>
    obtain ⟨x, rest, eq0, hh⟩ := inv_ua h
    clear h
    subst eq0
    have h := hh
    clear hh
    obtain ⟨hb, h⟩ := gb_some h
    exact (f_gb hb).trans (ite_sim (hC _ _ _ _ _ _) (hC _ _ _ _ _ _) h)
  case tableswitch df lo hi offs =>
    obtain ⟨x, rest, eq0, hh⟩ := inv_u1 h
    clear h
    subst eq0
    have h := hh
    clear hh
    exact swt_sim (C := C) (C' := C') (fun _ => hC _ _ _ _ _ _) (hC _ _ _ _ _ _) _ _ h
  case lookupswitch df ps =>
    obtain ⟨x, rest, eq0, hh⟩ := inv_u1 h
    clear h
    subst eq0
    have h := hh
    clear hh
    exact swl_sim (C := C) (C' := C') (fun _ => hC _ _ _ _ _ _) (hC _ _ _ _ _ _) _ h
  case getfield n =>
    obtain ⟨q, hq, h⟩ := inv_oX h
    obtain ⟨a, rest, eq0, hh⟩ := inv_ua h
    clear h
    subst eq0
    have h := hh
    clear hh
    exact (f_oX hq).trans (getF_sim H hC (fres_ne hq) h)
  case putfield n =>
    obtain ⟨q, hq, h⟩ := inv_oX h
    exact (f_oX hq).trans (putF_sim H hC (fres_ne hq) h)
  case getstatic n =>
    obtain ⟨q, hq, h⟩ := inv_oX h
    refine (f_oX hq).trans ?_
    cases hb : Nat.beq q.1 1 with
    | true => rw [hb] at h; exact hC _ _ _ _ _ _ h
    | false => rw [hb] at h; exact hC _ _ _ _ _ _ h
  case iaload =>
    obtain ⟨a, i, rest, eq0, hh⟩ := inv_ai h
    clear h
    subst eq0
    have h := hh
    clear hh
    show bb (isK O' (f m) a 1) _ _ = _
    cases hb : isK O m a 1 with
    | true =>
      rw [hb] at h
      obtain ⟨hi, h⟩ := gb_some h
      obtain ⟨g1, g2⟩ := isK_sim H (by decide) hb
      rw [g1]
      show gb _ _ = _
      rw [H.2.2.2.2.2.2.2.2 m a g2, f_gb hi, H.2.1 m a _ (by rw [g2]; decide)]
      exact hC _ _ _ _ _ _ h
    | false =>
      rw [hb] at h
      obtain ⟨hi, h⟩ := gb_some h
      obtain ⟨g1, g2⟩ := at_sim H (by decide) hi
      have hz : (oS O m a).1 ≠ 0 := by rw [g2]; decide
      rw [isK_sim0 H hz, hb]
      show gb _ _ = _
      rw [f_gb g1, H.2.1 m a _ hz]
      exact hC _ _ _ _ _ _ h
  case baload =>
    obtain ⟨a, i, rest, eq0, hh⟩ := inv_ai h
    clear h
    subst eq0
    have h := hh
    clear hh
    show bb (isK O' (f m) a 3) _ _ = _
    cases hb : isK O m a 3 with
    | true =>
      rw [hb] at h
      obtain ⟨hi, h⟩ := gb_some h
      obtain ⟨g1, g2⟩ := isK_sim H (by decide) hb
      rw [g1]
      show gb _ _ = _
      rw [H.1 m a (by rw [g2]; decide), f_gb hi]
      exact hC _ _ _ _ _ _ h
    | false =>
      rw [hb] at h
      obtain ⟨hi, h⟩ := gb_some h
      have hz : (oS O m a).1 ≠ 0 := by
        rcases Bool.or_eq_true_iff.mp hi with q | q
        · rw [(at_sim H (by decide) q).2]; decide
        · rw [(at_sim H (by decide) q).2]; decide
      rw [isK_sim0 H hz, hb]
      show gb _ _ = _
      rw [at_sim0 H hz, at_sim0 H hz, f_gb hi, H.2.1 m a _ hz]
      exact hC _ _ _ _ _ _ h
  case laload =>
    obtain ⟨a, i, rest, eq0, hh⟩ := inv_ai h
    clear h
    subst eq0
    have h := hh
    clear hh
    obtain ⟨hi, h⟩ := gb_some h
    obtain ⟨g1, g2⟩ := at_sim H (by decide) hi
    show gb _ _ = _
    rw [f_gb g1, H.2.2.1 m a _ (by rw [g2]; decide)]
    exact hC _ _ _ _ _ _ h
  case aaload =>
    obtain ⟨a, i, rest, eq0, hh⟩ := inv_ai h
    clear h
    subst eq0
    have h := hh
    clear hh
    obtain ⟨hi, h⟩ := gb_some h
    have hz : (oS O m a).1 ≠ 0 := by
      rcases or3 hi with q | q | q
      · rw [(at_sim H (by decide) q).2]; decide
      · rw [(at_sim H (by decide) q).2]; decide
      · rw [(at_sim H (by decide) q).2]; decide
    show gb _ _ = _
    rw [at_sim0 H hz, at_sim0 H hz, at_sim0 H hz, f_gb hi, H.2.2.2.1 m a _ hz]
    exact hC _ _ _ _ _ _ h
  case iastore =>
    obtain ⟨a, i, v, rest, eq0, hh⟩ := inv_aii h
    clear h
    subst eq0
    have h := hh
    clear hh
    obtain ⟨hi, h⟩ := gb_some h
    obtain ⟨g1, g2⟩ := at_sim H (by decide) hi
    show gb _ _ = _
    rw [f_gb g1, H.2.2.2.2.1 m a _ _ (by rw [g2]; decide)]
    exact hC _ _ _ _ _ _ h
  case bastore =>
    obtain ⟨a, i, v, rest, eq0, hh⟩ := inv_aii h
    clear h
    subst eq0
    have h := hh
    clear hh
    show bb (isK O' (f m) a 41) _ _ = _
    cases hb : isK O m a 41 with
    | true =>
      rw [hb] at h
      obtain ⟨hi, h⟩ := gb_some h
      obtain ⟨g1, g2⟩ := at_sim H (by decide) hi
      have hz : (oS O m a).1 ≠ 0 := by rw [g2]; decide
      rw [isK_sim0 H hz, hb]
      show gb _ _ = _
      rw [f_gb g1, H.2.2.2.2.1 m a _ _ hz]
      exact hC _ _ _ _ _ _ h
    | false =>
      rw [hb] at h
      obtain ⟨hi, h⟩ := gb_some h
      obtain ⟨g1, g2⟩ := at_sim H (by decide) hi
      have hz : (oS O m a).1 ≠ 0 := by rw [g2]; decide
      rw [isK_sim0 H hz, hb]
      show gb _ _ = _
      rw [f_gb g1, H.2.2.2.2.1 m a _ _ hz]
      exact hC _ _ _ _ _ _ h
  case lastore =>
    obtain ⟨a, i, v, rest, eq0, hh⟩ := inv_ail h
    clear h
    subst eq0
    have h := hh
    clear hh
    obtain ⟨hi, h⟩ := gb_some h
    obtain ⟨g1, g2⟩ := at_sim H (by decide) hi
    show gb _ _ = _
    rw [f_gb g1, H.2.2.2.2.2.1 m a _ _ (by rw [g2]; decide)]
    exact hC _ _ _ _ _ _ h
  case aastore =>
    obtain ⟨a, i, v, rest, eq0, hh⟩ := inv_aia h
    clear h
    subst eq0
    have h := hh
    clear hh
    obtain ⟨hi, h⟩ := gb_some h
    rw [Bool.and_eq_true] at hi
    obtain ⟨m1, hm1, h⟩ := inv_oB h
    have hz : (oS O m a).1 ≠ 0 := by
      rcases or3 hi.1 with q | q | q
      · rw [(at_sim H (by decide) q).2]; decide
      · rw [(at_sim H (by decide) q).2]; decide
      · rw [(at_sim H (by decide) q).2]; decide
    have hk0 : nslots (oS O m a).1 ≠ 0 := by
      rcases or3 hi.1 with q | q | q
      · rw [(at_sim H (by decide) q).2]; decide
      · rw [(at_sim H (by decide) q).2]; decide
      · rw [(at_sim H (by decide) q).2]; decide
    show gb _ _ = _
    rw [at_sim0 H hz, at_sim0 H hz, at_sim0 H hz, H.1 m a hz, f_gb (by rw [hi.1, (isK_sim H hk0 hi.2).1]; rfl), f_oB (H.2.2.2.2.2.2.1 m a _ _ _ hz hm1)]
    exact hC _ _ _ _ _ _ h
  case arraylength =>
    obtain ⟨a, rest, eq0, hh⟩ := inv_ua h
    clear h
    subst eq0
    have h := hh
    clear hh
    show bb (isK O' (f m) a 1) _ _ = _
    cases hb : isK O m a 1 with
    | true =>
      rw [hb] at h
      obtain ⟨g1, g2⟩ := isK_sim H (by decide) hb
      rw [g1, H.2.2.2.2.2.2.2.2 m a g2]
      exact hC _ _ _ _ _ _ h
    | false =>
      rw [hb] at h
      obtain ⟨hi, h⟩ := gb_some h
      have hz : (oS O m a).1 ≠ 0 := by
        have hi2 := hi
        simp only [Bool.or_eq_true] at hi2
        rcases hi2 with ((((((q | q) | q) | q) | q) | q) | q) | q <;> (rw [(isK_sim H (by decide) q).2]; decide)
      rw [isK_sim0 H hz, hb]
      show gb _ _ = _
      rw [isK_sim0 H hz, isK_sim0 H hz, isK_sim0 H hz, isK_sim0 H hz, isK_sim0 H hz, isK_sim0 H hz, isK_sim0 H hz, isK_sim0 H hz, f_gb hi, H.1 m a hz]
      exact hC _ _ _ _ _ _ h
  case new n =>
    obtain ⟨q, hq, h⟩ := inv_oX h
    obtain ⟨a, m1, hn, h⟩ := inv_oP h
    exact (f_oX hq).trans ((f_oP (H.2.2.2.2.2.2.2.1 _ _ _ _ _ hn)).trans (hC _ _ _ _ _ _ h))
  case newarray t =>
    obtain ⟨x, rest, eq0, hh⟩ := inv_u1 h
    clear h
    subst eq0
    have h := hh
    clear hh
    exact newA_sim H hC h
  case anewarray n =>
    obtain ⟨q, hq, h⟩ := inv_oX h
    obtain ⟨x, rest, eq0, hh⟩ := inv_u1 h
    clear h
    subst eq0
    have h := hh
    clear hh
    exact (f_oX hq).trans (newA_sim H hC h)
  case invokevirtual n =>
    obtain ⟨q, hq, h⟩ := inv_oX h
    obtain ⟨hcat, h⟩ := gb_some h
    obtain ⟨b, rest, hst, h⟩ := inv_ua h
    obtain ⟨hk, h⟩ := gb_some h
    rw [Bool.and_eq_true] at hk
    have hz : Nat.beq q.2.2 0 = false := by have := hk.2; rwa [Bool.not_eq_true'] at this
    have hne : q.2.2 ≠ 0 := fun e => by rw [e] at hz; exact absurd hz (by decide)
    exact (f_oX hq).trans ((f_gb hcat).trans ((f_ua hst).trans ((f_gb (by rw [(isK_sim H hne hk.1).1, hk.2]; rfl)).trans (ivk_sim hC hK h))))
  case invokestatic n =>
    obtain ⟨q, hq, h⟩ := inv_oX h
    obtain ⟨hcat, h⟩ := gb_some h
    exact (f_oX hq).trans ((f_gb hcat).trans (ivk_sim hC hK h))
  case invokespecial n =>
    have h : bb (oini me.2.1 n) (ua st fun a r => gb (Nat.ble (catS r) 8 && Nat.ble 100 a) (C nx ls r m)) (oX (mres me.2.1 n) fun q => gb (Nat.ble (catS (st.drop (q.2.1 + 1))) 8) (ua (st.drop q.2.1) fun b rest => gb (isK O m b q.2.2 && (!(Nat.beq q.2.2 0) && q.1.2.2.2.2.2)) (ivk K C q.1 nx ls (.ref b :: (st.take q.2.1).reverse) rest m))) = some (r, m') := h
    show bb (oini me.2.1 n) _ _ = _
    cases ho : oini me.2.1 n with
    | true =>
      rw [ho] at h
      obtain ⟨a, rest, eq0, hh⟩ := inv_ua (show ua st (fun a r => gb (Nat.ble (catS r) 8 && Nat.ble 100 a) (C nx ls r m)) = some (r, m') from h)
      clear h
      subst eq0
      have h := hh
      clear hh
      obtain ⟨hcat, h⟩ := gb_some h
      exact (f_gb hcat).trans (hC _ _ _ _ _ _ h)
    | false =>
      rw [ho] at h
      obtain ⟨q, hq, h⟩ := inv_oX (show oX (mres me.2.1 n) _ = some (r, m') from h)
      obtain ⟨hcat, h⟩ := gb_some h
      obtain ⟨b, rest, hst, h⟩ := inv_ua h
      obtain ⟨hk, h⟩ := gb_some h
      rw [Bool.and_eq_true] at hk
      have hz : Nat.beq q.2.2 0 = false := by have := hk.2; rw [Bool.and_eq_true] at this; rw [Bool.not_eq_true'] at this; exact this.1
      have hne : q.2.2 ≠ 0 := fun e => by rw [e] at hz; exact absurd hz (by decide)
      exact (f_oX hq).trans ((f_gb hcat).trans ((f_ua hst).trans ((f_gb (by rw [(isK_sim H hne hk.1).1, hk.2]; rfl)).trans (ivk_sim hC hK h))))
  case ireturn =>
    have h : ret1 me st m = some (r, m') := h
    show ret1 me st (f m) = some (r, f m')
    unfold ret1 at h ⊢
    repeat' split at h
    all_goals first | (cases h; rfl) | (obtain ⟨hb, h⟩ := gb_some h; rw [f_gb hb]; cases h; rfl) | cases h
  case lreturn =>
    have h : ((match (generalizing := false) st with | [.long v] => (match (generalizing := false) me.2.2.2.2.1 with | 6 => some (.long v, m) | _ => none) | _ => none) : Rs μ) = some (r, m') := h
    show ((match (generalizing := false) st with | [.long v] => (match (generalizing := false) me.2.2.2.2.1 with | 6 => some (.long v, (f m)) | _ => none) | _ => none) : Rs ν) = some (r, f m')
    repeat' split at h
    all_goals first | (cases h; rfl) | cases h
  case areturn =>
    have h : ((match (generalizing := false) st with | [.ref v] => (match (generalizing := false) me.2.2.2.2.1 with | 7 => some (.ref v, m) | _ => none) | _ => none) : Rs μ) = some (r, m') := h
    show ((match (generalizing := false) st with | [.ref v] => (match (generalizing := false) me.2.2.2.2.1 with | 7 => some (.ref v, (f m)) | _ => none) | _ => none) : Rs ν) = some (r, f m')
    repeat' split at h
    all_goals first | (cases h; rfl) | cases h
  case return_ =>
    have h : ((match (generalizing := false) st with | [] => (match (generalizing := false) me.2.2.2.2.1 with | 0 => some (.null, m) | _ => none) | _ => none) : Rs μ) = some (r, m') := h
    show ((match (generalizing := false) st with | [] => (match (generalizing := false) me.2.2.2.2.1 with | 0 => some (.null, (f m)) | _ => none) | _ => none) : Rs ν) = some (r, f m')
    repeat' split at h
    all_goals first | (cases h; rfl) | cases h
  all_goals exact absurd (show (none : Rs μ) = some (r, m') from h) (by simp)
theorem run_sim (H : Hom O O' f) (hK : ∀ me as m r m', K me as m = some (r, m') → K' me as (f m) = some (r, f m')) : ∀ (n pc : Nat) (ls st : List Value) (m : μ) (r : Value) (m' : μ), run O K me n pc ls st m = some (r, m') → run O' K' me n pc ls st (f m) = some (r, f m')
  | 0, _, _, _, _, _, _, h => by cases h
  | n + 1, pc, ls, st, m, r, m', h => by
    have h : stp O K me (run O K me n) pc ls st m = some (r, m') := h
    show stp O' K' me (run O' K' me n) pc ls st (f m) = some (r, f m')
    unfold stp at h ⊢
    split at h
    · exact ins_sim H hK (run_sim H hK n) _ _ _ _ _ _ _ _ h
    · cases h
end Sim
theorem cl_sim {μ ν : Type} {O : Ops μ} {O' : Ops ν} {f : μ → ν} (H : Hom O O' f) : ∀ (d : Nat) (me : MD) (as : List Value) (m : μ) (r : Value) (m' : μ), cl O d me as m = some (r, m') → cl O' d me as (f m) = some (r, f m')
  | 0, _, _, _, _, _, h => by cases h
  | d + 1, me, as, m, r, m', h => by
    obtain ⟨haok, hlim⟩ := gb_some (show gb (aOk me.2.2.2.1 as) (lim O (cl O d) me 0 (ent me.2.2.2.1 as) [] m) = some (r, m') from h)
    obtain ⟨n, hn⟩ := lim_some.mp hlim
    show gb (aOk me.2.2.2.1 as) (lim O' (cl O' d) me 0 (ent me.2.2.2.1 as) [] (f m)) = some (r, f m')
    rw [f_gb haok]
    exact lim_some.mpr ⟨n, run_sim H (cl_sim H d) n _ _ _ _ _ _ hn⟩
theorem XX_sim {μ ν : Type} {O : Ops μ} {O' : Ops ν} {f : μ → ν} (H : Hom O O' f) {d : Nat} {me : MD} {pc : Nat} {ls st : List Value} {m : μ} {r : Value} {m' : μ} (h : XX O d me pc ls st m = some (r, m')) : XX O' d me pc ls st (f m) = some (r, f m') := by
  obtain ⟨n, hn⟩ := lim_some.mp (show lim O (cl O d) me pc ls st m = some (r, m') from h)
  exact lim_some.mpr ⟨n, run_sim H (cl_sim H d) n _ _ _ _ _ _ hn⟩
/-- the memory once all is made, as the first one sees it -/
def emb (w : Nat) (m : Mem) : M1 := (116, w, m.1, m.2.1, fun a k => gR m a k)
theorem sh0_hi {a : Nat} (h : 216 ≤ a) : sh0 a = (0, 0) := by
  unfold sh0
  rw [show Nat.ble 100 a = true from Nat.ble_eq_true_of_le (by omega)]
  have hl : shT.length = 116 := by decide +kernel
  show shT.getD (a - 100) (0, 0) = _
  rw [List.getD_eq_getElem?_getD, List.getElem?_eq_none (by rw [hl]; omega)]
  rfl
theorem emb_hom (w : Nat) : Hom O2 O1 (emb w) := by
  have hS : ∀ m a, oS O1 (emb w m) a = oS O2 m a := by
    intro m a
    show bb (Nat.blt a (100 + 116)) (sh0 a) (0, 0) = sh0 a
    rcases Nat.lt_or_ge a 216 with h | h
    · rw [lt_blt (show a < 100 + 116 by omega)]; rfl
    · rw [sh0_hi h]; cases Nat.blt a (100 + 116) <;> rfl
  refine ⟨fun m a _ => hS m a, fun _ _ _ _ => rfl, fun _ _ _ _ => rfl, fun _ _ _ _ => rfl, fun _ _ _ _ _ => rfl, fun _ _ _ _ _ => rfl, fun m a k v m' _ h => ?_, ?_, fun _ _ _ => rfl⟩
  case refine_2 =>
    intro m sh w a m' h
    have h : (none : Option (Nat × Mem)) = some (a, m') := h
    cases h
  have h : wR2 m a k v = some m' := h
  unfold wR2 at h
  cases hb : Nat.beq (sR a k) 0 with
  | false => rw [hb] at h; cases h
  | true =>
    rw [hb] at h
    cases h
    show some (r1 (emb w m) a k v) = some (emb w (wR m a k v))
    congr 1
    show ((116, w, m.1, m.2.1, up2 (fun a k => gR m a k) a k v) : M1) = (116, w, m.1, m.2.1, fun a' k' => gR (wR m a k v) a' k')
    congr 4
    funext a' k'
    show up2 (fun a k => gR m a k) a k v a' k' = bb (Nat.beq (sR a' k') 0) (up2 m.2.2 a k v a' k') (sR a' k')
    unfold up2
    by_cases ha : a' = a
    · rw [if_pos ha, if_pos ha]
      by_cases hk : k' = k
      · rw [if_pos hk, if_pos hk, ha, hk, hb]; rfl
      · rw [if_neg hk, if_neg hk]; rfl
    · rw [if_neg ha, if_neg ha]; rfl
