/-! A RUN of the interpreter is a run of the machine. -/
theorem inv_u1 {μ : Type} {st : List Value} {f : Int32 → List Value → Rs μ} {r : Value × μ} (h : u1 st f = some r) : ∃ x : Int32, ∃ rest : List Value, st = .int x :: rest ∧ f x rest = some r := by
  unfold u1 at h
  repeat' split at h
  all_goals first | cases h; done | (first | exact ⟨_, rfl, h⟩ | exact ⟨_, _, rfl, h⟩ | exact ⟨_, _, _, rfl, h⟩ | exact ⟨_, _, _, _, rfl, h⟩)
theorem inv_ul {μ : Type} {st : List Value} {f : Int64 → List Value → Rs μ} {r : Value × μ} (h : ul st f = some r) : ∃ x : Int64, ∃ rest : List Value, st = .long x :: rest ∧ f x rest = some r := by
  unfold ul at h
  repeat' split at h
  all_goals first | cases h; done | (first | exact ⟨_, rfl, h⟩ | exact ⟨_, _, rfl, h⟩ | exact ⟨_, _, _, rfl, h⟩ | exact ⟨_, _, _, _, rfl, h⟩)
theorem inv_ua {μ : Type} {st : List Value} {f : Nat → List Value → Rs μ} {r : Value × μ} (h : ua st f = some r) : ∃ x : Nat, ∃ rest : List Value, st = .ref x :: rest ∧ f x rest = some r := by
  unfold ua at h
  repeat' split at h
  all_goals first | cases h; done | (first | exact ⟨_, rfl, h⟩ | exact ⟨_, _, rfl, h⟩ | exact ⟨_, _, _, rfl, h⟩ | exact ⟨_, _, _, _, rfl, h⟩)
theorem inv_b2 {μ : Type} {st : List Value} {f : Int32 → Int32 → List Value → Rs μ} {r : Value × μ} (h : b2 st f = some r) : ∃ x : Int32, ∃ y : Int32, ∃ rest : List Value, st = .int y :: .int x :: rest ∧ f x y rest = some r := by
  unfold b2 at h
  repeat' split at h
  all_goals first | cases h; done | (first | exact ⟨_, rfl, h⟩ | exact ⟨_, _, rfl, h⟩ | exact ⟨_, _, _, rfl, h⟩ | exact ⟨_, _, _, _, rfl, h⟩)
theorem inv_bl {μ : Type} {st : List Value} {f : Int64 → Int64 → List Value → Rs μ} {r : Value × μ} (h : bl st f = some r) : ∃ x : Int64, ∃ y : Int64, ∃ rest : List Value, st = .long y :: .long x :: rest ∧ f x y rest = some r := by
  unfold bl at h
  repeat' split at h
  all_goals first | cases h; done | (first | exact ⟨_, rfl, h⟩ | exact ⟨_, _, rfl, h⟩ | exact ⟨_, _, _, rfl, h⟩ | exact ⟨_, _, _, _, rfl, h⟩)
theorem inv_ba {μ : Type} {st : List Value} {f : Nat → Nat → List Value → Rs μ} {r : Value × μ} (h : ba st f = some r) : ∃ x : Nat, ∃ y : Nat, ∃ rest : List Value, st = .ref y :: .ref x :: rest ∧ f x y rest = some r := by
  unfold ba at h
  repeat' split at h
  all_goals first | cases h; done | (first | exact ⟨_, rfl, h⟩ | exact ⟨_, _, rfl, h⟩ | exact ⟨_, _, _, rfl, h⟩ | exact ⟨_, _, _, _, rfl, h⟩)
theorem inv_li {μ : Type} {st : List Value} {f : Int64 → Int32 → List Value → Rs μ} {r : Value × μ} (h : li st f = some r) : ∃ x : Int64, ∃ y : Int32, ∃ rest : List Value, st = .int y :: .long x :: rest ∧ f x y rest = some r := by
  unfold li at h
  repeat' split at h
  all_goals first | cases h; done | (first | exact ⟨_, rfl, h⟩ | exact ⟨_, _, rfl, h⟩ | exact ⟨_, _, _, rfl, h⟩ | exact ⟨_, _, _, _, rfl, h⟩)
theorem inv_ai {μ : Type} {st : List Value} {f : Nat → Int32 → List Value → Rs μ} {r : Value × μ} (h : ai st f = some r) : ∃ a : Nat, ∃ i : Int32, ∃ rest : List Value, st = .int i :: .ref a :: rest ∧ f a i rest = some r := by
  unfold ai at h
  repeat' split at h
  all_goals first | cases h; done | (first | exact ⟨_, rfl, h⟩ | exact ⟨_, _, rfl, h⟩ | exact ⟨_, _, _, rfl, h⟩ | exact ⟨_, _, _, _, rfl, h⟩)
theorem inv_ia {μ : Type} {st : List Value} {f : Nat → Int32 → List Value → Rs μ} {r : Value × μ} (h : ia st f = some r) : ∃ a : Nat, ∃ v : Int32, ∃ rest : List Value, st = .int v :: .ref a :: rest ∧ f a v rest = some r := by
  unfold ia at h
  repeat' split at h
  all_goals first | cases h; done | (first | exact ⟨_, rfl, h⟩ | exact ⟨_, _, rfl, h⟩ | exact ⟨_, _, _, rfl, h⟩ | exact ⟨_, _, _, _, rfl, h⟩)
theorem inv_la {μ : Type} {st : List Value} {f : Nat → Int64 → List Value → Rs μ} {r : Value × μ} (h : la st f = some r) : ∃ a : Nat, ∃ v : Int64, ∃ rest : List Value, st = .long v :: .ref a :: rest ∧ f a v rest = some r := by
  unfold la at h
  repeat' split at h
  all_goals first | cases h; done | (first | exact ⟨_, rfl, h⟩ | exact ⟨_, _, rfl, h⟩ | exact ⟨_, _, _, rfl, h⟩ | exact ⟨_, _, _, _, rfl, h⟩)
theorem inv_aii {μ : Type} {st : List Value} {f : Nat → Int32 → Int32 → List Value → Rs μ} {r : Value × μ} (h : aii st f = some r) : ∃ a : Nat, ∃ i : Int32, ∃ v : Int32, ∃ rest : List Value, st = .int v :: .int i :: .ref a :: rest ∧ f a i v rest = some r := by
  unfold aii at h
  repeat' split at h
  all_goals first | cases h; done | (first | exact ⟨_, rfl, h⟩ | exact ⟨_, _, rfl, h⟩ | exact ⟨_, _, _, rfl, h⟩ | exact ⟨_, _, _, _, rfl, h⟩)
theorem inv_ail {μ : Type} {st : List Value} {f : Nat → Int32 → Int64 → List Value → Rs μ} {r : Value × μ} (h : ail st f = some r) : ∃ a : Nat, ∃ i : Int32, ∃ v : Int64, ∃ rest : List Value, st = .long v :: .int i :: .ref a :: rest ∧ f a i v rest = some r := by
  unfold ail at h
  repeat' split at h
  all_goals first | cases h; done | (first | exact ⟨_, rfl, h⟩ | exact ⟨_, _, rfl, h⟩ | exact ⟨_, _, _, rfl, h⟩ | exact ⟨_, _, _, _, rfl, h⟩)
theorem inv_aia {μ : Type} {st : List Value} {f : Nat → Int32 → Nat → List Value → Rs μ} {r : Value × μ} (h : aia st f = some r) : ∃ a : Nat, ∃ i : Int32, ∃ v : Nat, ∃ rest : List Value, st = .ref v :: .int i :: .ref a :: rest ∧ f a i v rest = some r := by
  unfold aia at h
  repeat' split at h
  all_goals first | cases h; done | (first | exact ⟨_, rfl, h⟩ | exact ⟨_, _, rfl, h⟩ | exact ⟨_, _, _, rfl, h⟩ | exact ⟨_, _, _, _, rfl, h⟩)
theorem inv_ldI {μ : Type} {ls : List Value} {k : Nat} {f : Int32 → Rs μ} {r : Value × μ} (h : ldI ls k f = some r) : ∃ x, ls[k]? = some (.int x) ∧ f x = some r := by
  unfold ldI at h
  split at h
  · rename_i x hx; exact ⟨x, hx, h⟩
  · cases h
theorem inv_ldA {μ : Type} {ls : List Value} {k : Nat} {f : Nat → Rs μ} {r : Value × μ} (h : ldA ls k f = some r) : ∃ x, ls[k]? = some (.ref x) ∧ f x = some r := by
  unfold ldA at h
  split at h
  · rename_i x hx; exact ⟨x, hx, h⟩
  · cases h
theorem inv_ldL {μ : Type} {ls : List Value} {k : Nat} {f : Int64 → Rs μ} {r : Value × μ} (h : ldL ls k f = some r) : ∃ x, ls[k]? = some (.long x) ∧ ls[k + 1]? = some mk2 ∧ f x = some r := by
  unfold ldL at h
  split at h
  · rename_i x hx
    split at h
    · rename_i hy; exact ⟨x, hx, hy, h⟩
    · cases h
  · cases h
theorem inv_v1 {μ : Type} {st : List Value} {f : Value → List Value → Rs μ} {r : Value × μ} (h : v1 st f = some r) : ∃ v rest, st = v :: rest ∧ w1 v = true ∧ f v rest = some r := by
  unfold v1 at h
  split at h
  · obtain ⟨h1, h2⟩ := gb_some h; exact ⟨_, _, rfl, h1, h2⟩
  · cases h
theorem inv_v2 {μ : Type} {st : List Value} {f : Value → Value → List Value → Rs μ} {r : Value × μ} (h : v2 st f = some r) : ∃ v u rest, st = v :: u :: rest ∧ w1 v = true ∧ w1 u = true ∧ f v u rest = some r := by
  unfold v2 at h
  split at h
  · obtain ⟨h1, h2⟩ := gb_some h
    rw [Bool.and_eq_true] at h1
    exact ⟨_, _, _, rfl, h1.1, h1.2, h2⟩
  · cases h
theorem inv_oX {α μ : Type} {o : Option α} {f : α → Rs μ} {r : Value × μ} (h : oX o f = some r) : ∃ q, o = some q ∧ f q = some r := by
  cases o with
  | none => cases h
  | some q => exact ⟨q, rfl, h⟩
theorem inv_oB {μ : Type} {o : Option μ} {f : μ → Rs μ} {r : Value × μ} (h : oB o f = some r) : ∃ q, o = some q ∧ f q = some r := by
  cases o with
  | none => cases h
  | some q => exact ⟨q, rfl, h⟩
theorem inv_oP {μ : Type} {o : Option (Nat × μ)} {f : Nat → μ → Rs μ} {r : Value × μ} (h : oP o f = some r) : ∃ a q, o = some (a, q) ∧ f a q = some r := by
  cases o with
  | none => cases h
  | some q => exact ⟨q.1, q.2, rfl, h⟩
theorem inv_mres {own n : Nat} {Q : MD × Nat × Nat} (h : mres own n = some Q) : ∃ q, mrow own n = some q ∧ Q = (mds.getD q.1 m_law, q.2.1, q.2.2.1) := by
  unfold mres at h
  split at h
  · rename_i q hq; cases h; exact ⟨q, hq, rfl⟩
  · cases h
theorem inv_ivk {μ : Type} {K : MD → List Value → μ → Rs μ} {C : Nat → List Value → List Value → μ → Rs μ} {me : MD} {nx : Nat} {ls as rest : List Value} {m : μ} {R : Value × μ} (h : ivk K C me nx ls as rest m = some R) : ∃ r m', K me as m = some (r, m') ∧ C nx ls (rst r ++ rest) m' = some R := by
  unfold ivk at h
  split at h
  · unfold bV at h
    split at h
    · rename_i m' hK; exact ⟨.null, m', hK, h⟩
    · cases h
  · unfold bL at h
    split at h
    · rename_i r m' hK; exact ⟨.long r, m', hK, h⟩
    · cases h
  · unfold bR at h
    split at h
    · rename_i r m' hK; exact ⟨.ref r, m', hK, h⟩
    · cases h
  · unfold bI at h
    split at h
    · rename_i r m' hK; exact ⟨.int r, m', hK, h⟩
    · cases h
theorem inv_pop {st rest : List Value} {n b : Nat} (h : st.drop n = .ref b :: rest) : ((st.take n).reverse).length = n ∧ st = ((st.take n).reverse).reverse ++ .ref b :: rest := by
  have hl : n < st.length := by
    rcases Nat.lt_or_ge n st.length with q | q
    · exact q
    · rw [List.drop_eq_nil_of_le q] at h; cases h
  refine ⟨by rw [List.length_reverse, List.length_take]; omega, ?_⟩
  rw [List.reverse_reverse, ← h, List.take_append_drop]
/-- of the rows that call: what the tables keep apart -/
def ckV (me : MD) : Bool := me.2.2.1.all (fun q => match q.2.1 with
  | .invokevirtual k => match mrow me.2.1 k with
    | some z => Nat.beq z.2.2.2.2 0 && !(mds.getD z.1 m_law).2.2.2.2.2
    | none => true
  | _ => true)

set_option maxRecDepth 100000 in
theorem ckVs_0 : mds_0.all ckV = true := by decide +kernel
set_option maxRecDepth 100000 in
theorem ckVs_1 : mds_1.all ckV = true := by decide +kernel
set_option maxRecDepth 100000 in
theorem ckVs_2 : mds_2.all ckV = true := by decide +kernel
set_option maxRecDepth 100000 in
theorem ckVs_3 : mds_3.all ckV = true := by decide +kernel
set_option maxRecDepth 100000 in
theorem ckVs_4 : mds_4.all ckV = true := by decide +kernel
set_option maxRecDepth 100000 in
theorem ckVs_5 : mds_5.all ckV = true := by decide +kernel
set_option maxRecDepth 100000 in
theorem ckVs_6 : mds_6.all ckV = true := by decide +kernel
set_option maxRecDepth 100000 in
theorem ckVs_7 : mds_7.all ckV = true := by decide +kernel
set_option maxRecDepth 100000 in
theorem ckVs_8 : mds_8.all ckV = true := by decide +kernel
set_option maxRecDepth 100000 in
theorem ckVs_9 : mds_9.all ckV = true := by decide +kernel
set_option maxRecDepth 100000 in
theorem ckVs_10 : mds_10.all ckV = true := by decide +kernel
set_option maxRecDepth 100000 in
theorem ckVs_11 : mds_11.all ckV = true := by decide +kernel
set_option maxRecDepth 100000 in
theorem ckVs_12 : mds_12.all ckV = true := by decide +kernel
set_option maxRecDepth 100000 in
theorem ckVs_13 : mds_13.all ckV = true := by decide +kernel
set_option maxRecDepth 100000 in
theorem ckVs_14 : mds_14.all ckV = true := by decide +kernel
set_option maxRecDepth 100000 in
theorem ckVs_15 : mds_15.all ckV = true := by decide +kernel
set_option maxRecDepth 100000 in
theorem ckVs_16 : mds_16.all ckV = true := by decide +kernel
set_option maxRecDepth 100000 in
theorem ckVs_17 : mds_17.all ckV = true := by decide +kernel
set_option maxRecDepth 100000 in
theorem ckVs_18 : mds_18.all ckV = true := by decide +kernel
set_option maxRecDepth 100000 in
theorem ckVs_19 : mds_19.all ckV = true := by decide +kernel
set_option maxRecDepth 100000 in
theorem ckVs_20 : mds_20.all ckV = true := by decide +kernel
set_option maxRecDepth 100000 in
theorem ckVs_21 : mds_21.all ckV = true := by decide +kernel
set_option maxRecDepth 100000 in
theorem ckVs_22 : mds_22.all ckV = true := by decide +kernel
set_option maxRecDepth 100000 in
theorem ckVs_23 : mds_23.all ckV = true := by decide +kernel
set_option maxRecDepth 100000 in
theorem ckVs_24 : mds_24.all ckV = true := by decide +kernel
set_option maxRecDepth 100000 in
theorem ckVs_25 : mds_25.all ckV = true := by decide +kernel
set_option maxRecDepth 100000 in
theorem ckVs_26 : mds_26.all ckV = true := by decide +kernel
set_option maxRecDepth 100000 in
theorem ckVs_27 : mds_27.all ckV = true := by decide +kernel
set_option maxRecDepth 100000 in
theorem ckVs_28 : mds_28.all ckV = true := by decide +kernel
set_option maxRecDepth 100000 in
theorem ckVs_29 : mds_29.all ckV = true := by decide +kernel
set_option maxRecDepth 100000 in
theorem ckVs_30 : mds_30.all ckV = true := by decide +kernel
set_option maxRecDepth 100000 in
theorem ckVs_31 : mds_31.all ckV = true := by decide +kernel
theorem ckV_all : ∀ me ∈ mds, ckV me = true := List.forall_mem_append.mpr ⟨List.all_eq_true.mp ckVs_0, List.forall_mem_append.mpr ⟨List.all_eq_true.mp ckVs_1, List.forall_mem_append.mpr ⟨List.all_eq_true.mp ckVs_2, List.forall_mem_append.mpr ⟨List.all_eq_true.mp ckVs_3, List.forall_mem_append.mpr ⟨List.all_eq_true.mp ckVs_4, List.forall_mem_append.mpr ⟨List.all_eq_true.mp ckVs_5, List.forall_mem_append.mpr ⟨List.all_eq_true.mp ckVs_6, List.forall_mem_append.mpr ⟨List.all_eq_true.mp ckVs_7, List.forall_mem_append.mpr ⟨List.all_eq_true.mp ckVs_8, List.forall_mem_append.mpr ⟨List.all_eq_true.mp ckVs_9, List.forall_mem_append.mpr ⟨List.all_eq_true.mp ckVs_10, List.forall_mem_append.mpr ⟨List.all_eq_true.mp ckVs_11, List.forall_mem_append.mpr ⟨List.all_eq_true.mp ckVs_12, List.forall_mem_append.mpr ⟨List.all_eq_true.mp ckVs_13, List.forall_mem_append.mpr ⟨List.all_eq_true.mp ckVs_14, List.forall_mem_append.mpr ⟨List.all_eq_true.mp ckVs_15, List.forall_mem_append.mpr ⟨List.all_eq_true.mp ckVs_16, List.forall_mem_append.mpr ⟨List.all_eq_true.mp ckVs_17, List.forall_mem_append.mpr ⟨List.all_eq_true.mp ckVs_18, List.forall_mem_append.mpr ⟨List.all_eq_true.mp ckVs_19, List.forall_mem_append.mpr ⟨List.all_eq_true.mp ckVs_20, List.forall_mem_append.mpr ⟨List.all_eq_true.mp ckVs_21, List.forall_mem_append.mpr ⟨List.all_eq_true.mp ckVs_22, List.forall_mem_append.mpr ⟨List.all_eq_true.mp ckVs_23, List.forall_mem_append.mpr ⟨List.all_eq_true.mp ckVs_24, List.forall_mem_append.mpr ⟨List.all_eq_true.mp ckVs_25, List.forall_mem_append.mpr ⟨List.all_eq_true.mp ckVs_26, List.forall_mem_append.mpr ⟨List.all_eq_true.mp ckVs_27, List.forall_mem_append.mpr ⟨List.all_eq_true.mp ckVs_28, List.forall_mem_append.mpr ⟨List.all_eq_true.mp ckVs_29, List.forall_mem_append.mpr ⟨List.all_eq_true.mp ckVs_30, List.all_eq_true.mp ckVs_31⟩⟩⟩⟩⟩⟩⟩⟩⟩⟩⟩⟩⟩⟩⟩⟩⟩⟩⟩⟩⟩⟩⟩⟩⟩⟩⟩⟩⟩⟩⟩
set_option maxRecDepth 100000 in
theorem init_all : mds.all (fun me => !me.2.2.2.2.2 || ((rty me).isNone && decide ((yOf me).name = "<init>"))) = true := by decide +kernel
set_option maxRecDepth 100000 in
theorem ninit_all : mds.all (fun me => me.2.2.2.2.2 || decide ((yOf me).name ≠ "<init>")) = true := by decide +kernel
theorem ckV_spec {me : MD} (hm : me ∈ mds) {pc k len : Nat} {q : Nat × Nat × Nat × Nat × Nat} (hl : lkN me.2.2.1 pc = some (.invokevirtual k, len)) (hq : mrow me.2.1 k = some q) : q.2.2.2.2 = 0 ∧ (yOf (mds.getD q.1 m_law)).name ≠ "<init>" := by
  have h := List.all_eq_true.mp (ckV_all me hm) _ (lkN_mem hl)
  dsimp only at h
  rw [hq] at h
  dsimp only at h
  rw [Bool.and_eq_true] at h
  refine ⟨Nat.eq_of_beq_eq_true h.1, ?_⟩
  have h2 := List.all_eq_true.mp ninit_all _ (mds_mem (mrow_spec hq).2.1)
  rw [Bool.or_eq_true] at h2
  rcases h2 with h2 | h2
  · rw [h2] at h; exact absurd h.2 (by decide)
  · exact of_decide_eq_true h2
theorem init_spec {me : MD} (hm : me ∈ mds) (h : me.2.2.2.2.2 = true) : rty me = none := by
  have h2 := List.all_eq_true.mp init_all _ hm
  rw [h] at h2
  simp only [Bool.not_true, Bool.false_or, Bool.and_eq_true] at h2
  cases hr : rty me with
  | none => rfl
  | some x => rw [hr] at h2; exact absurd h2.1 (by simp)
theorem tg_eq {pc : Nat} {o : Int} (h : 0 ≤ (pc : Int) + o) : (pc : Int) + o = (tg pc o : Int) := by unfold tg; omega
theorem iI_of {k : Int} (h : i32 k = true) : (iI k).toInt = k := by
  unfold i32 at h
  rw [Bool.and_eq_true] at h
  have h1 : -2147483648 ≤ k := of_decide_eq_true h.1
  have h2 : k ≤ 2147483647 := of_decide_eq_true h.2
  exact Int32.toInt_ofInt_of_le (by omega) (by omega)
theorem i32_of {k : Int} (h1 : -2147483648 ≤ k) (h2 : k ≤ 2147483647) : i32 k = true := by
  unfold i32; rw [Bool.and_eq_true]; exact ⟨decide_eq_true h1, decide_eq_true h2⟩
theorem swt_in {μ : Type} {x : Int32} {f : Int → Rs μ} {D : Rs μ} : ∀ (l : List Int) (k : Int), i32 k = true → k + l.length ≤ 2147483648 → k ≤ x.toInt → x.toInt < k + l.length → ∃ o, l[(x.toInt - k).toNat]? = some o ∧ swt x f D k l = f o
  | [], k, _, _, h1, h2 => by simp at h2; omega
  | o :: l, k, hk, hb, h1, h2 => by
    by_cases hx : x = iI k
    · refine ⟨o, ?_, ?_⟩
      · rw [hx, iI_of hk]; simp
      · show (if x = iI k then f o else _) = _
        rw [if_pos hx]
    · have hne : x.toInt ≠ k := fun e => hx (Int32.toInt_inj.mp (by rw [iI_of hk]; exact e))
      have hk1 : -2147483648 ≤ k := by unfold i32 at hk; rw [Bool.and_eq_true] at hk; exact of_decide_eq_true hk.1
      have hx2 := x.toInt_lt
      simp only [List.length_cons] at hb h2
      obtain ⟨o', e1, e2⟩ := swt_in (x := x) (f := f) (D := D) l (k + 1) (i32_of (by omega) (by omega)) (by omega) (by omega) (by omega)
      refine ⟨o', ?_, ?_⟩
      · rw [show (x.toInt - k).toNat = (x.toInt - (k + 1)).toNat + 1 by omega]
        exact e1
      · show (if x = iI k then f o else swt x f D (k + 1) l) = _
        rw [if_neg hx]; exact e2
theorem swt_out {μ : Type} {x : Int32} {f : Int → Rs μ} {D : Rs μ} : ∀ (l : List Int) (k : Int), -2147483648 ≤ k → k + l.length ≤ 2147483648 → (x.toInt < k ∨ k + l.length ≤ x.toInt) → swt x f D k l = D
  | [], _, _, _, _ => rfl
  | o :: l, k, hk, hb, h => by
    simp only [List.length_cons] at hb h
    have hx : x ≠ iI k := fun e => by
      have : x.toInt = k := by rw [e]; exact iI_of (i32_of hk (by omega))
      omega
    show (if x = iI k then f o else swt x f D (k + 1) l) = D
    rw [if_neg hx]
    exact swt_out l (k + 1) (by omega) (by omega) (by omega)
theorem swl_eq {μ : Type} {x : Int32} {f : Int → Rs μ} {d : Int} : ∀ (l : List (Int × Int)), (l.all (fun q => i32 q.1) = true) → swl x f (f d) l = f (Op.lookupswitch.offset l d x.toInt)
  | [], _ => rfl
  | (k, o) :: l, h => by
    simp only [List.all_cons, Bool.and_eq_true] at h
    show (if x = iI k then f o else swl x f (f d) l) = _
    by_cases hx : x = iI k
    · rw [if_pos hx]
      have : x.toInt = k := by rw [hx]; exact iI_of h.1
      simp [Op.lookupswitch.offset, this]
    · rw [if_neg hx, swl_eq l h.2]
      have : ¬ x.toInt = k := fun e => hx (Int32.toInt_inj.mp (by rw [iI_of h.1]; exact e))
      simp [Op.lookupswitch.offset, this, Ne.symm this, fun q => this (Eq.symm q)]
theorem swl_off {l : List (Int × Int)} {d x : Int} {P : Int → Prop} (hd : P d) (hl : ∀ q ∈ l, P q.2) : P (Op.lookupswitch.offset l d x) := by
  induction l with
  | nil => exact hd
  | cons q l ih =>
    obtain ⟨k, o⟩ := q
    simp only [Op.lookupswitch.offset]
    split
    · exact hl (k, o) List.mem_cons_self
    · exact ih (fun q hq => hl q (List.mem_cons_of_mem _ hq))

