/-! THE CONSTRUCTORS: a memory of written rows, over which they can be reckoned out. -/
abbrev D3 : Type := Nat × Nat × List (Nat × Nat × Int32) × List (Nat × Nat × Int64) × List (Nat × Nat × Nat)
def lk3 {α : Type} (z : α) (a k : Nat) : List (Nat × Nat × α) → α
  | [] => z
  | e :: l => bb (Nat.beq e.1 a && Nat.beq e.2.1 k) e.2.2 (lk3 z a k l)
def ft3 {α : Type} (a : Nat) : List (Nat × Nat × α) → List (Nat × Nat × α)
  | [] => []
  | e :: l => bb (Nat.beq e.1 a) (ft3 a l) (e :: ft3 a l)
def dS3 (m : D3) (a : Nat) : Nat × Nat := bb (Nat.ble 100 a && Nat.blt a (100 + m.1) && Nat.ble 4 (sh0 a).1) (sh0 a) (0, 0)
def dI3 (m : D3) (a k : Nat) (v : Int32) : D3 := bb (decide (lk3 0 a k m.2.2.1 = v)) m (m.1, m.2.1, (a, k, v) :: m.2.2.1, m.2.2.2)
def dL3 (m : D3) (a k : Nat) (v : Int64) : D3 := bb (decide (lk3 0 a k m.2.2.2.1 = v)) m (m.1, m.2.1, m.2.2.1, (a, k, v) :: m.2.2.2.1, m.2.2.2.2)
def dR3 (m : D3) (a k : Nat) (v : Nat) : D3 := bb (Nat.beq (lk3 0 a k m.2.2.2.2) v) m (m.1, m.2.1, m.2.2.1, m.2.2.2.1, (a, k, v) :: m.2.2.2.2)
def dN3 (m : D3) (sh : Nat × Nat) (w : Nat) : Option (Nat × D3) := bb (Nat.beq (sh0 (100 + m.1)).1 sh.1 && Nat.beq (sh0 (100 + m.1)).2 sh.2) (some (100 + m.1, (m.1 + 1, m.2.1 + w, ft3 (100 + m.1) m.2.2.1, ft3 (100 + m.1) m.2.2.2.1, ft3 (100 + m.1) m.2.2.2.2))) none
def O3 : Ops D3 := (dS3, fun m a k => lk3 0 a k m.2.2.1, fun m a k => lk3 0 a k m.2.2.2.1, fun m a k => lk3 0 a k m.2.2.2.2, dI3, dL3, fun m a k v => some (dR3 m a k v), dN3)
def f3 (B : Nat → Nat → Int32) (m : D3) : M1 := (m.1, m.2.1, fun a k => bb (Nat.ble 100 a) (lk3 0 a k m.2.2.1) (B a k), fun a k => lk3 0 a k m.2.2.2.1, fun a k => lk3 0 a k m.2.2.2.2)
theorem beq_f {a b : Nat} (h : a ≠ b) : Nat.beq a b = false := by
  cases q : Nat.beq a b with
  | false => rfl
  | true => exact absurd (Nat.eq_of_beq_eq_true q) h
theorem beq_t (a : Nat) : Nat.beq a a = true := Nat.beq_refl a
theorem lk3_c {α : Type} (z : α) (a k a' k' : Nat) (v : α) (l : List (Nat × Nat × α)) : lk3 z a' k' ((a, k, v) :: l) = if a' = a then (if k' = k then v else lk3 z a' k' l) else lk3 z a' k' l := by
  show bb (Nat.beq a a' && Nat.beq k k') v (lk3 z a' k' l) = _
  by_cases h : a' = a
  · rw [if_pos h, h, beq_t, Bool.true_and]
    by_cases g : k' = k
    · rw [if_pos g, g, beq_t]; rfl
    · rw [if_neg g, beq_f (fun e => g e.symm)]; rfl
  · rw [if_neg h, beq_f (fun e => h e.symm)]; rfl
theorem lk3_f {α : Type} (z : α) (b a k : Nat) : ∀ l : List (Nat × Nat × α), lk3 z a k (ft3 b l) = if a = b then z else lk3 z a k l
  | [] => by
    show z = if a = b then z else z
    by_cases h : a = b
    · rw [if_pos h]
    · rw [if_neg h]
  | e :: l => by
    obtain ⟨a', k', v⟩ := e
    show lk3 z a k (bb (Nat.beq a' b) (ft3 b l) ((a', k', v) :: ft3 b l)) = _
    by_cases h : a' = b
    · rw [h, beq_t]
      show lk3 z a k (ft3 b l) = _
      rw [lk3_f z b a k l, lk3_c]
      by_cases g : a = b
      · rw [if_pos g, if_pos g]
      · rw [if_neg g, if_neg g, if_neg g]
    · rw [beq_f h]
      show lk3 z a k ((a', k', v) :: ft3 b l) = _
      rw [lk3_c, lk3_c, lk3_f z b a k l]
      by_cases g : a = b
      · rw [if_pos g, if_pos g, if_neg (fun e => h (by rw [← e, g]))]
      · rw [if_neg g, if_neg g]
theorem up2_same {α : Type} {f : Nat → Nat → α} {a k : Nat} {v : α} (h : f a k = v) : up2 f a k v = f := by
  funext a' k'
  unfold up2
  by_cases g : a' = a
  · rw [if_pos g]
    by_cases q : k' = k
    · rw [if_pos q, g, q, h]
    · rw [if_neg q]
  · rw [if_neg g]
theorem up2_lk {α : Type} (z : α) (a k : Nat) (v : α) (l : List (Nat × Nat × α)) : up2 (fun a' k' => lk3 z a' k' l) a k v = fun a' k' => lk3 z a' k' ((a, k, v) :: l) := by
  funext a' k'
  rw [lk3_c]
  rfl
theorem row0_lk {α : Type} (z : α) (b : Nat) (l : List (Nat × Nat × α)) : row0 (fun a k => lk3 z a k l) b z = fun a k => lk3 z a k (ft3 b l) := by
  funext a k
  rw [lk3_f]
  unfold row0
  by_cases h : a = b
  · rw [if_pos h, if_pos h]
  · rw [if_neg h, if_neg h]
theorem dS3_k {m : D3} {a : Nat} (h : (dS3 m a).1 ≠ 0) : 100 ≤ a ∧ a < 100 + m.1 ∧ 4 ≤ (sh0 a).1 ∧ dS3 m a = sh0 a := by
  unfold dS3 at h ⊢
  cases hb : (Nat.ble 100 a && Nat.blt a (100 + m.1) && Nat.ble 4 (sh0 a).1) with
  | false => rw [hb] at h; exact absurd rfl h
  | true =>
    rw [Bool.and_eq_true, Bool.and_eq_true] at hb
    exact ⟨Nat.le_of_ble_eq_true hb.1.1, blt_lt hb.1.2, Nat.le_of_ble_eq_true hb.2, rfl⟩
theorem hom3 (B : Nat → Nat → Int32) : Hom O3 O1 (f3 B) := by
  have tb : ∀ a, 100 ≤ a → Nat.ble 100 a = true := fun a h => Nat.ble_eq_true_of_le h
  refine ⟨fun m a h => ?_, fun m a k h => ?_, fun _ _ _ _ => rfl, fun _ _ _ _ => rfl, fun m a k v h => ?_, fun m a k v h => ?_, fun m a k v m' h e => ?_, fun m sh w a m' e => ?_, fun m a h => ?_⟩
  · have h : (dS3 m a).1 ≠ 0 := h
    obtain ⟨h1, h2, h3, h4⟩ := dS3_k h
    show bb (Nat.blt a (100 + m.1)) (sh0 a) (0, 0) = dS3 m a
    rw [h4, lt_blt h2]; rfl
  · obtain ⟨h1, h2, h3, h4⟩ := dS3_k (show (dS3 m a).1 ≠ 0 from h)
    show bb (Nat.ble 100 a) (lk3 0 a k m.2.2.1) (B a k) = lk3 0 a k m.2.2.1
    rw [tb a h1]; rfl
  · obtain ⟨h1, h2, h3, h4⟩ := dS3_k (show (dS3 m a).1 ≠ 0 from h)
    show ((m.1, m.2.1, up2 (fun a k => bb (Nat.ble 100 a) (lk3 0 a k m.2.2.1) (B a k)) a k v, (f3 B m).2.2.2) : M1) = f3 B (dI3 m a k v)
    unfold dI3
    by_cases q : lk3 0 a k m.2.2.1 = v
    · rw [decide_eq_true q]
      show ((m.1, m.2.1, up2 (fun a k => bb (Nat.ble 100 a) (lk3 0 a k m.2.2.1) (B a k)) a k v, (f3 B m).2.2.2) : M1) = f3 B m
      rw [up2_same (show bb (Nat.ble 100 a) (lk3 0 a k m.2.2.1) (B a k) = v by rw [tb a h1]; exact q)]
      rfl
    · rw [decide_eq_false q]
      show ((m.1, m.2.1, up2 (fun a k => bb (Nat.ble 100 a) (lk3 0 a k m.2.2.1) (B a k)) a k v, (f3 B m).2.2.2) : M1) = (m.1, m.2.1, fun a' k' => bb (Nat.ble 100 a') (lk3 0 a' k' ((a, k, v) :: m.2.2.1)) (B a' k'), (f3 B m).2.2.2)
      congr 3
      funext a' k'
      rw [lk3_c]
      unfold up2
      by_cases g : a' = a
      · rw [if_pos g, if_pos g]
        by_cases p : k' = k
        · rw [if_pos p, if_pos p, g, tb a h1]; rfl
        · rw [if_neg p, if_neg p]
      · rw [if_neg g, if_neg g]
  · show ((m.1, m.2.1, (f3 B m).2.2.1, up2 (fun a k => lk3 0 a k m.2.2.2.1) a k v, fun a k => lk3 0 a k m.2.2.2.2) : M1) = f3 B (dL3 m a k v)
    unfold dL3
    by_cases q : lk3 0 a k m.2.2.2.1 = v
    · rw [decide_eq_true q, up2_same q]; rfl
    · rw [decide_eq_false q, up2_lk]; rfl
  · have e : some (dR3 m a k v) = some m' := e
    cases e
    show some ((m.1, m.2.1, (f3 B m).2.2.1, (f3 B m).2.2.2.1, up2 (fun a k => lk3 0 a k m.2.2.2.2) a k v) : M1) = some (f3 B (dR3 m a k v))
    unfold dR3
    by_cases q : lk3 0 a k m.2.2.2.2 = v
    · rw [up2_same q, q, beq_t]; rfl
    · rw [beq_f q, up2_lk]; rfl
  · have e : dN3 m sh w = some (a, m') := e
    show n1 (f3 B m) sh w = some (a, f3 B m')
    unfold dN3 at e
    cases hb : (Nat.beq (sh0 (100 + m.1)).1 sh.1 && Nat.beq (sh0 (100 + m.1)).2 sh.2) with
    | false => rw [hb] at e; cases e
    | true =>
      rw [hb] at e
      cases e
      rw [Bool.and_eq_true] at hb
      have es : sh0 (100 + (f3 B m).1) = sh := Prod.ext (Nat.eq_of_beq_eq_true hb.1) (Nat.eq_of_beq_eq_true hb.2)
      unfold n1
      rw [decide_eq_true es]
      show some ((100 + m.1, (m.1 + 1, m.2.1 + w, row0 (fun a k => bb (Nat.ble 100 a) (lk3 0 a k m.2.2.1) (B a k)) (100 + m.1) 0, row0 (fun a k => lk3 0 a k m.2.2.2.1) (100 + m.1) 0, row0 (fun a k => lk3 0 a k m.2.2.2.2) (100 + m.1) 0)) : Nat × M1) = _
      rw [row0_lk, row0_lk]
      have er : row0 (fun a k => bb (Nat.ble 100 a) (lk3 0 a k m.2.2.1) (B a k)) (100 + m.1) 0 = fun a k => bb (Nat.ble 100 a) (lk3 0 a k (ft3 (100 + m.1) m.2.2.1)) (B a k) := by
        funext a k
        rw [lk3_f]
        unfold row0
        by_cases g : a = 100 + m.1
        · rw [if_pos g, if_pos g, tb a (by omega)]; rfl
        · rw [if_neg g, if_neg g]
      rw [er]
      rfl
  · obtain ⟨h1, h2, h3, h4⟩ := dS3_k (m := m) (a := a) (by have h : (dS3 m a).1 = 1 := h; rw [h]; decide)
    have h : (dS3 m a).1 = 1 := h
    rw [h4] at h
    omega
/-- a call, reckoned out -/
def rc3 : Nat → MD → List Value → D3 → Rs D3
  | 0 => fun _ _ _ => none
  | d + 1 => fun me as m => gb (aOk me.2.2.2.1 as) (run O3 (rc3 d) me 12000 0 (ent me.2.2.2.1 as) [] m)
theorem rc_sim (B : Nat → Nat → Int32) : ∀ (d : Nat) (me : MD) (as : List Value) (m : D3) (r : Value) (m' : D3), rc3 d me as m = some (r, m') → cl O1 d me as (f3 B m) = some (r, f3 B m')
  | 0, _, _, _, _, _, h => by cases h
  | d + 1, me, as, m, r, m', h => by
    obtain ⟨haok, hrun⟩ := gb_some (show gb (aOk me.2.2.2.1 as) (run O3 (rc3 d) me 12000 0 (ent me.2.2.2.1 as) [] m) = some (r, m') from h)
    show gb (aOk me.2.2.2.1 as) (lim O1 (cl O1 d) me 0 (ent me.2.2.2.1 as) [] (f3 B m)) = some (r, f3 B m')
    rw [f_gb haok]
    exact lim_some.mpr ⟨12000, run_sim (hom3 B) (rc_sim B d) 12000 _ _ _ _ _ _ hrun⟩
def eq3 {α : Type} (q : α → α → Bool) : List (Nat × Nat × α) → List (Nat × Nat × α) → Bool
  | [], [] => true
  | e :: l, e' :: l' => Nat.beq e.1 e'.1 && Nat.beq e.2.1 e'.2.1 && q e.2.2 e'.2.2 && eq3 q l l'
  | _, _ => false
theorem eq3_spec {α : Type} {q : α → α → Bool} (hq : ∀ x y, q x y = true → x = y) : ∀ {l l' : List (Nat × Nat × α)}, eq3 q l l' = true → l = l'
  | [], [], _ => rfl
  | e :: l, e' :: l', h => by
    have h : (Nat.beq e.1 e'.1 && Nat.beq e.2.1 e'.2.1 && q e.2.2 e'.2.2 && eq3 q l l') = true := h
    rw [Bool.and_eq_true, Bool.and_eq_true, Bool.and_eq_true] at h
    obtain ⟨⟨⟨h1, h2⟩, h3⟩, h4⟩ := h
    have e1 : e = e' := Prod.ext (Nat.eq_of_beq_eq_true h1) (Prod.ext (Nat.eq_of_beq_eq_true h2) (hq _ _ h3))
    rw [e1, eq3_spec hq h4]
  | [], _ :: _, h => by cases h
  | _ :: _, [], h => by cases h
def eqD (m D : D3) : Bool := Nat.beq m.1 D.1 && Nat.beq m.2.1 D.2.1 && eq3 (fun x y : Int32 => decide (x = y)) m.2.2.1 D.2.2.1 && eq3 (fun x y : Int64 => decide (x = y)) m.2.2.2.1 D.2.2.2.1 && eq3 Nat.beq m.2.2.2.2 D.2.2.2.2
theorem eqD_spec {m D : D3} (h : eqD m D = true) : m = D := by
  unfold eqD at h
  rw [Bool.and_eq_true, Bool.and_eq_true, Bool.and_eq_true, Bool.and_eq_true] at h
  obtain ⟨⟨⟨⟨h1, h2⟩, h3⟩, h4⟩, h5⟩ := h
  exact Prod.ext (Nat.eq_of_beq_eq_true h1) (Prod.ext (Nat.eq_of_beq_eq_true h2) (Prod.ext (eq3_spec (fun _ _ h => of_decide_eq_true h) h3) (Prod.ext (eq3_spec (fun _ _ h => of_decide_eq_true h) h4) (eq3_spec (fun _ _ h => Nat.eq_of_beq_eq_true h) h5))))
def ok3 (r : Rs D3) (D : D3) : Bool := match r with
  | some (.null, m) => eqD m D
  | _ => false
theorem ok3_spec {r : Rs D3} {D : D3} (h : ok3 r D = true) : r = some (.null, D) := by
  unfold ok3 at h
  split at h
  · rw [eqD_spec h]
  · cases h
def okN3 (r : Option (Nat × D3)) (a : Nat) (D : D3) : Bool := match r with
  | some q => Nat.beq q.1 a && eqD q.2 D
  | none => false
theorem okN3_spec {r : Option (Nat × D3)} {a : Nat} {D : D3} (h : okN3 r a D = true) : r = some (a, D) := by
  cases r with
  | none => cases h
  | some q =>
    have h : (Nat.beq q.1 a && eqD q.2 D) = true := h
    rw [Bool.and_eq_true] at h
    exact congrArg some (Prod.ext (Nat.eq_of_beq_eq_true h.1) (eqD_spec h.2))
