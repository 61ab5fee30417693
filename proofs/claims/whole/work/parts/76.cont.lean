/-! THE CONTEST: states worked back from where nobody is in; the mathematics. -/
def tq (bt u : Nat) : Nat := if bt = 1 then 1 - u else u
theorem tq_lt {bt u : Nat} (h : u < 2) : tq bt u < 2 := by unfold tq; split <;> omega
theorem tq_tq {bt u : Nat} (h : u < 2) : tq bt (tq bt u) = u := by unfold tq; split <;> omega
def doneB (q to : Nat → Nat) (bt i k e u : Nat) : Bool := orN (fun j => decide (q j = 2 * to e + tq bt u)) i || (decide (q i = 2 * to e + tq bt u) && decide (k ≤ e))
theorem doneB_iff {q to : Nat → Nat} {bt i k e u : Nat} : doneB q to bt i k e u = true ↔ ((∃ j, j < i ∧ q j = 2 * to e + tq bt u) ∨ (q i = 2 * to e + tq bt u ∧ k ≤ e)) := by
  unfold doneB
  rw [Bool.or_eq_true, orN_iff, Bool.and_eq_true, decide_eq_true_iff, decide_eq_true_iff]
  constructor
  · rintro (⟨j, h1, h2⟩ | h)
    · exact Or.inl ⟨j, h1, of_decide_eq_true h2⟩
    · exact Or.inr h
  · rintro (⟨j, h1, h2⟩ | h)
    · exact Or.inl ⟨j, h1, decide_eq_true h2⟩
    · exact Or.inr h
def dv (q to : Nat → Nat) (bt i k e u : Nat) : Int := b2i (doneB q to bt i k e u)
theorem dv_01 (q to : Nat → Nat) (bt i k e u : Nat) : dv q to bt i k e u = 0 ∨ dv q to bt i k e u = 1 := b2i_01 _
def iniL (bt u : Nat) : Int := if u = 0 then (bt : Int) else 2
def mxI (a b : Int) : Int := if a < b then b else a
/-- the child state of the state 2 n + u by the blind b -/
def chS (to : Nat → Nat) (bt n b u : Nat) : Nat := 2 * to (2 * n + b) + tq bt u
/-- what the levels say of one another -/
def LvT (to : Nat → Nat) (bt : Nat) (lv : Nat → Int) (n : Nat) : Prop := 0 ≤ lv (chS to bt n 0 1) ∧ 0 ≤ lv (chS to bt n 1 1) ∧ lv (2 * n + 1) = 1 + mxI (lv (chS to bt n 0 1)) (lv (chS to bt n 1 1))
def LvL (to : Nat → Nat) (bt : Nat) (lv : Nat → Int) (n : Nat) : Prop := ∃ b, b < 2 ∧ 0 ≤ lv (chS to bt n b 0) ∧ lv (2 * n) = 1 + lv (chS to bt n b 0) ∧ ∀ c, c < 2 → 0 ≤ lv (chS to bt n c 0) → lv (chS to bt n b 0) ≤ lv (chS to bt n c 0)
def CInv (N : Nat) (em : Nat → Bool) (to : Nat → Nat) (bt S i k : Nat) (q : Nat → Nat) (lv lf : Nat → Int) : Prop :=
  (∀ j, j < S → q j < 2 * N ∧ 0 ≤ lv (q j)) ∧
  (∀ s, (0 ≤ lv s → ∃ j, j < S ∧ q j = s) ∧ -1 ≤ lv s) ∧
  (∀ j j', j < S → j' < S → q j = q j' → j = j') ∧
  (∀ j j', j ≤ j' → j' < S → lv (q j) ≤ lv (q j')) ∧
  (i < S → ∀ j, j < S → lv (q j) ≤ lv (q i) + 1) ∧
  (∀ n u, n < N → em n = false → u < 2 → lf (2 * n + u) = iniL bt u - dv q to bt i k (2 * n) u - dv q to bt i k (2 * n + 1) u) ∧
  (∀ n, n < N → em n = false → (0 ≤ lv (2 * n + 1) ↔ dv q to bt i k (2 * n) 1 + dv q to bt i k (2 * n + 1) 1 = 2) ∧ (0 ≤ lv (2 * n) ↔ (bt = 1 ∧ 1 ≤ dv q to bt i k (2 * n) 0 + dv q to bt i k (2 * n + 1) 0))) ∧
  (∀ n, n < N → em n = true → lv (2 * n + 1) = 0 ∧ lv (2 * n) = (bt : Int) - 1) ∧
  (∀ n, n < N → em n = false → (0 ≤ lv (2 * n + 1) → LvT to bt lv n) ∧ (0 ≤ lv (2 * n) → LvL to bt lv n))
def upI (f : Nat → Int) (a : Nat) (v : Int) (s : Nat) : Int := if s = a then v else f s
theorem upI_eq (f : Nat → Int) (a : Nat) (v : Int) : upI f a v a = v := if_pos rfl
theorem upI_ne {f : Nat → Int} {a s : Nat} {v : Int} (h : s ≠ a) : upI f a v s = f s := if_neg h
section Ev
variable {N : Nat} {em : Nat → Bool} {to : Nat → Nat} {bt S i k e : Nat} {q : Nat → Nat} {lv lf : Nat → Int}
theorem done_oth (hk : ∀ e', e < e' → e' < k → em (e' / 2) = false → to e' ≠ q i / 2) (hek : e < k) {e' u' : Nat} (he' : em (e' / 2) = false) (hu' : u' < 2) (hne : ¬ (e' = e ∧ u' = tq bt (q i % 2))) : doneB q to bt i e e' u' = doneB q to bt i k e' u' := by
  rw [Bool.eq_iff_iff, doneB_iff, doneB_iff]
  have ht := tq_lt (bt := bt) hu'
  constructor
  · rintro (h | ⟨h1, h2⟩)
    · exact Or.inl h
    · refine Or.inr ⟨h1, ?_⟩
      by_cases q1 : k ≤ e'
      · exact q1
      · exfalso
        by_cases q2 : e' = e
        · apply hne
          refine ⟨q2, ?_⟩
          have : q i % 2 = tq bt u' := by omega
          rw [this, tq_tq hu']
        · exact hk e' (by omega) (by omega) he' (by omega)
  · rintro (h | ⟨h1, h2⟩)
    · exact Or.inl h
    · exact Or.inr ⟨h1, by omega⟩
theorem done_new (hto : to e = q i / 2) : doneB q to bt i e e (tq bt (q i % 2)) = true := by
  rw [doneB_iff]
  refine Or.inr ⟨?_, Nat.le_refl _⟩
  rw [tq_tq (by omega), hto]; omega
theorem done_old (hinj : ∀ j j', j < S → j' < S → q j = q j' → j = j') (hi : i < S) (hto : to e = q i / 2) (hek : e < k) : doneB q to bt i k e (tq bt (q i % 2)) = false := by
  apply Bool.eq_false_iff.mpr
  intro h
  rw [doneB_iff, tq_tq (by omega), hto] at h
  rcases h with ⟨j, h1, h2⟩ | ⟨_, h2⟩
  · have := hinj j i (by omega) hi (by omega)
    omega
  · omega
theorem doneB_q {q' : Nat → Nat} (h : ∀ j, j ≤ i → q' j = q j) (e' u' : Nat) : doneB q' to bt i k e' u' = doneB q to bt i k e' u' := by
  rw [Bool.eq_iff_iff, doneB_iff, doneB_iff, h i (Nat.le_refl i)]
  constructor
  · rintro (⟨j, h1, h2⟩ | h')
    · exact Or.inl ⟨j, h1, by rw [← h j (by omega)]; exact h2⟩
    · exact Or.inr h'
  · rintro (⟨j, h1, h2⟩ | h')
    · exact Or.inl ⟨j, h1, by rw [h j (by omega)]; exact h2⟩
    · exact Or.inr h'
/-- the counters behind one edge -/
theorem lf_ev (h : CInv N em to bt S i k q lv lf) (hi : i < S) (hem : em (e / 2) = false) (hto : to e = q i / 2) (hk : ∀ e', e < e' → e' < k → em (e' / 2) = false → to e' ≠ q i / 2) (hek : e < k) :
    ∀ n u, n < N → em n = false → u < 2 → upI lf (2 * (e / 2) + tq bt (q i % 2)) (lf (2 * (e / 2) + tq bt (q i % 2)) - 1) (2 * n + u) = iniL bt u - dv q to bt i e (2 * n) u - dv q to bt i e (2 * n + 1) u := by
  intro n u hn hn2 hu
  have ht := tq_lt (bt := bt) (u := q i % 2) (by omega)
  have h6 := h.2.2.2.2.2.1 n u hn hn2 hu
  have e0 : em (2 * n / 2) = false := by rw [show 2 * n / 2 = n by omega]; exact hn2
  have e1 : em ((2 * n + 1) / 2) = false := by rw [show (2 * n + 1) / 2 = n by omega]; exact hn2
  have dn := done_new (bt := bt) (to := to) (q := q) (i := i) (e := e) hto
  have dol := done_old (bt := bt) (to := to) (k := k) h.2.2.1 hi hto hek
  by_cases c : 2 * n + u = 2 * (e / 2) + tq bt (q i % 2)
  · have hn' : n = e / 2 := by omega
    have hu' : u = tq bt (q i % 2) := by omega
    rw [← c, upI_eq, h6]
    rcases (show e = 2 * n ∨ e = 2 * n + 1 by omega) with w | w
    · have o1 : dv q to bt i e (2 * n + 1) u = dv q to bt i k (2 * n + 1) u := by
        unfold dv; rw [done_oth hk hek e1 hu (fun x => by omega)]
      have n1 : dv q to bt i e (2 * n) u = 1 := by unfold dv; rw [← w, hu', dn]; rfl
      have n0 : dv q to bt i k (2 * n) u = 0 := by unfold dv; rw [← w, hu', dol]; rfl
      omega
    · have o1 : dv q to bt i e (2 * n) u = dv q to bt i k (2 * n) u := by
        unfold dv; rw [done_oth hk hek e0 hu (fun x => by omega)]
      have n1 : dv q to bt i e (2 * n + 1) u = 1 := by unfold dv; rw [← w, hu', dn]; rfl
      have n0 : dv q to bt i k (2 * n + 1) u = 0 := by unfold dv; rw [← w, hu', dol]; rfl
      omega
  · rw [upI_ne c, h6]
    unfold dv
    rw [done_oth hk hek e0 hu (fun x => c (by omega)), done_oth hk hek e1 hu (fun x => c (by omega))]
/-- an edge that settles nothing -/
theorem CInv.miss (h : CInv N em to bt S i k q lv lf) (hb : bt ≤ 1) (hi : i < S) (heN : e < 2 * N) (hem : em (e / 2) = false) (hto : to e = q i / 2) (hk : ∀ e', e < e' → e' < k → em (e' / 2) = false → to e' ≠ q i / 2) (hek : e < k) (hl : lf (2 * (e / 2) + tq bt (q i % 2)) ≠ 1) :
    CInv N em to bt S i e q lv (upI lf (2 * (e / 2) + tq bt (q i % 2)) (lf (2 * (e / 2) + tq bt (q i % 2)) - 1)) := by
  have hlf := lf_ev h hi hem hto hk hek
  obtain ⟨h1, h2, h3, h4, h5, h6, h7, h8, h9⟩ := id h
  refine ⟨h1, h2, h3, h4, h5, hlf, ?_, h8, h9⟩
  intro n hn hn2
  have ht := tq_lt (bt := bt) (u := q i % 2) (by omega)
  have e0 : em (2 * n / 2) = false := by rw [show 2 * n / 2 = n by omega]; exact hn2
  have e1 : em ((2 * n + 1) / 2) = false := by rw [show (2 * n + 1) / 2 = n by omega]; exact hn2
  have a1 := h6 n 1 hn hn2 (by decide)
  have a0 := h6 n 0 hn hn2 (by decide)
  have b1 := hlf n 1 hn hn2 (by decide)
  have b0 := hlf n 0 hn hn2 (by decide)
  have c1 := (h7 n hn hn2).1
  have c0 := (h7 n hn hn2).2
  have d1 := dv_01 q to bt i k (2 * n) 1
  have d2 := dv_01 q to bt i k (2 * n + 1) 1
  have d3 := dv_01 q to bt i k (2 * n) 0
  have d4 := dv_01 q to bt i k (2 * n + 1) 0
  have d5 := dv_01 q to bt i e (2 * n) 1
  have d6 := dv_01 q to bt i e (2 * n + 1) 1
  have d7 := dv_01 q to bt i e (2 * n) 0
  have d8 := dv_01 q to bt i e (2 * n + 1) 0
  have i1 : iniL bt 1 = 2 := rfl
  have i0 : iniL bt 0 = bt := rfl
  constructor
  · rw [c1]
    by_cases c : 2 * n + 1 = 2 * (e / 2) + tq bt (q i % 2)
    · have y : upI lf (2 * (e / 2) + tq bt (q i % 2)) (lf (2 * (e / 2) + tq bt (q i % 2)) - 1) (2 * n + 1) = lf (2 * n + 1) - 1 := by rw [c, upI_eq]
      have x : lf (2 * n + 1) ≠ 1 := by rw [c]; exact hl
      omega
    · rw [upI_ne c] at b1
      omega
  · rw [c0]
    by_cases c : 2 * n = 2 * (e / 2) + tq bt (q i % 2)
    · have y : upI lf (2 * (e / 2) + tq bt (q i % 2)) (lf (2 * (e / 2) + tq bt (q i % 2)) - 1) (2 * n) = lf (2 * n) - 1 := by rw [c, upI_eq]
      have x : lf (2 * n) ≠ 1 := by rw [c]; exact hl
      rw [show 2 * n + 0 = 2 * n from rfl] at b0 a0
      omega
    · rw [show 2 * n + 0 = 2 * n from rfl, upI_ne c] at b0
      rw [show 2 * n + 0 = 2 * n from rfl] at a0
      omega
/-- an edge that settles its state -/
theorem CInv.hit (h : CInv N em to bt S i k q lv lf) (hb : bt ≤ 1) (hi : i < S) (heN : e < 2 * N) (hem : em (e / 2) = false) (hto : to e = q i / 2) (hk : ∀ e', e < e' → e' < k → em (e' / 2) = false → to e' ≠ q i / 2) (hek : e < k) (hl : lf (2 * (e / 2) + tq bt (q i % 2)) = 1) :
    CInv N em to bt (S + 1) i e (upn q S (2 * (e / 2) + tq bt (q i % 2))) (upI lv (2 * (e / 2) + tq bt (q i % 2)) (lv (q i) + 1)) (upI lf (2 * (e / 2) + tq bt (q i % 2)) (lf (2 * (e / 2) + tq bt (q i % 2)) - 1)) ∧ (∀ j, j < S → q j ≠ 2 * (e / 2) + tq bt (q i % 2)) := by
  have hlf := lf_ev h hi hem hto hk hek
  obtain ⟨h1, h2, h3, h4, h5, h6, h7, h8, h9⟩ := id h
  have ht := tq_lt (bt := bt) (u := q i % 2) (by omega)
  have dn := done_new (bt := bt) (to := to) (q := q) (i := i) (e := e) hto
  have dol := done_old (bt := bt) (to := to) (k := k) h3 hi hto hek
  generalize hs : 2 * (e / 2) + tq bt (q i % 2) = s at *
  generalize hu0 : tq bt (q i % 2) = u0 at *
  have htt : tq bt u0 = q i % 2 := by rw [← hu0, tq_tq (by omega)]
  have heN2 : e / 2 < N := by omega
  -- the state is new
  have hnew : ¬ (0 ≤ lv s) := by
    have a := h6 (e / 2) u0 heN2 hem ht
    rw [hs, hl] at a
    have d1 := dv_01 q to bt i k (2 * (e / 2)) u0
    have d2 := dv_01 q to bt i k (2 * (e / 2) + 1) u0
    rcases (show u0 = 0 ∨ u0 = 1 by omega) with w | w
    · subst w
      have c := (h7 (e / 2) heN2 hem).2
      have i0 : iniL bt 0 = bt := rfl
      intro hq
      rw [show s = 2 * (e / 2) by omega] at hq
      have := c.mp hq
      omega
    · subst w
      have c := (h7 (e / 2) heN2 hem).1
      have i1 : iniL bt 1 = 2 := rfl
      intro hq
      rw [show s = 2 * (e / 2) + 1 by omega] at hq
      have := c.mp hq
      omega
  have hneq : ∀ j, j < S → q j ≠ s := fun j hj e => hnew (by rw [← e]; exact (h1 j hj).2)
  have hqj : ∀ j, j < S → upn q S s j = q j := fun j hj => upn_lt hj
  have hlq : ∀ j, j < S → upI lv s (lv (q i) + 1) (q j) = lv (q j) := fun j hj => upI_ne (hneq j hj)
  have hLi := (h1 i hi).2
  have hlvle : ∀ t, upI lv s (lv (q i) + 1) t ≤ lv (q i) + 1 := fun t => by
    unfold upI; split
    · exact Int.le_refl _
    · by_cases w : 0 ≤ lv t
      · obtain ⟨j, j1, j2⟩ := (h2 t).1 w
        rw [← j2]; exact h5 hi j j1
      · omega
  have hqi : upn q S s i = q i := hqj i hi
  have hdq : ∀ e' u', doneB (upn q S s) to bt i e e' u' = doneB q to bt i e e' u' := fun e' u' => doneB_q (fun j hj => hqj j (by omega)) e' u'
  have hdv : ∀ e' u', dv (upn q S s) to bt i e e' u' = dv q to bt i e e' u' := fun e' u' => by unfold dv; rw [hdq]
  have keep : ∀ t, 0 ≤ lv t → upI lv s (lv (q i) + 1) t = lv t := fun t w => upI_ne (fun x => hnew (x ▸ w))
  -- a state that is done is settled
  have dset : ∀ e' u', doneB q to bt i e e' u' = true → 0 ≤ lv (2 * to e' + tq bt u') ∧ lv (2 * to e' + tq bt u') ≤ lv (q i) := by
    intro e' u' hd
    rcases doneB_iff.mp hd with ⟨j, j1, j2⟩ | ⟨j1, _⟩
    · rw [← j2]; exact ⟨(h1 j (by omega)).2, h4 j i (by omega) hi⟩
    · rw [← j1]; exact ⟨hLi, Int.le_refl _⟩
  have hchild : ∀ b, b < 2 → e = 2 * (e / 2) + b → chS to bt (e / 2) b u0 = q i := fun b hb2 hbe => by
    unfold chS; rw [← hbe, hto, htt]; omega
  refine ⟨⟨?_, ?_, ?_, ?_, ?_, ?_, ?_, ?_, ?_⟩, hneq⟩
  · intro j hj
    by_cases w : j = S
    · subst w; rw [upn_eq, upI_eq]; exact ⟨by omega, by omega⟩
    · rw [hqj j (by omega), hlq j (by omega)]; exact h1 j (by omega)
  · intro t
    refine ⟨fun w => ?_, ?_⟩
    · by_cases x : t = s
      · subst x; exact ⟨S, by omega, upn_eq _ _ _⟩
      · rw [upI_ne x] at w
        obtain ⟨j, j1, j2⟩ := (h2 t).1 w
        exact ⟨j, by omega, by rw [hqj j j1]; exact j2⟩
    · unfold upI; split
      · omega
      · exact (h2 t).2
  · intro j j' hj hj' he
    by_cases w : j = S
    · by_cases w' : j' = S
      · omega
      · subst w; rw [upn_eq, hqj j' (by omega)] at he; exact absurd he.symm (hneq j' (by omega))
    · by_cases w' : j' = S
      · subst w'; rw [upn_eq, hqj j (by omega)] at he; exact absurd he (hneq j (by omega))
      · rw [hqj j (by omega), hqj j' (by omega)] at he; exact h3 j j' (by omega) (by omega) he
  · intro j j' hjj hj'
    by_cases w' : j' = S
    · subst w'; rw [upn_eq, upI_eq]; exact hlvle _
    · rw [hqj j (by omega), hqj j' (by omega), hlq j (by omega), hlq j' (by omega)]; exact h4 j j' hjj (by omega)
  · intro _ j hj
    rw [hqi, hlq i hi]
    exact hlvle _
  · intro n u hn hn2 hu
    rw [hdv, hdv]; exact hlf n u hn hn2 hu
  · intro n hn hn2
    rw [hdv, hdv, hdv, hdv]
    have a1 := h6 n 1 hn hn2 (by decide)
    have a0 := h6 n 0 hn hn2 (by decide)
    have b1 := hlf n 1 hn hn2 (by decide)
    have b0 := hlf n 0 hn hn2 (by decide)
    have c1 := (h7 n hn hn2).1
    have c0 := (h7 n hn hn2).2
    have d1 := dv_01 q to bt i k (2 * n) 1
    have d2 := dv_01 q to bt i k (2 * n + 1) 1
    have d3 := dv_01 q to bt i k (2 * n) 0
    have d4 := dv_01 q to bt i k (2 * n + 1) 0
    have d5 := dv_01 q to bt i e (2 * n) 1
    have d6 := dv_01 q to bt i e (2 * n + 1) 1
    have d7 := dv_01 q to bt i e (2 * n) 0
    have d8 := dv_01 q to bt i e (2 * n + 1) 0
    have i1 : iniL bt 1 = 2 := rfl
    have i0 : iniL bt 0 = bt := rfl
    rw [show 2 * n + 0 = 2 * n from rfl] at a0 b0
    constructor
    · by_cases c : 2 * n + 1 = s
      · have y : upI lf s (1 - 1) (2 * n + 1) = 0 := by rw [c, upI_eq]; rfl
        have x : lf (2 * n + 1) = 1 := by rw [c]; exact hl
        have v : upI lv s (lv (q i) + 1) (2 * n + 1) = lv (q i) + 1 := by rw [c, upI_eq]
        rw [hl] at b1
        rw [v]
        constructor <;> intro _ <;> omega
      · rw [upI_ne c] at b1
        rw [upI_ne c, c1]; omega
    · by_cases c : 2 * n = s
      · have y : upI lf s (1 - 1) (2 * n) = 0 := by rw [c, upI_eq]; rfl
        have x : lf (2 * n) = 1 := by rw [c]; exact hl
        have v : upI lv s (lv (q i) + 1) (2 * n) = lv (q i) + 1 := by rw [c, upI_eq]
        rw [hl] at b0
        rw [v]
        constructor <;> intro _ <;> omega
      · rw [upI_ne c] at b0
        rw [upI_ne c, c0]; omega
  · intro n hn hn2
    have := h8 n hn hn2
    have ne1 : 2 * n + 1 ≠ s := fun x => by
      have : n = e / 2 := by omega
      rw [this, hem] at hn2; exact absurd hn2 (by decide)
    have ne0 : 2 * n ≠ s := fun x => by
      have : n = e / 2 := by omega
      rw [this, hem] at hn2; exact absurd hn2 (by decide)
    rw [upI_ne ne1, upI_ne ne0]; exact this
  · intro n hn hn2
    have c1 := (h9 n hn hn2).1
    have c0 := (h9 n hn hn2).2
    constructor
    · by_cases c : 2 * n + 1 = s
      · intro _
        have hu1 : u0 = 1 := by omega
        have hne : n = e / 2 := by omega
        -- both children are done
        have b1 := hlf n 1 hn hn2 (by decide)
        have y : upI lf s (1 - 1) (2 * n + 1) = 0 := by rw [c, upI_eq]; rfl
        rw [hl] at b1
        have i1 : iniL bt 1 = 2 := rfl
        have d5 := dv_01 q to bt i e (2 * n) 1
        have d6 := dv_01 q to bt i e (2 * n + 1) 1
        have t0 : doneB q to bt i e (2 * n) 1 = true := by
          have : dv q to bt i e (2 * n) 1 = 1 := by omega
          unfold dv at this; cases w : doneB q to bt i e (2 * n) 1
          · rw [w] at this; exact absurd this (by decide)
          · rfl
        have t1 : doneB q to bt i e (2 * n + 1) 1 = true := by
          have : dv q to bt i e (2 * n + 1) 1 = 1 := by omega
          unfold dv at this; cases w : doneB q to bt i e (2 * n + 1) 1
          · rw [w] at this; exact absurd this (by decide)
          · rfl
        have s0 := dset _ _ t0
        have s1 := dset _ _ t1
        have k0 := keep _ s0.1
        have k1 := keep _ s1.1
        refine ⟨by show 0 ≤ upI _ _ _ (2 * to (2 * n + 0) + tq bt 1); rw [show 2 * n + 0 = 2 * n from rfl, k0]; exact s0.1, by show 0 ≤ upI _ _ _ (2 * to (2 * n + 1) + tq bt 1); rw [k1]; exact s1.1, ?_⟩
        rw [c, upI_eq]
        show _ = 1 + mxI (upI lv s (lv (q i) + 1) (2 * to (2 * n + 0) + tq bt 1)) (upI lv s (lv (q i) + 1) (2 * to (2 * n + 1) + tq bt 1))
        rw [show 2 * n + 0 = 2 * n from rfl, k0, k1]
        have hc : lv (2 * to (2 * n) + tq bt 1) = lv (q i) ∨ lv (2 * to (2 * n + 1) + tq bt 1) = lv (q i) := by
          rcases (show e = 2 * n ∨ e = 2 * n + 1 by omega) with w | w
          · left; rw [← w, hto, ← hu1, htt]; congr 1; omega
          · right; rw [← w, hto, ← hu1, htt]; congr 1; omega
        unfold mxI
        split <;> rcases hc with w | w <;> omega
      · rw [upI_ne c]
        intro hq
        obtain ⟨x1, x2, x3⟩ := c1 hq
        refine ⟨by rw [keep _ x1]; exact x1, by rw [keep _ x2]; exact x2, ?_⟩
        rw [upI_ne c, keep _ x1, keep _ x2]; exact x3
    · by_cases c : 2 * n = s
      · intro _
        have hu1 : u0 = 0 := by omega
        have hne : n = e / 2 := by omega
        obtain ⟨b, hb2, hbe⟩ : ∃ b, b < 2 ∧ e = 2 * (e / 2) + b := ⟨e % 2, by omega, by omega⟩
        have hch := hchild b hb2 hbe
        rw [hu1, ← hne] at hch
        refine ⟨b, hb2, ?_, ?_, ?_⟩
        · rw [hch, hlq i hi]; exact hLi
        · rw [hch, hlq i hi, c, upI_eq]; omega
        · intro b' hb' hq
          rw [hch, hlq i hi]
          by_cases x : chS to bt n b' 0 = s
          · rw [x, upI_eq]; omega
          · rw [upI_ne x] at hq ⊢
            -- a child ahead of q i would have settled it
            obtain ⟨j, j1, j2⟩ := (h2 _).1 hq
            rcases Nat.lt_or_ge j i with w | w
            · exfalso
              have hd : doneB q to bt i k (2 * n + b') 0 = true := doneB_iff.mpr (Or.inl ⟨j, w, j2⟩)
              have a0 := h6 n 0 hn hn2 (by decide)
              have x : lf (2 * n) = 1 := by rw [c]; exact hl
              rw [show 2 * n + 0 = 2 * n from rfl] at a0
              have i0 : iniL bt 0 = bt := rfl
              have d3 := dv_01 q to bt i k (2 * n) 0
              have d4 := dv_01 q to bt i k (2 * n + 1) 0
              rcases (show b' = 0 ∨ b' = 1 by omega) with y | y <;> subst y
              · have : dv q to bt i k (2 * n) 0 = 1 := by unfold dv; rw [show 2 * n + 0 = 2 * n from rfl] at hd; rw [hd]; rfl
                omega
              · have : dv q to bt i k (2 * n + 1) 0 = 1 := by unfold dv; rw [hd]; rfl
                omega
            · rw [← j2]; exact h4 i j w j1
      · rw [upI_ne c]
        intro hq
        obtain ⟨b, b1, b2, b3, b4⟩ := c0 hq
        refine ⟨b, b1, by rw [keep _ b2]; exact b2, by rw [upI_ne c, keep _ b2]; exact b3, ?_⟩
        intro b' hb' hq'
        rw [keep _ b2]
        by_cases x : chS to bt n b' 0 = s
        · rw [x, upI_eq]
          -- its level is no less than any settled one's less 1
          have := hlvle (2 * n)
          rw [upI_ne c] at this
          omega
        · rw [upI_ne x] at hq' ⊢; exact b4 b' hb' hq'
/-- on to the next state -/
theorem CInv.next (h : CInv N em to bt S i k q lv lf) (hi : i < S) (hk : ∀ e', e' < k → em (e' / 2) = false → to e' ≠ q i / 2) : CInv N em to bt S (i + 1) (2 * N) q lv lf := by
  obtain ⟨h1, h2, h3, h4, h5, h6, h7, h8, h9⟩ := id h
  have hd : ∀ n b u, n < N → b < 2 → em n = false → u < 2 → dv q to bt (i + 1) (2 * N) (2 * n + b) u = dv q to bt i k (2 * n + b) u := by
    intro n b u hn hb hn2 hu
    have ht := tq_lt (bt := bt) hu
    have ee : em ((2 * n + b) / 2) = false := by rw [show (2 * n + b) / 2 = n by omega]; exact hn2
    unfold dv
    congr 1
    rw [Bool.eq_iff_iff, doneB_iff, doneB_iff]
    constructor
    · rintro (⟨j, j1, j2⟩ | ⟨_, j2⟩)
      · by_cases w : j = i
        · subst w
          refine Or.inr ⟨j2, ?_⟩
          by_cases x : k ≤ 2 * n + b
          · exact x
          · exact absurd (show to (2 * n + b) = q j / 2 by omega) (hk _ (by omega) ee)
        · exact Or.inl ⟨j, by omega, j2⟩
      · omega
    · rintro (⟨j, j1, j2⟩ | ⟨j1, _⟩)
      · exact Or.inl ⟨j, by omega, j2⟩
      · exact Or.inl ⟨i, by omega, j1⟩
  have hd0 : ∀ n u, n < N → em n = false → u < 2 → dv q to bt (i + 1) (2 * N) (2 * n) u = dv q to bt i k (2 * n) u := fun n u a b c => hd n 0 u a (by decide) b c
  refine ⟨h1, h2, h3, h4, ?_, ?_, ?_, h8, h9⟩
  · intro hi1 j hj
    have a := h5 hi j hj
    have b := h4 i (i + 1) (by omega) hi1
    omega
  · intro n u hn hn2 hu
    rw [hd0 n u hn hn2 hu, hd n 1 u hn (by decide) hn2 hu]; exact h6 n u hn hn2 hu
  · intro n hn hn2
    rw [hd0 n 1 hn hn2 (by decide), hd n 1 1 hn (by decide) hn2 (by decide), hd0 n 0 hn hn2 (by decide), hd n 1 0 hn (by decide) hn2 (by decide)]
    exact h7 n hn hn2
end Ev
