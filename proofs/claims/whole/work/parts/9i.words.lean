/-! THE TEXT: words. -/
def wds : List (List Nat) := [[119, 97, 108, 108], [114, 111, 119], [116, 101, 110, 97, 110, 116], [112, 97, 116, 105, 101, 110, 99, 101], [105, 110], [116, 117, 114, 110, 101, 100], [102, 97, 99, 101], [111, 112, 101, 110], [116, 101, 109, 112, 101, 114], [116, 117, 114, 110, 115], [103, 111, 101, 115], [108, 105, 103, 104, 116], [99, 101, 108, 108], [107, 105, 110, 100], [110, 101, 97, 114], [97, 108, 108], [97, 110, 100], [111, 114], [110, 111, 116]]
def wdEq (T : Nat → Nat) : Nat → List Nat → Nat → Bool
  | p, [], e => decide (p = e)
  | p, c :: cs, e => decide (p < e) && decide (T p = c) && wdEq T (p + 1) cs e
def wdc (T : Nat → Nat) (s e : Nat) : List (List Nat) → Nat → Nat
  | [], _ => 22
  | w :: ws, i => if wdEq T s w e then i else wdc T s e ws (i + 1)
def layW : Nat → List Nat → Bool
  | x, [] => decide (sch 50 x = 32)
  | x, c :: cs => decide (sch 50 x = c) && decide (c ≠ 32) && layW (x + 1) cs
def layS : List (List Nat) → Nat → Bool
  | [], x => decide (x = 100)
  | w :: ws, x => layW x w && decide (x + w.length < 100) && layS ws (x + w.length + 1)
theorem lay_wds : layS wds 1 = true := by decide +kernel
theorem s50 : 50 ∈ strs := by decide
theorem n50 : sln 50 = 100 := by decide +kernel
/-- the tape, as the reference sees it -/
def TpM (M : Mem) (T : Nat → Nat) (n : Nat) : Prop := gI M 197 8 = iI n ∧ n ≤ 900 ∧ ∀ k, k < 900 → gI M 200 k = iI (T k) ∧ T k ≤ 255
theorem key15 (d : Nat) {M : Mem} {T : Nat → Nat} {s e : Nat} (hT : ∀ k, k < 900 → gI M 200 k = iI (T k) ∧ T k ≤ 255) (h6 : gI M 197 6 = iI s) (h7 : gI M 197 7 = iI e) (he : e ≤ 900) (hs : s ≤ 900) (i x2 : Nat) : ∀ (cs : List Nat) (x3 : Nat), layW (x2 + x3) cs = true → x2 + x3 + cs.length < 100 →
    ∃ v3, X2 (d + 4) m_Mo_keyAt 15 [.ref 197, .int (iI i), .int (iI x2), .int (iI x3)] [] M = if wdEq T (s + x3) cs e = true then some (.int (iI i), M) else X2 (d + 4) m_Mo_keyAt 97 [.ref 197, .int (iI i), .int (iI x2), v3] [] M := by
  intro cs
  induction cs with
  | nil =>
    intro x3 hl hn
    have hc : sch 50 (x2 + x3) = 32 := of_decide_eq_true hl
    have hn' : x2 + x3 < 100 := hn
    have ch := c_Str_charAt d s50 (k := x2 + x3) (by rw [n50]; exact hn') M
    rw [hc] at ch
    refine ⟨.int (iI x3), ?_⟩
    rw [e_Mo_keyAt_15, iI_add, show ((x2 : Int) + x3) = ((x2 + x3 : Nat) : Int) from rfl, ch, bI_some, if_pos (show iI ((32 : Nat) : Int) = iI 32 from rfl), ch, bI_some, if_pos (show iI ((32 : Nat) : Int) = iI 32 from rfl), h6, h7, iI_add]
    by_cases q : s + x3 = e
    · rw [if_pos (by rw [iI_eq (by omega) (by omega) (by omega) (by omega)]; omega), if_pos (show wdEq T (s + x3) [] e = true from decide_eq_true q)]
    · rw [if_neg (by rw [iI_eq (by omega) (by omega) (by omega) (by omega)]; omega), if_neg (by rw [wdEq, decide_eq_false q]; decide)]
  | cons c cs ih =>
    intro x3 hl hn
    have hn' : x2 + x3 + (cs.length + 1) < 100 := hn
    have hl' : (decide (sch 50 (x2 + x3) = c) && decide (c ≠ 32) && layW (x2 + x3 + 1) cs) = true := hl
    rw [Bool.and_eq_true, Bool.and_eq_true] at hl'
    obtain ⟨⟨l1, l2⟩, l3⟩ := hl'
    have hc : sch 50 (x2 + x3) = c := of_decide_eq_true l1
    have hc2 : c ≠ 32 := of_decide_eq_true l2
    have k1 : x2 + x3 < sln 50 := by rw [n50]; omega
    have ch := c_Str_charAt d s50 k1 M
    have hc8 := (str_txt s50 k1).2
    rw [hc] at ch hc8
    have n32 : ¬ (iI (c : Int) = iI 32) := by rw [iI_eq (by omega) (by omega) (by omega) (by omega)]; omega
    rw [e_Mo_keyAt_15, iI_add, show ((x2 : Int) + x3) = ((x2 + x3 : Nat) : Int) from rfl, ch, bI_some, if_neg n32, h6, h7, iI_add]
    by_cases q : s + x3 < e
    · rw [if_pos (by rw [iI_lt (by omega) (by omega) (by omega) (by omega)]; omega), show ((s : Int) + x3) = ((s + x3 : Nat) : Int) from rfl, inb_ok (by omega) (by omega) (by omega), gb_T, ch, bI_some, ix_nat (by omega), (hT (s + x3) (by omega)).1]
      have hb := (hT (s + x3) (by omega)).2
      by_cases q2 : T (s + x3) = c
      · obtain ⟨v3, e3⟩ := ih (x3 + 1) l3 (by omega)
        refine ⟨v3, ?_⟩
        rw [if_pos (by rw [q2]), iI_add]
        have w : wdEq T (s + x3) (c :: cs) e = wdEq T (s + (x3 + 1)) cs e := by
          show (decide (s + x3 < e) && decide (T (s + x3) = c) && wdEq T (s + x3 + 1) cs e) = _
          rw [decide_eq_true q, decide_eq_true q2]; rfl
        rw [w]; exact e3
      · refine ⟨.int (iI x3), ?_⟩
        rw [if_neg (by rw [iI_eq (by omega) (by omega) (by omega) (by omega)]; omega), ch, bI_some, if_neg n32, if_neg (by
          show ¬ ((decide (s + x3 < e) && decide (T (s + x3) = c) && wdEq T (s + x3 + 1) cs e) = true)
          rw [decide_eq_false q2, Bool.and_false, Bool.false_and]; decide)]
    · refine ⟨.int (iI x3), ?_⟩
      rw [if_neg (by rw [iI_lt (by omega) (by omega) (by omega) (by omega)]; omega), ch, bI_some, if_neg n32, if_neg (by
        show ¬ ((decide (s + x3 < e) && decide (T (s + x3) = c) && wdEq T (s + x3 + 1) cs e) = true)
        rw [decide_eq_false q, Bool.false_and, Bool.false_and]; decide)]
theorem key97 (d : Nat) {M : Mem} (i : Nat) (v3 : Value) : ∀ (cs : List Nat) (x2 : Nat), layW x2 cs = true → x2 + cs.length < 100 → X2 (d + 4) m_Mo_keyAt 97 [.ref 197, .int (iI i), .int (iI x2), v3] [] M = X2 (d + 4) m_Mo_keyAt 4 [.ref 197, .int (iI ((i + 1 : Nat) : Int)), .int (iI ((x2 + cs.length + 1 : Nat) : Int)), v3] [] M := by
  intro cs
  induction cs with
  | nil =>
    intro x2 hl hn
    have hc : sch 50 x2 = 32 := of_decide_eq_true hl
    have hn' : x2 < 100 := hn
    have ch := c_Str_charAt d s50 (k := x2) (by rw [n50]; exact hn') M
    rw [hc] at ch
    rw [e_Mo_keyAt_97, ch, bI_some, if_pos (show iI ((32 : Nat) : Int) = iI 32 from rfl), iI_add, iI_add]
    rfl
  | cons c cs ih =>
    intro x2 hl hn
    have hn' : x2 + (cs.length + 1) < 100 := hn
    have hl' : (decide (sch 50 x2 = c) && decide (c ≠ 32) && layW (x2 + 1) cs) = true := hl
    rw [Bool.and_eq_true, Bool.and_eq_true] at hl'
    obtain ⟨⟨l1, l2⟩, l3⟩ := hl'
    have hc : sch 50 x2 = c := of_decide_eq_true l1
    have hc2 : c ≠ 32 := of_decide_eq_true l2
    have k1 : x2 < sln 50 := by rw [n50]; omega
    have ch := c_Str_charAt d s50 k1 M
    have hc8 := (str_txt s50 k1).2
    rw [hc] at ch hc8
    rw [e_Mo_keyAt_97, ch, bI_some, if_neg (by rw [iI_eq (by omega) (by omega) (by omega) (by omega)]; omega), iI_add]
    have := ih (x2 + 1) l3 (by omega)
    rw [show x2 + (c :: cs).length + 1 = x2 + 1 + cs.length + 1 by show x2 + (cs.length + 1) + 1 = _; omega]
    exact this
theorem key4 (d : Nat) {M : Mem} {T : Nat → Nat} {s e : Nat} (hT : ∀ k, k < 900 → gI M 200 k = iI (T k) ∧ T k ≤ 255) (h6 : gI M 197 6 = iI s) (h7 : gI M 197 7 = iI e) (he : e ≤ 900) (hs : s ≤ 900) : ∀ (ws : List (List Nat)) (i x2 : Nat) (v3 : Value), layS ws x2 = true → X2 (d + 4) m_Mo_keyAt 4 [.ref 197, .int (iI i), .int (iI x2), v3] [] M = some (.int (iI (wdc T s e ws i)), M) := by
  intro ws
  have ln := c_Str_length (d + 2) s50 M
  rw [n50] at ln
  induction ws with
  | nil =>
    intro i x2 v3 hl
    have hx : x2 = 100 := of_decide_eq_true hl
    subst hx
    rw [e_Mo_keyAt_4, ln, bI_some, if_neg (by decide)]
    rfl
  | cons w ws ih =>
    intro i x2 v3 hl
    have hl' : (layW x2 w && decide (x2 + w.length < 100) && layS ws (x2 + w.length + 1)) = true := hl
    rw [Bool.and_eq_true, Bool.and_eq_true] at hl'
    obtain ⟨⟨l1, l2⟩, l3⟩ := hl'
    have l2' : x2 + w.length < 100 := of_decide_eq_true l2
    obtain ⟨u3, e3⟩ := key15 d hT h6 h7 he hs i x2 w 0 l1 l2'
    have e3' : X2 (d + 4) m_Mo_keyAt 15 [.ref 197, .int (iI i), .int (iI x2), .int (iI 0)] [] M = _ := e3
    rw [e_Mo_keyAt_4, ln, bI_some, if_pos (by rw [iI_lt (by omega) (by omega) (by omega) (by omega)]; omega), e3', key97 d i u3 w x2 l1 l2', ih (i + 1) (x2 + w.length + 1) u3 l3]
    show (if wdEq T (s + 0) w e = true then some (Value.int (iI i), M) else some (Value.int (iI (wdc T s e ws (i + 1))), M)) = some (.int (iI (if wdEq T s w e = true then i else wdc T s e ws (i + 1) : Nat)), M)
    rw [Nat.add_zero]
    split <;> rfl
theorem c_Mo_keyAt (d : Nat) {M : Mem} {T : Nat → Nat} {s e : Nat} (hT : ∀ k, k < 900 → gI M 200 k = iI (T k) ∧ T k ≤ 255) (h6 : gI M 197 6 = iI s) (h7 : gI M 197 7 = iI e) (he : e ≤ 900) (hs : s ≤ 900) : c2 (d + 5) m_Mo_keyAt [.ref 197] M = some (.int (iI (wdc T s e wds 0)), M) := by
  show X2 (d + 4) m_Mo_keyAt 0 [.ref 197, uns, uns, uns] [] M = _
  rw [e_Mo_keyAt_0]
  exact key4 d hT h6 h7 he hs wds 0 1 uns lay_wds
