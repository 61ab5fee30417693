/-! THE TEXT: the class's signs and words. -/
def TpC (M : Mem) (T : Nat → Nat) (n : Nat) : Prop := gR M 102 0 = 101 ∧ gI M 102 1 = iI n ∧ n ≤ 900 ∧ ∀ k, k < 900 → gI M 101 k = iI (sg8 (T k)) ∧ T k ≤ 255
theorem sg8_rng {v : Nat} (h : v ≤ 255) : -128 ≤ sg8 v ∧ sg8 v ≤ 127 := by unfold sg8; split <;> omega
theorem sg8_eq {v c : Nat} (h : v ≤ 255) (hc : c < 128) : (iI (sg8 v) = iI (c : Int)) = (v = c) := by
  have := sg8_rng h
  rw [iI_eq (by omega) (by omega) (by omega) (by omega)]
  apply propext
  unfold sg8
  split <;> constructor <;> intro q <;> omega
theorem c_Tok_isDigit (d : Nat) {v : Nat} (h : v ≤ 255) (M : Mem) : c2 (d + 1) m_Tok_isDigit [.int (iI (sg8 v))] M = some (.int (iI (b2i (dgB v))), M) := by
  have hr := sg8_rng h
  show X2 d m_Tok_isDigit 0 [.int (iI (sg8 v))] [] M = _
  rw [e_Tok_isDigit_0]
  unfold dgB
  by_cases q : 48 ≤ v ∧ v ≤ 57
  · have e : sg8 v = v := if_pos (by omega)
    rw [e, if_neg (by rw [iI_lt (by omega) (by omega) (by omega) (by omega)]; omega), if_neg (by rw [iI_lt (by omega) (by omega) (by omega) (by omega)]; omega), decide_eq_true q, b2i_t]
  · rw [decide_eq_false q, b2i_f]
    by_cases q2 : sg8 v < 48
    · rw [if_pos (by rw [iI_lt (by omega) (by omega) (by omega) (by omega)]; omega)]
    · rw [if_neg (by rw [iI_lt (by omega) (by omega) (by omega) (by omega)]; omega), if_pos (by
        rw [iI_lt (by omega) (by omega) (by omega) (by omega)]
        unfold sg8 at q2 ⊢
        split at q2 <;> omega)]
theorem c_Tok_isLetter (d : Nat) {v : Nat} (h : v ≤ 255) (M : Mem) : c2 (d + 1) m_Tok_isLetter [.int (iI (sg8 v))] M = some (.int (iI (b2i (smB v))), M) := by
  have hr := sg8_rng h
  show X2 d m_Tok_isLetter 0 [.int (iI (sg8 v))] [] M = _
  rw [e_Tok_isLetter_0]
  unfold smB
  by_cases q : 97 ≤ v ∧ v ≤ 122
  · have e : sg8 v = v := if_pos (by omega)
    rw [e, if_neg (by rw [iI_lt (by omega) (by omega) (by omega) (by omega)]; omega), if_neg (by rw [iI_lt (by omega) (by omega) (by omega) (by omega)]; omega), decide_eq_true q, b2i_t]
  · rw [decide_eq_false q, b2i_f]
    by_cases q2 : sg8 v < 97
    · rw [if_pos (by rw [iI_lt (by omega) (by omega) (by omega) (by omega)]; omega)]
    · rw [if_neg (by rw [iI_lt (by omega) (by omega) (by omega) (by omega)]; omega), if_pos (by
        rw [iI_lt (by omega) (by omega) (by omega) (by omega)]
        unfold sg8 at q2 ⊢
        split at q2 <;> omega)]
def pfx (T : Nat → Nat) : Nat → List Nat → Bool
  | _, [] => true
  | p, c :: cs => decide (T p = c) && pfx T (p + 1) cs
theorem wdEq_pfx (T : Nat → Nat) (e : Nat) : ∀ (cs : List Nat) (p : Nat), wdEq T p cs e = (decide (e = p + cs.length) && pfx T p cs)
  | [], p => by
    show decide (p = e) = (decide (e = p + 0) && true)
    rw [Bool.and_true]; exact decide_eq_decide.mpr (by omega)
  | c :: cs, p => by
    show (decide (p < e) && decide (T p = c) && wdEq T (p + 1) cs e) = (decide (e = p + (cs.length + 1)) && (decide (T p = c) && pfx T (p + 1) cs))
    rw [wdEq_pfx T e cs (p + 1), show decide (e = p + 1 + cs.length) = decide (e = p + (cs.length + 1)) from decide_eq_decide.mpr (by omega)]
    by_cases q : e = p + (cs.length + 1)
    · rw [decide_eq_true q, decide_eq_true (show p < e by omega), Bool.true_and, Bool.true_and, Bool.true_and]
    · rw [decide_eq_false q, Bool.false_and, Bool.and_false, Bool.false_and]
/-- the letters of a string -/
def scl (a : Nat) : List Nat := (stl a).map Int.toNat
theorem scl_len (a : Nat) : (scl a).length = sln a := List.length_map ..
theorem scl_at (a : Nat) {k : Nat} (h : k < sln a) : ∃ cs, (scl a).drop k = sch a k :: cs ∧ (scl a).drop (k + 1) = cs := by
  have h1 : k < (scl a).length := by rw [scl_len]; exact h
  refine ⟨(scl a).drop (k + 1), ?_, rfl⟩
  have h2 : k < (stl a).length := h
  have h3 : (scl a)[k] = sch a k := by
    have g1 : (scl a)[k]? = some (sch a k) := by
      unfold scl sch
      rw [List.getElem?_map, List.getD_eq_getElem?_getD, List.getElem?_eq_getElem h2]; rfl
    rw [List.getElem?_eq_getElem h1] at g1
    exact Option.some.inj g1
  rw [List.drop_eq_getElem_cons h1, h3]
theorem tx_f (M : Mem) : isK O2 M 101 3 = false := id rfl
theorem tx_at (M : Mem) {k : Nat} (h : k < 900) : (at_ O2 M 101 41 (iI k) || at_ O2 M 101 42 (iI k)) = true := by
  have : at_ O2 M 101 41 (iI k) = inb (iI k) 900 := rfl
  rw [this, inb_ok (by omega) (by omega) (by omega), Bool.true_or]
theorem c_Tok_isWord (d : Nat) {M : Mem} {T : Nat → Nat} {n s a : Nat} (hT : TpC M T n) (h2 : gI M 102 2 = iI s) (ha : a ∈ strs) (hl : s + sln a ≤ n) : c2 (d + 5) m_Tok_isWord [.ref 102, .ref a] M = some (.int (iI (b2i (pfx T s (scl a)))), M) := by
  obtain ⟨t0, t1, t2, t3⟩ := hT
  have ln := c_Str_length (d + 2) ha M
  have go : ∀ (j k : Nat), j + k = sln a → X2 (d + 4) m_Tok_isWord 2 [.ref 102, .ref a, .int (iI k)] [] M = some (.int (iI (b2i (pfx T (s + k) ((scl a).drop k)))), M) := by
    intro j
    induction j with
    | zero =>
      intro k hk
      have hk' : k = sln a := by omega
      rw [e_Tok_isWord_2, str_k M ha, tt_and, gb_T, ln, bI_some, if_neg (by rw [iI_lt (by omega) (by omega) (by omega) (by omega)]; omega), List.drop_eq_nil_of_le (by rw [scl_len]; omega)]
      rfl
    | succ j ih =>
      intro k hk
      obtain ⟨cs, c1, c3⟩ := scl_at a (show k < sln a by omega)
      have c8 := (str_txt ha (show k < sln a by omega)).2
      have tb := t3 (s + k) (by omega)
      rw [e_Tok_isWord_2, str_k M ha, tt_and, gb_T, ln, bI_some, if_pos (by rw [iI_lt (by omega) (by omega) (by omega) (by omega)]; omega), h2, t1, iI_add, if_pos (by rw [iI_lt (by omega) (by omega) (by omega) (by omega)]; omega), t0, tx_f, bb_f, show ((s : Int) + k) = ((s + k : Nat) : Int) from rfl, tx_at M (by omega), gb_T, str_k M ha, tt_and, gb_T, c_Str_charAt d ha (by omega), bI_some, ix_nat (by omega), tb.1, iI_add, c1]
      show _ = some (Value.int (iI (b2i (decide (T (s + k) = sch a k) && pfx T (s + k + 1) cs))), M)
      by_cases q : T (s + k) = sch a k
      · rw [if_pos (by rw [sg8_eq tb.2 c8]; exact q), decide_eq_true q, Bool.true_and, ← c3]
        exact ih (k + 1) (by omega)
      · rw [if_neg (by rw [sg8_eq tb.2 c8]; exact q), decide_eq_false q, Bool.false_and, b2i_f]
  show X2 (d + 4) m_Tok_isWord 0 [.ref 102, .ref a, uns] [] M = _
  rw [e_Tok_isWord_0]
  exact go (sln a) 0 (by omega)
