/-! A ROOM'S ROW: what turns and who goes, in mathematics. -/
abbrev Row : Type := Nat → Int32
def zn (z : Row) (k : Nat) : Nat := (z k).toInt.toNat
def Bd (z : Row) (k : Nat) (lo hi : Int) : Prop := lo ≤ (z k).toInt ∧ (z k).toInt ≤ hi
theorem zn_eq {z : Row} {k : Nat} {lo hi : Int} (h : Bd z k lo hi) (hl : 0 ≤ lo) : z k = iI (zn z k) := by
  have h2 := h.1
  rw [zn, Int.toNat_of_nonneg (by omega), iI_self]
theorem zn_rng {z : Row} {k : Nat} {lo hi : Int} (h : Bd z k lo hi) (hl : 0 ≤ lo) : lo ≤ (zn z k : Int) ∧ (zn z k : Int) ≤ hi := by
  have h2 := h.1
  have h3 := h.2
  unfold zn
  omega
theorem zn_iI {z : Row} {k n : Nat} (h : z k = iI n) (hn : n ≤ 2147483647) : zn z k = n := by
  rw [zn, h, iI_toInt (by omega) (by omega)]; omega
def nz (z : Row) : Nat := zn z 1 * zn z 2
def codeOf (z : Row) : Nat → Nat → List Nat
  | _, 0 => []
  | b, n + 1 => zn z b :: codeOf z (b + 1) n
theorem codeOf_len (z : Row) : ∀ n b, (codeOf z b n).length = n
  | 0, _ => rfl
  | n + 1, b => congrArg (· + 1) (codeOf_len z n (b + 1))
def lawC (z : Row) (law : Nat) : List Nat := codeOf z (71 + zn z (8 + law)) (zn z (10 + law))
def holdsB (z : Row) (law : Nat) (wd : Nat → Int32) : Bool := decide (stL wd 18 (lawC z law) [] = some [iI 1])
def alT (w : Nat) : Bool := Nat.ble w 6
def alG (w : Nat) : Bool := Nat.ble w 1 || Nat.ble 7 w
def OkLaw (z : Row) (law : Nat) (al : Nat → Bool) : Prop :=
  0 ≤ (z (8 + law)).toInt ∧ 0 ≤ (z (10 + law)).toInt ∧ zn z (8 + law) + zn z (10 + law) ≤ 900 ∧ Cells z (71 + zn z (8 + law)) (lawC z law) ∧ OkL al (lawC z law) ∧
  (∀ wd : Nat → Int32, ∃ v : Int32, (v = iI 0 ∨ v = iI 1) ∧ stL wd 18 (lawC z law) [] = some [v]) ∧ 1 ≤ zn z (10 + law)
theorem st1_al {al : Nat → Bool} {wd wd' : Nat → Int32} {lim c : Nat} (h : OkC al c) (hw : ∀ j, j < 10 → al j = true → wd' j = wd j) (s : List Int32) : st1 wd' lim c s = st1 wd lim c s := by
  rcases h with h | h | h
  · rw [st1_p (by omega), st1_p (by omega)]; simp only [if_pos h]
  · rw [st1_p (by omega), st1_p (by omega), hw _ (by omega) h.2.2]
  · by_cases h6 : c = 3006
    · rw [st1_n h6, st1_n h6]
    · rw [st1_o (by omega) h6, st1_o (by omega) h6]
theorem stL_al {al : Nat → Bool} {wd wd' : Nat → Int32} {lim : Nat} (hw : ∀ j, j < 10 → al j = true → wd' j = wd j) : ∀ (L : List Nat) (s : List Int32), OkL al L → stL wd' lim L s = stL wd lim L s
  | [], _, _ => rfl
  | c :: L, s, h => by
    show (st1 wd' lim c s).bind (stL wd' lim L) = (st1 wd lim c s).bind (stL wd lim L)
    rw [st1_al h.1 hw]
    cases st1 wd lim c s with
    | none => rfl
    | some s' => exact stL_al hw L s' h.2
def wT (z : Row) (tm c w who bl : Nat) (j : Nat) : Int32 :=
  if j = 0 then iI bl else if j = 1 then iI ((if who = 4 then 9 else who : Nat) : Int) else if j = 2 then iI c else if j = 3 then z (12 + c) else if j = 4 then iI (near (nz z) (zn z 2) c w) else if j = 5 then iI ((if w.testBit c then 1 else 0 : Nat) : Int) else iI tm
def wG (z : Row) (t w bl : Nat) (j : Nat) : Int32 :=
  if j = 0 then iI bl else if j = 1 then iI t else if j = 7 then iI (bits w) else if j = 8 then iI ((if w ≠ 0 ∧ w = zn z 4 then 1 else 0 : Nat) : Int) else z (21 + t)
def turnB (z : Row) (tm c w who bl : Nat) : Bool := if z 6 = 0 then decide (1 ≤ near (nz z) (zn z 2) c w ∧ near (nz z) (zn z 2) c w ≤ 3) else holdsB z 0 (wT z tm c w who bl)
def goB (z : Row) (t w bl : Nat) : Bool := if z 7 = 0 then decide (zn z (21 + t) < bits w) else holdsB z 1 (wG z t w bl)
def maskOf (p : Nat → Bool) : Nat → Nat
  | 0 => 0
  | n + 1 => maskOf p n ||| (if p n then 1 <<< n else 0)
theorem maskOf_lt (p : Nat → Bool) : ∀ n, maskOf p n < 2 ^ n
  | 0 => Nat.one_pos
  | n + 1 => by
    have h := maskOf_lt p n
    have h2 : 2 ^ (n + 1) = 2 ^ n * 2 := Nat.pow_succ 2 n
    have h3 : 1 <<< n = 2 ^ n := Nat.one_shiftLeft n
    apply Nat.or_lt_two_pow
    · omega
    · split <;> omega
theorem maskOf_bit (p : Nat → Bool) : ∀ n k, (maskOf p n).testBit k = (decide (k < n) && p k)
  | 0, k => by rw [maskOf, Nat.zero_testBit, decide_eq_false (by omega), Bool.false_and]
  | n + 1, k => by
    rw [maskOf, Nat.testBit_or, maskOf_bit p n k]
    by_cases hk : k = n
    · subst hk
      rw [decide_eq_false (by omega), decide_eq_true (by omega), Bool.false_and, Bool.false_or, Bool.true_and]
      split
      · rename_i h; rw [h, Nat.testBit_shiftLeft]; simp
      · rename_i h; rw [Nat.zero_testBit]; simp at h; exact h.symm
    · have e : (if p n then 1 <<< n else 0).testBit k = false := by
        split
        · rw [Nat.testBit_shiftLeft]
          by_cases h2 : n ≤ k
          · rw [show (1 : Nat).testBit (k - n) = false from by rw [Nat.testBit, Nat.shiftRight_eq_div_pow, Nat.div_eq_of_lt (Nat.one_lt_two_pow (by omega))]; rfl]; simp
          · simp [h2]
        · exact Nat.zero_testBit k
      rw [e, Bool.or_false]
      congr 1
      exact decide_eq_decide.mpr (by omega)
def wallT (z : Row) (tm w who bl : Nat) : Nat := maskOf (fun c => turnB z tm c w who bl) (nz z)
def whoT (z : Row) (w' who bl : Nat) : Nat := if who ≠ 4 ∧ goB z who w' bl = true then 4 else who
def nxt (z : Row) (tm s bl : Nat) : Nat := 5 * wallT z tm (s / 5) (s % 5) bl + whoT z (wallT z tm (s / 5) (s % 5) bl) (s % 5) bl
/-- a row is a sane room -/
def OkZ (z : Row) : Prop :=
  (Bd z 1 1 3 ∧ Bd z 2 1 3 ∧ Bd z 3 0 4 ∧ Bd z 4 0 511 ∧ Bd z 5 0 10 ∧ Bd z 6 0 1 ∧ Bd z 7 0 1) ∧ (∀ c, c < 9 → Bd z (12 + c) 0 9) ∧ (∀ t, t < zn z 3 → Bd z (21 + t) 0 9) ∧ (z 6 ≠ 0 → OkLaw z 0 alT) ∧ (z 7 ≠ 0 → OkLaw z 1 alG)
theorem nz_le {z : Row} (h : OkZ z) : nz z ≤ 9 := by
  have h1 := zn_rng h.1.1 (by decide)
  have h2 := zn_rng h.1.2.1 (by decide)
  exact Nat.mul_le_mul (show zn z 1 ≤ 3 by omega) (show zn z 2 ≤ 3 by omega)
theorem near_le (n W c w : Nat) : near n W c w ≤ n := cnt_le _ _
theorem c_Mo_law (d : Nat) {M : Mem} {law : Nat} {al : Nat → Bool} {wd : Nat → Int32} (hl : law ≤ 1) (hO : OkLaw (M.1 198) law al) (hw : ∀ j, j < 10 → al j = true → M.1 203 j = wd j) :
    ∃ M', c2 (d + 2) m_Mo_reckons [.ref 197, .int (iI law)] M = some (.int (iI (b2i (holdsB (M.1 198) law wd))), M') ∧ Eqx [202] M M' := by
  obtain ⟨h1, h2, h3, h4, h5, h6, _⟩ := hO
  obtain ⟨v, hv, hs⟩ := h6 wd
  have hs2 : stL (M.1 203) 18 (lawC (M.1 198) law) [] = some [v] := (stL_al hw _ _ h5).trans hs
  have e1 : gI M 198 (8 + law) = iI (zn (M.1 198) (8 + law)) := zn_eq (hi := 2147483647) ⟨h1, (iI_rng _).2⟩ (by decide)
  have e2 : gI M 198 (10 + law) = iI (zn (M.1 198) (10 + law)) := zn_eq (hi := 2147483647) ⟨h2, (iI_rng _).2⟩ (by decide)
  have h := c_Mo_reckons d hl e1 e2 h3 (codeOf_len _ _ _) h4 h5 hs2
  rw [holdsB, hs]
  have e3 : decide (some [v] = some [iI 1]) = decide (v = iI 1) := decide_eq_decide.mpr (by simp)
  rw [e3]
  exact h
