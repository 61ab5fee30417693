/-! THE TEXT: the codes that tokens bear, and the class's kinds of them. -/
def okC (c : Nat) : Bool := decide (c ≤ 18) || decide (22 ≤ c ∧ c ≤ 25) || decide (30 ≤ c ∧ c ≤ 41)
theorem okC_lt {c : Nat} (h : okC c = true) : c < 42 := by
  unfold okC at h
  simp only [Bool.or_eq_true, decide_eq_true_eq] at h
  omega
theorem sgc_ok (v : Nat) : ∀ k, k ≤ 12 → okC (sgc v k) = true
  | 0, _ => by rw [sgc]; decide
  | k + 1, h => by
    rw [sgc]
    split
    · unfold okC
      rw [decide_eq_true (show 30 ≤ 30 + k ∧ 30 + k ≤ 41 by omega), Bool.or_true]
    · exact sgc_ok v k (by omega)
theorem wdc_ok (T : Nat → Nat) (s e : Nat) : ∀ (ws : List (List Nat)) (i : Nat), i + ws.length ≤ 19 → okC (wdc T s e ws i) = true
  | [], _, _ => by rw [wdc]; decide
  | w :: ws, i, h => by
    have h' : i + (ws.length + 1) ≤ 19 := h
    rw [wdc]
    split
    · unfold okC
      rw [decide_eq_true (show i ≤ 18 by omega), Bool.true_or, Bool.true_or]
    · exact wdc_ok T s e ws (i + 1) (by omega)
theorem tkC_ok (T : Nat → Nat) (n p : Nat) : okC (tkC T n p) = true := by
  unfold tkC
  split
  · decide
  · split
    · exact wdc_ok _ _ _ wds 0 (by decide)
    · split
      · split <;> decide
      · exact sgc_ok _ 12 (by decide)
theorem kcls_inj : ∀ a : Fin 42, ∀ b : Fin 42, okC a.val = true → okC b.val = true → kcls a.val = kcls b.val → a = b := by decide +kernel
theorem kcls_lt : ∀ a : Fin 42, okC a.val = true → kcls a.val < 128 := by decide +kernel
/-- the class asks its kind as the reference asks its code -/
theorem kcls_eq {c e : Nat} (hc : okC c = true) (he : okC e = true) : (iI (kcls c : Int) = iI (kcls e : Int)) = (c = e) := by
  have h1 := kcls_lt ⟨c, okC_lt hc⟩ hc
  have h2 := kcls_lt ⟨e, okC_lt he⟩ he
  have h1' : kcls c < 128 := h1
  have h2' : kcls e < 128 := h2
  rw [iI_eq (by omega) (by omega) (by omega) (by omega)]
  apply propext
  constructor
  · intro h
    have := kcls_inj ⟨c, okC_lt hc⟩ ⟨e, okC_lt he⟩ hc he (by show kcls c = kcls e; omega)
    exact congrArg Fin.val this
  · intro h; rw [h]
def posT (T : Nat → Nat) (n : Nat) : Nat → Nat
  | 0 => 0
  | j + 1 => tkE T n (posT T n j)
theorem posT_le (T : Nat → Nat) (n : Nat) : ∀ j, posT T n j ≤ n
  | 0 => Nat.zero_le _
  | j + 1 => (tk_rng T (posT_le T n j)).2.2.1
theorem posT_ge (T : Nat → Nat) (n : Nat) : ∀ j, (∀ i, i < j → tkC T n (posT T n i) ≠ 24) → j ≤ posT T n j
  | 0, _ => Nat.zero_le _
  | j + 1, h => by
    have a := posT_ge T n j (fun i hi => h i (by omega))
    have b := (tk_rng T (posT_le T n j)).2.2.2.1 (h j (by omega))
    show j + 1 ≤ tkE T n (posT T n j)
    omega
/-- the end is reached -/
theorem posT_end (T : Nat → Nat) (n : Nat) {j : Nat} (h : ∀ i, i < j → tkC T n (posT T n i) ≠ 24) : j ≤ n := Nat.le_trans (posT_ge T n j h) (posT_le T n j)
