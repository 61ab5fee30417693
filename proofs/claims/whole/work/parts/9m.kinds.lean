/-! THE TEXT: a word's kind. -/
def kcls (c : Nat) : Nat := ([10, 11, 1, 9, 12, 5, 8, 13, 6, 14, 15, 0, 2, 3, 4, 7, 17, 16, 18] : List Nat).getD c (if c = 22 then 19 else if c = 23 then 20 else if c = 24 then 21 else if c = 25 then 22 else sch 52 (c - 30))
theorem pfx_h {T : Nat → Nat} {s c : Nat} {cs : List Nat} (h : T s ≠ c) : pfx T s (c :: cs) = false := by
  rw [pfx, decide_eq_false h, Bool.false_and]
theorem wdc_no {T : Nat → Nat} {s e i : Nat} {w : List Nat} {ws : List (List Nat)} (h : e ≠ s + w.length) : wdc T s e (w :: ws) i = wdc T s e ws (i + 1) := by
  rw [wdc, wdEq_pfx, decide_eq_false h, Bool.false_and]; rfl
theorem wdc_ye {T : Nat → Nat} {s e i : Nat} {w : List Nat} {ws : List (List Nat)} (h : e = s + w.length) : wdc T s e (w :: ws) i = if pfx T s w = true then i else wdc T s e ws (i + 1) := by
  rw [wdc, wdEq_pfx, decide_eq_true h, Bool.true_and]
theorem wd_2 (T : Nat → Nat) (s : Nat) : wdc T s (s + 2) wds 0 = if pfx T s [105, 110] = true then 4 else if pfx T s [111, 114] = true then 17 else 22 := by
  have n : ∀ k, k ≠ 2 → s + 2 ≠ s + k := fun k hk => by omega
  have y : ∀ k, k = 2 → s + 2 = s + k := fun k hk => by omega
  unfold wds
  rw [wdc_no (n 4 (by decide)), wdc_no (n 3 (by decide)), wdc_no (n 6 (by decide)), wdc_no (n 8 (by decide)), wdc_ye (y 2 rfl), wdc_no (n 6 (by decide)), wdc_no (n 4 (by decide)), wdc_no (n 4 (by decide)), wdc_no (n 6 (by decide)), wdc_no (n 5 (by decide)), wdc_no (n 4 (by decide)), wdc_no (n 5 (by decide)), wdc_no (n 4 (by decide)), wdc_no (n 4 (by decide)), wdc_no (n 4 (by decide)), wdc_no (n 3 (by decide)), wdc_no (n 3 (by decide)), wdc_ye (y 2 rfl), wdc_no (n 3 (by decide))]
  rfl
theorem wd_3 (T : Nat → Nat) (s : Nat) : wdc T s (s + 3) wds 0 = if pfx T s [114, 111, 119] = true then 1 else if pfx T s [97, 108, 108] = true then 15 else if pfx T s [97, 110, 100] = true then 16 else if pfx T s [110, 111, 116] = true then 18 else 22 := by
  have n : ∀ k, k ≠ 3 → s + 3 ≠ s + k := fun k hk => by omega
  have y : ∀ k, k = 3 → s + 3 = s + k := fun k hk => by omega
  unfold wds
  rw [wdc_no (n 4 (by decide)), wdc_ye (y 3 rfl), wdc_no (n 6 (by decide)), wdc_no (n 8 (by decide)), wdc_no (n 2 (by decide)), wdc_no (n 6 (by decide)), wdc_no (n 4 (by decide)), wdc_no (n 4 (by decide)), wdc_no (n 6 (by decide)), wdc_no (n 5 (by decide)), wdc_no (n 4 (by decide)), wdc_no (n 5 (by decide)), wdc_no (n 4 (by decide)), wdc_no (n 4 (by decide)), wdc_no (n 4 (by decide)), wdc_ye (y 3 rfl), wdc_ye (y 3 rfl), wdc_no (n 2 (by decide)), wdc_ye (y 3 rfl)]
  rfl
theorem wd_4 (T : Nat → Nat) (s : Nat) : wdc T s (s + 4) wds 0 = if pfx T s [119, 97, 108, 108] = true then 0 else if pfx T s [102, 97, 99, 101] = true then 6 else if pfx T s [111, 112, 101, 110] = true then 7 else if pfx T s [103, 111, 101, 115] = true then 10 else if pfx T s [99, 101, 108, 108] = true then 12 else if pfx T s [107, 105, 110, 100] = true then 13 else if pfx T s [110, 101, 97, 114] = true then 14 else 22 := by
  have n : ∀ k, k ≠ 4 → s + 4 ≠ s + k := fun k hk => by omega
  have y : ∀ k, k = 4 → s + 4 = s + k := fun k hk => by omega
  unfold wds
  rw [wdc_ye (y 4 rfl), wdc_no (n 3 (by decide)), wdc_no (n 6 (by decide)), wdc_no (n 8 (by decide)), wdc_no (n 2 (by decide)), wdc_no (n 6 (by decide)), wdc_ye (y 4 rfl), wdc_ye (y 4 rfl), wdc_no (n 6 (by decide)), wdc_no (n 5 (by decide)), wdc_ye (y 4 rfl), wdc_no (n 5 (by decide)), wdc_ye (y 4 rfl), wdc_ye (y 4 rfl), wdc_ye (y 4 rfl), wdc_no (n 3 (by decide)), wdc_no (n 3 (by decide)), wdc_no (n 2 (by decide)), wdc_no (n 3 (by decide))]
  rfl
theorem wd_5 (T : Nat → Nat) (s : Nat) : wdc T s (s + 5) wds 0 = if pfx T s [116, 117, 114, 110, 115] = true then 9 else if pfx T s [108, 105, 103, 104, 116] = true then 11 else 22 := by
  have n : ∀ k, k ≠ 5 → s + 5 ≠ s + k := fun k hk => by omega
  have y : ∀ k, k = 5 → s + 5 = s + k := fun k hk => by omega
  unfold wds
  rw [wdc_no (n 4 (by decide)), wdc_no (n 3 (by decide)), wdc_no (n 6 (by decide)), wdc_no (n 8 (by decide)), wdc_no (n 2 (by decide)), wdc_no (n 6 (by decide)), wdc_no (n 4 (by decide)), wdc_no (n 4 (by decide)), wdc_no (n 6 (by decide)), wdc_ye (y 5 rfl), wdc_no (n 4 (by decide)), wdc_ye (y 5 rfl), wdc_no (n 4 (by decide)), wdc_no (n 4 (by decide)), wdc_no (n 4 (by decide)), wdc_no (n 3 (by decide)), wdc_no (n 3 (by decide)), wdc_no (n 2 (by decide)), wdc_no (n 3 (by decide))]
  rfl
theorem wd_6 (T : Nat → Nat) (s : Nat) : wdc T s (s + 6) wds 0 = if pfx T s [116, 101, 110, 97, 110, 116] = true then 2 else if pfx T s [116, 117, 114, 110, 101, 100] = true then 5 else if pfx T s [116, 101, 109, 112, 101, 114] = true then 8 else 22 := by
  have n : ∀ k, k ≠ 6 → s + 6 ≠ s + k := fun k hk => by omega
  have y : ∀ k, k = 6 → s + 6 = s + k := fun k hk => by omega
  unfold wds
  rw [wdc_no (n 4 (by decide)), wdc_no (n 3 (by decide)), wdc_ye (y 6 rfl), wdc_no (n 8 (by decide)), wdc_no (n 2 (by decide)), wdc_ye (y 6 rfl), wdc_no (n 4 (by decide)), wdc_no (n 4 (by decide)), wdc_ye (y 6 rfl), wdc_no (n 5 (by decide)), wdc_no (n 4 (by decide)), wdc_no (n 5 (by decide)), wdc_no (n 4 (by decide)), wdc_no (n 4 (by decide)), wdc_no (n 4 (by decide)), wdc_no (n 3 (by decide)), wdc_no (n 3 (by decide)), wdc_no (n 2 (by decide)), wdc_no (n 3 (by decide))]
  rfl
theorem wd_8 (T : Nat → Nat) (s : Nat) : wdc T s (s + 8) wds 0 = if pfx T s [112, 97, 116, 105, 101, 110, 99, 101] = true then 3 else 22 := by
  have n : ∀ k, k ≠ 8 → s + 8 ≠ s + k := fun k hk => by omega
  have y : ∀ k, k = 8 → s + 8 = s + k := fun k hk => by omega
  unfold wds
  rw [wdc_no (n 4 (by decide)), wdc_no (n 3 (by decide)), wdc_no (n 6 (by decide)), wdc_ye (y 8 rfl), wdc_no (n 2 (by decide)), wdc_no (n 6 (by decide)), wdc_no (n 4 (by decide)), wdc_no (n 4 (by decide)), wdc_no (n 6 (by decide)), wdc_no (n 5 (by decide)), wdc_no (n 4 (by decide)), wdc_no (n 5 (by decide)), wdc_no (n 4 (by decide)), wdc_no (n 4 (by decide)), wdc_no (n 4 (by decide)), wdc_no (n 3 (by decide)), wdc_no (n 3 (by decide)), wdc_no (n 2 (by decide)), wdc_no (n 3 (by decide))]
  rfl
theorem wd_o (T : Nat → Nat) (s : Nat) {l : Nat} (h : l ≠ 2 ∧ l ≠ 3 ∧ l ≠ 4 ∧ l ≠ 5 ∧ l ≠ 6 ∧ l ≠ 8) : wdc T s (s + l) wds 0 = 22 := by
  have n : ∀ k, k = 2 ∨ k = 3 ∨ k = 4 ∨ k = 5 ∨ k = 6 ∨ k = 8 → s + l ≠ s + k := fun k hk => by omega
  unfold wds
  rw [wdc_no (n 4 (by decide)), wdc_no (n 3 (by decide)), wdc_no (n 6 (by decide)), wdc_no (n 8 (by decide)), wdc_no (n 2 (by decide)), wdc_no (n 6 (by decide)), wdc_no (n 4 (by decide)), wdc_no (n 4 (by decide)), wdc_no (n 6 (by decide)), wdc_no (n 5 (by decide)), wdc_no (n 4 (by decide)), wdc_no (n 5 (by decide)), wdc_no (n 4 (by decide)), wdc_no (n 4 (by decide)), wdc_no (n 4 (by decide)), wdc_no (n 3 (by decide)), wdc_no (n 3 (by decide)), wdc_no (n 2 (by decide)), wdc_no (n 3 (by decide))]
  rfl
