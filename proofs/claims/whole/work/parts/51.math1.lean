/-! MATHEMATICS: pigeons; a row of steps that comes round. -/
theorem pigeon : ∀ (m n : Nat) (g : Nat → Nat), (∀ i, i < n → g i < m) → (∀ i, i < n → ∀ j, j < n → g i = g j → i = j) → n ≤ m
  | 0, n, g, h1, _ => by
    cases n with
    | zero => exact Nat.le_refl 0
    | succ n => exact absurd (h1 0 (by omega)) (Nat.not_lt_zero _)
  | m + 1, n, g, h1, h2 => by
    by_cases h : ∃ i, i < n ∧ g i = m
    · obtain ⟨i0, hi0, hg0⟩ := h
      have hne : ∀ i, i < n → i ≠ i0 → g i < m := fun i hi hn => by
        have a := h1 i hi
        have b : g i ≠ m := fun q => hn (h2 i hi i0 hi0 (q.trans hg0.symm))
        omega
      have := pigeon m (n - 1) (fun i => if i < i0 then g i else g (i + 1)) (by
        intro i hi
        show (if i < i0 then g i else g (i + 1)) < m
        split
        · exact hne i (by omega) (by omega)
        · exact hne (i + 1) (by omega) (by omega)) (by
        intro i hi j hj he
        replace he : (if i < i0 then g i else g (i + 1)) = (if j < i0 then g j else g (j + 1)) := he
        split at he
        · split at he
          · exact h2 i (by omega) j (by omega) he
          · have := h2 i (by omega) (j + 1) (by omega) he; omega
        · split at he
          · have := h2 (i + 1) (by omega) j (by omega) he; omega
          · have := h2 (i + 1) (by omega) (j + 1) (by omega) he; omega)
      omega
    · have := pigeon m n g (fun i hi => by
        have a := h1 i hi
        have b : g i ≠ m := fun q => h ⟨i, hi, q⟩
        omega) h2
      omega
/-- the i-th of a row of steps -/
def itr (f : Nat → Nat) (s : Nat) : Nat → Nat
  | 0 => s
  | n + 1 => f (itr f s n)
theorem itr_add (f : Nat → Nat) (s : Nat) (a : Nat) : ∀ b, itr f (itr f s a) b = itr f s (a + b)
  | 0 => rfl
  | b + 1 => congrArg f (itr_add f s a b)
theorem itr_round {f : Nat → Nat} {s t c : Nat} (h : itr f s (t + c) = itr f s t) : ∀ k j, t ≤ j → itr f s (j + k * c) = itr f s j
  | 0, j, _ => by rw [Nat.zero_mul, Nat.add_zero]
  | k + 1, j, hj => by
    have e : j + (k + 1) * c = (j + c) + k * c := by rw [Nat.succ_mul]; omega
    have e2 : itr f s (j + c) = itr f s j := by
      have a := itr_add f s (t + c) (j - t)
      have b := itr_add f s t (j - t)
      rw [h] at a
      rw [show t + c + (j - t) = j + c by omega] at a
      rw [show t + (j - t) = j by omega] at b
      rw [← a, b]
    rw [e, itr_round h k (j + c) (by omega), e2]
theorem itr_mod {f : Nat → Nat} {s t c : Nat} (hc : 0 < c) (h : itr f s (t + c) = itr f s t) {n : Nat} (hn : t ≤ n) : itr f s n = itr f s (t + (n - t) % c) := by
  have e := itr_round h ((n - t) / c) (t + (n - t) % c) (by omega)
  have d := Nat.div_add_mod (n - t) c
  rw [← e]
  congr 1
  rw [Nat.mul_comm] at d
  omega
