/-! THE TEXT: tokens, and how the reference goes on to the next. -/
def spB (v : Nat) : Bool := decide (v = 32) || decide (v = 10)
def dgB (v : Nat) : Bool := decide (48 ≤ v ∧ v ≤ 57)
def smB (v : Nat) : Bool := decide (97 ≤ v ∧ v ≤ 122)
def rnn (P : Nat → Bool) (T : Nat → Nat) : Nat → Nat → Nat
  | 0, p => p
  | j + 1, p => if P (T p) = true then rnn P T j (p + 1) else p
def edd (P : Nat → Bool) (T : Nat → Nat) (n p : Nat) : Nat := rnn P T (n - p) p
theorem edd_t {P : Nat → Bool} {T : Nat → Nat} {n p : Nat} (h : p < n) (hP : P (T p) = true) : edd P T n p = edd P T n (p + 1) := by
  unfold edd
  obtain ⟨j, hj⟩ : ∃ j, n - p = j + 1 := ⟨n - p - 1, by omega⟩
  rw [hj, show n - (p + 1) = j by omega, rnn, if_pos hP]
theorem edd_f {P : Nat → Bool} {T : Nat → Nat} {n p : Nat} (h : p < n → P (T p) = false) : edd P T n p = p := by
  unfold edd
  by_cases q : p < n
  · obtain ⟨j, hj⟩ : ∃ j, n - p = j + 1 := ⟨n - p - 1, by omega⟩
    rw [hj, rnn, if_neg (by rw [h q]; decide)]
  · rw [show n - p = 0 by omega]; rfl
theorem edd_rng (P : Nat → Bool) (T : Nat → Nat) {n : Nat} : ∀ (j p : Nat), j + p = n → p ≤ edd P T n p ∧ edd P T n p ≤ n ∧ (edd P T n p < n → P (T (edd P T n p)) = false) ∧ ∀ q, p ≤ q → q < edd P T n p → P (T q) = true
  | 0, p, h => by
    rw [edd_f (fun q => by omega)]
    exact ⟨Nat.le_refl _, by omega, fun q => by omega, fun q _ _ => by omega⟩
  | j + 1, p, h => by
    cases hP : P (T p) with
    | false =>
      rw [edd_f (fun _ => hP)]
      exact ⟨Nat.le_refl _, by omega, fun _ => hP, fun q _ _ => by omega⟩
    | true =>
      rw [edd_t (by omega) hP]
      obtain ⟨a, b, c, e⟩ := edd_rng P T (n := n) j (p + 1) (by omega)
      refine ⟨by omega, b, c, fun q q1 q2 => ?_⟩
      by_cases w : q = p
      · rw [w]; exact hP
      · exact e q (by omega) q2
def nvv (T : Nat → Nat) (s : Nat) : Nat → Nat
  | 0 => 0
  | j + 1 => 10 * nvv T s j + (T (s + j) - 48)
def sgc (v : Nat) : Nat → Nat
  | 0 => 25
  | k + 1 => if v = sch 52 k then 30 + k else sgc v k
def tkS (T : Nat → Nat) (n p : Nat) : Nat := edd spB T n p
def tkE (T : Nat → Nat) (n p : Nat) : Nat := if n ≤ tkS T n p then tkS T n p else if smB (T (tkS T n p)) = true then edd smB T n (tkS T n p) else if dgB (T (tkS T n p)) = true then edd dgB T n (tkS T n p) else tkS T n p + 1
def tkC (T : Nat → Nat) (n p : Nat) : Nat := if n ≤ tkS T n p then 24 else if smB (T (tkS T n p)) = true then wdc T (tkS T n p) (tkE T n p) wds 0 else if dgB (T (tkS T n p)) = true then (if 3 < tkE T n p - tkS T n p then 25 else 23) else sgc (T (tkS T n p)) 12
def tkV (T : Nat → Nat) (n p : Nat) : Nat := nvv T (tkS T n p) (tkE T n p - tkS T n p)
def seeI (T : Nat → Nat) (n k : Nat) : Int := if k < n then T k else -1
theorem TpM.fr {M M' : Mem} {T : Nat → Nat} {n : Nat} (h : TpM M T n) (h8 : gI M' 197 8 = gI M 197 8) (h2 : M'.1 200 = M.1 200) : TpM M' T n := by
  refine ⟨h8.trans h.1, h.2.1, fun k hk => ?_⟩
  rw [gI, h2]; exact h.2.2 k hk
theorem c_Mo_see (d : Nat) {M : Mem} {T : Nat → Nat} {n : Nat} (h : TpM M T n) {k : Nat} (hk : k ≤ 1000) : c2 (d + 1) m_Mo_see [.ref 197, .int (iI k)] M = some (.int (iI (seeI T n k)), M) := by
  have hn := h.2.1
  show X2 d m_Mo_see 0 [.ref 197, .int (iI k)] [] M = _
  rw [e_Mo_see_0, h.1]
  unfold seeI
  by_cases q : k < n
  · rw [if_pos (by rw [iI_lt (by omega) (by omega) (by omega) (by omega)]; omega), inb_ok (by omega) (by omega) (by omega), gb_T, ix_nat (by omega), (h.2.2 k (by omega)).1, if_pos q]
  · rw [if_neg (by rw [iI_lt (by omega) (by omega) (by omega) (by omega)]; omega), if_neg q]
theorem c_Mo_isSmall (d : Nat) {v : Int} (h1 : -1000 ≤ v) (h2 : v ≤ 1000) (M : Mem) : c2 (d + 1) m_Mo_isSmall [.int (iI v)] M = some (.int (iI (b2i (decide (97 ≤ v ∧ v ≤ 122)))), M) := by
  show X2 d m_Mo_isSmall 0 [.int (iI v)] [] M = _
  rw [e_Mo_isSmall_0]
  by_cases q : 97 ≤ v ∧ v ≤ 122
  · rw [if_neg (by rw [iI_lt (by omega) (by omega) (by omega) (by omega)]; omega), if_neg (by rw [iI_lt (by omega) (by omega) (by omega) (by omega)]; omega), decide_eq_true q, b2i_t]
  · rw [decide_eq_false q, b2i_f]
    by_cases q2 : v < 97
    · rw [if_pos (by rw [iI_lt (by omega) (by omega) (by omega) (by omega)]; omega)]
    · rw [if_neg (by rw [iI_lt (by omega) (by omega) (by omega) (by omega)]; omega), if_pos (by rw [iI_lt (by omega) (by omega) (by omega) (by omega)]; omega)]
theorem c_Mo_isDigit (d : Nat) {v : Int} (h1 : -1000 ≤ v) (h2 : v ≤ 1000) (M : Mem) : c2 (d + 1) m_Mo_isDigit [.int (iI v)] M = some (.int (iI (b2i (decide (48 ≤ v ∧ v ≤ 57)))), M) := by
  show X2 d m_Mo_isDigit 0 [.int (iI v)] [] M = _
  rw [e_Mo_isDigit_0]
  by_cases q : 48 ≤ v ∧ v ≤ 57
  · rw [if_neg (by rw [iI_lt (by omega) (by omega) (by omega) (by omega)]; omega), if_neg (by rw [iI_lt (by omega) (by omega) (by omega) (by omega)]; omega), decide_eq_true q, b2i_t]
  · rw [decide_eq_false q, b2i_f]
    by_cases q2 : v < 48
    · rw [if_pos (by rw [iI_lt (by omega) (by omega) (by omega) (by omega)]; omega)]
    · rw [if_neg (by rw [iI_lt (by omega) (by omega) (by omega) (by omega)]; omega), if_pos (by rw [iI_lt (by omega) (by omega) (by omega) (by omega)]; omega)]
theorem seeI_rng {M : Mem} {T : Nat → Nat} {n : Nat} (h : TpM M T n) (k : Nat) : -1 ≤ seeI T n k ∧ seeI T n k ≤ 255 := by
  have hn := h.2.1
  unfold seeI
  split
  · have := (h.2.2 k (by omega)).2; omega
  · omega
theorem see_sm (T : Nat → Nat) (n k : Nat) : decide (97 ≤ seeI T n k ∧ seeI T n k ≤ 122) = (decide (k < n) && smB (T k)) := by
  unfold seeI smB
  by_cases q : k < n
  · rw [if_pos q, decide_eq_true q, Bool.true_and]; exact decide_eq_decide.mpr (by omega)
  · rw [if_neg q, decide_eq_false q, Bool.false_and]; decide
theorem see_dg (T : Nat → Nat) (n k : Nat) : decide (48 ≤ seeI T n k ∧ seeI T n k ≤ 57) = (decide (k < n) && dgB (T k)) := by
  unfold seeI dgB
  by_cases q : k < n
  · rw [if_pos q, decide_eq_true q, Bool.true_and]; exact decide_eq_decide.mpr (by omega)
  · rw [if_neg q, decide_eq_false q, Bool.false_and]; decide
/-- what the reading of a token leaves as it was -/
def Oth (M M' : Mem) : Prop := Eqx [197] M M' ∧ ∀ k, k ≠ 6 → k ≠ 7 → k ≠ 9 → k ≠ 10 → gI M' 197 k = gI M 197 k
theorem Oth.rf (M : Mem) : Oth M M := ⟨Eqx.rf, fun _ _ _ _ _ => rfl⟩
theorem Oth.put {M M' : Mem} (h : Oth M M') {j : Nat} (hj : j = 6 ∨ j = 7 ∨ j = 9 ∨ j = 10) (v : Int32) : Oth M (wI M' 197 j v) := ⟨eqx_wI h.1 (by simp), fun k a b c e => by rw [gI_nk (by omega)]; exact h.2 k a b c e⟩
theorem Oth.tp {M M' : Mem} (h : Oth M M') {T : Nat → Nat} {n : Nat} (hT : TpM M T n) : TpM M' T n := hT.fr (h.2 8 (by decide) (by decide) (by decide) (by decide)) (h.1 200 (by decide)).1
