/-! NUMBERS AND MEMORY: the words that the methods' readings are told in. -/
theorem iI_toInt {z : Int} (h1 : -2147483648 ≤ z) (h2 : z ≤ 2147483647) : (iI z).toInt = z := Int32.toInt_ofInt_of_le (by omega) (by omega)
theorem iI_self (x : Int32) : iI x.toInt = x := Int32.ofInt_toInt x
theorem iI_rng (x : Int32) : -2147483648 ≤ x.toInt ∧ x.toInt ≤ 2147483647 := ⟨by have := x.le_toInt; omega, by have := x.toInt_lt; omega⟩
theorem iI_ex (x : Int32) : ∃ z : Int, x = iI z ∧ -2147483648 ≤ z ∧ z ≤ 2147483647 := ⟨x.toInt, (iI_self x).symm, iI_rng x⟩
theorem iI_add (a b : Int) : iI a + iI b = iI (a + b) := (Int32.ofInt_add a b).symm
theorem iI_sub (a b : Int) : iI a - iI b = iI (a - b) := (Int32.ofInt_sub a b).symm
theorem iI_mul (a b : Int) : iI a * iI b = iI (a * b) := (Int32.ofInt_mul a b).symm
theorem iI_neg (a : Int) : -iI a = iI (-a) := (Int32.ofInt_neg a).symm
theorem iI_zero : (0 : Int32) = iI 0 := rfl
theorem iI_one : (1 : Int32) = iI 1 := rfl
theorem iI_lt {a b : Int} (h1 : -2147483648 ≤ a) (h2 : a ≤ 2147483647) (h3 : -2147483648 ≤ b) (h4 : b ≤ 2147483647) : (iI a < iI b) = (a < b) := by
  rw [Int32.lt_iff_toInt_lt, iI_toInt h1 h2, iI_toInt h3 h4]
theorem iI_eq {a b : Int} (h1 : -2147483648 ≤ a) (h2 : a ≤ 2147483647) (h3 : -2147483648 ≤ b) (h4 : b ≤ 2147483647) : (iI a = iI b) = (a = b) := by
  rw [← Int32.toInt_inj, iI_toInt h1 h2, iI_toInt h3 h4]
theorem iI_lt0 {a : Int} (h1 : -2147483648 ≤ a) (h2 : a ≤ 2147483647) : (iI a < 0) = (a < 0) := by rw [iI_zero, iI_lt h1 h2 (by decide) (by decide)]
theorem iI_0lt {a : Int} (h1 : -2147483648 ≤ a) (h2 : a ≤ 2147483647) : (0 < iI a) = (0 < a) := by rw [iI_zero, iI_lt (by decide) (by decide) h1 h2]
theorem iI_eq0 {a : Int} (h1 : -2147483648 ≤ a) (h2 : a ≤ 2147483647) : (iI a = 0) = (a = 0) := by rw [iI_zero, iI_eq h1 h2 (by decide) (by decide)]
theorem ix_iI {z : Int} (h1 : -2147483648 ≤ z) (h2 : z ≤ 2147483647) : ix (iI z) = z.toNat := by
  show (iI z).toInt.toNat = _
  rw [iI_toInt h1 h2]
theorem ix_nat {n : Nat} (h : n ≤ 2147483647) : ix (iI n) = n := by
  rw [ix_iI (by omega) (by omega)]; exact Int.toNat_natCast n
theorem inb_iI {z : Int} {n : Nat} (h1 : -2147483648 ≤ z) (h2 : z ≤ 2147483647) : inb (iI z) n = decide (0 ≤ z ∧ z < n) := by
  unfold inb
  have e : decide (iI z < 0) = decide (z < 0) := decide_eq_decide.mpr (by rw [iI_lt0 h1 h2])
  rw [ix_iI h1 h2, e]
  by_cases h : 0 ≤ z ∧ z < n
  · rw [decide_eq_true h, lt_blt (show z.toNat < n by omega)]
    simp; omega
  · rw [decide_eq_false h]
    by_cases hz : z < 0
    · simp [hz]
    · rw [show Nat.blt z.toNat n = false from Bool.eq_false_iff.mpr (fun q => by have := blt_lt q; omega)]
      simp
theorem inb_ok {z : Int} {n : Nat} (h1 : 0 ≤ z) (h2 : z < n) (h3 : z ≤ 2147483647) : inb (iI z) n = true := by
  rw [inb_iI (by omega) h3]; exact decide_eq_true ⟨h1, h2⟩
theorem iI_of_nat (n : Nat) : iI n = Int32.ofNat n := Int32.ofInt_eq_ofNat
theorem iI_bv (n : Nat) : (iI n).toBitVec = BitVec.ofNat 32 n := by rw [iI_of_nat]; rfl
theorem iI_and (a b : Nat) : iI a &&& iI b = iI ((a &&& b : Nat) : Int) := by
  apply Int32.toBitVec_inj.mp
  rw [Int32.toBitVec_and, iI_bv, iI_bv, iI_bv, BitVec.ofNat_and]
theorem iI_or (a b : Nat) : iI a ||| iI b = iI ((a ||| b : Nat) : Int) := by
  apply Int32.toBitVec_inj.mp
  rw [Int32.toBitVec_or, iI_bv, iI_bv, iI_bv, BitVec.ofNat_or]
theorem iI_xor (a b : Nat) : iI a ^^^ iI b = iI ((a ^^^ b : Nat) : Int) := by
  apply Int32.toBitVec_inj.mp
  rw [Int32.toBitVec_xor, iI_bv, iI_bv, iI_bv, BitVec.ofNat_xor]
theorem sh_amt : ∀ k : Nat, k < 32 → ((iI (k : Int) &&& 31).toBitVec.smod 32).toNat = k := by decide +kernel
theorem iI_shl (a : Nat) {k : Nat} (hk : k < 32) : iI a <<< (iI k &&& 31) = iI ((a <<< k : Nat) : Int) := by
  apply Int32.toBitVec_inj.mp
  rw [Int32.toBitVec_shiftLeft, iI_bv, iI_bv]
  show BitVec.ofNat 32 a <<< ((iI (k : Int) &&& 31).toBitVec.smod 32).toNat = _
  rw [sh_amt k hk]
  apply BitVec.eq_of_toNat_eq
  rw [BitVec.toNat_shiftLeft, BitVec.toNat_ofNat, BitVec.toNat_ofNat, Nat.shiftLeft_eq, Nat.shiftLeft_eq, Nat.mod_mul_mod]
theorem iI_shr {a : Nat} (ha : a ≤ 2147483647) {k : Nat} (hk : k < 32) : iI a >>> (iI k &&& 31) = iI ((a >>> k : Nat) : Int) := by
  apply Int32.toBitVec_inj.mp
  rw [Int32.toBitVec_shiftRight, iI_bv, iI_bv]
  show (BitVec.ofNat 32 a).sshiftRight ((iI (k : Int) &&& 31).toBitVec.smod 32).toNat = _
  rw [sh_amt k hk, BitVec.sshiftRight_eq_of_msb_false (by rw [BitVec.msb_eq_false_iff_two_mul_lt, BitVec.toNat_ofNat]; omega)]
  apply BitVec.eq_of_toNat_eq
  have h2 : a >>> k ≤ a := Nat.shiftRight_le a k
  rw [BitVec.toNat_ushiftRight, BitVec.toNat_ofNat, BitVec.toNat_ofNat, Nat.mod_eq_of_lt (by omega), Nat.mod_eq_of_lt (by omega)]
theorem iI_div {a b : Nat} (ha : a ≤ 2147483647) (hb : b ≤ 2147483647) : iI a / iI b = iI ((a / b : Nat) : Int) := by
  rw [iI_of_nat, iI_of_nat, iI_of_nat, Int32.ofNat_div (by omega) (by omega)]
theorem iI_rem {a b : Nat} (ha : a ≤ 2147483647) (hb : b ≤ 2147483647) : irm (iI a) (iI b) = iI ((a % b : Nat) : Int) := by
  unfold irm
  rw [iI_div ha hb, iI_mul, iI_sub]
  congr 1
  have h := Nat.div_add_mod a b
  rw [Nat.mul_comm] at h
  have h2 : ((a / b * b : Nat) : Int) = ((a / b : Nat) : Int) * (b : Int) := Int.natCast_mul _ _
  rw [← h2]
  omega
/-! memory -/
theorem gI_wI (M : Mem) (a k : Nat) (v : Int32) (a' k' : Nat) : gI (wI M a k v) a' k' = if a' = a then (if k' = k then v else gI M a' k') else gI M a' k' := rfl
theorem gL_wL (M : Mem) (a k : Nat) (v : Int64) (a' k' : Nat) : gL (wL M a k v) a' k' = if a' = a then (if k' = k then v else gL M a' k') else gL M a' k' := rfl
theorem gI_wL (M : Mem) (a k : Nat) (v : Int64) (a' k' : Nat) : gI (wL M a k v) a' k' = gI M a' k' := rfl
theorem gI_wR (M : Mem) (a k v : Nat) (a' k' : Nat) : gI (wR M a k v) a' k' = gI M a' k' := rfl
theorem gL_wI (M : Mem) (a k : Nat) (v : Int32) (a' k' : Nat) : gL (wI M a k v) a' k' = gL M a' k' := rfl
theorem gL_wR (M : Mem) (a k v : Nat) (a' k' : Nat) : gL (wR M a k v) a' k' = gL M a' k' := rfl
theorem gR_wI (M : Mem) (a k : Nat) (v : Int32) (a' k' : Nat) : gR (wI M a k v) a' k' = gR M a' k' := rfl
theorem gR_wL (M : Mem) (a k : Nat) (v : Int64) (a' k' : Nat) : gR (wL M a k v) a' k' = gR M a' k' := rfl
theorem gI_eq (M : Mem) (a k : Nat) (v : Int32) : gI (wI M a k v) a k = v := by rw [gI_wI, if_pos rfl, if_pos rfl]
theorem gI_na {M : Mem} {a k : Nat} {v : Int32} {a' k' : Nat} (h : a' ≠ a) : gI (wI M a k v) a' k' = gI M a' k' := by rw [gI_wI, if_neg h]
theorem gI_nk {M : Mem} {a k : Nat} {v : Int32} {a' k' : Nat} (h : k' ≠ k) : gI (wI M a k v) a' k' = gI M a' k' := by rw [gI_wI, if_neg h]; split <;> rfl
theorem gL_eq (M : Mem) (a k : Nat) (v : Int64) : gL (wL M a k v) a k = v := by rw [gL_wL, if_pos rfl, if_pos rfl]
theorem gL_na {M : Mem} {a k : Nat} {v : Int64} {a' k' : Nat} (h : a' ≠ a) : gL (wL M a k v) a' k' = gL M a' k' := by rw [gL_wL, if_neg h]
theorem gL_nk {M : Mem} {a k : Nat} {v : Int64} {a' k' : Nat} (h : k' ≠ k) : gL (wL M a k v) a' k' = gL M a' k' := by rw [gL_wL, if_neg h]; split <;> rfl
/-- the memories are the same but for the cells of S -/
def Eqx (S : List Nat) (M M' : Mem) : Prop := ∀ a, a ∉ S → M'.1 a = M.1 a ∧ M'.2.1 a = M.2.1 a ∧ M'.2.2 a = M.2.2 a
theorem Eqx.rf {S : List Nat} {M : Mem} : Eqx S M M := fun _ _ => ⟨rfl, rfl, rfl⟩
theorem Eqx.tr {S : List Nat} {M M1 M2 : Mem} (h1 : Eqx S M M1) (h2 : Eqx S M1 M2) : Eqx S M M2 := fun a ha => ⟨(h2 a ha).1.trans (h1 a ha).1, (h2 a ha).2.1.trans (h1 a ha).2.1, (h2 a ha).2.2.trans (h1 a ha).2.2⟩
theorem Eqx.mono {S T : List Nat} {M M' : Mem} (h : Eqx S M M') (hST : ∀ a, a ∈ S → a ∈ T) : Eqx T M M' := fun a ha => h a (fun q => ha (hST a q))
theorem eqx_wI {S : List Nat} {M M' : Mem} {b k : Nat} {v : Int32} (h : Eqx S M M') (hb : b ∈ S) : Eqx S M (wI M' b k v) := fun a ha => by
  have hne : a ≠ b := fun e => ha (e ▸ hb)
  refine ⟨?_, (h a ha).2.1, (h a ha).2.2⟩
  rw [← (h a ha).1]
  funext j
  show up2 M'.1 b k v a j = _
  unfold up2
  rw [if_neg hne]
theorem eqx_wL {S : List Nat} {M M' : Mem} {b k : Nat} {v : Int64} (h : Eqx S M M') (hb : b ∈ S) : Eqx S M (wL M' b k v) := fun a ha => by
  have hne : a ≠ b := fun e => ha (e ▸ hb)
  refine ⟨(h a ha).1, ?_, (h a ha).2.2⟩
  rw [← (h a ha).2.1]
  funext j
  show up2 M'.2.1 b k v a j = _
  unfold up2
  rw [if_neg hne]
theorem eqx_wR {S : List Nat} {M M' : Mem} {b k v : Nat} (h : Eqx S M M') (hb : b ∈ S) : Eqx S M (wR M' b k v) := fun a ha => by
  have hne : a ≠ b := fun e => ha (e ▸ hb)
  refine ⟨(h a ha).1, (h a ha).2.1, ?_⟩
  rw [← (h a ha).2.2]
  funext j
  show up2 M'.2.2 b k v a j = _
  unfold up2
  rw [if_neg hne]
theorem eqx_I {S : List Nat} {M M' : Mem} (h : Eqx S M M') {a : Nat} (ha : a ∉ S) (k : Nat) : gI M' a k = gI M a k := congrFun (h a ha).1 k
theorem eqx_L {S : List Nat} {M M' : Mem} (h : Eqx S M M') {a : Nat} (ha : a ∉ S) (k : Nat) : gL M' a k = gL M a k := congrFun (h a ha).2.1 k
theorem eqx_R {S : List Nat} {M M' : Mem} (h : Eqx S M M') {a : Nat} (ha : a ∉ S) (k : Nat) : gR M' a k = gR M a k := by
  unfold gR; rw [(h a ha).2.2]
theorem bI_some {r : Int32} {M : Mem} {f : Int32 → Mem → Rs Mem} : bI (some (.int r, M)) f = f r M := rfl
theorem bL_some {r : Int64} {M : Mem} {f : Int64 → Mem → Rs Mem} : bL (some (.long r, M)) f = f r M := rfl
theorem bR_some {r : Nat} {M : Mem} {f : Nat → Mem → Rs Mem} : bR (some (.ref r, M)) f = f r M := rfl
theorem bV_some {M : Mem} {f : Mem → Rs Mem} : bV (some (.null, M)) f = f M := rfl
theorem gb_t {α : Type} {x : Option α} : gb true x = x := rfl
theorem sh_amt0 (k : Nat) (hk : k < 32) : (iI (k : Int) &&& 31) = iI k := by
  have h : ∀ k : Nat, k < 32 → (iI ((k : Nat) : Int) &&& 31) = iI k := by decide +kernel
  exact h k hk
