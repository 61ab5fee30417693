/-! THE CLASS: a law worked out. -/
theorem iI_not (z : Int) : iI z ^^^ iI (-1) = iI (-1 - z) := by
  have h : iI z ^^^ iI (-1) = ~~~ (iI z) := by
    apply Int32.toBitVec_inj.mp
    rw [Int32.toBitVec_xor, Int32.toBitVec_not]
    exact BitVec.xor_allOnes
  have h2 : ~~~ (iI z) = - iI z - iI 1 := by
    apply Int32.toBitVec_inj.mp
    rw [Int32.toBitVec_not, Int32.toBitVec_sub, Int32.toBitVec_neg, BitVec.neg_eq_not_add]
    exact (BitVec.add_sub_cancel _ _).symm
  rw [h, h2, iI_neg, iI_sub]
  congr 1
  omega
def sgn (o : Nat) : Nat := if o = 0 then 43 else if o = 1 then 45 else if o = 2 then 42 else if o = 3 then 61 else if o = 4 then 60 else if o = 5 then 62 else if o = 6 then 18 else if o = 7 then 17 else 16
def encC (c : Nat) : Int := if c < 1000 then (c : Int) else if c < 3000 then -1 - ((c : Int) - 1000) else -1 - (sgn (c - 3000) : Int)
theorem cap_l2 {z : Int} (h1 : -9223372036854775808 ≤ z) (h2 : z ≤ 9223372036854775807) (M : Mem) : (if 0 < lg_cmp (lI z) (lI 1000000) then some (.int (iI 1000000), M) else if lg_cmp (lI z) (lI (-1000000)) < 0 then some (.int (iI (-1000000)), M) else some (.int ((lI z).toInt32), M) : Rs Mem) = some (.int (iI (cap z)), M) := by
  simp only [cmp_lt, cmp_gt, l2i_lI]
  rw [lI_toInt h1 h2, lI_toInt (by decide) (by decide), lI_toInt (by decide) (by decide)]
  unfold cap
  split
  · rfl
  · split <;> rfl
theorem c_Lw_joined (d : Nat) {o : Nat} (ho : o ≤ 8) (h6 : o ≠ 6) (a b : Int32) (M : Mem) : c2 (d + 1) m_Lw_joined [.int (iI (sgn o)), .long a.toInt64, .long b.toInt64] M = some (.int (op2 o a b), M) := by
  show X2 d m_Lw_joined 0 [.int (iI (sgn o)), .long a.toInt64, mk2, .long b.toInt64, mk2, uns, uns] [] M = _
  have ha := iI_rng a
  have hb := iI_rng b
  have hm := mul_rng a b
  rw [e_Lw_joined_0]
  have hA : (a.toInt64 &&& b.toInt64).toInt32 = a &&& b := by rw [Int64.toInt32_and, Int32.toInt32_toInt64, Int32.toInt32_toInt64]
  have hO : (a.toInt64 ||| b.toInt64).toInt32 = a ||| b := by rw [Int64.toInt32_or, Int32.toInt32_toInt64, Int32.toInt32_toInt64]
  rw [hA, hO]
  rw [i2l_toInt, i2l_toInt, lI_add, lI_sub, lI_mul, cap_l2 (by omega) (by omega), cap_l2 (by omega) (by omega), cap_l2 (by omega) (by omega)]
  simp only [cmp_lt, cmp_gt, cmp_eq, lI_toInt (show -9223372036854775808 ≤ a.toInt by omega) (by omega), lI_toInt (show -9223372036854775808 ≤ b.toInt by omega) (by omega)]
  have hl : ∀ n : Nat, n ≤ 100 → ∀ k : Int, 0 ≤ k → k ≤ 100 → (iI n = iI k) = ((n : Int) = k) := fun n h1 k h2 h3 => iI_eq (by omega) (by omega) (by omega) (by omega)
  rcases (show o = 0 ∨ o = 1 ∨ o = 2 ∨ o = 3 ∨ o = 4 ∨ o = 5 ∨ o = 7 ∨ o = 8 by omega) with h | h | h | h | h | h | h | h <;> subst h
  · rw [if_neg (by decide), if_neg (by decide), if_pos (by decide)]; rfl
  · rw [if_neg (by decide), if_neg (by decide), if_neg (by decide), if_pos (by decide)]; rfl
  · rw [if_neg (by decide), if_pos (by decide)]; rfl
  · rw [if_neg (by decide), if_neg (by decide), if_neg (by decide), if_neg (by decide), if_neg (by decide), if_pos (by decide)]
    show _ = (some (.int (iI (b2i (decide (a = b)))), M) : Rs Mem)
    by_cases h : a = b
    · rw [if_pos (by rw [h]), decide_eq_true h]; rfl
    · rw [if_neg (fun q => h (by have := congrArg Int64.toInt q; rw [lI_toInt (by omega) (by omega), lI_toInt (by omega) (by omega)] at this; exact Int32.toInt_inj.mp this)), decide_eq_false h]; rfl
  · rw [if_neg (by decide), if_neg (by decide), if_neg (by decide), if_neg (by decide), if_pos (by decide)]
    show _ = (some (.int (iI (b2i (decide (a < b)))), M) : Rs Mem)
    by_cases h : a < b
    · rw [if_pos (Int32.lt_iff_toInt_lt.mp h), decide_eq_true h]; rfl
    · rw [if_neg (fun q => h (Int32.lt_iff_toInt_lt.mpr q)), decide_eq_false h]; rfl
  · rw [if_neg (by decide), if_neg (by decide), if_neg (by decide), if_neg (by decide), if_neg (by decide), if_neg (by decide), if_pos (by decide)]
    show _ = (some (.int (iI (b2i (decide (b < a)))), M) : Rs Mem)
    by_cases h : b < a
    · rw [if_pos (Int32.lt_iff_toInt_lt.mp h), decide_eq_true h]; rfl
    · rw [if_neg (fun q => h (Int32.lt_iff_toInt_lt.mpr q)), decide_eq_false h]; rfl
  · rw [if_pos (by decide)]; rfl
  · rw [if_neg (by decide), if_neg (by decide), if_neg (by decide), if_neg (by decide), if_neg (by decide), if_neg (by decide), if_neg (by decide)]; rfl
def laws : List Nat := [151, 154, 161, 164, 171, 174, 181, 184]
def rooms : List Nat := [147, 157, 167, 177]
theorem lw_all {P : Nat → Prop} (h1 : P 151) (h2 : P 154) (h3 : P 161) (h4 : P 164) (h5 : P 171) (h6 : P 174) (h7 : P 181) (h8 : P 184) : ∀ a, a ∈ laws → P a := by
  intro a ha
  simp only [laws, List.mem_cons, List.not_mem_nil, or_false] at ha
  rcases ha with h | h | h | h | h | h | h | h <;> subst h <;> assumption
theorem rm_all {P : Nat → Prop} (h1 : P 147) (h2 : P 157) (h3 : P 167) (h4 : P 177) : ∀ a, a ∈ rooms → P a := by
  intro a ha
  simp only [rooms, List.mem_cons, List.not_mem_nil, or_false] at ha
  rcases ha with h | h | h | h <;> subst h <;> assumption
theorem lw_k (M : Mem) : ∀ a, a ∈ laws → isK O2 M a 11 = true := lw_all rfl rfl rfl rfl rfl rfl rfl rfl
theorem lw_c (M : Mem) : ∀ a, a ∈ laws → gR M a 0 = a + 1 := lw_all rfl rfl rfl rfl rfl rfl rfl rfl
theorem lw_s (M : Mem) : ∀ a, a ∈ laws → gR M a 1 = a + 2 := lw_all rfl rfl rfl rfl rfl rfl rfl rfl
theorem lw_1 (M : Mem) : ∀ a, a ∈ laws → isK O2 M (a + 1) 1 = false := lw_all rfl rfl rfl rfl rfl rfl rfl rfl
theorem lw_2 (M : Mem) : ∀ a, a ∈ laws → isK O2 M (a + 2) 1 = false := lw_all rfl rfl rfl rfl rfl rfl rfl rfl
theorem lw_at1 (M : Mem) (x : Int32) : ∀ a, a ∈ laws → at_ O2 M (a + 1) 40 x = inb x 900 := lw_all rfl rfl rfl rfl rfl rfl rfl rfl
theorem lw_at2 (M : Mem) (x : Int32) : ∀ a, a ∈ laws → at_ O2 M (a + 2) 40 x = inb x 40 := lw_all rfl rfl rfl rfl rfl rfl rfl rfl
theorem bb_f {α : Type} (x y : α) : bb false x y = y := id rfl
theorem bb_tt {α : Type} (x y : α) : bb true x y = x := id rfl
theorem gb_T {α : Type} (x : Option α) : gb true x = x := id rfl
/-- cells from b on hold a law, as the class writes it -/
def CellsE (f : Nat → Int32) : Nat → List Nat → Prop
  | _, [] => True
  | b, c :: L => f b = iI (encC c) ∧ CellsE f (b + 1) L
theorem laws_lt : ∀ a, a ∈ laws → 151 ≤ a ∧ a ≤ 184 := by decide
theorem e_Lw (d : Nat) (a : Nat) (ha : a ∈ laws) (x2 x3 : Int32) (v4 : Value) (M : Mem) : X2 d m_Lw_holds 4 [.ref a, .ref 130, .int x2, .int x3, v4] [] M =
    if x3 < gI M a 2 then if x3 < iI 900 then gb (inb x3 900) (if gI M (a + 1) (ix x3) < 0 then if (gI M (a + 1) (ix x3)) ^^^ (iI (-1)) < iI 10 then X2 d m_Lw_holds 41 [.ref a, .ref 130, .int x2, .int x3, .int (gI M (a + 1) (ix x3))] [] M else if (gI M (a + 1) (ix x3)) ^^^ (iI (-1)) = iI 18 then if 0 < x2 then gb (inb (x2 - (iI 1)) 40) (X2 d m_Lw_holds 4 [.ref a, .ref 130, .int x2, .int (x3 + iI 1), .int (gI M (a + 1) (ix x3))] [] (wI M (a + 2) (ix (x2 - (iI 1))) ((iI 1) - (gI M (a + 2) (ix (x2 - (iI 1))))))) else X2 d m_Lw_holds 4 [.ref a, .ref 130, .int x2, .int (x3 + iI 1), .int (gI M (a + 1) (ix x3))] [] M else if iI 1 < x2 then gb (inb ((x2 + iI (-1)) - (iI 1)) 40) (gb (inb (x2 + iI (-1)) 40) (bI (c2 d m_Lw_joined [.int ((gI M (a + 1) (ix x3)) ^^^ (iI (-1))), .long ((gI M (a + 2) (ix ((x2 + iI (-1)) - (iI 1)))).toInt64), .long ((gI M (a + 2) (ix (x2 + iI (-1)))).toInt64)] M) fun r2 M1 => gb (inb ((x2 + iI (-1)) - (iI 1)) 40) (X2 d m_Lw_holds 4 [.ref a, .ref 130, .int (x2 + iI (-1)), .int (x3 + iI 1), .int (gI M (a + 1) (ix x3))] [] (wI M1 (a + 2) (ix ((x2 + iI (-1)) - (iI 1))) r2)))) else X2 d m_Lw_holds 4 [.ref a, .ref 130, .int x2, .int (x3 + iI 1), .int (gI M (a + 1) (ix x3))] [] M else X2 d m_Lw_holds 41 [.ref a, .ref 130, .int x2, .int x3, .int (gI M (a + 1) (ix x3))] [] M)
    else if 0 < x2 then gb (inb (x2 - (iI 1)) 40) (if gI M (a + 2) (ix (x2 - (iI 1))) = 0 then some (.int (iI 0), M) else some (.int (iI 1), M)) else some (.int (iI 0), M)
    else if 0 < x2 then gb (inb (x2 - (iI 1)) 40) (if gI M (a + 2) (ix (x2 - (iI 1))) = 0 then some (.int (iI 0), M) else some (.int (iI 1), M)) else some (.int (iI 0), M) := by
  rw [e_Lw_holds_4]
  have hd : ∀ (b : Bool) (x : Rs Mem), gb b (gb b x) = gb b x := fun b x => by cases b <;> rfl
  simp only [lw_k _ a ha, lw_c _ a ha, lw_s _ a ha, lw_1 _ a ha, lw_2 _ a ha, lw_at1 _ _ a ha, lw_at2 _ _ a ha, bb_f, gb_T, hd]
