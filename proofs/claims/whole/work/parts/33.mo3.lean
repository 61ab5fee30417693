/-! A LAW's code worked out: lists for stacks. -/
def cap (v : Int) : Int := if 1000000 < v then 1000000 else if v < -1000000 then -1000000 else v
def op2 (o : Nat) (a b : Int32) : Int32 :=
  if o = 0 then iI (cap (a.toInt + b.toInt)) else if o = 1 then iI (cap (a.toInt - b.toInt)) else if o = 2 then iI (cap (a.toInt * b.toInt))
  else if o = 3 then iI (b2i (decide (a = b))) else if o = 4 then iI (b2i (decide (a < b))) else if o = 5 then iI (b2i (decide (b < a)))
  else if o = 7 then a &&& b else a ||| b
theorem i2l_toInt (a : Int32) : a.toInt64 = lI a.toInt := by
  have h := iI_rng a
  rw [← i2l_iI h.1 h.2, iI_self]
theorem lI_add (a b : Int) : lI a + lI b = lI (a + b) := (Int64.ofInt_add a b).symm
theorem lI_sub (a b : Int) : lI a - lI b = lI (a - b) := (Int64.ofInt_sub a b).symm
theorem lI_mul (a b : Int) : lI a * lI b = lI (a * b) := (Int64.ofInt_mul a b).symm
theorem l2i_lI (z : Int) : (lI z).toInt32 = iI z := by
  apply Int32.toBitVec_inj.mp
  show BitVec.signExtend 32 (lI z).toBitVec = (iI z).toBitVec
  show BitVec.signExtend 32 (BitVec.ofInt 64 z) = BitVec.ofInt 32 z
  rw [BitVec.signExtend_eq_setWidth_of_le _ (by decide)]
  apply BitVec.eq_of_toInt_eq
  rw [BitVec.toInt_setWidth, BitVec.toInt_ofInt]
  simp [BitVec.toNat_ofInt, Int.bmod_def]
  omega
theorem mul_rng (a b : Int32) : -4611686018427387904 ≤ a.toInt * b.toInt ∧ a.toInt * b.toInt ≤ 4611686018427387904 := by
  have ha := iI_rng a
  have hb := iI_rng b
  have h1 : (a.toInt * b.toInt).natAbs ≤ 2147483648 * 2147483648 := by
    rw [Int.natAbs_mul]
    exact Nat.mul_le_mul (by omega) (by omega)
  omega
theorem cap_l {z : Int} (h1 : -9223372036854775808 ≤ z) (h2 : z ≤ 9223372036854775807) (M : Mem) : (if 0 < lg_cmp (lI z) (lI 1000000) then some (.int ((lI 1000000).toInt32), M) else if lg_cmp (lI z) (lI (-1000000)) < 0 then some (.int ((lI (-1000000)).toInt32), M) else some (.int ((lI z).toInt32), M) : Rs Mem) = some (.int (iI (cap z)), M) := by
  simp only [cmp_lt, cmp_gt, l2i_lI]
  rw [lI_toInt h1 h2, lI_toInt (by decide) (by decide), lI_toInt (by decide) (by decide)]
  unfold cap
  split
  · rfl
  · split <;> rfl
theorem c_Mo_between (d : Nat) {o : Nat} (ho : o ≤ 8) (h6 : o ≠ 6) (a b : Int32) (M : Mem) : c2 (d + 1) m_Mo_between [.int (iI ((3000 + o : Nat) : Int)), .int a, .int b] M = some (.int (op2 o a b), M) := by
  show X2 d m_Mo_between 0 [.int (iI ((3000 + o : Nat) : Int)), .int a, .int b, uns, uns] [] M = _
  have ha := iI_rng a
  have hb := iI_rng b
  have hm := mul_rng a b
  have hs : ∀ n : Int, -2147483648 ≤ n → n ≤ 2147483647 → (iI ((3000 + o : Nat) : Int) = iI n) = ((3000 + o : Int) = n) := fun n h1 h2 => by rw [iI_eq (by omega) (by omega) h1 h2]; rfl
  rw [e_Mo_between_0, i2l_toInt, i2l_toInt, lI_add, lI_sub, lI_mul, cap_l (by omega) (by omega), cap_l (by omega) (by omega), cap_l (by omega) (by omega)]
  simp (disch := omega) only [iI_add, iI_sub, iI_mul, iI_lt, iI_eq, iI_lt0, iI_0lt, iI_eq0, ix_iI, inb_ok, gb_t, Int.toNat_natCast]
  rcases (show o = 0 ∨ o = 1 ∨ o = 2 ∨ o = 3 ∨ o = 4 ∨ o = 5 ∨ o = 7 ∨ o = 8 by omega) with h | h | h | h | h | h | h | h <;> subst h
  · rw [if_neg (by omega), if_neg (by omega), if_neg (by omega), if_neg (by omega), if_neg (by omega), if_neg (by omega), if_pos (by omega)]; rfl
  · rw [if_neg (by omega), if_neg (by omega), if_neg (by omega), if_neg (by omega), if_neg (by omega), if_neg (by omega), if_neg (by omega), if_pos (by omega)]; rfl
  · rw [if_neg (by omega), if_neg (by omega), if_neg (by omega), if_neg (by omega), if_neg (by omega), if_neg (by omega), if_neg (by omega), if_neg (by omega)]; rfl
  · rw [if_pos (by omega)]
    show _ = (some (.int (iI (b2i (decide (a = b)))), M) : Rs Mem)
    by_cases h : a = b
    · rw [if_pos h, decide_eq_true h]; rfl
    · rw [if_neg h, decide_eq_false h]; rfl
  · rw [if_neg (by omega), if_pos (by omega)]
    show _ = (some (.int (iI (b2i (decide (a < b)))), M) : Rs Mem)
    by_cases h : a < b
    · rw [if_pos h, decide_eq_true h]; rfl
    · rw [if_neg h, decide_eq_false h]; rfl
  · rw [if_neg (by omega), if_neg (by omega), if_pos (by omega)]
    show _ = (some (.int (iI (b2i (decide (b < a)))), M) : Rs Mem)
    by_cases h : b < a
    · rw [if_pos h, decide_eq_true h]; rfl
    · rw [if_neg h, decide_eq_false h]; rfl
  · rw [if_neg (by omega), if_neg (by omega), if_neg (by omega), if_neg (by omega), if_pos (by omega)]; rfl
  · rw [if_neg (by omega), if_neg (by omega), if_neg (by omega), if_neg (by omega), if_neg (by omega), if_pos (by omega)]; rfl
/-- one item of a code, the stack a list, its top first, never more than lim -/
def st1 (wd : Nat → Int32) (lim c : Nat) (s : List Int32) : Option (List Int32) :=
  if c < 3000 then (if s.length < lim then some ((if c < 1000 then iI c else wd (c - 1000)) :: s) else none)
  else if c = 3006 then (match s with | a :: s => some ((iI 1 - a) :: s) | [] => none)
  else (match s with | b :: a :: s => some (op2 (c - 3000) a b :: s) | _ => none)
def stL (wd : Nat → Int32) (lim : Nat) : List Nat → List Int32 → Option (List Int32)
  | [], s => some s
  | c :: L, s => (st1 wd lim c s).bind (stL wd lim L)
theorem st1_p {wd : Nat → Int32} {lim c : Nat} {s : List Int32} (h : c < 3000) : st1 wd lim c s = (if s.length < lim then some ((if c < 1000 then iI c else wd (c - 1000)) :: s) else none) := if_pos h
theorem st1_n {wd : Nat → Int32} {lim c : Nat} {s : List Int32} (h : c = 3006) : st1 wd lim c s = (match s with | a :: s => some ((iI 1 - a) :: s) | [] => none) := (if_neg (by omega)).trans (if_pos h)
theorem st1_o {wd : Nat → Int32} {lim c : Nat} {s : List Int32} (h : ¬ c < 3000) (h2 : c ≠ 3006) : st1 wd lim c s = (match s with | b :: a :: s => some (op2 (c - 3000) a b :: s) | _ => none) := (if_neg h).trans (if_neg h2)
/-- cells from b on hold a list of numbers -/
def Cells (f : Nat → Int32) : Nat → List Nat → Prop
  | _, [] => True
  | b, c :: L => f b = iI c ∧ Cells f (b + 1) L
/-- an array holds a stack -/
def Stk (f : Nat → Int32) : List Int32 → Prop
  | [] => True
  | v :: s => f s.length = v ∧ Stk f s
theorem Stk.fr {f g : Nat → Int32} : ∀ {s : List Int32}, Stk f s → (∀ k, k < s.length → g k = f k) → Stk g s
  | [], _, _ => trivial
  | _ :: s, h, hg => ⟨(hg s.length (Nat.lt_succ_self _)).trans h.1, Stk.fr h.2 (fun k hk => hg k (Nat.lt_succ_of_lt hk))⟩
/-- what an item can be: a number, one of the law's words, a sign -/
def OkC (al : Nat → Bool) (c : Nat) : Prop := c < 1000 ∨ (1000 ≤ c ∧ c < 1010 ∧ al (c - 1000) = true) ∨ (3000 ≤ c ∧ c ≤ 3008)
def OkL (al : Nat → Bool) : List Nat → Prop
  | [] => True
  | c :: L => OkC al c ∧ OkL al L
theorem ix_eq {z : Int} {n : Nat} (h : z = n) (hn : n ≤ 2147483647) : ix (iI z) = n := by subst h; exact ix_nat hn
theorem wI_at (M : Mem) (a k : Nat) (v : Int32) : (wI M a k v).1 a = fun j => if j = k then v else M.1 a j := by
  funext j
  show up2 M.1 a k v a j = _
  unfold up2
  rw [if_pos rfl]
theorem wI_na {M : Mem} {a k : Nat} {v : Int32} {b : Nat} (h : b ≠ a) : (wI M a k v).1 b = M.1 b := by
  funext j
  show up2 M.1 a k v b j = _
  unfold up2
  rw [if_neg h]
theorem c_Mo_reckons (d : Nat) {M0 : Mem} {law f n : Nat} {al : Nat → Bool} {v : Int32} {L : List Nat} (hl : law ≤ 1) (hf : gI M0 198 (8 + law) = iI f) (hn : gI M0 198 (10 + law) = iI n) (hfn : f + n ≤ 900)
    (hL : L.length = n) (hC : Cells (M0.1 198) (71 + f) L) (hO : OkL al L) (hS : stL (M0.1 203) 18 L [] = some [v]) :
    ∃ M', c2 (d + 2) m_Mo_reckons [.ref 197, .int (iI law)] M0 = some (.int (iI (b2i (decide (v = iI 1)))), M') ∧ Eqx [202] M0 M' := by
  have go : ∀ (L : List Nat) (k : Nat) (s : List Int32) (v4 : Value) (M : Mem), Eqx [202] M0 M → k + L.length = n → Cells (M0.1 198) (71 + f + k) L → OkL al L → stL (M0.1 203) 18 L s = some [v] → Stk (M.1 202) s → s.length ≤ 18 →
      ∃ M', X2 (d + 1) m_Mo_reckons 4 [.ref 197, .int (iI law), .int (iI s.length), .int (iI k), v4] [] M = some (.int (iI (b2i (decide (v = iI 1)))), M') ∧ Eqx [202] M0 M' := by
    intro L
    induction L with
    | nil =>
      intro k s v4 M hM hk _ _ hs hst _
      cases hs
      refine ⟨M, ?_, hM⟩
      have hk' : k = n := hk
      have g1 : gI M 198 (10 + law) = iI n := (eqx_I hM (by decide) _).trans hn
      rw [e_Mo_reckons_4, iI_add, ix_eq (n := 10 + law) (by omega) (by omega), g1, inb_ok (by omega) (by omega) (by omega), gb_t]
      simp (disch := omega) only [iI_add, iI_sub, iI_mul, iI_lt, iI_eq, iI_lt0, iI_0lt, iI_eq0, ix_iI, inb_ok, gb_t, Int.toNat_natCast]
      rw [if_neg (by omega)]
      have hv : gI M 202 0 = v := hst.1
      rw [hv]
      by_cases h : v = iI 1
      · rw [if_pos h, decide_eq_true h]; rfl
      · rw [if_neg h, decide_eq_false h]; rfl
    | cons c L ih =>
      intro k s v4 M hM hk hc hok hs hst hlen
      have hk' : k + L.length + 1 = n := hk
      have g1 : gI M 198 (10 + law) = iI n := (eqx_I hM (by decide) _).trans hn
      have g2 : gI M 198 (8 + law) = iI f := (eqx_I hM (by decide) _).trans hf
      have g3 : gI M 198 (71 + f + k) = iI c := (eqx_I hM (by decide) _).trans hc.1
      have hc2 : c ≤ 3008 := by rcases hok.1 with h | h | h <;> omega
      rw [e_Mo_reckons_4, iI_add, ix_eq (n := 10 + law) (by omega) (by omega), g1, inb_ok (by omega) (by omega) (by omega), gb_t, iI_add, ix_eq (n := 8 + law) (by omega) (by omega), g2, inb_ok (by omega) (by omega) (by omega), gb_t, iI_add, iI_add, ix_eq (n := 71 + f + k) (by omega) (by omega), g3, inb_ok (by omega) (by omega) (by omega), gb_t]
      simp (disch := omega) only [iI_add, iI_sub, iI_mul, iI_lt, iI_eq, iI_lt0, iI_0lt, iI_eq0, ix_iI, inb_ok, gb_t, Int.toNat_natCast]
      rw [if_pos (by omega)]
      have hw : (M.1 203) = (M0.1 203) := (hM 203 (by decide)).1
      have push : ∀ x : Int32, c < 3000 → (if c < 1000 then iI c else M0.1 203 (c - 1000)) = x → ∃ M', X2 (d + 1) m_Mo_reckons 4 [.ref 197, .int (iI law), .int (iI (s.length + 1)), .int (iI (k + 1)), .int (iI c)] [] (wI M 202 s.length x) = some (.int (iI (b2i (decide (v = iI 1)))), M') ∧ Eqx [202] M0 M' := by
        intro x hc3 hx
        have hs2 : (st1 (M0.1 203) 18 c s).bind (stL (M0.1 203) 18 L) = some [v] := hs
        rw [st1_p hc3] at hs2
        by_cases hl2 : s.length < 18
        · rw [if_pos hl2, hx] at hs2
          exact ih (k + 1) (x :: s) _ _ (eqx_wI hM (by decide)) (by omega) hc.2 hok.2 hs2 ⟨by rw [wI_at]; exact if_pos rfl, hst.fr (fun j hj => by rw [wI_at]; exact if_neg (by omega))⟩ (by rw [List.length_cons]; omega)
        · rw [if_neg hl2] at hs2; cases hs2
      by_cases c1 : c < 3000
      · rw [if_pos (by omega)]
        by_cases c2 : c < 1000
        · rw [if_pos (by omega)]
          exact push (iI c) c1 (if_pos c2)
        · have c3 : c < 1010 ∧ 1000 ≤ c := by rcases hok.1 with h | h | h <;> omega
          rw [if_neg (by omega), inb_ok (by omega) (by omega) (by omega), gb_t, show ((c : Int) - 1000).toNat = c - 1000 by omega]
          refine push _ c1 ?_
          rw [if_neg c2, ← hw]
          rfl
      · rw [if_neg (by omega)]
        have hs2 : (st1 (M0.1 203) 18 c s).bind (stL (M0.1 203) 18 L) = some [v] := hs
        by_cases c2 : c = 3006
        · rw [st1_n c2] at hs2
          rw [if_pos (by omega)]
          match s, hs2, hst, hlen with
          | [], hs2, _, _ => cases hs2
          | a :: s, hs2, hst, hlen =>
            have hlen' : s.length + 1 ≤ 18 := hlen
            have e0 : (((a :: s).length : Nat) - 1 : Int).toNat = s.length := by rw [List.length_cons]; omega
            rw [inb_ok (by rw [List.length_cons]; omega) (by rw [List.length_cons]; omega) (by rw [List.length_cons]; omega), gb_t, gb_t, e0, show gI M 202 s.length = a from hst.1]
            exact ih (k + 1) ((iI 1 - a) :: s) _ _ (eqx_wI hM (by decide)) (by omega) hc.2 hok.2 hs2 ⟨by rw [wI_at]; exact if_pos rfl, hst.2.fr (fun j hj => by rw [wI_at]; exact if_neg (by omega))⟩ hlen
        · rw [st1_o c1 c2] at hs2
          rw [if_neg (by omega)]
          match s, hs2, hst, hlen with
          | [], hs2, _, _ => cases hs2
          | [_], hs2, _, _ => cases hs2
          | b :: a :: s, hs2, hst, hlen =>
            have hlen' : s.length + 1 + 1 ≤ 18 := hlen
            have e2 : (((b :: a :: s).length : Nat) + -1 : Int) = ((s.length + 1 : Nat) : Int) := by
              rw [List.length_cons, List.length_cons]; omega
            have o1 : c - 3000 ≤ 8 ∧ c - 3000 ≠ 6 := by omega
            have o2 : c = 3000 + (c - 3000) := by omega
            have e3 : ix (iI ((s.length + 1 : Nat) : Int) - iI 1) = s.length := by rw [show iI 1 = iI ((1 : Nat) : Int) from rfl, iI_sub]; exact ix_eq (by omega) (by omega)
            rw [e2, e_Mo_reckons_114, e3, iI_sub, inb_ok (by omega) (by omega) (by omega), gb_t, inb_ok (by omega) (by omega) (by omega), gb_t, ix_nat (by omega), show gI M 202 (s.length + 1) = b from hst.1, show gI M 202 s.length = a from hst.2.1, o2, c_Mo_between _ o1.1 o1.2, bI_some, gb_t, ← o2, iI_add]
            exact ih (k + 1) (op2 (c - 3000) a b :: s) _ _ (eqx_wI hM (by decide)) (by omega) hc.2 hok.2 hs2 ⟨by rw [wI_at]; exact if_pos rfl, hst.2.2.fr (fun j hj => by rw [wI_at]; exact if_neg (by omega))⟩ (by rw [List.length_cons]; omega)
  show ∃ M', X2 (d + 1) m_Mo_reckons 0 [.ref 197, .int (iI law), uns, uns, uns] [] M0 = _ ∧ _
  rw [e_Mo_reckons_0]
  exact go L 0 [] uns M0 Eqx.rf (by omega) hC hO hS trivial (Nat.zero_le _)
