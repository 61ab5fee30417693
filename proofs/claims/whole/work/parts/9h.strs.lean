/-! THE TEXT: strings. -/
def stl (a : Nat) : List Int := txtT.getD ((a - 10) / 2) []
def sln (a : Nat) : Nat := (stl a).length
def sch (a k : Nat) : Nat := ((stl a).getD k 0).toNat
def strs : List Nat := [10, 12, 14, 16, 18, 20, 22, 24, 26, 28, 30, 32, 34, 36, 38, 40, 42, 44, 46, 48, 50, 52]
theorem str_facts : ∀ a, a ∈ strs → Nat.beq (sh0 a).1 2 = true ∧ Nat.beq (sh0 (a + 1)).1 1 = false ∧ Nat.beq (sh0 (a + 1)).1 3 = true ∧ (sh0 (a + 1)).2 = sln a ∧ sln a < 200 := by decide +kernel
theorem str_chars : ∀ a, a ∈ strs → ∀ k, k < sln a → ((stl a).getD k 0) = (sch a k : Int) ∧ sch a k < 128 := by decide +kernel
theorem str_k (M : Mem) {a : Nat} (h : a ∈ strs) : isK O2 M a 2 = true := (str_facts a h).1
theorem str_b1 (M : Mem) {a : Nat} (h : a ∈ strs) : isK O2 M (a + 1) 1 = false := (str_facts a h).2.1
theorem str_b3 (M : Mem) {a : Nat} (h : a ∈ strs) : isK O2 M (a + 1) 3 = true := (str_facts a h).2.2.1
theorem str_n (M : Mem) {a : Nat} (h : a ∈ strs) : (oS O2 M (a + 1)).2 = sln a := (str_facts a h).2.2.2.1
theorem str_txt {a k : Nat} (h : a ∈ strs) (hk : k < sln a) : txt (a + 1) k = iI (sch a k) ∧ sch a k < 128 := by
  have := str_chars a h k hk
  refine ⟨?_, this.2⟩
  unfold txt
  rw [show (a + 1 - 11) / 2 = (a - 10) / 2 by omega]
  exact congrArg iI this.1
theorem c_Str_length (d : Nat) {a : Nat} (h : a ∈ strs) (M : Mem) : c2 (d + 2) m_Str_length [.ref a] M = some (.int (iI (sln a)), M) := by
  have cd : c2 (d + 1) m_Str_coder [.ref a] M = some (.int (iI 0), M) := by
    show X2 d m_Str_coder 0 [.ref a] [] M = _
    rw [e_Str_coder_0, str_k M h, gb_T]
  have hn := (str_facts a h).2.2.2.2
  have sr : iI (sln a) >>> (iI 0 &&& 31) = iI (sln a) := iI_shr (k := 0) (by omega) (by decide)
  show X2 (d + 1) m_Str_length 0 [.ref a] [] M = _
  rw [e_Str_length_0, str_k M h, gb_T, str_b1 M h, bb_f, str_b3 M h, str_n M h, show ∀ (b1 b2 b3 b4 b5 b6 b7 : Bool), (true || b1 || b2 || b3 || b4 || b5 || b6 || b7) = true by decide, gb_T, tt_and, gb_T, cd, bI_some, sr]
theorem ch_ok : ∀ v : Fin 128, ((((iI (v.val : Int)) &&& (iI 255)).toUInt32 % 65536).toInt32 = iI (v.val : Int)) ∧ ((iI (v.val : Int)).toUInt32.toUInt16.toUInt32.toInt32 = iI (v.val : Int)) := by decide +kernel
theorem c_Str_charAt (d : Nat) {a k : Nat} (h : a ∈ strs) (hk : k < sln a) (M : Mem) : c2 (d + 4) m_Str_charAt [.ref a, .int (iI k)] M = some (.int (iI (sch a k)), M) := by
  have hn := (str_facts a h).2.2.2.2
  obtain ⟨t1, t2⟩ := str_txt h hk
  obtain ⟨q1, q2⟩ := ch_ok ⟨sch a k, t2⟩
  have il : c2 (d + 3) m_Str_isLatin1 [.ref a] M = some (.int (iI 1), M) := by
    show X2 (d + 2) m_Str_isLatin1 0 [.ref a] [] M = _
    rw [e_Str_isLatin1_0, str_k M h, gb_T]
  have ci : c2 (d + 2) m_Str_checkIndex [.int (iI k), .int (iI (sln a))] M = some (.null, M) := by
    have pc : c2 (d + 1) m_Pre_checkIndex [.int (iI k), .int (iI (sln a)), .ref 2] M = some (.int (iI k), M) := by
      show X2 d m_Pre_checkIndex 0 [.int (iI k), .int (iI (sln a)), .ref 2] [] M = _
      rw [e_Pre_checkIndex_0, if_neg (by rw [iI_lt0 (by omega) (by omega)]; omega), if_pos (by rw [iI_lt (by omega) (by omega) (by omega) (by omega)]; omega)]
    show X2 (d + 1) m_Str_checkIndex 0 [.int (iI k), .int (iI (sln a))] [] M = _
    rw [e_Str_checkIndex_0, pc, bI_some]
  have lc : c2 (d + 3) m_Lat_charAt [.ref (a + 1), .int (iI k)] M = some (.int (iI (sch a k)), M) := by
    show X2 (d + 2) m_Lat_charAt 0 [.ref (a + 1), .int (iI k)] [] M = _
    rw [e_Lat_charAt_0, str_b1 M h, bb_f, str_b3 M h, str_n M h, show ∀ (b1 b2 b3 b4 b5 b6 b7 : Bool), (true || b1 || b2 || b3 || b4 || b5 || b6 || b7) = true by decide, gb_T, ci, bV_some, str_b3 M h, bb_tt, str_n M h, inb_ok (by omega) (by omega) (by omega), gb_T, ix_nat (by omega), t1, q1, q2, decide_eq_true rfl, gb_T]
  show X2 (d + 3) m_Str_charAt 0 [.ref a, .int (iI k)] [] M = _
  rw [e_Str_charAt_0, str_k M h, tt_and, gb_T, il, bI_some, if_neg (show ¬ (iI 1 = 0) by decide), str_k M h, gb_T, lc, bI_some, q2, decide_eq_true rfl, gb_T]
