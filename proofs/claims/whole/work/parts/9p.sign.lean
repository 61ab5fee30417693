/-! THE TEXT: the class's signs. -/
def fndI (v : Nat) : Nat → Nat → Int
  | 0, _ => -1
  | j + 1, k => if sch 48 k = v then k else fndI v j (k + 1)
theorem s48 : 48 ∈ strs := by decide
theorem n48 : sln 48 = 12 := by decide +kernel
theorem fnd_all : ∀ v : Fin 256, (v.val < 128 → (-1 ≤ fndI v.val 12 0 ∧ fndI v.val 12 0 ≤ 11 ∧ (fndI v.val 12 0 < 0 → kcls (sgc v.val 12) = 22) ∧ (0 ≤ fndI v.val 12 0 → kcls (sgc v.val 12) = v.val))) ∧ (128 ≤ v.val → kcls (sgc v.val 12) = 22) ∧ (v.val = 0 → kcls (sgc v.val 12) = 22) := by decide +kernel
theorem ch8_ok : ∀ v : Fin 128, (iI (v.val : Int)).toInt8.toInt32 = iI (v.val : Int) ∧ ((iI (v.val : Int)).toUInt32 % 65536).toInt32 = iI (v.val : Int) := by decide +kernel
theorem c_indexOf (d : Nat) {v : Nat} (hv : v < 128) (M : Mem) : c2 (d + 6) m_Str_indexOf [.ref 48, .int (iI v)] M = some (.int (iI (fndI v 12 0)), M) := by
  have n12 := n48
  obtain ⟨c1, -⟩ := ch8_ok ⟨v, hv⟩
  have c1' : (iI (v : Int)).toInt8.toInt32 = iI (v : Int) := c1
  have go : ∀ (j k : Nat) (u1 u2 : Value), j + k = 12 → X2 (d + 2) m_Lat_indexOfChar 7 [.ref 49, u1, u2, .int (iI 12), .int (iI v), .int (iI k)] [] M = some (.int (iI (fndI v j k)), M) := by
    intro j
    induction j with
    | zero =>
      intro k u1 u2 hk
      rw [e_Lat_indexOfChar_7, if_neg (by rw [iI_lt (by omega) (by omega) (by omega) (by omega)]; omega)]
      rfl
    | succ j ih =>
      intro k u1 u2 hk
      have kc : k < sln 48 := by rw [n12]; omega
      obtain ⟨t1, t2⟩ := str_txt s48 kc
      have t1' : txt 49 k = iI (sch 48 k) := t1
      rw [e_Lat_indexOfChar_7, if_pos (by rw [iI_lt (by omega) (by omega) (by omega) (by omega)]; omega), show isK O2 M 49 3 = true from str_b3 M s48, bb_tt, show (oS O2 M 49).2 = 12 from (str_n M s48).trans n12, inb_ok (by omega) (by omega) (by omega), gb_T, ix_nat (by omega), t1', iI_add, fndI]
      by_cases q : sch 48 k = v
      · rw [if_pos (by rw [q]), if_pos q]
      · rw [if_neg (by rw [iI_eq (by omega) (by omega) (by omega) (by omega)]; omega), if_neg q]
        exact ih (k + 1) u1 u2 (by omega)
  have ic : c2 (d + 3) m_Lat_indexOfChar [.ref 49, .int (iI v), .int (iI 0), .int (iI 12)] M = some (.int (iI (fndI v 12 0)), M) := by
    show X2 (d + 2) m_Lat_indexOfChar 0 [.ref 49, .int (iI v), .int (iI 0), .int (iI 12), uns, uns] [] M = _
    rw [e_Lat_indexOfChar_0, c1']
    exact go 12 0 _ _ (by omega)
  have ce : c2 (d + 3) m_Lat_canEncode [.int (iI v)] M = some (.int (iI 1), M) := by
    show X2 (d + 2) m_Lat_canEncode 0 [.int (iI v)] [] M = _
    rw [e_Lat_canEncode_0, if_neg (by rw [iI_lt0 (by omega) (by omega)]; omega), if_neg (by rw [iI_lt (by omega) (by omega) (by omega) (by omega)]; omega)]
  have li : c2 (d + 4) m_Lat_indexOf [.ref 49, .int (iI v), .int (iI 0), .int (iI 12)] M = some (.int (iI (fndI v 12 0)), M) := by
    show X2 (d + 3) m_Lat_indexOf 0 [.ref 49, .int (iI v), .int (iI 0), .int (iI 12)] [] M = _
    rw [e_Lat_indexOf_0, ce, bI_some, if_neg (show ¬ (iI 1 = 0) by decide), c_Mat_max _ _ _ (by omega) (by omega) (by omega) (by omega), bI_some, if_neg (by omega), show isK O2 M 49 1 = false from str_b1 M s48, bb_f, show isK O2 M 49 3 = true from str_b3 M s48, show ∀ (b1 b2 b3 b4 b5 b6 b7 : Bool), (true || b1 || b2 || b3 || b4 || b5 || b6 || b7) = true by decide, gb_T, show (oS O2 M 49).2 = 12 from (str_n M s48).trans n12]
    have mn : c2 (d + 3) m_Mat_min [.int (iI 12), .int (iI ((12 : Nat) : Int))] M = some (.int (iI 12), M) := c_Mat_min (d + 2) 12 12 (by decide) (by decide) (by decide) (by decide) M
    rw [mn, bI_some, if_pos (show iI 0 < iI 12 by decide), ic, bI_some]
  have il : c2 (d + 4) m_Str_isLatin1 [.ref 48] M = some (.int (iI 1), M) := by
    show X2 (d + 3) m_Str_isLatin1 0 [.ref 48] [] M = _
    rw [e_Str_isLatin1_0, str_k M s48, gb_T]
  have ln := c_Str_length (d + 2) s48 M
  rw [n12] at ln
  have i2 : c2 (d + 5) m_Str_indexOf2 [.ref 48, .int (iI v), .int (iI 0)] M = some (.int (iI (fndI v 12 0)), M) := by
    show X2 (d + 4) m_Str_indexOf2 0 [.ref 48, .int (iI v), .int (iI 0)] [] M = _
    rw [e_Str_indexOf2_0, str_k M s48, tt_and, gb_T, il, bI_some, if_neg (show ¬ (iI 1 = 0) by decide), str_k M s48, tt_and, gb_T, gb_T, ln, bI_some]
    show bI (c2 (d + 4) m_Lat_indexOf [.ref 49, .int (iI v), .int (iI 0), .int (iI 12)] M) _ = _
    rw [li, bI_some]
  show X2 (d + 5) m_Str_indexOf 0 [.ref 48, .int (iI v)] [] M = _
  rw [e_Str_indexOf_0, str_k M s48, tt_and, gb_T, i2, bI_some]
