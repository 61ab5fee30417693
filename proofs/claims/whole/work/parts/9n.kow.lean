/-! THE TEXT: the class's kind of a word. -/
theorem scl_10 : scl 10 = [111, 114] := by decide +kernel
theorem scl_12 : scl 12 = [105, 110] := by decide +kernel
theorem scl_14 : scl 14 = [97, 110, 100] := by decide +kernel
theorem scl_16 : scl 16 = [110, 111, 116] := by decide +kernel
theorem scl_18 : scl 18 = [114, 111, 119] := by decide +kernel
theorem scl_20 : scl 20 = [97, 108, 108] := by decide +kernel
theorem scl_22 : scl 22 = [99, 101, 108, 108] := by decide +kernel
theorem scl_24 : scl 24 = [102, 97, 99, 101] := by decide +kernel
theorem scl_26 : scl 26 = [103, 111, 101, 115] := by decide +kernel
theorem scl_28 : scl 28 = [107, 105, 110, 100] := by decide +kernel
theorem scl_30 : scl 30 = [110, 101, 97, 114] := by decide +kernel
theorem scl_32 : scl 32 = [111, 112, 101, 110] := by decide +kernel
theorem scl_34 : scl 34 = [119, 97, 108, 108] := by decide +kernel
theorem scl_36 : scl 36 = [108, 105, 103, 104, 116] := by decide +kernel
theorem scl_38 : scl 38 = [116, 117, 114, 110, 115] := by decide +kernel
theorem scl_40 : scl 40 = [116, 101, 110, 97, 110, 116] := by decide +kernel
theorem scl_42 : scl 42 = [116, 117, 114, 110, 101, 100] := by decide +kernel
theorem scl_44 : scl 44 = [116, 101, 109, 112, 101, 114] := by decide +kernel
theorem scl_46 : scl 46 = [112, 97, 116, 105, 101, 110, 99, 101] := by decide +kernel
theorem c_Tok_kindOfFour (d : Nat) {M : Mem} {T : Nat → Nat} {n s : Nat} (hT : TpC M T n) (h2 : gI M 102 2 = iI s) (he : s + 4 ≤ n) : c2 (d + 6) m_Tok_kindOfFour [.ref 102] M = some (.int (iI (kcls (wdc T s (s + 4) wds 0))), M) := by
  have hT0 := hT
  obtain ⟨t0, t1, t2, t3⟩ := hT
  have tb := t3 s (by omega)
  have nT : ∀ c : Nat, c < 128 → (iI (sg8 (T s)) = iI (c : Int)) = (T s = c) := fun c hc => sg8_eq tb.2 hc
  have k99 : (iI (sg8 (T s)) = iI 99) = (T s = 99) := nT 99 (by decide)
  have k100 : (iI (sg8 (T s)) = iI 100) = (T s = 100) := nT 100 (by decide)
  have k101 : (iI (sg8 (T s)) = iI 101) = (T s = 101) := nT 101 (by decide)
  have k102 : (iI (sg8 (T s)) = iI 102) = (T s = 102) := nT 102 (by decide)
  have k103 : (iI (sg8 (T s)) = iI 103) = (T s = 103) := nT 103 (by decide)
  have k104 : (iI (sg8 (T s)) = iI 104) = (T s = 104) := nT 104 (by decide)
  have k105 : (iI (sg8 (T s)) = iI 105) = (T s = 105) := nT 105 (by decide)
  have k106 : (iI (sg8 (T s)) = iI 106) = (T s = 106) := nT 106 (by decide)
  have k107 : (iI (sg8 (T s)) = iI 107) = (T s = 107) := nT 107 (by decide)
  have k108 : (iI (sg8 (T s)) = iI 108) = (T s = 108) := nT 108 (by decide)
  have k109 : (iI (sg8 (T s)) = iI 109) = (T s = 109) := nT 109 (by decide)
  have k110 : (iI (sg8 (T s)) = iI 110) = (T s = 110) := nT 110 (by decide)
  have k111 : (iI (sg8 (T s)) = iI 111) = (T s = 111) := nT 111 (by decide)
  have k112 : (iI (sg8 (T s)) = iI 112) = (T s = 112) := nT 112 (by decide)
  have k113 : (iI (sg8 (T s)) = iI 113) = (T s = 113) := nT 113 (by decide)
  have k114 : (iI (sg8 (T s)) = iI 114) = (T s = 114) := nT 114 (by decide)
  have k115 : (iI (sg8 (T s)) = iI 115) = (T s = 115) := nT 115 (by decide)
  have k116 : (iI (sg8 (T s)) = iI 116) = (T s = 116) := nT 116 (by decide)
  have k117 : (iI (sg8 (T s)) = iI 117) = (T s = 117) := nT 117 (by decide)
  have k118 : (iI (sg8 (T s)) = iI 118) = (T s = 118) := nT 118 (by decide)
  have k119 : (iI (sg8 (T s)) = iI 119) = (T s = 119) := nT 119 (by decide)
  have w34 : c2 (d + 5) m_Tok_isWord [.ref 102, .ref 34] M = some (.int (iI (b2i (pfx T s [119, 97, 108, 108]))), M) := by
    rw [← scl_34]; exact c_Tok_isWord d hT0 h2 (by decide) (by rw [show sln 34 = 4 by decide +kernel]; exact he)
  have w24 : c2 (d + 5) m_Tok_isWord [.ref 102, .ref 24] M = some (.int (iI (b2i (pfx T s [102, 97, 99, 101]))), M) := by
    rw [← scl_24]; exact c_Tok_isWord d hT0 h2 (by decide) (by rw [show sln 24 = 4 by decide +kernel]; exact he)
  have w32 : c2 (d + 5) m_Tok_isWord [.ref 102, .ref 32] M = some (.int (iI (b2i (pfx T s [111, 112, 101, 110]))), M) := by
    rw [← scl_32]; exact c_Tok_isWord d hT0 h2 (by decide) (by rw [show sln 32 = 4 by decide +kernel]; exact he)
  have w26 : c2 (d + 5) m_Tok_isWord [.ref 102, .ref 26] M = some (.int (iI (b2i (pfx T s [103, 111, 101, 115]))), M) := by
    rw [← scl_26]; exact c_Tok_isWord d hT0 h2 (by decide) (by rw [show sln 26 = 4 by decide +kernel]; exact he)
  have w22 : c2 (d + 5) m_Tok_isWord [.ref 102, .ref 22] M = some (.int (iI (b2i (pfx T s [99, 101, 108, 108]))), M) := by
    rw [← scl_22]; exact c_Tok_isWord d hT0 h2 (by decide) (by rw [show sln 22 = 4 by decide +kernel]; exact he)
  have w28 : c2 (d + 5) m_Tok_isWord [.ref 102, .ref 28] M = some (.int (iI (b2i (pfx T s [107, 105, 110, 100]))), M) := by
    rw [← scl_28]; exact c_Tok_isWord d hT0 h2 (by decide) (by rw [show sln 28 = 4 by decide +kernel]; exact he)
  have w30 : c2 (d + 5) m_Tok_isWord [.ref 102, .ref 30] M = some (.int (iI (b2i (pfx T s [110, 101, 97, 114]))), M) := by
    rw [← scl_30]; exact c_Tok_isWord d hT0 h2 (by decide) (by rw [show sln 30 = 4 by decide +kernel]; exact he)
  show X2 (d + 5) m_Tok_kindOfFour 0 [.ref 102] [] M = _
  rw [e_Tok_kindOfFour_0, t0, tx_f, bb_f, h2, tx_at M (by omega), gb_T, ix_nat (by omega), tb.1, w22, bI_some, w24, bI_some, w26, bI_some, w28, bI_some, w30, bI_some, w32, bI_some, w34, bI_some, wd_4]
  simp only [k99, k100, k101, k102, k103, k104, k105, k106, k107, k108, k109, k110, k111, k112, k113, k114, k115, k116, k117, k118, k119]
  by_cases q99 : T s = 99
  · rw [if_pos q99, pfx_h (cs := [97, 108, 108]) (show T s ≠ 119 by omega), pfx_h (cs := [97, 99, 101]) (show T s ≠ 102 by omega), pfx_h (cs := [112, 101, 110]) (show T s ≠ 111 by omega), pfx_h (cs := [111, 101, 115]) (show T s ≠ 103 by omega), pfx_h (cs := [105, 110, 100]) (show T s ≠ 107 by omega), pfx_h (cs := [101, 97, 114]) (show T s ≠ 110 by omega)]
    cases pfx T s [99, 101, 108, 108] <;> rfl
  rw [if_neg q99]
  by_cases q100 : T s = 100
  · rw [if_pos q100, pfx_h (cs := [97, 108, 108]) (show T s ≠ 119 by omega), pfx_h (cs := [97, 99, 101]) (show T s ≠ 102 by omega), pfx_h (cs := [112, 101, 110]) (show T s ≠ 111 by omega), pfx_h (cs := [111, 101, 115]) (show T s ≠ 103 by omega), pfx_h (cs := [101, 108, 108]) (show T s ≠ 99 by omega), pfx_h (cs := [105, 110, 100]) (show T s ≠ 107 by omega), pfx_h (cs := [101, 97, 114]) (show T s ≠ 110 by omega)]
    rfl
  rw [if_neg q100]
  by_cases q101 : T s = 101
  · rw [if_pos q101, pfx_h (cs := [97, 108, 108]) (show T s ≠ 119 by omega), pfx_h (cs := [97, 99, 101]) (show T s ≠ 102 by omega), pfx_h (cs := [112, 101, 110]) (show T s ≠ 111 by omega), pfx_h (cs := [111, 101, 115]) (show T s ≠ 103 by omega), pfx_h (cs := [101, 108, 108]) (show T s ≠ 99 by omega), pfx_h (cs := [105, 110, 100]) (show T s ≠ 107 by omega), pfx_h (cs := [101, 97, 114]) (show T s ≠ 110 by omega)]
    rfl
  rw [if_neg q101]
  by_cases q102 : T s = 102
  · rw [if_pos q102, pfx_h (cs := [97, 108, 108]) (show T s ≠ 119 by omega), pfx_h (cs := [112, 101, 110]) (show T s ≠ 111 by omega), pfx_h (cs := [111, 101, 115]) (show T s ≠ 103 by omega), pfx_h (cs := [101, 108, 108]) (show T s ≠ 99 by omega), pfx_h (cs := [105, 110, 100]) (show T s ≠ 107 by omega), pfx_h (cs := [101, 97, 114]) (show T s ≠ 110 by omega)]
    cases pfx T s [102, 97, 99, 101] <;> rfl
  rw [if_neg q102]
  by_cases q103 : T s = 103
  · rw [if_pos q103, pfx_h (cs := [97, 108, 108]) (show T s ≠ 119 by omega), pfx_h (cs := [97, 99, 101]) (show T s ≠ 102 by omega), pfx_h (cs := [112, 101, 110]) (show T s ≠ 111 by omega), pfx_h (cs := [101, 108, 108]) (show T s ≠ 99 by omega), pfx_h (cs := [105, 110, 100]) (show T s ≠ 107 by omega), pfx_h (cs := [101, 97, 114]) (show T s ≠ 110 by omega)]
    cases pfx T s [103, 111, 101, 115] <;> rfl
  rw [if_neg q103]
  by_cases q104 : T s = 104
  · rw [if_pos q104, pfx_h (cs := [97, 108, 108]) (show T s ≠ 119 by omega), pfx_h (cs := [97, 99, 101]) (show T s ≠ 102 by omega), pfx_h (cs := [112, 101, 110]) (show T s ≠ 111 by omega), pfx_h (cs := [111, 101, 115]) (show T s ≠ 103 by omega), pfx_h (cs := [101, 108, 108]) (show T s ≠ 99 by omega), pfx_h (cs := [105, 110, 100]) (show T s ≠ 107 by omega), pfx_h (cs := [101, 97, 114]) (show T s ≠ 110 by omega)]
    rfl
  rw [if_neg q104]
  by_cases q105 : T s = 105
  · rw [if_pos q105, pfx_h (cs := [97, 108, 108]) (show T s ≠ 119 by omega), pfx_h (cs := [97, 99, 101]) (show T s ≠ 102 by omega), pfx_h (cs := [112, 101, 110]) (show T s ≠ 111 by omega), pfx_h (cs := [111, 101, 115]) (show T s ≠ 103 by omega), pfx_h (cs := [101, 108, 108]) (show T s ≠ 99 by omega), pfx_h (cs := [105, 110, 100]) (show T s ≠ 107 by omega), pfx_h (cs := [101, 97, 114]) (show T s ≠ 110 by omega)]
    rfl
  rw [if_neg q105]
  by_cases q106 : T s = 106
  · rw [if_pos q106, pfx_h (cs := [97, 108, 108]) (show T s ≠ 119 by omega), pfx_h (cs := [97, 99, 101]) (show T s ≠ 102 by omega), pfx_h (cs := [112, 101, 110]) (show T s ≠ 111 by omega), pfx_h (cs := [111, 101, 115]) (show T s ≠ 103 by omega), pfx_h (cs := [101, 108, 108]) (show T s ≠ 99 by omega), pfx_h (cs := [105, 110, 100]) (show T s ≠ 107 by omega), pfx_h (cs := [101, 97, 114]) (show T s ≠ 110 by omega)]
    rfl
  rw [if_neg q106]
  by_cases q107 : T s = 107
  · rw [if_pos q107, pfx_h (cs := [97, 108, 108]) (show T s ≠ 119 by omega), pfx_h (cs := [97, 99, 101]) (show T s ≠ 102 by omega), pfx_h (cs := [112, 101, 110]) (show T s ≠ 111 by omega), pfx_h (cs := [111, 101, 115]) (show T s ≠ 103 by omega), pfx_h (cs := [101, 108, 108]) (show T s ≠ 99 by omega), pfx_h (cs := [101, 97, 114]) (show T s ≠ 110 by omega)]
    cases pfx T s [107, 105, 110, 100] <;> rfl
  rw [if_neg q107]
  by_cases q108 : T s = 108
  · rw [if_pos q108, pfx_h (cs := [97, 108, 108]) (show T s ≠ 119 by omega), pfx_h (cs := [97, 99, 101]) (show T s ≠ 102 by omega), pfx_h (cs := [112, 101, 110]) (show T s ≠ 111 by omega), pfx_h (cs := [111, 101, 115]) (show T s ≠ 103 by omega), pfx_h (cs := [101, 108, 108]) (show T s ≠ 99 by omega), pfx_h (cs := [105, 110, 100]) (show T s ≠ 107 by omega), pfx_h (cs := [101, 97, 114]) (show T s ≠ 110 by omega)]
    rfl
  rw [if_neg q108]
  by_cases q109 : T s = 109
  · rw [if_pos q109, pfx_h (cs := [97, 108, 108]) (show T s ≠ 119 by omega), pfx_h (cs := [97, 99, 101]) (show T s ≠ 102 by omega), pfx_h (cs := [112, 101, 110]) (show T s ≠ 111 by omega), pfx_h (cs := [111, 101, 115]) (show T s ≠ 103 by omega), pfx_h (cs := [101, 108, 108]) (show T s ≠ 99 by omega), pfx_h (cs := [105, 110, 100]) (show T s ≠ 107 by omega), pfx_h (cs := [101, 97, 114]) (show T s ≠ 110 by omega)]
    rfl
  rw [if_neg q109]
  by_cases q110 : T s = 110
  · rw [if_pos q110, pfx_h (cs := [97, 108, 108]) (show T s ≠ 119 by omega), pfx_h (cs := [97, 99, 101]) (show T s ≠ 102 by omega), pfx_h (cs := [112, 101, 110]) (show T s ≠ 111 by omega), pfx_h (cs := [111, 101, 115]) (show T s ≠ 103 by omega), pfx_h (cs := [101, 108, 108]) (show T s ≠ 99 by omega), pfx_h (cs := [105, 110, 100]) (show T s ≠ 107 by omega)]
    cases pfx T s [110, 101, 97, 114] <;> rfl
  rw [if_neg q110]
  by_cases q111 : T s = 111
  · rw [if_pos q111, pfx_h (cs := [97, 108, 108]) (show T s ≠ 119 by omega), pfx_h (cs := [97, 99, 101]) (show T s ≠ 102 by omega), pfx_h (cs := [111, 101, 115]) (show T s ≠ 103 by omega), pfx_h (cs := [101, 108, 108]) (show T s ≠ 99 by omega), pfx_h (cs := [105, 110, 100]) (show T s ≠ 107 by omega), pfx_h (cs := [101, 97, 114]) (show T s ≠ 110 by omega)]
    cases pfx T s [111, 112, 101, 110] <;> rfl
  rw [if_neg q111]
  by_cases q112 : T s = 112
  · rw [if_pos q112, pfx_h (cs := [97, 108, 108]) (show T s ≠ 119 by omega), pfx_h (cs := [97, 99, 101]) (show T s ≠ 102 by omega), pfx_h (cs := [112, 101, 110]) (show T s ≠ 111 by omega), pfx_h (cs := [111, 101, 115]) (show T s ≠ 103 by omega), pfx_h (cs := [101, 108, 108]) (show T s ≠ 99 by omega), pfx_h (cs := [105, 110, 100]) (show T s ≠ 107 by omega), pfx_h (cs := [101, 97, 114]) (show T s ≠ 110 by omega)]
    rfl
  rw [if_neg q112]
  by_cases q113 : T s = 113
  · rw [if_pos q113, pfx_h (cs := [97, 108, 108]) (show T s ≠ 119 by omega), pfx_h (cs := [97, 99, 101]) (show T s ≠ 102 by omega), pfx_h (cs := [112, 101, 110]) (show T s ≠ 111 by omega), pfx_h (cs := [111, 101, 115]) (show T s ≠ 103 by omega), pfx_h (cs := [101, 108, 108]) (show T s ≠ 99 by omega), pfx_h (cs := [105, 110, 100]) (show T s ≠ 107 by omega), pfx_h (cs := [101, 97, 114]) (show T s ≠ 110 by omega)]
    rfl
  rw [if_neg q113]
  by_cases q114 : T s = 114
  · rw [if_pos q114, pfx_h (cs := [97, 108, 108]) (show T s ≠ 119 by omega), pfx_h (cs := [97, 99, 101]) (show T s ≠ 102 by omega), pfx_h (cs := [112, 101, 110]) (show T s ≠ 111 by omega), pfx_h (cs := [111, 101, 115]) (show T s ≠ 103 by omega), pfx_h (cs := [101, 108, 108]) (show T s ≠ 99 by omega), pfx_h (cs := [105, 110, 100]) (show T s ≠ 107 by omega), pfx_h (cs := [101, 97, 114]) (show T s ≠ 110 by omega)]
    rfl
  rw [if_neg q114]
  by_cases q115 : T s = 115
  · rw [if_pos q115, pfx_h (cs := [97, 108, 108]) (show T s ≠ 119 by omega), pfx_h (cs := [97, 99, 101]) (show T s ≠ 102 by omega), pfx_h (cs := [112, 101, 110]) (show T s ≠ 111 by omega), pfx_h (cs := [111, 101, 115]) (show T s ≠ 103 by omega), pfx_h (cs := [101, 108, 108]) (show T s ≠ 99 by omega), pfx_h (cs := [105, 110, 100]) (show T s ≠ 107 by omega), pfx_h (cs := [101, 97, 114]) (show T s ≠ 110 by omega)]
    rfl
  rw [if_neg q115]
  by_cases q116 : T s = 116
  · rw [if_pos q116, pfx_h (cs := [97, 108, 108]) (show T s ≠ 119 by omega), pfx_h (cs := [97, 99, 101]) (show T s ≠ 102 by omega), pfx_h (cs := [112, 101, 110]) (show T s ≠ 111 by omega), pfx_h (cs := [111, 101, 115]) (show T s ≠ 103 by omega), pfx_h (cs := [101, 108, 108]) (show T s ≠ 99 by omega), pfx_h (cs := [105, 110, 100]) (show T s ≠ 107 by omega), pfx_h (cs := [101, 97, 114]) (show T s ≠ 110 by omega)]
    rfl
  rw [if_neg q116]
  by_cases q117 : T s = 117
  · rw [if_pos q117, pfx_h (cs := [97, 108, 108]) (show T s ≠ 119 by omega), pfx_h (cs := [97, 99, 101]) (show T s ≠ 102 by omega), pfx_h (cs := [112, 101, 110]) (show T s ≠ 111 by omega), pfx_h (cs := [111, 101, 115]) (show T s ≠ 103 by omega), pfx_h (cs := [101, 108, 108]) (show T s ≠ 99 by omega), pfx_h (cs := [105, 110, 100]) (show T s ≠ 107 by omega), pfx_h (cs := [101, 97, 114]) (show T s ≠ 110 by omega)]
    rfl
  rw [if_neg q117]
  by_cases q118 : T s = 118
  · rw [if_pos q118, pfx_h (cs := [97, 108, 108]) (show T s ≠ 119 by omega), pfx_h (cs := [97, 99, 101]) (show T s ≠ 102 by omega), pfx_h (cs := [112, 101, 110]) (show T s ≠ 111 by omega), pfx_h (cs := [111, 101, 115]) (show T s ≠ 103 by omega), pfx_h (cs := [101, 108, 108]) (show T s ≠ 99 by omega), pfx_h (cs := [105, 110, 100]) (show T s ≠ 107 by omega), pfx_h (cs := [101, 97, 114]) (show T s ≠ 110 by omega)]
    rfl
  rw [if_neg q118]
  by_cases q119 : T s = 119
  · rw [if_pos q119, pfx_h (cs := [97, 99, 101]) (show T s ≠ 102 by omega), pfx_h (cs := [112, 101, 110]) (show T s ≠ 111 by omega), pfx_h (cs := [111, 101, 115]) (show T s ≠ 103 by omega), pfx_h (cs := [101, 108, 108]) (show T s ≠ 99 by omega), pfx_h (cs := [105, 110, 100]) (show T s ≠ 107 by omega), pfx_h (cs := [101, 97, 114]) (show T s ≠ 110 by omega)]
    cases pfx T s [119, 97, 108, 108] <;> rfl
  rw [if_neg q119]
  rw [pfx_h (cs := [97, 108, 108]) (show T s ≠ 119 by omega), pfx_h (cs := [97, 99, 101]) (show T s ≠ 102 by omega), pfx_h (cs := [112, 101, 110]) (show T s ≠ 111 by omega), pfx_h (cs := [111, 101, 115]) (show T s ≠ 103 by omega), pfx_h (cs := [101, 108, 108]) (show T s ≠ 99 by omega), pfx_h (cs := [105, 110, 100]) (show T s ≠ 107 by omega), pfx_h (cs := [101, 97, 114]) (show T s ≠ 110 by omega)]
  rfl
