/-! THE TEXT: the class's kind of a word, all lengths. -/
theorem pfx_h2 {T : Nat → Nat} {s c c' : Nat} {cs : List Nat} (h : T (s + 1) ≠ c') : pfx T s (c :: c' :: cs) = false := by
  rw [pfx, pfx, decide_eq_false h, Bool.false_and, Bool.and_false]
theorem c_Tok_kindOfWord (d : Nat) {M : Mem} {T : Nat → Nat} {n s e : Nat} (hT : TpC M T n) (h2 : gI M 102 2 = iI s) (h3 : gI M 102 3 = iI e) (hse : s ≤ e) (he : e ≤ n) : c2 (d + 7) m_Tok_kindOfWord [.ref 102] M = some (.int (iI (kcls (wdc T s e wds 0))), M) := by
  have hn := hT.2.2.1
  obtain ⟨l, rfl⟩ : ∃ l, e = s + l := ⟨e - s, by omega⟩
  have hl : iI ((s + l : Nat) : Int) - iI s = iI (l : Int) := by rw [iI_sub, show ((s + l : Nat) : Int) - (s : Int) = (l : Int) by omega]
  have lq : ∀ c : Nat, c < 128 → (iI (l : Int) = iI (c : Int)) = (l = c) := fun c hc => by
    rw [iI_eq (by omega) (by omega) (by omega) (by omega)]
    apply propext; constructor <;> intro h <;> omega
  have l2 : (iI (l : Int) = iI 2) = (l = 2) := lq 2 (by decide)
  have l3 : (iI (l : Int) = iI 3) = (l = 3) := lq 3 (by decide)
  have l4 : (iI (l : Int) = iI 4) = (l = 4) := lq 4 (by decide)
  have l5 : (iI (l : Int) = iI 5) = (l = 5) := lq 5 (by decide)
  have l6 : (iI (l : Int) = iI 6) = (l = 6) := lq 6 (by decide)
  have l7 : (iI (l : Int) = iI 7) = (l = 7) := lq 7 (by decide)
  have l8 : (iI (l : Int) = iI 8) = (l = 8) := lq 8 (by decide)
  show X2 (d + 6) m_Tok_kindOfWord 0 [.ref 102] [] M = _
  rw [e_Tok_kindOfWord_0, h2, h3, hl]
  simp only [l2, l3, l4, l5, l6, l7, l8]
  by_cases q2 : l = 2
  · subst q2
    have w10 : c2 (d + 6) m_Tok_isWord [.ref 102, .ref 10] M = some (.int (iI (b2i (pfx T s [111, 114]))), M) := by
      rw [← scl_10]; exact c_Tok_isWord (d + 1) hT h2 (by decide) (by rw [show sln 10 = 2 by decide +kernel]; exact he)
    have w12 : c2 (d + 6) m_Tok_isWord [.ref 102, .ref 12] M = some (.int (iI (b2i (pfx T s [105, 110]))), M) := by
      rw [← scl_12]; exact c_Tok_isWord (d + 1) hT h2 (by decide) (by rw [show sln 12 = 2 by decide +kernel]; exact he)
    rw [if_pos rfl, w10, bI_some, w12, bI_some, wd_2]
    by_cases q : T s = 105
    · rw [pfx_h (cs := [114]) (show T s ≠ 111 by omega)]
      cases pfx T s [105, 110] <;> rfl
    · rw [pfx_h (cs := [110]) q]
      cases pfx T s [111, 114] <;> rfl
  rw [if_neg q2]
  by_cases q3 : l = 3
  · subst q3
    have w14 : c2 (d + 6) m_Tok_isWord [.ref 102, .ref 14] M = some (.int (iI (b2i (pfx T s [97, 110, 100]))), M) := by
      rw [← scl_14]; exact c_Tok_isWord (d + 1) hT h2 (by decide) (by rw [show sln 14 = 3 by decide +kernel]; exact he)
    have w16 : c2 (d + 6) m_Tok_isWord [.ref 102, .ref 16] M = some (.int (iI (b2i (pfx T s [110, 111, 116]))), M) := by
      rw [← scl_16]; exact c_Tok_isWord (d + 1) hT h2 (by decide) (by rw [show sln 16 = 3 by decide +kernel]; exact he)
    have w18 : c2 (d + 6) m_Tok_isWord [.ref 102, .ref 18] M = some (.int (iI (b2i (pfx T s [114, 111, 119]))), M) := by
      rw [← scl_18]; exact c_Tok_isWord (d + 1) hT h2 (by decide) (by rw [show sln 18 = 3 by decide +kernel]; exact he)
    have w20 : c2 (d + 6) m_Tok_isWord [.ref 102, .ref 20] M = some (.int (iI (b2i (pfx T s [97, 108, 108]))), M) := by
      rw [← scl_20]; exact c_Tok_isWord (d + 1) hT h2 (by decide) (by rw [show sln 20 = 3 by decide +kernel]; exact he)
    rw [if_pos rfl, w14, bI_some, w16, bI_some, w18, bI_some, w20, bI_some, wd_3]
    by_cases q : T s = 97
    · rw [pfx_h (cs := [111, 119]) (show T s ≠ 114 by omega), pfx_h (cs := [111, 116]) (show T s ≠ 110 by omega)]
      by_cases q' : T (s + 1) = 108
      · rw [pfx_h2 (c := 97) (cs := [100]) (show T (s + 1) ≠ 110 by omega)]
        cases pfx T s [97, 108, 108] <;> rfl
      · rw [pfx_h2 (c := 97) (cs := [108]) q']
        cases pfx T s [97, 110, 100] <;> rfl
    · rw [pfx_h (cs := [110, 100]) q, pfx_h (cs := [108, 108]) q]
      by_cases q' : T s = 114
      · rw [pfx_h (cs := [111, 116]) (show T s ≠ 110 by omega)]
        cases pfx T s [114, 111, 119] <;> rfl
      · rw [pfx_h (cs := [111, 119]) q']
        cases pfx T s [110, 111, 116] <;> rfl
  rw [if_neg q3]
  by_cases q4 : l = 4
  · subst q4
    rw [if_pos rfl, c_Tok_kindOfFour d hT h2 he, bI_some]
  rw [if_neg q4]
  by_cases q5 : l = 5
  · subst q5
    have w36 : c2 (d + 6) m_Tok_isWord [.ref 102, .ref 36] M = some (.int (iI (b2i (pfx T s [108, 105, 103, 104, 116]))), M) := by
      rw [← scl_36]; exact c_Tok_isWord (d + 1) hT h2 (by decide) (by rw [show sln 36 = 5 by decide +kernel]; exact he)
    have w38 : c2 (d + 6) m_Tok_isWord [.ref 102, .ref 38] M = some (.int (iI (b2i (pfx T s [116, 117, 114, 110, 115]))), M) := by
      rw [← scl_38]; exact c_Tok_isWord (d + 1) hT h2 (by decide) (by rw [show sln 38 = 5 by decide +kernel]; exact he)
    rw [if_pos rfl, w36, bI_some, w38, bI_some, wd_5]
    by_cases q : T s = 116
    · rw [pfx_h (cs := [105, 103, 104, 116]) (show T s ≠ 108 by omega)]
      cases pfx T s [116, 117, 114, 110, 115] <;> rfl
    · rw [pfx_h (cs := [117, 114, 110, 115]) q]
      cases pfx T s [108, 105, 103, 104, 116] <;> rfl
  rw [if_neg q5]
  by_cases q6 : l = 6
  · subst q6
    have w40 : c2 (d + 6) m_Tok_isWord [.ref 102, .ref 40] M = some (.int (iI (b2i (pfx T s [116, 101, 110, 97, 110, 116]))), M) := by
      rw [← scl_40]; exact c_Tok_isWord (d + 1) hT h2 (by decide) (by rw [show sln 40 = 6 by decide +kernel]; exact he)
    have w42 : c2 (d + 6) m_Tok_isWord [.ref 102, .ref 42] M = some (.int (iI (b2i (pfx T s [116, 117, 114, 110, 101, 100]))), M) := by
      rw [← scl_42]; exact c_Tok_isWord (d + 1) hT h2 (by decide) (by rw [show sln 42 = 6 by decide +kernel]; exact he)
    have w44 : c2 (d + 6) m_Tok_isWord [.ref 102, .ref 44] M = some (.int (iI (b2i (pfx T s [116, 101, 109, 112, 101, 114]))), M) := by
      rw [← scl_44]; exact c_Tok_isWord (d + 1) hT h2 (by decide) (by rw [show sln 44 = 6 by decide +kernel]; exact he)
    rw [if_pos rfl, w40, bI_some, w42, bI_some, w44, bI_some, wd_6]
    cases pfx T s [116, 101, 110, 97, 110, 116] <;> cases pfx T s [116, 117, 114, 110, 101, 100] <;> cases pfx T s [116, 101, 109, 112, 101, 114] <;> rfl
  rw [if_neg q6]
  by_cases q7 : l = 7
  · rw [if_pos q7, wd_o T s (by omega)]; rfl
  rw [if_neg q7]
  by_cases q8 : l = 8
  · subst q8
    have w46 : c2 (d + 6) m_Tok_isWord [.ref 102, .ref 46] M = some (.int (iI (b2i (pfx T s [112, 97, 116, 105, 101, 110, 99, 101]))), M) := by
      rw [← scl_46]; exact c_Tok_isWord (d + 1) hT h2 (by decide) (by rw [show sln 46 = 8 by decide +kernel]; exact he)
    rw [if_pos rfl, w46, bI_some, wd_8]
    cases pfx T s [112, 97, 116, 105, 101, 110, 99, 101] <;> rfl
  rw [if_neg q8, wd_o T s (by omega)]
  rfl
