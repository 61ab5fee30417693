/-! THE CLASS: the place behind a night. -/
theorem tIx_inj {tm who bl c tm' who' bl' c' : Nat} (hw : who < 5) (hw' : who' < 5) (hb : bl < 2) (hb' : bl' < 2) (hc : c < 9) (hc' : c' < 9) (h : tIx tm' who' bl' c' = tIx tm who bl c) : tm' = tm ∧ who' = who ∧ bl' = bl ∧ c' = c := by
  unfold tIx at h; omega
theorem TurnC_learn {M M1 : Mem} {r : Nat} {z : Row} {tm who bl c nr tu n : Nat} (h : TurnC M z) (hz : OkZ z) (hr : r ∈ rooms) (hE : Eqx [130, r + 6] M M1) (hwho : who < 5) (hbl : bl < 2) (hc : c < nz z) (hnr : nr ≤ 9) (htu : tu ≤ 1)
    (hn : gL M 128 (tIx tm who bl c) = lI n) (hnb : n < 2 ^ 52) (hk : ∀ nr tu, nr ≤ 9 → tu ≤ 1 → n.testBit (nr * 2 + tu + 32) = (n.testBit (nr * 2 + tu) && turnV z tm c nr tu who bl)) (hkn : n.testBit (nr * 2 + tu) = false) :
    TurnC (wL M1 128 (tIx tm who bl c) (lI (lrn n (nr * 2 + tu) (turnV z tm c nr tu who bl)))) z := by
  have hm := hk nr tu hnr htu
  rw [hkn, Bool.false_and] at hm
  have h9 := nz_le hz
  have hrl := rm_lt r hr
  intro tm' who' bl' c' h1 h2 h3 h4
  by_cases hs : tIx tm' who' bl' c' = tIx tm who bl c
  · obtain ⟨q1, q2, q3, q4⟩ := tIx_inj hwho h2 hbl h3 (by omega) (by omega) hs
    subst q1; subst q2; subst q3; subst q4
    refine ⟨_, gL_eq _ _ _ _, lrn_lt hnb (by omega), ?_⟩
    intro nr' tu' ha' hf'
    by_cases hq2 : nr' * 2 + tu' = nr * 2 + tu
    · have ha2 : nr' = nr := by omega
      have hf2 : tu' = tu := by omega
      subst ha2; subst hf2
      rw [lrn_held hm, lrn_known, Bool.true_and]
    · rw [lrn_other (by omega) (by omega), lrn_other hq2 (by omega)]
      exact hk nr' tu' ha' hf'
  · obtain ⟨n', hn', hb', hk'⟩ := h tm' who' bl' c' h1 h2 h3 h4
    refine ⟨n', ?_, hb', hk'⟩
    rw [show ((tm' * 5 + who') * 2 + bl') * 9 + c' = tIx tm' who' bl' c' from rfl, gL_nk hs, eqx_L hE (by simp; omega)]
    exact hn'
theorem GoC.fr {M M' : Mem} {z : Row} (h : GoC M z) (hf : M'.2.1 129 = M.2.1 129) : GoC M' z := by
  intro t bl ht hb
  obtain ⟨n, hn, h2⟩ := h t bl ht hb
  refine ⟨n, ?_, h2⟩
  unfold gL at *
  rw [hf]; exact hn
theorem TurnC.fr {M M' : Mem} {z : Row} (h : TurnC M z) (hf : M'.2.1 128 = M.2.1 128) : TurnC M' z := by
  intro tm who bl c h1 h2 h3 h4
  obtain ⟨n, hn, h5⟩ := h tm who bl c h1 h2 h3 h4
  refine ⟨n, ?_, h5⟩
  unfold gL at *
  rw [hf]; exact hn
theorem e_pass71 (d : Nat) {r : Nat} (hr : r ∈ rooms) (v1 : Value) (x2 : Int32) (v3 : Value) (x4 x5 x6 x7 x8 : Int32) (v9 v10 v11 : Value) (M : Mem) (h0 : gR M 127 0 = r) :
    X2 d m_Stp_pass 71 [.ref 127, v1, .int x2, v3, .int x4, .int x5, .int x6, .int x7, .int x8, v9, v10, v11] [] M = if x8 < iI 9 then (if x8 < gI M r 2 then (gb (inb x8 9) (bI (c2 d m_Int_bitCount [.int (x4 &&& (gI M (r + 2) (ix x8)))] M) fun r2 M1 => gb (inb (x6 + x8) 900) (if lg_cmp (((gL M1 128 (ix (x6 + x8))) >>> (((r2 * (iI 2)) + ((x4 >>> (x8 &&& 31)) &&& (iI 1))).toInt64 &&& 63)) &&& (lI 1)) (lI 0) = 0 then bL (c2 d m_Stp_learnTurning [.ref 127, .int (x6 + x8), .int ((r2 * (iI 2)) + ((x4 >>> (x8 &&& 31)) &&& (iI 1)))] M1) fun r4 M3 => if lg_cmp ((r4 >>> ((((r2 * (iI 2)) + ((x4 >>> (x8 &&& 31)) &&& (iI 1))) + (iI 32)).toInt64 &&& 63)) &&& (lI 1)) (lI 0) = 0 then X2 d m_Stp_pass 71 [.ref 127, v1, .int x2, v3, .int x4, .int x5, .int x6, .int x7, .int (x8 + iI 1), .int ((r2 * (iI 2)) + ((x4 >>> (x8 &&& 31)) &&& (iI 1))), .long r4, mk2] [] M3 else X2 d m_Stp_pass 71 [.ref 127, v1, .int x2, v3, .int x4, .int x5, .int x6, .int (x7 ||| ((iI 1) <<< (x8 &&& 31))), .int (x8 + iI 1), .int ((r2 * (iI 2)) + ((x4 >>> (x8 &&& 31)) &&& (iI 1))), .long r4, mk2] [] M3 else if lg_cmp (((gL M1 128 (ix (x6 + x8))) >>> ((((r2 * (iI 2)) + ((x4 >>> (x8 &&& 31)) &&& (iI 1))) + (iI 32)).toInt64 &&& 63)) &&& (lI 1)) (lI 0) = 0 then X2 d m_Stp_pass 71 [.ref 127, v1, .int x2, v3, .int x4, .int x5, .int x6, .int x7, .int (x8 + iI 1), .int ((r2 * (iI 2)) + ((x4 >>> (x8 &&& 31)) &&& (iI 1))), .long (gL M1 128 (ix (x6 + x8))), mk2] [] M1 else X2 d m_Stp_pass 71 [.ref 127, v1, .int x2, v3, .int x4, .int x5, .int x6, .int (x7 ||| ((iI 1) <<< (x8 &&& 31))), .int (x8 + iI 1), .int ((r2 * (iI 2)) + ((x4 >>> (x8 &&& 31)) &&& (iI 1))), .long (gL M1 128 (ix (x6 + x8))), mk2] [] M1))) else X2 d m_Stp_pass 185 [.ref 127, v1, .int x2, v3, .int x4, .int x5, .int x6, .int x7, .int x8, v9, v10, v11] [] M) else X2 d m_Stp_pass 185 [.ref 127, v1, .int x2, v3, .int x4, .int x5, .int x6, .int x7, .int x8, v9, v10, v11] [] M := by
  rw [e_Stp_pass_71, h0]
  simp only [rm_k _ r hr, rm_11 _ r hr, rm_a2 _ r hr, rm_t2 _ _ r hr, bb_f, gb_T]
theorem or_shl9 {a k : Nat} (h : a < 512) : a ||| k <<< 9 = a + 512 * k := by
  rw [Nat.or_comm, ← Nat.shiftLeft_add_eq_or_of_lt (show a < 2 ^ 9 from h), Nat.shiftLeft_eq]; omega
theorem iI_or9 {a k : Nat} (h : a < 512) : iI a ||| (iI k <<< (iI 9 &&& 31)) = iI ((a + 512 * k : Nat) : Int) := by
  rw [show iI 9 = iI ((9 : Nat) : Int) from rfl, iI_shl _ (by decide), iI_or, or_shl9 h]
