/-! THE REFERENCE: what turns, who goes, the stand behind a night. -/
theorem f_b2i (b : Bool) (M : Mem) : gb (decide (iI (b2i b) &&& 1 = iI (b2i b))) (some (.int (iI (b2i b)), M)) = (some (.int (iI (b2i b)), M) : Rs Mem) := by
  rw [decide_eq_true (iI_b_and b)]; rfl
theorem c_Mo_turnsThen (d : Nat) {M : Mem} {tm c w who bl : Nat} (hz : OkZ (M.1 198)) (ht : gI M 198 27 = iI tm) (hc : c < nz (M.1 198)) (hw : w ≤ 2147483647) (hwho : who ≤ 4) :
    ∃ M', c2 (d + 3) m_Mo_turnsThen [.ref 197, .int (iI c), .int (iI w), .int (iI who), .int (iI bl)] M = some (.int (iI (b2i (turnB (M.1 198) tm c w who bl))), M') ∧ Eqx [202, 203] M M' := by
  show ∃ M', X2 (d + 2) m_Mo_turnsThen 0 [.ref 197, .int (iI c), .int (iI w), .int (iI who), .int (iI bl), uns] [] M = _ ∧ _
  have h9 := nz_le hz
  have r1 := zn_rng hz.1.1 (by decide)
  have r2 := zn_rng hz.1.2.1 (by decide)
  have n1 := near_le (nz (M.1 198)) (zn (M.1 198) 2) c w
  have hnear : c2 (d + 2) m_Mo_nearOf [.ref 197, .int (iI c), .int (iI w)] M = some (.int (iI (near (nz (M.1 198)) (zn (M.1 198) 2) c w)), M) :=
    c_Mo_nearOf d (zn_eq hz.1.1 (by decide)) (zn_eq hz.1.2.1 (by decide)) (by omega) (by omega) (by omega) hw (by omega)
  rw [e_Mo_turnsThen_0, hnear, bI_some]
  by_cases h6 : gI M 198 6 = 0
  · rw [if_pos h6]
    refine ⟨M, ?_, Eqx.rf⟩
    have e : turnB (M.1 198) tm c w who bl = decide (1 ≤ near (nz (M.1 198)) (zn (M.1 198) 2) c w ∧ near (nz (M.1 198)) (zn (M.1 198) 2) c w ≤ 3) := if_pos h6
    rw [c_Mo_within, bI_some, f_b2i, e, i2l_iI (by omega) (by omega), lI_toInt (by omega) (by omega), lI_toInt (by omega) (by omega), lI_toInt (by omega) (by omega)]
    have e2 : decide ((1 : Int) ≤ (near (nz (M.1 198)) (zn (M.1 198) 2) c w : Int) ∧ (near (nz (M.1 198)) (zn (M.1 198) 2) c w : Int) ≤ 3) = decide (1 ≤ near (nz (M.1 198)) (zn (M.1 198) 2) c w ∧ near (nz (M.1 198)) (zn (M.1 198) 2) c w ≤ 3) := decide_eq_decide.mpr (by omega)
    rw [e2]
  · rw [if_neg h6]
    have key : ∃ M', X2 (d + 2) m_Mo_turnsThen 53 [.ref 197, .int (iI c), .int (iI w), .int (iI who), .int (iI bl), .int (iI (near (nz (M.1 198)) (zn (M.1 198) 2) c w))] [.int (iI ((if who = 4 then 9 else who : Nat) : Int)), .int (iI 1), .ref 203] (wI M 203 0 (iI bl)) = some (.int (iI (b2i (turnB (M.1 198) tm c w who bl))), M') ∧ Eqx [202, 203] M M' := by
      rw [e_Mo_turnsThen_53, iI_add, inb_ok (by decide) (by decide) (by decide), gb_t, inb_ok (by omega) (by omega) (by omega), gb_t, ix_eq (z := 12 + (c : Int)) (n := 12 + c) (by omega) (by omega), ix_eq (z := 1) (n := 1) rfl (by decide), iI_bit hw (by omega)]
      have hq : ∀ X : Mem, Eqx [203] M X → (∀ j, j < 10 → alT j = true → X.1 203 j = wT (M.1 198) tm c w who bl j) → ∃ M', (bI (c2 (d + 2) m_Mo_reckons [.ref 197, .int (iI 0)] X) fun r2 M1 => gb (decide (r2 &&& 1 = r2)) (some (.int r2, M1))) = some (.int (iI (b2i (turnB (M.1 198) tm c w who bl))), M') ∧ Eqx [202, 203] M M' := by
        intro X hX hj
        have hx : X.1 198 = M.1 198 := (hX 198 (by decide)).1
        obtain ⟨M', e, hE⟩ := c_Mo_law d (M := X) (law := 0) (al := alT) (by decide) (by rw [hx]; exact hz.2.2.2.1 h6) hj
        refine ⟨M', ?_, (hX.mono (by decide)).tr (hE.mono (by decide))⟩
        have e0 : (iI 0) = iI ((0 : Nat) : Int) := rfl
        rw [e0, e, bI_some, f_b2i, hx, turnB, if_neg (show ¬ M.1 198 6 = 0 from h6)]
      refine hq _ (eqx_wI (eqx_wI (eqx_wI (eqx_wI (eqx_wI (eqx_wI (eqx_wI Eqx.rf (by decide)) (by decide)) (by decide)) (by decide)) (by decide)) (by decide)) (by decide)) ?_
      intro j _ hj
      have hj6 : j ≤ 6 := Nat.le_of_ble_eq_true hj
      rcases (show j = 0 ∨ j = 1 ∨ j = 2 ∨ j = 3 ∨ j = 4 ∨ j = 5 ∨ j = 6 by omega) with h | h | h | h | h | h | h <;> subst h
      · rfl
      · rfl
      · rfl
      · rfl
      · rfl
      · rfl
      · exact ht
    by_cases h4 : who = 4
    · rw [if_pos (by rw [h4]; rfl)]
      rw [if_pos h4] at key
      exact key
    · rw [if_neg (by rw [show iI 4 = iI ((4 : Nat) : Int) from rfl, iI_eq (by omega) (by omega) (by omega) (by omega)]; omega)]
      rw [if_neg h4] at key
      exact key
theorem bits_le (w : Nat) : bits w ≤ 10 := cnt_le _ _
theorem c_Mo_goesBy (d : Nat) {M : Mem} {t w bl : Nat} (hz : OkZ (M.1 198)) (ht : t < zn (M.1 198) 3) (hw : w ≤ 2147483647) :
    ∃ M', c2 (d + 3) m_Mo_goesBy [.ref 197, .int (iI t), .int (iI w), .int (iI bl)] M = some (.int (iI (b2i (goB (M.1 198) t w bl))), M') ∧ Eqx [202, 203] M M' := by
  show ∃ M', X2 (d + 2) m_Mo_goesBy 0 [.ref 197, .int (iI t), .int (iI w), .int (iI bl)] [] M = _ ∧ _
  have r3 := zn_rng hz.1.2.2.1 (by decide)
  have r4 := zn_rng hz.1.2.2.2.1 (by decide)
  have r21 := zn_rng (hz.2.2.1 t ht) (by decide)
  have e21 : gI M 198 (21 + t) = iI (zn (M.1 198) (21 + t)) := zn_eq (hz.2.2.1 t ht) (by decide)
  have e4 : gI M 198 4 = iI (zn (M.1 198) 4) := zn_eq hz.1.2.2.2.1 (by decide)
  have b0 := bits_le w
  rw [e_Mo_goesBy_0]
  by_cases h7 : gI M 198 7 = 0
  · rw [if_pos h7]
    refine ⟨M, ?_, Eqx.rf⟩
    have e : goB (M.1 198) t w bl = decide (zn (M.1 198) (21 + t) < bits w) := if_pos h7
    rw [c_Mo_bitsOf _ _ hw, bI_some, iI_add, inb_ok (by omega) (by omega) (by omega), gb_t, ix_eq (n := 21 + t) (by omega) (by omega), e21, e]
    simp (disch := omega) only [iI_add, iI_sub, iI_mul, iI_lt, iI_eq, iI_lt0, iI_0lt, iI_eq0, ix_iI, inb_ok, gb_t, Int.toNat_natCast]
    split
    · rw [decide_eq_true (by omega)]; rfl
    · rw [decide_eq_false (by omega)]; rfl
  · rw [if_neg h7]
    have hq : ∀ X : Mem, Eqx [203] M X → (∀ j, j < 10 → alG j = true → X.1 203 j = wG (M.1 198) t w bl j) → ∃ M', (bI (c2 (d + 2) m_Mo_reckons [.ref 197, .int (iI 1)] X) fun r2 M1 => gb (decide (r2 &&& 1 = r2)) (some (.int r2, M1))) = some (.int (iI (b2i (goB (M.1 198) t w bl))), M') ∧ Eqx [202, 203] M M' := by
      intro X hX hj
      have hx : X.1 198 = M.1 198 := (hX 198 (by decide)).1
      obtain ⟨M', e, hE⟩ := c_Mo_law d (M := X) (law := 1) (al := alG) (by decide) (by rw [hx]; exact hz.2.2.2.2 h7) hj
      refine ⟨M', ?_, (hX.mono (by decide)).tr (hE.mono (by decide))⟩
      have e0 : (iI 1) = iI ((1 : Nat) : Int) := rfl
      rw [e0, e, bI_some, f_b2i, hx, goB, if_neg (show ¬ M.1 198 7 = 0 from h7)]
    have hq2 : ∀ n : Nat, n = (if w ≠ 0 ∧ w = zn (M.1 198) 4 then 1 else 0) → ∃ M', (gb (inb ((iI 21) + (iI t)) 2913) (bI (c2 (d + 2) m_Mo_reckons [.ref 197, .int (iI 1)] (wI (wI (wI (wI (wI M 203 0 (iI bl)) 203 1 (iI t)) 203 7 (iI (bits w))) 203 8 (iI n)) 203 9 (gI (wI (wI M 203 0 (iI bl)) 203 1 (iI t)) 198 (ix ((iI 21) + (iI t)))))) fun r4 M3 => gb (decide (r4 &&& 1 = r4)) (some (.int r4, M3)))) = some (.int (iI (b2i (goB (M.1 198) t w bl))), M') ∧ Eqx [202, 203] M M' := by
      intro n hn
      rw [iI_add, inb_ok (by omega) (by omega) (by omega), gb_t, ix_eq (n := 21 + t) (by omega) (by omega)]
      refine hq _ (eqx_wI (eqx_wI (eqx_wI (eqx_wI (eqx_wI Eqx.rf (by decide)) (by decide)) (by decide)) (by decide)) (by decide)) ?_
      intro j hj10 hj
      have hj6 : j ≤ 1 ∨ 7 ≤ j := by
        rcases Bool.or_eq_true_iff.mp hj with h | h
        · exact Or.inl (Nat.le_of_ble_eq_true h)
        · exact Or.inr (Nat.le_of_ble_eq_true h)
      rcases (show j = 0 ∨ j = 1 ∨ j = 7 ∨ j = 8 ∨ j = 9 by omega) with h | h | h | h | h <;> subst h
      · rfl
      · rfl
      · rfl
      · rw [hn]; rfl
      · rfl
    rw [c_Mo_bitsOf _ _ hw, bI_some, show gI (wI (wI M 203 0 (iI bl)) 203 1 (iI t)) 198 4 = gI M 198 4 from rfl, e4]
    by_cases h0 : w = 0
    · rw [if_pos (by rw [h0]; rfl)]
      exact hq2 0 (by rw [if_neg (by omega)])
    · rw [if_neg (iI_ne0 (by omega) hw)]
      by_cases h1 : w = zn (M.1 198) 4
      · rw [if_pos (by rw [← h1])]
        exact hq2 1 (by rw [if_pos ⟨h0, h1⟩])
      · rw [if_neg (by rw [iI_eq (by omega) (by omega) (by omega) (by omega)]; omega)]
        exact hq2 0 (by rw [if_neg (fun h => h1 h.2)])
