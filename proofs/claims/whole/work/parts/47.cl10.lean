/-! THE CLASS: pass and next. -/
theorem c_Stp_pass (d : Nat) {M : Mem} {r : Nat} {z : Row} {tm p bl : Nat} (hr : r ∈ rooms) (h0 : gR M 127 0 = r) (hR : RoomR M r z) (hz : OkZ z) (hT : TurnC M z) (hG : GoC M z) (htm : tm < 10) (hp : p < 2560) (hbl : bl < 2) :
    ∃ M', c2 (d + 4) m_Stp_pass [.ref 127, .int (iI p), .int (iI bl), .int (iI tm)] M = some (.int (iI (pas z tm p bl)), M') ∧ Eqx [128, 129, 130, r + 6, r + 9] M M' ∧ TurnC M' z ∧ GoC M' z := by
  show ∃ M', X2 (d + 3) m_Stp_pass 0 [.ref 127, .int (iI p), .int (iI bl), .int (iI tm), uns, uns, uns, uns, uns, uns, uns, uns] [] M = _ ∧ _
  have hrl := rm_lt r hr
  have h3 := zn_rng hz.1.2.2.1 (by decide)
  have e1 : iI p &&& iI 511 = iI ((p % 512 : Nat) : Int) := by
    rw [show iI 511 = iI ((511 : Nat) : Int) from rfl, iI_and, show (511 : Nat) = 2 ^ 9 - 1 from rfl, Nat.and_two_pow_sub_one_eq_mod]
  have e2 : iI p >>> (iI 9 &&& 31) = iI ((p / 512 : Nat) : Int) := by
    rw [show iI 9 = iI ((9 : Nat) : Int) from rfl, iI_shr (by omega) (by decide), Nat.shiftRight_eq_div_pow]
  have e3 : (((iI tm * iI 5 + iI ((p / 512 : Nat) : Int)) * iI 2) + iI bl) * iI 9 = iI ((((tm * 5 + p / 512) * 2 + bl) * 9 : Nat) : Int) := by
    rw [iI_mul, iI_add, iI_mul, iI_add, iI_mul]; congr 1 <;> omega
  have n0 : ¬ (iI p < 0) := by rw [iI_lt0 (by omega) (by omega)]; omega
  have n1 : iI p < iI 2560 := by rw [iI_lt (by omega) (by omega) (by omega) (by omega)]; omega
  have n2 : ¬ (iI tm < 0) := by rw [iI_lt0 (by omega) (by omega)]; omega
  have n3 : iI tm < iI 10 := by rw [iI_lt (by omega) (by omega) (by omega) (by omega)]; omega
  rw [e_Stp_pass_0, h0, rm_ok r hr, gb_T, if_neg (by omega), if_neg n0, if_pos n1, c_RW_isBlind, bI_some, iI_toInt (by omega) (by omega), decide_eq_true (show (0 : Int) ≤ bl ∧ (bl : Int) ≤ 1 by omega), b2i_t, if_neg (by decide), if_neg n2, if_pos n3, e1, e2, e3]
  obtain ⟨M1, v8, v9, v10, v11, e, hE, hT1⟩ := c_pass71 d (M0 := M) (r := r) (z := z) (tm := tm) (w := p % 512) (who := p / 512) (bl := bl) (.int (iI p)) (.int (iI tm)) hr h0 hR hz htm (by omega) (by omega) hbl (nz z) 0 M uns uns uns (by omega) Eqx.rf hT
  have hG1 : GoC M1 z := hG.fr (hE 129 (by simp <;> omega)).2.1
  have hR1 : RoomR M1 r z := hR.fr (fun a ha => (hE a (by have := roomS_ge ha; simp; omega)).1)
  have h01 : gR M1 127 0 = r := (eqx_R hE (by simp <;> omega) 0).trans h0
  have hwl := wallT_lt hz tm (p % 512) (p / 512) bl
  have hE' : Eqx [128, 129, 130, r + 6, r + 9] M M1 := hE.mono (by simp <;> omega)
  rw [show iI 0 = iI (maskOf (fun c => turnB z tm c (p % 512) (p / 512) bl) 0) from rfl] at *
  refine (show ∃ M', X2 (d + 3) m_Stp_pass 71 [.ref 127, .int (iI p), .int (iI bl), .int (iI tm), .int (iI ((p % 512 : Nat) : Int)), .int (iI ((p / 512 : Nat) : Int)), .int (iI ((((tm * 5 + p / 512) * 2 + bl) * 9 : Nat) : Int)), .int (iI (maskOf (fun c => turnB z tm c (p % 512) (p / 512) bl) 0)), .int (iI ((0 : Nat) : Int)), uns, uns, uns] [] M = some (.int (iI (pas z tm p bl)), M') ∧ Eqx [128, 129, 130, r + 6, r + 9] M M' ∧ TurnC M' z ∧ GoC M' z from ?_)
  rw [e, e_Stp_pass_185]
  by_cases h4 : p / 512 < 4
  · have n4 : iI ((p / 512 : Nat) : Int) < iI 4 := by rw [iI_lt (by omega) (by omega) (by omega) (by omega)]; omega
    rw [if_pos n4]
    obtain ⟨M2, e5, hE2, hG2⟩ := c_Stp_isGoing d (M := M1) (r := r) (z := z) (t := p / 512) (w := wallT z tm (p % 512) (p / 512) bl) (bl := bl) hr h01 hR1 hz (by omega) hwl hbl hG1
    rw [e5, bI_some, show iI 4 = iI ((4 : Nat) : Int) from rfl, iI_or9 hwl, iI_or9 hwl]
    refine ⟨M2, ?_, hE'.tr (hE2.mono (by simp <;> omega)), hT1.fr (hE2 128 (by simp <;> omega)).2.1, hG2⟩
    simp only [iI_b_eq0]
    rw [pas]
    by_cases hg : p / 512 < zn z 3 ∧ goB z (p / 512) (wallT z tm (p % 512) (p / 512) bl) bl = true
    · rw [if_pos hg, if_neg (by rw [goT, decide_eq_true hg.1, hg.2]; decide)]
    · rw [if_neg hg, if_pos]
      rw [goT]
      by_cases hq : p / 512 < zn z 3
      · rw [decide_eq_true hq, Bool.true_and]
        exact Bool.eq_false_iff.mpr (fun q => hg ⟨hq, q⟩)
      · rw [decide_eq_false hq, Bool.false_and]
  · have n4 : ¬ (iI ((p / 512 : Nat) : Int) < iI 4) := by rw [iI_lt (by omega) (by omega) (by omega) (by omega)]; omega
    rw [if_neg n4, iI_or9 hwl]
    exact ⟨M1, by rw [pas, if_neg (show ¬ (p / 512 < zn z 3 ∧ _) from fun q => by omega)], hE', hT1, hG1⟩
theorem pas_lt {z : Row} (hz : OkZ z) (tm bl : Nat) {p : Nat} (hp : p < 2560) : pas z tm p bl < 2560 := by
  have hwl := wallT_lt hz tm (p % 512) (p / 512) bl
  unfold pas
  split <;> omega
theorem c_Stp_next (d : Nat) {M : Mem} {r : Nat} {z : Row} {tm st p bl : Nat} (hS : StepsC M r z tm st) (hp : p < 2560) (hbl : bl < 2) :
    ∃ M', c2 (d + 5) m_Stp_next [.ref 127, .int (iI p), .int (iI bl)] M = some (.int (iI (pas z tm p bl)), M') ∧ Eqx [128, 129, 130, 131, r + 6, r + 9] M M' ∧ StepsC M' r z tm st := by
  obtain ⟨hr, h0, hR, hz, hT, hG, htm, htm9, hst, hst2, hC⟩ := id hS
  show ∃ M', X2 (d + 4) m_Stp_next 0 [.ref 127, .int (iI p), .int (iI bl), uns] [] M = _ ∧ _
  have hrl := rm_lt r hr
  have hpl := pas_lt hz tm bl hp
  have n0 : ¬ (iI p < 0) := by rw [iI_lt0 (by omega) (by omega)]; omega
  have n1 : iI p < iI 2560 := by rw [iI_lt (by omega) (by omega) (by omega) (by omega)]; omega
  have e1 : iI bl * iI 2560 + iI p = iI ((bl * 2560 + p : Nat) : Int) := by rw [iI_mul, iI_add]; rfl
  have k12 : iI 12 = iI ((12 : Nat) : Int) := rfl
  have a12 : ∀ s e : Nat, e < 4096 → s ≤ 100000 → iI ((s * 4096 + e : Nat) : Int) &&& iI 4095 = iI e := fun s e h1 h2 => by
    rw [show iI 4095 = iI ((4095 : Nat) : Int) from rfl, iI_and, show (4095 : Nat) = 2 ^ 12 - 1 from rfl, Nat.and_two_pow_sub_one_eq_mod]; congr 2; omega
  obtain ⟨e, s, he, he2, hs, hes⟩ := hC p bl hp hbl
  have s12 : iI ((s * 4096 + e : Nat) : Int) >>> (iI 12 &&& 31) = iI s := by
    rw [k12, iI_shr (by omega) (by decide), Nat.shiftRight_eq_div_pow]; congr 2; omega
  rw [e_Stp_next_0, if_neg n0, if_pos n1, c_RW_isBlind, bI_some, iI_toInt (by omega) (by omega), decide_eq_true (show (0 : Int) ≤ bl ∧ (bl : Int) ≤ 1 by omega), b2i_t, if_neg (by decide), e1, inb_ok (by omega) (by omega) (by omega), gb_T, gb_T, ix_nat (by omega), he, s12, hst, htm, a12 s e he2 (by omega)]
  by_cases hq : s = st
  · rw [if_pos (by rw [hq]), hes hq]
    exact ⟨M, rfl, Eqx.rf, hS⟩
  · rw [if_neg (by rw [iI_eq (by omega) (by omega) (by omega) (by omega)]; omega)]
    obtain ⟨M1, e5, hE, hT1, hG1⟩ := c_Stp_pass d (tm := tm) (p := p) (bl := bl) hr h0 hR hz hT hG htm9 hp hbl
    have hv : (iI st <<< (iI 12 &&& 31)) ||| iI (pas z tm p bl) = iI ((st * 4096 + pas z tm p bl : Nat) : Int) := by
      rw [k12, iI_shl _ (by decide), iI_or, ← Nat.shiftLeft_add_eq_or_of_lt (show pas z tm p bl < 2 ^ 12 by omega), Nat.shiftLeft_eq]
    rw [e5, bI_some, hv, gb_T, gb_T, gI_eq, a12 st _ (by omega) hst2]
    have hE2 : Eqx [128, 129, 130, 131, r + 6, r + 9] M (wI M1 131 (bl * 2560 + p) (iI ((st * 4096 + pas z tm p bl : Nat) : Int))) := eqx_wI (hE.mono (by simp <;> omega)) (by simp)
    refine ⟨_, rfl, hE2, hr, (eqx_R hE2 (by simp <;> omega) 0).trans h0, hR.fr (fun a ha => (hE2 a (by have := roomS_ge ha; simp; omega)).1), hz, hT1, hG1, (eqx_I hE2 (by simp <;> omega) 1).trans htm, htm9, (eqx_I hE2 (by simp <;> omega) 6).trans hst, hst2, ?_⟩
    intro p' bl' hp' hbl'
    by_cases hs2 : bl' * 2560 + p' = bl * 2560 + p
    · have q1 : bl' = bl := by omega
      have q2 : p' = p := by omega
      subst q1; subst q2
      exact ⟨_, st, gI_eq _ _ _ _, by omega, Nat.le_refl _, fun _ => rfl⟩
    · obtain ⟨e', s', g1, g2, g3, g4⟩ := hC p' bl' hp' hbl'
      refine ⟨e', s', ?_, g2, g3, g4⟩
      rw [gI_nk hs2, eqx_I hE (by simp <;> omega)]
      exact g1
