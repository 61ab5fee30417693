/-! THE REFERENCE: how long one can stay; what one can force. -/
def FI : Int := 268435456
theorem c_Mo_isGoneB (d : Nat) {n : Nat} (hn : n < 2560) (M : Mem) : c2 (d + 1) m_Mo_isGone [.int (iI n)] M = some (.int (iI (b2i (decide (n % 5 = 4)))), M) := c_Mo_isGone d n (by omega) M
def StyM (M : Mem) (F : Nat → Int) : Prop := ∀ s, s < 2560 → gI M 208 s = iI (F s)
def cF (F : Nat → Int) : Nat := cnt (fun s => decide (F s < FI)) 2560
/-- what is so of the nights one can stay, all the while -/
def StyI (f : Nat → Nat → Nat) (n : Nat) (F : Nat → Int) : Prop := (∀ s, -1 ≤ F s ∧ F s ≤ FI ∧ (F s < FI → F s ≤ cF F)) ∧ (∀ s, s < n → s % 5 = 4 → F s = -1) ∧ (∀ s, s < n → s % 5 ≠ 4 → F s < FI → F (f s 0) < FI ∧ F (f s 1) < FI ∧ F s = 1 + mxI (F (f s 0)) (F (f s 1)))
theorem cF_le (F : Nat → Int) : cF F ≤ 2560 := cnt_le _ _
theorem cF_up {F : Nat → Int} {a : Nat} {v : Int} (ha : a < 2560) (h : ¬ (F a < FI)) (hv : v < FI) : cF (upI F a v) = cF F + 1 := by
  unfold cF
  exact cnt_flip (p := fun s => decide (upI F a v s < FI)) (q := fun s => decide (F s < FI)) (a := a) 2560 ha (by show decide (upI F a v a < FI) = true; rw [upI_eq]; exact decide_eq_true hv) (decide_eq_false h) (fun k hk => by show decide (F k < FI) = decide (upI F a v k < FI); rw [upI_ne hk])
theorem StyI.up {f : Nat → Nat → Nat} {n : Nat} {F : Nat → Int} (h : StyI f n F) (hn : n ≤ 2560) {s : Nat} (hs : s < n) (h4 : s % 5 ≠ 4) (hF : ¬ (F s < FI)) (h0 : F (f s 0) < FI) (h1 : F (f s 1) < FI) : StyI f n (upI F s (1 + mxI (F (f s 0)) (F (f s 1)))) ∧ cF (upI F s (1 + mxI (F (f s 0)) (F (f s 1)))) = cF F + 1 := by
  obtain ⟨a, b, c⟩ := h
  have hc := cF_le F
  have b0 := a (f s 0)
  have b1 := a (f s 1)
  have m0 : F (f s 0) ≤ cF F := b0.2.2 h0
  have m1 : F (f s 1) ≤ cF F := b1.2.2 h1
  have mx : -1 ≤ mxI (F (f s 0)) (F (f s 1)) ∧ mxI (F (f s 0)) (F (f s 1)) ≤ cF F := by unfold mxI; split <;> omega
  have hv : 1 + mxI (F (f s 0)) (F (f s 1)) < FI := by unfold FI; omega
  have hcu := cF_up (F := F) (a := s) (v := 1 + mxI (F (f s 0)) (F (f s 1))) (by omega) hF hv
  have keep : ∀ t, F t < FI → upI F s (1 + mxI (F (f s 0)) (F (f s 1))) t = F t := fun t ht => upI_ne (fun e => hF (e ▸ ht))
  refine ⟨⟨?_, ?_, ?_⟩, hcu⟩
  · intro t
    rw [hcu]
    by_cases e : t = s
    · subst e; rw [upI_eq]; exact ⟨by omega, by omega, fun _ => by omega⟩
    · rw [upI_ne e]
      have := a t
      exact ⟨this.1, this.2.1, fun x => by have := this.2.2 x; omega⟩
  · intro t ht h
    have e : t ≠ s := fun e => by rw [e] at h; exact h4 h
    rw [upI_ne e]; exact b t ht h
  · intro t ht h hl
    by_cases e : t = s
    · subst e
      rw [keep _ h0, keep _ h1, upI_eq]; exact ⟨h0, h1, rfl⟩
    · rw [upI_ne e] at hl ⊢
      obtain ⟨x, y, w⟩ := c t ht h hl
      rw [keep _ x, keep _ y]; exact ⟨x, y, w⟩
/-- the nights one can stay, in the end -/
def StyF (f : Nat → Nat → Nat) (n : Nat) (F : Nat → Int) : Prop := StyI f n F ∧ ∀ s, s < n → s % 5 ≠ 4 → F (f s 0) < FI → F (f s 1) < FI → F s < FI
theorem c_Mo_laysStays (d : Nat) {M0 : Mem} {z : Row} {w who tm : Nat} (hQ : QM M0 z w who tm) :
    ∃ (M' : Mem) (F : Nat → Int), c2 (d + 7) m_Mo_laysStays [.ref 197] M0 = some (.int (iI (F (5 * w + who))), M') ∧ StyM M' F ∧ ThenM M' z tm (5 * 2 ^ nz z) ∧ StyF (thn z tm) (5 * 2 ^ nz z) F ∧ ResM M0 M' := by
  have hz := hQ.2.1
  have h9 := nz_le hz
  have hp := pow9 h9
  have hl := hQ.ok.lt hQ.okz
  rw [hQ.1] at hl
  obtain ⟨M1, e1, hE1, hT1⟩ := c_Mo_laysThen d (M0 := M0) (tm := tm) hQ.okz hQ.tm
  rw [hQ.1] at hT1
  have hR1 : ResM M0 M1 := ResM.of hE1 (by intro a ha; simp only [List.mem_cons, List.not_mem_nil, or_false] at ha; omega)
  obtain ⟨F0, hF0⟩ : ∃ F0 : Nat → Int, F0 = fun s => if s % 5 = 4 then -1 else FI := ⟨_, rfl⟩
  have ini : ∀ (j k : Nat) (M : Mem) (v2 v3 v4 : Value), j + k = 2560 → ResM M0 M → ThenM M z tm (5 * 2 ^ nz z) → (∀ s, s < k → gI M 208 s = iI (F0 s)) → ∃ M', X2 (d + 6) m_Mo_laysStays 6 [.ref 197, .int (iI k), v2, v3, v4] [] M = X2 (d + 6) m_Mo_laysStays 41 [.ref 197, .int (iI ((1 : Nat) : Int)), v2, v3, v4] [] M' ∧ ResM M0 M' ∧ ThenM M' z tm (5 * 2 ^ nz z) ∧ StyM M' F0 := by
    intro j
    induction j with
    | zero =>
      intro k M v2 v3 v4 hk hM hT hv
      rw [e_Mo_laysStays_6, if_neg (by rw [iI_lt (by omega) (by omega) (by omega) (by omega)]; omega)]
      exact ⟨M, rfl, hM, hT, fun s hs => hv s (by omega)⟩
    | succ j ih =>
      intro k M v2 v3 v4 hk hM hT hv
      have key : ∀ v : Int32, v = iI (F0 k) → ∃ M', X2 (d + 6) m_Mo_laysStays 6 [.ref 197, .int (iI ((k + 1 : Nat) : Int)), v2, v3, v4] [] (wI M 208 k v) = X2 (d + 6) m_Mo_laysStays 41 [.ref 197, .int (iI ((1 : Nat) : Int)), v2, v3, v4] [] M' ∧ ResM M0 M' ∧ ThenM M' z tm (5 * 2 ^ nz z) ∧ StyM M' F0 := by
        intro v hvv
        refine ih (k + 1) (wI M 208 k v) v2 v3 v4 (by omega) (hM.tr (ResM.of (eqx_wI Eqx.rf (by simp) : Eqx [208] M _) (by intro a ha; simp only [List.mem_cons, List.not_mem_nil, or_false] at ha; omega))) (hT.fr (wI_na (by decide))) ?_
        intro s hs
        by_cases q : s = k
        · subst q; rw [gI_eq]; exact hvv
        · rw [gI_nk q]; exact hv s (by omega)
      rw [e_Mo_laysStays_6, if_pos (by rw [iI_lt (by omega) (by omega) (by omega) (by omega)]; omega), c_Mo_isGoneB _ (by omega), bI_some, inb_ok (by omega) (by omega) (by omega), gb_T, gb_T, ix_nat (by omega), iI_add]
      by_cases q : k % 5 = 4
      · rw [decide_eq_true q, b2i_t, if_neg (by decide)]
        exact key _ (by rw [hF0]; show _ = iI (if k % 5 = 4 then -1 else FI); rw [if_pos q])
      · rw [decide_eq_false q, b2i_f, if_pos (by decide)]
        exact key _ (by rw [hF0]; show _ = iI (if k % 5 = 4 then -1 else FI); rw [if_neg q]; rfl)
  have pass : ∀ (S j k : Nat) (F : Nat → Int) (M : Mem) (fl : Nat) (v3 v4 : Value), j + k = 5 * 2 ^ nz z → ResM M0 M → ThenM M z tm (5 * 2 ^ nz z) → StyM M F → StyI (thn z tm) (5 * 2 ^ nz z) F → ((fl = 0 ∧ (∀ s, s < k → s % 5 ≠ 4 → F (thn z tm s 0) < FI → F (thn z tm s 1) < FI → F s < FI) ∧ S ≤ cF F) ∨ (fl = 1 ∧ S < cF F)) →
      ∃ (M' : Mem) (F' : Nat → Int) (fl' : Nat) (u2 u3 u4 : Value), X2 (d + 6) m_Mo_laysStays 49 [.ref 197, .int (iI fl), .int (iI k), v3, v4] [] M = X2 (d + 6) m_Mo_laysStays 41 [.ref 197, .int (iI fl'), u2, u3, u4] [] M' ∧ ResM M0 M' ∧ ThenM M' z tm (5 * 2 ^ nz z) ∧ StyM M' F' ∧ StyI (thn z tm) (5 * 2 ^ nz z) F' ∧ ((fl' = 0 ∧ (∀ s, s < 5 * 2 ^ nz z → s % 5 ≠ 4 → F' (thn z tm s 0) < FI → F' (thn z tm s 1) < FI → F' s < FI)) ∨ (fl' = 1 ∧ S < cF F')) := by
    intro S j
    induction j with
    | zero =>
      intro k F M fl v3 v4 hk hM hT hF hS hfl
      have hx : M.1 198 = z := (hQ.res hM).1
      have hk' : k = 5 * 2 ^ nz z := by omega
      rw [e_Mo_laysStays_49, c_Mo_rosesz _ (by rw [hx]; exact hz), bI_some, hx, five_shl h9, if_neg (by rw [iI_lt (by omega) (by omega) (by omega) (by omega)]; omega)]
      refine ⟨M, F, fl, _, v3, v4, rfl, hM, hT, hF, hS, ?_⟩
      rcases hfl with ⟨a, b, _⟩ | q
      · exact Or.inl ⟨a, fun s hs => b s (by omega)⟩
      · exact Or.inr q
    | succ j ih =>
      intro k F M fl v3 v4 hk hM hT hF hS hfl
      have hx : M.1 198 = z := (hQ.res hM).1
      rw [e_Mo_laysStays_49, c_Mo_rosesz _ (by rw [hx]; exact hz), bI_some, hx, five_shl h9, if_pos (by rw [iI_lt (by omega) (by omega) (by omega) (by omega)]; omega), c_Mo_isGoneB _ (by omega), bI_some, iI_add]
      have skip : ∀ u3 u4, (k % 5 ≠ 4 → F (thn z tm k 0) < FI → F (thn z tm k 1) < FI → F k < FI) → ∃ (M' : Mem) (F' : Nat → Int) (fl' : Nat) (w2 w3 w4 : Value), X2 (d + 6) m_Mo_laysStays 49 [.ref 197, .int (iI fl), .int (iI ((k + 1 : Nat) : Int)), u3, u4] [] M = X2 (d + 6) m_Mo_laysStays 41 [.ref 197, .int (iI fl'), w2, w3, w4] [] M' ∧ ResM M0 M' ∧ ThenM M' z tm (5 * 2 ^ nz z) ∧ StyM M' F' ∧ StyI (thn z tm) (5 * 2 ^ nz z) F' ∧ ((fl' = 0 ∧ (∀ s, s < 5 * 2 ^ nz z → s % 5 ≠ 4 → F' (thn z tm s 0) < FI → F' (thn z tm s 1) < FI → F' s < FI)) ∨ (fl' = 1 ∧ S < cF F')) := by
        intro u3 u4 hsk
        refine ih (k + 1) F M fl u3 u4 (by omega) hM hT hF hS ?_
        rcases hfl with ⟨a, b, c⟩ | q
        · refine Or.inl ⟨a, fun s hs => ?_, c⟩
          by_cases e : s = k
          · subst e; exact hsk
          · exact b s (by omega)
        · exact Or.inr q
      by_cases q : k % 5 = 4
      · rw [decide_eq_true q, b2i_t, if_neg (by decide)]
        exact skip _ _ (fun x => absurd q x)
      · rw [decide_eq_false q, b2i_f, if_pos (by decide), inb_ok (by omega) (by omega) (by omega), gb_T, ix_nat (by omega), hF k (by omega)]
        have hFk := hS.1 k
        unfold FI at hFk
        by_cases hf : F k < FI
        · rw [if_pos (by rw [iI_lt (by omega) (by omega) (by omega) (by omega)]; exact hf)]
          exact skip _ _ (fun _ _ _ => hf)
        · have t0 := thn_lt hz tm 0 (show k < 5 * 2 ^ nz z by omega)
          have t1 := thn_lt hz tm 1 (show k < 5 * 2 ^ nz z by omega)
          have b0 := hS.1 (thn z tm k 0)
          have b1 := hS.1 (thn z tm k 1)
          have hT0 : gI M 207 (2 * k) = iI (thn z tm k 0) := hT k (by omega) 0 (by decide)
          have hT1' : gI M 207 (2 * k + 1) = iI (thn z tm k 1) := hT k (by omega) 1 (by decide)
          rw [if_neg (by rw [iI_lt (by omega) (by omega) (by omega) (by omega)]; exact hf), two_mul_iI, two_mul_iI1, inb_ok (z := ((2 * k : Nat) : Int)) (by omega) (by omega) (by omega), gb_T, ix_nat (n := 2 * k) (by omega), hT0, inb_ok (z := (thn z tm k 0 : Int)) (by omega) (by omega) (by omega), gb_T, inb_ok (z := ((2 * k + 1 : Nat) : Int)) (by omega) (by omega) (by omega), gb_T, ix_nat (n := 2 * k + 1) (by omega), hT1', inb_ok (z := (thn z tm k 1 : Int)) (by omega) (by omega) (by omega), gb_T, gb_T, gb_T, ix_nat (n := thn z tm k 0) (by omega), ix_nat (n := thn z tm k 1) (by omega), hF _ (by omega), hF _ (by omega), iI_add, iI_add]
          unfold FI at b0 b1
          by_cases f0 : F (thn z tm k 0) < FI
          · rw [if_neg (by rw [iI_eq (by omega) (by omega) (by omega) (by omega)]; unfold FI at f0; omega)]
            by_cases f1 : F (thn z tm k 1) < FI
            · rw [if_neg (by rw [iI_eq (by omega) (by omega) (by omega) (by omega)]; unfold FI at f1; omega)]
              obtain ⟨hS2, hc2⟩ := hS.up (by omega) (show k < 5 * 2 ^ nz z by omega) q hf f0 f1
              have fin : ∀ v : Int32, v = iI (1 + mxI (F (thn z tm k 0)) (F (thn z tm k 1))) → ∀ u3 u4, ∃ (M' : Mem) (F' : Nat → Int) (fl' : Nat) (w2 w3 w4 : Value), X2 (d + 6) m_Mo_laysStays 49 [.ref 197, .int (iI ((1 : Nat) : Int)), .int (iI ((k + 1 : Nat) : Int)), u3, u4] [] (wI M 208 k v) = X2 (d + 6) m_Mo_laysStays 41 [.ref 197, .int (iI fl'), w2, w3, w4] [] M' ∧ ResM M0 M' ∧ ThenM M' z tm (5 * 2 ^ nz z) ∧ StyM M' F' ∧ StyI (thn z tm) (5 * 2 ^ nz z) F' ∧ ((fl' = 0 ∧ (∀ s, s < 5 * 2 ^ nz z → s % 5 ≠ 4 → F' (thn z tm s 0) < FI → F' (thn z tm s 1) < FI → F' s < FI)) ∨ (fl' = 1 ∧ S < cF F')) := by
                intro v hv u3 u4
                refine ih (k + 1) (upI F k (1 + mxI (F (thn z tm k 0)) (F (thn z tm k 1)))) (wI M 208 k v) 1 u3 u4 (by omega) (hM.tr (ResM.of (eqx_wI Eqx.rf (by simp) : Eqx [208] M _) (by intro a ha; simp only [List.mem_cons, List.not_mem_nil, or_false] at ha; omega))) (hT.fr (wI_na (by decide))) ?_ hS2 (Or.inr ⟨rfl, ?_⟩)
                · intro s hs
                  by_cases e : s = k
                  · subst e; rw [gI_eq, upI_eq]; exact hv
                  · rw [gI_nk e, upI_ne e]; exact hF s hs
                · rw [hc2]; rcases hfl with a | a <;> omega
              by_cases lt : F (thn z tm k 1) < F (thn z tm k 0)
              · rw [if_pos (by rw [iI_lt (by omega) (by omega) (by omega) (by omega)]; exact lt)]
                exact fin _ (by unfold mxI; rw [if_neg (by omega)]) _ _
              · rw [if_neg (by rw [iI_lt (by omega) (by omega) (by omega) (by omega)]; exact lt)]
                exact fin _ (by
                  unfold mxI
                  by_cases x : F (thn z tm k 0) < F (thn z tm k 1)
                  · rw [if_pos x]
                  · rw [if_neg x]; congr 1; omega) _ _
            · rw [if_pos (by rw [iI_eq (by omega) (by omega) (by omega) (by omega)]; unfold FI at f1; omega)]
              exact skip _ _ (fun _ _ x => absurd x f1)
          · rw [if_pos (by rw [iI_eq (by omega) (by omega) (by omega) (by omega)]; unfold FI at f0; omega)]
            exact skip _ _ (fun _ x _ => absurd x f0)
  have all : ∀ (S : Nat) (F : Nat → Int) (M : Mem) (v2 v3 v4 : Value), 2560 < cF F + S → ResM M0 M → ThenM M z tm (5 * 2 ^ nz z) → StyM M F → StyI (thn z tm) (5 * 2 ^ nz z) F → ∃ (M' : Mem) (F : Nat → Int), X2 (d + 6) m_Mo_laysStays 41 [.ref 197, .int (iI ((1 : Nat) : Int)), v2, v3, v4] [] M = some (.int (iI (F (5 * w + who))), M') ∧ StyM M' F ∧ ThenM M' z tm (5 * 2 ^ nz z) ∧ StyF (thn z tm) (5 * 2 ^ nz z) F ∧ ResM M0 M' := by
    intro S
    induction S with
    | zero => intro F M v2 v3 v4 h; have := cF_le F; omega
    | succ S ih =>
      intro F M v2 v3 v4 hS hM hT hF hFS
      rw [e_Mo_laysStays_41, if_neg (by decide)]
      obtain ⟨M', F', fl', u2, u3, u4, e, a1, a2, a3, a4, a5⟩ := pass (cF F) (5 * 2 ^ nz z) 0 F M 0 v3 v4 (by omega) hM hT hF hFS (Or.inl ⟨rfl, fun s hs => absurd hs (Nat.not_lt_zero s), Nat.le_refl _⟩)
      have e' : X2 (d + 6) m_Mo_laysStays 49 [.ref 197, .int (iI 0), .int (iI 0), v3, v4] [] M = _ := e
      rw [e']
      rcases a5 with ⟨q, b⟩ | ⟨q, b⟩
      · subst q
        rw [e_Mo_laysStays_41, if_pos (by decide), c_Mo_standNow, bI_some, show iI 5 * gI M' 198 25 + gI M' 198 26 = iI ((5 * w + who : Nat) : Int) from (hQ.res a1).stand, inb_ok (by omega) (by omega) (by omega), gb_T, ix_nat (by omega), a3 _ hl.2.1]
        exact ⟨M', F', rfl, a3, a2, ⟨a4, b⟩, a1⟩
      · subst q
        exact ih F' M' u2 u3 u4 (by omega) a1 a2 a3 a4
  show ∃ (M' : Mem) (F : Nat → Int), X2 (d + 6) m_Mo_laysStays 0 [.ref 197, uns, uns, uns, uns] [] M0 = _ ∧ _
  rw [e_Mo_laysStays_0, e1, bV_some]
  obtain ⟨M2, e2, hM2, hT2, hF2⟩ := ini 2560 0 M1 uns uns uns (by omega) hR1 hT1 (fun s hs => absurd hs (Nat.not_lt_zero s))
  have e2' : X2 (d + 6) m_Mo_laysStays 6 [.ref 197, .int (iI 0), uns, uns, uns] [] M1 = _ := e2
  rw [e2']
  refine all 2561 F0 M2 uns uns uns (by omega) hM2 hT2 hF2 ⟨?_, ?_, ?_⟩
  · intro s
    rw [hF0]
    show -1 ≤ (if s % 5 = 4 then -1 else FI) ∧ (if s % 5 = 4 then -1 else FI) ≤ FI ∧ ((if s % 5 = 4 then -1 else FI) < FI → (if s % 5 = 4 then -1 else FI) ≤ _)
    split
    · exact ⟨by omega, by decide, fun _ => by omega⟩
    · exact ⟨by decide, Int.le_refl _, fun h => absurd h (Int.lt_irrefl _)⟩
  · intro s _ h
    rw [hF0]
    show (if s % 5 = 4 then -1 else FI) = -1
    rw [if_pos h]
  · intro s _ h hl
    rw [hF0] at hl
    replace hl : (if s % 5 = 4 then -1 else FI) < FI := hl
    rw [if_neg h] at hl
    exact absurd hl (Int.lt_irrefl _)
