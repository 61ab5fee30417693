/-! TRAYS. -/
def TrC (M : Mem) (so : Nat → Int) (tn : Nat → Nat) (tv : Nat → Nat → Int64) : Prop := ∀ t, t < 4 → gI M (189 + 2 * t) 3 = iI (if so t = -1 then 1 else 0) ∧ (so t ≠ -1 → gI M (189 + 2 * t) 1 = iI (so t) ∧ gI M (189 + 2 * t) 2 = iI (tn t) ∧ ∀ k, k < tn t → gL M (190 + 2 * t) k = tv t k) ∧ -1 ≤ so t ∧ so t ≤ 3 ∧ tn t ≤ 40
def TrM (M : Mem) (so : Nat → Int) (tn : Nat → Nat) (tv : Nat → Nat → Int64) : Prop := ∀ t, t < 4 → gI M 213 t = iI (so t) ∧ gI M 214 t = iI (tn t) ∧ (∀ k, k < 40 → gL M 215 (40 * t + k) = tv t k) ∧ -1 ≤ so t ∧ so t ≤ 3 ∧ tn t ≤ 40
theorem TrC.fr {M M' : Mem} {so : Nat → Int} {tn : Nat → Nat} {tv : Nat → Nat → Int64} (h : TrC M so tn tv) {S : List Nat} (hE : Eqx S M M') (hS : ∀ a, a ∈ S → a < 189 ∨ 196 < a) : TrC M' so tn tv := by
  intro t ht
  have n1 : 189 + 2 * t ∉ S := fun q => by have := hS _ q; omega
  have n2 : 190 + 2 * t ∉ S := fun q => by have := hS _ q; omega
  obtain ⟨a, b, c⟩ := h t ht
  refine ⟨(eqx_I hE n1 3).trans a, fun q => ?_, c⟩
  obtain ⟨b1, b2, b3⟩ := b q
  exact ⟨(eqx_I hE n1 1).trans b1, (eqx_I hE n1 2).trans b2, fun k hk => (eqx_L hE n2 k).trans (b3 k hk)⟩
theorem TrC.sc {M M' : Mem} {r : Nat} {so : Nat → Int} {tn : Nat → Nat} {tv : Nat → Nat → Int64} (h : TrC M so tn tv) (hr : r ≤ 177) (hE : Eqx (scr r) M M') : TrC M' so tn tv := h.fr hE (fun a ha => by have := scr_mem.mp ha; omega)
theorem TrM.fr {M M' : Mem} {so : Nat → Int} {tn : Nat → Nat} {tv : Nat → Nat → Int64} (h : TrM M so tn tv) (h1 : M'.1 213 = M.1 213) (h2 : M'.1 214 = M.1 214) (h3 : M'.2.1 215 = M.2.1 215) : TrM M' so tn tv := by
  unfold TrM gI gL at *; rw [h1, h2, h3]; exact h
theorem TrM.res {M M' : Mem} {so : Nat → Int} {tn : Nat → Nat} {tv : Nat → Nat → Int64} (h : TrM M so tn tv) (hR : ResM M M') : TrM M' so tn tv := h.fr (hR.1 213 (by decide)).1 (hR.1 214 (by decide)).1 (hR.1 215 (by decide)).2.1
theorem tr4 {t : Nat} (h : t < 4) : t = 0 ∨ t = 1 ∨ t = 2 ∨ t = 3 := by omega
theorem tr_ref {t : Nat} (h : t < 4) (M : Mem) : gR M 126 t = 189 + 2 * t := by
  rcases tr4 h with q | q | q | q <;> subst q <;> rfl
theorem tr_k {t : Nat} (h : t < 4) (M : Mem) : isK O2 M (189 + 2 * t) 20 = true := by
  rcases tr4 h with q | q | q | q <;> subst q <;> rfl
theorem tr_v {t : Nat} (h : t < 4) (M : Mem) : gR M (189 + 2 * t) 0 = 190 + 2 * t := by
  rcases tr4 h with q | q | q | q <;> subst q <;> rfl
theorem tr_at {t : Nat} (h : t < 4) (M : Mem) (x : Int32) : at_ O2 M (190 + 2 * t) 43 x = inb x 40 := by
  rcases tr4 h with q | q | q | q <;> subst q <;> rfl
theorem ff_inb {t : Nat} (h : t < 4) : (false || false || inb (iI t) 4) = true := by
  rw [inb_ok (by omega) (by omega) (by omega)]; rfl
theorem c_RW_isTray (d : Nat) (x : Int32) (M : Mem) : c2 (d + 1) m_RW_isTray [.int x] M = some (.int (iI (b2i (decide (0 ≤ x.toInt ∧ x.toInt < 4)))), M) := by
  show X2 d m_RW_isTray 0 [.int x] [] M = _
  obtain ⟨c, rfl, c1, c2⟩ := iI_ex x
  rw [e_RW_isTray_0, iI_toInt c1 c2]
  simp only [iI_lt0 c1 c2, iI_lt c1 c2 (show (-2147483648 : Int) ≤ 4 by omega) (show (4 : Int) ≤ 2147483647 by omega)]
  by_cases q : 0 ≤ c ∧ c < 4
  · rw [if_neg (by omega), if_pos q.2, decide_eq_true q]; rfl
  · rw [decide_eq_false q]
    split
    · rfl
    · rw [if_neg (by omega)]; rfl
theorem c_Tray_at (d : Nat) {M : Mem} {so : Nat → Int} {tn : Nat → Nat} {tv : Nat → Nat → Int64} (h : TrC M so tn tv) {t k : Nat} (ht : t < 4) (hs : so t ≠ -1) (hk : k < tn t) : c2 (d + 1) m_Tray_at [.ref (189 + 2 * t), .int (iI k)] M = some (.long (tv t k), M) := by
  show X2 d m_Tray_at 0 [.ref (189 + 2 * t), .int (iI k)] [] M = _
  obtain ⟨a, b, c, e, f⟩ := h t ht
  obtain ⟨b1, b2, b3⟩ := b hs
  rw [e_Tray_at_0, if_neg (by rw [iI_lt0 (by omega) (by omega)]; omega), tr_k ht, gb_T, gb_T, b2, if_pos (by rw [iI_lt (by omega) (by omega) (by omega) (by omega)]; omega), tr_v ht, tr_at ht, inb_ok (by omega) (by omega) (by omega), gb_T, ix_nat (by omega), b3 k hk]
def fitB (v : Int64) (w : Nat) : Bool := decide (v = lI (-1)) || decide (v = lI w)
theorem c_Tray_fits (d : Nat) {M : Mem} {so : Nat → Int} {tn : Nat → Nat} {tv : Nat → Nat → Int64} (h : TrC M so tn tv) {t k w : Nat} (ht : t < 4) (hs : so t ≠ -1) (hk : k < tn t) (hw : w < 2560) : c2 (d + 2) m_Tray_fits [.ref (189 + 2 * t), .int (iI k), .int (iI w)] M = some (.int (iI (b2i (fitB (tv t k) w))), M) := by
  show X2 (d + 1) m_Tray_fits 0 [.ref (189 + 2 * t), .int (iI k), .int (iI w), uns, uns] [] M = _
  rw [e_Tray_fits_0, tr_k ht, tt_and, gb_T, c_Tray_at _ h ht hs hk, bL_some, i2l_iI (by omega) (by omega)]
  simp only [cmp_eq]
  unfold fitB
  by_cases q : tv t k = lI (-1)
  · rw [if_pos q, decide_eq_true q, Bool.true_or]; rfl
  · rw [if_neg q, decide_eq_false q, Bool.false_or]
    by_cases q2 : tv t k = lI w
    · rw [if_pos q2, decide_eq_true q2]; rfl
    · rw [if_neg q2, decide_eq_false q2]; rfl
theorem ix40 {t k : Nat} (ht : t < 4) (hk : k < 40) : iI 40 * iI t + iI k = iI ((40 * t + k : Nat) : Int) := by rw [iI_mul, iI_add]; rfl
theorem c_Mo_isSeen (d : Nat) {M : Mem} {so : Nat → Int} {tn : Nat → Nat} {tv : Nat → Nat → Int64} (h : TrM M so tn tv) {t k w : Nat} (ht : t < 4) (hk : k < 40) (hw : w < 2560) : c2 (d + 1) m_Mo_isSeen [.ref 197, .int (iI t), .int (iI k), .int (iI w)] M = some (.int (iI (b2i (fitB (tv t k) w))), M) := by
  show X2 d m_Mo_isSeen 0 [.ref 197, .int (iI t), .int (iI k), .int (iI w)] [] M = _
  rw [e_Mo_isSeen_0, ix40 ht hk, inb_ok (by omega) (by omega) (by omega), gb_T, gb_T, ix_nat (by omega), (h t ht).2.2.1 k hk, i2l_iI (by omega) (by omega)]
  simp only [cmp_eq]
  unfold fitB
  by_cases q : tv t k = lI (-1)
  · rw [if_pos q, decide_eq_true q, Bool.true_or]; rfl
  · rw [if_neg q, decide_eq_false q, Bool.false_or]
    by_cases q2 : tv t k = lI w
    · rw [if_pos q2, decide_eq_true q2]; rfl
    · rw [if_neg q2, decide_eq_false q2]; rfl
/-- no wall, nor one not told -/
def badB (z : Row) (v : Int64) : Bool := decide (v.toInt < -1 ∨ ((2 ^ nz z : Nat) : Int) ≤ v.toInt)
def noT (so : Nat → Int) (x : Int) : Int := if 0 ≤ x ∧ x < 4 then (if so x.toNat = -1 then -6 else 0) else -2
def noSeenI (z : Row) (so : Nat → Int) (tn : Nat → Nat) (tv : Nat → Nat → Int64) (x : Int) : Int := if noT so x ≠ 0 then noT so x else if 1 ≤ tn x.toNat ∧ tn x.toNat ≤ 10 then (if orN (fun k => badB z (tv x.toNat k)) (tn x.toNat) then -3 else 0) else -4
theorem orN_upto {p : Nat → Bool} {k n : Nat} (hk : k < n) (h : p k = true) : orN p n = true := (orN_iff p n).mpr ⟨k, hk, h⟩
theorem orN_all {p : Nat → Bool} {n : Nat} (h : ∀ k, k < n → p k = false) : orN p n = false := Bool.eq_false_iff.mpr (fun q => by
  obtain ⟨i, h1, h2⟩ := (orN_iff p n).mp q
  rw [h i h1] at h2; exact absurd h2 (by decide))
theorem c_RW_refusedSeen (d : Nat) {M : Mem} {r : Nat} {z : Row} {so : Nat → Int} {tn : Nat → Nat} {tv : Nat → Nat → Int64} (hr : r ∈ rooms) (h5 : gR M 100 5 = r) (hR : RoomR M r z) (hz : OkZ z) (h : TrC M so tn tv) (x1 : Int32) :
    c2 (d + 2) m_RW_refusedSeen [.ref 100, .int x1] M = some (.int (iI (noSeenI z so tn tv x1.toInt)), M) := by
  show X2 (d + 1) m_RW_refusedSeen 0 [.ref 100, .int x1, uns, uns, uns] [] M = _
  obtain ⟨x, rfl, c1, c2⟩ := iI_ex x1
  have h9 := nz_le hz
  have hp := pow9 h9
  have hp1 : 1 ≤ 2 ^ nz z := Nat.one_le_two_pow
  rw [e_RW_refusedSeen_0, c_RW_isTray, bI_some, iI_toInt c1 c2, noSeenI, noT]
  by_cases hx : 0 ≤ x ∧ x < 4
  · obtain ⟨t, rfl⟩ := Int.eq_ofNat_of_zero_le hx.1
    have ht : t < 4 := by omega
    obtain ⟨a, b, so1, so2, tn40⟩ := h t ht
    rw [decide_eq_true hx, b2i_t, if_neg (by decide), ff_inb ht, gb_T, ix_nat (by omega), tr_ref ht, tr_k ht, gb_T, gb_T, gb_T, gb_T, gb_T, a, if_pos hx, Int.toNat_natCast]
    by_cases hs : so t = -1
    · rw [if_pos hs, if_neg (show ¬ (iI 1 = 0) by decide), if_pos hs, if_pos (show (-6 : Int) ≠ 0 by decide)]
    · obtain ⟨b1, b2, b3⟩ := b hs
      rw [if_neg hs, if_pos (show iI 0 = 0 from rfl), if_neg hs, if_neg (show ¬ ((0 : Int) ≠ 0) by decide), b2]
      by_cases hn : 1 ≤ tn t ∧ tn t ≤ 10
      · rw [if_neg (by rw [iI_lt (by omega) (by omega) (by omega) (by omega)]; omega), if_neg (by rw [iI_lt (by omega) (by omega) (by omega) (by omega)]; omega), if_pos hn]
        have go : ∀ (j k : Nat) (v3 v4 : Value), j + k = tn t → (∀ i, i < k → badB z (tv t i) = false) → X2 (d + 1) m_RW_refusedSeen 57 [.ref 100, .int (iI t), .int (iI k), v3, v4] [] M = some (.int (iI (if orN (fun k => badB z (tv t k)) (tn t) then -3 else 0)), M) := by
          intro j
          induction j with
          | zero =>
            intro k v3 v4 hk hb
            rw [e_RW_refusedSeen_57, ff_inb ht, gb_T, ix_nat (by omega), tr_ref ht, tr_k ht, gb_T, b2, if_neg (by rw [iI_lt (by omega) (by omega) (by omega) (by omega)]; omega), orN_all (fun i hi => hb i (by omega))]
            rfl
          | succ j ih =>
            intro k v3 v4 hk hb
            rw [e_RW_refusedSeen_57, ff_inb ht, gb_T, ix_nat (by omega), tr_ref ht, tr_k ht, gb_T, b2, if_pos (by rw [iI_lt (by omega) (by omega) (by omega) (by omega)]; omega), gb_T, tt_and, gb_T, c_Tray_at _ h ht hs (by omega), bL_some, h5, rm_k _ r hr, tt_and, gb_T, c_Room_fullWall _ hr hR.1.2.2.1 h9, bI_some, i2l_iI (by omega) (by omega)]
            simp only [cmp_lt, cmp_gt]
            rw [lI_toInt (by omega) (by omega), lI_toInt (by omega) (by omega)]
            cases hbk : badB z (tv t k)
            · have hbk' := of_decide_eq_false hbk
              rw [if_neg (by omega), if_neg (by omega), iI_add]
              refine ih (k + 1) _ _ (by omega) ?_
              intro i hi
              by_cases e : i = k
              · subst e; exact hbk
              · exact hb i (by omega)
            · have hbk' := of_decide_eq_true hbk
              have ho : orN (fun k => badB z (tv t k)) (tn t) = true := orN_upto (k := k) (by omega) hbk
              rw [ho, if_pos rfl]
              by_cases q : (tv t k).toInt < -1
              · rw [if_pos q]
              · rw [if_neg q, if_pos (by omega)]
        exact go (tn t) 0 uns uns (by omega) (fun i hi => absurd hi (Nat.not_lt_zero i))
      · rw [if_neg hn]
        by_cases q : tn t < 1
        · rw [if_pos (by rw [iI_lt (by omega) (by omega) (by omega) (by omega)]; omega)]
        · rw [if_neg (by rw [iI_lt (by omega) (by omega) (by omega) (by omega)]; omega), if_pos (by rw [iI_lt (by omega) (by omega) (by omega) (by omega)]; omega)]
  · rw [decide_eq_false hx, b2i_f, if_pos (show iI 0 = 0 from rfl), if_neg hx, if_pos (show (-2 : Int) ≠ 0 by decide)]
theorem c_Mo_noTray (d : Nat) {M : Mem} {so : Nat → Int} {tn : Nat → Nat} {tv : Nat → Nat → Int64} (h : TrM M so tn tv) (x1 : Int32) : c2 (d + 2) m_Mo_noTray [.ref 197, .int x1] M = some (.int (iI (noT so x1.toInt)), M) := by
  show X2 (d + 1) m_Mo_noTray 0 [.ref 197, .int x1] [] M = _
  obtain ⟨x, rfl, c1, c2⟩ := iI_ex x1
  rw [e_Mo_noTray_0, c_Mo_within, bI_some, i2l_iI c1 c2, lI_toInt (by omega) (by omega), lI_toInt (by omega) (by omega), lI_toInt (by omega) (by omega), iI_toInt c1 c2, noT]
  by_cases hx : 0 ≤ x ∧ x ≤ 3
  · obtain ⟨t, rfl⟩ := Int.eq_ofNat_of_zero_le hx.1
    have ht : t < 4 := by omega
    obtain ⟨a, _, _, so1, so2, _⟩ := h t ht
    rw [decide_eq_true hx, b2i_t, if_neg (by decide), inb_ok (by omega) (by omega) (by omega), gb_T, ix_nat (by omega), a, if_pos (show 0 ≤ (t : Int) ∧ (t : Int) < 4 by omega), Int.toNat_natCast]
    by_cases hs : so t = -1
    · rw [if_pos (by rw [hs]), if_pos hs]
    · rw [if_neg (by rw [iI_eq (by omega) (by omega) (by omega) (by omega)]; exact hs), if_neg hs]
  · rw [decide_eq_false hx, b2i_f, if_pos (show iI 0 = 0 from rfl), if_neg (show ¬ (0 ≤ x ∧ x < 4) by omega)]
theorem noT_ok {so : Nat → Int} {x : Int} (h : noT so x = 0) : 0 ≤ x ∧ x < 4 ∧ so x.toNat ≠ -1 := by
  unfold noT at h
  split at h
  · rename_i q
    split at h
    · exact absurd h (by decide)
    · rename_i q2; exact ⟨q.1, q.2, q2⟩
  · exact absurd h (by decide)
theorem noT_rng (so : Nat → Int) (x : Int) : -6 ≤ noT so x ∧ noT so x ≤ 0 := by
  unfold noT; split
  · split <;> omega
  · omega
theorem c_Mo_noSeen (d : Nat) {M : Mem} {so : Nat → Int} {tn : Nat → Nat} {tv : Nat → Nat → Int64} (hz : OkZ (M.1 198)) (h : TrM M so tn tv) (x1 : Int32) : c2 (d + 3) m_Mo_noSeen [.ref 197, .int x1] M = some (.int (iI (noSeenI (M.1 198) so tn tv x1.toInt)), M) := by
  show X2 (d + 2) m_Mo_noSeen 0 [.ref 197, .int x1, uns, uns] [] M = _
  obtain ⟨x, rfl, c1, c2⟩ := iI_ex x1
  have hr := noT_rng so x
  rw [e_Mo_noSeen_0, c_Mo_noTray _ h, bI_some, iI_toInt c1 c2, noSeenI]
  by_cases hx : noT so x = 0
  · obtain ⟨q1, q2, q3⟩ := noT_ok hx
    obtain ⟨t, rfl⟩ := Int.eq_ofNat_of_zero_le q1
    have ht : t < 4 := by omega
    rw [Int.toNat_natCast] at q3
    obtain ⟨a, b, c, so1, so2, tn40⟩ := h t ht
    have hnb := (h t ht).2.1
    rw [if_pos (show iI (noT so (t : Int)) = 0 by rw [hx]; rfl), if_neg (show ¬ (noT so (t : Int) ≠ 0) by omega), Int.toNat_natCast, inb_ok (by omega) (by omega) (by omega), gb_T, ix_nat (by omega), b, c_Mo_within, bI_some]
    by_cases hn : 1 ≤ tn t ∧ tn t ≤ 10
    · rw [i2l_iI (by omega) (by omega), lI_toInt (by omega) (by omega), lI_toInt (by omega) (by omega), lI_toInt (by omega) (by omega), decide_eq_true (by omega), b2i_t, if_neg (by decide), if_pos hn]
      have go : ∀ (j k : Nat) (v2 : Value), j + k = tn t → (∀ i, i < k → badB (M.1 198) (tv t i) = false) → X2 (d + 2) m_Mo_noSeen 34 [.ref 197, .int (iI t), v2, .int (iI k)] [] M = some (.int (iI (if orN (fun k => badB (M.1 198) (tv t k)) (tn t) then -3 else 0)), M) := by
        intro j
        induction j with
        | zero =>
          intro k v2 hk hb
          rw [e_Mo_noSeen_34, inb_ok (by omega) (by omega) (by omega), gb_T, ix_nat (by omega), b, if_neg (by rw [iI_lt (by omega) (by omega) (by omega) (by omega)]; omega), orN_all (fun i hi => hb i (by omega))]
          rfl
        | succ j ih =>
          intro k v2 hk hb
          have nxt : badB (M.1 198) (tv t k) = false → X2 (d + 2) m_Mo_noSeen 34 [.ref 197, .int (iI t), v2, .int (iI ((k + 1 : Nat) : Int))] [] M = some (.int (iI (if orN (fun k => badB (M.1 198) (tv t k)) (tn t) then -3 else 0)), M) := fun hbk => by
            refine ih (k + 1) _ (by omega) ?_
            intro i hi
            by_cases e : i = k
            · subst e; exact hbk
            · exact hb i (by omega)
          rw [e_Mo_noSeen_34, inb_ok (z := (t : Int)) (by omega) (by omega) (by omega), gb_T, ix_nat (n := t) (by omega), b, if_pos (by rw [iI_lt (by omega) (by omega) (by omega) (by omega)]; omega), ix40 ht (by omega), inb_ok (by omega) (by omega) (by omega), gb_T, gb_T, ix_nat (by omega), c k (by omega), c_Mo_isWall _ hz, bI_some, iI_add]
          simp only [cmp_eq]
          by_cases q : tv t k = lI (-1)
          · rw [if_pos q]
            refine nxt (decide_eq_false ?_)
            rw [q, lI_toInt (by decide) (by decide)]
            have : (0 : Int) ≤ ((2 ^ nz (M.1 198) : Nat) : Int) := Int.natCast_nonneg _
            omega
          · rw [if_neg q]
            have hne : (tv t k).toInt ≠ -1 := fun e => q (by rw [← lI_self (tv t k), e])
            by_cases hw : 0 ≤ (tv t k).toInt ∧ (tv t k).toInt < ((2 ^ nz (M.1 198) : Nat) : Int)
            · rw [decide_eq_true hw, b2i_t, if_neg (by decide)]
              exact nxt (decide_eq_false (by omega))
            · rw [decide_eq_false hw, b2i_f, if_pos (by decide)]
              have hbk : badB (M.1 198) (tv t k) = true := decide_eq_true (by omega)
              have ho : orN (fun k => badB (M.1 198) (tv t k)) (tn t) = true := orN_upto (k := k) (by omega) hbk
              rw [ho, if_pos rfl]
      rw [hx]
      exact go (tn t) 0 _ (by omega) (fun i hi => absurd hi (Nat.not_lt_zero i))
    · rw [i2l_iI (by omega) (by omega), lI_toInt (by omega) (by omega), lI_toInt (by omega) (by omega), lI_toInt (by omega) (by omega), decide_eq_false (by omega), b2i_f, if_pos (by decide), if_neg hn]
  · rw [if_neg (by rw [iI_eq0 (by omega) (by omega)]; exact hx), if_pos hx]
