/-! SEEN: rows of blinds by which walls are seen; the mathematics. -/
def rsN (f : Nat → Nat → Nat) (wl : Nat → Nat) (fit : Nat → Nat → Bool) : Nat → Nat → Nat → Nat
  | 0, _, _ => 1
  | j + 1, i, s => (if fit i (wl (f s 0)) then rsN f wl fit j (i + 1) (f s 0) else 0) + (if fit i (wl (f s 1)) then rsN f wl fit j (i + 1) (f s 1) else 0)
def pOK (f : Nat → Nat → Nat) (wl : Nat → Nat) (fit : Nat → Nat → Bool) : Nat → Nat → Nat → Nat → Bool
  | 0, _, _, _ => true
  | j + 1, i, s, r => fit i (wl (f s (if r.testBit j then 1 else 0))) && pOK f wl fit j (i + 1) (f s (if r.testBit j then 1 else 0)) r
section Sn
variable {f : Nat → Nat → Nat} {wl : Nat → Nat} {fit : Nat → Nat → Bool}
theorem rsN_le : ∀ j i s, rsN f wl fit j i s ≤ 2 ^ j
  | 0, _, _ => Nat.le_refl 1
  | j + 1, i, s => by
    have a := rsN_le j (i + 1) (f s 0)
    have b := rsN_le j (i + 1) (f s 1)
    rw [rsN, Nat.pow_succ]
    split <;> split <;> omega
theorem pOK_bits : ∀ j i s r r', (∀ m, m < j → r.testBit m = r'.testBit m) → pOK f wl fit j i s r = pOK f wl fit j i s r'
  | 0, _, _, _, _, _ => rfl
  | j + 1, i, s, r, r', h => by
    rw [pOK, pOK, h j (by omega), pOK_bits j (i + 1) _ r r' (fun m hm => h m (by omega))]
theorem cnt_add (p : Nat → Bool) (a : Nat) : ∀ b, cnt p (a + b) = cnt p a + cnt (fun k => p (a + k)) b
  | 0 => rfl
  | b + 1 => by rw [← Nat.add_assoc, cnt, cnt, cnt_add p a b]; omega
theorem cnt_and (c : Bool) (g : Nat → Bool) (n : Nat) : cnt (fun r => c && g r) n = if c then cnt g n else 0 := by
  cases c
  · exact cnt_none n (fun _ _ => rfl)
  · exact cnt_congr n (fun _ _ => rfl)
theorem pOK_lo {j i s r : Nat} (h : r < 2 ^ j) : pOK f wl fit (j + 1) i s r = (fit i (wl (f s 0)) && pOK f wl fit j (i + 1) (f s 0) r) := by
  rw [pOK, Nat.testBit_lt_two_pow h]; rfl
theorem pOK_hi {j i s r : Nat} (h : r < 2 ^ j) : pOK f wl fit (j + 1) i s (2 ^ j + r) = (fit i (wl (f s 1)) && pOK f wl fit j (i + 1) (f s 1) r) := by
  rw [pOK, Nat.testBit_two_pow_add_eq, Nat.testBit_lt_two_pow h]
  show (fit i (wl (f s 1)) && pOK f wl fit j (i + 1) (f s 1) (2 ^ j + r)) = _
  rw [pOK_bits j (i + 1) _ (2 ^ j + r) r (fun m hm => Nat.testBit_two_pow_add_gt hm r)]
theorem pOK_cnt : ∀ j i s, cnt (fun r => pOK f wl fit j i s r) (2 ^ j) = rsN f wl fit j i s
  | 0, _, _ => rfl
  | j + 1, i, s => by
    rw [Nat.pow_succ, Nat.mul_two, cnt_add, cnt_congr (2 ^ j) (fun r hr => pOK_lo hr), cnt_congr (2 ^ j) (fun r hr => pOK_hi hr), cnt_and, cnt_and, pOK_cnt j, pOK_cnt j, rsN]
theorem cnt_pos {p : Nat → Bool} : ∀ n, 0 < cnt p n → ∃ k, k < n ∧ p k = true
  | 0, h => absurd h (Nat.lt_irrefl 0)
  | n + 1, h => by
    rw [cnt] at h
    cases hp : p n
    · rw [hp] at h
      obtain ⟨k, k1, k2⟩ := cnt_pos n (by simpa using h)
      exact ⟨k, by omega, k2⟩
    · exact ⟨n, by omega, hp⟩
theorem cnt_zero {p : Nat → Bool} {n : Nat} (h : cnt p n = 0) : ∀ k, k < n → p k = false := by
  intro k hk
  cases hp : p k
  · rfl
  · exfalso
    have : ∀ m, k < m → 0 < cnt p m := by
      intro m
      induction m with
      | zero => intro h; exact absurd h (Nat.not_lt_zero k)
      | succ m ih =>
        intro hm
        rw [cnt]
        by_cases e : k = m
        · subst e; rw [hp]; simp
        · have := ih (by omega); omega
    have := this n hk
    omega
/-- the first of the rows -/
def grd (f : Nat → Nat → Nat) (wl : Nat → Nat) (fit : Nat → Nat → Bool) : Nat → Nat → Nat → Nat
  | 0, _, _ => 0
  | j + 1, i, s => if fit i (wl (f s 0)) = true ∧ 0 < rsN f wl fit j (i + 1) (f s 0) then grd f wl fit j (i + 1) (f s 0) else 2 ^ j + grd f wl fit j (i + 1) (f s 1)
theorem grd_ok : ∀ j i s, 0 < rsN f wl fit j i s → grd f wl fit j i s < 2 ^ j ∧ pOK f wl fit j i s (grd f wl fit j i s) = true ∧ ∀ r, r < grd f wl fit j i s → pOK f wl fit j i s r = false
  | 0, i, s, _ => ⟨Nat.one_pos, rfl, fun r hr => absurd hr (Nat.not_lt_zero r)⟩
  | j + 1, i, s, h => by
    rw [grd]
    by_cases c : fit i (wl (f s 0)) = true ∧ 0 < rsN f wl fit j (i + 1) (f s 0)
    · rw [if_pos c]
      obtain ⟨a1, a2, a3⟩ := grd_ok j (i + 1) (f s 0) c.2
      refine ⟨by rw [Nat.pow_succ]; omega, by rw [pOK_lo a1, c.1, a2]; rfl, fun r hr => ?_⟩
      rw [pOK_lo (by omega), a3 r hr, Bool.and_false]
    · rw [if_neg c]
      have z0 : (if fit i (wl (f s 0)) then rsN f wl fit j (i + 1) (f s 0) else 0) = 0 := by
        split
        · rename_i q
          rcases Nat.eq_zero_or_pos (rsN f wl fit j (i + 1) (f s 0)) with x | x
          · exact x
          · exact absurd ⟨q, x⟩ c
        · rfl
      have lo : ∀ r, r < 2 ^ j → pOK f wl fit (j + 1) i s r = false := by
        have : cnt (fun r => pOK f wl fit (j + 1) i s r) (2 ^ j) = 0 := by
          rw [cnt_congr (2 ^ j) (fun r hr => pOK_lo hr), cnt_and, pOK_cnt j]; exact z0
        exact cnt_zero this
      rw [rsN, z0, Nat.zero_add] at h
      have c1 : fit i (wl (f s 1)) = true ∧ 0 < rsN f wl fit j (i + 1) (f s 1) := by
        split at h
        · rename_i q; exact ⟨q, h⟩
        · exact absurd h (Nat.lt_irrefl 0)
      obtain ⟨a1, a2, a3⟩ := grd_ok j (i + 1) (f s 1) c1.2
      refine ⟨by rw [Nat.pow_succ]; omega, by rw [pOK_hi a1, c1.1, a2]; rfl, fun r hr => ?_⟩
      rcases Nat.lt_or_ge r (2 ^ j) with x | x
      · exact lo r x
      · obtain ⟨q, rfl⟩ : ∃ q, r = 2 ^ j + q := ⟨r - 2 ^ j, by omega⟩
        rw [pOK_hi (by omega), a3 q (by omega), Bool.and_false]
/-- the blind that is first -/
def fbN (f : Nat → Nat → Nat) (wl : Nat → Nat) (fit : Nat → Nat → Bool) (j i s : Nat) : Nat := if fit i (wl (f s 0)) = true ∧ 0 < rsN f wl fit j (i + 1) (f s 0) then 0 else 1
theorem fbN_lt (j i s : Nat) : fbN f wl fit j i s < 2 := by unfold fbN; split <;> omega
theorem grd_top {j i s : Nat} (h : 0 < rsN f wl fit (j + 1) i s) : (grd f wl fit (j + 1) i s).testBit j = decide (fbN f wl fit j i s = 1) ∧ (∀ m, m < j → (grd f wl fit (j + 1) i s).testBit m = (grd f wl fit j (i + 1) (f s (fbN f wl fit j i s))).testBit m) ∧ 0 < rsN f wl fit j (i + 1) (f s (fbN f wl fit j i s)) := by
  rw [grd]
  unfold fbN
  by_cases c : fit i (wl (f s 0)) = true ∧ 0 < rsN f wl fit j (i + 1) (f s 0)
  · rw [if_pos c, if_pos c]
    exact ⟨Nat.testBit_lt_two_pow (grd_ok j (i + 1) (f s 0) c.2).1, fun m _ => rfl, c.2⟩
  · rw [if_neg c, if_neg c]
    have z0 : (if fit i (wl (f s 0)) then rsN f wl fit j (i + 1) (f s 0) else 0) = 0 := by
      split
      · rename_i q
        rcases Nat.eq_zero_or_pos (rsN f wl fit j (i + 1) (f s 0)) with x | x
        · exact x
        · exact absurd ⟨q, x⟩ c
      · rfl
    rw [rsN, z0, Nat.zero_add] at h
    have c1 : 0 < rsN f wl fit j (i + 1) (f s 1) := by
      split at h
      · exact h
      · exact absurd h (Nat.lt_irrefl 0)
    refine ⟨?_, fun m hm => Nat.testBit_two_pow_add_gt hm _, c1⟩
    rw [Nat.testBit_two_pow_add_eq, Nat.testBit_lt_two_pow (grd_ok j (i + 1) (f s 1) c1).1]; rfl
end Sn
/-- of places and of stands the same -/
theorem rs_both {z : Row} (hz : OkZ z) (tm : Nat) (fit : Nat → Nat → Bool) : ∀ j i s, OkS z s → rsN (pas z tm) (fun p => p % 512) fit j i (plc s) = rsN (thn z tm) (fun s => s / 5) fit j i s
  | 0, _, _, _ => rfl
  | j + 1, i, s, ok => by
    have key : ∀ b, pas z tm (plc s) b = plc (thn z tm s b) ∧ OkS z (thn z tm s b) ∧ plc (thn z tm s b) % 512 = thn z tm s b / 5 := fun b => by
      rw [thn_ok ok]
      have o := nxt_ok hz tm ok b
      exact ⟨pas_plc hz tm s b (ok.lt hz).2.2 ok.2, o, plc_wall (o.lt hz).2.2⟩
    rw [rsN, rsN, (key 0).1, (key 1).1, (key 0).2.2, (key 1).2.2, rs_both hz tm fit j (i + 1) _ (key 0).2.1, rs_both hz tm fit j (i + 1) _ (key 1).2.1]
/-! the class -/
theorem c_RW_rowsSeen {r : Nat} {z : Row} {tm st : Nat} {so : Nat → Int} {tn : Nat → Nat} {tv : Nat → Nat → Int64} {t : Nat} (ht : t < 4) (hs : so t ≠ -1) (hn : tn t ≤ 10) : ∀ (j i d p : Nat) (M : Mem), i + j = tn t → StepsC M r z tm st → TrC M so tn tv → p < 2560 →
    ∃ M', c2 (d + 7 + j) m_RW_rowsSeen [.ref 100, .ref (189 + 2 * t), .int (iI p), .int (iI i)] M = some (.int (iI (rsN (pas z tm) (fun p => p % 512) (fun k w => fitB (tv t k) w) j i p)), M') ∧ Eqx [128, 129, 130, 131, r + 6, r + 9] M M' ∧ StepsC M' r z tm st := by
  intro j
  induction j with
  | zero =>
    intro i d p M hi hS hT hp
    show ∃ M', X2 (d + 6) m_RW_rowsSeen 0 [.ref 100, .ref (189 + 2 * t), .int (iI p), .int (iI i), uns, uns, uns] [] M = _ ∧ _
    rw [e_RW_rowsSeen_0, tr_k ht, gb_T, ((hT t ht).2.1 hs).2.1, if_neg (by rw [iI_lt (by omega) (by omega) (by omega) (by omega)]; omega)]
    exact ⟨M, rfl, Eqx.rf, hS⟩
  | succ j ih =>
    intro i d p M hi hS hT hp
    have hr := hS.1
    have hrl := rm_lt r hr
    have hz := hS.2.2.2.1
    have one : ∀ (b x4 : Nat) (v6 : Value) (M1 : Mem), b < 2 → StepsC M1 r z tm st → TrC M1 so tn tv → Eqx [128, 129, 130, 131, r + 6, r + 9] M M1 → ∃ M2 v6', X2 (d + 7 + j) m_RW_rowsSeen 22 [.ref 100, .ref (189 + 2 * t), .int (iI p), .int (iI i), .int (iI x4), .int (iI b), v6] [] M1 = X2 (d + 7 + j) m_RW_rowsSeen 22 [.ref 100, .ref (189 + 2 * t), .int (iI p), .int (iI i), .int (iI ((x4 + (if fitB (tv t i) (pas z tm p b % 512) then rsN (pas z tm) (fun p => p % 512) (fun k w => fitB (tv t k) w) j (i + 1) (pas z tm p b) else 0) : Nat) : Int)), .int (iI ((b + 1 : Nat) : Int)), v6'] [] M2 ∧ StepsC M2 r z tm st ∧ TrC M2 so tn tv ∧ Eqx [128, 129, 130, 131, r + 6, r + 9] M M2 := by
      intro b x4 v6 M1 hb hS1 hT1 hE1
      obtain ⟨M2, e2, hE2, hS2⟩ := c_Stp_next (d + 2 + j) (p := p) (bl := b) hS1 hp hb
      rw [show d + 2 + j + 5 = d + 7 + j by omega] at e2
      have hT2 : TrC M2 so tn tv := hT1.fr hE2 (by intro a ha; simp only [List.mem_cons, List.not_mem_nil, or_false] at ha; omega)
      have hpl := pas_lt hz tm b hp
      have ef := c_Tray_fits (d + 5 + j) hT2 ht hs (k := i) (w := pas z tm p b % 512) (by omega) (by omega)
      rw [show d + 5 + j + 2 = d + 7 + j by omega] at ef
      rw [e_RW_rowsSeen_22, if_neg (by rw [iI_lt (by omega) (by omega) (by omega) (by omega)]; omega), e2, bI_some, tr_k ht, tt_and, gb_T, and511m, ef, bI_some, iI_add, iI_add]
      cases hf : fitB (tv t i) (pas z tm p b % 512)
      · rw [b2i_f, if_pos (show iI 0 = 0 from rfl)]
        exact ⟨M2, _, rfl, hS2, hT2, hE1.tr hE2⟩
      · obtain ⟨M3, e3, hE3, hS3⟩ := ih (i + 1) d (pas z tm p b) M2 (by omega) hS2 hT2 hpl
        have e3' : c2 (d + 7 + j) m_RW_rowsSeen [.ref 100, .ref (189 + 2 * t), .int (iI (pas z tm p b)), .int (iI ((i : Int) + 1))] M2 = _ := e3
        rw [b2i_t, if_neg (show ¬ (iI 1 = 0) by decide), e3', bI_some, iI_add]
        exact ⟨M3, _, rfl, hS3, hT2.fr hE3 (by intro a ha; simp only [List.mem_cons, List.not_mem_nil, or_false] at ha; omega), (hE1.tr hE2).tr hE3⟩
    show ∃ M', X2 (d + 7 + j) m_RW_rowsSeen 0 [.ref 100, .ref (189 + 2 * t), .int (iI p), .int (iI i), uns, uns, uns] [] M = _ ∧ _
    rw [e_RW_rowsSeen_0, tr_k ht, gb_T, ((hT t ht).2.1 hs).2.1, if_pos (by rw [iI_lt (by omega) (by omega) (by omega) (by omega)]; omega), if_neg (by rw [iI_lt (by omega) (by omega) (by omega) (by omega)]; omega)]
    obtain ⟨M2, v2, e2, hS2, hT2, hE2⟩ := one 0 0 uns M (by decide) hS hT Eqx.rf
    obtain ⟨M3, v3, e3, hS3, hT3, hE3⟩ := one 1 _ v2 M2 (by decide) hS2 hT2 hE2
    have e2' : X2 (d + 7 + j) m_RW_rowsSeen 22 [.ref 100, .ref (189 + 2 * t), .int (iI p), .int (iI i), .int (iI 0), .int (iI 0), uns] [] M = _ := e2
    rw [e2']
    rw [show (0 + 1 : Nat) = 1 from rfl, e3, e_RW_rowsSeen_22, if_pos (by decide), Nat.zero_add]
    exact ⟨M3, rfl, hE3, hS3⟩
/-! the reference -/
theorem c_Mo_isRow (d : Nat) {M : Mem} {z : Row} {tm : Nat} {so : Nat → Int} {tn : Nat → Nat} {tv : Nat → Nat → Int64} {t s rr : Nat} (hz : OkZ z) (hT : ThenM M z tm (5 * 2 ^ nz z)) (h : TrM M so tn tv) (ht : t < 4) (hn : tn t ≤ 10) (ok : OkS z s) (hrr : rr < 1024) :
    c2 (d + 2) m_Mo_isRow [.ref 197, .int (iI t), .int (iI rr), .int (iI s)] M = some (.int (iI (b2i (pOK (thn z tm) (fun s => s / 5) (fun k w => fitB (tv t k) w) (tn t) 0 s rr))), M) := by
  have h9 := nz_le hz
  have hp := pow9 h9
  have go : ∀ (j i s : Nat) (v3 : Value), i + j = tn t → OkS z s → X2 (d + 1) m_Mo_isRow 6 [.ref 197, .int (iI t), .int (iI rr), v3, .int (iI s), .int (iI i)] [] M = some (.int (iI (b2i (pOK (thn z tm) (fun s => s / 5) (fun k w => fitB (tv t k) w) j i s rr))), M) := by
    intro j
    induction j with
    | zero =>
      intro i s v3 hi ok
      rw [e_Mo_isRow_6, inb_ok (by omega) (by omega) (by omega), gb_T, ix_nat (by omega), (h t ht).2.1, if_neg (by rw [iI_lt (by omega) (by omega) (by omega) (by omega)]; omega)]
      rfl
    | succ j ih =>
      intro i s v3 hi ok
      have hl := ok.lt hz
      have eb : c2 (d + 1) m_Mo_blindIn [.ref 197, .int (iI t), .int (iI rr), .int (iI i)] M = some (.int (iI ((if rr.testBit j then 1 else 0 : Nat) : Int)), M) := by
        show X2 d m_Mo_blindIn 0 [.ref 197, .int (iI t), .int (iI rr), .int (iI i)] [] M = _
        rw [e_Mo_blindIn_0, inb_ok (by omega) (by omega) (by omega), gb_T, ix_nat (by omega), (h t ht).2.1, iI_sub, iI_sub, show (tn t : Int) - 1 - (i : Int) = (j : Int) by omega, iI_bit (by omega) (by omega)]
      generalize hb : (if rr.testBit j then 1 else 0 : Nat) = b at *
      have hb2 : b < 2 := by rw [← hb]; split <;> omega
      have e2 : iI 2 * iI s + iI b = iI ((2 * s + b : Nat) : Int) := by rw [iI_mul, iI_add]; rfl
      have tl := thn_lt hz tm b hl.1
      have tok : OkS z (thn z tm s b) := by rw [thn_ok ok]; exact nxt_ok hz tm ok b
      rw [e_Mo_isRow_6, inb_ok (z := (t : Int)) (by omega) (by omega) (by omega), gb_T, ix_nat (n := t) (by omega), (h t ht).2.1, if_pos (by rw [iI_lt (by omega) (by omega) (by omega) (by omega)]; omega), eb, bI_some, e2, inb_ok (by omega) (by omega) (by omega), gb_T, ix_nat (by omega), hT s hl.1 b hb2, show iI 5 = iI ((5 : Nat) : Int) from rfl, iI_div (by omega) (by decide), c_Mo_isSeen _ h ht (by omega) (by omega), bI_some, iI_add, pOK, hb]
      cases hf : fitB (tv t i) (thn z tm s b / 5)
      · rw [b2i_f, if_pos (show iI 0 = 0 from rfl)]; rfl
      · rw [b2i_t, if_neg (show ¬ (iI 1 = 0) by decide), Bool.true_and]
        exact ih (i + 1) _ _ (by omega) tok
  show X2 (d + 1) m_Mo_isRow 0 [.ref 197, .int (iI t), .int (iI rr), .int (iI s), uns, uns] [] M = _
  rw [e_Mo_isRow_0]
  exact go (tn t) 0 s _ (by omega) ok
/-- a question that reads a tray -/
def PairT (mc mm : MD) (as : List Value) (z : Row) (w who tm : Nat) (so : Nat → Int) (tn : Nat → Nat) (tv : Nat → Nat → Int64) : Prop := ∀ d M r ni st, QC M r z w who tm ni st → TrC M so tn tv → st < 99999 → ∃ v M' st', c2 (d + 80) mc (.ref 100 :: as) M = some (.int v, M') ∧ Eqx (scr r) M M' ∧ QC M' r z w who tm ni st' ∧ st' ≤ st + 1 ∧ (∀ M2, QM M2 z w who tm → TrM M2 so tn tv → ∃ M2', c2 (d + 80) mm (.ref 197 :: as) M2 = some (.int v, M2') ∧ ResM M2 M2')
theorem noSeen_ok {z : Row} {so : Nat → Int} {tn : Nat → Nat} {tv : Nat → Nat → Int64} {x : Int} (h : noSeenI z so tn tv x = 0) : 0 ≤ x ∧ x < 4 ∧ so x.toNat ≠ -1 ∧ 1 ≤ tn x.toNat ∧ tn x.toNat ≤ 10 := by
  unfold noSeenI at h
  split at h
  · rename_i q; exact absurd h q
  · rename_i q
    have a := noT_ok (so := so) (x := x) (Classical.byContradiction q)
    split at h
    · rename_i q2; exact ⟨a.1, a.2.1, a.2.2, q2.1, q2.2⟩
    · exact absurd h (by decide)
theorem noSeen_rng (z : Row) (so : Nat → Int) (tn : Nat → Nat) (tv : Nat → Nat → Int64) (x : Int) : -6 ≤ noSeenI z so tn tv x ∧ noSeenI z so tn tv x ≤ 0 := by
  have := noT_rng so x
  unfold noSeenI
  split
  · exact this
  · split
    · split <;> omega
    · omega
theorem shl1 {n : Nat} (h : n ≤ 10) : iI 1 <<< (iI n &&& 31) = iI ((2 ^ n : Nat) : Int) ∧ 2 ^ n ≤ 1024 := by
  rw [iI_shl1 (by omega), Nat.one_shiftLeft]
  exact ⟨rfl, Nat.pow_le_pow_right (by decide) h⟩
theorem p_seen (z : Row) (w who tm : Nat) (so : Nat → Int) (tn : Nat → Nat) (tv : Nat → Nat → Int64) (x1 : Int32) : PairT m_RW_seen m_Mo_seen [.int x1] z w who tm so tn tv := by
  intro d M r ni st hQ hTr hst
  obtain ⟨x, rfl, k1, k2⟩ := iI_ex x1
  have hz := hQ.okz
  have hr := hQ.rm
  have hrl := hQ.rl
  have hR := hQ.room
  have hng := noSeen_rng z so tn tv x
  obtain ⟨_, h5, hN, hO, htm, hwho, hw⟩ := id hQ
  show ∃ v M' st', X2 (d + 79) m_RW_seen 0 [.ref 100, .int (iI x), uns] [] M = _ ∧ _
  rw [e_RW_seen_0, c_RW_refusedSeen _ hr h5 hR hz hTr, bI_some, iI_toInt k1 k2]
  by_cases h0 : noSeenI z so tn tv x = 0
  · obtain ⟨y1, y2, y3, y4, y5⟩ := noSeen_ok h0
    obtain ⟨t, rfl⟩ := Int.eq_ofNat_of_zero_le y1
    rw [Int.toNat_natCast] at y3 y4 y5
    have ht : t < 4 := by omega
    obtain ⟨M1, st1, e1, hE1, hS1, hle, hQ1⟩ := hQ.hre (d + 76) (by omega)
    obtain ⟨M2, e2, hE2, hS2⟩ := c_RW_rowsSeen (tv := tv) ht y3 y5 (tn t) 0 (d + 72 - tn t) (w + 512 * who) M1 (by omega) hS1 (hTr.sc hrl.2 hE1) (by omega)
    rw [show d + 72 - tn t + 7 + tn t = d + 79 by omega] at e2
    have hE3 : Eqx (scr r) M M2 := hE1.tr (hE2.mono (scr_sub (by intro a ha; simp only [List.mem_cons, List.not_mem_nil, or_false] at ha; omega)))
    have e2' : c2 (d + 79) m_RW_rowsSeen [.ref 100, .ref (189 + 2 * t), .int (iI ((w + 512 * who : Nat) : Int)), .int (iI 0)] M1 = _ := e2
    rw [if_pos (show iI (noSeenI z so tn tv (t : Int)) = 0 by rw [h0]; rfl), ff_inb ht, gb_T, e1, bI_some, ix_nat (by omega), tr_ref ht, e2', bI_some, plc_now hwho, rs_both hz tm _ _ _ _ hO]
    refine ⟨_, M2, st1, rfl, hE3, hQ.fr hE3 hS2, hle, ?_⟩
    intro M3 hM hTM
    have hM1 := hM.res (ResM.thr M3)
    have hTM1 := hTM.res (ResM.thr M3)
    obtain ⟨M4, e4, hE4, hT4⟩ := c_Mo_laysThen (d + 73) (M0 := wI M3 197 0 (iI 0)) (tm := tm) hM1.okz hM1.tm
    rw [hM1.1] at hT4
    have hR4 : ResM (wI M3 197 0 (iI 0)) M4 := ResM.of hE4 (by intro a ha; simp only [List.mem_cons, List.not_mem_nil, or_false] at ha; omega)
    have hTM4 := hTM1.res hR4
    have hst4 := (hM1.res hR4).stand
    obtain ⟨s1, s2⟩ := shl1 y5
    have go : ∀ (j k : Nat) (v2 : Value), j + k = 2 ^ tn t → X2 (d + 79) m_Mo_seen 26 [.ref 197, .int (iI t), v2, .int (iI (cnt (fun rr => pOK (thn z tm) (fun s => s / 5) (fun k w => fitB (tv t k) w) (tn t) 0 (5 * w + who) rr) k)), .int (iI k)] [] M4 = some (.int (iI (cnt (fun rr => pOK (thn z tm) (fun s => s / 5) (fun k w => fitB (tv t k) w) (tn t) 0 (5 * w + who) rr) (2 ^ tn t))), M4) := by
      intro j
      induction j with
      | zero =>
        intro k v2 hk
        rw [e_Mo_seen_26, inb_ok (by omega) (by omega) (by omega), gb_T, ix_nat (by omega), (hTM4 t ht).2.1, s1, if_neg (by rw [iI_lt (by omega) (by omega) (by omega) (by omega)]; omega), show k = 2 ^ tn t by omega]
      | succ j ih =>
        intro k v2 hk
        have this := ih (k + 1) v2 (by omega)
        have hs := cnt_s (fun rr => pOK (thn z tm) (fun s => s / 5) (fun k w => fitB (tv t k) w) (tn t) 0 (5 * w + who) rr) k
        rw [e_Mo_seen_26, inb_ok (by omega) (by omega) (by omega), gb_T, ix_nat (by omega), (hTM4 t ht).2.1, s1, if_pos (by rw [iI_lt (by omega) (by omega) (by omega) (by omega)]; omega), c_Mo_standNow, bI_some, show iI 5 * gI M4 198 25 + gI M4 198 26 = iI ((5 * w + who : Nat) : Int) from hst4, c_Mo_isRow _ hz hT4 hTM4 ht y5 hO (by omega), bI_some, iI_add, iI_add, iI_add]
        cases hq : pOK (thn z tm) (fun s => s / 5) (fun k w => fitB (tv t k) w) (tn t) 0 (5 * w + who) k
        · rw [b2i_f, if_pos (show iI 0 = 0 from rfl)]
          rw [hq] at hs
          rw [hs] at this; exact this
        · rw [b2i_t, if_neg (show ¬ (iI 1 = 0) by decide)]
          rw [hq] at hs
          rw [hs] at this; exact this
    have g0 := go (2 ^ tn t) 0 (.int (iI 0)) (by omega)
    rw [pOK_cnt] at g0
    show ∃ M2', X2 (d + 79) m_Mo_seen 0 [.ref 197, .int (iI t), uns, uns, uns] [] M3 = _ ∧ _
    rw [e_Mo_seen_0, c_Mo_noSeen _ hM1.okz hTM1, bI_some, hM1.1, iI_toInt k1 k2, h0, if_pos (show iI 0 = 0 from rfl), e4, bV_some]
    exact ⟨M4, g0, (ResM.thr M3).tr hR4⟩
  · rw [if_neg (show ¬ (iI (noSeenI z so tn tv x) = 0) by rw [iI_eq0 (by omega) (by omega)]; exact h0)]
    refine ⟨_, M, st, rfl, Eqx.rf, hQ, by omega, ?_⟩
    intro M3 hM hTM
    have hM1 := hM.res (ResM.thr M3)
    have hTM1 := hTM.res (ResM.thr M3)
    show ∃ M2', X2 (d + 79) m_Mo_seen 0 [.ref 197, .int (iI x), uns, uns, uns] [] M3 = _ ∧ _
    rw [e_Mo_seen_0, c_Mo_noSeen _ hM1.okz hTM1, bI_some, hM1.1, iI_toInt k1 k2, if_neg (show ¬ (iI (noSeenI z so tn tv x) = 0) by rw [iI_eq0 (by omega) (by omega)]; exact h0)]
    exact ⟨_, rfl, ResM.thr M3⟩
