/-! CHANCES: both sides' numbers. -/
def shN (z : Row) (tm o : Nat) : Nat → Nat → Nat
  | 0, p => if p / 512 = 4 then 0 else 1
  | n + 1, p => if p / 512 = 4 then 0 else o * shN z tm o n (pas z tm p 1) + (10 - o) * shN z tm o n (pas z tm p 0)
theorem shN_4 (z : Row) (tm o : Nat) {p : Nat} (h : p / 512 = 4) : ∀ n, shN z tm o n p = 0
  | 0 => if_pos h
  | _ + 1 => if_pos h
theorem shN_le (z : Row) (tm : Nat) {o : Nat} (ho : o ≤ 10) : ∀ n p, shN z tm o n p ≤ 10 ^ n
  | 0, p => by rw [shN]; split <;> omega
  | n + 1, p => by
    rw [shN]
    split
    · exact Nat.zero_le _
    · have h1 := Nat.mul_le_mul_left o (shN_le z tm ho n (pas z tm p 1))
      have h2 := Nat.mul_le_mul_left (10 - o) (shN_le z tm ho n (pas z tm p 0))
      have h3 : o * 10 ^ n + (10 - o) * 10 ^ n = 10 ^ n * 10 := by rw [← Nat.add_mul, Nat.mul_comm]; congr 1; omega
      rw [Nat.pow_succ]; omega
theorem c_RW_share {r : Nat} {z : Row} {tm st o : Nat} (ho : z 5 = iI o) (ho2 : o ≤ 10) : ∀ (n d p : Nat) (M : Mem), n ≤ 8 → StepsC M r z tm st → gR M 100 5 = r → p < 2560 →
    ∃ M', c2 (d + 6 + n) m_RW_share [.ref 100, .int (iI p), .int (iI n)] M = some (.int (iI (shN z tm o n p)), M') ∧ Eqx [128, 129, 130, 131, r + 6, r + 9] M M' ∧ StepsC M' r z tm st := by
  intro n
  induction n with
  | zero =>
    intro d p M _ hS h5 hp
    show ∃ M', X2 (d + 5) m_RW_share 0 [.ref 100, .int (iI p), .int (iI ((0 : Nat) : Int)), uns] [] M = _ ∧ _
    rw [e_RW_share_0, shr9 (by omega)]
    by_cases h4 : p / 512 = 4
    · rw [if_pos (by rw [h4]; rfl), shN_4 z tm o h4]; exact ⟨M, rfl, Eqx.rf, hS⟩
    · rw [if_neg (by rw [iI_eq (by omega) (by omega) (by omega) (by omega)]; omega), if_neg (by decide), if_neg (by decide), shN, if_neg h4]
      exact ⟨M, rfl, Eqx.rf, hS⟩
  | succ n ih =>
    intro d p M hn hS h5 hp
    have hr := hS.1
    have hrl := rm_lt r hr
    have hz := hS.2.2.2.1
    have g7 : ∀ M, StepsC M r z tm st → gI M r 7 = iI o := fun M h => h.2.2.1.1.2.2.2.2.2.1.trans ho
    have e1 : iI ((n + 1 : Nat) : Int) - iI 1 = iI n := by rw [iI_sub]; congr 1; omega
    have b9 : ¬ (iI 8 < iI ((n + 1 : Nat) : Int)) := by rw [iI_lt (by omega) (by omega) (by omega) (by omega)]; omega
    have b0 : 0 < iI ((n + 1 : Nat) : Int) := by rw [iI_0lt (by omega) (by omega)]; omega
    have hm : ∀ M M' : Mem, Eqx [128, 129, 130, 131, r + 6, r + 9] M M' → gR M 100 5 = r → gR M' 100 5 = r := fun M M' hE h => (eqx_R hE (by simp <;> omega) 5).trans h
    -- the second half
    have half : ∀ (x3 : Nat) (M1 : Mem), StepsC M1 r z tm st → gR M1 100 5 = r → Eqx [128, 129, 130, 131, r + 6, r + 9] M M1 → x3 = o * shN z tm o n (pas z tm p 1) → ¬ (p / 512 = 4) → ∃ M', X2 (d + 6 + n) m_RW_share 61 [.ref 100, .int (iI p), .int (iI ((n + 1 : Nat) : Int)), .int (iI x3)] [] M1 = some (.int (iI (shN z tm o (n + 1) p)), M') ∧ Eqx [128, 129, 130, 131, r + 6, r + 9] M M' ∧ StepsC M' r z tm st := by
      intro x3 M1 hS1 h51 hE1 hx h4
      rw [e_RW_share_61, h51, rm_k _ r hr, gb_T, g7 M1 hS1]
      rw [shN, if_neg h4, ← hx]
      by_cases hq : o < 10
      · rw [if_pos (by rw [iI_lt (by omega) (by omega) (by omega) (by omega)]; omega), gb_T]
        obtain ⟨M2, e2, hE2, hS2⟩ := c_Stp_next (d + 1 + n) (p := p) (bl := 0) hS1 hp (by decide)
        rw [show d + 1 + n + 5 = d + 6 + n by omega] at e2
        have hpl := pas_lt hz tm 0 hp
        obtain ⟨M3, e3, hE3, hS3⟩ := ih d (pas z tm p 0) M2 (by omega) hS2 (hm _ _ hE2 h51) hpl
        have e2' : c2 (d + 6 + n) m_Stp_next [.ref 127, .int (iI p), .int (iI 0)] M1 = _ := e2
        rw [e2', bI_some, e1, e3, bI_some, iI_sub, iI_mul, iI_add]
        refine ⟨M3, ?_, (hE1.tr hE2).tr hE3, hS3⟩
        congr 4
        rw [Int.natCast_add, Int.natCast_mul]
        congr 2
        omega
      · rw [if_neg (by rw [iI_lt (by omega) (by omega) (by omega) (by omega)]; omega), show 10 - o = 0 by omega, Nat.zero_mul, Nat.add_zero]
        exact ⟨M1, rfl, hE1, hS1⟩
    show ∃ M', X2 (d + 6 + n) m_RW_share 0 [.ref 100, .int (iI p), .int (iI ((n + 1 : Nat) : Int)), uns] [] M = _ ∧ _
    rw [e_RW_share_0, shr9 (by omega)]
    by_cases h4 : p / 512 = 4
    · rw [if_pos (by rw [h4]; rfl), shN_4 z tm o h4]; exact ⟨M, rfl, Eqx.rf, hS⟩
    · rw [if_neg (by rw [iI_eq (by omega) (by omega) (by omega) (by omega)]; omega), if_neg b9, if_pos b0, h5, rm_k _ r hr, gb_T, gb_T, g7 M hS]
      by_cases hq : 0 < o
      · rw [if_pos (by rw [iI_0lt (by omega) (by omega)]; omega)]
        obtain ⟨M2, e2, hE2, hS2⟩ := c_Stp_next (d + 1 + n) (p := p) (bl := 1) hS hp (by decide)
        rw [show d + 1 + n + 5 = d + 6 + n by omega] at e2
        have hpl := pas_lt hz tm 1 hp
        obtain ⟨M3, e3, hE3, hS3⟩ := ih d (pas z tm p 1) M2 (by omega) hS2 (hm _ _ hE2 h5) hpl
        have e2' : c2 (d + 6 + n) m_Stp_next [.ref 127, .int (iI p), .int (iI 1)] M = _ := e2
        rw [e2', bI_some, e1, e3, bI_some, iI_mul, iI_add]
        have := half (o * shN z tm o n (pas z tm p 1)) M3 hS3 (hm _ _ (hE2.tr hE3) h5) (hE2.tr hE3) rfl h4
        rw [Int.natCast_mul] at this
        rw [Int.zero_add]
        exact this
      · rw [if_neg (by rw [iI_0lt (by omega) (by omega)]; omega)]
        exact half 0 M hS h5 Eqx.rf (by rw [show o = 0 by omega, Nat.zero_mul]) h4
/-- still in -/
def phi0 (s : Nat) : Nat := if s % 5 = 4 then 0 else 1
theorem rN_4 {z : Row} (hz : OkZ z) (tm a b : Nat) : ∀ n s, OkS z s → s % 5 = 4 → rN (thn z tm) a b n phi0 s = 0
  | 0, s, _, h => if_pos h
  | n + 1, s, ok, h => by
    rw [rN_s, stA, thn_ok ok, thn_ok ok, rN_4 hz tm a b n _ (nxt_ok hz tm ok 0) (nxt_4 z tm 0 h), rN_4 hz tm a b n _ (nxt_ok hz tm ok 1) (nxt_4 z tm 1 h)]
    simp
theorem sh_rN {z : Row} (hz : OkZ z) (tm o : Nat) : ∀ n s, OkS z s → shN z tm o n (plc s) = rN (thn z tm) (10 - o) o n phi0 s
  | 0, s, ok => by rw [shN, plc_who (ok.lt hz).2.2]; rfl
  | n + 1, s, ok => by
    rw [shN, plc_who (ok.lt hz).2.2]
    by_cases h : s % 5 = 4
    · rw [if_pos h, rN_4 hz tm _ _ _ s ok h]
    · rw [if_neg h, rN_s, stA, thn_ok ok, thn_ok ok, pas_plc hz tm s 0 (ok.lt hz).2.2 ok.2, pas_plc hz tm s 1 (ok.lt hz).2.2 ok.2, sh_rN hz tm o n _ (nxt_ok hz tm ok 0), sh_rN hz tm o n _ (nxt_ok hz tm ok 1), Nat.add_comm]
theorem c_Mo_chanceOf (d : Nat) {M0 : Mem} {z : Row} {w who tm o t n : Nat} (hQ : QM M0 z w who tm) (ho : z 5 = iI o) (ho2 : o ≤ 10) (hok : OkS z (5 * w + t)) (ht : t < 5) (hn : n ≤ 8) :
    ∃ M', c2 (d + 8) m_Mo_chanceOf [.ref 197, .int (iI t), .int (iI n)] M0 = some (.int (iI (rN (thn z tm) (10 - o) o n phi0 (5 * w + t))), M') ∧ ResM M0 M' := by
  have hz := hQ.2.1
  have h9 := nz_le hz
  have hp := pow9 h9
  have hw := hQ.2.2.2.2.2.2.2.2
  have hl := hQ.ok.lt hQ.okz
  rw [hQ.1] at hl
  have hl2 := hok.lt hz
  obtain ⟨M1, e1, hm1, hT1, hR1⟩ := c_Mo_beginsMany d hQ
  have hQ1 := hQ.res hR1
  generalize hN : 5 * 2 ^ nz z = N at *
  have hN2 : N ≤ 2560 := by omega
  have hf : ∀ s c, s < N → thn z tm s c < N := fun s c h => by rw [← hN] at *; exact thn_lt hz tm c h
  have hd0 : ∀ s, N ≤ s → (fun q => if 5 * w + t = q then 1 else 0 : Nat → Nat) s = 0 := fun s h => if_neg (by omega)
  have hm2 : ManyM (wI (wI M1 210 (5 * w + who) (iI 0)) 210 (5 * w + t) (iI 1)) (fun q => if 5 * w + t = q then 1 else 0) := by
    intro s hs
    refine ⟨?_, by rw [gI_na (by decide), gI_na (by decide)]; exact (hm1 s hs).2⟩
    show _ = iI ((if 5 * w + t = s then 1 else 0 : Nat) : Int)
    by_cases q : s = 5 * w + t
    · subst q; rw [gI_eq, if_pos rfl]; rfl
    · rw [gI_nk q, if_neg (fun h => q h.symm)]
      by_cases q2 : s = 5 * w + who
      · subst q2; rw [gI_eq]; rfl
      · rw [gI_nk q2, (hm1 s hs).1]
        show iI ((if 5 * w + who = s then 1 else 0 : Nat) : Int) = _
        rw [if_neg (fun h => q2 h.symm)]
  have lst : ∀ j k M x3, j + k = 2560 → ResM M0 M → ManyM M (mK (thn z tm) (10 - o) o N (fun q => if 5 * w + t = q then 1 else 0) n) → x3 = sm (fun s => mK (thn z tm) (10 - o) o N (fun q => if 5 * w + t = q then 1 else 0) n s * phi0 s) k → ∃ M', X2 (d + 7) m_Mo_chanceOf 68 [.ref 197, .int (iI t), .int (iI n), .int (iI x3), .int (iI k)] [] M = some (.int (iI (rN (thn z tm) (10 - o) o n phi0 (5 * w + t))), M') ∧ ResM M0 M' := by
    intro j
    induction j with
    | zero =>
      intro k M x3 hk hM hm hx
      rw [show k = 2560 by omega, mK_one hf (by omega) hN2 n phi0] at hx
      rw [e_Mo_chanceOf_68, if_neg (by rw [iI_lt (by omega) (by omega) (by omega) (by omega)]; omega), hx]
      exact ⟨M, rfl, hM⟩
    | succ j ih =>
      intro k M x3 hk hM hm hx
      rw [e_Mo_chanceOf_68, if_pos (by rw [iI_lt (by omega) (by omega) (by omega) (by omega)]; omega), c_Mo_isGone _ _ (by omega), bI_some, inb_ok (by omega) (by omega) (by omega), gb_T, ix_nat (by omega), (hm k (by omega)).1, iI_add, iI_add, iI_add]
      by_cases q : k % 5 = 4
      · rw [decide_eq_true q, b2i_t, if_neg (by decide)]
        have := ih (k + 1) M x3 (by omega) hM hm (by rw [hx, sm, phi0, if_pos q, Nat.mul_zero, Nat.add_zero])
        rw [Int.add_zero]; exact this
      · rw [decide_eq_false q, b2i_f, if_pos (by decide)]
        exact ih (k + 1) M (x3 + mK (thn z tm) (10 - o) o N (fun q => if 5 * w + t = q then 1 else 0) n k) (by omega) hM hm (by rw [hx, sm, phi0, if_neg q, Nat.mul_one])
  have go : ∀ j k M, j + k = n → ResM M0 M → ThenM M z tm N → ManyM M (mK (thn z tm) (10 - o) o N (fun q => if 5 * w + t = q then 1 else 0) k) → ∃ M', X2 (d + 7) m_Mo_chanceOf 33 [.ref 197, .int (iI t), .int (iI n), .int (iI k), uns] [] M = some (.int (iI (rN (thn z tm) (10 - o) o n phi0 (5 * w + t))), M') ∧ ResM M0 M' := by
    intro j
    induction j with
    | zero =>
      intro k M hk hM hT hm
      rw [e_Mo_chanceOf_33, if_neg (by rw [iI_lt (by omega) (by omega) (by omega) (by omega)]; omega)]
      rw [show k = n by omega] at hm
      exact lst 2560 0 M 0 (by omega) hM hm rfl
    | succ j ih =>
      intro k M hk hM hT hm
      have g5 : gI M 198 5 = iI o := ((hQ.res hM).g 5).trans ho
      have e10 : iI 10 - iI o = iI ((10 - o : Nat) : Int) := by rw [iI_sub]; congr 1; omega
      obtain ⟨M2, e2, a1, a2, a3⟩ := c_Mo_goesMany (d + 6) (a := 10 - o) (b := o) hz (by rw [hN]; exact hT) hm (by rw [hN]; exact mK_out hf hd0 k)
      rw [hN] at a1 a2
      rw [e_Mo_chanceOf_33, if_pos (by rw [iI_lt (by omega) (by omega) (by omega) (by omega)]; omega), g5, e10, e2, bV_some, iI_add]
      exact ih (k + 1) M2 (by omega) (hM.tr a3) a2 a1
  show ∃ M', X2 (d + 7) m_Mo_chanceOf 0 [.ref 197, .int (iI t), .int (iI n), uns, uns] [] M0 = _ ∧ _
  have e5 : iI 5 * iI w + iI t = iI ((5 * w + t : Nat) : Int) := by rw [iI_mul, iI_add]; rfl
  rw [e_Mo_chanceOf_0, e1, bV_some, c_Mo_standNow, bI_some, show iI 5 * gI M1 198 25 + gI M1 198 26 = iI ((5 * w + who : Nat) : Int) from hQ1.stand, inb_ok (by omega) (by omega) (by omega), gb_T, ix_nat (by omega), c_Mo_standOf, bI_some, hQ1.w, e5, inb_ok (by omega) (by omega) (by omega), gb_T, ix_nat (by omega)]
  exact go n 0 _ (by omega) (hR1.tr (ResM.of (eqx_wI (eqx_wI Eqx.rf (by simp)) (by simp) : Eqx [210] M1 _) (by intro a ha; simp only [List.mem_cons, List.not_mem_nil, or_false] at ha; omega))) (hT1.fr (by rw [wI_na (by decide), wI_na (by decide)])) hm2
/-! powers, divisors -/
theorem c_RW_powerOfTen (d : Nat) {n : Nat} (hn : n ≤ 8) (M : Mem) : c2 (d + 1) m_RW_powerOfTen [.int (iI n)] M = some (.int (iI ((10 ^ n : Nat) : Int)), M) := by
  have go : ∀ j k, j + k = n → X2 d m_RW_powerOfTen 4 [.int (iI n), .int (iI ((10 ^ k : Nat) : Int)), .int (iI k)] [] M = some (.int (iI ((10 ^ n : Nat) : Int)), M) := by
    intro j
    induction j with
    | zero =>
      intro k hk
      rw [e_RW_powerOfTen_4, if_neg (by rw [iI_lt (by omega) (by omega) (by omega) (by omega)]; omega), show k = n by omega]
    | succ j ih =>
      intro k hk
      rw [e_RW_powerOfTen_4, if_pos (by rw [iI_lt (by omega) (by omega) (by omega) (by omega)]; omega), if_pos (by rw [iI_lt (by omega) (by omega) (by omega) (by omega)]; omega), iI_mul, iI_add]
      have := ih (k + 1) (by omega)
      rw [Nat.pow_succ, Int.natCast_mul] at this
      exact this
  show X2 d m_RW_powerOfTen 0 [.int (iI n), uns, uns] [] M = _
  rw [e_RW_powerOfTen_0]
  exact go n 0 (by omega)
theorem c_Mo_wholeOf (d : Nat) {n : Nat} (hn : n ≤ 8) (M : Mem) : c2 (d + 1) m_Mo_wholeOf [.int (iI n)] M = some (.int (iI ((10 ^ n : Nat) : Int)), M) := by
  have go : ∀ j k, j + k = n → X2 d m_Mo_wholeOf 4 [.int (iI n), .int (iI ((10 ^ k : Nat) : Int)), .int (iI k)] [] M = some (.int (iI ((10 ^ n : Nat) : Int)), M) := by
    intro j
    induction j with
    | zero =>
      intro k hk
      rw [e_Mo_wholeOf_4, if_neg (by rw [iI_lt (by omega) (by omega) (by omega) (by omega)]; omega), show k = n by omega]
    | succ j ih =>
      intro k hk
      rw [e_Mo_wholeOf_4, if_pos (by rw [iI_lt (by omega) (by omega) (by omega) (by omega)]; omega), iI_mul, iI_add]
      have := ih (k + 1) (by omega)
      rw [Nat.pow_succ, Int.natCast_mul] at this
      exact this
  show X2 d m_Mo_wholeOf 0 [.int (iI n), uns, uns] [] M = _
  rw [e_Mo_wholeOf_0]
  exact go n 0 (by omega)
theorem gcd_st (a b : Nat) : Nat.gcd a b = Nat.gcd b (a % b) := by
  rw [Nat.gcd_comm a b, Nat.gcd_rec b a, Nat.gcd_comm]
theorem mod_half {b r e : Nat} (hr : r < b) (hr0 : 0 < r) (hb : b < 2 ^ (e + 1)) : b % r < 2 ^ e := by
  have h1 := Nat.mod_lt b hr0
  have h2 : b % r = (b - r) % r := Nat.mod_eq_sub_mod (by omega)
  have h3 := Nat.mod_le (b - r) r
  rw [Nat.pow_succ] at hb
  omega
theorem c_RW_commonDivisor (d : Nat) {a b : Nat} (ha : a ≤ 2147483647) (hb : b < 2 ^ 27) (M : Mem) : c2 (d + 1) m_RW_commonDivisor [.int (iI a), .int (iI b)] M = some (.int (iI (Nat.gcd a b)), M) := by
  have go : ∀ (e a b k : Nat) (v0 v1 v5 : Value), a ≤ 2147483647 → b < 2 ^ e → b < 2147483647 → 2 * e + 1 + k ≤ 100 → X2 d m_RW_commonDivisor 7 [v0, v1, .int (iI a), .int (iI b), .int (iI (k : Nat)), v5] [] M = some (.int (iI (Nat.gcd a b)), M) := by
    intro e
    induction e with
    | zero =>
      intro a b k v0 v1 v5 h1 h2 h3 h4
      have hb0 : b = 0 := by have : b < 1 := h2; omega
      subst hb0
      rw [e_RW_commonDivisor_7, if_pos (by rw [iI_lt (by omega) (by omega) (by omega) (by omega)]; omega), if_pos (show iI ((0 : Nat) : Int) = 0 from rfl), Nat.gcd_zero_right]
    | succ e ih =>
      intro a b k v0 v1 v5 h1 h2 h3 h4
      rw [e_RW_commonDivisor_7, if_pos (by rw [iI_lt (by omega) (by omega) (by omega) (by omega)]; omega)]
      by_cases q : b = 0
      · subst q; rw [if_pos (show iI ((0 : Nat) : Int) = 0 from rfl), Nat.gcd_zero_right]
      · have hm := Nat.mod_lt a (show 0 < b by omega)
        have n0 : ¬ (iI (b : Int) = 0) := by rw [iI_eq0 (by omega) (by omega)]; omega
        rw [if_neg n0, gb_nz n0, iI_rem (by omega) (by omega), iI_add, gcd_st, e_RW_commonDivisor_7, if_pos (by rw [iI_lt (by omega) (by omega) (by omega) (by omega)]; omega)]
        by_cases q2 : a % b = 0
        · rw [q2, if_pos (show iI ((0 : Nat) : Int) = 0 from rfl), Nat.gcd_zero_right]
        · have n1 : ¬ (iI ((a % b : Nat) : Int) = 0) := by rw [iI_eq0 (by omega) (by omega)]; omega
          have hm2 := mod_half hm (by omega) h2
          have hm3 := Nat.mod_lt b (show 0 < a % b by omega)
          rw [if_neg n1, gb_nz n1, iI_rem (by omega) (by omega), iI_add, gcd_st]
          exact ih (a % b) (b % (a % b)) (k + 2) v0 v1 _ (by omega) hm2 (by omega) (by omega)
  show X2 d m_RW_commonDivisor 0 [.int (iI a), .int (iI b), uns, uns, uns, uns] [] M = _
  rw [e_RW_commonDivisor_0]
  exact go 27 a b 0 _ _ _ ha hb (Nat.lt_trans hb (by decide)) (by decide)
theorem c_Mo_common : ∀ (e a b d : Nat) (M : Mem), a ≤ 2147483647 → b < 2 ^ e → b < 2147483647 → c2 (d + 2 * e + 1) m_Mo_common [.int (iI a), .int (iI b)] M = some (.int (iI (Nat.gcd a b)), M) := by
  intro e
  induction e with
  | zero =>
    intro a b d M h1 h2 h3
    have hb0 : b = 0 := by have : b < 1 := h2; omega
    subst hb0
    show X2 d m_Mo_common 0 [.int (iI a), .int (iI ((0 : Nat) : Int))] [] M = _
    rw [e_Mo_common_0, if_pos (show iI ((0 : Nat) : Int) = 0 from rfl), Nat.gcd_zero_right]
  | succ e ih =>
    intro a b d M h1 h2 h3
    show X2 (d + 2 * e + 1 + 1) m_Mo_common 0 [.int (iI a), .int (iI b)] [] M = _
    rw [e_Mo_common_0]
    by_cases q : b = 0
    · subst q; rw [if_pos (show iI ((0 : Nat) : Int) = 0 from rfl), Nat.gcd_zero_right]
    · have hm := Nat.mod_lt a (show 0 < b by omega)
      have n0 : ¬ (iI (b : Int) = 0) := by rw [iI_eq0 (by omega) (by omega)]; omega
      rw [if_neg n0, gb_nz n0, iI_rem (by omega) (by omega), gcd_st]
      have : c2 (d + 2 * e + 1 + 1) m_Mo_common [.int (iI b), .int (iI ((a % b : Nat) : Int))] M = some (.int (iI (Nat.gcd b (a % b))), M) := by
        show X2 (d + 2 * e + 1) m_Mo_common 0 [.int (iI b), .int (iI ((a % b : Nat) : Int))] [] M = _
        rw [e_Mo_common_0]
        by_cases q2 : a % b = 0
        · rw [q2, if_pos (show iI ((0 : Nat) : Int) = 0 from rfl), Nat.gcd_zero_right]
        · have n1 : ¬ (iI ((a % b : Nat) : Int) = 0) := by rw [iI_eq0 (by omega) (by omega)]; omega
          have hm2 := mod_half hm (by omega) h2
          have hm3 := Nat.mod_lt b (show 0 < a % b by omega)
          rw [if_neg n1, gb_nz n1, iI_rem (by omega) (by omega), gcd_st, ih (a % b) (b % (a % b)) d M (by omega) hm2 (by omega), bI_some]
      rw [this, bI_some]
