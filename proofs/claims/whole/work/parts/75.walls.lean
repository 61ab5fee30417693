/-! walls. -/
def orN (p : Nat → Bool) : Nat → Bool
  | 0 => false
  | n + 1 => orN p n || p n
theorem orN_iff (p : Nat → Bool) : ∀ n, orN p n = true ↔ ∃ i, i < n ∧ p i = true
  | 0 => ⟨fun h => absurd (show false = true from h) (by decide), fun ⟨i, h, _⟩ => absurd h (Nat.not_lt_zero i)⟩
  | n + 1 => by
    rw [orN, Bool.or_eq_true, orN_iff p n]
    constructor
    · rintro (⟨i, h1, h2⟩ | h)
      · exact ⟨i, by omega, h2⟩
      · exact ⟨n, by omega, h⟩
    · rintro ⟨i, h1, h2⟩
      by_cases q : i = n
      · subst q; exact Or.inr h2
      · exact Or.inl ⟨i, by omega, h2⟩
theorem cnt_none {p : Nat → Bool} : ∀ n, (∀ k, k < n → p k = false) → cnt p n = 0
  | 0, _ => rfl
  | n + 1, h => by rw [cnt, cnt_none n (fun k hk => h k (by omega)), h n (by omega)]; rfl
theorem cnt_bij (f : Nat → Nat) {m : Nat} : ∀ (n : Nat) (c P : Nat → Bool), (∀ i, i < n → c i = true → f i < m ∧ P (f i) = true) → (∀ i j, i < n → j < n → c i = true → c j = true → f i = f j → i = j) → (∀ w, w < m → P w = true → ∃ i, i < n ∧ c i = true ∧ f i = w) → cnt c n = cnt P m
  | 0, c, P, _, _, h3 => by
    rw [cnt_none m (fun k hk => by
      cases hq : P k
      · rfl
      · obtain ⟨i, h, _⟩ := h3 k hk hq; exact absurd h (Nat.not_lt_zero i))]
    rfl
  | n + 1, c, P, h1, h2, h3 => by
    rw [cnt]
    cases hc : c n
    · have := cnt_bij f n c P (fun i hi => h1 i (by omega)) (fun i j hi hj => h2 i j (by omega) (by omega)) (fun w hw hp => by
        obtain ⟨i, a1, a2, a3⟩ := h3 w hw hp
        refine ⟨i, ?_, a2, a3⟩
        by_cases q : i = n
        · subst q; rw [hc] at a2; exact absurd a2 (by decide)
        · omega)
      rw [this]; rfl
    · have h0 := h1 n (by omega) hc
      have := cnt_bij f n c (fun w => P w && !(decide (w = f n))) (fun i hi hci => by
        refine ⟨(h1 i (by omega) hci).1, ?_⟩
        show (P (f i) && !(decide (f i = f n))) = true
        rw [(h1 i (by omega) hci).2, decide_eq_false (fun q => by have := h2 i n (by omega) (by omega) hci hc q; omega)]; rfl) (fun i j hi hj => h2 i j (by omega) (by omega)) (fun w hw hp => by
        replace hp : (P w && !(decide (w = f n))) = true := hp
        rw [Bool.and_eq_true] at hp
        obtain ⟨i, a1, a2, a3⟩ := h3 w hw hp.1
        refine ⟨i, ?_, a2, a3⟩
        by_cases q : i = n
        · subst q; have := hp.2; rw [decide_eq_true a3.symm] at this; exact absurd this (by decide)
        · omega)
      have hf := cnt_flip (p := P) (q := fun w => P w && !(decide (w = f n))) (a := f n) m h0.1 h0.2 (by show (P (f n) && !(decide (f n = f n))) = false; rw [decide_eq_true rfl, Bool.not_true, Bool.and_false]) (fun k hk => by show (P k && !(decide (k = f n))) = P k; rw [decide_eq_false hk, Bool.not_false, Bool.and_true])
      rw [this, hf]; rfl
def twn (pl : Nat → Nat) (i : Nat) : Nat := pl i % 512 + 512 * (pl 0 / 512)
def cwB (pl : Nat → Nat) (N i : Nat) : Bool := decide (twn pl i = pl i) || !(orN (fun j => decide (pl j = twn pl i)) N)
theorem c_Rch_differentWalls (d : Nat) {M : Mem} {N : Nat} {pl : Nat → Nat} (hC : ReachC M N pl) (hN : 1 ≤ N) :
    c2 (d + 2) m_Rch_differentWalls [.ref 133] M = some (.int (iI (cnt (cwB pl N) N)), M) := by
  have h1 := hC.2.1
  have hp0 := hC.2.2 0 (by omega)
  have go : ∀ j k v4, j + k = N → X2 (d + 1) m_Rch_differentWalls 14 [.ref 133, .int (iI ((pl 0 / 512 : Nat) : Int)), .int (iI (cnt (cwB pl N) k)), .int (iI k), v4] [] M = some (.int (iI (cnt (cwB pl N) N)), M) := by
    intro j
    induction j with
    | zero =>
      intro k v4 hk
      rw [e_Rch_differentWalls_14, hC.1, if_neg (by rw [iI_lt (by omega) (by omega) (by omega) (by omega)]; omega), show k = N by omega]
    | succ j ih =>
      intro k v4 hk
      have hpk := hC.2.2 k (by omega)
      have hs := cnt_s (cwB pl N) k
      have ih' := fun v => ih (k + 1) v (by omega)
      have htw : iI ((pl k % 512 : Nat) : Int) ||| (iI ((pl 0 / 512 : Nat) : Int) <<< (iI 9 &&& 31)) = iI (twn pl k) := iI_or9 (by omega)
      have htl : twn pl k < 2560 := by unfold twn; omega
      rw [e_Rch_differentWalls_14, hC.1, if_pos (by rw [iI_lt (by omega) (by omega) (by omega) (by omega)]; omega), inb_ok (by omega) (by omega) (by omega), gb_T, gb_T, ix_nat (by omega), hpk.1, and511m, htw, iI_add, iI_add]
      by_cases q : twn pl k = pl k
      · rw [if_pos (by rw [q])]
        rw [cwB, decide_eq_true q, Bool.true_or, if_pos rfl] at hs
        rw [hs] at ih'; exact ih' _
      · rw [if_neg (by rw [iI_eq (by omega) (by omega) (by omega) (by omega)]; omega)]
        obtain ⟨x, e, hx⟩ := c_Rch_nodeOf d hC htl
        rw [e, bI_some]
        rw [cwB, decide_eq_false q, Bool.false_or] at hs
        rcases hx with ⟨i, hi, hpi, rfl⟩ | ⟨hne, rfl⟩
        · have ho : orN (fun j => decide (pl j = twn pl k)) N = true := (orN_iff _ _).mpr ⟨i, hi, decide_eq_true hpi⟩
          rw [if_neg (by rw [iI_eq (by omega) (by omega) (by omega) (by omega)]; omega)]
          rw [ho, Bool.not_true, if_neg (by decide)] at hs
          rw [hs] at ih'; exact ih' _
        · have ho : orN (fun j => decide (pl j = twn pl k)) N = false := Bool.eq_false_iff.mpr (fun h => by
            obtain ⟨i, hi, h2⟩ := (orN_iff _ _).mp h
            exact hne i hi (of_decide_eq_true h2))
          rw [if_pos rfl]
          rw [ho, Bool.not_false, if_pos rfl] at hs
          rw [hs] at ih'; exact ih' _
  show X2 (d + 1) m_Rch_differentWalls 0 [.ref 133, uns, uns, uns, uns] [] M = _
  rw [e_Rch_differentWalls_0, hp0.1, shr9 (by omega)]
  exact go N 0 uns (by omega)
theorem cw_walls {N : Nat} {pl : Nat → Nat} (hN : 1 ≤ N) (hW : ∀ i, i < N → WIn (pl 0 / 512) (pl i)) (hi : ∀ i, i < N → ∀ j, j < N → pl i = pl j → i = j) : cnt (cwB pl N) N = cnt (fun wl => orN (fun i => decide (pl i % 512 = wl)) N) 512 := by
  have key : ∀ i, i < N → (cwB pl N i = true ↔ (pl i / 512 = pl 0 / 512 ∨ ∀ j, j < N → pl j ≠ twn pl i)) := by
    intro i hi
    have hw := hW i hi
    rw [cwB, Bool.or_eq_true, decide_eq_true_iff]
    constructor
    · rintro (h | h)
      · left; unfold twn at h; omega
      · right
        intro j hj e
        rw [Bool.not_eq_true', Bool.eq_false_iff] at h
        exact h ((orN_iff _ _).mpr ⟨j, hj, decide_eq_true e⟩)
    · rintro (h | h)
      · left; unfold twn; omega
      · right
        rw [Bool.not_eq_true', Bool.eq_false_iff]
        intro q
        obtain ⟨j, hj, e⟩ := (orN_iff _ _).mp q
        exact h j hj (of_decide_eq_true e)
  refine cnt_bij (fun i => pl i % 512) N _ _ ?_ ?_ ?_
  · intro i hi _
    exact ⟨by show pl i % 512 < 512; omega, (orN_iff _ _).mpr ⟨i, hi, decide_eq_true rfl⟩⟩
  · intro i j h1 h2 c1 c2 e
    replace e : pl i % 512 = pl j % 512 := e
    have a := (key i h1).mp c1
    have b := (key j h2).mp c2
    have wi := (hW i h1).2
    have wj := (hW j h2).2
    apply hi i h1 j h2
    by_cases qi : pl i / 512 = pl 0 / 512
    · by_cases qj : pl j / 512 = pl 0 / 512
      · omega
      · rcases b with b | b
        · exact absurd b qj
        · exact absurd (by unfold twn; omega) (b i h1)
    · by_cases qj : pl j / 512 = pl 0 / 512
      · rcases a with a | a
        · exact absurd a qi
        · exact absurd (by unfold twn; omega) (a j h2)
      · omega
  · intro wl hwl hp
    obtain ⟨i, h1, e⟩ := (orN_iff _ _).mp hp
    have e := of_decide_eq_true e
    by_cases q : cwB pl N i = true
    · exact ⟨i, h1, q, e⟩
    · have nk := fun h => q ((key i h1).mpr h)
      have ex : ∃ j, j < N ∧ pl j = twn pl i := by
        refine Classical.byContradiction (fun h => nk (Or.inr (fun j hj e => h ⟨j, hj, e⟩)))
      obtain ⟨j, hj, ej⟩ := ex
      refine ⟨j, hj, (key j hj).mpr (Or.inl ?_), ?_⟩
      · rw [ej]; unfold twn; omega
      · show pl j % 512 = wl
        rw [ej]; unfold twn; omega
theorem rm_app {f : Nat → Nat → Nat} : ∀ m s u b, Rm f m s u → b < 2 → Rm f (m + 1) s (f u b)
  | 0, s, u, b, h, hb => by
    have e : s = u := h
    subst e; exact ⟨b, hb, rfl⟩
  | m + 1, s, u, b, h, hb => by
    obtain ⟨c, hc, h⟩ := h
    exact ⟨c, hc, rm_app m _ u b h hb⟩
/-- every node is come to -/
theorem ExpC.come {M : Mem} {z : Row} (hz : OkZ z) {tm N E s0 : Nat} {pl cb : Nat → Nat} {ex : Nat → Bool} (hX : ExpC M z tm N E pl cb ex) (h0 : pl 0 = plc s0) (hO : OkS z s0) : ∀ n i, i < n → i < N → ∃ m s, Rm (thn z tm) m s0 s ∧ plc s = pl i ∧ OkS z s := by
  intro n
  induction n with
  | zero => intro i h; exact absurd h (Nat.not_lt_zero i)
  | succ n ih =>
    intro i hn hi
    by_cases q : i = 0
    · subst q; exact ⟨0, s0, rfl, h0.symm, hO⟩
    · obtain ⟨a1, a2, a3, a4, a5⟩ := hX.2.2.2.1 i (by omega) hi
      obtain ⟨m, s, b1, b2, b3⟩ := ih (cb i / 2) (by omega) (by omega)
      refine ⟨m + 1, thn z tm s (cb i % 2), rm_app m _ _ _ b1 (by omega), ?_, ?_⟩
      · rw [thn_ok b3, ← pas_plc hz tm s _ (b3.lt hz).2.2 b3.2, b2, a3]
      · rw [thn_ok b3]; exact nxt_ok hz tm b3 _
/-! the reference: all that can come is marked -/
def MkM (M : Mem) (Q : Nat → Bool) : Prop := ∀ s, s < 2560 → gI M 210 s = iI (b2i (Q s))
def zer (Q : Nat → Bool) : Nat := cnt (fun s => !(Q s)) 2560
def upB (Q : Nat → Bool) (a : Nat) (s : Nat) : Bool := if s = a then true else Q s
theorem zer_up {Q : Nat → Bool} {a : Nat} (ha : a < 2560) (h : Q a = false) : zer (upB Q a) < zer Q := by
  have := cnt_flip (p := fun s => !(Q s)) (q := fun s => !(upB Q a s)) (a := a) 2560 ha (by show (!(Q a)) = true; rw [h]; rfl) (by show (!(upB Q a a)) = false; rw [upB, if_pos rfl]; rfl) (fun k hk => by show (!(upB Q a k)) = !(Q k); rw [upB, if_neg hk])
  unfold zer; omega
theorem upB_same {Q : Nat → Bool} {a : Nat} (h : Q a = true) : upB Q a = Q := by
  funext s; unfold upB; split
  · rename_i e; rw [e, h]
  · rfl
theorem MkM.up {M : Mem} {Q : Nat → Bool} (h : MkM M Q) (a : Nat) : MkM (wI M 210 a (iI 1)) (upB Q a) := by
  intro s hs
  by_cases q : s = a
  · subst q; rw [gI_eq, upB, if_pos rfl]; rfl
  · rw [gI_nk q, upB, if_neg q]; exact h s hs
theorem or01 {fl : Nat} (h : fl ≤ 1) : iI fl ||| iI 1 = iI ((1 : Nat) : Int) ∧ iI fl ||| iI 0 = iI fl := by
  rcases (show fl = 0 ∨ fl = 1 by omega) with q | q <;> subst q <;> decide
theorem c_Mo_walls (d : Nat) {M0 : Mem} {z : Row} {w who tm : Nat} (hQ : QM M0 z w who tm) :
    ∃ (M' : Mem) (Q : Nat → Bool), c2 (d + 8) m_Mo_walls [.ref 197] M0 = some (.int (iI (cnt (fun wl => orN (fun u => Q (5 * wl + u)) 5) 512)), M') ∧ (∀ s, s < 2560 → (Q s = true ↔ ∃ m, Rm (thn z tm) m (5 * w + who) s)) ∧ ResM M0 M' := by
  have hz := hQ.2.1
  have h9 := nz_le hz
  have hp := pow9 h9
  have hO : OkS z (5 * w + who) := by have := hQ.ok; rw [hQ.1] at this; exact this
  have hl := hO.lt hz
  have hQ1 := hQ.res (ResM.thr M0)
  obtain ⟨M1, e1, hm1, hT1, hR1⟩ := c_Mo_beginsMany d hQ1
  generalize hNN : 5 * 2 ^ nz z = NN at *
  have hNN2 : NN ≤ 2560 := by omega
  have hf : ∀ s c, s < NN → thn z tm s c < NN := fun s c h => by rw [← hNN] at *; exact thn_lt hz tm c h
  -- what is so of the marks
  obtain ⟨Inv, hInv⟩ : ∃ Inv : Mem → (Nat → Bool) → Prop, Inv = fun M Q => ResM M0 M ∧ ThenM M z tm NN ∧ MkM M Q ∧ Q (5 * w + who) = true ∧ (∀ s, Q s = true → s < NN ∧ ∃ m, Rm (thn z tm) m (5 * w + who) s) := ⟨_, rfl⟩
  have upI : ∀ M Q k b, Inv M Q → Q k = true → b < 2 → Inv (wI M 210 (thn z tm k b) (iI 1)) (upB Q (thn z tm k b)) := by
    intro M Q k b h hk hb
    rw [hInv] at *
    obtain ⟨i1, i2, i3, i4, i5⟩ := h
    obtain ⟨k1, m, k2⟩ := i5 k hk
    refine ⟨i1.tr (ResM.of (eqx_wI Eqx.rf (by simp) : Eqx [210] M _) (by intro a ha; simp only [List.mem_cons, List.not_mem_nil, or_false] at ha; omega)), i2.fr (wI_na (by decide)), i3.up _, ?_, ?_⟩
    · unfold upB; split
      · rfl
      · exact i4
    · intro s hs
      by_cases q : s = thn z tm k b
      · subst q; exact ⟨hf k b k1, m + 1, rm_app m _ _ b k2 hb⟩
      · rw [upB, if_neg q] at hs; exact i5 s hs
  have one : ∀ (S : Nat) (M : Mem) (Q : Nat → Bool) (fl k b : Nat) (v4 v5 : Value), Inv M Q → Q k = true → b < 2 → ((fl = 0 ∧ (∀ s, s < k → Q s = true → Q (thn z tm s 0) = true ∧ Q (thn z tm s 1) = true) ∧ (∀ c, c < b → Q (thn z tm k c) = true) ∧ zer Q ≤ S) ∨ (fl = 1 ∧ zer Q < S)) →
      ∃ M' Q' fl', X2 (d + 7) m_Mo_walls 28 [.ref 197, .int (iI fl), .int (iI k), .int (iI b), v4, v5] [] M = X2 (d + 7) m_Mo_walls 28 [.ref 197, .int (iI (fl' : Nat)), .int (iI k), .int (iI ((b + 1 : Nat) : Int)), v4, v5] [] M' ∧ Inv M' Q' ∧ Q' k = true ∧ ((fl' = 0 ∧ (∀ s, s < k → Q' s = true → Q' (thn z tm s 0) = true ∧ Q' (thn z tm s 1) = true) ∧ (∀ c, c < b + 1 → Q' (thn z tm k c) = true) ∧ zer Q' ≤ S) ∨ (fl' = 1 ∧ zer Q' < S)) := by
    intro S M Q fl k b v4 v5 hI hk hb hfl
    have hI' := upI M Q k b hI hk hb
    have hI0 := hI
    rw [hInv] at hI0
    obtain ⟨i1, i2, i3, i4, i5⟩ := hI0
    obtain ⟨k1, m, k2⟩ := i5 k hk
    have t1 := hf k b k1
    have fl1 : fl ≤ 1 := by rcases hfl with q | q <;> omega
    have e2 : iI 2 * iI k + iI b = iI ((2 * k + b : Nat) : Int) := by rw [iI_mul, iI_add]; rfl
    have hkk : upB Q (thn z tm k b) k = true := by unfold upB; split; rfl; exact hk
    rw [e_Mo_walls_28, if_pos (by rw [iI_lt (by omega) (by omega) (by omega) (by omega)]; omega), inb_ok (by omega) (by omega) (by omega), gb_T, ix_nat (by omega), i3 k (by omega), hk, b2i_t, if_pos rfl, e2, inb_ok (by omega) (by omega) (by omega), gb_T, ix_nat (by omega), i2 k k1 b hb, inb_ok (by omega) (by omega) (by omega), gb_T, gb_T, gb_T, gb_T, gb_T, ix_nat (by omega), i3 _ (by omega), (or01 fl1).1, (or01 fl1).2, iI_add]
    refine ⟨_, upB Q (thn z tm k b), if Q (thn z tm k b) = true then fl else 1, ?_, hI', hkk, ?_⟩
    · cases hq : Q (thn z tm k b)
      · rw [b2i_f, if_pos (by decide), if_neg (by decide)]; rfl
      · rw [b2i_t, if_neg (by decide), if_pos rfl]; rfl
    · cases hq : Q (thn z tm k b)
      · rw [if_neg (by decide)]
        have := zer_up (Q := Q) (a := thn z tm k b) (by omega) hq
        refine Or.inr ⟨rfl, ?_⟩
        rcases hfl with q | q <;> omega
      · rw [if_pos rfl, upB_same hq]
        rcases hfl with ⟨q1, q2, q3, q4⟩ | q
        · refine Or.inl ⟨q1, q2, fun c hc => ?_, q4⟩
          by_cases e : c = b
          · subst e; exact hq
          · exact q3 c (by omega)
        · exact Or.inr q
  have pass : ∀ (S j k : Nat) (M : Mem) (Q : Nat → Bool) (fl : Nat) (v3 v4 v5 : Value), j + k = 2560 → Inv M Q → ((fl = 0 ∧ (∀ s, s < k → Q s = true → Q (thn z tm s 0) = true ∧ Q (thn z tm s 1) = true) ∧ zer Q ≤ S) ∨ (fl = 1 ∧ zer Q < S)) →
      ∃ M' Q' fl' u2 u3 u4 u5, X2 (d + 7) m_Mo_walls 19 [.ref 197, .int (iI fl), .int (iI k), v3, v4, v5] [] M = X2 (d + 7) m_Mo_walls 11 [.ref 197, .int (iI (fl' : Nat)), u2, u3, u4, u5] [] M' ∧ Inv M' Q' ∧ ((fl' = 0 ∧ (∀ s, s < 2560 → Q' s = true → Q' (thn z tm s 0) = true ∧ Q' (thn z tm s 1) = true)) ∨ (fl' = 1 ∧ zer Q' < S)) := by
    intro S j
    induction j with
    | zero =>
      intro k M Q fl v3 v4 v5 hk hI hfl
      rw [e_Mo_walls_19, if_neg (by rw [iI_lt (by omega) (by omega) (by omega) (by omega)]; omega)]
      refine ⟨M, Q, fl, _, v3, v4, v5, rfl, hI, ?_⟩
      rcases hfl with ⟨a, b, _⟩ | q
      · exact Or.inl ⟨a, fun s hs => b s (by omega)⟩
      · exact Or.inr q
    | succ j ih =>
      intro k M Q fl v3 v4 v5 hk hI hfl
      rw [e_Mo_walls_19, if_pos (by rw [iI_lt (by omega) (by omega) (by omega) (by omega)]; omega)]
      cases hqk : Q k
      · have hI0 := hI
        rw [hInv] at hI0
        obtain ⟨M', Q', fl', w2, w3, w4, w5, a1, a2, a3⟩ := ih (k + 1) M Q fl (.int (iI ((0 : Nat) : Int))) v4 v5 (by omega) hI (by
          rcases hfl with ⟨a, b, c⟩ | q
          · refine Or.inl ⟨a, fun s hs hQs => ?_, c⟩
            by_cases e : s = k
            · subst e; rw [hqk] at hQs; exact absurd hQs (by decide)
            · exact b s (by omega) hQs
          · exact Or.inr q)
        refine ⟨M', Q', fl', w2, w3, w4, w5, ?_, a2, a3⟩
        rw [e_Mo_walls_28, if_pos (by decide), inb_ok (by omega) (by omega) (by omega), gb_T, ix_nat (by omega), hI0.2.2.1 k (by omega), hqk, b2i_f, if_neg (by decide), iI_add]
        exact a1
      · obtain ⟨M2, Q2, fl2, a1, a2, a3, a4⟩ := one S M Q fl k 0 v4 v5 hI hqk (by decide) (by
          rcases hfl with ⟨a, b, c⟩ | q
          · exact Or.inl ⟨a, b, fun c hc => absurd hc (Nat.not_lt_zero c), c⟩
          · exact Or.inr q)
        obtain ⟨M3, Q3, fl3, b1, b2, b3, b4⟩ := one S M2 Q2 fl2 k 1 v4 v5 a2 a3 (by decide) a4
        obtain ⟨M', Q', fl', w2, w3, w4, w5, c1, c2, c3⟩ := ih (k + 1) M3 Q3 fl3 (.int (iI ((1 + 1 : Nat) : Int))) v4 v5 (by omega) b2 (by
          rcases b4 with ⟨a, b, c, e⟩ | q
          · refine Or.inl ⟨a, fun s hs hQs => ?_, e⟩
            by_cases e2 : s = k
            · subst e2; exact ⟨c 0 (by decide), c 1 (by decide)⟩
            · exact b s (by omega) hQs
          · exact Or.inr q)
        refine ⟨M', Q', fl', w2, w3, w4, w5, ?_, c2, c3⟩
        have a1' : X2 (d + 7) m_Mo_walls 28 [.ref 197, .int (iI fl), .int (iI k), .int (iI 0), v4, v5] [] M = _ := a1
        rw [a1']
        have b1' : X2 (d + 7) m_Mo_walls 28 [.ref 197, .int (iI fl2), .int (iI k), .int (iI ((0 + 1 : Nat) : Int)), v4, v5] [] M2 = _ := b1
        rw [b1', e_Mo_walls_28, if_neg (by decide), iI_add]
        exact c1
  -- the walls are counted
  have in5 : ∀ (Q : Nat → Bool) (M : Mem) (v1 : Value) (n k : Nat), MkM M Q → k < 512 → ∀ j u, j + u = 5 → ∃ v4 v5, X2 (d + 7) m_Mo_walls 117 [.ref 197, v1, .int (iI n), .int (iI k), .int (iI (b2i (orN (fun u => Q (5 * k + u)) u))), .int (iI u)] [] M = X2 (d + 7) m_Mo_walls 104 [.ref 197, v1, .int (iI ((n + (if orN (fun u => Q (5 * k + u)) 5 then 1 else 0) : Nat) : Int)), .int (iI ((k + 1 : Nat) : Int)), v4, v5] [] M := by
    intro Q M v1 n k hM hk j
    induction j with
    | zero =>
      intro u hu
      rw [e_Mo_walls_117, if_neg (by rw [iI_lt (by omega) (by omega) (by omega) (by omega)]; omega), show u = 5 by omega, iI_add, iI_add, iI_add]
      cases orN (fun u => Q (5 * k + u)) 5
      · rw [b2i_f, if_pos (by decide), if_neg (by decide)]; exact ⟨_, _, rfl⟩
      · rw [b2i_t, if_neg (by decide), if_pos rfl]; exact ⟨_, _, rfl⟩
    | succ j ih =>
      intro u hu
      have e5 : iI 5 * iI k + iI u = iI ((5 * k + u : Nat) : Int) := by rw [iI_mul, iI_add]; rfl
      obtain ⟨v4, v5, e⟩ := ih (u + 1) (by omega)
      refine ⟨v4, v5, ?_⟩
      rw [← e, e_Mo_walls_117, if_pos (by rw [iI_lt (by omega) (by omega) (by omega) (by omega)]; omega), c_Mo_standOf, bI_some, e5, inb_ok (by omega) (by omega) (by omega), gb_T, ix_nat (by omega), hM _ (by omega), iI_add, orN]
      cases orN (fun u => Q (5 * k + u)) u <;> cases Q (5 * k + u) <;> rfl
  have lst : ∀ (Q : Nat → Bool) (M : Mem) (v1 : Value), MkM M Q → ∀ j k v4 v5, j + k = 512 → X2 (d + 7) m_Mo_walls 104 [.ref 197, v1, .int (iI (cnt (fun wl => orN (fun u => Q (5 * wl + u)) 5) k)), .int (iI k), v4, v5] [] M = some (.int (iI (cnt (fun wl => orN (fun u => Q (5 * wl + u)) 5) 512)), M) := by
    intro Q M v1 hM j
    induction j with
    | zero =>
      intro k v4 v5 hk
      rw [e_Mo_walls_104, if_neg (by rw [iI_lt (by omega) (by omega) (by omega) (by omega)]; omega), show k = 512 by omega]
    | succ j ih =>
      intro k v4 v5 hk
      obtain ⟨u4, u5, e⟩ := in5 Q M v1 (cnt (fun wl => orN (fun u => Q (5 * wl + u)) 5) k) k hM (by omega) 5 0 rfl
      rw [e_Mo_walls_104, if_pos (by rw [iI_lt (by omega) (by omega) (by omega) (by omega)]; omega)]
      have e' : X2 (d + 7) m_Mo_walls 117 [.ref 197, v1, .int (iI (cnt (fun wl => orN (fun u => Q (5 * wl + u)) 5) k)), .int (iI k), .int (iI 0), .int (iI 0)] [] M = _ := e
      rw [e']
      exact ih (k + 1) u4 u5 (by omega)
  have all : ∀ (S : Nat) (M : Mem) (Q : Nat → Bool) (v2 v3 v4 v5 : Value), zer Q < S → Inv M Q → ∃ (M' : Mem) (Q : Nat → Bool), X2 (d + 7) m_Mo_walls 11 [.ref 197, .int (iI ((1 : Nat) : Int)), v2, v3, v4, v5] [] M = some (.int (iI (cnt (fun wl => orN (fun u => Q (5 * wl + u)) 5) 512)), M') ∧ Inv M' Q ∧ (∀ s, s < 2560 → Q s = true → Q (thn z tm s 0) = true ∧ Q (thn z tm s 1) = true) := by
    intro S
    induction S with
    | zero => intro M Q v2 v3 v4 v5 h; exact absurd h (Nat.not_lt_zero _)
    | succ S ih =>
      intro M Q v2 v3 v4 v5 hS hI
      rw [e_Mo_walls_11, if_neg (by decide)]
      obtain ⟨M', Q', fl', w2, w3, w4, w5, a1, a2, a3⟩ := pass (zer Q) 2560 0 M Q 0 v3 v4 v5 (by omega) hI (Or.inl ⟨rfl, fun s hs => absurd hs (Nat.not_lt_zero s), Nat.le_refl _⟩)
      have a1' : X2 (d + 7) m_Mo_walls 19 [.ref 197, .int (iI 0), .int (iI 0), v3, v4, v5] [] M = _ := a1
      rw [a1']
      rcases a3 with ⟨q, b⟩ | ⟨q, b⟩
      · subst q
        have hI0 := a2
        rw [hInv] at hI0
        rw [e_Mo_walls_11, if_pos (by decide)]
        exact ⟨M', Q', lst Q' M' _ hI0.2.2.1 512 0 w4 w5 rfl, a2, b⟩
      · subst q
        exact ih M' Q' w2 w3 w4 w5 (by omega) a2
  obtain ⟨M2, Q, e2, hI2, hc⟩ := all (zer (fun s => decide (5 * w + who = s)) + 1) M1 (fun s => decide (5 * w + who = s)) uns uns uns uns (by omega) (by
    rw [hInv]
    refine ⟨(ResM.thr M0).tr hR1, hT1, fun s hs => ?_, decide_eq_true rfl, fun s hs => ?_⟩
    · rw [(hm1 s hs).1]
      show iI ((if 5 * w + who = s then 1 else 0 : Nat) : Int) = iI (b2i (decide (5 * w + who = s)))
      by_cases q : 5 * w + who = s
      · rw [if_pos q, decide_eq_true q]; rfl
      · rw [if_neg q, decide_eq_false q]; rfl
    · have := of_decide_eq_true hs
      subst this
      exact ⟨by omega, 0, rfl⟩)
  rw [hInv] at hI2
  obtain ⟨i1, i2, i3, i4, i5⟩ := hI2
  refine ⟨M2, Q, ?_, ?_, i1⟩
  · show X2 (d + 7) m_Mo_walls 0 [.ref 197, uns, uns, uns, uns, uns] [] M0 = _
    rw [e_Mo_walls_0, e1, bV_some]
    exact e2
  · intro s hs
    refine ⟨fun h => (i5 s h).2, fun ⟨m, h⟩ => ?_⟩
    have cl : ∀ m a, Q a = true → Rm (thn z tm) m a s → Q s = true := by
      intro m
      induction m with
      | zero => intro a ha h; have e : a = s := h; subst e; exact ha
      | succ m ih =>
        intro a ha h
        obtain ⟨b, hb, h⟩ := h
        have := hc a (by have := (i5 a ha).1; omega) ha
        refine ih _ ?_ h
        rcases (show b = 0 ∨ b = 1 by omega) with q | q <;> subst q
        · exact this.1
        · exact this.2
    exact cl m _ i4 h
theorem p_walls (z : Row) (w who tm : Nat) : PairQ m_RW_walls m_Mo_walls [] z w who tm := by
  intro d M r ni st hQ hst
  have hz := hQ.okz
  have hrl := hQ.rl
  obtain ⟨_, h5, hN, hO, htm, hwho, hw⟩ := id hQ
  obtain ⟨M1, st1, e1, hE1, hS1, hle, hQ1⟩ := hQ.hre (d + 76) (by omega)
  obtain ⟨M2, N, E, pl, cb, res, e2, ⟨hX, h0, hWn, hres⟩, hS2, hE2⟩ := c_Rch_explore (d + 72) (gl := -1) hS1 (now_win hwho hw) (by decide) (by decide)
  have hgo : ∀ p, goalB (-1) p = false := fun p => by rw [goalB, if_neg (by decide)]; exact decide_eq_false (by omega)
  have hE : E = 2 * N := by
    rcases hres with q | q
    · exact q.2.1
    · exact absurd q.2.1 (by rw [hgo]; decide)
  have hex := exB_t (gl := -1) (by decide)
  have hE3 : Eqx (scr r) M M2 := hE1.tr (hE2.mono (fun a ha => scr_mem.mpr (by have := expS_mem.mp ha; omega)))
  have hN1 := hX.2.1
  have h0' : pl 0 = plc (5 * w + who) := by rw [h0, plc_now hwho]
  show ∃ v M' st', X2 (d + 79) m_RW_walls 0 [.ref 100] [] M = _ ∧ _
  rw [e_RW_walls_0, e1, bI_some, e2, bI_some, c_Rch_differentWalls _ hX.1 hN1, bI_some, cw_walls hN1 (fun i hi => by rw [show pl 0 / 512 = who by rw [h0]; omega]; exact hWn i hi) hX.1.inj]
  refine ⟨_, M2, st1, rfl, hE3, hQ.fr hE3 hS2, hle, ?_⟩
  intro M3 hM
  obtain ⟨M4, Q, e4, hQQ, hR4⟩ := c_Mo_walls (d + 72) hM
  have hv : cnt (fun wl => orN (fun u => Q (5 * wl + u)) 5) 512 = cnt (fun wl => orN (fun i => decide (pl i % 512 = wl)) N) 512 := by
    apply cnt_congr
    intro wl hwl
    rw [Bool.eq_iff_iff, orN_iff, orN_iff]
    constructor
    · rintro ⟨u, hu, hq⟩
      obtain ⟨m, hm⟩ := (hQQ _ (by omega)).mp hq
      obtain ⟨a1, a2⟩ := rm_pas hz tm _ _ _ hO hm
      rw [← h0'] at a1
      obtain ⟨j, j1, j2⟩ := hX.closed hE hex m 0 _ (by omega) a1
      refine ⟨j, j1, decide_eq_true ?_⟩
      rw [j2, plc_wall (a2.lt hz).2.2]; omega
    · rintro ⟨i, hi, hq⟩
      have hq := of_decide_eq_true hq
      obtain ⟨m, s, a1, a2, a3⟩ := hX.come hz h0' hO (i + 1) i (by omega) hi
      have hl := a3.lt hz
      refine ⟨s % 5, by omega, ?_⟩
      have : 5 * wl + s % 5 = s := by rw [← hq, ← a2, plc_wall hl.2.2]; omega
      rw [this]
      exact (hQQ s hl.2.1).mpr ⟨m, a1⟩
  rw [hv] at e4
  exact ⟨M4, e4, hR4⟩
