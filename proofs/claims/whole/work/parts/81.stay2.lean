/-! stays, stayBy, forces, minds. -/
theorem c_Con_level (d : Nat) {M : Mem} {lv : Nat → Int} (h : ∀ s, s < 2048 → gI M 141 s = iI (lv s)) {n t : Nat} (hn : n < 1024) (ht : t < 2) : c2 (d + 1) m_Con_level [.ref 140, .int (iI n), .int (iI t)] M = some (.int (iI (lv (2 * n + t))), M) := by
  show X2 d m_Con_level 0 [.ref 140, .int (iI n), .int (iI t)] [] M = _
  have e1 : iI t &&& iI 1 = iI t := by
    rcases (show t = 0 ∨ t = 1 by omega) with q | q <;> subst q <;> decide
  have e2 : iI n * iI 2 + iI t = iI ((2 * n + t : Nat) : Int) := by rw [iI_mul, iI_add]; congr 1; omega
  rw [e_Con_level_0, if_neg (by rw [iI_lt0 (by omega) (by omega)]; omega), if_pos (by rw [iI_lt (by omega) (by omega) (by omega) (by omega)]; omega), e1, e2, inb_ok (by omega) (by omega) (by omega), gb_T, ix_nat (by omega), h _ (by omega)]
/-- the graph of the contest, and the stands -/
def GrS (z : Row) (tm N : Nat) (pl : Nat → Nat) (em : Nat → Bool) (to : Nat → Nat) : Prop := (∀ n, em n = decide (pl n / 512 = 4)) ∧ (∀ n b, n < N → em n = false → b < 2 → to (2 * n + b) < N ∧ pl (to (2 * n + b)) = pas z tm (pl n) b)
theorem GrS.child {z : Row} (hz : OkZ z) {tm N : Nat} {pl : Nat → Nat} {em : Nat → Bool} {to : Nat → Nat} (hG : GrS z tm N pl em to) {n s b : Nat} (hn : n < N) (ok : OkS z s) (hp : pl n = plc s) (he : em n = false) (hb : b < 2) : to (2 * n + b) < N ∧ pl (to (2 * n + b)) = plc (thn z tm s b) ∧ OkS z (thn z tm s b) := by
  obtain ⟨a1, a2⟩ := hG.2 n b hn he hb
  rw [thn_ok ok]
  refine ⟨a1, ?_, nxt_ok hz tm ok b⟩
  rw [a2, hp, pas_plc hz tm s b (ok.lt hz).2.2 ok.2]
theorem GrS.em {z : Row} (hz : OkZ z) {tm N : Nat} {pl : Nat → Nat} {em : Nat → Bool} {to : Nat → Nat} (hG : GrS z tm N pl em to) {n s : Nat} (ok : OkS z s) (hp : pl n = plc s) : em n = decide (s % 5 = 4) := by
  rw [hG.1, hp, plc_who (ok.lt hz).2.2]
theorem stay_eq {z : Row} (hz : OkZ z) {tm N : Nat} {pl : Nat → Nat} {em : Nat → Bool} {to : Nat → Nat} {lv F : Nat → Int} (hG : GrS z tm N pl em to) (hL : FinL N em to 0 lv) (hF : StyF (thn z tm) (5 * 2 ^ nz z) F) : ∀ (K k n s : Nat), k < K → (k : Int) ≤ FI → n < N → OkS z s → pl n = plc s → (lv (2 * n + 1) = k ↔ F s = (k : Int) - 1) := by
  intro K
  induction K with
  | zero => intro k n s hk; exact absurd hk (Nat.not_lt_zero k)
  | succ K ih =>
    intro k n s hk hk2 hn ok hp
    have hem := hG.em hz ok hp
    have hsl := (ok.lt hz).1
    by_cases h4 : s % 5 = 4
    · rw [decide_eq_true h4] at hem
      have a := (hL.2.1 n hn hem).1
      have b := hF.1.2.1 s hsl h4
      constructor <;> intro x <;> omega
    · rw [decide_eq_false h4] at hem
      obtain ⟨c0, p0, o0⟩ := hG.child hz hn ok hp hem (show 0 < 2 by decide)
      obtain ⟨c1, p1, o1⟩ := hG.child hz hn ok hp hem (show 1 < 2 by decide)
      have L := hL.2.2 n hn hem
      have q0 : chS to 0 n 0 1 = 2 * to (2 * n + 0) + 1 := rfl
      have q1 : chS to 0 n 1 1 = 2 * to (2 * n + 1) + 1 := rfl
      have b0 := (hF.1.1 (thn z tm s 0)).1
      have b1 := (hF.1.1 (thn z tm s 1)).1
      constructor
      · intro x
        obtain ⟨y0, y1, y2⟩ := L.2.1 (by omega)
        rw [q0] at y0 y2
        rw [q1] at y1 y2
        have m0 : lv (2 * to (2 * n + 0) + 1) < k ∧ lv (2 * to (2 * n + 1) + 1) < k := by unfold mxI at y2; split at y2 <;> omega
        obtain ⟨k0, e0⟩ := Int.eq_ofNat_of_zero_le y0
        obtain ⟨k1, e1⟩ := Int.eq_ofNat_of_zero_le y1
        have f0 := (ih k0 _ _ (by omega) (by omega) c0 o0 p0).mp e0
        have f1 := (ih k1 _ _ (by omega) (by omega) c1 o1 p1).mp e1
        have hlt := hF.2 s hsl h4 (by omega) (by omega)
        obtain ⟨_, _, w⟩ := hF.1.2.2 s hsl h4 hlt
        rw [f0, f1] at w
        rw [e0, e1] at y2
        unfold mxI at w y2
        split at w <;> split at y2 <;> omega
      · intro x
        obtain ⟨w0, w1, w2⟩ := hF.1.2.2 s hsl h4 (by omega)
        have m0 : F (thn z tm s 0) + 1 < k ∧ F (thn z tm s 1) + 1 < k := by unfold mxI at w2; split at w2 <;> omega
        obtain ⟨k0, e0⟩ := Int.eq_ofNat_of_zero_le (show 0 ≤ F (thn z tm s 0) + 1 by omega)
        obtain ⟨k1, e1⟩ := Int.eq_ofNat_of_zero_le (show 0 ≤ F (thn z tm s 1) + 1 by omega)
        have f0 := (ih k0 _ _ (by omega) (by omega) c0 o0 p0).mpr (by omega)
        have f1 := (ih k1 _ _ (by omega) (by omega) c1 o1 p1).mpr (by omega)
        have hge : 0 ≤ lv (2 * n + 1) := L.1.mpr ⟨by rw [q0]; omega, by rw [q1]; omega⟩
        obtain ⟨_, _, y2⟩ := L.2.1 hge
        rw [q0, q1, f0, f1] at y2
        unfold mxI at w2 y2
        split at w2 <;> split at y2 <;> omega
/-- the one number by the other -/
theorem stay_val {z : Row} (hz : OkZ z) {tm N : Nat} {pl : Nat → Nat} {em : Nat → Bool} {to : Nat → Nat} {lv F : Nat → Int} (hG : GrS z tm N pl em to) (hL : FinL N em to 0 lv) (hF : StyF (thn z tm) (5 * 2 ^ nz z) F) {n s : Nat} (hn : n < N) (ok : OkS z s) (hp : pl n = plc s) : F s = if lv (2 * n + 1) = -1 then FI else lv (2 * n + 1) - 1 := by
  have hb := hL.1 (2 * n + 1)
  have hf := hF.1.1 s
  by_cases q : lv (2 * n + 1) = -1
  · rw [if_pos q]
    by_cases w : F s < FI
    · exfalso
      obtain ⟨k, e⟩ := Int.eq_ofNat_of_zero_le (show 0 ≤ F s + 1 by omega)
      have := (stay_eq hz hG hL hF (k + 1) k n s (by omega) (by omega) hn ok hp).mpr (by omega)
      omega
    · omega
  · rw [if_neg q]
    obtain ⟨k, e⟩ := Int.eq_ofNat_of_zero_le (show 0 ≤ lv (2 * n + 1) by omega)
    have := (stay_eq hz hG hL hF (k + 1) k n s (by omega) (by unfold FI; omega) hn ok hp).mp e
    omega
theorem forc_eq {z : Row} (hz : OkZ z) {tm N : Nat} {pl : Nat → Nat} {em : Nat → Bool} {to : Nat → Nat} {lv : Nat → Int} {H T : Nat → Nat} (hG : GrS z tm N pl em to) (hL : FinL N em to 1 lv) (hI : FrI (thn z tm) (5 * 2 ^ nz z) H T) (hE : ∀ s, s < 5 * 2 ^ nz z → s % 5 ≠ 4 → H s = lb (thn z tm) T s ∧ T s = mb (thn z tm) H s) : ∀ (K k n s : Nat), k < K → k < FAR → n < N → OkS z s → pl n = plc s → ((lv (2 * n) = k ↔ H s = k) ∧ (lv (2 * n + 1) = k ↔ T s = k)) := by
  intro K
  induction K with
  | zero => intro k n s hk; exact absurd hk (Nat.not_lt_zero k)
  | succ K ih =>
    intro k n s hk hk2 hn ok hp
    have hem := hG.em hz ok hp
    have hsl := (ok.lt hz).1
    by_cases h4 : s % 5 = 4
    · rw [decide_eq_true h4] at hem
      have a := hL.2.1 n hn hem
      have b := hI.2.1 s hsl h4
      refine ⟨⟨fun x => ?_, fun x => ?_⟩, ⟨fun x => ?_, fun x => ?_⟩⟩ <;> omega
    · rw [decide_eq_false h4] at hem
      obtain ⟨c0, p0, o0⟩ := hG.child hz hn ok hp hem (show 0 < 2 by decide)
      obtain ⟨c1, p1, o1⟩ := hG.child hz hn ok hp hem (show 1 < 2 by decide)
      have L := hL.2.2 n hn hem
      have q0 : chS to 1 n 0 1 = 2 * to (2 * n + 0) := rfl
      have q1 : chS to 1 n 1 1 = 2 * to (2 * n + 1) := rfl
      have r0 : chS to 1 n 0 0 = 2 * to (2 * n + 0) + 1 := rfl
      have r1 : chS to 1 n 1 0 = 2 * to (2 * n + 1) + 1 := rfl
      obtain ⟨eH, eT⟩ := hE s hsl h4
      have bH0 := (hI.1 (thn z tm s 0)).1
      have bH1 := (hI.1 (thn z tm s 1)).1
      have bT0 := (hI.1 (thn z tm s 0)).2
      have bT1 := (hI.1 (thn z tm s 1)).2
      refine ⟨⟨?_, ?_⟩, ⟨?_, ?_⟩⟩
      · intro x
        obtain ⟨b, hb, y0, y1, y2⟩ := L.2.2.2 (by omega)
        have z0 := y2 0 (by decide)
        have z1 := y2 1 (by decide)
        rw [r0] at z0
        rw [r1] at z1
        have sm0 : ∀ j : Nat, j < k → (lv (2 * to (2 * n + 0) + 1) = j ↔ T (thn z tm s 0) = j) := fun j hj => (ih j _ _ (by omega) (by omega) c0 o0 p0).2
        have sm1 : ∀ j : Nat, j < k → (lv (2 * to (2 * n + 1) + 1) = j ↔ T (thn z tm s 1) = j) := fun j hj => (ih j _ _ (by omega) (by omega) c1 o1 p1).2
        obtain ⟨kb, ekb⟩ := Int.eq_ofNat_of_zero_le y0
        have hkb : k = kb + 1 := by omega
        have g0 : kb ≤ T (thn z tm s 0) := by
          rcases Nat.lt_or_ge (T (thn z tm s 0)) kb with w | w
          · have := (sm0 (T (thn z tm s 0)) (by omega)).mpr rfl
            have := z0 (by omega)
            omega
          · exact w
        have g1 : kb ≤ T (thn z tm s 1) := by
          rcases Nat.lt_or_ge (T (thn z tm s 1)) kb with w | w
          · have := (sm1 (T (thn z tm s 1)) (by omega)).mpr rfl
            have := z1 (by omega)
            omega
          · exact w
        have ge : T (thn z tm s 0) = kb ∨ T (thn z tm s 1) = kb := by
          rcases (show b = 0 ∨ b = 1 by omega) with w | w <;> subst w
          · left; rw [r0] at ekb; exact (sm0 kb (by omega)).mp ekb
          · right; rw [r1] at ekb; exact (sm1 kb (by omega)).mp ekb
        rw [eH]; unfold lb
        split
        · rw [if_neg (by omega)]; omega
        · rw [if_neg (by omega)]; omega
      · intro x
        rw [eH] at x
        obtain ⟨b, hb, x1, x2⟩ := lb_lt (f := thn z tm) (F := T) (s := s) (fun t => (hI.1 t).2) (by omega)
        have hle0 : k ≤ T (thn z tm s 0) + 1 := by unfold lb at x; split at x <;> split at x <;> omega
        have hle1 : k ≤ T (thn z tm s 1) + 1 := by unfold lb at x; split at x <;> split at x <;> omega
        have sm0 : ∀ j : Nat, j < k → (lv (2 * to (2 * n + 0) + 1) = j ↔ T (thn z tm s 0) = j) := fun j hj => (ih j _ _ (by omega) (by omega) c0 o0 p0).2
        have sm1 : ∀ j : Nat, j < k → (lv (2 * to (2 * n + 1) + 1) = j ↔ T (thn z tm s 1) = j) := fun j hj => (ih j _ _ (by omega) (by omega) c1 o1 p1).2
        have hsome : lv (2 * to (2 * n + 0) + 1) = (k : Int) - 1 ∨ lv (2 * to (2 * n + 1) + 1) = (k : Int) - 1 := by
          rcases (show b = 0 ∨ b = 1 by omega) with w | w <;> subst w
          · left; have := (sm0 (k - 1) (by omega)).mpr (by omega); omega
          · right; have := (sm1 (k - 1) (by omega)).mpr (by omega); omega
        have hge : 0 ≤ lv (2 * n) := (L.2.2.1 rfl).mpr (by rw [r0, r1]; omega)
        obtain ⟨b', hb', y0, y1, y2⟩ := L.2.2.2 hge
        have z0 := y2 0 (by decide)
        have z1 := y2 1 (by decide)
        rw [r0] at z0
        rw [r1] at z1
        rcases (show b' = 0 ∨ b' = 1 by omega) with w | w <;> subst w
        · rw [r0] at y0 y1 z0 z1
          have hle : lv (2 * to (2 * n + 0) + 1) ≤ (k : Int) - 1 := by
            rcases hsome with v | v
            · omega
            · have := z1 (by omega); omega
          obtain ⟨kk, ekk⟩ := Int.eq_ofNat_of_zero_le y0
          have := (sm0 kk (by omega)).mp ekk
          omega
        · rw [r1] at y0 y1 z0 z1
          have hle : lv (2 * to (2 * n + 1) + 1) ≤ (k : Int) - 1 := by
            rcases hsome with v | v
            · have := z0 (by omega); omega
            · omega
          obtain ⟨kk, ekk⟩ := Int.eq_ofNat_of_zero_le y0
          have := (sm1 kk (by omega)).mp ekk
          omega
      · intro x
        obtain ⟨y0, y1, y2⟩ := L.2.1 (by omega)
        rw [q0] at y0 y2
        rw [q1] at y1 y2
        have m0 : lv (2 * to (2 * n + 0)) < k ∧ lv (2 * to (2 * n + 1)) < k := by unfold mxI at y2; split at y2 <;> omega
        obtain ⟨k0, e0⟩ := Int.eq_ofNat_of_zero_le y0
        obtain ⟨k1, e1⟩ := Int.eq_ofNat_of_zero_le y1
        have f0 := (ih k0 _ _ (by omega) (by omega) c0 o0 p0).1.mp e0
        have f1 := (ih k1 _ _ (by omega) (by omega) c1 o1 p1).1.mp e1
        rw [e0, e1] at y2
        rw [eT]; unfold mb
        unfold mxI at y2
        rw [f0, f1]
        split at y2 <;> split
        · rw [if_neg (by omega)]; omega
        · rw [if_neg (by omega)]; omega
        · rw [if_neg (by omega)]; omega
        · rw [if_neg (by omega)]; omega
      · intro x
        rw [eT] at x
        have hm : H (thn z tm s 0) < k ∧ H (thn z tm s 1) < k := by
          unfold mb at x; split at x <;> split at x <;> omega
        have f0 := (ih (H (thn z tm s 0)) _ _ (by omega) (by omega) c0 o0 p0).1.mpr rfl
        have f1 := (ih (H (thn z tm s 1)) _ _ (by omega) (by omega) c1 o1 p1).1.mpr rfl
        have hge : 0 ≤ lv (2 * n + 1) := L.1.mpr ⟨by rw [q0]; omega, by rw [q1]; omega⟩
        obtain ⟨_, _, y2⟩ := L.2.1 hge
        rw [q0, q1, f0, f1] at y2
        unfold mb at x
        unfold mxI at y2
        split at y2 <;> split at x <;> split at x <;> omega
theorem forc_val {z : Row} (hz : OkZ z) {tm N : Nat} {pl : Nat → Nat} {em : Nat → Bool} {to : Nat → Nat} {lv : Nat → Int} {H T : Nat → Nat} (hG : GrS z tm N pl em to) (hL : FinL N em to 1 lv) (hI : FrI (thn z tm) (5 * 2 ^ nz z) H T) (hE : ∀ s, s < 5 * 2 ^ nz z → s % 5 ≠ 4 → H s = lb (thn z tm) T s ∧ T s = mb (thn z tm) H s) {n s : Nat} (hn : n < N) (ok : OkS z s) (hp : pl n = plc s) :
    ((H s : Int) = if lv (2 * n) = -1 then (FAR : Int) else lv (2 * n)) ∧ ((T s : Int) = if lv (2 * n + 1) = -1 then (FAR : Int) else lv (2 * n + 1)) := by
  have key := forc_eq hz hG hL hI hE
  have b0 := hL.1 (2 * n)
  have b1 := hL.1 (2 * n + 1)
  have bb := hI.1 s
  constructor
  · by_cases q : lv (2 * n) = -1
    · rw [if_pos q]
      by_cases w : H s < FAR
      · have := (key (H s + 1) (H s) n s (by omega) w hn ok hp).1.mpr rfl; omega
      · omega
    · rw [if_neg q]
      obtain ⟨k, e⟩ := Int.eq_ofNat_of_zero_le (show 0 ≤ lv (2 * n) by omega)
      have := (key (k + 1) k n s (by omega) (by unfold FAR; omega) hn ok hp).1.mp e
      omega
  · by_cases q : lv (2 * n + 1) = -1
    · rw [if_pos q]
      by_cases w : T s < FAR
      · have := (key (T s + 1) (T s) n s (by omega) w hn ok hp).2.mpr rfl; omega
      · omega
    · rw [if_neg q]
      obtain ⟨k, e⟩ := Int.eq_ofNat_of_zero_le (show 0 ≤ lv (2 * n + 1) by omega)
      have := (key (k + 1) k n s (by omega) (by unfold FAR; omega) hn ok hp).2.mp e
      omega
/-- the class, as far as its contest is settled -/
theorem cont_class (d : Nat) {M : Mem} {r : Nat} {z : Row} {w who tm st : Nat} {ni : Int32} {bt : Nat} (hb : bt ≤ 1) (hQ : QC M r z w who tm ni st) (hst : st < 99999) (h4 : who ≠ 4) :
    ∃ (M1 M2 M3 : Mem) (st' N : Nat) (res : Int) (pl : Nat → Nat) (em : Nat → Bool) (to : Nat → Nat) (lv : Nat → Int), c2 (d + 7) m_RW_here [.ref 100] M = some (.int (iI ((w + 512 * who : Nat) : Int)), M1) ∧ c2 (d + 7) m_Rch_explore [.ref 133, .ref 127, .int (iI ((w + 512 * who : Nat) : Int)), .int (iI (-3))] M1 = some (.int (iI res), M2) ∧ c2 (d + 7) m_Con_settle [.ref 140, .ref 133, .int (iI bt)] M2 = some (.null, M3) ∧ Eqx (scr r) M M3 ∧ QC M3 r z w who tm ni st' ∧ st' ≤ st + 1 ∧ (∀ s, s < 2048 → gI M3 141 s = iI (lv s)) ∧ FinL N em to bt lv ∧ GrM M3 N em to ∧ GrS z tm N pl em to ∧ pl 0 = plc (5 * w + who) ∧ 1 ≤ N ∧ N ≤ 1024 := by
  have hz := hQ.okz
  have hrl := hQ.rl
  obtain ⟨_, h5, hN, hO, htm, hwho, hw⟩ := id hQ
  obtain ⟨M1, st1, e1, hE1, hS1, hle, hQ1⟩ := hQ.hre (d + 4) (by omega)
  obtain ⟨M2, N, E, pl, cb, res, e2, ⟨hX, h0, hWn, hres⟩, hS2, hE2⟩ := c_Rch_explore d (gl := -3) hS1 (now_win hwho hw) (by decide) (by decide)
  have hgo : ∀ p, goalB (-3) p = false := fun p => by rw [goalB, if_neg (by decide)]; exact decide_eq_false (by omega)
  have hE : E = 2 * N := by
    rcases hres with q | q
    · exact q.2.1
    · exact absurd q.2.1 (by rw [hgo]; decide)
  have hNb := hX.1.2.1
  have ent : ∀ n b, n < N → decide (pl n / 512 = 4) = false → b < 2 → gI M2 135 (2 * n + b) = iI ((gI M2 135 (2 * n + b)).toInt.toNat) ∧ (gI M2 135 (2 * n + b)).toInt.toNat < N ∧ pl ((gI M2 135 (2 * n + b)).toInt.toNat) = pas z tm (pl n) b := by
    intro n b hn he hb
    obtain ⟨c1, c2⟩ := hX.2.2.2.2.2 (2 * n + b) (by omega)
    rw [show (2 * n + b) / 2 = n by omega, show (2 * n + b) % 2 = b by omega] at c2
    obtain ⟨j, d1, d2, d3, d4⟩ := c2 (by rw [exB, he, Bool.and_false]; rfl)
    have e : (gI M2 135 (2 * n + b)).toInt.toNat = j := by rw [d2, iI_toInt (by omega) (by omega)]; omega
    rw [e]
    exact ⟨d2, d1, d3⟩
  have hG : GrM M2 N (fun n => decide (pl n / 512 = 4)) (fun e => (gI M2 135 e).toInt.toNat) := ⟨hX.1.1, hNb, fun n hn => ⟨pl n, (hX.1.2.2 n hn).1, (hX.1.2.2 n hn).2.1, rfl⟩, fun n b hn he hb => ⟨(ent n b hn he hb).1, (ent n b hn he hb).2.1⟩⟩
  obtain ⟨M3, lv, e3, hlv, hF, hE3⟩ := c_Con_settle (d + 4) hG hb
  have hE4 : Eqx (scr r) M M3 := (hE1.tr (hE2.mono (fun a ha => scr_mem.mpr (by have := expS_mem.mp ha; omega)))).tr (hE3.mono (fun a ha => scr_mem.mpr (by have := conS_mem.mp ha; omega)))
  have hS3 : StepsC M3 r z tm st1 := hS2.fq hE3 (fun a ha => by have := conS_mem.mp ha; omega)
  exact ⟨M1, M2, M3, st1, N, res, pl, _, _, lv, e1, e2, e3, hE4, hQ.fr hE4 hS3, hle, hlv, hF, hG.fr (hE3 133 (by decide)).1 (hE3 134 (by decide)).1 (hE3 135 (by decide)).1, ⟨fun n => rfl, fun n b hn he hb => (ent n b hn he hb).2⟩, by rw [h0, plc_now hwho], hX.2.1, hNb⟩
theorem p_stays (z : Row) (w who tm : Nat) : PairQ m_RW_stays m_Mo_stays [] z w who tm := by
  intro d M r ni st hQ hst
  have hz := hQ.okz
  obtain ⟨_, h5, hN, hO, htm, hwho, hw⟩ := id hQ
  show ∃ v M' st', X2 (d + 79) m_RW_stays 0 [.ref 100, uns] [] M = _ ∧ _
  rw [e_RW_stays_0, hN.2.1]
  by_cases h4 : who = 4
  · rw [if_pos (by rw [cw_eq hwho]; exact h4)]
    refine ⟨_, M, st, rfl, Eqx.rf, hQ, by omega, ?_⟩
    intro M2 hM
    show ∃ M2', X2 (d + 79) m_Mo_stays 0 [.ref 197, uns] [] M2 = _ ∧ _
    rw [e_Mo_stays_0, hM.who, if_pos (by rw [who_eq hwho]; exact h4)]
    exact ⟨_, rfl, ResM.thr M2⟩
  · rw [if_neg (by rw [cw_eq hwho]; exact h4)]
    obtain ⟨M1, M2, M3, st', N, res, pl, em, to, lv, e1, e2, e3, hE, hQ3, hle, hlv, hL, hGM, hG, h0, hN1, hN2⟩ := cont_class (d + 72) (bt := 0) (by decide) hQ hst h4
    have e3' : c2 (d + 79) m_Con_settle [.ref 140, .ref 133, .int (iI 0)] M2 = _ := e3
    have el : c2 (d + 79) m_Con_level [.ref 140, .int (iI 0), .int (iI 1)] M3 = some (.int (iI (lv 1)), M3) := c_Con_level (d + 78) hlv (n := 0) (t := 1) (by decide) (by decide)
    have hb := hL.1 1
    rw [e1, bI_some, e2, bI_some, e3', bV_some, el, bI_some, iI_sub]
    have hv : ∃ x : Int, x = (if lv 1 = -1 then -1 else lv 1 - 1) ∧ (if iI (lv 1) = iI (-1) then (some (.int (iI (-1)), M3) : Rs Mem) else some (.int (iI (lv 1 - 1)), M3)) = some (.int (iI x), M3) := by
      by_cases q : lv 1 = -1
      · exact ⟨-1, by rw [if_pos q], by rw [if_pos (by rw [q])]⟩
      · exact ⟨lv 1 - 1, by rw [if_neg q], by rw [if_neg (by rw [iI_eq (by omega) (by omega) (by omega) (by omega)]; exact q)]⟩
    obtain ⟨x, hx, ex⟩ := hv
    rw [ex]
    refine ⟨_, M3, st', rfl, hE, hQ3, hle, ?_⟩
    intro M4 hM
    obtain ⟨M5, F, a1, a2, a3, a4, a5⟩ := c_Mo_laysStays (d + 72) (hM.res (ResM.thr M4))
    have hF := stay_val hz hG hL a4 (n := 0) (s := 5 * w + who) (by omega) hO h0
    rw [show 2 * 0 + 1 = 1 from rfl] at hF
    show ∃ M2', X2 (d + 79) m_Mo_stays 0 [.ref 197, uns] [] M4 = _ ∧ _
    rw [e_Mo_stays_0, hM.who, if_neg (by rw [who_eq hwho]; exact h4), a1, bI_some, hF, hx]
    refine ⟨M5, ?_, (ResM.thr M4).tr a5⟩
    by_cases q : lv 1 = -1
    · rw [if_pos q, if_pos q, if_pos (show iI FI = iI 268435456 from rfl)]
    · rw [if_neg q, if_neg q, if_neg (by rw [iI_eq (by omega) (by omega) (by omega) (by omega)]; omega)]
theorem p_forces (z : Row) (w who tm : Nat) : PairQ m_RW_forces m_Mo_forces [] z w who tm := by
  intro d M r ni st hQ hst
  have hz := hQ.okz
  obtain ⟨_, h5, hN, hO, htm, hwho, hw⟩ := id hQ
  show ∃ v M' st', X2 (d + 79) m_RW_forces 0 [.ref 100] [] M = _ ∧ _
  rw [e_RW_forces_0, hN.2.1]
  by_cases h4 : who = 4
  · rw [if_pos (by rw [cw_eq hwho]; exact h4)]
    refine ⟨_, M, st, rfl, Eqx.rf, hQ, by omega, ?_⟩
    intro M2 hM
    show ∃ M2', X2 (d + 79) m_Mo_forces 0 [.ref 197] [] M2 = _ ∧ _
    rw [e_Mo_forces_0, hM.who, if_pos (by rw [who_eq hwho]; exact h4)]
    exact ⟨_, rfl, ResM.thr M2⟩
  · rw [if_neg (by rw [cw_eq hwho]; exact h4)]
    obtain ⟨M1, M2, M3, st', N, res, pl, em, to, lv, e1, e2, e3, hE, hQ3, hle, hlv, hL, hGM, hG, h0, hN1, hN2⟩ := cont_class (d + 72) (bt := 1) (by decide) hQ hst h4
    have e3' : c2 (d + 79) m_Con_settle [.ref 140, .ref 133, .int (iI 1)] M2 = _ := e3
    have el : c2 (d + 79) m_Con_level [.ref 140, .int (iI 0), .int (iI 0)] M3 = some (.int (iI (lv 0)), M3) := c_Con_level (d + 78) hlv (n := 0) (t := 0) (by decide) (by decide)
    have hb := hL.1 0
    rw [e1, bI_some, e2, bI_some, e3', bV_some, el, bI_some]
    refine ⟨_, M3, st', rfl, hE, hQ3, hle, ?_⟩
    intro M4 hM
    obtain ⟨M5, H, T, a1, a2, a2', a3, a4, a4', a5⟩ := c_Mo_laysForced (d + 72) (hM.res (ResM.thr M4))
    have hH := (forc_val hz hG hL a4 a4' (n := 0) (s := 5 * w + who) (by omega) hO h0).1
    rw [show 2 * 0 = 0 from rfl] at hH
    show ∃ M2', X2 (d + 79) m_Mo_forces 0 [.ref 197] [] M4 = _ ∧ _
    rw [e_Mo_forces_0, hM.who, if_neg (by rw [who_eq hwho]; exact h4), a1, bI_some, c_Mo_toldFar _ (a4.1 _).1, bI_some]
    refine ⟨M5, ?_, (ResM.thr M4).tr a5⟩
    by_cases q : lv 0 = -1
    · rw [if_pos q] at hH
      rw [if_pos (by omega), q]
    · rw [if_neg q] at hH
      rw [if_neg (by unfold FAR; omega), hH]
theorem p_minds (z : Row) (w who tm : Nat) : PairQ m_RW_minds m_Mo_minds [] z w who tm := by
  intro d M r ni st hQ hst
  have hz := hQ.okz
  have h9 := nz_le hz
  have hp := pow9 h9
  obtain ⟨_, h5, hN, hO, htm, hwho, hw⟩ := id hQ
  have hl := hO.lt hz
  show ∃ v M' st', X2 (d + 79) m_RW_minds 0 [.ref 100] [] M = _ ∧ _
  rw [e_RW_minds_0, hN.2.1]
  by_cases h4 : who = 4
  · rw [if_pos (by rw [cw_eq hwho]; exact h4)]
    refine ⟨_, M, st, rfl, Eqx.rf, hQ, by omega, ?_⟩
    intro M2 hM
    show ∃ M2', X2 (d + 79) m_Mo_minds 0 [.ref 197, uns] [] M2 = _ ∧ _
    rw [e_Mo_minds_0, hM.who, if_pos (by rw [who_eq hwho]; exact h4)]
    exact ⟨_, rfl, ResM.thr M2⟩
  · rw [if_neg (by rw [cw_eq hwho]; exact h4)]
    obtain ⟨M1, M2, M3, st', N, res, pl, em, to, lv, e1, e2, e3, hE, hQ3, hle, hlv, hL, hGM, hG, h0, hN1, hN2⟩ := cont_class (d + 72) (bt := 1) (by decide) hQ hst h4
    have hem : em 0 = false := by rw [hG.em hz hO h0]; exact decide_eq_false (by omega)
    obtain ⟨c0, p0, o0⟩ := hG.child hz (show 0 < N by omega) hO h0 hem (show 0 < 2 by decide)
    rw [show 2 * 0 + 0 = 0 from rfl] at c0 p0
    have t0 : gI M3 135 0 = iI (to 0) := (hGM.2.2.2 0 0 (by omega) hem (by decide)).1
    have e3' : c2 (d + 79) m_Con_settle [.ref 140, .ref 133, .int (iI 1)] M2 = _ := e3
    have el : c2 (d + 78) m_Con_level [.ref 140, .int (iI 0), .int (iI 0)] M3 = some (.int (iI (lv 0)), M3) := c_Con_level (d + 77) hlv (n := 0) (t := 0) (by decide) (by decide)
    have el1 : c2 (d + 78) m_Con_level [.ref 140, .int (iI (to 0)), .int (iI 1)] M3 = some (.int (iI (lv (2 * to 0 + 1))), M3) := c_Con_level (d + 77) hlv (n := to 0) (t := 1) (by omega) (by decide)
    have hb := hL.1 0
    have hb1 := hL.1 (2 * to 0 + 1)
    have hv : ∃ x : Int, x = (if lv 0 = -1 then -1 else if lv (2 * to 0 + 1) = lv 0 - 1 then 0 else 1) ∧ c2 (d + 79) m_Con_forcingBlind [.ref 140, .ref 133] M3 = some (.int (iI x), M3) := by
      refine ⟨_, rfl, ?_⟩
      show X2 (d + 78) m_Con_forcingBlind 0 [.ref 140, .ref 133, uns] [] M3 = _
      rw [e_Con_forcingBlind_0, el, bI_some, t0, el1, bI_some, iI_sub]
      by_cases q : lv 0 = -1
      · rw [if_pos (by rw [q]), if_pos q]
      · rw [if_neg (by rw [iI_eq (by omega) (by omega) (by omega) (by omega)]; exact q), if_neg q]
        by_cases q2 : lv (2 * to 0 + 1) = lv 0 - 1
        · rw [if_pos (by rw [q2]), if_pos q2]
        · rw [if_neg (by rw [iI_eq (by omega) (by omega) (by omega) (by omega)]; exact q2), if_neg q2]
    obtain ⟨x, hx, ex⟩ := hv
    rw [e1, bI_some, e2, bI_some, e3', bV_some, ex, bI_some]
    refine ⟨_, M3, st', rfl, hE, hQ3, hle, ?_⟩
    intro M4 hM
    obtain ⟨M5, H, T, a1, a2, a2', a3, a4, a4', a5⟩ := c_Mo_laysForced (d + 72) (hM.res (ResM.thr M4))
    have hH := (forc_val hz hG hL a4 a4' (n := 0) (s := 5 * w + who) (by omega) hO h0).1
    have hT := (forc_val hz hG hL a4 a4' c0 o0 p0).2
    rw [show 2 * 0 = 0 from rfl] at hH
    have hr5 := (hM.res ((ResM.thr M4).tr a5)).stand
    have tl := thn_lt hz tm 0 hl.1
    have bT := (a4.1 (thn z tm (5 * w + who) 0)).2
    have bH := (a4.1 (5 * w + who)).1
    unfold FAR at bT bH
    show ∃ M2', X2 (d + 79) m_Mo_minds 0 [.ref 197, uns] [] M4 = _ ∧ _
    rw [e_Mo_minds_0, hM.who, if_neg (by rw [who_eq hwho]; exact h4), a1, bI_some, c_Mo_standNow, bI_some, show iI 5 * gI M5 198 25 + gI M5 198 26 = iI ((5 * w + who : Nat) : Int) from hr5, two_mul_iI, inb_ok (by omega) (by omega) (by omega), gb_T, ix_nat (by omega), show gI M5 207 (2 * (5 * w + who)) = iI (thn z tm (5 * w + who) 0) from a3 _ hl.1 0 (by decide), inb_ok (by omega) (by omega) (by omega), gb_T, ix_nat (by omega), a2' _ (by omega), iI_sub, hx]
    refine ⟨M5, ?_, (ResM.thr M4).tr a5⟩
    have eF : (FAR : Int) = 268435456 := rfl
    by_cases q : lv 0 = -1
    · rw [if_pos q] at hH
      rw [if_pos (by rw [hH]; rfl), if_pos q]
    · rw [if_neg q] at hH
      rw [if_neg (by rw [iI_eq (by omega) (by omega) (by omega) (by omega)]; omega), if_neg q]
      by_cases q2 : lv (2 * to 0 + 1) = lv 0 - 1
      · have hem0 : 1 ≤ lv 0 := by
          have := hL.1 (2 * to 0 + 1)
          have L := hL.2.2 0 (by omega) hem
          obtain ⟨b, _, y0, y1, _⟩ := L.2.2.2 (show 0 ≤ lv (2 * 0) by rw [show 2 * 0 = 0 from rfl]; omega)
          rw [show 2 * 0 = 0 from rfl] at y1
          omega
        rw [if_neg (by omega)] at hT
        rw [if_pos (by rw [hT, hH, q2]), if_pos q2]
      · rw [if_neg q2, if_neg]
        rw [iI_eq (by omega) (by omega) (by omega) (by omega)]
        by_cases q3 : lv (2 * to 0 + 1) = -1
        · rw [if_pos q3] at hT; omega
        · rw [if_neg q3] at hT; omega
