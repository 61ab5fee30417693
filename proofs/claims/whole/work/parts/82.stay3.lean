/-! stayBy. -/
def dueI (a : Int) : Int := if a = -1 then -1 else a - 1
def bpW (lv : Nat → Int) (to : Nat → Nat) (n : Nat) : Nat := if lv (2 * to (2 * n) + 1) = dueI (lv (2 * n + 1)) then 0 else 1
def npW (lv : Nat → Int) (to : Nat → Nat) : Nat → Nat
  | 0 => 0
  | k + 1 => to (2 * npW lv to k + bpW lv to (npW lv to k))
theorem bpW_lt (lv : Nat → Int) (to : Nat → Nat) (n : Nat) : bpW lv to n < 2 := by unfold bpW; split <;> omega
theorem npW_ok {z : Row} (hz : OkZ z) {tm N s0 : Nat} {pl : Nat → Nat} {em : Nat → Bool} {to : Nat → Nat} {lv : Nat → Int} (hG : GrS z tm N pl em to) (hL : FinL N em to 0 lv) (hN : 1 ≤ N) (h0 : pl 0 = plc s0) (hO : OkS z s0) (hem : em 0 = false) : ∀ k : Nat, (lv 1 = -1 ∨ (k : Int) < lv 1) → npW lv to k < N ∧ em (npW lv to k) = false ∧ lv (2 * npW lv to k + 1) = (if lv 1 = -1 then -1 else lv 1 - k) ∧ pl (npW lv to k) = plc (skW z tm s0 (fun k => bpW lv to (npW lv to k)) k) ∧ OkS z (skW z tm s0 (fun k => bpW lv to (npW lv to k)) k) := by
  intro k
  induction k with
  | zero =>
    intro _
    refine ⟨hN, hem, ?_, h0, hO⟩
    show lv 1 = _
    split <;> omega
  | succ k ih =>
    intro hk
    obtain ⟨a1, a2, a3, a4, a5⟩ := ih (by omega)
    generalize hn : npW lv to k = n at *
    have hb := bpW_lt lv to n
    obtain ⟨c1, p1, o1⟩ := hG.child hz a1 a5 a4 a2 hb
    have hnk : npW lv to (k + 1) = to (2 * n + bpW lv to n) := by show to (2 * npW lv to k + bpW lv to (npW lv to k)) = _; rw [hn]
    have hsk : skW z tm s0 (fun k => bpW lv to (npW lv to k)) (k + 1) = thn z tm (skW z tm s0 (fun k => bpW lv to (npW lv to k)) k) (bpW lv to n) := by
      show thn z tm _ (bpW lv to (npW lv to k)) = _; rw [hn]
    rw [hnk, hsk]
    have L := hL.2.2 n a1 a2
    have q0 : chS to 0 n 0 1 = 2 * to (2 * n) + 1 := rfl
    have q1 : chS to 0 n 1 1 = 2 * to (2 * n + 1) + 1 := rfl
    have b0 := hL.1 (2 * to (2 * n) + 1)
    have b1 := hL.1 (2 * to (2 * n + 1) + 1)
    have hval : lv (2 * to (2 * n + bpW lv to n) + 1) = (if lv 1 = -1 then -1 else lv 1 - ((k + 1 : Nat) : Int)) := by
      by_cases w : lv 1 = -1
      · rw [if_pos w] at a3 ⊢
        unfold bpW dueI
        rw [a3, if_pos rfl]
        by_cases x : lv (2 * to (2 * n) + 1) = -1
        · rw [if_pos x]; exact x
        · rw [if_neg x]
          have : ¬ (0 ≤ lv (2 * n + 1)) := by omega
          rw [L.1, q0, q1] at this
          omega
      · rw [if_neg w] at a3 ⊢
        obtain ⟨y0, y1, y2⟩ := L.2.1 (by omega)
        rw [q0] at y0 y2
        rw [q1] at y1 y2
        have hd : dueI (lv (2 * n + 1)) = lv (2 * n + 1) - 1 := if_neg (by omega)
        unfold bpW
        rw [hd]
        by_cases x : lv (2 * to (2 * n) + 1) = lv (2 * n + 1) - 1
        · rw [if_pos x]
          show lv (2 * to (2 * n) + 1) = _
          omega
        · rw [if_neg x]
          unfold mxI at y2; split at y2 <;> omega
    refine ⟨c1, ?_, hval, p1, o1⟩
    cases he : em (to (2 * n + bpW lv to n))
    · rfl
    · have := (hL.2.1 _ c1 he).1
      rw [this] at hval
      split at hval <;> omega
theorem c_Con_stayBlind (d : Nat) {M : Mem} {z : Row} (hz : OkZ z) {tm N s0 i : Nat} {pl : Nat → Nat} {em : Nat → Bool} {to : Nat → Nat} {lv : Nat → Int} (hlv : ∀ s, s < 2048 → gI M 141 s = iI (lv s)) (hGM : GrM M N em to) (hG : GrS z tm N pl em to) (hL : FinL N em to 0 lv) (hN : 1 ≤ N) (h0 : pl 0 = plc s0) (hO : OkS z s0) (hem : em 0 = false) (hi : i ≤ 99) (hA : lv 1 ≠ 0) :
    c2 (d + 2) m_Con_stayBlind [.ref 140, .ref 133, .int (iI i)] M = some (.int (iI (if lv 1 = -1 ∨ (i : Int) < lv 1 - 1 then (bpW lv to (npW lv to i) : Int) else -1)), M) := by
  have hNb := hGM.2.1
  have ok := npW_ok hz hG hL hN h0 hO hem
  have go : ∀ (j k : Nat) (x4 : Int32) (v6 v7 : Value), j + k = i + 1 → (lv 1 = -1 ∨ (k : Int) < lv 1) → (1 ≤ k → x4 = iI (bpW lv to (npW lv to (k - 1)))) → X2 (d + 1) m_Con_stayBlind 8 [.ref 140, .ref 133, .int (iI i), .int (iI (npW lv to k)), .int x4, .int (iI k), v6, v7] [] M = some (.int (iI (if lv 1 = -1 ∨ (i : Int) < lv 1 - 1 then (bpW lv to (npW lv to i) : Int) else -1)), M) := by
    intro j
    induction j with
    | zero =>
      intro k x4 v6 v7 hk hA2 hx
      rw [e_Con_stayBlind_8, if_pos (by rw [iI_lt (by omega) (by omega) (by omega) (by omega)]; omega), if_pos (by omega), hx (by omega), show k - 1 = i by omega]
    | succ j ih =>
      intro k x4 v6 v7 hk hA2 hx
      obtain ⟨a1, a2, a3, a4, a5⟩ := ok k hA2
      generalize hn : npW lv to k = n at *
      have hbb := hL.1 (2 * n + 1)
      have t0 := hGM.2.2.2 n 0 a1 a2 (by decide)
      have t1 := hGM.2.2.2 n 1 a1 a2 (by decide)
      rw [show 2 * n + 0 = 2 * n from rfl] at t0
      have e2 : iI n * iI 2 = iI ((2 * n : Nat) : Int) := by rw [iI_mul]; congr 1; omega
      have e20 : iI ((2 * n : Nat) : Int) + iI 0 = iI ((2 * n : Nat) : Int) := by rw [iI_add, Int.add_zero]
      have el : c2 (d + 1) m_Con_level [.ref 140, .int (iI n), .int (iI 1)] M = some (.int (iI (lv (2 * n + 1))), M) := c_Con_level d hlv (t := 1) (by omega) (by decide)
      have el1 : c2 (d + 1) m_Con_level [.ref 140, .int (iI (to (2 * n))), .int (iI 1)] M = some (.int (iI (lv (2 * to (2 * n) + 1))), M) := c_Con_level d hlv (t := 1) (by omega) (by decide)
      rw [e_Con_stayBlind_8, if_neg (by rw [iI_lt (by omega) (by omega) (by omega) (by omega)]; omega), el, bI_some]
      have n0 : ¬ (iI (lv (2 * n + 1)) = 0) := by
        rw [iI_eq0 (by omega) (by omega), a3]; split <;> omega
      rw [if_neg n0]
      by_cases q1 : lv (2 * n + 1) = 1
      · rw [if_pos (by rw [q1])]
        have : ¬ (lv 1 = -1 ∨ (i : Int) < lv 1 - 1) := by rw [q1] at a3; split at a3 <;> omega
        rw [if_neg this]
      · have hA3 : lv 1 = -1 ∨ ((k + 1 : Nat) : Int) < lv 1 := by
          by_cases w : lv 1 = -1
          · exact Or.inl w
          · rw [if_neg w] at a3; right; omega
        rw [if_neg (by rw [iI_eq (by omega) (by omega) (by omega) (by omega)]; exact q1), if_neg (by rw [iI_lt0 (by omega) (by omega)]; omega), if_pos (by rw [iI_lt (by omega) (by omega) (by omega) (by omega)]; omega)]
        have hdu : (if iI (lv (2 * n + 1)) = iI (-1) then X2 (d + 1) m_Con_stayBlind 60 [.ref 140, .ref 133, .int (iI i), .int (iI n), .int x4, .int (iI k), .int (iI (lv (2 * n + 1))), v7] [.int (iI (-1))] M else X2 (d + 1) m_Con_stayBlind 60 [.ref 140, .ref 133, .int (iI i), .int (iI n), .int x4, .int (iI k), .int (iI (lv (2 * n + 1))), v7] [.int (iI (lv (2 * n + 1)) - iI 1)] M) = X2 (d + 1) m_Con_stayBlind 60 [.ref 140, .ref 133, .int (iI i), .int (iI n), .int x4, .int (iI k), .int (iI (lv (2 * n + 1))), v7] [.int (iI (dueI (lv (2 * n + 1))))] M := by
          unfold dueI
          by_cases w : lv (2 * n + 1) = -1
          · rw [if_pos (by rw [w]), if_pos w]
          · rw [if_neg (by rw [iI_eq (by omega) (by omega) (by omega) (by omega)]; exact w), if_neg w, iI_sub]
        have hdb : -1 ≤ dueI (lv (2 * n + 1)) ∧ dueI (lv (2 * n + 1)) ≤ 2048 := by unfold dueI; split <;> omega
        have hb1 := hL.1 (2 * to (2 * n) + 1)
        rw [hdu, e_Con_stayBlind_60, e2, inb_ok (by omega) (by omega) (by omega), gb_T, ix_nat (by omega), t0.1, el1, bI_some, e20, two_mul_iI1, inb_ok (z := ((2 * n : Nat) : Int)) (by omega) (by omega) (by omega), gb_T, inb_ok (z := ((2 * n + 1 : Nat) : Int)) (by omega) (by omega) (by omega), gb_T, ix_nat (n := 2 * n) (by omega), ix_nat (n := 2 * n + 1) (by omega), t0.1, t1.1, iI_add]
        have hnk : npW lv to (k + 1) = to (2 * n + bpW lv to n) := by show to (2 * npW lv to k + bpW lv to (npW lv to k)) = _; rw [hn]
        have hbn : bpW lv to (npW lv to (k + 1 - 1)) = bpW lv to n := by rw [show k + 1 - 1 = k from rfl, hn]
        have ih0 := fun x hx => ih (k + 1) x (.int (iI (lv (2 * n + 1)))) (.int (iI (dueI (lv (2 * n + 1))))) (by omega) hA3 hx
        rw [hnk, hbn] at ih0
        by_cases w : lv (2 * to (2 * n) + 1) = dueI (lv (2 * n + 1))
        · have hb0 : bpW lv to n = 0 := if_pos w
          rw [hb0] at ih0
          rw [if_pos (by rw [w])]
          exact ih0 (iI 0) (fun _ => rfl)
        · have hb0 : bpW lv to n = 1 := if_neg w
          rw [hb0] at ih0
          rw [if_neg (by rw [iI_eq (by omega) (by omega) (by omega) (by omega)]; exact w)]
          exact ih0 (iI 1) (fun _ => rfl)
  show X2 (d + 1) m_Con_stayBlind 0 [.ref 140, .ref 133, .int (iI i), uns, uns, uns, uns, uns] [] M = _
  rw [e_Con_stayBlind_0]
  have hb := hL.1 1
  exact go (i + 1) 0 (iI (-1)) uns uns (by omega) (by omega) (fun h => by omega)
theorem p_stayBy (z : Row) (w who tm : Nat) (x1 : Int32) : PairQ m_RW_stayBy m_Mo_stayBy [.int x1] z w who tm := by
  intro d M r ni st hQ hst
  obtain ⟨i, rfl, i1, i2⟩ := iI_ex x1
  have hz := hQ.okz
  have h9 := nz_le hz
  have hp := pow9 h9
  obtain ⟨_, h5, hN, hO, htm, hwho, hw⟩ := id hQ
  have hl := hO.lt hz
  show ∃ v M' st', X2 (d + 79) m_RW_stayBy 0 [.ref 100, .int (iI i)] [] M = _ ∧ _
  rw [e_RW_stayBy_0, hN.2.1]
  simp only [cw_eq hwho, iI_lt0 i1 i2, iI_lt (show (-2147483648 : Int) ≤ 99 by omega) (show (99 : Int) ≤ 2147483647 by omega) i1 i2]
  by_cases hi : 0 ≤ i ∧ i ≤ 99
  · rw [if_neg (show ¬ (i < 0) by omega), if_neg (show ¬ (99 < i) by omega)]
    by_cases h4 : who = 4
    · rw [if_pos h4]
      refine ⟨_, M, st, rfl, Eqx.rf, hQ, by omega, ?_⟩
      intro M2 hM
      have hM1 := hM.res (ResM.thr M2)
      show ∃ M2', X2 (d + 79) m_Mo_stayBy 0 [.ref 197, .int (iI i), uns, uns, uns, uns, uns] [] M2 = _ ∧ _
      rw [e_Mo_stayBy_0, c_Mo_within, bI_some, i2l_iI (by omega) (by omega), lI_toInt (by omega) (by omega), lI_toInt (by omega) (by omega), lI_toInt (by omega) (by omega), decide_eq_true hi, b2i_t, if_neg (by decide), hM1.who, if_pos (show iI who = iI 4 by rw [h4]; rfl)]
      exact ⟨_, rfl, ResM.thr M2⟩
    · rw [if_neg h4]
      obtain ⟨i, rfl⟩ := Int.eq_ofNat_of_zero_le hi.1
      obtain ⟨M1, M2, M3, st', N, res, pl, em, to, lv, e1, e2, e3, hE, hQ3, hle, hlv, hL, hGM, hG, h0, hN1, hN2⟩ := cont_class (d + 72) (bt := 0) (by decide) hQ hst h4
      have hem : em 0 = false := by rw [hG.em hz hO h0]; exact decide_eq_false (by omega)
      have hA : lv 1 ≠ 0 := fun x => by
        have L := (hL.2.2 0 (by omega) hem).2.1
        obtain ⟨y0, y1, y2⟩ := L (by show 0 ≤ lv (2 * 0 + 1); rw [show 2 * 0 + 1 = 1 from rfl, x]; exact Int.le_refl 0)
        rw [show 2 * 0 + 1 = 1 from rfl] at y2
        unfold mxI at y2; split at y2 <;> omega
      have hb := hL.1 1
      have e3' : c2 (d + 79) m_Con_settle [.ref 140, .ref 133, .int (iI 0)] M2 = _ := e3
      rw [e1, bI_some, e2, bI_some, e3', bV_some, c_Con_stayBlind _ hz hlv hGM hG hL hN1 h0 hO hem (by omega) hA, bI_some]
      refine ⟨_, M3, st', rfl, hE, hQ3, hle, ?_⟩
      intro M4 hM
      have hM1 := hM.res (ResM.thr M4)
      obtain ⟨M5, F, a1, a2, a3, a4, a5⟩ := c_Mo_laysStays (d + 72) hM1
      have hF := fun {n s : Nat} (hn : n < N) (ok : OkS z s) (hp : pl n = plc s) => stay_val hz hG hL a4 hn ok hp
      have hF0 : F (5 * w + who) = if lv 1 = -1 then FI else lv 1 - 1 := hF (n := 0) (s := 5 * w + who) (by omega) hO h0
      have hr5 := (hM.res ((ResM.thr M4).tr a5)).stand
      have ok := npW_ok hz hG hL hN1 h0 hO hem
      have fi : FI = 268435456 := rfl
      show ∃ M2', X2 (d + 79) m_Mo_stayBy 0 [.ref 197, .int (iI i), uns, uns, uns, uns, uns] [] M4 = _ ∧ _
      rw [e_Mo_stayBy_0, c_Mo_within, bI_some, i2l_iI (by omega) (by omega), lI_toInt (by omega) (by omega), lI_toInt (by omega) (by omega), lI_toInt (by omega) (by omega), decide_eq_true hi, b2i_t, if_neg (by decide), hM1.who, if_neg (show ¬ (iI who = iI 4) by rw [who_eq hwho]; exact h4), a1, bI_some, c_Mo_standNow, bI_some, show iI 5 * gI M5 198 25 + gI M5 198 26 = iI ((5 * w + who : Nat) : Int) from hr5]
      refine ⟨M5, ?_, (ResM.thr M4).tr a5⟩
      by_cases hc : lv 1 = -1 ∨ (i : Int) < lv 1 - 1
      · rw [if_pos hc]
        have hFr : (i : Int) < F (5 * w + who) ∧ F (5 * w + who) ≤ FI := by rw [hF0]; split <;> omega
        rw [if_pos (by rw [iI_lt (by omega) (by omega) (by omega) (by omega)]; exact hFr.1)]
        have hiffG : ∀ (n s k : Nat) (y : Int), n < N → em n = false → OkS z s → pl n = plc s → lv (2 * n + 1) = (if lv 1 = -1 then -1 else lv 1 - k) → (lv 1 = -1 ∨ (k : Int) < lv 1) → y = (if lv 1 = -1 then FI else lv 1 - 2 - k) → (iI (F (thn z tm s 0)) = iI y) = (lv (2 * to (2 * n) + 1) = dueI (lv (2 * n + 1))) := by
          intro n s k y b1 b2 b5 b4 b3 hk hyr
          obtain ⟨c1, p1, o1⟩ := hG.child hz b1 b5 b4 b2 (show 0 < 2 by decide)
          rw [show 2 * n + 0 = 2 * n from rfl] at c1 p1
          have hf := hF c1 o1 p1
          have hfb := a4.1.1 (thn z tm s 0)
          have hlb := hL.1 (2 * to (2 * n) + 1)
          by_cases x : lv 1 = -1
          · rw [if_pos x] at b3 hyr
            have hd : dueI (lv (2 * n + 1)) = -1 := by rw [b3]; rfl
            rw [hd, iI_eq (by omega) (by omega) (by omega) (by omega), hf, hyr]
            apply propext
            split <;> constructor <;> intro v <;> omega
          · rw [if_neg x] at b3 hyr
            have hd : dueI (lv (2 * n + 1)) = lv 1 - k - 1 := by rw [b3]; exact if_neg (by omega)
            rw [hd, iI_eq (by omega) (by omega) (by omega) (by omega), hf, hyr]
            apply propext
            split <;> constructor <;> intro v <;> omega
        have go : ∀ (j k : Nat) (v5 v6 : Value), k + j = i → X2 (d + 79) m_Mo_stayBy 54 [.ref 197, .int (iI i), .int (iI (F (5 * w + who))), .int (iI (skW z tm (5 * w + who) (fun k => bpW lv to (npW lv to k)) k)), .int (iI k), v5, v6] [] M5 = some (.int (iI (bpW lv to (npW lv to i))), M5) := by
          intro j
          induction j with
          | zero =>
            intro k v5 v6 hk
            have hk' : k = i := by omega
            subst hk'
            obtain ⟨b1, b2, b3, b4, b5⟩ := ok k (by omega)
            generalize npW lv to k = n at *
            generalize skW z tm (5 * w + who) (fun k => bpW lv to (npW lv to k)) k = s at *
            obtain ⟨c1, p1, o1⟩ := hG.child hz b1 b5 b4 b2 (show 0 < 2 by decide)
            rw [show 2 * n + 0 = 2 * n from rfl] at c1 p1
            have hf := hF c1 o1 p1
            have hsl := b5.lt hz
            have tl := thn_lt hz tm 0 hsl.1
            have hfb := a4.1.1 (thn z tm s 0)
            have hlb := hL.1 (2 * to (2 * n) + 1)
            obtain ⟨y, hy, hyr⟩ : ∃ y : Int, (if iI (F (5 * w + who)) = iI 268435456 then X2 (d + 79) m_Mo_stayBy 73 [.ref 197, .int (iI k), .int (iI (F (5 * w + who))), .int (iI s), .int (iI k), v5, v6] [.int (iI 268435456)] M5 else X2 (d + 79) m_Mo_stayBy 73 [.ref 197, .int (iI k), .int (iI (F (5 * w + who))), .int (iI s), .int (iI k), v5, v6] [.int ((iI (F (5 * w + who)) - iI k) - iI 1)] M5) = X2 (d + 79) m_Mo_stayBy 73 [.ref 197, .int (iI k), .int (iI (F (5 * w + who))), .int (iI s), .int (iI k), v5, v6] [.int (iI y)] M5 ∧ y = (if lv 1 = -1 then FI else lv 1 - 2 - k) := by
              by_cases x : lv 1 = -1
              · rw [if_pos x] at hF0
                exact ⟨FI, by rw [if_pos (by rw [hF0]; rfl)]; rfl, by rw [if_pos x]⟩
              · rw [if_neg x] at hF0
                exact ⟨lv 1 - 2 - k, by rw [if_neg (by rw [iI_eq (by omega) (by omega) (by omega) (by omega)]; omega), iI_sub, iI_sub, hF0, show lv 1 - 1 - (k : Int) - 1 = lv 1 - 2 - (k : Int) by omega], by rw [if_neg x]⟩
            have hyb : -3000 ≤ y ∧ y ≤ FI := by rw [hyr]; split <;> omega
            rw [e_Mo_stayBy_54, hy, e_Mo_stayBy_73, two_mul_iI, inb_ok (by omega) (by omega) (by omega), gb_T, ix_nat (by omega), show gI M5 207 (2 * s) = iI (thn z tm s 0) from a3 _ hsl.1 0 (by decide), inb_ok (by omega) (by omega) (by omega), gb_T, ix_nat (by omega), a2 _ (by omega), if_pos rfl, if_pos rfl]
            have hiff := hiffG n s k y b1 b2 b5 b4 b3 (by omega) hyr
            by_cases v : lv (2 * to (2 * n) + 1) = dueI (lv (2 * n + 1))
            · rw [if_pos (by rw [hiff]; exact v), show bpW lv to n = 0 from if_pos v]; rfl
            · rw [if_neg (by rw [hiff]; exact v), show bpW lv to n = 1 from if_neg v]; rfl
          | succ j ih =>
            intro k v5 v6 hk
            obtain ⟨b1, b2, b3, b4, b5⟩ := ok k (by omega)
            have ihk := fun (v5 v6 : Value) => ih (k + 1) v5 v6 (by omega)
            have hsk : skW z tm (5 * w + who) (fun k => bpW lv to (npW lv to k)) (k + 1) = thn z tm (skW z tm (5 * w + who) (fun k => bpW lv to (npW lv to k)) k) (bpW lv to (npW lv to k)) := rfl
            rw [hsk] at ihk
            generalize npW lv to k = n at *
            generalize skW z tm (5 * w + who) (fun k => bpW lv to (npW lv to k)) k = s at *
            obtain ⟨c1, p1, o1⟩ := hG.child hz b1 b5 b4 b2 (show 0 < 2 by decide)
            rw [show 2 * n + 0 = 2 * n from rfl] at c1 p1
            have hf := hF c1 o1 p1
            have hsl := b5.lt hz
            have tl := thn_lt hz tm 0 hsl.1
            have hfb := a4.1.1 (thn z tm s 0)
            have hlb := hL.1 (2 * to (2 * n) + 1)
            obtain ⟨y, hy, hyr⟩ : ∃ y : Int, (if iI (F (5 * w + who)) = iI 268435456 then X2 (d + 79) m_Mo_stayBy 73 [.ref 197, .int (iI i), .int (iI (F (5 * w + who))), .int (iI s), .int (iI k), v5, v6] [.int (iI 268435456)] M5 else X2 (d + 79) m_Mo_stayBy 73 [.ref 197, .int (iI i), .int (iI (F (5 * w + who))), .int (iI s), .int (iI k), v5, v6] [.int ((iI (F (5 * w + who)) - iI k) - iI 1)] M5) = X2 (d + 79) m_Mo_stayBy 73 [.ref 197, .int (iI i), .int (iI (F (5 * w + who))), .int (iI s), .int (iI k), v5, v6] [.int (iI y)] M5 ∧ y = (if lv 1 = -1 then FI else lv 1 - 2 - k) := by
              by_cases x : lv 1 = -1
              · rw [if_pos x] at hF0
                exact ⟨FI, by rw [if_pos (by rw [hF0]; rfl)]; rfl, by rw [if_pos x]⟩
              · rw [if_neg x] at hF0
                exact ⟨lv 1 - 2 - k, by rw [if_neg (by rw [iI_eq (by omega) (by omega) (by omega) (by omega)]; omega), iI_sub, iI_sub, hF0, show lv 1 - 1 - (k : Int) - 1 = lv 1 - 2 - (k : Int) by omega], by rw [if_neg x]⟩
            have hyb : -3000 ≤ y ∧ y ≤ FI := by rw [hyr]; split <;> omega
            have hne : ¬ (iI k = iI i) := by rw [iI_eq (by omega) (by omega) (by omega) (by omega)]; omega
            have e20 : iI ((2 * s : Nat) : Int) + iI 0 = iI ((2 * s : Nat) : Int) := by rw [iI_add, Int.add_zero]
            have hT0 : gI M5 207 (2 * s) = iI (thn z tm s 0) := a3 _ hsl.1 0 (by decide)
            have hT1 : gI M5 207 (2 * s + 1) = iI (thn z tm s 1) := a3 _ hsl.1 1 (by decide)
            rw [e_Mo_stayBy_54, hy, e_Mo_stayBy_73, two_mul_iI, e20, two_mul_iI1, inb_ok (z := ((2 * s : Nat) : Int)) (by omega) (by omega) (by omega), gb_T, ix_nat (n := 2 * s) (by omega), hT0, inb_ok (z := (thn z tm s 0 : Int)) (by omega) (by omega) (by omega), gb_T, ix_nat (n := thn z tm s 0) (by omega), a2 _ (by omega), if_neg hne, if_neg hne, gb_T, inb_ok (z := ((2 * s + 1 : Nat) : Int)) (by omega) (by omega) (by omega), gb_T, ix_nat (n := 2 * s + 1) (by omega), hT1, iI_add]
            have hiff := hiffG n s k y b1 b2 b5 b4 b3 (by omega) hyr
            by_cases v : lv (2 * to (2 * n) + 1) = dueI (lv (2 * n + 1))
            · have hb0 : bpW lv to n = 0 := if_pos v
              rw [hb0] at ihk
              rw [if_pos (by rw [hiff]; exact v)]
              exact ihk _ _
            · have hb0 : bpW lv to n = 1 := if_neg v
              rw [hb0] at ihk
              rw [if_neg (by rw [hiff]; exact v)]
              exact ihk _ _
        exact go i 0 uns uns (by omega)
      · rw [if_neg hc]
        have hFr : ¬ ((i : Int) < F (5 * w + who)) ∧ F (5 * w + who) ≤ FI ∧ -1 ≤ F (5 * w + who) := by rw [hF0]; split <;> omega
        rw [if_neg (by rw [iI_lt (by omega) (by omega) (by omega) (by omega)]; exact hFr.1)]
  · have fin : ∀ M2, QM M2 z w who tm → ∃ M2', c2 (d + 80) m_Mo_stayBy [.ref 197, .int (iI i)] M2 = some (.int (iI (-3)), M2') ∧ ResM M2 M2' := by
      intro M2 hM
      show ∃ M2', X2 (d + 79) m_Mo_stayBy 0 [.ref 197, .int (iI i), uns, uns, uns, uns, uns] [] M2 = _ ∧ _
      rw [e_Mo_stayBy_0, c_Mo_within, bI_some, i2l_iI i1 i2, lI_toInt (by omega) (by omega), lI_toInt (by omega) (by omega), lI_toInt (by omega) (by omega), decide_eq_false hi, b2i_f, if_pos (by decide)]
      exact ⟨_, rfl, ResM.thr M2⟩
    by_cases q : i < 0
    · rw [if_pos q]; exact ⟨_, M, st, rfl, Eqx.rf, hQ, by omega, fin⟩
    · rw [if_neg q, if_pos (show 99 < i by omega)]; exact ⟨_, M, st, rfl, Eqx.rf, hQ, by omega, fin⟩
