/-! out, outBy, soonest, way, toFace. -/
def PairQ (mc mm : MD) (as : List Value) (z : Row) (w who tm : Nat) : Prop := ∀ d M r ni st, QC M r z w who tm ni st → st < 99999 → ∃ v M' st', c2 (d + 80) mc (.ref 100 :: as) M = some (.int v, M') ∧ Eqx (scr r) M M' ∧ QC M' r z w who tm ni st' ∧ st' ≤ st + 1 ∧ (∀ M2, QM M2 z w who tm → ∃ M2', c2 (d + 80) mm (.ref 197 :: as) M2 = some (.int v, M2') ∧ ResM M2 M2')
theorem Pair.q {mc mm : MD} {as : List Value} {z : Row} {w who tm : Nat} (h : Pair mc mm as z w who tm) : PairQ mc mm as z w who tm := by
  obtain ⟨v, h1, h2⟩ := h
  intro d M r ni st hQ hst
  obtain ⟨M', st', a, b, c, e⟩ := h1 d M r ni st hQ hst
  exact ⟨v, M', st', a, b, c, e, h2 d⟩
theorem rm_pas {z : Row} (hz : OkZ z) (tm : Nat) : ∀ m s t, OkS z s → Rm (thn z tm) m s t → Rm (pas z tm) m (plc s) (plc t) ∧ OkS z t := by
  intro m
  induction m with
  | zero =>
    intro s t hs h
    have e : s = t := h
    subst e
    exact ⟨rfl, hs⟩
  | succ m ih =>
    intro s t hs h
    obtain ⟨b, hb, h⟩ := h
    rw [thn_ok hs] at h
    obtain ⟨a1, a2⟩ := ih _ _ (nxt_ok hz tm hs b) h
    refine ⟨⟨b, hb, ?_⟩, a2⟩
    rw [pas_plc hz tm s b (hs.lt hz).2.2 hs.2]; exact a1
theorem goal_so {gl wl : Int} (h : (gl = -2 ∧ wl = -1) ∨ (gl = wl ∧ 0 ≤ wl)) {s : Nat} (hs : s / 5 < 512) : goalB gl (plc s) = soB wl s := by
  unfold goalB soB
  rw [plc_wall hs, plc_who hs]
  rcases h with ⟨q1, q2⟩ | ⟨q1, q2⟩
  · rw [if_pos q1, if_pos q2]
  · rw [if_neg (by omega), if_neg (by omega), q1]
theorem exB_t {gl : Int} (h : gl ≠ -3) (p : Nat) : exB gl p = true := by rw [exB, decide_eq_false h, Bool.false_and]; rfl
/-- the stands along a way -/
def skW (z : Row) (tm s0 : Nat) (bs : Nat → Nat) : Nat → Nat
  | 0 => s0
  | k + 1 => thn z tm (skW z tm s0 bs k) (bs k)
/-- the way that is laid, and the way that was found -/
def WayOk (z : Row) (tm s0 D : Nat) (F : Nat → Nat) (bs : Nat → Nat) : Prop := F s0 = D ∧ D < 1024 ∧ (∀ k, k < D → OkS z (skW z tm s0 bs k) ∧ bs k < 2 ∧ (F (thn z tm (skW z tm s0 bs k) 0) = D - k - 1 ↔ bs k = 0))
theorem way_found {M : Mem} {z : Row} (hz : OkZ z) {tm s0 N E D : Nat} {gl wl : Int} {pl cb T F : Nat → Nat} (hg : (gl = -2 ∧ wl = -1) ∨ (gl = wl ∧ 0 ≤ wl)) (hO : OkS z s0) (hX : ExpC M z tm N E pl cb (exB gl)) (h0 : pl 0 = plc s0) (hgo : goalB gl (pl (N - 1)) = true) (hno : ∀ i, i < N - 1 → goalB gl (pl i) = false)
    (hT : PathC N cb (N - 1) D T) (hF : FarS (thn z tm) wl F) (hl : ∀ s, s < 5 * 2 ^ nz z → F s ≤ lb (thn z tm) F s) : WayOk z tm s0 D F (fun k => cb (T (k + 1)) % 2) := by
  have h9 := nz_le hz
  have hp := pow9 h9
  have hN := hX.1.2.1
  have hex := exB_t (gl := gl) (by omega)
  obtain ⟨t1, t2, t3, t4, t5⟩ := id hT
  have hD : D < 1024 := by omega
  have hs : ∀ k, k ≤ D → plc (skW z tm s0 (fun k => cb (T (k + 1)) % 2) k) = pl (T k) ∧ OkS z (skW z tm s0 (fun k => cb (T (k + 1)) % 2) k) := by
    intro k
    induction k with
    | zero => intro _; exact ⟨by rw [t1]; exact h0.symm, hO⟩
    | succ k ih =>
      intro hk
      obtain ⟨a1, a2⟩ := ih (by omega)
      obtain ⟨b1, b2, b3⟩ := t5 k (by omega)
      obtain ⟨c1, c2, c3, c4, c5⟩ := hX.2.2.2.1 _ b1 b2
      refine ⟨?_, ?_⟩
      · show plc (thn z tm _ (cb (T (k + 1)) % 2)) = _
        rw [thn_ok a2, ← pas_plc hz tm _ _ (a2.lt hz).2.2 a2.2, a1, c3, b3]
      · show OkS z (thn z tm _ (cb (T (k + 1)) % 2))
        rw [thn_ok a2]; exact nxt_ok hz tm a2 _
  generalize hsk : skW z tm s0 (fun k => cb (T (k + 1)) % 2) = sk at *
  have hst : ∀ k, sk (k + 1) = thn z tm (sk k) (cb (T (k + 1)) % 2) := fun k => by rw [← hsk]; rfl
  have hend : soB wl (sk D) = true := by
    rw [← goal_so hg ((hs D (Nat.le_refl D)).2.lt hz).2.2, (hs D (Nat.le_refl D)).1, t2]; exact hgo
  have hrm : ∀ j k, k + j = D → Rm (thn z tm) j (sk k) (sk D) := by
    intro j
    induction j with
    | zero => intro k hk; rw [show k = D by omega]; exact rfl
    | succ j ih =>
      intro k hk
      refine ⟨cb (T (k + 1)) % 2, by omega, ?_⟩
      rw [← hst]; exact ih (k + 1) (by omega)
  have noway : ∀ m k j t, k + m = D → j < T k → Rm (pas z tm) m (pl j) (plc t) → soB wl t = true → t / 5 < 512 → False := by
    intro m k j t hk hj hR ht h5
    obtain ⟨j', e1, e2⟩ := hX.ahead hT hex m k j (plc t) hk hj hR
    have a := hno j' e1
    rw [e2, goal_so hg h5, ht] at a
    exact absurd a (by decide)
  have hFk : ∀ k, k ≤ D → F (sk k) = D - k := by
    intro k hk
    have ok := (hs k hk).2
    have up := hF.low (n := 5 * 2 ^ nz z) (by omega) (fun s b h => thn_lt hz tm b h) hl (D - k) (sk k) (sk D) (ok.lt hz).1 (hrm (D - k) k (by omega)) hend (by unfold FAR; omega)
    by_cases q : F (sk k) < D - k
    · exfalso
      obtain ⟨t, h1, h2⟩ := hF.2.2 (sk k) (by unfold FAR; omega)
      obtain ⟨a1, a2⟩ := rm_pas hz tm _ _ _ ok h2
      rw [(hs k hk).1] at a1
      refine noway (F (sk k)) (D - F (sk k)) (T k) t (by omega) ?_ a1 h1 (a2.lt hz).2.2
      have := hT.inc (fun i i1 i2 => (hX.2.2.2.1 i i1 i2).2.1) (D - F (sk k) - k - 1) k (by omega)
      rw [show k + (D - F (sk k) - k - 1) + 1 = D - F (sk k) by omega] at this
      exact this
    · omega
  have hf0 : F s0 = D := by
    have := hFk 0 (Nat.zero_le D)
    rw [show sk 0 = s0 from by rw [← hsk]; rfl] at this
    exact this
  refine ⟨hf0, hD, ?_⟩
  intro k hk
  rw [hsk]
  have ok := (hs k (by omega)).2
  refine ⟨ok, by show cb (T (k + 1)) % 2 < 2; omega, ?_⟩
  show F (thn z tm (sk k) 0) = D - k - 1 ↔ cb (T (k + 1)) % 2 = 0
  refine ⟨fun h => ?_, fun h => ?_⟩
  · rcases (show cb (T (k + 1)) % 2 = 0 ∨ cb (T (k + 1)) % 2 = 1 by omega) with q | q
    · exact q
    · exfalso
      obtain ⟨b1, b2, b3⟩ := t5 k hk
      obtain ⟨c1, c2, c3, c4, c5⟩ := hX.2.2.2.1 _ b1 b2
      obtain ⟨d1, d2⟩ := hX.2.2.2.2.2 (2 * T k) (by omega)
      obtain ⟨j, e1, e2, e3, e4⟩ := d2 (hex _)
      rw [show 2 * T k / 2 = T k by omega, show 2 * T k % 2 = 0 by omega, ← (hs k (by omega)).1, pas_plc hz tm _ _ (ok.lt hz).2.2 ok.2, ← thn_ok ok] at e3
      have ok0 : OkS z (thn z tm (sk k) 0) := by rw [thn_ok ok]; exact nxt_ok hz tm ok 0
      obtain ⟨t, h1, h2⟩ := hF.2.2 (thn z tm (sk k) 0) (by unfold FAR; omega)
      obtain ⟨a1, a2⟩ := rm_pas hz tm _ _ _ ok0 h2
      rw [← e3, h] at a1
      refine noway (D - k - 1) (k + 1) j t (by omega) ?_ a1 h1 (a2.lt hz).2.2
      by_cases e : 1 ≤ j
      · have := e4 e
        rcases Nat.lt_trichotomy j (T (k + 1)) with q2 | q2 | q2
        · exact q2
        · subst q2; omega
        · have := hX.2.2.2.2.1 _ _ b1 q2 e1; omega
      · omega
  · have := hFk (k + 1) (by omega)
    rw [hst, h] at this
    omega
theorem way_none {M : Mem} {z : Row} (hz : OkZ z) {tm s0 N E : Nat} {gl wl : Int} {pl cb F : Nat → Nat} (hg : (gl = -2 ∧ wl = -1) ∨ (gl = wl ∧ 0 ≤ wl)) (hO : OkS z s0) (hX : ExpC M z tm N E pl cb (exB gl)) (h0 : pl 0 = plc s0) (hE : E = 2 * N) (hno : ∀ i, i < N → goalB gl (pl i) = false) (hF : FarS (thn z tm) wl F) : F s0 = FAR := by
  have hb := hF.1 s0
  by_cases q : F s0 < FAR
  · exfalso
    obtain ⟨t, h1, h2⟩ := hF.2.2 s0 q
    obtain ⟨a1, a2⟩ := rm_pas hz tm _ _ _ hO h2
    rw [← h0] at a1
    obtain ⟨j, e1, e2⟩ := hX.closed hE (exB_t (gl := gl) (by omega)) _ 0 _ (by have := hX.2.1; omega) a1
    have a := hno j e1
    rw [e2, goal_so hg (a2.lt hz).2.2, h1] at a
    exact absurd a (by decide)
  · omega
theorem c_Mo_toldFar (d : Nat) {n : Nat} (h : n ≤ FAR) (M : Mem) : c2 (d + 1) m_Mo_toldFar [.int (iI n)] M = some (.int (iI (if n = FAR then -1 else (n : Int))), M) := by
  show X2 d m_Mo_toldFar 0 [.int (iI n)] [] M = _
  unfold FAR at *
  rw [e_Mo_toldFar_0]
  by_cases q : n = 268435456
  · rw [if_pos (by rw [q]; rfl), if_pos q]
  · rw [if_neg (by rw [iI_eq (by omega) (by omega) (by omega) (by omega)]; omega), if_neg q]
theorem c_Mo_blindAt (d : Nat) {M : Mem} {z : Row} {tm s0 D : Nat} {F bs : Nat → Nat} {i : Int} (hz : OkZ z) (hO : OkS z s0) (hst : StandM M s0) (hF : FarM M F) (hb : ∀ s, F s ≤ FAR) (hT : ThenM M z tm (5 * 2 ^ nz z)) (hW : WayOk z tm s0 D F bs) (hi : 0 ≤ i) (hi2 : i ≤ 2147483647) :
    c2 (d + 3) m_Mo_blindAt [.ref 197, .int (iI i)] M = some (.int (iI (if i < D then (bs i.toNat : Int) else -1)), M) := by
  have h9 := nz_le hz
  have hp := pow9 h9
  have hl := (hO.lt hz).2.1
  obtain ⟨w1, w2, w3⟩ := hW
  show X2 (d + 2) m_Mo_blindAt 0 [.ref 197, .int (iI i), uns, uns, uns, uns] [] M = _
  rw [e_Mo_blindAt_0, c_Mo_standNow, bI_some, show iI 5 * gI M 198 25 + gI M 198 26 = iI s0 from hst, inb_ok (by omega) (by omega) (by omega), gb_T, ix_nat (by omega), hF s0 hl, w1, if_neg (by rw [iI_eq (by omega) (by omega) (by omega) (by omega)]; omega)]
  by_cases q : i < D
  · obtain ⟨i, rfl⟩ := Int.eq_ofNat_of_zero_le hi
    have go : ∀ j k v5, k + j = i → X2 (d + 2) m_Mo_blindAt 29 [.ref 197, .int (iI i), .int (iI (skW z tm s0 bs k)), .int (iI D), .int (iI k), v5] [] M = some (.int (iI (bs i)), M) := by
      intro j
      induction j with
      | zero =>
        intro k v5 hk
        have hk' : k = i := by omega
        subst hk'
        obtain ⟨a1, a2, a3⟩ := w3 k (by omega)
        have hlk := (a1.lt hz).1
        have ht := thn_lt hz tm 0 hlk
        have hbb := hb (thn z tm (skW z tm s0 bs k) 0)
        unfold FAR at hbb
        have e1 : (iI D - iI k) - iI 1 = iI ((D - k - 1 : Nat) : Int) := by rw [iI_sub, iI_sub]; congr 1; omega
        rw [e_Mo_blindAt_29, two_mul_iI, inb_ok (by omega) (by omega) (by omega), gb_T, ix_nat (by omega), show gI M 207 (2 * skW z tm s0 bs k) = iI (thn z tm (skW z tm s0 bs k) 0) from hT _ hlk 0 (by decide), inb_ok (by omega) (by omega) (by omega), gb_T, ix_nat (by omega), hF _ (by omega), e1]
        by_cases h0 : bs k = 0
        · rw [if_pos (by rw [a3.mpr h0]), if_pos rfl, h0]; rfl
        · rw [if_neg (by rw [iI_eq (by omega) (by omega) (by omega) (by omega)]; have := fun h => h0 (a3.mp h); omega), if_pos rfl, show bs k = 1 by omega]; rfl
      | succ j ih =>
        intro k v5 hk
        obtain ⟨a1, a2, a3⟩ := w3 k (by omega)
        have hlk := (a1.lt hz).1
        have ht := thn_lt hz tm 0 hlk
        have hbb := hb (thn z tm (skW z tm s0 bs k) 0)
        unfold FAR at hbb
        have e1 : (iI D - iI k) - iI 1 = iI ((D - k - 1 : Nat) : Int) := by rw [iI_sub, iI_sub]; congr 1; omega
        have hne : ¬ (iI k = iI i) := by rw [iI_eq (by omega) (by omega) (by omega) (by omega)]; omega
        have e3 : iI ((2 * skW z tm s0 bs k : Nat) : Int) + iI 0 = iI ((2 * skW z tm s0 bs k : Nat) : Int) := by rw [iI_add, Int.add_zero]
        rw [e_Mo_blindAt_29, two_mul_iI, e3, two_mul_iI1, inb_ok (by omega) (by omega) (by omega), gb_T, ix_nat (by omega), show gI M 207 (2 * skW z tm s0 bs k) = iI (thn z tm (skW z tm s0 bs k) 0) from hT _ hlk 0 (by decide), inb_ok (by omega) (by omega) (by omega), gb_T, ix_nat (n := thn z tm (skW z tm s0 bs k) 0) (by omega), hF _ (by omega), e1, if_neg hne, if_neg hne, gb_T, inb_ok (z := ((2 * skW z tm s0 bs k + 1 : Nat) : Int)) (by omega) (by omega) (by omega), gb_T, ix_nat (n := 2 * skW z tm s0 bs k + 1) (by omega), hT _ hlk 1 (by decide), iI_add]
        have := ih (k + 1)
        by_cases h0 : bs k = 0
        · rw [if_pos (by rw [a3.mpr h0])]
          have t := ih (k + 1) (.int (iI 0)) (by omega)
          rw [skW, h0] at t
          exact t
        · rw [if_neg (by rw [iI_eq (by omega) (by omega) (by omega) (by omega)]; have := fun h => h0 (a3.mp h); omega)]
          have t := ih (k + 1) (.int (iI 1)) (by omega)
          rw [skW, show bs k = 1 by omega] at t
          exact t
    rw [if_pos (by rw [iI_lt (by omega) (by omega) (by omega) (by omega)]; omega), if_pos q]
    exact go i 0 uns (by omega)
  · rw [if_neg (by rw [iI_lt (by omega) (by omega) (by omega) (by omega)]; omega), if_neg q]
theorem c_Mo_blindAtN (d : Nat) {M : Mem} {z : Row} {s0 : Nat} {F : Nat → Nat} {i : Int} (hz : OkZ z) (hO : OkS z s0) (hst : StandM M s0) (hF : FarM M F) (h : F s0 = FAR) :
    c2 (d + 3) m_Mo_blindAt [.ref 197, .int (iI i)] M = some (.int (iI (-1)), M) := by
  have hl := (hO.lt hz).2.1
  show X2 (d + 2) m_Mo_blindAt 0 [.ref 197, .int (iI i), uns, uns, uns, uns] [] M = _
  rw [e_Mo_blindAt_0, c_Mo_standNow, bI_some, show iI 5 * gI M 198 25 + gI M 198 26 = iI s0 from hst, inb_ok (by omega) (by omega) (by omega), gb_T, ix_nat (by omega), hF s0 hl, h, if_pos (show iI (FAR : Nat) = iI 268435456 from rfl)]
/-- both sides, of one thing sought: how far, and by which blinds -/
theorem far_both (d : Nat) {M : Mem} {r : Nat} {z : Row} {w who tm st : Nat} {ni : Int32} (gl wl : Int) (hg : (gl = -2 ∧ wl = -1) ∨ (gl = wl ∧ 0 ≤ wl)) (hw5 : wl ≤ 511) (hQ : QC M r z w who tm ni st) (hst : st < 99999) :
    ∃ (M1 M2 : Mem) (st' : Nat) (res a : Int) (bs : Nat → Int), c2 (d + 7) m_RW_here [.ref 100] M = some (.int (iI ((w + 512 * who : Nat) : Int)), M1) ∧ c2 (d + 7) m_Rch_explore [.ref 133, .ref 127, .int (iI ((w + 512 * who : Nat) : Int)), .int (iI gl)] M1 = some (.int (iI res), M2) ∧ Eqx (scr r) M M2 ∧ QC M1 r z w who tm ni st' ∧ QC M2 r z w who tm ni st' ∧ st' ≤ st + 1 ∧
      c2 (d + 7) m_Rch_depth [.ref 133, .int (iI res)] M2 = some (.int (iI a), M2) ∧ (∀ i : Int, 0 ≤ i → i ≤ 2147483647 → c2 (d + 7) m_Rch_blindTo [.ref 133, .int (iI res), .int (iI i)] M2 = some (.int (iI (if i < a then bs i.toNat else -1)), M2)) ∧
      (∀ M3, QM M3 z w who tm → ∃ M4 x, c2 (d + 7) m_Mo_laysFar [.ref 197, .int (iI wl)] M3 = some (.int x, M4) ∧ ResM M3 M4 ∧ c2 (d + 7) m_Mo_toldFar [.int x] M4 = some (.int (iI a), M4) ∧ (∀ i : Int, 0 ≤ i → i ≤ 2147483647 → c2 (d + 7) m_Mo_blindAt [.ref 197, .int (iI i)] M4 = some (.int (iI (if i < a then bs i.toNat else -1)), M4))) := by
  have hz := hQ.okz
  have hrl := hQ.rl
  obtain ⟨⟨tm0, hS⟩, h5, hNow, hO, htm, hwho, hw⟩ := id hQ
  obtain ⟨M1, st1, e1, hE1, hS1, hle, hQ1⟩ := hQ.hre (d + 4) (by omega)
  obtain ⟨M2, N, E, pl, cb, res, e2, ⟨hX, h0, hWn, hres⟩, hS2, hE2⟩ := c_Rch_explore d (gl := gl) hS1 (now_win hwho hw) (by omega) (by omega)
  have hE3 : Eqx (scr r) M M2 := hE1.tr (hE2.mono (fun a ha => scr_mem.mpr (by have := expS_mem.mp ha; omega)))
  have hQ2 := hQ.fr hE3 hS2
  rw [plc_now hwho] at h0
  have ref : ∀ M3, QM M3 z w who tm → ∃ M4 F, c2 (d + 7) m_Mo_laysFar [.ref 197, .int (iI wl)] M3 = some (.int (iI (F (5 * w + who))), M4) ∧ FarM M4 F ∧ ThenM M4 z tm (5 * 2 ^ nz z) ∧ FarS (thn z tm) wl F ∧ (∀ s, s < 5 * 2 ^ nz z → F s ≤ lb (thn z tm) F s) ∧ ResM M3 M4 ∧ StandM M4 (5 * w + who) := by
    intro M3 hM
    obtain ⟨M4, F, a1, a2, a3, a4, a5, a6⟩ := c_Mo_laysFar d (M0 := M3) (tm := tm) (s0 := 5 * w + who) (wl := wl) hM.okz hM.tm hM.ok hM.stand (by omega) hw5
    rw [hM.1] at a3 a4 a5
    exact ⟨M4, F, a1, a2, a3, a4, a5, a6, (hM.res a6).stand⟩
  rcases hres with ⟨rfl, hE, hno⟩ | ⟨rfl, hgo, hno, _⟩
  · refine ⟨M1, M2, st1, -1, -1, fun _ => 0, e1, e2, hE3, hQ1, hQ2, hle, c_Rch_depthN _ _, ?_, ?_⟩
    · intro i hi hi2
      rw [c_Rch_blindToN _ hi hi2, if_neg (by omega)]
    · intro M3 hM
      obtain ⟨M4, F, a1, a2, a3, a4, a5, a6, a7⟩ := ref M3 hM
      have hf := way_none hz hg hO hX h0 hE hno a4
      refine ⟨M4, _, a1, a6, ?_, ?_⟩
      · rw [hf, c_Mo_toldFar _ (Nat.le_refl _), if_pos rfl]
      · intro i hi hi2
        rw [c_Mo_blindAtN _ hz hO a7 a2 hf, if_neg (by omega)]
  · have hN1 := hX.2.1
    have hN2 := hX.1.2.1
    obtain ⟨D, T, hT⟩ := hX.path N (N - 1) (by omega) (by omega)
    refine ⟨M1, M2, st1, ((N - 1 : Nat) : Int), (D : Int), fun k => ((cb (T (k + 1)) % 2 : Nat) : Int), e1, e2, hE3, hQ1, hQ2, hle, c_Rch_depth _ hX hT, ?_, ?_⟩
    · intro i hi hi2
      exact c_Rch_blindTo _ hX hT hi hi2
    · intro M3 hM
      obtain ⟨M4, F, a1, a2, a3, a4, a5, a6, a7⟩ := ref M3 hM
      have hW := way_found hz hg hO hX h0 hgo hno hT a4 a5
      refine ⟨M4, _, a1, a6, ?_, ?_⟩
      · have := hW.1
        have := hW.2.1
        rw [hW.1, c_Mo_toldFar _ (by unfold FAR; omega), if_neg (by unfold FAR; omega)]
      · intro i hi hi2
        exact c_Mo_blindAt _ hz hO a7 a2 a4.1 a3 hW hi hi2
