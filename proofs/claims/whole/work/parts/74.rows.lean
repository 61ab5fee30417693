/-! rows. -/
theorem sm_two (g : Nat → Nat) : ∀ n, sm g (2 * n) = sm (fun i => g (2 * i) + g (2 * i + 1)) n
  | 0 => rfl
  | n + 1 => by
    rw [show 2 * (n + 1) = 2 * n + 1 + 1 by omega, sm, sm, sm, sm_two g n]; omega
/-- the node behind a node -/
def ntM (M : Mem) (i b : Nat) : Nat := (gI M 135 (2 * i + b)).toInt.toNat
theorem ExpC.nt {M : Mem} {z : Row} {tm N E : Nat} {pl cb : Nat → Nat} {ex : Nat → Bool} (hX : ExpC M z tm N E pl cb ex) (hE : E = 2 * N) (hex : ∀ p, ex p = true) {i b : Nat} (hi : i < N) (hb : b < 2) : gI M 135 (2 * i + b) = iI (ntM M i b) ∧ ntM M i b < N ∧ pl (ntM M i b) = pas z tm (pl i) b := by
  have hN := hX.1.2.1
  obtain ⟨c1, c2⟩ := hX.2.2.2.2.2 (2 * i + b) (by omega)
  obtain ⟨j, d1, d2, d3, d4⟩ := c2 (hex _)
  rw [show (2 * i + b) / 2 = i by omega, show (2 * i + b) % 2 = b by omega] at d3
  have e : ntM M i b = j := by
    unfold ntM; rw [d2, iI_toInt (by omega) (by omega)]; omega
  rw [e]
  exact ⟨d2, d1, d3⟩
def WaysC (M : Mem) (N : Nat) (m : Nat → Nat) : Prop := ∀ i, i < N → gI M 138 i = iI (m i) ∧ gI M 139 i = iI 0
theorem c_Rch_spreadWays (d : Nat) {M0 : Mem} {N : Nat} {m : Nat → Nat} {nt : Nat → Nat → Nat} (h1 : gI M0 133 1 = iI N) (hN : N ≤ 1024) (hnt : ∀ i b, i < N → b < 2 → gI M0 135 (2 * i + b) = iI (nt i b) ∧ nt i b < N) (hm : WaysC M0 N m) :
    ∃ M', c2 (d + 1) m_Rch_spreadWays [.ref 133] M0 = some (.null, M') ∧ WaysC M' N (gm nt 1 1 m N) ∧ Eqx [138, 139] M0 M' := by
  have hto : ∀ e, e < 2 * N → gI M0 135 e = iI (nt (e / 2) (e % 2)) ∧ nt (e / 2) (e % 2) < N := fun e he => by
    have := hnt (e / 2) (e % 2) (by omega) (by omega)
    rw [show 2 * (e / 2) + e % 2 = e by omega] at this
    exact this
  have hgm : ∀ t, sm (fun e => m (e / 2) * (if nt (e / 2) (e % 2) = t then 1 else 0)) (2 * N) = gm nt 1 1 m N t := by
    intro t
    rw [sm_two, gm]
    apply sm_congr
    intro i hi
    show m (2 * i / 2) * _ + m ((2 * i + 1) / 2) * _ = _
    rw [show 2 * i / 2 = i by omega, show (2 * i + 1) / 2 = i by omega, show 2 * i % 2 = 0 by omega, show (2 * i + 1) % 2 = 1 by omega, cg, Nat.one_mul, Nat.one_mul]
  have fin : ∀ j k M v2 v3, j + k = N → Eqx [138, 139] M0 M → (∀ s, s < N → (s < k → gI M 138 s = iI (gm nt 1 1 m N s) ∧ gI M 139 s = iI 0) ∧ (k ≤ s → gI M 139 s = iI (gm nt 1 1 m N s))) → ∃ M', X2 d m_Rch_spreadWays 62 [.ref 133, .int (iI k), v2, v3] [] M = some (.null, M') ∧ WaysC M' N (gm nt 1 1 m N) ∧ Eqx [138, 139] M0 M' := by
    intro j
    induction j with
    | zero =>
      intro k M v2 v3 hk hM hv
      rw [e_Rch_spreadWays_62, eqx_I hM (by decide), h1, if_neg (by rw [iI_lt (by omega) (by omega) (by omega) (by omega)]; omega)]
      exact ⟨M, rfl, fun s hs => (hv s hs).1 (by omega), hM⟩
    | succ j ih =>
      intro k M v2 v3 hk hM hv
      rw [e_Rch_spreadWays_62, eqx_I hM (by decide), h1, if_pos (by rw [iI_lt (by omega) (by omega) (by omega) (by omega)]; omega), inb_ok (by omega) (by omega) (by omega), gb_T, gb_T, gb_T, ix_nat (by omega), iI_add]
      refine ih (k + 1) _ v2 v3 (by omega) (eqx_wI (eqx_wI hM (by simp)) (by simp)) ?_
      intro s hs
      by_cases q : s = k
      · subst q
        exact ⟨fun _ => ⟨by rw [gI_na (by decide), gI_eq]; exact (hv s hs).2 (Nat.le_refl _), by rw [gI_eq]⟩, fun h => by omega⟩
      · rw [gI_na (by decide), gI_nk q, gI_nk q, gI_na (by decide)]
        exact ⟨fun h => (hv s hs).1 (by omega), fun h => (hv s hs).2 (by omega)⟩
  have go : ∀ j k M v2 v3, j + k = 2 * N → Eqx [138, 139] M0 M → (∀ s, s < N → gI M 138 s = iI (m s)) → (∀ t, t < N → gI M 139 t = iI (sm (fun e => m (e / 2) * (if nt (e / 2) (e % 2) = t then 1 else 0)) k)) → ∃ M', X2 d m_Rch_spreadWays 2 [.ref 133, .int (iI k), v2, v3] [] M = some (.null, M') ∧ WaysC M' N (gm nt 1 1 m N) ∧ Eqx [138, 139] M0 M' := by
    intro j
    induction j with
    | zero =>
      intro k M v2 v3 hk hM hv ha
      rw [e_Rch_spreadWays_2, eqx_I hM (by decide), h1, two_mul_iI, if_neg (by rw [iI_lt (by omega) (by omega) (by omega) (by omega)]; omega)]
      rw [show k = 2 * N by omega] at ha
      exact fin N 0 M v2 v3 (by omega) hM (fun s hs => ⟨fun h => absurd h (Nat.not_lt_zero s), fun _ => by rw [ha s hs, hgm]⟩)
    | succ j ih =>
      intro k M v2 v3 hk hM hv ha
      obtain ⟨t1, t2⟩ := hto k (by omega)
      have e2 : iI k / iI 2 = iI ((k / 2 : Nat) : Int) := iI_div (b := 2) (by omega) (by decide)
      rw [e_Rch_spreadWays_2, eqx_I hM (by decide), h1, two_mul_iI, if_pos (by rw [iI_lt (by omega) (by omega) (by omega) (by omega)]; omega), e2, inb_ok (by omega) (by omega) (by omega), gb_T, inb_ok (by omega) (by omega) (by omega), gb_T, ix_nat (by omega), ix_nat (by omega), hv _ (by omega), eqx_I hM (show 135 ∉ [138, 139] by decide), t1, iI_add]
      by_cases q0 : iI (m (k / 2)) = iI 0
      · rw [if_pos (show iI (m (k / 2)) = 0 from q0)]
        refine ih (k + 1) M _ _ (by omega) hM hv ?_
        intro t ht
        rw [ha t ht, sm, Int.natCast_add, ← iI_add, Int.natCast_mul, ← iI_mul, q0, iI_mul, Int.zero_mul, iI_add, Int.add_zero]
      · rw [if_neg (show ¬ (iI (m (k / 2)) = 0) from q0), if_neg (by rw [iI_lt0 (by omega) (by omega)]; omega), if_pos (by rw [iI_lt (by omega) (by omega) (by omega) (by omega)]; omega), inb_ok (by omega) (by omega) (by omega), gb_T, gb_T, ix_nat (by omega)]
        refine ih (k + 1) _ _ _ (by omega) (eqx_wI hM (by simp)) (fun s hs => by rw [gI_na (by decide)]; exact hv s hs) ?_
        intro t ht
        rw [sm]
        by_cases q : t = nt (k / 2) (k % 2)
        · subst q
          rw [gI_eq, ha _ ht, if_pos rfl, iI_add, Nat.mul_one]; rfl
        · rw [gI_nk q, ha t ht, if_neg (fun h => q h.symm), Nat.mul_zero]; rfl
  show ∃ M', X2 d m_Rch_spreadWays 0 [.ref 133, uns, uns, uns] [] M0 = _ ∧ _
  rw [e_Rch_spreadWays_0]
  exact go (2 * N) 0 M0 uns uns (by omega) Eqx.rf (fun s hs => (hm s hs).1) (fun t ht => (hm t ht).2)
theorem c_Rch_rowsTo (d : Nat) {M0 : Mem} {r : Nat} {z : Row} {tm st p0 w0 wl n : Nat} (hS : StepsC M0 r z tm st) (hp : WIn w0 p0) (hwl : wl < 512) (hn : n ≤ 20) :
    ∃ (M' : Mem) (N : Nat) (pl : Nat → Nat) (nt : Nat → Nat → Nat), c2 (d + 8) m_Rch_rowsTo [.ref 133, .ref 127, .int (iI p0), .int (iI wl), .int (iI n)] M0 = some (.int (iI (rN nt 1 1 n (fun i => if pl i % 512 = wl then 1 else 0) 0)), M') ∧ pl 0 = p0 ∧ 1 ≤ N ∧ (∀ i b, i < N → b < 2 → nt i b < N ∧ pl (nt i b) = pas z tm (pl i) b) ∧ StepsC M' r z tm st ∧ Eqx (138 :: 139 :: expS r) M0 M' := by
  have hrl := rm_lt r hS.1
  obtain ⟨M1, N, E, pl, cb, res, e1, ⟨hX, h0, hW, hres⟩, hS1, hE1⟩ := c_Rch_explore d (gl := -1) hS hp (by decide) (by decide)
  have hgo : ∀ p, goalB (-1) p = false := fun p => by rw [goalB, if_neg (by decide)]; exact decide_eq_false (by omega)
  have hE : E = 2 * N := by
    rcases hres with q | q
    · exact q.2.1
    · exact absurd q.2.1 (by rw [hgo]; decide)
  have hex := exB_t (gl := -1) (by decide)
  have hN := hX.1.2.1
  have hN1 := hX.2.1
  obtain ⟨M2, e2, hE2, v2⟩ := c_Arr_fillI (d + 6) (M0 := M1) (a := 138) (n := 1024) rfl (by decide) (iI 0)
  obtain ⟨M3, e3, hE3, v3⟩ := c_Arr_fillI (d + 6) (M0 := M2) (a := 139) (n := 1024) rfl (by decide) (iI 0)
  have hE4 : Eqx [138, 139] M1 (wI M3 138 0 (iI 1)) := eqx_wI ((hE2.mono (by simp)).tr (hE3.mono (by simp))) (by simp)
  have hnt : ∀ i b, i < N → b < 2 → ntM M1 i b < N ∧ pl (ntM M1 i b) = pas z tm (pl i) b := fun i b hi hb => (hX.nt hE hex hi hb).2
  have hf : ∀ s c, s < N → (fun i b => if b < 2 then ntM M1 i b else 0) s c < N := fun s c hs => by
    show (if c < 2 then ntM M1 s c else 0) < N
    split
    · exact (hnt s c hs (by omega)).1
    · omega
  have lst : ∀ j k M x5, j + k = N → Eqx [138, 139] M1 M → WaysC M N (mK (fun i b => if b < 2 then ntM M1 i b else 0) 1 1 N (fun q => if 0 = q then 1 else 0) n) → x5 = sm (fun i => mK (fun i b => if b < 2 then ntM M1 i b else 0) 1 1 N (fun q => if 0 = q then 1 else 0) n i * (if pl i % 512 = wl then 1 else 0)) k → ∃ M', X2 (d + 7) m_Rch_rowsTo 57 [.ref 133, .ref 127, .int (iI p0), .int (iI wl), .int (iI n), .int (iI x5), .int (iI k)] [] M = some (.int (iI (rN (fun i b => if b < 2 then ntM M1 i b else 0) 1 1 n (fun i => if pl i % 512 = wl then 1 else 0) 0)), M') ∧ Eqx [138, 139] M1 M' := by
    intro j
    induction j with
    | zero =>
      intro k M x5 hk hM hm hx
      rw [show k = N by omega, mK_one hf (by omega) (Nat.le_refl N)] at hx
      rw [e_Rch_rowsTo_57, eqx_I hM (by decide), hX.1.1, if_neg (by rw [iI_lt (by omega) (by omega) (by omega) (by omega)]; omega), hx]
      exact ⟨M, rfl, hM⟩
    | succ j ih =>
      intro k M x5 hk hM hm hx
      have hpk := hX.1.2.2 k (by omega)
      rw [e_Rch_rowsTo_57, eqx_I hM (by decide), hX.1.1, if_pos (by rw [iI_lt (by omega) (by omega) (by omega) (by omega)]; omega), inb_ok (by omega) (by omega) (by omega), gb_T, gb_T, ix_nat (by omega), eqx_I hM (by decide), hpk.1, and511m, (hm k (by omega)).1, iI_add, iI_add, iI_add]
      by_cases q : pl k % 512 = wl
      · rw [if_pos (by rw [q])]
        exact ih (k + 1) M (x5 + _) (by omega) hM hm (by rw [hx, sm, if_pos q, Nat.mul_one])
      · rw [if_neg (by rw [iI_eq (by omega) (by omega) (by omega) (by omega)]; omega), Int.add_zero]
        exact ih (k + 1) M x5 (by omega) hM hm (by rw [hx, sm, if_neg q, Nat.mul_zero, Nat.add_zero])
  have go : ∀ j k M, j + k = n → Eqx [138, 139] M1 M → WaysC M N (mK (fun i b => if b < 2 then ntM M1 i b else 0) 1 1 N (fun q => if 0 = q then 1 else 0) k) → ∃ M', X2 (d + 7) m_Rch_rowsTo 34 [.ref 133, .ref 127, .int (iI p0), .int (iI wl), .int (iI n), .int (iI k), uns] [] M = some (.int (iI (rN (fun i b => if b < 2 then ntM M1 i b else 0) 1 1 n (fun i => if pl i % 512 = wl then 1 else 0) 0)), M') ∧ Eqx [138, 139] M1 M' := by
    intro j
    induction j with
    | zero =>
      intro k M hk hM hm
      rw [e_Rch_rowsTo_34, if_neg (by rw [iI_lt (by omega) (by omega) (by omega) (by omega)]; omega)]
      rw [show k = n by omega] at hm
      exact lst N 0 M 0 (by omega) hM hm rfl
    | succ j ih =>
      intro k M hk hM hm
      obtain ⟨M4, a1, a2, a3⟩ := c_Rch_spreadWays (d + 6) (M0 := M) (N := N) (nt := fun i b => if b < 2 then ntM M1 i b else 0) ((eqx_I hM (by decide) 1).trans hX.1.1) hN (fun i b hi hb => by
        show _ = iI ((if b < 2 then ntM M1 i b else 0 : Nat) : Int) ∧ (if b < 2 then ntM M1 i b else 0) < N
        rw [if_pos hb, eqx_I hM (by decide)]
        exact ⟨(hX.nt hE hex hi hb).1, (hX.nt hE hex hi hb).2.1⟩) hm
      rw [e_Rch_rowsTo_34, if_pos (by rw [iI_lt (by omega) (by omega) (by omega) (by omega)]; omega), a1, bV_some, iI_add]
      exact ih (k + 1) M4 (by omega) (hM.tr a3) a2
  obtain ⟨M5, e5, hE5⟩ := go n 0 (wI M3 138 0 (iI 1)) (by omega) hE4 (fun i hi => by
    show _ = iI ((if 0 = i then 1 else 0 : Nat) : Int) ∧ _
    by_cases q : i = 0
    · subst q; exact ⟨by rw [gI_eq]; rfl, by rw [gI_na (by decide)]; exact v3 0 (by decide)⟩
    · refine ⟨?_, by rw [gI_na (by decide)]; exact v3 i (by omega)⟩
      rw [gI_nk q, eqx_I hE3 (by decide), v2 i (by omega), if_neg (fun h => q h.symm)]; rfl)
  refine ⟨M5, N, pl, fun i b => if b < 2 then ntM M1 i b else 0, ?_, h0, hN1, ?_, hS1.fq hE5 (by intro a ha; simp only [List.mem_cons, List.not_mem_nil, or_false] at ha; omega), (hE1.mono (by intro a ha; exact List.mem_cons_of_mem _ (List.mem_cons_of_mem _ ha))).tr (hE5.mono (by intro a ha; simp only [List.mem_cons, List.not_mem_nil, or_false] at ha; rcases ha with q | q <;> simp [q]))⟩
  · show X2 (d + 7) m_Rch_rowsTo 0 [.ref 133, .ref 127, .int (iI p0), .int (iI wl), .int (iI n), uns, uns] [] M0 = _
    rw [e_Rch_rowsTo_0, e1, bI_some, e2, bV_some, e3, bV_some]
    exact e5
  · intro i b hi hb
    show (if b < 2 then ntM M1 i b else 0) < N ∧ pl (if b < 2 then ntM M1 i b else 0) = _
    rw [if_pos hb]
    exact hnt i b hi hb
theorem rN_nodes {z : Row} (hz : OkZ z) {tm N wl : Nat} {pl : Nat → Nat} {nt : Nat → Nat → Nat} (hnt : ∀ i b, i < N → b < 2 → nt i b < N ∧ pl (nt i b) = pas z tm (pl i) b) : ∀ n i s, i < N → OkS z s → pl i = plc s → rN nt 1 1 n (fun i => if pl i % 512 = wl then 1 else 0) i = rN (thn z tm) 1 1 n (fun t => if t / 5 = wl then 1 else 0) s
  | 0, i, s, hi, ok, h => by
    show (if pl i % 512 = wl then 1 else 0) = (if s / 5 = wl then 1 else 0)
    rw [h, plc_wall (ok.lt hz).2.2]
  | n + 1, i, s, hi, ok, h => by
    have key : ∀ b, b < 2 → rN nt 1 1 n (fun i => if pl i % 512 = wl then 1 else 0) (nt i b) = rN (thn z tm) 1 1 n (fun t => if t / 5 = wl then 1 else 0) (thn z tm s b) := fun b hb => by
      obtain ⟨a1, a2⟩ := hnt i b hi hb
      rw [thn_ok ok]
      refine rN_nodes hz hnt n _ _ a1 (nxt_ok hz tm ok b) ?_
      rw [a2, h, pas_plc hz tm s b (ok.lt hz).2.2 ok.2]
    rw [rN_s, rN_s, stA, stA, key 0 (by decide), key 1 (by decide)]
theorem p_rows (z : Row) (w who tm : Nat) (x1 x2 : Int32) : PairQ m_RW_rows m_Mo_rows [.int x1, .int x2] z w who tm := by
  intro d M r ni st hQ hst
  obtain ⟨wl, rfl, i1, i2⟩ := iI_ex x1
  obtain ⟨n, rfl, k1, k2⟩ := iI_ex x2
  have hz := hQ.okz
  have hr := hQ.rm
  have hrl := hQ.rl
  have hR := hQ.room
  have h9 := nz_le hz
  have hp := pow9 h9
  obtain ⟨_, h5, hN, hO, htm, hwho, hw⟩ := id hQ
  show ∃ v M' st', X2 (d + 79) m_RW_rows 0 [.ref 100, .int (iI wl), .int (iI n)] [] M = _ ∧ _
  rw [e_RW_rows_0, h5, rm_k _ r hr, tt_and, gb_T, c_Room_hasWall _ hr hR.1.2.2.1 h9, bI_some, iI_toInt i1 i2]
  simp only [iI_lt0 k1 k2, iI_lt (show (-2147483648 : Int) ≤ 20 by omega) (show (20 : Int) ≤ 2147483647 by omega) k1 k2]
  by_cases hwl : 0 ≤ wl ∧ wl < ((2 ^ nz z : Nat) : Int)
  · rw [decide_eq_true hwl, b2i_t, if_neg (show ¬ (iI 1 = 0) by decide)]
    by_cases hn : 0 ≤ n ∧ n ≤ 20
    · rw [if_neg (show ¬ (n < 0) by omega), if_neg (show ¬ (20 < n) by omega)]
      obtain ⟨wl, rfl⟩ := Int.eq_ofNat_of_zero_le hwl.1
      obtain ⟨n, rfl⟩ := Int.eq_ofNat_of_zero_le hn.1
      obtain ⟨M1, st1, e1, hE1, hS1, hle, hQ1⟩ := hQ.hre (d + 76) (by omega)
      obtain ⟨M2, N, pl, nt, e2, h0, hN1, hnt, hS2, hE2⟩ := c_Rch_rowsTo (d + 71) (wl := wl) (n := n) hS1 (now_win hwho hw) (by omega) (by omega)
      have hE3 : Eqx (scr r) M M2 := hE1.tr (hE2.mono (fun a ha => scr_mem.mpr (by
        rcases List.mem_cons.mp ha with q | q
        · omega
        · rcases List.mem_cons.mp q with q | q
          · omega
          · have := expS_mem.mp q; omega)))
      rw [e1, bI_some, e2, bI_some, rN_nodes hz hnt n 0 (5 * w + who) (by omega) hO (by rw [h0, plc_now hwho])]
      refine ⟨_, M2, st1, rfl, hE3, hQ.fr hE3 hS2, hle, ?_⟩
      intro M3 hM
      have hM1 := hM.res (ResM.thr M3)
      obtain ⟨M4, e4, hm4, hT4, hR4⟩ := c_Mo_beginsMany (d + 72) hM1
      have hl := hO.lt hz
      generalize hNN : 5 * 2 ^ nz z = NN at *
      have hNN2 : NN ≤ 2560 := by omega
      have hf : ∀ s c, s < NN → thn z tm s c < NN := fun s c h => by rw [← hNN] at *; exact thn_lt hz tm c h
      have hd0 : ∀ s, NN ≤ s → (fun q => if 5 * w + who = q then 1 else 0 : Nat → Nat) s = 0 := fun s h => if_neg (by omega)
      have lst : ∀ j k M, j + k = 5 → ResM M3 M → ManyM M (mK (thn z tm) 1 1 NN (fun q => if 5 * w + who = q then 1 else 0) n) → ∃ M', X2 (d + 79) m_Mo_rows 57 [.ref 197, .int (iI wl), .int (iI n), .int (iI (sm (fun t => mK (thn z tm) 1 1 NN (fun q => if 5 * w + who = q then 1 else 0) n t * (if t / 5 = wl then 1 else 0)) (5 * wl + k))), .int (iI k)] [] M = some (.int (iI (rN (thn z tm) 1 1 n (fun t => if t / 5 = wl then 1 else 0) (5 * w + who))), M') ∧ ResM M3 M' := by
        intro j
        induction j with
        | zero =>
          intro k M hk hM' hm
          rw [e_Mo_rows_57, if_neg (by rw [iI_lt (by omega) (by omega) (by omega) (by omega)]; omega), show k = 5 by omega]
          refine ⟨M, ?_, hM'⟩
          have e := sm_ext (g := fun t => mK (thn z tm) 1 1 NN (fun q => if 5 * w + who = q then 1 else 0) n t * (if t / 5 = wl then 1 else 0)) (n := 5 * wl + 5) (2560 - (5 * wl + 5)) (fun s hs => by
            show _ * (if s / 5 = wl then 1 else 0) = 0
            rw [if_neg (by omega), Nat.mul_zero])
          rw [show 5 * wl + 5 + (2560 - (5 * wl + 5)) = 2560 by omega] at e
          rw [← e, mK_one hf (by omega) hNN2]
        | succ j ih =>
          intro k M hk hM' hm
          have e5 : iI 5 * iI wl + iI k = iI ((5 * wl + k : Nat) : Int) := by rw [iI_mul, iI_add]; rfl
          obtain ⟨M6, e6, hR6⟩ := ih (k + 1) M (by omega) hM' hm
          rw [e_Mo_rows_57, if_pos (by rw [iI_lt (by omega) (by omega) (by omega) (by omega)]; omega), c_Mo_standOf, bI_some, e5, inb_ok (by omega) (by omega) (by omega), gb_T, ix_nat (by omega), (hm _ (by omega)).1, iI_add, iI_add]
          rw [show 5 * wl + (k + 1) = 5 * wl + k + 1 by omega, sm, if_pos (show (5 * wl + k) / 5 = wl by omega), Nat.mul_one] at e6
          exact ⟨M6, e6, hR6⟩
      have go : ∀ j k M, j + k = n → ResM M3 M → ThenM M z tm NN → ManyM M (mK (thn z tm) 1 1 NN (fun q => if 5 * w + who = q then 1 else 0) k) → ∃ M', X2 (d + 79) m_Mo_rows 35 [.ref 197, .int (iI wl), .int (iI n), .int (iI k), uns] [] M = some (.int (iI (rN (thn z tm) 1 1 n (fun t => if t / 5 = wl then 1 else 0) (5 * w + who))), M') ∧ ResM M3 M' := by
        intro j
        induction j with
        | zero =>
          intro k M hk hM' hT hm
          rw [e_Mo_rows_35, if_neg (by rw [iI_lt (by omega) (by omega) (by omega) (by omega)]; omega)]
          rw [show k = n by omega] at hm
          obtain ⟨M6, e6, hR6⟩ := lst 5 0 M (by omega) hM' hm
          have ez : sm (fun t => mK (thn z tm) 1 1 NN (fun q => if 5 * w + who = q then 1 else 0) n t * (if t / 5 = wl then 1 else 0)) (5 * wl) = 0 := sm_zero _ (fun s hs => by
            show _ * (if s / 5 = wl then 1 else 0) = 0
            rw [if_neg (by omega), Nat.mul_zero])
          rw [show 5 * wl + 0 = 5 * wl from rfl, ez] at e6
          -- the fourth local is free now
          exact ⟨M6, e6, hR6⟩
        | succ j ih =>
          intro k M hk hM' hT hm
          obtain ⟨M5, e5, a1, a2, a3⟩ := c_Mo_goesMany (d + 78) (a := 1) (b := 1) hz (by rw [hNN]; exact hT) hm (by rw [hNN]; exact mK_out hf hd0 k)
          rw [hNN] at a1 a2
          rw [e_Mo_rows_35, if_pos (by rw [iI_lt (by omega) (by omega) (by omega) (by omega)]; omega)]
          have e5' : c2 (d + 79) m_Mo_goesMany [.ref 197, .int (iI 1), .int (iI 1)] M = _ := e5
          rw [e5', bV_some, iI_add]
          exact ih (k + 1) M5 (by omega) (hM'.tr a3) a2 a1
      show ∃ M2', X2 (d + 79) m_Mo_rows 0 [.ref 197, .int (iI wl), .int (iI n), uns, uns] [] M3 = _ ∧ _
      rw [e_Mo_rows_0, c_Mo_isWall _ hM1.okz, bI_some, hM1.1, i2l_iI (by omega) (by omega), lI_toInt (by omega) (by omega), decide_eq_true hwl, b2i_t, if_neg (by decide), c_Mo_within, bI_some, i2l_iI (by omega) (by omega), lI_toInt (by omega) (by omega), lI_toInt (by omega) (by omega), lI_toInt (by omega) (by omega), decide_eq_true hn, b2i_t, if_neg (by decide), e4, bV_some]
      exact go n 0 M4 (by omega) ((ResM.thr M3).tr hR4) hT4 hm4
    · have fin : ∀ M2, QM M2 z w who tm → ∃ M2', c2 (d + 80) m_Mo_rows [.ref 197, .int (iI wl), .int (iI n)] M2 = some (.int (iI (-3)), M2') ∧ ResM M2 M2' := by
        intro M3 hM
        have hM1 := hM.res (ResM.thr M3)
        show ∃ M2', X2 (d + 79) m_Mo_rows 0 [.ref 197, .int (iI wl), .int (iI n), uns, uns] [] M3 = _ ∧ _
        rw [e_Mo_rows_0, c_Mo_isWall _ hM1.okz, bI_some, hM1.1, i2l_iI (by omega) (by omega), lI_toInt (by omega) (by omega), decide_eq_true hwl, b2i_t, if_neg (by decide), c_Mo_within, bI_some, i2l_iI k1 k2, lI_toInt (by omega) (by omega), lI_toInt (by omega) (by omega), lI_toInt (by omega) (by omega), decide_eq_false hn, b2i_f, if_pos (by decide)]
        exact ⟨_, rfl, ResM.thr M3⟩
      by_cases q : n < 0
      · rw [if_pos q]; exact ⟨_, M, st, rfl, Eqx.rf, hQ, by omega, fin⟩
      · rw [if_neg q, if_pos (show 20 < n by omega)]; exact ⟨_, M, st, rfl, Eqx.rf, hQ, by omega, fin⟩
  · rw [decide_eq_false hwl, b2i_f, if_pos (show iI 0 = 0 from rfl)]
    refine ⟨_, M, st, rfl, Eqx.rf, hQ, by omega, ?_⟩
    intro M3 hM
    have hM1 := hM.res (ResM.thr M3)
    show ∃ M2', X2 (d + 79) m_Mo_rows 0 [.ref 197, .int (iI wl), .int (iI n), uns, uns] [] M3 = _ ∧ _
    rw [e_Mo_rows_0, c_Mo_isWall _ hM1.okz, bI_some, hM1.1, i2l_iI i1 i2, lI_toInt (by omega) (by omega), decide_eq_false hwl, b2i_f, if_pos (by decide)]
    exact ⟨_, rfl, ResM.thr M3⟩
