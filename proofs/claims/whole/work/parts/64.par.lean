/-! parents, orphans, still. -/
theorem pas_wall {z : Row} (hz : OkZ z) (tm bl : Nat) {p : Nat} : pas z tm p bl % 512 = wallT z tm (p % 512) (p / 512) bl := by
  have := wallT_lt hz tm (p % 512) (p / 512) bl
  unfold pas; omega
theorem pas_wl {z : Row} (hz : OkZ z) (tm bl : Nat) {w u : Nat} (hw : w < 512) : pas z tm (w + 512 * u) bl % 512 = wallT z tm w u bl := by
  rw [pas_wall hz, show (w + 512 * u) % 512 = w by omega, show (w + 512 * u) / 512 = u by omega]
theorem c_Room_fullWall (d : Nat) {M : Mem} {r n : Nat} (hr : r ∈ rooms) (h : gI M r 2 = iI n) (hn : n ≤ 9) : c2 (d + 1) m_Room_fullWall [.ref r] M = some (.int (iI (((2 ^ n : Nat) : Int) - 1)), M) := by
  show X2 d m_Room_fullWall 0 [.ref r] [] M = _
  rw [e_Room_fullWall_0, rm_k _ r hr, gb_T, h, iI_shl1 (by omega), Nat.one_shiftLeft, iI_sub]
theorem c_Room_hasWall (d : Nat) {M : Mem} {r n : Nat} (hr : r ∈ rooms) (h : gI M r 2 = iI n) (hn : n ≤ 9) (x : Int32) : c2 (d + 2) m_Room_hasWall [.ref r, .int x] M = some (.int (iI (b2i (decide (0 ≤ x.toInt ∧ x.toInt < ((2 ^ n : Nat) : Int))))), M) := by
  show X2 (d + 1) m_Room_hasWall 0 [.ref r, .int x] [] M = _
  have hp := pow9 hn
  have hp1 : 1 ≤ 2 ^ n := Nat.one_le_two_pow
  obtain ⟨c, rfl, c1, c2⟩ := iI_ex x
  rw [e_Room_hasWall_0, rm_k _ r hr, tt_and, gb_T, c_Room_fullWall _ hr h hn, bI_some, iI_toInt c1 c2]
  generalize 2 ^ n = m at *
  simp only [iI_lt0 c1 c2, iI_lt (show (-2147483648 : Int) ≤ (m : Int) - 1 by omega) (show (m : Int) - 1 ≤ 2147483647 by omega) c1 c2]
  by_cases q : 0 ≤ c ∧ c < m
  · rw [if_neg (by omega), if_neg (by omega), decide_eq_true q]; rfl
  · rw [decide_eq_false q]
    split
    · rfl
    · rw [if_pos (by omega)]; rfl
theorem cnt_s (p : Nat → Bool) (k : Nat) : cnt p (k + 1) = cnt p k + (if p k then 1 else 0) := rfl
theorem c_Stp_comingTo (d : Nat) {M0 : Mem} {r : Nat} {z : Row} {tm st wall bl u : Nat} (hS : StepsC M0 r z tm st) (hbl : bl < 2) (hu : u < 5) (hwl : wall < 512) :
    ∃ M', c2 (d + 6) m_Stp_comingTo [.ref 127, .int (iI wall), .int (iI bl), .int (iI (cwho u))] M0 = some (.int (iI (cnt (fun v => decide (wallT z tm v u bl = wall)) (2 ^ nz z))), M') ∧ Eqx [128, 129, 130, 131, r + 6, r + 9] M0 M' ∧ StepsC M' r z tm st := by
  have hz := hS.2.2.2.1
  have hr := hS.1
  have h9 := nz_le hz
  have hp := pow9 h9
  have go : ∀ j k M, j + k = 2 ^ nz z → Eqx [128, 129, 130, 131, r + 6, r + 9] M0 M → StepsC M r z tm st → ∃ M', X2 (d + 5) m_Stp_comingTo 6 [.ref 127, .int (iI wall), .int (iI bl), .int (iI (cwho u)), .int (iI (cnt (fun v => decide (wallT z tm v u bl = wall)) k)), .int (iI k)] [] M = some (.int (iI (cnt (fun v => decide (wallT z tm v u bl = wall)) (2 ^ nz z))), M') ∧ Eqx [128, 129, 130, 131, r + 6, r + 9] M0 M' ∧ StepsC M' r z tm st := by
    intro j
    induction j with
    | zero =>
      intro k M hk hM hS1
      have hk' : k = 2 ^ nz z := by omega
      rw [e_Stp_comingTo_6, hS1.2.1, rm_k _ r hr, tt_and, gb_T, c_Room_fullWall _ hr hS1.2.2.1.1.2.2.1 h9, bI_some, if_pos (by rw [iI_lt (by omega) (by omega) (by omega) (by omega)]; omega), ← hk']
      exact ⟨M, rfl, hM, hS1⟩
    | succ j ih =>
      intro k M hk hM hS1
      obtain ⟨M1, e1, hE1, hS2⟩ := c_Stp_next d (p := k + 512 * u) (bl := bl) hS1 (by omega) hbl
      have hwk := wallT_lt hz tm k u bl
      have hpl := pas_lt hz tm bl (show k + 512 * u < 2560 by omega)
      obtain ⟨M2, e2, hE2, hS3⟩ := ih (k + 1) M1 (by omega) (hM.tr hE1) hS2
      have hs := cnt_s (fun v => decide (wallT z tm v u bl = wall)) k
      rw [e_Stp_comingTo_6, hS1.2.1, rm_k _ r hr, tt_and, gb_T, c_Room_fullWall _ hr hS1.2.2.1.1.2.2.1 h9, bI_some, if_neg (by rw [iI_lt (by omega) (by omega) (by omega) (by omega)]; omega), c_RW_placeOf _ (by omega) hu, bI_some, e1, bI_some, and511m, pas_wl hz tm bl (by omega), iI_add, iI_add]
      refine ⟨M2, ?_, hE2, hS3⟩
      by_cases q : wallT z tm k u bl = wall
      · rw [if_pos (by rw [q])]
        rw [if_pos (decide_eq_true q)] at hs
        rw [hs] at e2
        exact e2
      · rw [if_neg (by rw [iI_eq (by omega) (by omega) (by omega) (by omega)]; omega)]
        rw [if_neg (by rw [decide_eq_true_iff]; exact q)] at hs
        rw [hs] at e2
        exact e2
  show ∃ M', X2 (d + 5) m_Stp_comingTo 0 [.ref 127, .int (iI wall), .int (iI bl), .int (iI (cwho u)), uns, uns] [] M0 = _ ∧ _
  rw [e_Stp_comingTo_0]
  exact go (2 ^ nz z) 0 M0 (by omega) Eqx.rf hS
theorem c_Stp_stayingSame (d : Nat) {M0 : Mem} {r : Nat} {z : Row} {tm st bl u : Nat} (hS : StepsC M0 r z tm st) (hbl : bl < 2) (hu : u < 5) :
    ∃ M', c2 (d + 6) m_Stp_stayingSame [.ref 127, .int (iI bl), .int (iI (cwho u))] M0 = some (.int (iI (cnt (fun v => decide (wallT z tm v u bl = v)) (2 ^ nz z))), M') ∧ Eqx [128, 129, 130, 131, r + 6, r + 9] M0 M' ∧ StepsC M' r z tm st := by
  have hz := hS.2.2.2.1
  have hr := hS.1
  have h9 := nz_le hz
  have hp := pow9 h9
  have go : ∀ j k M, j + k = 2 ^ nz z → Eqx [128, 129, 130, 131, r + 6, r + 9] M0 M → StepsC M r z tm st → ∃ M', X2 (d + 5) m_Stp_stayingSame 5 [.ref 127, .int (iI bl), .int (iI (cwho u)), .int (iI (cnt (fun v => decide (wallT z tm v u bl = v)) k)), .int (iI k)] [] M = some (.int (iI (cnt (fun v => decide (wallT z tm v u bl = v)) (2 ^ nz z))), M') ∧ Eqx [128, 129, 130, 131, r + 6, r + 9] M0 M' ∧ StepsC M' r z tm st := by
    intro j
    induction j with
    | zero =>
      intro k M hk hM hS1
      have hk' : k = 2 ^ nz z := by omega
      rw [e_Stp_stayingSame_5, hS1.2.1, rm_k _ r hr, tt_and, gb_T, c_Room_fullWall _ hr hS1.2.2.1.1.2.2.1 h9, bI_some, if_pos (by rw [iI_lt (by omega) (by omega) (by omega) (by omega)]; omega), ← hk']
      exact ⟨M, rfl, hM, hS1⟩
    | succ j ih =>
      intro k M hk hM hS1
      obtain ⟨M1, e1, hE1, hS2⟩ := c_Stp_next d (p := k + 512 * u) (bl := bl) hS1 (by omega) hbl
      have hwk := wallT_lt hz tm k u bl
      have hpl := pas_lt hz tm bl (show k + 512 * u < 2560 by omega)
      obtain ⟨M2, e2, hE2, hS3⟩ := ih (k + 1) M1 (by omega) (hM.tr hE1) hS2
      have hs := cnt_s (fun v => decide (wallT z tm v u bl = v)) k
      rw [e_Stp_stayingSame_5, hS1.2.1, rm_k _ r hr, tt_and, gb_T, c_Room_fullWall _ hr hS1.2.2.1.1.2.2.1 h9, bI_some, if_neg (by rw [iI_lt (by omega) (by omega) (by omega) (by omega)]; omega), c_RW_placeOf _ (by omega) hu, bI_some, e1, bI_some, and511m, pas_wl hz tm bl (by omega), iI_add, iI_add]
      refine ⟨M2, ?_, hE2, hS3⟩
      by_cases q : wallT z tm k u bl = k
      · rw [if_pos (by rw [q])]
        rw [if_pos (decide_eq_true q)] at hs
        rw [hs] at e2
        exact e2
      · rw [if_neg (by rw [iI_eq (by omega) (by omega) (by omega) (by omega)]; omega)]
        rw [if_neg (by rw [decide_eq_true_iff]; exact q)] at hs
        rw [hs] at e2
        exact e2
  show ∃ M', X2 (d + 5) m_Stp_stayingSame 0 [.ref 127, .int (iI bl), .int (iI (cwho u)), uns, uns] [] M0 = _ ∧ _
  rw [e_Stp_stayingSame_0]
  exact go (2 ^ nz z) 0 M0 (by omega) Eqx.rf hS
theorem cnt_flip {p q : Nat → Bool} {a : Nat} : ∀ n, a < n → p a = true → q a = false → (∀ k, k ≠ a → q k = p k) → cnt p n = cnt q n + 1
  | 0, h, _, _, _ => absurd h (Nat.not_lt_zero a)
  | n + 1, h, h1, h2, h3 => by
    rw [cnt, cnt]
    by_cases e : a = n
    · subst e
      rw [h1, h2, cnt_congr a (fun k hk => (h3 k (by omega)).symm)]
      simp
    · rw [cnt_flip n (by omega) h1 h2 h3, h3 n (fun q => e q.symm)]
      omega
/-- how many of the first k come to v -/
def hit (W : Nat → Nat) (k v : Nat) : Nat := cnt (fun j => decide (W j = v)) k
theorem hit_s (W : Nat → Nat) (k v : Nat) : hit W (k + 1) v = hit W k v + (if W k = v then 1 else 0) := by
  unfold hit; rw [cnt]
  by_cases q : W k = v
  · rw [if_pos (decide_eq_true q), if_pos q]
  · rw [if_neg (by rw [decide_eq_true_iff]; exact q), if_neg q]
theorem hit_le (W : Nat → Nat) (k v : Nat) : hit W k v ≤ k := cnt_le _ _
theorem c_Stp_comingOfNone (d : Nat) {M0 : Mem} {r : Nat} {z : Row} {tm st bl u : Nat} (hS : StepsC M0 r z tm st) (hbl : bl < 2) (hu : u < 5) :
    ∃ M', c2 (d + 6) m_Stp_comingOfNone [.ref 127, .int (iI bl), .int (iI (cwho u))] M0 = some (.int (iI (cnt (fun v => decide (hit (fun v => wallT z tm v u bl) (2 ^ nz z) v = 0)) (2 ^ nz z))), M') ∧ Eqx [128, 129, 130, 131, 132, r + 6, r + 9] M0 M' ∧ StepsC M' r z tm st := by
  have hz := hS.2.2.2.1
  have hr := hS.1
  have hrl := rm_lt r hr
  have h9 := nz_le hz
  have hp := pow9 h9
  have hp1 : 1 ≤ 2 ^ nz z := Nat.one_le_two_pow
  have go : ∀ j k M v5, j + k = 2 ^ nz z → Eqx [128, 129, 130, 131, 132, r + 6, r + 9] M0 M → StepsC M r z tm st → (∀ v, v < 512 → gI M 132 v = iI (if hit (fun v => wallT z tm v u bl) k v = 0 then 0 else 1)) → ∃ M', X2 (d + 5) m_Stp_comingOfNone 21 [.ref 127, .int (iI bl), .int (iI (cwho u)), .int (iI (cnt (fun v => decide (hit (fun v => wallT z tm v u bl) k v = 0)) (2 ^ nz z))), .int (iI k), v5] [] M = some (.int (iI (cnt (fun v => decide (hit (fun v => wallT z tm v u bl) (2 ^ nz z) v = 0)) (2 ^ nz z))), M') ∧ Eqx [128, 129, 130, 131, 132, r + 6, r + 9] M0 M' ∧ StepsC M' r z tm st := by
    intro j
    induction j with
    | zero =>
      intro k M v5 hk hM hS1 hv
      have hk' : k = 2 ^ nz z := by omega
      rw [e_Stp_comingOfNone_21, hS1.2.1, rm_k _ r hr, tt_and, gb_T, c_Room_fullWall _ hr hS1.2.2.1.1.2.2.1 h9, bI_some, if_pos (by rw [iI_lt (by omega) (by omega) (by omega) (by omega)]; omega), ← hk']
      exact ⟨M, rfl, hM, hS1⟩
    | succ j ih =>
      intro k M v5 hk hM hS1 hv
      obtain ⟨M1, e1, hE1, hS2⟩ := c_Stp_next d (p := k + 512 * u) (bl := bl) hS1 (by omega) hbl
      have hwk := wallT_lt hz tm k u bl
      have hwk2 := wallT_lt2 z tm k u bl
      have hpl := pas_lt hz tm bl (show k + 512 * u < 2560 by omega)
      have hv1 : ∀ v, v < 512 → gI M1 132 v = iI (if hit (fun v => wallT z tm v u bl) k v = 0 then 0 else 1) := fun v h => (eqx_I hE1 (by simp <;> omega) v).trans (hv v h)
      have hM1 : Eqx [128, 129, 130, 131, 132, r + 6, r + 9] M0 M1 := hM.tr (hE1.mono (by simp <;> omega))
      have hcl := cnt_le (fun v => decide (hit (fun v => wallT z tm v u bl) k v = 0)) (2 ^ nz z)
      rw [e_Stp_comingOfNone_21, hS1.2.1, rm_k _ r hr, tt_and, gb_T, c_Room_fullWall _ hr hS1.2.2.1.1.2.2.1 h9, bI_some, if_neg (by rw [iI_lt (by omega) (by omega) (by omega) (by omega)]; omega), c_RW_placeOf _ (by omega) hu, bI_some, e1, bI_some, and511m, pas_wl hz tm bl (by omega), inb_ok (by omega) (by omega) (by omega), gb_T, gb_T, ix_nat (by omega), hv1 _ hwk, iI_add, iI_add]
      by_cases q : hit (fun v => wallT z tm v u bl) k (wallT z tm k u bl) = 0
      · rw [if_pos (by rw [if_pos q]; rfl)]
        have hf := cnt_flip (p := fun v => decide (hit (fun v => wallT z tm v u bl) k v = 0)) (q := fun v => decide (hit (fun v => wallT z tm v u bl) (k + 1) v = 0)) (a := wallT z tm k u bl) (2 ^ nz z) hwk2 (decide_eq_true q) (decide_eq_false (by rw [hit_s, if_pos rfl]; omega)) (fun v hv => by
          show decide (hit (fun v => wallT z tm v u bl) (k + 1) v = 0) = _
          rw [hit_s, if_neg (fun e => hv e.symm), Nat.add_zero])
        obtain ⟨M2, e2, hE2, hS3⟩ := ih (k + 1) (wI M1 132 (wallT z tm k u bl) (iI 1)) (.int (iI (wallT z tm k u bl))) (by omega) (eqx_wI hM1 (by simp)) (hS2.fq (eqx_wI Eqx.rf (by simp) : Eqx [132] M1 _) (by intro a ha; simp only [List.mem_cons, List.not_mem_nil, or_false] at ha; omega)) (by
          intro v hv
          by_cases qv : v = wallT z tm k u bl
          · subst qv; rw [gI_eq, hit_s, if_neg (by rw [if_pos rfl]; omega)]
          · rw [gI_nk qv, hv1 v hv, hit_s, if_neg (show ¬ (wallT z tm k u bl = v) from fun e => qv e.symm), Nat.add_zero])
        refine ⟨M2, ?_, hE2, hS3⟩
        refine Eq.trans ?_ e2
        congr 5
        congr 2
        omega
      · rw [if_neg (by rw [if_neg q]; decide)]
        obtain ⟨M2, e2, hE2, hS3⟩ := ih (k + 1) M1 (.int (iI (wallT z tm k u bl))) (by omega) hM1 hS2 (by
          intro v hv
          rw [hv1 v hv, hit_s]
          by_cases qv : wallT z tm k u bl = v
          · subst qv; rw [if_neg q, if_neg (by rw [if_pos rfl]; omega)]
          · rw [if_neg qv, Nat.add_zero])
        refine ⟨M2, ?_, hE2, hS3⟩
        refine Eq.trans ?_ e2
        have hc : cnt (fun v => decide (hit (fun v => wallT z tm v u bl) k v = 0)) (2 ^ nz z) = cnt (fun v => decide (hit (fun v => wallT z tm v u bl) (k + 1) v = 0)) (2 ^ nz z) := cnt_congr _ (fun v _ => by
          apply decide_eq_decide.mpr
          rw [hit_s]
          by_cases qv : wallT z tm k u bl = v
          · subst qv; rw [if_pos rfl]; omega
          · rw [if_neg qv, Nat.add_zero])
        rw [hc]
        rfl
  show ∃ M', X2 (d + 5) m_Stp_comingOfNone 0 [.ref 127, .int (iI bl), .int (iI (cwho u)), uns, uns, uns] [] M0 = _ ∧ _
  obtain ⟨M1, e1, hE1, hv⟩ := c_Arr_fillI (d + 4) (M0 := M0) (a := 132) (n := 512) rfl (by decide) (iI 0)
  have hS1 : StepsC M1 r z tm st := hS.fq hE1 (by intro a ha; simp only [List.mem_cons, List.not_mem_nil, or_false] at ha; omega)
  rw [e_Stp_comingOfNone_0, e1, bV_some, hS1.2.1, rm_k _ r hr, tt_and, gb_T, c_Room_fullWall _ hr hS1.2.2.1.1.2.2.1 h9, bI_some, iI_add]
  have hc : cnt (fun v => decide (hit (fun v => wallT z tm v u bl) 0 v = 0)) (2 ^ nz z) = 2 ^ nz z := by
    have : ∀ n, cnt (fun v => decide (hit (fun v => wallT z tm v u bl) 0 v = 0)) n = n := by
      intro n
      induction n with
      | zero => rfl
      | succ n ih => rw [cnt, ih]; rfl
    exact this _
  obtain ⟨M2, e2, hE2, hS3⟩ := go (2 ^ nz z) 0 M1 uns (by omega) (hE1.mono (by simp)) hS1 (fun v h => hv v h)
  refine ⟨M2, ?_, hE2, hS3⟩
  rw [hc] at e2
  refine Eq.trans ?_ e2
  congr 5
  congr 2
  omega
