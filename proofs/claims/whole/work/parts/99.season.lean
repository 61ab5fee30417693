/-! season. -/
def hi16 (x : Int32) : Nat := x.toUInt32.toNat / 65536
theorem hi16_lt (x : Int32) : hi16 x < 65536 := by
  have := x.toUInt32.toNat_lt
  unfold hi16; omega
theorem u32_iI (y : UInt32) : y.toInt32 = iI (y.toNat : Int) := by
  apply Int32.toBitVec_inj.mp
  show y.toBitVec = BitVec.ofInt 32 (y.toNat : Int)
  rw [BitVec.ofInt_natCast]
  exact (BitVec.ofNat_toNat 32 y.toBitVec).symm ▸ (by simp)
theorem hi16_eq (x : Int32) : ((x.toUInt32 >>> ((iI 16).toUInt32 &&& Int32.toUInt32 31)).toInt32) = iI (hi16 x : Int) := by
  rw [u32_iI]
  have : (x.toUInt32 >>> ((iI 16).toUInt32 &&& Int32.toUInt32 31)).toNat = hi16 x := by
    rw [UInt32.toNat_shiftRight, show ((iI 16).toUInt32 &&& Int32.toUInt32 31).toNat % 32 = 16 from by decide, Nat.shiftRight_eq_div_pow]
    rfl
  rw [this]
def LC (x : Int32) : Int32 := iI 1103515245 * x + iI 12345
def sdV (x : Int32) : Nat := if hi16 (LC x) % 6 = 3 then 10 + hi16 (LC (LC x)) % 4 else if hi16 (LC x) % 6 = 4 then 20 + hi16 (LC (LC x)) % 9 else if hi16 (LC x) % 6 = 5 then 30 + hi16 (LC (LC x)) % 10 else hi16 (LC (LC x)) % 2
theorem sdV_lt (x : Int32) : sdV x < 40 := by unfold sdV; split <;> (try split) <;> (try split) <;> omega
theorem h6 (u c : Nat) (hc : c < 6) : (iI ((u % 6 : Nat) : Int) = iI (c : Int)) = (u % 6 = c) := by
  rw [iI_eq (by omega) (by omega) (by omega) (by omega)]
  apply propext; constructor <;> intro h <;> omega
theorem c_RW_seasonDeed (d : Nat) (x : Int32) (M : Mem) : c2 (d + 1) m_RW_seasonDeed [.int (irm (iI (hi16 (LC x))) (iI 6)), .int (iI (hi16 (LC (LC x))))] M = some (.int (iI (sdV x)), M) := by
  have u1 := hi16_lt (LC x)
  have u2 := hi16_lt (LC (LC x))
  have r6 : irm (iI (hi16 (LC x))) (iI 6) = iI ((hi16 (LC x) % 6 : Nat) : Int) := iI_rem (b := 6) (by omega) (by decide)
  have r4 : irm (iI (hi16 (LC (LC x)))) (iI 4) = iI ((hi16 (LC (LC x)) % 4 : Nat) : Int) := iI_rem (b := 4) (by omega) (by decide)
  have r9 : irm (iI (hi16 (LC (LC x)))) (iI 9) = iI ((hi16 (LC (LC x)) % 9 : Nat) : Int) := iI_rem (b := 9) (by omega) (by decide)
  have r10 : irm (iI (hi16 (LC (LC x)))) (iI 10) = iI ((hi16 (LC (LC x)) % 10 : Nat) : Int) := iI_rem (b := 10) (by omega) (by decide)
  have r2 : irm (iI (hi16 (LC (LC x)))) (iI 2) = iI ((hi16 (LC (LC x)) % 2 : Nat) : Int) := iI_rem (b := 2) (by omega) (by decide)
  have k3 : (iI ((hi16 (LC x) % 6 : Nat) : Int) = iI 3) = (hi16 (LC x) % 6 = 3) := h6 _ 3 (by decide)
  have k4 : (iI ((hi16 (LC x) % 6 : Nat) : Int) = iI 4) = (hi16 (LC x) % 6 = 4) := h6 _ 4 (by decide)
  have k5 : (iI ((hi16 (LC x) % 6 : Nat) : Int) = iI 5) = (hi16 (LC x) % 6 = 5) := h6 _ 5 (by decide)
  show X2 d m_RW_seasonDeed 0 [.int (irm (iI (hi16 (LC x))) (iI 6)), .int (iI (hi16 (LC (LC x))))] [] M = _
  rw [e_RW_seasonDeed_0, r6, r4, r9, r10, r2, iI_add, iI_add, iI_add]
  simp only [k3, k4, k5]
  unfold sdV
  split
  · rfl
  · split
    · rfl
    · split <;> rfl
theorem c_Mo_draw (d : Nat) {M : Mem} {x : Int32} (hx : gI M 197 20 = x) {n : Nat} (h1 : 1 ≤ n) (h2 : n ≤ 100) : c2 (d + 1) m_Mo_draw [.ref 197, .int (iI n)] M = some (.int (iI ((hi16 (LC x) % n : Nat) : Int)), wI M 197 20 (LC x)) := by
  have u1 := hi16_lt (LC x)
  show X2 d m_Mo_draw 0 [.ref 197, .int (iI n)] [] M = _
  rw [e_Mo_draw_0, decide_eq_false (by rw [iI_eq0 (by omega) (by omega)]; omega), show (!false) = true from rfl, gb_T, hx, hi16_eq, show iI 1103515245 * x + iI 12345 = LC x from rfl, iI_rem (by omega) (by omega)]
theorem c_Mo_drawn (d : Nat) {M : Mem} {x : Int32} (hx : gI M 197 20 = x) : c2 (d + 2) m_Mo_drawn [.ref 197] M = some (.int (iI (sdV x)), wI (wI M 197 20 (LC x)) 197 20 (LC (LC x))) := by
  have u2 := hi16_lt (LC (LC x))
  have hx1 : gI (wI M 197 20 (LC x)) 197 20 = LC x := gI_eq _ _ _ _
  have d6 := c_Mo_draw d hx (n := 6) (by decide) (by decide)
  have d2 := c_Mo_draw d hx1 (n := 2) (by decide) (by decide)
  have d4 := c_Mo_draw d hx1 (n := 4) (by decide) (by decide)
  have d9 := c_Mo_draw d hx1 (n := 9) (by decide) (by decide)
  have d10 := c_Mo_draw d hx1 (n := 10) (by decide) (by decide)
  have d6' : c2 (d + 1) m_Mo_draw [.ref 197, .int (iI 6)] M = _ := d6
  have d2' : c2 (d + 1) m_Mo_draw [.ref 197, .int (iI 2)] (wI M 197 20 (LC x)) = _ := d2
  have d4' : c2 (d + 1) m_Mo_draw [.ref 197, .int (iI 4)] (wI M 197 20 (LC x)) = _ := d4
  have d9' : c2 (d + 1) m_Mo_draw [.ref 197, .int (iI 9)] (wI M 197 20 (LC x)) = _ := d9
  have d10' : c2 (d + 1) m_Mo_draw [.ref 197, .int (iI 10)] (wI M 197 20 (LC x)) = _ := d10
  have k3 : (iI ((hi16 (LC x) % 6 : Nat) : Int) = iI 3) = (hi16 (LC x) % 6 = 3) := h6 _ 3 (by decide)
  have k4 : (iI ((hi16 (LC x) % 6 : Nat) : Int) = iI 4) = (hi16 (LC x) % 6 = 4) := h6 _ 4 (by decide)
  show X2 (d + 1) m_Mo_drawn 0 [.ref 197, uns] [] M = _
  rw [e_Mo_drawn_0, d6', bI_some, d2', bI_some, d4', bI_some, d9', bI_some, d10', bI_some, iI_add, iI_add, iI_add]
  simp only [k3, k4]
  unfold sdV
  by_cases q : hi16 (LC x) % 6 < 3
  · rw [if_pos (by rw [iI_lt (by omega) (by omega) (by omega) (by omega)]; omega), if_neg (by omega), if_neg (by omega), if_neg (by omega)]
  · rw [if_neg (by rw [iI_lt (by omega) (by omega) (by omega) (by omega)]; omega)]
    by_cases q3 : hi16 (LC x) % 6 = 3
    · rw [if_pos q3, if_pos q3]; rfl
    · rw [if_neg q3, if_neg q3]
      by_cases q4 : hi16 (LC x) % 6 = 4
      · rw [if_pos q4, if_pos q4]; rfl
      · rw [if_neg q4, if_neg q4, if_pos (by omega)]; rfl
def seaM (z : Row) : Nat → Int32 → Mo → Nat → Nat × Mo
  | 0, _, m, c => (c, m)
  | j + 1, x, m, c => if dWhy z (sdV x) m = 0 then seaM z j (LC (LC x)) (dDo z (sdV x) m) (c + 1) else seaM z j (LC (LC x)) m c
theorem seaM_s0 {z : Row} {j c : Nat} {x : Int32} {m : Mo} (h : dWhy z (sdV x) m = 0) : seaM z (j + 1) x m c = seaM z j (LC (LC x)) (dDo z (sdV x) m) (c + 1) := if_pos h
theorem seaM_s1 {z : Row} {j c : Nat} {x : Int32} {m : Mo} (h : dWhy z (sdV x) m ≠ 0) : seaM z (j + 1) x m c = seaM z j (LC (LC x)) m c := if_neg h
theorem seaM_all {z : Row} (hz : OkZ z) : ∀ (j : Nat) (x : Int32) (m : Mo) (c : Nat), OkM z m → (c ≤ (seaM z j x m c).1 ∧ (seaM z j x m c).1 ≤ c + j) ∧ OkM z (seaM z j x m c).2 ∧ ((seaM z j x m c).1 = c → (seaM z j x m c).2 = m)
  | 0, _, _, _, ok => ⟨⟨Nat.le_refl _, Nat.le_refl _⟩, ok, fun _ => rfl⟩
  | j + 1, x, m, c, ok => by
    by_cases h : dWhy z (sdV x) m = 0
    · rw [seaM_s0 h]
      obtain ⟨a, b, e⟩ := seaM_all hz j (LC (LC x)) (dDo z (sdV x) m) (c + 1) (dDo_ok hz h ok)
      exact ⟨⟨by omega, by omega⟩, b, fun q => by omega⟩
    · rw [seaM_s1 h]
      obtain ⟨a, b, e⟩ := seaM_all hz j (LC (LC x)) m c ok
      exact ⟨⟨by omega, by omega⟩, b, e⟩
theorem rq_seaM {z z' : Row} (h : RowEq z z') (hz : OkZ z) : ∀ (j : Nat) (x : Int32) (m : Mo) (c : Nat), OkM z m → seaM z' j x m c = seaM z j x m c
  | 0, _, _, _, _ => rfl
  | j + 1, x, m, c, ok => by
    have w := rq_dWhy h (sdV x) m
    by_cases q : dWhy z (sdV x) m = 0
    · rw [seaM_s0 q, seaM_s0 (w.trans q), rq_dDo h hz]; exact rq_seaM h hz j _ _ _ (dDo_ok hz q ok)
    · rw [seaM_s1 q, seaM_s1 (by rw [w]; exact q)]; exact rq_seaM h hz j _ _ _ ok
