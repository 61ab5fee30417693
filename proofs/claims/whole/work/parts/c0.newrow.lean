/-! THE ROOM TOLD: what was read is a sane room, the same on both sides. -/
section C0
theorem bdI {z : Row} {k v : Nat} {lo hi : Int} (h : z k = iI v) (h1 : lo ≤ v) (h2 : (v : Int) ≤ hi) (h3 : hi ≤ 2147483647) : Bd z k lo hi := by
  unfold Bd
  rw [h, iI_toInt (by omega) (by omega)]
  exact ⟨h1, h2⟩
theorem Cells.l {f : Nat → Int32} : ∀ {L1 L2 : List Nat} {b : Nat}, Cells f b (L1 ++ L2) → Cells f b L1
  | [], _, _, _ => trivial
  | _ :: L1, L2, _, h => ⟨h.1, Cells.l (L1 := L1) (L2 := L2) h.2⟩
theorem Cells.r {f : Nat → Int32} : ∀ {L1 L2 : List Nat} {b : Nat}, Cells f b (L1 ++ L2) → Cells f (b + L1.length) L2
  | [], _, _, h => h
  | _ :: L1, L2, b, h => by
    have := Cells.r (L1 := L1) (L2 := L2) h.2
    rw [List.length_cons, show b + (L1.length + 1) = b + 1 + L1.length by omega]
    exact this
theorem codeOf_cells {al : Nat → Bool} {z : Row} : ∀ {L : List Nat} {b : Nat}, Cells z b L → OkL al L → codeOf z b L.length = L
  | [], _, _, _ => rfl
  | c :: L, b, h, o => by
    have hc : c ≤ 2147483647 := by
      have := o.1
      unfold OkC at this
      omega
    show zn z b :: codeOf z (b + 1) L.length = _
    rw [zn_iI h.1 hc, codeOf_cells (L := L) h.2 o.2]
theorem row_law {al : Nat → Bool} {L C : List Nat} {z : Row} {law : Nat} (hE : L ≠ [] → Eff al true 18 L) (h6 : z (6 + law) = iI (if L = [] then 0 else 1)) (h10 : L ≠ [] → z (10 + law) = iI L.length ∧ ∃ C1 C2, C = C1 ++ (L ++ C2) ∧ z (8 + law) = iI C1.length) (hC : C.length ≤ 900) (hK : Cells z 71 C) : (z (6 + law) ≠ 0 → OkLaw z law al) ∧ ∀ M a, gI M a 2 = iI L.length → CellsE (M.1 (a + 1)) 0 L → LawR M a z law := by
  by_cases q : L = []
  · have e : z (6 + law) = 0 := by rw [h6, if_pos q]; rfl
    refine ⟨fun x => absurd e x, fun M a g1 _ => Or.inl ⟨e, ?_⟩⟩
    rw [g1, q]; rfl
  · have e : z (6 + law) ≠ 0 := by rw [h6, if_neg q]; decide
    obtain ⟨l1, C1, C2, l2, l3⟩ := h10 q
    obtain ⟨f1, f2, f3⟩ := hE q
    have len : C1.length + L.length ≤ 900 := by
      have := congrArg List.length l2
      rw [List.length_append, List.length_append] at this
      omega
    have z8 : zn z (8 + law) = C1.length := zn_iI l3 (by omega)
    have z10 : zn z (10 + law) = L.length := zn_iI l1 (by omega)
    have kL : Cells z (71 + C1.length) L := by
      rw [l2] at hK
      exact (Cells.r hK).l
    have lc : lawC z law = L := by
      unfold lawC
      rw [z8, z10]
      exact codeOf_cells kL f1
    refine ⟨fun _ => ⟨?_, ?_, by rw [z8, z10]; exact len, ?_, ?_, ?_, by rw [z10]; exact f2⟩, fun M a g1 g2 => Or.inr ⟨e, g1.trans l1.symm, by rw [lc]; exact g2⟩⟩
    · rw [l3, iI_toInt (by omega) (by omega)]; omega
    · rw [l1, iI_toInt (by omega) (by omega)]; omega
    · rw [z8, lc]; exact kL
    · rw [lc]; exact f1
    · intro wd
      obtain ⟨v, v1, v2⟩ := f3 wd 18 [] (by decide)
      rw [lc]
      exact ⟨v, v1 rfl, v2⟩
theorem row_new {M : Mem} {p : Ps} {C : List Nat} {z : Row} (hR : RowP M p C) (hC : C.length ≤ 900) (hp : OkP p) (hz : ∀ k, k < 971 → z k = gI M 201 k) : OkZ z ∧ (∀ M2 r, RoomC M2 r p → RoomR M2 r z) ∧ OkM z (p.1 25, p.1 26, p.1 27, iI 0) ∧ momAt z 25 (p.1 25, p.1 26, p.1 27, iI 0) ∧ z 29 = iI 0 ∧ z 0 = iI (p.1 0) := by
  obtain ⟨⟨a1, a2, a3, a4, a5, a6, a7, a8, a9, a10, a11, a12⟩, b, c, eT, eG⟩ := hp
  obtain ⟨h1, h2, h3, h4⟩ := hR
  have nz9 : p.1 1 * p.1 2 ≤ 9 := Nat.mul_le_mul a2 a4
  have p9 : 2 ^ (p.1 1 * p.1 2) ≤ 512 := Nat.pow_le_pow_right (n := 2) (by decide) nz9
  have g : ∀ k, k < 971 → rix (p.1 3) k → z k = iI (p.1 k) := fun k k1 k2 => (hz k k1).trans (h1 k k2)
  have g0 := g 0 (by decide) (by unfold rix; omega)
  have g1 := g 1 (by decide) (by unfold rix; omega)
  have g2 := g 2 (by decide) (by unfold rix; omega)
  have g3 := g 3 (by decide) (by unfold rix; omega)
  have g4 := g 4 (by decide) (by unfold rix; omega)
  have g5 := g 5 (by decide) (by unfold rix; omega)
  have g25 := g 25 (by decide) (by unfold rix; omega)
  have g26 := g 26 (by decide) (by unfold rix; omega)
  have g27 := g 27 (by decide) (by unfold rix; omega)
  have g28 := g 28 (by decide) (by unfold rix; omega)
  have g29 := g 29 (by decide) (by unfold rix; omega)
  have n1 : zn z 1 = p.1 1 := zn_iI g1 (by omega)
  have n2 : zn z 2 = p.1 2 := zn_iI g2 (by omega)
  have n3 : zn z 3 = p.1 3 := zn_iI g3 (by omega)
  have nn : nz z = p.1 1 * p.1 2 := by unfold nz; rw [n1, n2]
  have w26 : p.1 26 < 5 := by omega
  have kC : Cells z 71 C := h4.fr (fun k k1 k2 => hz k (by omega))
  have L0 := row_law (al := alT) (L := p.2 0) (C := C) (z := z) (law := 0) eT ((hz _ (by decide)).trans (h2 0 (by decide)).1) (fun w => by
    obtain ⟨y3, C1, C2, y4, y5⟩ := (h2 0 (by decide)).2 w
    exact ⟨(hz _ (by decide)).trans y3, C1, C2, y4, (hz _ (by decide)).trans y5⟩) hC kC
  have L1 := row_law (al := alG) (L := p.2 1) (C := C) (z := z) (law := 1) eG ((hz _ (by decide)).trans (h2 1 (by decide)).1) (fun w => by
    obtain ⟨y3, C1, C2, y4, y5⟩ := (h2 1 (by decide)).2 w
    exact ⟨(hz _ (by decide)).trans y3, C1, C2, y4, (hz _ (by decide)).trans y5⟩) hC kC
  have b01 : ∀ (k : Nat) (L : List Nat), z k = iI (if L = [] then 0 else 1) → Bd z k 0 1 := fun k L h => by
    by_cases q : L = []
    · rw [if_pos q] at h; exact bdI (v := 0) h (by decide) (by decide) (by decide)
    · rw [if_neg q] at h; exact bdI (v := 1) h (by decide) (by decide) (by decide)
  refine ⟨⟨⟨bdI g1 (by omega) (by omega) (by omega), bdI g2 (by omega) (by omega) (by omega), bdI g3 (by omega) (by omega) (by omega), bdI g4 (by omega) (by omega) (by omega), bdI g5 (by omega) (by omega) (by omega), b01 6 (p.2 0) ((hz _ (by decide)).trans (h2 0 (by decide)).1), b01 7 (p.2 1) ((hz _ (by decide)).trans (h2 1 (by decide)).1)⟩, fun c hc => ?_, fun t ht => ?_, L0.1, L1.1⟩, fun M2 r hM => ?_, ⟨⟨?_, ?_⟩, w26, by show p.1 25 < 512; omega, by show p.1 27 < 10; omega⟩, ⟨g25, g26, g27, by show z 28 = iI 0; rw [g28, a11]; rfl⟩, by rw [g29, a12]; rfl, g0⟩
  · have := b c hc
    exact bdI (g (12 + c) (by omega) (by unfold rix; omega)) (by omega) (by omega) (by omega)
  · rw [n3] at ht
    have := c t ht
    exact bdI (g (21 + t) (by omega) (by unfold rix; omega)) (by omega) (by omega) (by omega)
  · obtain ⟨r1, r2, r3, r4, r5, r6⟩ := hM
    have f0 : gI M2 r 0 = iI (p.1 1) := r1 0 (by decide)
    have f1 : gI M2 r 1 = iI (p.1 2) := r1 1 (by decide)
    have f2 : gI M2 r 2 = iI ((p.1 1 * p.1 2 : Nat) : Int) := r1 2 (by decide)
    have f3 : gI M2 r 3 = iI (p.1 3) := r1 3 (by decide)
    have f6 : gI M2 r 6 = iI (p.1 4) := r1 6 (by decide)
    have f7 : gI M2 r 7 = iI (p.1 5) := r1 7 (by decide)
    have f9 : gI M2 r 9 = iI (p.1 0) := r1 9 (by decide)
    refine ⟨⟨f0.trans g1.symm, f1.trans g2.symm, by rw [f2, nn], f3.trans g3.symm, f6.trans g4.symm, f7.trans g5.symm, f9.trans g0.symm⟩, fun c hc => ?_, fun c hc => ?_, fun t ht => ?_, L0.2 M2 (r + 4) r5.1 r5.2, L1.2 M2 (r + 7) r6.1 r6.2⟩
    · rw [r2 c hc, g (12 + c) (by omega) (by unfold rix; omega)]
    · rw [nn] at hc
      unfold nmask
      rw [r3 c hc, n2, nn]
    · rw [n3] at ht
      rw [r4 t ht, g (21 + t) (by omega) (by unfold rix; omega)]
  · show (5 * p.1 25 + p.1 26) / 5 < 2 ^ nz z
    rw [nn, show (5 * p.1 25 + p.1 26) / 5 = p.1 25 by omega]
    exact a8
  · show WhoOk z ((5 * p.1 25 + p.1 26) % 5)
    rw [show (5 * p.1 25 + p.1 26) % 5 = p.1 26 by omega]
    unfold WhoOk
    rw [n3]
    exact a9
/-- the room that none holds -/
theorem gR_108 (M : Mem) : gR M 108 1 = 157 ∧ gR M 108 2 = 167 ∧ gR M 108 3 = 177 := ⟨rfl, rfl, rfl⟩
theorem c_spare {D : Nat} (hD : 1 ≤ D) {M : Mem} {r i0 i1 : Nat} (hr : r ∈ rooms) (h5 : gR M 100 5 = r) (h0 : gR M 109 0 = i0) (h1 : gR M 109 1 = i1) (k0 : i0 = 0 ∨ i0 ∈ rooms) (k1 : i1 = 0 ∨ i1 ∈ rooms) : ∃ r2 : Nat, c2 D m_RW_spareRoom [.ref 100] M = some (.ref r2, M) ∧ r2 ∈ rooms ∧ r2 ≠ r ∧ r2 ≠ i0 ∧ r2 ≠ i1 := by
  obtain ⟨d, rfl⟩ := Nat.exists_eq_add_of_le' hD
  have ro : ∀ a, a = 0 ∨ a ∈ rooms → rOk a = true := fun a h => by
    rcases h with q | q
    · rw [q]; rfl
    · exact rm_ok a q
  have st : ∀ k c, 1 ≤ k → k < 4 → c ∈ rooms → gR M 108 k = c → X2 d m_RW_spareRoom 2 [.ref 100, .int (iI (k : Nat))] [] M = if c = r ∨ c = i0 ∨ c = i1 then X2 d m_RW_spareRoom 2 [.ref 100, .int (iI ((k + 1 : Nat) : Int))] [] M else some (.ref c, M) := fun k c a1 a2 a3 a4 => by
    rw [e_RW_spareRoom_2, if_pos (by rw [iI_lt (by omega) (by omega) (by omega) (by omega)]; omega), inb_ok (by omega) (by omega) (by omega), show (true || false || false) = true from rfl, gb_T, gb_T, gb_T, gb_T, ix_nat (by omega), a4, h5, h0, h1, rm_ok c a3, rm_ok r hr, ro i0 k0, ro i1 k1, show (true && true) = true from rfl, gb_T, gb_T, gb_T, iI_add]
    by_cases q1 : c = r
    · rw [if_pos q1, if_pos (Or.inl q1)] <;> rfl
    · rw [if_neg q1]
      by_cases q2 : c = i0
      · rw [if_pos q2, if_pos (Or.inr (Or.inl q2))] <;> rfl
      · rw [if_neg q2]
        by_cases q3 : c = i1
        · rw [if_pos q3, if_pos (Or.inr (Or.inr q3))] <;> rfl
        · rw [if_neg q3, if_neg (by omega)]
  have en : X2 d m_RW_spareRoom 2 [.ref 100, .int (iI ((4 : Nat) : Int))] [] M = some (.ref 147, M) := by
    rw [e_RW_spareRoom_2, if_neg (by decide)]
  obtain ⟨t1, t2, t3⟩ := gR_108 M
  have s1 := st 1 157 (by decide) (by decide) (by decide) t1
  have s2 := st 2 167 (by decide) (by decide) (by decide) t2
  have s3 := st 3 177 (by decide) (by decide) (by decide) t3
  have e0 : c2 (d + 1) m_RW_spareRoom [.ref 100] M = X2 d m_RW_spareRoom 2 [.ref 100, .int (iI ((1 : Nat) : Int))] [] M := e_RW_spareRoom_0 d M
  by_cases q1 : 157 = r ∨ 157 = i0 ∨ 157 = i1
  · by_cases q2 : 167 = r ∨ 167 = i0 ∨ 167 = i1
    · by_cases q3 : 177 = r ∨ 177 = i0 ∨ 177 = i1
      · exact ⟨147, by rw [e0, s1, if_pos q1, s2, if_pos q2, s3, if_pos q3]; exact en, by decide, fun e => by omega, fun e => by omega, fun e => by omega⟩
      · exact ⟨177, by rw [e0, s1, if_pos q1, s2, if_pos q2, s3, if_neg q3], by decide, fun e => by omega, fun e => by omega, fun e => by omega⟩
    · exact ⟨167, by rw [e0, s1, if_pos q1, s2, if_neg q2], by decide, fun e => by omega, fun e => by omega, fun e => by omega⟩
  · exact ⟨157, by rw [e0, s1, if_neg q1], by decide, fun e => by omega, fun e => by omega, fun e => by omega⟩
/-- the reference takes the row over -/
def cpyRow (z y : Row) (k : Nat) : Row := fun q => if q < k then y q else z q
theorem c_cpy (D : Nat) {M : Mem} (v1 : Value) : ∀ (j k : Nat) (M' : Mem), j + k = 971 → Eqx [198] M M' → M'.1 198 = cpyRow (M.1 198) (M.1 201) k → ∃ M'', X2 D m_Mo_room 165 [.ref 197, v1, .int (iI (k : Nat))] [] M' = some (.int (M.1 201 0), M'') ∧ Eqx [198] M M'' ∧ M''.1 198 = cpyRow (M.1 198) (M.1 201) 971 := by
  intro j
  induction j with
  | zero =>
    intro k M' hk hE hr
    have hk' : k = 971 := by omega
    subst hk'
    have e : M'.1 198 0 = M.1 201 0 := by
      rw [hr]; exact if_pos (by decide)
    rw [e_Mo_room_165, if_neg (by decide), gI, e]
    exact ⟨M', rfl, hE, hr⟩
  | succ j ih =>
    intro k M' hk hE hr
    rw [e_Mo_room_165, if_pos (by rw [iI_lt (by omega) (by omega) (by omega) (by omega)]; omega), inb_ok (by omega) (by omega) (by omega), gb_T, inb_ok (by omega) (by omega) (by omega), gb_T, ix_nat (by omega), iI_add]
    refine ih (k + 1) _ (by omega) (eqx_wI hE (by simp)) ?_
    rw [wI_row, gI, hr, (hE 201 (by decide)).1]
    funext q
    unfold upr cpyRow
    by_cases q1 : q = k
    · rw [if_pos q1, if_pos (by omega), q1]
    · rw [if_neg q1]
      by_cases q2 : q < k
      · rw [if_pos q2, if_pos (by omega)]
      · rw [if_neg q2, if_neg (by omega)]
end C0
