/-! THE ROOM'S TEXT: shape, and a room cleared. -/
section B6
variable {T : Nat → Nat} {n N r : Nat}
theorem c_abs {D : Nat} (hD : 1 ≤ D) {x : Int} (h1 : -1000 ≤ x) (h2 : x ≤ 1000) (M : Mem) : c2 D m_Mat_abs [.int (iI x)] M = some (.int (iI (if x < 0 then -x else x)), M) := by
  obtain ⟨d, rfl⟩ := Nat.exists_eq_add_of_le' hD
  show X2 d m_Mat_abs 0 [.int (iI x)] [] M = _
  rw [e_Mat_abs_0]
  by_cases q : x < 0
  · rw [if_pos (by rw [iI_lt0 (by omega) (by omega)]; exact q), if_pos q, iI_neg]
  · rw [if_neg (by rw [iI_lt0 (by omega) (by omega)]; exact q), if_neg q]
theorem e_nb (hr : r ∈ rooms) (d : Nat) (x1 x2 x3 : Int32) (v4 v5 : Value) (M : Mem) : X2 d m_Room_neighbours 4 [.ref r, .int x1, .int x2, .int x3, v4, v5] [] M = if x3 < gI M r 2 then (if 0 < gI M r 1 then gb (!(decide (gI M r 1 = 0))) (gb (!(decide (gI M r 1 = 0))) (bI (c2 d m_Mat_abs [.int ((x3 / (gI M r 1)) - (x1 / (gI M r 1)))] M) fun r2 M1 => gb (!(decide (gI M1 r 1 = 0))) (gb (!(decide (gI M1 r 1 = 0))) (bI (c2 d m_Mat_abs [.int ((irm x3 (gI M1 r 1)) - (irm x1 (gI M1 r 1)))] M1) fun r4 M3 => if x3 = x1 then X2 d m_Room_neighbours 4 [.ref r, .int x1, .int x2, .int (x3 + iI 1), .int r2, .int r4] [] M3 else if iI 1 < r2 then X2 d m_Room_neighbours 4 [.ref r, .int x1, .int x2, .int (x3 + iI 1), .int r2, .int r4] [] M3 else if iI 1 < r4 then X2 d m_Room_neighbours 4 [.ref r, .int x1, .int x2, .int (x3 + iI 1), .int r2, .int r4] [] M3 else X2 d m_Room_neighbours 4 [.ref r, .int x1, .int (x2 ||| ((iI 1) <<< (x3 &&& 31))), .int (x3 + iI 1), .int r2, .int r4] [] M3)))) else some (.int x2, M)) else some (.int x2, M) := by
  rw [e_Room_neighbours_4]
  simp only [rm_k _ r hr, gb_T]
theorem c_neighbours {D : Nat} (hD : 2 ≤ D) (hr : r ∈ rooms) {M : Mem} {R W c : Nat} (h1 : gI M r 1 = iI W) (h2 : gI M r 2 = iI ((R * W : Nat) : Int)) (hR : R ≤ 3) (hW1 : 1 ≤ W) (hW : W ≤ 3) (hc : c < 9) : c2 D m_Room_neighbours [.ref r, .int (iI c)] M = some (.int (iI (maskOf (fun k => nbr W c k) (R * W))), M) := by
  obtain ⟨d, rfl⟩ := Nat.exists_eq_add_of_le' hD
  have nz9 : R * W ≤ 9 := Nat.mul_le_mul hR hW
  have go : ∀ j k v4 v5, j + k = R * W → X2 (d + 1) m_Room_neighbours 4 [.ref r, .int (iI c), .int (iI (maskOf (fun k => nbr W c k) k)), .int (iI k), v4, v5] [] M = some (.int (iI (maskOf (fun k => nbr W c k) (R * W))), M) := by
    intro j
    induction j with
    | zero =>
      intro k v4 v5 hk
      have hk' : k = R * W := by omega
      rw [e_nb hr, h2, if_neg (by rw [iI_lt (by omega) (by omega) (by omega) (by omega)]; omega), hk']
    | succ j ih =>
      intro k v4 v5 hk
      have dk : k / W ≤ 9 := Nat.le_trans (Nat.div_le_self _ _) (by omega)
      have dc : c / W ≤ 9 := Nat.le_trans (Nat.div_le_self _ _) (by omega)
      have mk : k % W < W := Nat.mod_lt _ (by omega)
      have mc : c % W < W := Nat.mod_lt _ (by omega)
      have i1 : (0 : Int) ≤ ((k / W : Nat) : Int) := Int.natCast_nonneg _
      have i2 : (0 : Int) ≤ ((c / W : Nat) : Int) := Int.natCast_nonneg _
      have i3 : (0 : Int) ≤ ((k % W : Nat) : Int) := Int.natCast_nonneg _
      have i4 : (0 : Int) ≤ ((c % W : Nat) : Int) := Int.natCast_nonneg _
      have i5 : ((k / W : Nat) : Int) ≤ 9 := Int.ofNat_le.mpr dk
      have i6 : ((c / W : Nat) : Int) ≤ 9 := Int.ofNat_le.mpr dc
      have i7 : ((k % W : Nat) : Int) < (W : Int) := Int.ofNat_lt.mpr mk
      have i8 : ((c % W : Nat) : Int) < (W : Int) := Int.ofNat_lt.mpr mc
      have nzw : (!(decide (iI (W : Int) = 0))) = true := by
        rw [decide_eq_false (by rw [iI_eq0 (by omega) (by omega)]; omega)]; rfl
      have ms : maskOf (fun k => nbr W c k) (k + 1) = maskOf (fun k => nbr W c k) k ||| (if nbr W c k = true then 1 <<< k else 0) := rfl
      have nx := fun a b => ih (k + 1) a b (by omega)
      rw [e_nb hr, h2, if_pos (by rw [iI_lt (by omega) (by omega) (by omega) (by omega)]; omega), h1, if_pos (by rw [iI_0lt (by omega) (by omega)]; omega), nzw, gb_T, gb_T, iI_div (by omega) (by omega), iI_div (by omega) (by omega), iI_sub, c_abs (by omega) (by omega) (by omega), bI_some, h1, nzw, gb_T, gb_T, iI_rem (by omega) (by omega), iI_rem (by omega) (by omega), iI_sub, c_abs (by omega) (by omega) (by omega), bI_some, iI_add]
      have same : nbr W c k = false → X2 (d + 1) m_Room_neighbours 4 [.ref r, .int (iI c), .int (iI (maskOf (fun k => nbr W c k) k)), .int (iI ((k : Int) + 1)), .int (iI (if ((k / W : Nat) : Int) - ((c / W : Nat) : Int) < 0 then -(((k / W : Nat) : Int) - ((c / W : Nat) : Int)) else ((k / W : Nat) : Int) - ((c / W : Nat) : Int))), .int (iI (if ((k % W : Nat) : Int) - ((c % W : Nat) : Int) < 0 then -(((k % W : Nat) : Int) - ((c % W : Nat) : Int)) else ((k % W : Nat) : Int) - ((c % W : Nat) : Int)))] [] M = some (.int (iI (maskOf (fun k => nbr W c k) (R * W))), M) := fun e => by
        have := nx (.int (iI (if ((k / W : Nat) : Int) - ((c / W : Nat) : Int) < 0 then -(((k / W : Nat) : Int) - ((c / W : Nat) : Int)) else ((k / W : Nat) : Int) - ((c / W : Nat) : Int)))) (.int (iI (if ((k % W : Nat) : Int) - ((c % W : Nat) : Int) < 0 then -(((k % W : Nat) : Int) - ((c % W : Nat) : Int)) else ((k % W : Nat) : Int) - ((c % W : Nat) : Int))))
        rw [ms, e, if_neg (by decide), Nat.or_zero] at this
        exact this
      by_cases q1 : k = c
      · rw [if_pos (by rw [q1])]
        exact same (by unfold nbr; rw [decide_eq_false (by omega)]; rfl)
      · rw [if_neg (by rw [iI_eq (by omega) (by omega) (by omega) (by omega)]; omega)]
        by_cases q2 : -1 ≤ ((k / W : Nat) : Int) - ((c / W : Nat) : Int) ∧ ((k / W : Nat) : Int) - ((c / W : Nat) : Int) ≤ 1
        · rw [if_neg (by rw [iI_lt (by omega) (by omega) (by split <;> omega) (by split <;> omega)]; split <;> omega)]
          by_cases q3 : -1 ≤ ((k % W : Nat) : Int) - ((c % W : Nat) : Int) ∧ ((k % W : Nat) : Int) - ((c % W : Nat) : Int) ≤ 1
          · rw [if_neg (by rw [iI_lt (by omega) (by omega) (by split <;> omega) (by split <;> omega)]; split <;> omega)]
            have e : nbr W c k = true := by
              unfold nbr; rw [decide_eq_true q1, decide_eq_true q2, decide_eq_true q3]; rfl
            have := nx (.int (iI (if ((k / W : Nat) : Int) - ((c / W : Nat) : Int) < 0 then -(((k / W : Nat) : Int) - ((c / W : Nat) : Int)) else ((k / W : Nat) : Int) - ((c / W : Nat) : Int)))) (.int (iI (if ((k % W : Nat) : Int) - ((c % W : Nat) : Int) < 0 then -(((k % W : Nat) : Int) - ((c % W : Nat) : Int)) else ((k % W : Nat) : Int) - ((c % W : Nat) : Int))))
            rw [ms, e, if_pos rfl] at this
            rw [show iI 1 <<< (iI (k : Int) &&& 31) = iI ((1 <<< k : Nat) : Int) from iI_shl 1 (k := k) (by omega), iI_or]
            exact this
          · rw [if_pos (by rw [iI_lt (by omega) (by omega) (by split <;> omega) (by split <;> omega)]; split <;> omega)]
            exact same (by unfold nbr; rw [decide_eq_false q3]; simp)
        · rw [if_pos (by rw [iI_lt (by omega) (by omega) (by split <;> omega) (by split <;> omega)]; split <;> omega)]
          exact same (by unfold nbr; rw [decide_eq_false q2]; simp)
  show X2 (d + 1) m_Room_neighbours 0 [.ref r, .int (iI c), uns, uns, uns, uns] [] M = _
  rw [e_Room_neighbours_0]
  exact go (R * W) 0 uns uns (by omega)
theorem e_sh (hr : r ∈ rooms) (d : Nat) (v1 v2 : Value) (x3 : Int32) (M : Mem) : X2 d m_Room_shape 25 [.ref r, v1, v2, .int x3] [] M = if x3 < gI M r 2 then if x3 < iI 9 then (bI (c2 d m_Room_neighbours [.ref r, .int x3] M) fun r2 M1 => gb (inb x3 9) (X2 d m_Room_shape 25 [.ref r, v1, v2, .int (x3 + iI 1)] [] (wI M1 (r + 2) (ix x3) r2))) else some (.null, M) else some (.null, M) := by
  rw [e_Room_shape_25]
  simp only [rm_k _ r hr, gb_T, rm_11 _ r hr, rm_t2 _ _ r hr, show (true && !false) = true from rfl]
theorem c_shape {D : Nat} (hD : 3 ≤ D) (hr : r ∈ rooms) {R W : Nat} (hR : R ≤ 3) (hW1 : 1 ≤ W) (hW : W ≤ 3) (M : Mem) : ∃ M', c2 D m_Room_shape [.ref r, .int (iI R), .int (iI W)] M = some (.null, M') ∧ Eqx [r, r + 2] M M' ∧ gI M' r 0 = iI R ∧ gI M' r 1 = iI W ∧ gI M' r 2 = iI ((R * W : Nat) : Int) ∧ (∀ k, 2 < k → gI M' r k = gI M r k) ∧ ∀ c, c < R * W → gI M' (r + 2) c = iI (maskOf (fun k => nbr W c k) (R * W)) := by
  obtain ⟨d, rfl⟩ := Nat.exists_eq_add_of_le' hD
  have nz9 : R * W ≤ 9 := Nat.mul_le_mul hR hW
  let A := wI (wI (wI M r 0 (iI R)) r 1 (iI W)) r 2 (iI ((R * W : Nat) : Int))
  have a0 : gI A r 0 = iI R := by
    show gI (wI (wI (wI M r 0 _) r 1 _) r 2 _) r 0 = _
    rw [gI_nk (by decide), gI_nk (by decide), gI_eq]
  have a1 : gI A r 1 = iI W := by
    show gI (wI (wI (wI M r 0 _) r 1 _) r 2 _) r 1 = _
    rw [gI_nk (by decide), gI_eq]
  have a2 : gI A r 2 = iI ((R * W : Nat) : Int) := gI_eq _ _ _ _
  have ak : ∀ k, 2 < k → gI A r k = gI M r k := fun k hk => by
    show gI (wI (wI (wI M r 0 _) r 1 _) r 2 _) r k = _
    rw [gI_nk (by omega), gI_nk (by omega), gI_nk (by omega)]
  have hEA : Eqx [r, r + 2] M A := eqx_wI (eqx_wI (eqx_wI Eqx.rf (by simp)) (by simp)) (by simp)
  have go : ∀ j c M1, j + c = R * W → Eqx [r + 2] A M1 → (∀ i, i < c → gI M1 (r + 2) i = iI (maskOf (fun k => nbr W i k) (R * W))) → ∃ M', X2 (d + 2) m_Room_shape 25 [.ref r, .int (iI R), .int (iI W), .int (iI c)] [] M1 = some (.null, M') ∧ Eqx [r + 2] A M' ∧ ∀ i, i < R * W → gI M' (r + 2) i = iI (maskOf (fun k => nbr W i k) (R * W)) := by
    intro j
    induction j with
    | zero =>
      intro c M1 hc hE hi
      have g2 : gI M1 r 2 = iI ((R * W : Nat) : Int) := (eqx_I hE (ni1 (by omega)) 2).trans a2
      rw [e_sh hr, g2, if_neg (by rw [iI_lt (by omega) (by omega) (by omega) (by omega)]; omega)]
      exact ⟨M1, rfl, hE, fun i h => hi i (by omega)⟩
    | succ j ih =>
      intro c M1 hc hE hi
      have g1 : gI M1 r 1 = iI W := (eqx_I hE (ni1 (by omega)) 1).trans a1
      have g2 : gI M1 r 2 = iI ((R * W : Nat) : Int) := (eqx_I hE (ni1 (by omega)) 2).trans a2
      rw [e_sh hr, g2, if_pos (by rw [iI_lt (by omega) (by omega) (by omega) (by omega)]; omega), if_pos (by rw [iI_lt (by omega) (by omega) (by omega) (by omega)]; omega), c_neighbours (by omega) hr g1 g2 hR hW1 hW (by omega), bI_some, inb_ok (by omega) (by omega) (by omega), gb_T, ix_nat (by omega), iI_add]
      refine ih (c + 1) _ (by omega) (eqx_wI hE (by simp)) (fun i h => ?_)
      by_cases q : i = c
      · rw [q, gI_eq]
      · rw [gI_nk q]; exact hi i (by omega)
  obtain ⟨M', e, hE, hi⟩ := go (R * W) 0 A (by omega) Eqx.rf (fun i h => absurd h (Nat.not_lt_zero _))
  refine ⟨M', ?_, hEA.tr (hE.mono (by simp)), (eqx_I hE (ni1 (by omega)) 0).trans a0, (eqx_I hE (ni1 (by omega)) 1).trans a1, (eqx_I hE (ni1 (by omega)) 2).trans a2, fun k hk => (eqx_I hE (ni1 (by omega)) k).trans (ak k hk), hi⟩
  have e0 := e_Room_shape_0 (d + 2) r (iI R) (iI W) M
  simp only [rm_k _ r hr, gb_T] at e0
  rw [gI_nk (by decide), gI_eq, gI_eq, iI_mul, ← Int.natCast_mul] at e0
  exact e0.trans e
end B6
