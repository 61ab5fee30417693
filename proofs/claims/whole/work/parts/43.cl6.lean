/-! THE CLASS: whether one goes, remembered. -/
theorem tstL {n k : Nat} (hn : n < 9223372036854775808) (hk : k < 64) : (lg_cmp ((lI n >>> ((iI k).toInt64 &&& 63)) &&& lI 1) (lI 0) = 0) = (n.testBit k = false) := by
  rw [lI_bit hn hk, cmp_eq]
  cases h : n.testBit k
  · exact propext ⟨fun _ => rfl, fun _ => rfl⟩
  · exact propext ⟨fun q => absurd q (by decide), fun q => absurd q (by decide)⟩
theorem p54 : (2 : Nat) ^ 54 < 9223372036854775808 := by decide
theorem p52 : (2 : Nat) ^ 52 < 9223372036854775808 := by decide
theorem gL_wL_same (M : Mem) (a k : Nat) (v : Int64) : gL (wL M a k v) a k = v := gL_eq M a k v
theorem e_going100 (d : Nat) {r : Nat} (hr : r ∈ rooms) (v1 : Value) (x2 x3 x4 : Int32) (v5 v6 : Value) (y0 y1 : Int32) (M : Mem) (h0 : gR M 127 0 = r) :
    X2 d m_Stp_isGoing 100 [.ref 127, v1, .int x2, .int x3, .int x4, v5, v6] [.int y0, .int y1] M = gb (inb ((x2 * (iI 2)) + x3) 8) (if lg_cmp (((gL M 129 (ix ((x2 * (iI 2)) + x3))) >>> ((y1 + y0).toInt64 &&& 63)) &&& (lI 1)) (lI 0) = 0 then (gb (inb x2 4) (gb (inb ((x2 * (iI 2)) + x3) 8) (bI (c2 d m_Lw_holds [.ref (r + 7), .ref 130] (wI (wI (wI (wI (wI M 130 0 x3) 130 1 x2) 130 7 x4) 130 8 (irm (y1 + y0) (iI 2))) 130 9 (gI (wI (wI (wI (wI M 130 0 x3) 130 1 x2) 130 7 x4) 130 8 (irm (y1 + y0) (iI 2))) (r + 3) (ix x2)))) fun r2 M1 => if r2 = 0 then gb (inb ((x2 * (iI 2)) + x3) 8) (gb (inb ((x2 * (iI 2)) + x3) 8) (if lg_cmp ((((gL M 129 (ix ((x2 * (iI 2)) + x3))) ||| (((lI 1) <<< ((y1 + y0).toInt64 &&& 63)) ||| (lI 0))) >>> (((y1 + y0) + (iI 32)).toInt64 &&& 63)) &&& (lI 1)) (lI 0) = 0 then some (.int (iI 0), wL M1 129 (ix ((x2 * (iI 2)) + x3)) ((gL M 129 (ix ((x2 * (iI 2)) + x3))) ||| (((lI 1) <<< ((y1 + y0).toInt64 &&& 63)) ||| (lI 0)))) else some (.int (iI 1), wL M1 129 (ix ((x2 * (iI 2)) + x3)) ((gL M 129 (ix ((x2 * (iI 2)) + x3))) ||| (((lI 1) <<< ((y1 + y0).toInt64 &&& 63)) ||| (lI 0)))))) else gb (inb ((x2 * (iI 2)) + x3) 8) (gb (inb ((x2 * (iI 2)) + x3) 8) (if lg_cmp ((((gL M 129 (ix ((x2 * (iI 2)) + x3))) ||| (((lI 1) <<< ((y1 + y0).toInt64 &&& 63)) ||| ((lI 1) <<< (((y1 + y0) + (iI 32)).toInt64 &&& 63)))) >>> (((y1 + y0) + (iI 32)).toInt64 &&& 63)) &&& (lI 1)) (lI 0) = 0 then some (.int (iI 0), wL M1 129 (ix ((x2 * (iI 2)) + x3)) ((gL M 129 (ix ((x2 * (iI 2)) + x3))) ||| (((lI 1) <<< ((y1 + y0).toInt64 &&& 63)) ||| ((lI 1) <<< (((y1 + y0) + (iI 32)).toInt64 &&& 63))))) else some (.int (iI 1), wL M1 129 (ix ((x2 * (iI 2)) + x3)) ((gL M 129 (ix ((x2 * (iI 2)) + x3))) ||| (((lI 1) <<< ((y1 + y0).toInt64 &&& 63)) ||| ((lI 1) <<< (((y1 + y0) + (iI 32)).toInt64 &&& 63)))))))))) else gb (inb ((x2 * (iI 2)) + x3) 8) (if lg_cmp (((gL M 129 (ix ((x2 * (iI 2)) + x3))) >>> (((y1 + y0) + (iI 32)).toInt64 &&& 63)) &&& (lI 1)) (lI 0) = 0 then some (.int (iI 0), M) else some (.int (iI 1), M))) := by
  rw [e_Stp_isGoing_100, h0]
  simp only [rm_k _ r hr, rm_12 _ r hr, rm_14 _ r hr, rm_a3 _ r hr, rm_t3 _ _ r hr, rm_k7 _ r hr, tt_and, bb_f, gb_T, gL_wL_same]
theorem some_b (b : Bool) (M : Mem) : (if b = false then some (.int (iI 0), M) else some (.int (iI 1), M) : Rs Mem) = some (.int (iI (b2i b)), M) := by cases b <;> rfl
theorem c_going100 (d : Nat) {M : Mem} {r : Nat} {z : Row} {t bl all fc : Nat} (v1 v5 v6 : Value) (hr : r ∈ rooms) (h0 : gR M 127 0 = r) (hR : RoomR M r z) (hz : OkZ z) (ht : t < zn z 3) (hbl : bl < 2) (hall : all ≤ 10) (hfc : fc ≤ 1) (htold : z 7 ≠ 0) (hG : GoC M z) :
    ∃ M', X2 (d + 2) m_Stp_isGoing 100 [.ref 127, v1, .int (iI t), .int (iI bl), .int (iI all), v5, v6] [.int (iI fc), .int (iI all * iI 2)] M = some (.int (iI (b2i (goV z t all fc bl))), M') ∧ Eqx [129, 130, r + 9] M M' ∧ GoC M' z := by
  obtain ⟨n, hn, hnb, hk⟩ := hG t bl ht hbl
  have h3 := zn_rng hz.1.2.2.1 (by decide)
  have hrl := rm_lt r hr
  have hm := hk all fc hall hfc
  have hp := p54
  have e1 : iI t * iI 2 + iI bl = iI ((t * 2 + bl : Nat) : Int) := by rw [iI_mul, iI_add]; rfl
  have e2 : iI all * iI 2 + iI fc = iI ((all * 2 + fc : Nat) : Int) := by rw [iI_mul, iI_add]; rfl
  have e3 : iI ((all * 2 + fc : Nat) : Int) + iI 32 = iI ((all * 2 + fc + 32 : Nat) : Int) := by rw [iI_add]; rfl
  have e4 : irm (iI ((all * 2 + fc : Nat) : Int)) (iI 2) = iI fc := by
    rw [show iI 2 = iI ((2 : Nat) : Int) from rfl, iI_rem (by omega) (by decide)]; congr 2; omega
  rw [e_going100 _ hr _ _ _ _ _ _ _ _ _ h0, e2, e1, e3, e4, inb_ok (by omega) (by omega) (by omega), gb_T, ix_nat (by omega), hn, ix_nat (by omega), inb_ok (by omega) (by omega) (by omega), gb_T, lI_1shl (by omega), lI_1shl (by omega), show lI 0 = lI ((0 : Nat) : Int) from rfl, lI_or, lI_or, lI_or, lI_or]
  rw [show lI ((0 : Nat) : Int) = lI 0 from rfl]
  simp only [gb_T]
  rw [show n ||| (1 <<< (all * 2 + fc) ||| 0) = lrn n (all * 2 + fc) false from rfl, show n ||| (1 <<< (all * 2 + fc) ||| 1 <<< (all * 2 + fc + 32)) = lrn n (all * 2 + fc) true from rfl]
  have lt0 : lrn n (all * 2 + fc) false < 2 ^ 54 := lrn_lt hnb (by omega)
  have lt1 : lrn n (all * 2 + fc) true < 2 ^ 54 := lrn_lt hnb (by omega)
  simp only [tstL (show n < 9223372036854775808 by omega) (show all * 2 + fc < 64 by omega), tstL (show n < 9223372036854775808 by omega) (show all * 2 + fc + 32 < 64 by omega), tstL (show lrn n (all * 2 + fc) false < 9223372036854775808 by omega) (show all * 2 + fc + 32 < 64 by omega), tstL (show lrn n (all * 2 + fc) true < 9223372036854775808 by omega) (show all * 2 + fc + 32 < 64 by omega), some_b]
  by_cases hkn : n.testBit (all * 2 + fc) = false
  · rw [if_pos hkn]
    rw [hkn, Bool.false_and] at hm
    have hq : ∀ X : Mem, Eqx [130] M X → (∀ j, j < 10 → alG j = true → X.1 130 j = uG z t all fc bl j) → ∃ M', (bI (c2 (d + 2) m_Lw_holds [.ref (r + 7), .ref 130] X) fun r2 M1 => if r2 = 0 then some (.int (iI (b2i ((lrn n (all * 2 + fc) false).testBit (all * 2 + fc + 32)))), wL M1 129 (t * 2 + bl) (lI (lrn n (all * 2 + fc) false))) else some (.int (iI (b2i ((lrn n (all * 2 + fc) true).testBit (all * 2 + fc + 32)))), wL M1 129 (t * 2 + bl) (lI (lrn n (all * 2 + fc) true)))) = some (.int (iI (b2i (goV z t all fc bl))), M') ∧ Eqx [129, 130, r + 9] M M' ∧ GoC M' z := by
      intro X hX hj
      have hXR : RoomR X r z := hR.fr (fun a ha => (hX a (ni1 (by have : r ≤ a := by { simp only [roomS, List.mem_cons, List.not_mem_nil, or_false] at ha; omega }; omega))).1)
      obtain ⟨M1, e, hE⟩ := c_Lw_law d (M := X) (wd := uG z t all fc bl) (rm_l7 r hr) hXR.2.2.2.2.2 htold (hz.2.2.2.2 htold) hj
      have hV : goV z t all fc bl = holdsB z 1 (uG z t all fc bl) := if_neg htold
      have hE1 : Eqx [129, 130, r + 9] M M1 := (hX.mono (by simp)).tr (hE.mono (by simp))
      rw [e, bI_some, ← hV]
      simp only [iI_b_eq0]
      rw [lrn_held hm, lrn_held hm]
      refine ⟨wL M1 129 (t * 2 + bl) (lI (lrn n (all * 2 + fc) (goV z t all fc bl))), ?_, eqx_wL hE1 (by simp), ?_⟩
      · cases goV z t all fc bl
        · rw [if_pos rfl]
        · rw [if_neg (by decide)]
      · intro t' bl' ht' hbl'
        by_cases hs : t' * 2 + bl' = t * 2 + bl
        · have ht2 : t' = t := by omega
          have hb2 : bl' = bl := by omega
          subst ht2; subst hb2
          refine ⟨_, gL_eq _ _ _ _, lrn_lt hnb (by omega), ?_⟩
          intro all' fc' ha' hf'
          by_cases hq2 : all' * 2 + fc' = all * 2 + fc
          · have ha2 : all' = all := by omega
            have hf2 : fc' = fc := by omega
            subst ha2; subst hf2
            rw [lrn_held hm, lrn_known, Bool.true_and]
          · rw [lrn_other (by omega) (by omega), lrn_other hq2 (by omega)]
            exact hk all' fc' ha' hf'
        · obtain ⟨n', hn', hb', hk'⟩ := hG t' bl' ht' hbl'
          refine ⟨n', ?_, hb', hk'⟩
          rw [gL_nk hs, eqx_L hE (ni1 (by omega)), eqx_L hX (by decide)]
          exact hn'
    refine hq _ (eqx_wI (eqx_wI (eqx_wI (eqx_wI (eqx_wI Eqx.rf (by decide)) (by decide)) (by decide)) (by decide)) (by decide)) ?_
    intro j hj10 hj
    have hj6 : j ≤ 1 ∨ 7 ≤ j := by
      rcases Bool.or_eq_true_iff.mp hj with h | h
      · exact Or.inl (Nat.le_of_ble_eq_true h)
      · exact Or.inr (Nat.le_of_ble_eq_true h)
    have hk3 : gI (wI (wI (wI (wI M 130 0 (iI bl)) 130 1 (iI t)) 130 7 (iI all)) 130 8 (iI fc)) (r + 3) t = z (21 + t) := by
      rw [gI_na (by omega), gI_na (by omega), gI_na (by omega), gI_na (by omega)]; exact hR.2.2.2.1 t ht
    rw [hk3]
    rcases (show j = 0 ∨ j = 1 ∨ j = 7 ∨ j = 8 ∨ j = 9 by omega) with h | h | h | h | h <;> subst h <;> rfl
  · rw [if_neg hkn]
    rw [eq_true_of_ne_false hkn, Bool.true_and] at hm
    exact ⟨M, by rw [hm], Eqx.rf, hG⟩
