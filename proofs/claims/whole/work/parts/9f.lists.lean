/-! write, lists. -/
def cutV (s : Int) (v : Int64) : Int64 := if s = 0 then ((v.toInt32).toInt8.toInt32).toInt64 else if s = 1 then ((v.toInt32).toInt16.toInt32).toInt64 else if s = 2 then (v.toInt32).toInt64 else v
def tvP (tv : Nat → Nat → Int64) (t k : Nat) (v : Int64) : Nat → Nat → Int64 := fun u j => if u = t ∧ j = k then v else tv u j
theorem s_c3 {s : Int} (h1 : -1 ≤ s) (h2 : s ≤ 3) : ((iI s = iI 0) = (s = 0)) ∧ ((iI s = iI 1) = (s = 1)) ∧ ((iI s = iI 2) = (s = 2)) := by
  refine ⟨?_, ?_, ?_⟩ <;> rw [iI_eq (by omega) (by omega) (by omega) (by omega)]
theorem c_Tray_put (d : Nat) {M : Mem} {so : Nat → Int} {tn : Nat → Nat} {tv : Nat → Nat → Int64} (h : TrC M so tn tv) {t k : Nat} (ht : t < 4) (hs : so t ≠ -1) (hk : k < tn t) (v : Int64) : c2 (d + 1) m_Tray_put [.ref (189 + 2 * t), .int (iI k), .long v] M = some (.null, wL M (190 + 2 * t) k (cutV (so t) v)) := by
  show X2 d m_Tray_put 0 [.ref (189 + 2 * t), .int (iI k), .long v, mk2] [] M = _
  obtain ⟨a, b, c, e, f⟩ := h t ht
  obtain ⟨b1, b2, b3⟩ := b hs
  obtain ⟨c0, c1, c2'⟩ := s_c3 c e
  rw [e_Tray_put_0, if_neg (by rw [iI_lt0 (by omega) (by omega)]; omega), tr_k ht, gb_T, gb_T, b2, if_pos (by rw [iI_lt (by omega) (by omega) (by omega) (by omega)]; omega), b1, tr_v ht, tr_at ht, inb_ok (by omega) (by omega) (by omega), ix_nat (by omega)]
  simp only [gb_T, c0, c1, c2']
  unfold cutV
  split
  · rfl
  · split
    · rfl
    · split <;> rfl
theorem c_Mo_cut (d : Nat) {s : Int} (h1 : -1 ≤ s) (h2 : s ≤ 3) (v : Int64) (M : Mem) : c2 (d + 1) m_Mo_cut [.long v, .int (iI s)] M = some (.long (cutV s v), M) := by
  show X2 d m_Mo_cut 0 [.long v, mk2, .int (iI s)] [] M = _
  obtain ⟨c0, c1, c2'⟩ := s_c3 h1 h2
  have c0' : (iI s = 0) = (s = 0) := c0
  rw [e_Mo_cut_0]
  simp only [c0', c1, c2']
  unfold cutV
  split
  · rfl
  · split
    · rfl
    · split <;> rfl
theorem TrC.put {M : Mem} {so : Nat → Int} {tn : Nat → Nat} {tv : Nat → Nat → Int64} (h : TrC M so tn tv) {t : Nat} (k : Nat) (v : Int64) : TrC (wL M (190 + 2 * t) k v) so tn (tvP tv t k v) := by
  intro u hu
  obtain ⟨a, b, c⟩ := h u hu
  refine ⟨a, fun w => ⟨(b w).1, (b w).2.1, fun j hj => ?_⟩, c⟩
  rw [gL_wL]
  unfold tvP
  by_cases q : u = t
  · rw [if_pos (by omega)]
    by_cases q2 : j = k
    · rw [if_pos q2, if_pos ⟨q, q2⟩]
    · rw [if_neg q2, if_neg (fun x => q2 x.2)]; exact (b w).2.2 j hj
  · rw [if_neg (by omega), if_neg (fun x => q x.1)]; exact (b w).2.2 j hj
theorem TrM.put {M : Mem} {so : Nat → Int} {tn : Nat → Nat} {tv : Nat → Nat → Int64} (h : TrM M so tn tv) {t k : Nat} (hk : k < 40) (v : Int64) : TrM (wL M 215 (40 * t + k) v) so tn (tvP tv t k v) := by
  intro u hu
  obtain ⟨a, b, c, e⟩ := h u hu
  refine ⟨a, b, fun j hj => ?_, e⟩
  rw [gL_wL, if_pos rfl]
  unfold tvP
  by_cases q : u = t ∧ j = k
  · rw [if_pos (by omega), if_pos q]
  · rw [if_neg (by omega), if_neg q]; exact c j hj
/-- one call of both that answers a long -/
def StepL (mc mm : MD) (as : List Value) : Prop := ∀ d M b, Rel M b → b < 99990 → ∃ v M1 M2, c2 (d + 80) mc (.ref 100 :: as) M = some (.long v, M1) ∧ c2 (d + 80) mm (.ref 197 :: as) M1 = some (.long v, M2) ∧ Rel M2 (b + 1) ∧ Keep M M2
theorem s_write (x1 x2 : Int32) (v : Int64) : StepL m_RW_write m_Mo_write [.int x1, .int x2, .long v] := by
  intro d M b hRel hb
  have hRel0 := hRel
  obtain ⟨r, tm0, st, nx, nd, m, f, so, tn, tv, z, hS, hst, h5, hm, okm, rq, hmo, hpc, hpm, hof, hrest⟩ := hRel
  have fin := fin_same hRel0 (Eqx.rf : Eqx [] M M) (fun a ha => absurd ha (List.not_mem_nil)) (eqx_wI Eqx.rf (by simp) : Eqx [197] M (wI M 197 0 (iI 0))) (by intro a ha; simp only [List.mem_cons, List.not_mem_nil, or_false] at ha; omega) (fun k hk => by rw [gI_nk (by omega)]) (wI_na (by decide))
  obtain ⟨hTC, hTM, _⟩ := id hrest
  have hTM1 : ∀ M1 : Mem, M1.1 213 = M.1 213 → M1.1 214 = M.1 214 → M1.2.1 215 = M.2.1 215 → TrM (wI M1 197 0 (iI 0)) so tn tv := fun M1 h1 h2 h3 => hTM.fr ((wI_na (by decide)).trans h1) ((wI_na (by decide)).trans h2) h3
  obtain ⟨x, rfl, xa, xb⟩ := iI_ex x1
  obtain ⟨k, rfl, ka, kb⟩ := iI_ex x2
  have ec : c2 (d + 80) m_RW_write [.ref 100, .int (iI x), .int (iI k), .long v] M = _ := e_RW_write_0 (d + 79) (iI x) (iI k) v M
  have em : ∀ M1, c2 (d + 80) m_Mo_write [.ref 197, .int (iI x), .int (iI k), .long v] M1 = _ := fun M1 => e_Mo_write_0 (d + 79) (iI x) (iI k) v M1
  rw [c_RW_isTray, bI_some, iI_toInt xa xb] at ec
  rcases tray3 so x with ⟨h1, h2⟩ | ⟨t, rfl, ht, ⟨h1, h2⟩ | ⟨h1, h2⟩⟩
  · have em1 := em M
    rw [c_Mo_noTray _ (hTM1 M rfl rfl rfl), bI_some, iI_toInt xa xb, h2, if_neg (show ¬ (iI (-2) = 0) by decide)] at em1
    rw [decide_eq_false h1, b2i_f, if_pos (show iI 0 = 0 from rfl)] at ec
    exact ⟨_, _, _, ec, em1, fin⟩
  · have em1 := em M
    rw [c_Mo_noTray _ (hTM1 M rfl rfl rfl), bI_some, iI_toInt xa xb, h2, if_neg (show ¬ (iI (-6) = 0) by decide)] at em1
    rw [decide_eq_true (show (0 : Int) ≤ t ∧ (t : Int) < 4 by omega), b2i_t, if_neg (show ¬ (iI 1 = 0) by decide), ff_inb ht, gb_T, ix_nat (by omega), tr_ref ht, tr_k ht, gb_T, (hTC t ht).1, if_pos h1, if_neg (show ¬ (iI 1 = 0) by decide)] at ec
    exact ⟨_, _, _, ec, em1, fin⟩
  · obtain ⟨a, bb', c, e, f'⟩ := hTC t ht
    obtain ⟨b1, b2, b3⟩ := bb' h1
    rw [decide_eq_true (show (0 : Int) ≤ t ∧ (t : Int) < 4 by omega), b2i_t, if_neg (show ¬ (iI 1 = 0) by decide), ff_inb ht, gb_T, ix_nat (by omega), tr_ref ht, tr_k ht, gb_T, a, if_neg h1, if_pos (show iI 0 = 0 from rfl), gb_T, gb_T, b2] at ec
    have em1 : ∀ M1 : Mem, M1.1 213 = M.1 213 → M1.1 214 = M.1 214 → M1.2.1 215 = M.2.1 215 → _ := fun M1 q1 q2 q3 => by
      have e1 := em M1
      have hT1 := hTM1 M1 q1 q2 q3
      rw [c_Mo_noTray _ hT1, bI_some, iI_toInt xa xb, h2, if_pos (show iI 0 = 0 from rfl), inb_ok (by omega) (by omega) (by omega), gb_T, ix_nat (by omega), (hT1 t ht).2.1, iI_sub, c_Mo_within, bI_some, i2l_iI ka kb, i2l_iI (by omega) (by omega), lI_toInt (by omega) (by omega), lI_toInt (by omega) (by omega), lI_toInt (by omega) (by omega), gb_T, (hT1 t ht).1, c_Mo_cut _ c e, bL_some] at e1
      exact e1
    by_cases hk : 0 ≤ k ∧ k < tn t
    · obtain ⟨k, rfl⟩ := Int.eq_ofNat_of_zero_le hk.1
      let A := wL M (190 + 2 * t) k (cutV (so t) v)
      have hTA : TrC A so tn (tvP tv t k (cutV (so t) v)) := hTC.put k _
      have at1 := c_Tray_at (d + 78) hTA ht h1 (show k < tn t by omega)
      rw [if_neg (by rw [iI_lt0 (by omega) (by omega)]; omega), if_pos (by rw [iI_lt (by omega) (by omega) (by omega) (by omega)]; omega), tt_and, gb_T, c_Tray_put _ hTC ht h1 (by omega), bV_some, gb_T, tr_ref ht, tr_k ht, tt_and, gb_T, at1, bL_some, show tvP tv t k (cutV (so t) v) t k = cutV (so t) v from if_pos ⟨rfl, rfl⟩] at ec
      have hEA : Eqx [190 + 2 * t] M A := eqx_wL Eqx.rf (by simp)
      have n15 : 215 ∉ [190 + 2 * t] := by simp only [List.mem_cons, List.not_mem_nil, or_false]; omega
      have em2 := em1 A rfl rfl (hEA 215 n15).2.1
      rw [decide_eq_true (show (0 : Int) ≤ k ∧ (k : Int) ≤ (tn t : Int) - 1 by omega), b2i_t, if_neg (show ¬ (iI 1 = 0) by decide), ix40 ht (by omega), inb_ok (by omega) (by omega) (by omega), gb_T, gb_T, ix_nat (by omega), gL_eq] at em2
      have hE2 : Eqx [197, 215] A (wL (wI A 197 0 (iI 0)) 215 (40 * t + k) (cutV (so t) v)) := eqx_wL (eqx_wI Eqx.rf (by simp)) (by simp)
      have hE : Eqx [190 + 2 * t, 197, 215] M (wL (wI A 197 0 (iI 0)) 215 (40 * t + k) (cutV (so t) v)) := (hEA.mono (by simp)).tr (hE2.mono (by simp))
      have mm : ∀ a, a ∈ [190 + 2 * t, 197, 215] → okT a ∧ 186 < a := fun a ha => by
        simp only [List.mem_cons, List.not_mem_nil, or_false] at ha
        unfold okT; omega
      refine ⟨_, _, _, ec, em2, fin_tray (so' := so) (tn' := tn) (tv' := tvP tv t k (cutV (so t) v)) (b := b + 1) h5 hm okm rq hmo hpc hpm hof hrest hE (fun a ha => (mm a ha).1) ?_ (hS.fq hE (fun a ha => by have := (mm a ha).2; omega)) (by omega) (hTA.fr hE2 (by intro a ha; simp only [List.mem_cons, List.not_mem_nil, or_false] at ha; omega)) ((hTM1 A rfl rfl (hEA 215 n15).2.1).put (by omega) _)⟩
      intro j hj
      show gI (wI A 197 0 _) 197 j = _
      rw [gI_nk (by omega)]; rfl
    · have em2 := em1 M rfl rfl rfl
      rw [decide_eq_false (show ¬ ((0 : Int) ≤ k ∧ k ≤ (tn t : Int) - 1) by omega), b2i_f, if_pos (show iI 0 = 0 from rfl)] at em2
      by_cases q : k < 0
      · rw [if_pos (by rw [iI_lt0 ka kb]; exact q)] at ec
        exact ⟨_, _, _, ec, em2, fin⟩
      · rw [if_neg (by rw [iI_lt0 ka kb]; exact q), if_neg (by rw [iI_lt ka kb (by omega) (by omega)]; omega)] at ec
        exact ⟨_, _, _, ec, em2, fin⟩
