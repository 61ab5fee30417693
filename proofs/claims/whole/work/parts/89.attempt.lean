/-! attempt. -/
def hitW (S : Nat → Bool) (W : Nat → Nat) (v : Nat) : Nat → Bool := fun m => S m && decide (W m = v)
/-- the greatest, by the way -/
def Rn (S : Nat → Bool) (W : Nat → Nat) : Nat → Nat
  | 0 => 0
  | k + 1 => if S k then (if Rn S W k < cnt (hitW S W (W k)) (k + 1) then cnt (hitW S W (W k)) (k + 1) else Rn S W k) else Rn S W k
def Gn (S : Nat → Bool) (W : Nat → Nat) : Nat → Nat
  | 0 => 0
  | k + 1 => if S k then (if Gn S W k < cnt (hitW S W (W k)) 10 then cnt (hitW S W (W k)) 10 else Gn S W k) else Gn S W k
theorem cnt_mono (p : Nat → Bool) (a : Nat) : ∀ b, cnt p a ≤ cnt p (a + b)
  | 0 => Nat.le_refl _
  | b + 1 => by rw [← Nat.add_assoc, cnt]; have := cnt_mono p a b; omega
theorem Rn_ge (S : Nat → Bool) (W : Nat → Nat) : ∀ k v, cnt (hitW S W v) k ≤ Rn S W k
  | 0, _ => Nat.le_refl 0
  | k + 1, v => by
    have ih := Rn_ge S W k v
    rw [Rn]
    cases hs : S k
    · rw [if_neg (by decide), cnt_s, show hitW S W v k = false from by unfold hitW; rw [hs, Bool.false_and], if_neg (by decide)]
      omega
    · rw [if_pos rfl]
      by_cases e : W k = v
      · subst e
        split <;> omega
      · rw [cnt_s, show hitW S W v k = false from by unfold hitW; rw [decide_eq_false e, Bool.and_false], if_neg (by decide)]
        split <;> omega
theorem Rn_le (S : Nat → Bool) (W : Nat → Nat) : ∀ k, k ≤ 10 → Rn S W k ≤ Gn S W k
  | 0, _ => Nat.le_refl 0
  | k + 1, hk => by
    have ih := Rn_le S W k (by omega)
    have m := cnt_mono (hitW S W (W k)) (k + 1) (10 - (k + 1))
    rw [show k + 1 + (10 - (k + 1)) = 10 by omega] at m
    rw [Rn, Gn]
    cases S k
    · rw [if_neg (by decide), if_neg (by decide)]; exact ih
    · rw [if_pos rfl, if_pos rfl]
      split <;> split <;> omega
theorem Gn_le (S : Nat → Bool) (W : Nat → Nat) : ∀ k, Gn S W k ≤ Rn S W 10
  | 0 => Nat.zero_le _
  | k + 1 => by
    have ih := Gn_le S W k
    have a := Rn_ge S W 10 (W k)
    rw [Gn]
    split
    · split <;> omega
    · exact ih
theorem Rn_Gn (S : Nat → Bool) (W : Nat → Nat) : Rn S W 10 = Gn S W 10 := Nat.le_antisymm (Rn_le S W 10 (Nat.le_refl _)) (Gn_le S W 10)
theorem Gn_b (S : Nat → Bool) (W : Nat → Nat) : ∀ k, Gn S W k ≤ 10
  | 0 => Nat.zero_le _
  | k + 1 => by
    have ih := Gn_b S W k
    have a := cnt_le (hitW S W (W k)) 10
    rw [Gn]
    split
    · split <;> omega
    · exact ih
theorem c_RW_mostAlike (d : Nat) {M0 : Mem} {r : Nat} {z : Row} {w who tm st : Nat} {ni : Int32} {set bl : Nat} (hset : set < 1024) (hbl : bl < 2) (hQ : QC M0 r z w who tm ni st) :
    ∃ M', c2 (d + 5) m_RW_mostAlike [.ref 100, .int (iI set), .int (iI bl)] M0 = some (.int (iI (Gn (fun m => set.testBit m) (fun m => wallT z m w who bl) 10)), M') ∧ Eqx (scr r) M0 M' ∧ QC M' r z w who tm ni st := by
  have hz := hQ.okz
  have hrl := hQ.rl
  obtain ⟨S, hS⟩ : ∃ S : Nat → Bool, S = fun m => set.testBit m := ⟨_, rfl⟩
  obtain ⟨W, hW⟩ : ∃ W : Nat → Nat, W = fun m => wallT z m w who bl := ⟨_, rfl⟩
  rw [← hS, ← hW]
  have hWl : ∀ m, W m < 512 := fun m => by rw [hW]; exact wallT_lt hz m w who bl
  have alike : ∀ (v : Nat) (M : Mem), v < 512 → (∀ n, n < 10 → gI M 146 n = iI (if S n then (W n : Int) else -1)) → c2 (d + 4) m_RW_alike [.ref 100, .int (iI v)] M = some (.int (iI (cnt (hitW S W v) 10)), M) := by
    intro v M hv hM
    have go : ∀ j k, j + k = 10 → X2 (d + 3) m_RW_alike 4 [.ref 100, .int (iI v), .int (iI (cnt (hitW S W v) k)), .int (iI k)] [] M = some (.int (iI (cnt (hitW S W v) 10)), M) := by
      intro j
      induction j with
      | zero =>
        intro k hk
        rw [e_RW_alike_4, if_neg (by rw [iI_lt (by omega) (by omega) (by omega) (by omega)]; omega), show k = 10 by omega]
      | succ j ih =>
        intro k hk
        have this := ih (k + 1) (by omega)
        have hs := cnt_s (hitW S W v) k
        have hwk := hWl k
        rw [e_RW_alike_4, if_pos (by rw [iI_lt (by omega) (by omega) (by omega) (by omega)]; omega), inb_ok (by omega) (by omega) (by omega), gb_T, ix_nat (by omega), hM k (by omega), iI_add, iI_add]
        unfold hitW at hs
        cases hsk : S k
        · rw [if_neg (show ¬ ((false : Bool) = true) by decide), if_neg (by rw [iI_eq (by omega) (by omega) (by omega) (by omega)]; omega)]
          rw [hsk, Bool.false_and, if_neg (by decide)] at hs
          unfold hitW at this ⊢
          rw [hs] at this; exact this
        · rw [if_pos rfl]
          rw [hsk, Bool.true_and] at hs
          by_cases e : W k = v
          · rw [if_pos (by rw [e])]
            rw [decide_eq_true e, if_pos rfl] at hs
            unfold hitW at this ⊢
            rw [hs] at this; exact this
          · rw [if_neg (by rw [iI_eq (by omega) (by omega) (by omega) (by omega)]; omega)]
            rw [decide_eq_false e, if_neg (by decide)] at hs
            unfold hitW at this ⊢
            rw [hs] at this; exact this
    show X2 (d + 3) m_RW_alike 0 [.ref 100, .int (iI v), uns, uns] [] M = _
    rw [e_RW_alike_0]
    exact go 10 0 rfl
  have lst : ∀ (j k : Nat) (v1 v2 : Value) (M : Mem), j + k = 10 → (∀ n, n < 10 → gI M 146 n = iI (if S n then (W n : Int) else -1)) → X2 (d + 4) m_RW_mostAlike 57 [.ref 100, v1, v2, .int (iI (Gn S W k)), .int (iI k)] [] M = some (.int (iI (Gn S W 10)), M) := by
    intro j
    induction j with
    | zero =>
      intro k v1 v2 M hk hM
      rw [e_RW_mostAlike_57, if_neg (by rw [iI_lt (by omega) (by omega) (by omega) (by omega)]; omega), show k = 10 by omega]
    | succ j ih =>
      intro k v1 v2 M hk hM
      have this := ih (k + 1) v1 v2 M (by omega) hM
      have hwk := hWl k
      have hg := Gn_b S W k
      have hc := cnt_le (hitW S W (W k)) 10
      rw [e_RW_mostAlike_57, if_pos (by rw [iI_lt (by omega) (by omega) (by omega) (by omega)]; omega), inb_ok (by omega) (by omega) (by omega), gb_T, gb_T, ix_nat (by omega), hM k (by omega), iI_add]
      rw [Gn] at this
      cases hsk : S k
      · rw [hsk, if_neg (by decide)] at this
        rw [if_neg (show ¬ ((false : Bool) = true) by decide), if_pos rfl]
        exact this
      · rw [hsk, if_pos rfl] at this
        rw [if_pos rfl, if_neg (by rw [iI_eq (by omega) (by omega) (by omega) (by omega)]; omega), alike (W k) M hwk hM, bI_some, c_Mat_max _ _ _ (by omega) (by omega) (by omega) (by omega), bI_some]
        have em : (if (Gn S W k : Int) < (cnt (hitW S W (W k)) 10 : Int) then (cnt (hitW S W (W k)) 10 : Int) else (Gn S W k : Int)) = ((if Gn S W k < cnt (hitW S W (W k)) 10 then cnt (hitW S W (W k)) 10 else Gn S W k : Nat) : Int) := by
          split
          · rw [if_pos (by omega)]
          · rw [if_neg (by omega)]
        rw [em]; exact this
  have go : ∀ (j n : Nat) (v4 : Value) (M : Mem), j + n = 10 → Eqx (scr r) M0 M → QC M r z w who tm ni st → (∀ k, k < n → gI M 146 k = iI (if S k then (W k : Int) else -1)) → ∃ M', X2 (d + 4) m_RW_mostAlike 2 [.ref 100, .int (iI set), .int (iI bl), .int (iI n), v4] [] M = some (.int (iI (Gn S W 10)), M') ∧ Eqx (scr r) M0 M' ∧ QC M' r z w who tm ni st := by
    intro j
    induction j with
    | zero =>
      intro n v4 M hn hE hQ hM
      rw [e_RW_mostAlike_2, if_neg (by rw [iI_lt (by omega) (by omega) (by omega) (by omega)]; omega)]
      exact ⟨M, lst 10 0 _ _ M rfl (fun k hk => hM k (by omega)), hE, hQ⟩
    | succ j ih =>
      intro n v4 M hn hE hQ hM
      obtain ⟨⟨tm0, hSt⟩, h5, hN, hO, htm, hwho, hw⟩ := id hQ
      have hSn : S n = set.testBit n := by rw [hS]
      rw [e_RW_mostAlike_2, if_pos (by rw [iI_lt (by omega) (by omega) (by omega) (by omega)]; omega), iI_bit (by omega) (by omega), inb_ok (by omega) (by omega) (by omega), ix_nat (by omega)]
      cases hsn : set.testBit n
      · rw [if_neg (show ¬ ((false : Bool) = true) by decide), if_pos (show iI ((0 : Nat) : Int) = 0 from rfl), gb_T, iI_add]
        have hE2 : Eqx [146] M (wI M 146 n (iI (-1))) := eqx_wI Eqx.rf (by simp)
        refine ih (n + 1) v4 _ (by omega) (hE.tr (hE2.mono (scr_sub (by intro a ha; simp only [List.mem_cons, List.not_mem_nil, or_false] at ha; omega)))) (hQ.fr (hE2.mono (scr_sub (by intro a ha; simp only [List.mem_cons, List.not_mem_nil, or_false] at ha; omega))) (hSt.fq hE2 (by intro a ha; simp only [List.mem_cons, List.not_mem_nil, or_false] at ha; omega))) ?_
        intro k hk
        by_cases e : k = n
        · subst e; rw [gI_eq, hSn, hsn, if_neg (by decide)]
        · rw [gI_nk e]; exact hM k (by omega)
      · obtain ⟨M1, e1, hE1, hS1⟩ := c_Stp_passS d (tm := n) (p := w + 512 * who) (bl := bl) hSt (by omega) (by omega) hbl
        rw [if_pos rfl, if_neg (show ¬ (iI ((1 : Nat) : Int) = 0) by decide), c_Mom_place _ (by decide) hN hw hwho, bI_some, e1, bI_some, gb_T, and511m, pas_wl hz n bl hw, iI_add]
        have hE2 : Eqx (scr r) M (wI M1 146 n (iI (wallT z n w who bl))) := eqx_wI (hE1.mono (scr_sub (by intro a ha; simp only [List.mem_cons, List.not_mem_nil, or_false] at ha; omega))) (scr_mem.mpr (by omega))
        refine ih (n + 1) v4 _ (by omega) (hE.tr hE2) (hQ.fr hE2 (hS1.fq (eqx_wI Eqx.rf (by simp) : Eqx [146] M1 _) (by intro a ha; simp only [List.mem_cons, List.not_mem_nil, or_false] at ha; omega))) ?_
        intro k hk
        by_cases e : k = n
        · subst e; rw [gI_eq, hSn, hsn, if_pos rfl, hW]
        · rw [gI_nk e, eqx_I hE1 (by simp <;> omega)]; exact hM k (by omega)
  show ∃ M', X2 (d + 4) m_RW_mostAlike 0 [.ref 100, .int (iI set), .int (iI bl), uns, uns] [] M0 = _ ∧ _
  rw [e_RW_mostAlike_0]
  exact go 10 0 uns M0 rfl Eqx.rf hQ (fun k hk => absurd hk (Nat.not_lt_zero k))
theorem c_Mo_mostAlike (d : Nat) {M0 : Mem} {z : Row} {w who tm : Nat} {set bl : Nat} (hset : set < 1024) (hQ : QM M0 z w who tm) :
    ∃ M', c2 (d + 6) m_Mo_mostAlike [.ref 197, .int (iI set), .int (iI bl)] M0 = some (.int (iI (Rn (fun m => set.testBit m) (fun m => wallT z m w who bl) 10)), M') ∧ ResM M0 M' := by
  have hz := hQ.2.1
  have hw := hQ.2.2.2.2.2.2.2.2
  have hwho := hQ.2.2.2.2.2.2.2.1
  obtain ⟨S, hS⟩ : ∃ S : Nat → Bool, S = fun m => set.testBit m := ⟨_, rfl⟩
  obtain ⟨W, hW⟩ : ∃ W : Nat → Nat, W = fun m => wallT z m w who bl := ⟨_, rfl⟩
  rw [← hS, ← hW]
  have hWl : ∀ m, W m < 512 := fun m => by rw [hW]; exact wallT_lt hz m w who bl
  have Rb : ∀ k, Rn S W k ≤ k := by
    intro k
    induction k with
    | zero => exact Nat.le_refl 0
    | succ k ih =>
      have a := cnt_le (hitW S W (W k)) (k + 1)
      rw [Rn]; split
      · split <;> omega
      · omega
  have go : ∀ (j m : Nat) (M : Mem) (v : Int32) (v6 : Value), j + m = 10 → TmpM M0 M z v → (∀ u, u < 512 → gI M 212 u = iI (cnt (hitW S W u) m)) → ∃ M', X2 (d + 5) m_Mo_mostAlike 39 [.ref 197, .int (iI set), .int (iI bl), .int (iI tm), .int (iI (Rn S W m)), .int (iI m), v6] [] M = some (.int (iI (Rn S W 10)), M') ∧ ResM M0 M' := by
    intro j
    induction j with
    | zero =>
      intro m M v v6 hm hM hc
      have hp := hM.put (iI tm)
      rw [e_Mo_mostAlike_39, if_pos (by rw [iI_lt (by omega) (by omega) (by omega) (by omega)]; omega), show m = 10 by omega]
      refine ⟨_, rfl, hp.1, ?_, hp.2.2⟩
      rw [hp.2.1, hQ.1, ← hQ.2.2.2.2.1, upr_self]
    | succ j ih =>
      intro m M v v6 hm hM hc
      have hSm : S m = set.testBit m := by rw [hS]
      rw [e_Mo_mostAlike_39, if_neg (by rw [iI_lt (by omega) (by omega) (by omega) (by omega)]; omega), i2l_iI (by omega) (by omega), c_Mo_isIn _ (by omega) (by omega), bI_some]
      have ihm := fun (M' : Mem) (v : Int32) (v6 : Value) => ih (m + 1) M' v v6 (by omega)
      rw [Rn] at ihm
      cases hsm : set.testBit m
      · rw [b2i_f, if_pos (show iI 0 = 0 from rfl), iI_add]
        rw [hSm, hsm, if_neg (by decide)] at ihm
        refine ihm M v v6 hM ?_
        intro u hu
        rw [hc u hu, cnt_s, show hitW S W u m = false from by unfold hitW; rw [hSm, hsm, Bool.false_and], if_neg (by decide)]; rfl
      · have hp := hM.put (iI m)
        have rq := upr_rq z (iI m)
        have h25 : gI M 198 25 = iI w := by rw [gI, hM.2.1, upr_ne (by decide)]; exact hQ.2.2.1
        have h26 : gI M 198 26 = iI who := by rw [gI, hM.2.1, upr_ne (by decide)]; exact hQ.2.2.2.1
        obtain ⟨M1, e1, hE1⟩ := c_Mo_wallThen (d + 1) (M0 := wI M 198 27 (iI m)) (tm := m) (w := w) (who := who) (bl := bl) (by rw [hp.2.1]; exact rq_ok rq hz) (gI_eq _ _ _ _) (by omega) (by omega)
        rw [hp.2.1, rq_wall rq hz, show wallT z m w who bl = W m from by rw [hW]] at e1
        have hM1 := hp.fr hE1 (by intro a ha; simp only [List.mem_cons, List.not_mem_nil, or_false] at ha; omega)
        have hwm := hWl m
        have hcm : gI M1 212 (W m) = iI (cnt (hitW S W (W m)) m) := by rw [eqx_I hE1 (by decide), gI_na (by decide)]; exact hc _ hwm
        have hcs : cnt (hitW S W (W m)) (m + 1) = cnt (hitW S W (W m)) m + 1 := by
          rw [cnt_s, show hitW S W (W m) m = true from by unfold hitW; rw [hSm, hsm, decide_eq_true rfl]; rfl, if_pos rfl]
        have hv : gI M1 212 (W m) + iI 1 = iI (cnt (hitW S W (W m)) (m + 1)) := by rw [hcm, iI_add, hcs]; rfl
        have cb := cnt_le (hitW S W (W m)) (m + 1)
        have rb := Rb m
        have hM2 : TmpM M0 (wI M1 212 (W m) (iI (cnt (hitW S W (W m)) (m + 1)))) z (iI m) := hM1.fr (eqx_wI Eqx.rf (by simp) : Eqx [212] M1 _) (by intro a ha; simp only [List.mem_cons, List.not_mem_nil, or_false] at ha; omega)
        have hc2 : ∀ u, u < 512 → gI (wI M1 212 (W m) (iI (cnt (hitW S W (W m)) (m + 1)))) 212 u = iI (cnt (hitW S W u) (m + 1)) := by
          intro u hu
          by_cases e : u = W m
          · subst e; rw [gI_eq]
          · rw [gI_nk e, eqx_I hE1 (by decide), gI_na (by decide), hc u hu, cnt_s, show hitW S W u m = false from by unfold hitW; rw [decide_eq_false (fun q => e q.symm), Bool.and_false], if_neg (by decide)]; rfl
        rw [hSm, hsm, if_pos rfl] at ihm
        rw [b2i_t, if_neg (show ¬ (iI 1 = 0) by decide), h25, h26, e1, bI_some, inb_ok (by omega) (by omega) (by omega), gb_T, gb_T, gb_T, gb_T, ix_nat (by omega), hv, gI_eq, iI_add]
        by_cases q : Rn S W m < cnt (hitW S W (W m)) (m + 1)
        · rw [if_pos (by rw [iI_lt (by omega) (by omega) (by omega) (by omega)]; omega)]
          rw [if_pos q] at ihm
          exact ihm _ _ _ hM2 hc2
        · rw [if_neg (by rw [iI_lt (by omega) (by omega) (by omega) (by omega)]; omega)]
          rw [if_neg q] at ihm
          exact ihm _ _ _ hM2 hc2
  have clr : ∀ (j k : Nat) (M : Mem), j + k = 512 → TmpM M0 M z (z 27) → (∀ u, u < k → gI M 212 u = iI 0) → ∃ M', X2 (d + 5) m_Mo_mostAlike 14 [.ref 197, .int (iI set), .int (iI bl), .int (iI tm), .int (iI 0), .int (iI k), uns] [] M = some (.int (iI (Rn S W 10)), M') ∧ ResM M0 M' := by
    intro j
    induction j with
    | zero =>
      intro k M hk hM hv
      rw [e_Mo_mostAlike_14, if_neg (by rw [iI_lt (by omega) (by omega) (by omega) (by omega)]; omega)]
      exact go 10 0 M _ uns rfl hM (fun u hu => hv u (by omega))
    | succ j ih =>
      intro k M hk hM hv
      rw [e_Mo_mostAlike_14, if_pos (by rw [iI_lt (by omega) (by omega) (by omega) (by omega)]; omega), inb_ok (by omega) (by omega) (by omega), gb_T, ix_nat (by omega), iI_add]
      refine ih (k + 1) _ (by omega) (hM.fr (eqx_wI Eqx.rf (by simp) : Eqx [212] M _) (by intro a ha; simp only [List.mem_cons, List.not_mem_nil, or_false] at ha; omega)) ?_
      intro u hu
      by_cases e : u = k
      · subst e; rw [gI_eq]
      · rw [gI_nk e]; exact hv u (by omega)
  show ∃ M', X2 (d + 5) m_Mo_mostAlike 0 [.ref 197, .int (iI set), .int (iI bl), uns, uns, uns, uns] [] M0 = _ ∧ _
  rw [e_Mo_mostAlike_0, hQ.tm]
  exact clr 512 0 M0 (by omega) ⟨Eqx.rf, by rw [hQ.1, upr_self], fun _ _ => rfl⟩ (fun u hu => absurd hu (Nat.not_lt_zero u))
theorem p_attempt (z : Row) (w who tm : Nat) (so : Nat → Int) (tn : Nat → Nat) (tv : Nat → Nat → Int64) (x1 x2 : Int32) : PairT m_RW_attempt m_Mo_attempt [.int x1, .int x2] z w who tm so tn tv := by
  intro d M r ni st hQ hTr hst
  have hz := hQ.okz
  have hr := hQ.rm
  have hrl := hQ.rl
  have hR := hQ.room
  have hng := noBl_rng z so tn tv x1.toInt x2.toInt
  obtain ⟨_, h5, hN, hO, htm, hwho, hw⟩ := id hQ
  show ∃ v M' st', X2 (d + 79) m_RW_attempt 0 [.ref 100, .int x1, .int x2, uns, uns] [] M = _ ∧ _
  rw [e_RW_attempt_0, c_RW_refusedTempers _ hr h5 hR hz hTr, bI_some]
  by_cases h0 : noBlI z so tn tv x1.toInt x2.toInt = 0
  · obtain ⟨b0, b1, b2⟩ := noBl_ok h0
    obtain ⟨y1, y2, y3, y4, y5⟩ := noSeen_ok b0
    have r1 := iI_self x1
    have r2 := iI_self x2
    obtain ⟨t, et⟩ := Int.eq_ofNat_of_zero_le y1
    obtain ⟨bs, ebs⟩ := Int.eq_ofNat_of_zero_le b1
    rw [et] at y2 y3 y4 y5 b2 r1
    rw [ebs] at b2 r2
    rw [Int.toNat_natCast] at y3 y4 y5 b2
    have ht : t < 4 := by omega
    obtain ⟨s1, s2⟩ := shl1 y5
    have hbs : bs < 1024 := by omega
    obtain ⟨M1, e1, hE1, hQ1⟩ := c_RW_tempersSeen (d + 73) (bs := bs) ht y3 y5 hbs hQ hTr
    have ref : ∀ v : Int32, (∀ M4, QM M4 z w who tm → ∃ M2', (if iI (maskOf (tset z w who tv t (tn t) bs) 10 : Nat) = 0 then some (.int (iI (-1)), M4) else bI (c2 (d + 79) m_Mo_mostAlike [.ref 197, .int (iI (maskOf (tset z w who tv t (tn t) bs) 10 : Nat)), .int (iI 1)] M4) fun r6 M5 => bI (c2 (d + 79) m_Mo_mostAlike [.ref 197, .int (iI (maskOf (tset z w who tv t (tn t) bs) 10 : Nat)), .int (iI 0)] M5) fun r8 M7 => if r6 < r8 then some (.int (iI 1), M7) else some (.int (iI 0), M7)) = (some (.int v, M2') : Rs Mem) ∧ ResM M4 M2') → ∀ M2, QM M2 z w who tm → TrM M2 so tn tv → ∃ M2', c2 (d + 80) m_Mo_attempt [.ref 197, .int x1, .int x2] M2 = some (.int v, M2') ∧ ResM M2 M2' := by
      intro v hv M3 hM hTM
      have hM1 := hM.res (ResM.thr M3)
      have hTM1 := hTM.res (ResM.thr M3)
      obtain ⟨M4, e4, hR4⟩ := c_Mo_tempersOf (d + 73) (bs := bs) ht y5 hbs hM1 hTM1
      obtain ⟨M5, e5, hR5⟩ := hv M4 (hM1.res hR4)
      show ∃ M2', X2 (d + 79) m_Mo_attempt 0 [.ref 197, .int x1, .int x2, uns, uns] [] M3 = _ ∧ _
      rw [e_Mo_attempt_0, c_Mo_noBlinds _ hM1.okz hTM1, bI_some, hM1.1, h0, if_pos (show iI 0 = 0 from rfl), ← r1, ← r2, e4, bI_some]
      exact ⟨M5, e5, ((ResM.thr M3).tr hR4).tr hR5⟩
    have hml : maskOf (tset z w who tv t (tn t) bs) 10 < 1024 := maskOf_lt _ 10
    generalize maskOf (tset z w who tv t (tn t) bs) 10 = set at *
    rw [if_pos (by rw [h0]; rfl), ← r1, ← r2, ff_inb ht, gb_T, ix_nat (by omega), tr_ref ht, e1, bI_some]
    rw [← r1, ← r2] at ref
    by_cases q : set = 0
    · rw [if_pos (by rw [q]; rfl)]
      refine ⟨_, M1, st, rfl, hE1, hQ1, by omega, ref _ ?_⟩
      intro M4 hM4
      rw [if_pos (by rw [q]; rfl)]
      exact ⟨M4, rfl, ResM.rf⟩
    · have n0 : ¬ (iI (set : Int) = 0) := by rw [iI_eq0 (by omega) (by omega)]; omega
      obtain ⟨M2, e2, hE2, hQ2⟩ := c_RW_mostAlike (d + 74) (set := set) (bl := 1) hml (by decide) hQ1
      obtain ⟨M3, e3, hE3, hQ3⟩ := c_RW_mostAlike (d + 74) (set := set) (bl := 0) hml (by decide) hQ2
      have e2' : c2 (d + 79) m_RW_mostAlike [.ref 100, .int (iI set), .int (iI 1)] M1 = _ := e2
      have e3' : c2 (d + 79) m_RW_mostAlike [.ref 100, .int (iI set), .int (iI 0)] M2 = _ := e3
      rw [if_neg n0, e2', bI_some, e3', bI_some]
      have key : ∃ v : Int32, (∀ Mx : Mem, (if iI (Gn (fun m => set.testBit m) (fun m => wallT z m w who 1) 10 : Nat) < iI (Gn (fun m => set.testBit m) (fun m => wallT z m w who 0) 10 : Nat) then some (.int (iI 1), Mx) else some (.int (iI 0), Mx)) = (some (.int v, Mx) : Rs Mem)) := by
        by_cases x : iI (Gn (fun m => set.testBit m) (fun m => wallT z m w who 1) 10 : Nat) < iI (Gn (fun m => set.testBit m) (fun m => wallT z m w who 0) 10 : Nat)
        · exact ⟨iI 1, fun Mx => by rw [if_pos x]⟩
        · exact ⟨iI 0, fun Mx => by rw [if_neg x]⟩
      obtain ⟨v, hv⟩ := key
      refine ⟨v, M3, st, hv M3, (hE1.tr hE2).tr hE3, hQ3, by omega, ref v ?_⟩
      intro M4 hM4
      obtain ⟨M5, e5, hR5⟩ := c_Mo_mostAlike (d + 73) (set := set) (bl := 1) hml hM4
      obtain ⟨M6, e6, hR6⟩ := c_Mo_mostAlike (d + 73) (set := set) (bl := 0) hml (hM4.res hR5)
      have e5' : c2 (d + 79) m_Mo_mostAlike [.ref 197, .int (iI set), .int (iI 1)] M4 = _ := e5
      have e6' : c2 (d + 79) m_Mo_mostAlike [.ref 197, .int (iI set), .int (iI 0)] M5 = _ := e6
      rw [if_neg n0, e5', bI_some, e6', bI_some, Rn_Gn, Rn_Gn]
      exact ⟨M6, hv M6, hR5.tr hR6⟩
  · rw [if_neg (by rw [iI_eq0 (by omega) (by omega)]; exact h0)]
    refine ⟨_, M, st, rfl, Eqx.rf, hQ, by omega, ?_⟩
    intro M3 hM hTM
    have hM1 := hM.res (ResM.thr M3)
    have hTM1 := hTM.res (ResM.thr M3)
    show ∃ M2', X2 (d + 79) m_Mo_attempt 0 [.ref 197, .int x1, .int x2, uns, uns] [] M3 = _ ∧ _
    rw [e_Mo_attempt_0, c_Mo_noBlinds _ hM1.okz hTM1, bI_some, hM1.1, if_neg (by rw [iI_eq0 (by omega) (by omega)]; exact h0)]
    exact ⟨_, rfl, ResM.thr M3⟩
