/-! numbers, write. -/
theorem ImgR.fr3 {M M' : Mem} {z z' : Row} {S : List Nat} (h : ImgR M z) (hE : Eqx S M M') (hS : ∀ a, a ∈ S → a < 109 ∨ (109 < a ∧ a < 147) ∨ (147 ≤ a ∧ a < 187 ∧ (a % 10 = 3 ∨ a % 10 = 6)) ∨ (188 < a ∧ a ≠ 199)) (hz : ∀ k, 971 ≤ k → z' k = z k) : ImgR M' z' := by
  have e : ∀ i, zim z' i = zim z i := fun i => by funext k; exact hz _ (by omega)
  have n : ∀ b, ¬ (b < 109 ∨ (109 < b ∧ b < 147) ∨ (147 ≤ b ∧ b < 187 ∧ (b % 10 = 3 ∨ b % 10 = 6)) ∨ (188 < b ∧ b ≠ 199)) → b ∉ S := fun b hb q => hb (hS b q)
  intro i hi
  have n199 : 199 ∉ S := n _ (by omega)
  have n109 : 109 ∉ S := n _ (by omega)
  rw [e i, eqx_I hE n199, eqx_R hE n109]
  rcases h i hi with q | ⟨q1, ri, m, q2, q3, q4, q5, q6, q7, q8⟩
  · exact Or.inl q
  · refine Or.inr ⟨q1, ri, m, q2, q3, q4.fr (fun a ha => (hE a (n _ ?_)).1), q5, q6.fr (hE (187 + i) (n _ (by omega))).1, q7, q8⟩
    have h1 := roomS_ge ha
    have h2 := rm_mod q2
    omega
def okT (a : Nat) : Prop := (126 < a ∧ a < 147) ∨ (147 ≤ a ∧ a < 187 ∧ (a % 10 = 3 ∨ a % 10 = 6)) ∨ (188 < a ∧ a < 198) ∨ 201 < a
theorem fin_tray {M M2 : Mem} {b r st' tm' nx nd : Nat} {m : Mo} {f : Nat → Mo} {so so' : Nat → Int} {tn tn' : Nat → Nat} {tv tv' : Nat → Nat → Int64} {z : Row} {S : List Nat}
    (h5 : gR M 100 5 = r) (hm : MoC M 111 m) (okm : OkM z m) (rq : RowEq z (M.1 198)) (hmo : momAt (M.1 198) 25 m) (hpc : PastC M nx nd f) (hpm : PastM (M.1 198) nd f) (hof : ∀ j, j < nd → OkM z (f j)) (hrest : Rest M (M.1 198) so tn tv)
    (hE : Eqx S M M2) (hS : ∀ a, a ∈ S → okT a) (h7 : Eq7 M M2) (hSt : StepsC M2 r z tm' st') (hst : st' ≤ b) (hC : TrC M2 so' tn' tv') (hT : TrM M2 so' tn' tv') : Rel M2 b ∧ Keep M M2 := by
  have n : ∀ a, ¬ okT a → a ∉ S := fun a h q => h (hS a q)
  have x198 : M2.1 198 = M.1 198 := (hE 198 (n _ (by unfold okT; omega))).1
  obtain ⟨-, -, hI, ⟨t, t1, t2, t3, t4⟩, hF1, hF2⟩ := hrest
  refine ⟨⟨r, tm', st', nx, nd, m, f, so', tn', tv', z, hSt, hst, (eqx_R hE (n _ (by unfold okT; omega)) 5).trans h5, hm.fr (hE 111 (n _ (by unfold okT; omega))).1, okm, by rw [x198]; exact rq, by rw [x198]; exact hmo, hpc.fr hE (fun a ha => by have := hS a ha; unfold okT at this; omega), by rw [x198]; exact hpm, hof, hC, hT, ?_, ?_, ?_⟩, (hE 0 (n _ (by unfold okT; omega))).1, (hE 1 (n _ (by unfold okT; omega))).1⟩
  · rw [x198]; exact hI.fr3 hE (fun a ha => by have := hS a ha; unfold okT at this; omega) (fun _ _ => rfl)
  · refine ⟨t, (eqx_I hE (n _ (by unfold okT; omega)) 1).trans t1, (h7 5 (by omega)).trans t2, t3, fun k hk => ?_⟩
    rw [eqx_I hE (n _ (by unfold okT; omega)), eqx_I hE (n _ (by unfold okT; omega))]
    exact t4 k hk
  · exact ⟨((eqx_I hE (n _ (by unfold okT; omega)) 11).trans hF1).trans (h7 13 (by omega)).symm, ((eqx_I hE (n _ (by unfold okT; omega)) 12).trans hF2).trans (h7 14 (by omega)).symm⟩
theorem tr_sh {t : Nat} (h : t < 4) : sh0 (190 + 2 * t) = (43, 40) := by
  rcases tr4 h with q | q | q | q <;> subst q <;> rfl
/-- a tray begun -/
def soB1 (so : Nat → Int) (t : Nat) (s : Int) : Nat → Int := fun u => if u = t then s else so u
def tnB (tn : Nat → Nat) (t n : Nat) : Nat → Nat := fun u => if u = t then n else tn u
def tvB (tv : Nat → Nat → Int64) (t n : Nat) : Nat → Nat → Int64 := fun u k => if u = t ∧ k < n then lI 0 else tv u k
theorem s_numbers (x1 x2 x3 : Int32) : Step m_RW_numbers m_Mo_numbers [.int x1, .int x2, .int x3] := by
  intro d M b hRel hb
  have hRel0 := hRel
  obtain ⟨r, tm0, st, nx, nd, m, f, so, tn, tv, z, hS, hst, h5, hm, okm, rq, hmo, hpc, hpm, hof, hrest⟩ := hRel
  have fin := fin_same hRel0 (Eqx.rf : Eqx [] M M) (fun a ha => absurd ha (List.not_mem_nil)) (eqx_wI Eqx.rf (by simp) : Eqx [197] M (wI M 197 0 (iI 0))) (by intro a ha; simp only [List.mem_cons, List.not_mem_nil, or_false] at ha; omega) (fun k hk => by rw [gI_nk (by omega)]) (wI_na (by decide))
  obtain ⟨hTC, hTM, _⟩ := id hrest
  obtain ⟨x, rfl, xa, xb⟩ := iI_ex x1
  obtain ⟨s, rfl, sa, sb⟩ := iI_ex x2
  obtain ⟨n, rfl, na, nb⟩ := iI_ex x3
  have ec : c2 (d + 80) m_RW_numbers [.ref 100, .int (iI x), .int (iI s), .int (iI n)] M = _ := e_RW_numbers_0 (d + 79) (iI x) (iI s) (iI n) M
  have em : ∀ M1, c2 (d + 80) m_Mo_numbers [.ref 197, .int (iI x), .int (iI s), .int (iI n)] M1 = _ := fun M1 => e_Mo_numbers_0 (d + 79) (iI x) (iI s) (iI n) M1
  rw [c_RW_isTray, bI_some, iI_toInt xa xb] at ec
  have em2 := fun M1 => em M1
  simp only [c_Mo_within, bI_some, i2l_iI xa xb, i2l_iI sa sb, i2l_iI na nb, lI_toInt (show (-9223372036854775808 : Int) ≤ 0 by decide) (show (0 : Int) ≤ 9223372036854775807 by decide), lI_toInt (show (-9223372036854775808 : Int) ≤ 3 by decide) (show (3 : Int) ≤ 9223372036854775807 by decide), lI_toInt (show (-9223372036854775808 : Int) ≤ 40 by decide) (show (40 : Int) ≤ 9223372036854775807 by decide), lI_toInt (show -9223372036854775808 ≤ x by omega) (show x ≤ 9223372036854775807 by omega), lI_toInt (show -9223372036854775808 ≤ s by omega) (show s ≤ 9223372036854775807 by omega), lI_toInt (show -9223372036854775808 ≤ n by omega) (show n ≤ 9223372036854775807 by omega)] at em2
  by_cases hx : 0 ≤ x ∧ x < 4
  · have hx' : 0 ≤ x ∧ x ≤ 3 := by omega
    simp only [decide_eq_true hx', b2i_t, if_neg (show ¬ (iI 1 = 0) by decide)] at em2
    rw [decide_eq_true hx, b2i_t, if_neg (show ¬ (iI 1 = 0) by decide)] at ec
    by_cases hs : 0 ≤ s ∧ s ≤ 3
    · simp only [decide_eq_true hs, b2i_t, if_neg (show ¬ (iI 1 = 0) by decide)] at em2
      rw [if_neg (by rw [iI_lt0 sa sb]; omega), if_neg (by rw [iI_lt (by omega) (by omega) sa sb]; omega)] at ec
      by_cases hn : 0 ≤ n ∧ n ≤ 40
      · simp only [decide_eq_true hn, b2i_t, if_neg (show ¬ (iI 1 = 0) by decide)] at em2
        rw [if_neg (by rw [iI_lt0 na nb]; omega), if_neg (by rw [iI_lt (by omega) (by omega) na nb]; omega)] at ec
        obtain ⟨t, rfl⟩ := Int.eq_ofNat_of_zero_le hx.1
        obtain ⟨n, rfl⟩ := Int.eq_ofNat_of_zero_le hn.1
        have ht : t < 4 := by omega
        -- the class
        let A := wI (wI (wI M (189 + 2 * t) 1 (iI s)) (189 + 2 * t) 2 (iI n)) (189 + 2 * t) 3 (iI 0)
        obtain ⟨M1, e1, hE1, f1, i1, j1⟩ := c_Arr_fillJ (d + 77) (M0 := A) (tr_sh ht) (by decide) (lI 0)
        have eb : c2 (d + 79) m_Tray_begin [.ref (189 + 2 * t), .int (iI s), .int (iI n)] M = some (.null, M1) := by
          show X2 (d + 78) m_Tray_begin 0 [.ref (189 + 2 * t), .int (iI s), .int (iI n)] [] M = _
          rw [e_Tray_begin_0, tr_k ht, gb_T, c_Mat_min _ _ _ (by omega) (by omega) (by omega) (by omega), bI_some, if_neg (by omega), c_Mat_max _ _ _ (by omega) (by omega) (by omega) (by omega), bI_some, show (if (0 : Int) < (n : Int) then (n : Int) else 0) = (n : Int) by split <;> omega, tr_k ht, gb_T, tr_k ht, gb_T, tr_k ht, gb_T, tr_v ht]
          show bV (c2 (d + 78) m_Arr_fillJ [.ref (190 + 2 * t), .long (lI 0)] A) _ = _
          rw [e1, bV_some]
        rw [ff_inb ht, gb_T, ix_nat (by omega), tr_ref ht, tr_k ht, tt_and, gb_T, eb, bV_some] at ec
        have hEc : Eqx [189 + 2 * t, 190 + 2 * t] M M1 := (eqx_wI (eqx_wI (eqx_wI Eqx.rf (by simp)) (by simp)) (by simp)).tr (hE1.mono (by simp))
        -- the reference
        let B := wI (wI (wI M1 197 0 (iI 0)) 213 t (iI s)) 214 t (iI n)
        have lp : ∀ (j k : Nat) (M' : Mem), j + k = n → Eqx [215] B M' → M'.1 = B.1 → (∀ q, gL M' 215 q = if 40 * t ≤ q ∧ q < 40 * t + k then lI 0 else gL B 215 q) → ∃ M2, X2 (d + 79) m_Mo_numbers 64 [.ref 197, .int (iI t), .int (iI s), .int (iI n), .int (iI k)] [] M' = some (.int (iI 0), M2) ∧ Eqx [215] B M2 ∧ (∀ q, gL M2 215 q = if 40 * t ≤ q ∧ q < 40 * t + n then lI 0 else gL B 215 q) := by
          intro j
          induction j with
          | zero =>
            intro k M' hk hE hi hv
            have hk' : k = n := by omega
            subst hk'
            rw [e_Mo_numbers_64, if_neg (by rw [iI_lt (by omega) (by omega) (by omega) (by omega)]; omega)]
            exact ⟨M', rfl, hE, hv⟩
          | succ j ih =>
            intro k M' hk hE hi hv
            rw [e_Mo_numbers_64, if_pos (by rw [iI_lt (by omega) (by omega) (by omega) (by omega)]; omega), ix40 ht (by omega), inb_ok (by omega) (by omega) (by omega), gb_T, ix_nat (by omega), iI_add]
            refine ih (k + 1) _ (by omega) (eqx_wL hE (by simp)) hi ?_
            intro q
            rw [gL_wL, if_pos rfl, hv]
            by_cases q1 : q = 40 * t + k
            · rw [if_pos q1, if_pos (by omega)]
            · rw [if_neg q1]
              by_cases q2 : 40 * t ≤ q ∧ q < 40 * t + k
              · rw [if_pos q2, if_pos (by omega)]
              · rw [if_neg q2, if_neg (by omega)]
        obtain ⟨M2, e2, hE2, v2⟩ := lp n 0 B (by omega) Eqx.rf rfl (fun q => (if_neg (by omega)).symm)
        have em3 := em2 M1
        rw [inb_ok (by omega) (by omega) (by omega), gb_T, gb_T, ix_nat (by omega)] at em3
        have em4 : c2 (d + 80) m_Mo_numbers [.ref 197, .int (iI t), .int (iI s), .int (iI n)] M1 = some (.int (iI 0), M2) := em3.trans e2
        have hEB : Eqx [197, 213, 214] M1 B := eqx_wI (eqx_wI (eqx_wI Eqx.rf (by simp)) (by simp)) (by simp)
        have hEr : Eqx [197, 213, 214, 215] M1 M2 := (hEB.mono (by simp)).tr (hE2.mono (by simp))
        have hE : Eqx [189 + 2 * t, 190 + 2 * t, 197, 213, 214, 215] M M2 := (hEc.mono (by simp)).tr (hEr.mono (by simp))
        have h7 : Eq7 M M2 := fun k hk => by
          rw [eqx_I hE2 (by decide)]
          show gI (wI (wI (wI M1 197 0 _) 213 t _) 214 t _) 197 k = _
          rw [gI_na (by decide), gI_na (by decide), gI_nk (by omega), eqx_I hEc (by simp only [List.mem_cons, List.not_mem_nil, or_false]; omega)]
        have mm : ∀ a, a ∈ [189 + 2 * t, 190 + 2 * t, 197, 213, 214, 215] → okT a ∧ 186 < a := fun a ha => by
          simp only [List.mem_cons, List.not_mem_nil, or_false] at ha
          unfold okT; omega
        refine ⟨_, M1, M2, ec, em4, fin_tray (so' := soB1 so t s) (tn' := tnB tn t n) (tv' := tvB tv t n) (b := b + 1) h5 hm okm rq hmo hpc hpm hof hrest hE (fun a ha => (mm a ha).1) h7 (hS.fq hE (fun a ha => by have := (mm a ha).2; omega)) (by omega) ?_ ?_⟩
        · intro u hu
          have o := hTC u hu
          have gg : ∀ k, gI M2 (189 + 2 * u) k = gI M1 (189 + 2 * u) k := fun k => eqx_I hEr (by simp only [List.mem_cons, List.not_mem_nil, or_false]; omega) k
          have gl : ∀ k, gL M2 (190 + 2 * u) k = gL M1 (190 + 2 * u) k := fun k => eqx_L hEr (by simp only [List.mem_cons, List.not_mem_nil, or_false]; omega) k
          unfold soB1 tnB tvB
          by_cases q : u = t
          · subst q
            simp only [eq_self, if_true, true_and]
            have g : ∀ k, gI M2 (189 + 2 * u) k = gI A (189 + 2 * u) k := fun k => by rw [gg, gI, i1]; rfl
            refine ⟨?_, fun _ => ⟨?_, ?_, fun k hk => ?_⟩, by omega, by omega, by omega⟩
            · rw [g, if_neg (by omega)]; exact gI_eq _ _ _ _
            · rw [g]
              show gI (wI (wI (wI M _ 1 _) _ 2 _) _ 3 _) (189 + 2 * u) 1 = _
              rw [gI_nk (by decide), gI_nk (by decide), gI_eq]
            · rw [g]
              show gI (wI (wI (wI M _ 1 _) _ 2 _) _ 3 _) (189 + 2 * u) 2 = _
              rw [gI_nk (by decide), gI_eq]
            · rw [gl, if_pos hk]; exact f1 k (by omega)
          · have n1 : 189 + 2 * u ∉ [189 + 2 * t, 190 + 2 * t] := by simp only [List.mem_cons, List.not_mem_nil, or_false]; omega
            have n2 : 190 + 2 * u ∉ [189 + 2 * t, 190 + 2 * t] := by simp only [List.mem_cons, List.not_mem_nil, or_false]; omega
            simp only [if_neg q, q, false_and, if_false]
            rw [gg, gg, gg, eqx_I hEc n1, eqx_I hEc n1, eqx_I hEc n1]
            refine ⟨o.1, fun w => ⟨(o.2.1 w).1, (o.2.1 w).2.1, fun k hk => ?_⟩, o.2.2⟩
            rw [gl, eqx_L hEc n2]; exact (o.2.1 w).2.2 k hk
        · intro u hu
          have o := hTM u hu
          have g13 : gI M2 213 u = if u = t then iI s else gI M 213 u := by
            rw [eqx_I hE2 (by decide)]
            show gI (wI (wI (wI M1 197 0 _) 213 t _) 214 t _) 213 u = _
            rw [gI_na (by decide), gI_wI, if_pos rfl, gI_na (by decide), eqx_I hEc (by simp only [List.mem_cons, List.not_mem_nil, or_false]; omega)]
          have g14 : gI M2 214 u = if u = t then iI n else gI M 214 u := by
            rw [eqx_I hE2 (by decide)]
            show gI (wI (wI (wI M1 197 0 _) 213 t _) 214 t _) 214 u = _
            rw [gI_wI, if_pos rfl, gI_na (by decide), gI_na (by decide), eqx_I hEc (by simp only [List.mem_cons, List.not_mem_nil, or_false]; omega)]
          have g15 : ∀ q, gL B 215 q = gL M 215 q := fun q => by
            show gL M1 215 q = _
            rw [eqx_L hEc (by simp only [List.mem_cons, List.not_mem_nil, or_false]; omega)]
          unfold soB1 tnB tvB
          rw [g13, g14]
          by_cases q : u = t
          · subst q
            simp only [eq_self, if_true, true_and]
            refine ⟨fun k hk => ?_, by omega, by omega, by omega⟩
            · rw [v2]
              by_cases w : k < n
              · rw [if_pos (by omega), if_pos w]
              · rw [if_neg (by omega), if_neg w, g15]; exact o.2.2.1 k hk
          · simp only [if_neg q, q, false_and, if_false]
            refine ⟨o.1, o.2.1, fun k hk => ?_, o.2.2.2⟩
            rw [v2, if_neg (by omega), g15]; exact o.2.2.1 k hk
      · simp only [decide_eq_false hn, b2i_f, if_pos (show iI 0 = 0 from rfl)] at em2
        by_cases q : n < 0
        · rw [if_pos (by rw [iI_lt0 na nb]; exact q)] at ec
          exact ⟨_, _, _, ec, em2 M, fin⟩
        · rw [if_neg (by rw [iI_lt0 na nb]; exact q), if_pos (by rw [iI_lt (by omega) (by omega) na nb]; omega)] at ec
          exact ⟨_, _, _, ec, em2 M, fin⟩
    · simp only [decide_eq_false hs, b2i_f, if_pos (show iI 0 = 0 from rfl)] at em2
      by_cases q : s < 0
      · rw [if_pos (by rw [iI_lt0 sa sb]; exact q)] at ec
        exact ⟨_, _, _, ec, em2 M, fin⟩
      · rw [if_neg (by rw [iI_lt0 sa sb]; exact q), if_pos (by rw [iI_lt (by omega) (by omega) sa sb]; omega)] at ec
        exact ⟨_, _, _, ec, em2 M, fin⟩
  · simp only [decide_eq_false (show ¬ (0 ≤ x ∧ x ≤ 3) by omega), b2i_f, if_pos (show iI 0 = 0 from rfl)] at em2
    rw [decide_eq_false hx, b2i_f, if_pos (show iI 0 = 0 from rfl)] at ec
    exact ⟨_, _, _, ec, em2 M, fin⟩
