/-! THE CLASS: a walk by one blind. -/
def WIn (w0 p : Nat) : Prop := p < 2560 ∧ (p / 512 = w0 ∨ p / 512 = 4)
theorem pas_who {z : Row} (hz : OkZ z) (tm bl : Nat) {p w0 : Nat} (h : WIn w0 p) : WIn w0 (pas z tm p bl) := by
  have hl := pas_lt hz tm bl h.1
  have hwl := wallT_lt hz tm (p % 512) (p / 512) bl
  refine ⟨hl, ?_⟩
  unfold pas
  split
  · exact Or.inr (by omega)
  · rcases h.2 with q | q
    · exact Or.inl (by omega)
    · exact Or.inr (by omega)
theorem win_pigeon {w0 n : Nat} {g : Nat → Nat} (h : ∀ i, i < n → WIn w0 (g i)) (hi : ∀ i, i < n → ∀ j, j < n → g i = g j → i = j) : n ≤ 1024 := by
  refine pigeon 1024 n (fun i => g i % 512 + (if g i / 512 = 4 then 512 else 0)) ?_ ?_
  · intro i hi
    show g i % 512 + (if g i / 512 = 4 then 512 else 0) < 1024
    split <;> omega
  · intro i h1 j h2 e
    replace e : g i % 512 + (if g i / 512 = 4 then 512 else 0) = g j % 512 + (if g j / 512 = 4 then 512 else 0) := e
    apply hi i h1 j h2
    have a := (h i h1).2
    have b := (h j h2).2
    split at e <;> split at e <;> omega
theorem itr_win {z : Row} (hz : OkZ z) (tm bl : Nat) {p w0 : Nat} (h : WIn w0 p) : ∀ i, WIn w0 (itr (fun p => pas z tm p bl) p i)
  | 0 => h
  | i + 1 => pas_who hz tm bl (itr_win hz tm bl h i)
theorem c_Mat_max (d : Nat) (x y : Int) (hx1 : -2147483648 ≤ x) (hx2 : x ≤ 2147483647) (hy1 : -2147483648 ≤ y) (hy2 : y ≤ 2147483647) (M : Mem) : c2 (d + 1) m_Mat_max [.int (iI x), .int (iI y)] M = some (.int (iI (if x < y then y else x)), M) := by
  show X2 d m_Mat_max 0 [.int (iI x), .int (iI y)] [] M = _
  rw [e_Mat_max_0]
  simp only [iI_lt hx1 hx2 hy1 hy2]
  split <;> rfl
theorem StepsC.fr {M M' : Mem} {r : Nat} {z : Row} {tm st : Nat} {S : List Nat} (h : StepsC M r z tm st) (hE : Eqx S M M') (h1 : 127 ∉ S) (h2 : 128 ∉ S) (h3 : 129 ∉ S) (h4 : 131 ∉ S) (h5 : ∀ a, a ∈ roomS r → a ∉ S) : StepsC M' r z tm st := by
  obtain ⟨a1, a2, a3, a4, a5, a6, a7, a8, a9, a10, a11⟩ := h
  refine ⟨a1, (eqx_R hE h1 0).trans a2, a3.fr (fun a ha => (hE a (h5 a ha)).1), a4, a5.fr (hE 128 h2).2.1, a6.fr (hE 129 h3).2.1, (eqx_I hE h1 1).trans a7, a8, (eqx_I hE h1 6).trans a9, a10, ?_⟩
  intro p' bl' hp' hbl'
  obtain ⟨e', s', g1, g2⟩ := a11 p' bl' hp' hbl'
  exact ⟨e', s', (eqx_I hE h4 _).trans g1, g2⟩
theorem c_Rch_walk (d : Nat) {M0 : Mem} {r : Nat} {z : Row} {tm st p0 w0 bl : Nat} (hS : StepsC M0 r z tm st) (hp : WIn w0 p0) (hbl : bl < 2) :
    ∃ M' n t, c2 (d + 6) m_Rch_walk [.ref 133, .ref 127, .int (iI p0), .int (iI bl)] M0 = some (.int (iI (t : Nat)), M') ∧ t < n ∧ itr (fun p => pas z tm p bl) p0 n = itr (fun p => pas z tm p bl) p0 t ∧ ReachC M' n (itr (fun p => pas z tm p bl) p0) ∧ StepsC M' r z tm st ∧ Eqx [128, 129, 130, 131, 133, 134, 136, 137, r + 6, r + 9] M0 M' := by
  have hz := hS.2.2.2.1
  have hr := hS.1
  have hrl := rm_lt r hr
  have hw := itr_win hz tm bl hp
  have go : ∀ j k M, j + k = 1025 → ReachC M k (itr (fun p => pas z tm p bl) p0) → StepsC M r z tm st → Eqx [128, 129, 130, 131, 133, 134, 136, 137, r + 6, r + 9] M0 M → ∃ M' n t, X2 (d + 5) m_Rch_walk 11 [.ref 133, .ref 127, .int (iI p0), .int (iI bl), .int (iI (itr (fun p => pas z tm p bl) p0 k)), .int (iI k)] [] M = some (.int (iI (t : Nat)), M') ∧ t < n ∧ itr (fun p => pas z tm p bl) p0 n = itr (fun p => pas z tm p bl) p0 t ∧ ReachC M' n (itr (fun p => pas z tm p bl) p0) ∧ StepsC M' r z tm st ∧ Eqx [128, 129, 130, 131, 133, 134, 136, 137, r + 6, r + 9] M0 M' := by
    intro j
    induction j with
    | zero =>
      intro k M hk hC
      have := hC.2.1
      omega
    | succ j ih =>
      intro k M hk hC hSM hM
      have hpk := (hw k).1
      obtain ⟨x, e, hx⟩ := c_Rch_nodeOf (d + 4) hC hpk
      rw [e_Rch_walk_11, e, bI_some, bI_some]
      rcases hx with ⟨i, hi, hpi, rfl⟩ | ⟨hne, rfl⟩
      · have hk' := hC.2.1
        have mx : c2 (d + 5) m_Mat_max [.int (iI 0), .int (iI (i : Int))] M = some (.int (iI (i : Int)), M) := by
          rw [c_Mat_max _ _ _ (by decide) (by decide) (by omega) (by omega)]
          split
          · rfl
          · rw [show (i : Int) = 0 by omega]
        rw [mx, bI_some, if_neg (show ¬ (iI (i : Int) = iI (-1)) by rw [iI_eq (by omega) (by omega) (by decide) (by decide)]; omega)]
        refine ⟨M, k, i, ?_, hi, hpi.symm, hC, hSM, hM⟩
        split
        · rw [e, bI_some, mx, bI_some]
        · rfl
      · have hlt : k + 1 ≤ 1024 := win_pigeon (g := itr (fun p => pas z tm p bl) p0) (fun i _ => hw i) (by
          intro a ha b hb hab
          by_cases qa : a = k
          · by_cases qb : b = k
            · omega
            · exact absurd (hab.symm.trans (by rw [qa])) (hne b (by omega))
          · by_cases qb : b = k
            · exact absurd (hab.trans (by rw [qb])) (hne a (by omega))
            · exact hC.inj a (by omega) b (by omega) hab)
        rw [if_pos (by rw [iI_lt (by omega) (by omega) (by omega) (by omega)]; omega), if_pos rfl]
        obtain ⟨M1, e1, hE1, hC1, _, _⟩ := c_Rch_add (d + 4) hC (by omega) hpk hne (iI (-1))
        have hS1 : StepsC M1 r z tm st := by
          obtain ⟨a1, a2, a3, a4, a5, a6, a7, a8, a9, a10, a11⟩ := hSM
          refine ⟨a1, (eqx_R hE1 (by decide) 0).trans a2, a3.fr (fun a ha => (hE1 a (by have := roomS_ge ha; simp <;> omega)).1), a4, a5.fr (hE1 128 (by decide)).2.1, a6.fr (hE1 129 (by decide)).2.1, (eqx_I hE1 (by decide) 1).trans a7, a8, (eqx_I hE1 (by decide) 6).trans a9, a10, ?_⟩
          intro p' bl' hp' hbl'
          obtain ⟨e', s', g1, g2⟩ := a11 p' bl' hp' hbl'
          exact ⟨e', s', (eqx_I hE1 (by decide) _).trans g1, g2⟩
        obtain ⟨M2, e2, hE2, hS2⟩ := c_Stp_next d hS1 hpk hbl
        rw [e1, bI_some, e2, bI_some, iI_add]
        refine ih (k + 1) M2 (by omega) ?_ hS2 ((hM.tr (hE1.mono (by simp))).tr (hE2.mono (by simp <;> omega)))
        have hC2 : ReachC M2 (k + 1) (upn (itr (fun p => pas z tm p bl) p0) k (itr (fun p => pas z tm p bl) p0 k)) := hC1.fr (hE2 133 (by simp <;> omega)).1 (hE2 134 (by simp <;> omega)).1 (hE2 137 (by simp <;> omega)).1
        have hup : upn (itr (fun p => pas z tm p bl) p0) k (itr (fun p => pas z tm p bl) p0 k) = itr (fun p => pas z tm p bl) p0 := by
          funext i; unfold upn; split
          · rename_i q; rw [q]
          · rfl
        rw [hup] at hC2
        exact hC2
  show ∃ M' n t, X2 (d + 5) m_Rch_walk 0 [.ref 133, .ref 127, .int (iI p0), .int (iI bl), uns, uns] [] M0 = _ ∧ _
  rw [e_Rch_walk_0]
  have hE0 : Eqx [133] M0 (wI M0 133 1 (iI 0)) := eqx_wI Eqx.rf (by simp)
  exact go 1025 0 _ (by omega) ⟨gI_eq _ _ _ _, by decide, fun i hi => absurd hi (Nat.not_lt_zero i)⟩ (hS.fr hE0 (by decide) (by decide) (by decide) (by decide) (fun a ha => by have := roomS_ge ha; simp <;> omega)) (hE0.mono (by simp))
