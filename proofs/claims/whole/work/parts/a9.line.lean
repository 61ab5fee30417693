/-! THE ROOM'S TEXT: a room under way, as class and reference hold it. -/
section A9
variable {T : Nat → Nat} {n N r : Nat}
abbrev Ps : Type := (Nat → Nat) × (Nat → List Nat)
def upN (g : Nat → Nat) (k v : Nat) : Nat → Nat := fun i => if i = k then v else g i
def fld (g : Nat → Nat) : Nat → Int
  | 0 => g 1
  | 1 => g 2
  | 2 => (g 1 * g 2 : Nat)
  | 3 => g 3
  | 4 => cwho (g 26)
  | 5 => g 25
  | 6 => g 4
  | 7 => g 5
  | 8 => g 27
  | _ => g 0
def RoomC (M : Mem) (r : Nat) (p : Ps) : Prop := (∀ k, k < 10 → gI M r k = iI (fld p.1 k)) ∧ (∀ c, c < 9 → gI M (r + 1) c = iI (p.1 (12 + c))) ∧ (∀ c, c < p.1 1 * p.1 2 → gI M (r + 2) c = iI (maskOf (fun k => nbr (p.1 2) c k) (p.1 1 * p.1 2))) ∧ (∀ t, t < p.1 3 → gI M (r + 3) t = iI (p.1 (21 + t))) ∧ (gI M (r + 4) 2 = iI (p.2 0).length ∧ CellsE (M.1 (r + 5)) 0 (p.2 0)) ∧ (gI M (r + 7) 2 = iI (p.2 1).length ∧ CellsE (M.1 (r + 8)) 0 (p.2 1))
def rix (t k : Nat) : Prop := k ≤ 5 ∨ (12 ≤ k ∧ k < 21 + t) ∨ (25 ≤ k ∧ k ≤ 29)
def RowP (M : Mem) (p : Ps) (C : List Nat) : Prop := (∀ k, rix (p.1 3) k → gI M 201 k = iI (p.1 k)) ∧ (∀ i, i < 2 → gI M 201 (6 + i) = iI (if p.2 i = [] then 0 else 1) ∧ (p.2 i ≠ [] → gI M 201 (10 + i) = iI (p.2 i).length ∧ ∃ C1 C2, C = C1 ++ (p.2 i ++ C2) ∧ gI M 201 (8 + i) = iI C1.length)) ∧ gI M 201 70 = iI C.length ∧ Cells (M.1 201) 71 C
def OkP (p : Ps) : Prop := (1 ≤ p.1 1 ∧ p.1 1 ≤ 3 ∧ 1 ≤ p.1 2 ∧ p.1 2 ≤ 3 ∧ p.1 3 ≤ 4 ∧ p.1 4 < 2 ^ (p.1 1 * p.1 2) ∧ p.1 5 ≤ 10 ∧ p.1 25 < 2 ^ (p.1 1 * p.1 2) ∧ (p.1 26 = 4 ∨ p.1 26 < p.1 3) ∧ p.1 27 ≤ 9 ∧ p.1 28 = 0 ∧ p.1 29 = 0) ∧ (∀ c, c < 9 → p.1 (12 + c) ≤ 9) ∧ (∀ t, t < p.1 3 → p.1 (21 + t) ≤ 9) ∧ (p.2 0 ≠ [] → Eff alT true 18 (p.2 0)) ∧ (p.2 1 ≠ [] → Eff alG true 18 (p.2 1))
theorem RoomC.fr {M M' : Mem} {p : Ps} (h : RoomC M r p) (hf : ∀ a, a ∈ roomS r → M'.1 a = M.1 a) : RoomC M' r p := by
  unfold RoomC gI at h ⊢
  rw [hf r (by simp [roomS]), hf (r + 1) (by simp [roomS]), hf (r + 2) (by simp [roomS]), hf (r + 3) (by simp [roomS]), hf (r + 4) (by simp [roomS]), hf (r + 5) (by simp [roomS]), hf (r + 7) (by simp [roomS]), hf (r + 8) (by simp [roomS])]
  exact h
theorem RowP.fr {M M' : Mem} {p : Ps} {C : List Nat} (h : RowP M p C) (hf : M'.1 201 = M.1 201) : RowP M' p C := by
  unfold RowP gI at h ⊢
  rw [hf]
  exact h
theorem RoomC.put {M : Mem} {p : Ps} {g' : Nat → Nat} {k0 : Nat} {v : Int} (h : RoomC M r p) (hg : ∀ k, k < 10 → fld g' k = if k = k0 then v else fld p.1 k) (hs : ∀ k, (k = 1 ∨ k = 2 ∨ k = 3 ∨ (12 ≤ k ∧ k < 21 + p.1 3) ∨ (12 ≤ k ∧ k < 21)) → g' k = p.1 k) : RoomC (wI M r k0 (iI v)) r (g', p.2) := by
  obtain ⟨h1, h2, h3, h4, h5, h6⟩ := h
  have e1 := hs 1 (by omega)
  have e2 := hs 2 (by omega)
  have e3 := hs 3 (by omega)
  have ne : ∀ i k, 0 < i → gI (wI M r k0 (iI v)) (r + i) k = gI M (r + i) k := fun i k hi => gI_na (by omega)
  have ne2 : ∀ i, 0 < i → (wI M r k0 (iI v)).1 (r + i) = M.1 (r + i) := fun i hi => by funext k; exact ne i k hi
  refine ⟨fun k hk => ?_, fun c hc => ?_, fun c hc => ?_, fun t ht => ?_, ⟨?_, ?_⟩, ?_, ?_⟩
  · show gI (wI M r k0 (iI v)) r k = iI (fld g' k)
    rw [hg k hk]
    by_cases q : k = k0
    · rw [if_pos q, q, gI_eq]
    · rw [if_neg q, gI_nk q, h1 k hk]
  · show _ = iI (g' (12 + c))
    rw [ne 1 c (by decide), hs (12 + c) (by omega)]; exact h2 c hc
  · show _ = iI (maskOf (fun k => nbr (g' 2) c k) (g' 1 * g' 2))
    have hc' : c < g' 1 * g' 2 := hc
    rw [ne 2 c (by decide), e1, e2]; exact h3 c (by rw [e1, e2] at hc'; exact hc')
  · have ht' : t < g' 3 := ht
    show _ = iI (g' (21 + t))
    rw [ne 3 t (by decide), hs (21 + t) (by omega)]; exact h4 t (by omega)
  · exact (ne 4 2 (by decide)).trans h5.1
  · rw [ne2 5 (by decide)]; exact h5.2
  · exact (ne 7 2 (by decide)).trans h6.1
  · rw [ne2 8 (by decide)]; exact h6.2
theorem Cells.fr {f g : Nat → Int32} : ∀ {L : List Nat} {b : Nat}, Cells f b L → (∀ k, b ≤ k → k < b + L.length → g k = f k) → Cells g b L
  | [], _, _, _ => trivial
  | x :: L, b, h, h1 => ⟨(h1 b (Nat.le_refl _) (by rw [List.length_cons]; omega)).trans h.1, Cells.fr (L := L) (b := b + 1) h.2 (fun k k1 k2 => h1 k (by omega) (by rw [List.length_cons]; omega))⟩
theorem RowP.put {M : Mem} {p : Ps} {C : List Nat} {k0 v : Nat} (h : RowP M p C) (hk : k0 < 70) (hk2 : k0 < 6 ∨ 12 ≤ k0) (h3 : k0 ≠ 3) : RowP (wI M 201 k0 (iI v)) (upN p.1 k0 v, p.2) C := by
  obtain ⟨h1, h2, h4, h5⟩ := h
  refine ⟨fun k q => ?_, fun i hi => ?_, ?_, h5.fr (fun k k1 _ => ?_)⟩
  · have q' : rix (upN p.1 k0 v 3) k := q
    have e3 : upN p.1 k0 v 3 = p.1 3 := if_neg (fun e => h3 e.symm)
    rw [e3] at q'
    show _ = iI (upN p.1 k0 v k)
    unfold upN
    by_cases e : k = k0
    · rw [if_pos e, e, gI_eq]
    · rw [if_neg e, gI_nk e, h1 k q']
  · rw [gI_nk (by omega), gI_nk (by omega), gI_nk (by omega)]
    exact h2 i hi
  · rw [gI_nk (by omega)]; exact h4
  · exact gI_nk (by omega)
/-! the two at a line's token -/
def LnC (T : Nat → Nat) (n N r j : Nat) (p : Ps) (M : Mem) : Prop := CJ T n N j M ∧ gR M 106 1 = 102 ∧ gR M 106 2 = r ∧ RoomC M r p
def LnM (T : Nat → Nat) (n j : Nat) (p : Ps) (C : List Nat) (M : Mem) : Prop := MJ T n j M ∧ RowP M p C ∧ C.length ≤ j ∧ j ≤ 900
def roomW (r : Nat) : List Nat := 102 :: 107 :: roomS r
def OM2 (M M' : Mem) : Prop := Eqx [197, 201] M M' ∧ ∀ k, k = 5 ∨ k = 13 ∨ k = 14 → gI M' 197 k = gI M 197 k
theorem OM.o2 {M M' : Mem} (h : OM M M') : OM2 M M' := ⟨h.1, fun k hk => h.2 k (by omega) (by omega) (by omega) (by omega) (by omega) (by omega)⟩
theorem OM2.tr {M M1 M2 : Mem} (h : OM2 M M1) (g : OM2 M1 M2) : OM2 M M2 := ⟨h.1.tr g.1, fun k a => (g.2 k a).trans (h.2 k a)⟩
theorem OM2.rf (M : Mem) : OM2 M M := ⟨Eqx.rf, fun _ _ => rfl⟩
theorem OM2.put {M M' : Mem} (h : OM2 M M') (k : Nat) (v : Int32) : OM2 M (wI M' 201 k v) := ⟨eqx_wI h.1 (by simp), fun i hi => by rw [gI_na (by decide)]; exact h.2 i hi⟩
def LiC (T : Nat → Nat) (n N r : Nat) (P : Mem → Rs Mem) (j f q : Nat) (p p' : Ps) : Prop := ∀ M, LnC T n N r j p M → ∃ M', P M = some (.int (iI (if f = 0 then 1 else 0)), M') ∧ Eqx (roomW r) M M' ∧ (f = 0 → LnC T n N r q p' M') ∧ (f ≠ 0 → FC f q M')
def LiM (T : Nat → Nat) (n : Nat) (P : Mem → Rs Mem) (j f q : Nat) (p p' : Ps) : Prop := ∀ M C, LnM T n j p C M → ∃ M' C', P M = some (.null, M') ∧ OM2 M M' ∧ (f = 0 → LnM T n q p' C' M') ∧ (f ≠ 0 → FM f q M')
def LQ (T : Nat → Nat) (n N r : Nat) (p : Ps) (j : Nat) : Prop := ∃ f q p', f ≤ 4 ∧ (f = 0 → j < q ∧ q < N ∧ OkP p' ∧ p'.1 0 = p.1 0) ∧ (∀ D, 40 ≤ D → LiC T n N r (c2 D m_RR_readLine [.ref 106]) j f q p p') ∧ (∀ D, 40 ≤ D → LiM T n (c2 D m_Mo_readLine [.ref 197]) j f q p p')
theorem LnC.fr2 (hr : r ∈ rooms) {j j' : Nat} {p : Ps} {M M' : Mem} (h : LnC T n N r j p M) (hE : Eqx [102] M M') (hJ : CJ T n N j' M') : LnC T n N r j' p M' := by
  have hl := rm_lt r hr
  exact ⟨hJ, (eqx_R hE (by decide) 1).trans h.2.1, (eqx_R hE (by decide) 2).trans h.2.2.1, h.2.2.2.fr (fun a ha => (hE a (ni1 (by have := roomS_ge ha; omega))).1)⟩
theorem LnC.put (hr : r ∈ rooms) {j : Nat} {p : Ps} {M : Mem} {g' : Nat → Nat} {k0 : Nat} {v : Int} (h : LnC T n N r j p M) (hg : ∀ k, k < 10 → fld g' k = if k = k0 then v else fld p.1 k) (hs : ∀ k, (k = 1 ∨ k = 2 ∨ k = 3 ∨ (12 ≤ k ∧ k < 21 + p.1 3) ∨ (12 ≤ k ∧ k < 21)) → g' k = p.1 k) : LnC T n N r j (g', p.2) (wI M r k0 (iI v)) := by
  have hl := rm_lt r hr
  have q : Eqx [r] M (wI M r k0 (iI v)) := eqx_wI Eqx.rf (by simp)
  exact ⟨h.1.fr (q 102 (ni1 (by omega))).1 (q 103 (ni1 (by omega))).1 (q 104 (ni1 (by omega))).1 (q 105 (ni1 (by omega))).1, h.2.1, h.2.2.1, h.2.2.2.put hg hs⟩
theorem LnM.nx2 {j j' : Nat} {p : Ps} {C : List Nat} {M M' : Mem} (h : LnM T n j p C M) (hF : M'.1 201 = M.1 201) (hJ : MJ T n j' M') (hj : j ≤ j') (h9 : j' ≤ 900) : LnM T n j' p C M' := ⟨hJ, h.2.1.fr hF, Nat.le_trans h.2.2.1 hj, h9⟩
theorem LnM.put {j : Nat} {p : Ps} {C : List Nat} {M : Mem} {k0 v : Nat} (h : LnM T n j p C M) (hk : k0 < 70) (hk2 : k0 < 6 ∨ 12 ≤ k0) (h3 : k0 ≠ 3) : LnM T n j (upN p.1 k0 v, p.2) C (wI M 201 k0 (iI v)) := by
  have q : Eqx [201] M (wI M 201 k0 (iI v)) := eqx_wI Eqx.rf (by simp)
  exact ⟨h.1.fr (q 197 (by decide)).1 (q 200 (by decide)).1, h.2.1.put hk hk2 h3, h.2.2.1, h.2.2.2⟩
theorem eqW {a : Nat} {M M' : Mem} (h : Eqx [102] M M') : Eqx (roomW a) M M' := h.mono (by simp [roomW])
theorem eqW2 {a : Nat} {M M' : Mem} (h : Eqx [a] M M') : Eqx (roomW a) M M' := h.mono (by simp [roomW, roomS])
end A9
