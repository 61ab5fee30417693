/-! INSTRUCTIONS on objects, arrays, constants. -/
theorem vw_all : ∀ ci, ci < 13 → ∃ r, vwCl[ci]? = some r ∧ nF ci = r.2.2 ∧ ownN ci = r.1 ∧ (∀ w ∈ u_ws r.1 r.2.1 r.2.2, w ∈ TB) ∧ (∃ ty : Nat → FieldType, (∀ k, k < r.2.2 → parseFieldDescriptor (r.2.1 k).2.2.1 = some (ty k)) ∧ ∀ k, k < r.2.2 → defaultValue (ty k) = (match (ftyT.getD ci []).getD k 0 with
  | 1 => .long 0
  | 2 => .null
  | _ => .int 0)) ∧ ∀ a, a < r.2.2 → ∀ b, b < r.2.2 → a ≠ b → (r.2.1 a).2.1 ≠ (r.2.1 b).2.1 := by
  have hL : ∀ ci, ci < 13 → ∀ w ∈ lays ci, w ∈ TB := fun ci h w hw => by
    have h1 := List.all_eq_true.mp ckL_all ci (List.mem_range.mpr h)
    have h2 := List.all_eq_true.mp h1 w hw
    rw [Bool.and_eq_true] at h2
    exact List.mem_filter.mpr ⟨of_decide_eq_true h2.1, h2.2⟩
  intro ci h
  match ci, h with
  | 0, h => exact ⟨_, rfl, rfl, rfl, hL 0 h, ⟨tyX0, tyX0_ok, by decide +kernel⟩, nmX0⟩
  | 1, h => exact ⟨_, rfl, rfl, rfl, hL 1 h, ⟨tyX1, tyX1_ok, by decide +kernel⟩, nmX1⟩
  | 2, h => exact ⟨_, rfl, rfl, rfl, hL 2 h, ⟨tyX2, tyX2_ok, by decide +kernel⟩, nmX2⟩
  | 3, h => exact ⟨_, rfl, rfl, rfl, hL 3 h, ⟨tyX3, tyX3_ok, by decide +kernel⟩, nmX3⟩
  | 4, h => exact ⟨_, rfl, rfl, rfl, hL 4 h, ⟨tyX4, tyX4_ok, by decide +kernel⟩, nmX4⟩
  | 5, h => exact ⟨_, rfl, rfl, rfl, hL 5 h, ⟨tyX5, tyX5_ok, by decide +kernel⟩, nmX5⟩
  | 6, h => exact ⟨_, rfl, rfl, rfl, hL 6 h, ⟨tyX6, tyX6_ok, by decide +kernel⟩, nmX6⟩
  | 7, h => exact ⟨_, rfl, rfl, rfl, hL 7 h, ⟨tyX7, tyX7_ok, by decide +kernel⟩, nmX7⟩
  | 8, h => exact ⟨_, rfl, rfl, rfl, hL 8 h, ⟨tyX8, tyX8_ok, by decide +kernel⟩, nmX8⟩
  | 9, h => exact ⟨_, rfl, rfl, rfl, hL 9 h, ⟨tyX9, tyX9_ok, by decide +kernel⟩, nmX9⟩
  | 10, h => exact ⟨_, rfl, rfl, rfl, hL 10 h, ⟨tyX10, tyX10_ok, by decide +kernel⟩, nmX10⟩
  | 11, h => exact ⟨_, rfl, rfl, rfl, hL 11 h, ⟨tyX11, tyX11_ok, by decide +kernel⟩, nmX11⟩
  | 12, h => exact ⟨_, rfl, rfl, rfl, hL 12 h, ⟨tyX12, tyX12_ok, by decide +kernel⟩, nmX12⟩
  | k + 13, h => exact absurd h (by omega)
theorem vw_lt {ci : Nat} {r : vw_C} (h : vwCl[ci]? = some r) : ci < 13 := (List.getElem?_eq_some_iff.mp h).1
theorem fres_spec {own n : Nat} {f : Nat × Nat × Nat × Bool × Nat} (hf : fres own n = some f) (h2 : f.1 ≠ 2) : ∃ r, vwCl[f.1 - 10]? = some r ∧ 10 ≤ f.1 ∧ f.1 < 40 ∧ f.2.1 < r.2.2 ∧ (r.2.1 f.2.1).1 = r.1 ∧ Cond.fieldLink (ownN own) n r.1 (r.2.1 f.2.1).2.1 (r.2.1 f.2.1).2.2.1 ∈ TB ∧ (r.2.1 f.2.1).2.2.2 = f.2.2.2.1 ∧ ckTy (r.2.1 f.2.1).2.2.1 f.2.2.1 = true ∧ (ftyT.getD (f.1 - 10) []).getD f.2.1 0 = f.2.2.1 := by
  have h := ckRows_spec ckF_all hf
  unfold ckF at h
  rw [show Nat.beq f.1 2 = false from Bool.eq_false_iff.mpr (fun q => h2 (Nat.eq_of_beq_eq_true q))] at h
  dsimp only at h
  cases hv : vwCl[f.1 - 10]? with
  | none => rw [hv] at h; cases h
  | some r =>
    rw [hv] at h
    simp only [Bool.and_eq_true] at h
    obtain ⟨h1, h2, h3, h4, h5, h6, h7, h8⟩ := h
    exact ⟨r, rfl, Nat.le_of_ble_eq_true h1, blt_lt h2, blt_lt h3, of_decide_eq_true h4, inTB (of_decide_eq_true h5) rfl, of_decide_eq_true h6, h7, Nat.eq_of_beq_eq_true h8⟩
def ckTyP (ty : FieldType) (cat : Nat) : Prop := (ty = .int ∧ cat = 0) ∨ (ty = .long ∧ cat = 1) ∨ (ty = .boolean ∧ cat = 3) ∨ ((∃ n, ty = .object n) ∧ cat = 2) ∨ ((∃ t, ty = .array t) ∧ cat = 2)
theorem ckTy_spec {d : String} {cat : Nat} (h : ckTy d cat = true) : ∃ ty, parseFieldDescriptor d = some ty ∧ ckTyP ty cat := by
  unfold ckTy at h
  split at h
  · rename_i e; exact ⟨_, e, Or.inl ⟨rfl, Nat.eq_of_beq_eq_true h⟩⟩
  · rename_i e; exact ⟨_, e, Or.inr (Or.inl ⟨rfl, Nat.eq_of_beq_eq_true h⟩)⟩
  · rename_i e; exact ⟨_, e, Or.inr (Or.inr (Or.inl ⟨rfl, Nat.eq_of_beq_eq_true h⟩))⟩
  · rename_i e; exact ⟨_, e, Or.inr (Or.inr (Or.inr (Or.inl ⟨⟨_, rfl⟩, Nat.eq_of_beq_eq_true h⟩)))⟩
  · rename_i e; exact ⟨_, e, Or.inr (Or.inr (Or.inr (Or.inr ⟨⟨_, rfl⟩, Nat.eq_of_beq_eq_true h⟩)))⟩
  · cases h
section Steps2
variable {p : Program} {l : Launch} {e : Env} {R : Room} {s : State} {m : MethodId} {args : Array Value} {below : List Frame} {meth : Method} {c : Code} {G : Wd} {me : MD} {Q : State → Prop} {n0 w0 d : Nat} {pc : Nat} {ls st : List Value} {M : M1}
theorem cv_ref {G : Wd} {a : Nat} (h : 100 ≤ a) : cv G (.ref a) = .ref (ad G a) := by
  show va_rf (adr G a) = _
  rw [adr_ge h]; rfl
theorem RepH.obj {H : Heap} {a : Nat} (hR : RepH G M H) (hk : (sh0 a).1 < 40) (h100 : 100 ≤ a) (hlt : a < 100 + M.1) : t_OB (ad G a) (G.1.1 ((sh0 a).1 - 10)) (nF ((sh0 a).1 - 10)) (G.1.2 ((sh0 a).1 - 10)) H (fV G M a ((sh0 a).1 - 10)) := by
  have h := hR.2.1 a h100 hlt
  unfold RepC at h
  rwa [if_pos hk] at h
theorem RepH.arr {H : Heap} {a : Nat} (hR : RepH G M H) (hk : 40 ≤ (sh0 a).1) (h100 : 100 ≤ a) (hlt : a < 100 + M.1) : H[ad G a]? = some (arrV (G.2.1 (sh0 a).1) (sh0 a).2 (aV G M a (sh0 a).1)) := by
  have h := hR.2.1 a h100 hlt
  unfold RepC at h
  rwa [if_neg (by omega)] at h
theorem w_get {n a : Nat} {f : Nat × Nat × Nat × Bool × Nat} {v : Value} (X : Ctx p R s m args meth c G me d) (hd : decode (byt me) pc = .ok (.getfield n, 3)) (hf : fres me.2.1 n = some f) (h2 : f.1 ≠ 2) (hk : isK O1 M a f.1 = true) (hv : cv G v = fV G M a (f.1 - 10) f.2.1) (kk : WW p l e R s m args below meth c G me Q n0 w0 (pc + 3) ls (v :: st) M) : WW p l e R s m args below meth c G me Q n0 w0 pc ls (.ref a :: st) M := by
  intro H locs sl hL hR hS
  obtain ⟨r, q1, q2, q3, q4, q5, q6, q7, q8, q9⟩ := fres_spec hf h2
  obtain ⟨hkd, hlt⟩ := s1_kind hk (by omega)
  have h100 : 100 ≤ a := kind_ge (by omega)
  have ho := hR.obj (a := a) (by omega) h100 hlt
  rw [hkd] at ho
  obtain ⟨r', e1, e2, e3, e4, -, -⟩ := vw_all _ (vw_lt q1)
  cases q1.symm.trans e1
  rw [e2] at ho
  have hP : va_P G.1 vwCl [(ad G a, .inr (f.1 - 10, (List.range r.2.2).map (fV G M a (f.1 - 10))))] H := by
    intro k q hq
    match k, hq with
    | 0, hq =>
      cases hq
      refine ⟨r, q1, ho.to (fun j hj => ?_)⟩
      show _ = ((List.range r.2.2).map (fV G M a (f.1 - 10))).getD j .null
      rw [List.getD_eq_getElem?_getD, List.getElem?_map, List.getElem?_range hj]
      rfl
    | k + 1, hq => cases hq
  have hkk := kk H locs sl hL hR hS
  rw [List.map_cons] at hkk ⊢
  rw [cv_ref h100]
  rw [hv] at hkk
  refine va_get (D := G.1) (ci := f.1 - 10) (v := fV G M a (f.1 - 10) f.2.1) (C := r.1) (T := r.2.1) (N := r.2.2) X.1 X.2.1 X.2.2.2.2.1 e4 X.2.2.2.1 X.2.2.2.2.2.1 hP 0 rfl q1 f.2.1 q4 (X.2.2.2.2.1 _ q6) (fun x hx => by rw [← q5]; exact hx) ?_ hd hkk
  rw [List.getElem?_map, List.getElem?_range q4]
  rfl
theorem w_put {n a : Nat} {f : Nat × Nat × Nat × Bool × Nat} {v : Value} {M' : M1} (X : Ctx p R s m args meth c G me d) (hd : decode (byt me) pc = .ok (.putfield n, 3)) (hf : fres me.2.1 n = some f) (h2 : f.1 ≠ 2) (hk : isK O1 M a f.1 = true) (hfin : okFin me f = true)
    (hty : ∀ ty, ckTyP ty f.2.2.1 → narrow ty (cv G v) = cv G v ∧ fits ty (cv G v) = true) (hM1 : M'.1 = M.1) (hM2 : M'.2.1 = M.2.1) (hrow : ∀ b, b ≠ a → M'.2.2.1 b = M.2.2.1 b ∧ M'.2.2.2.1 b = M.2.2.2.1 b ∧ M'.2.2.2.2 b = M.2.2.2.2 b) (hV : ∀ k, fV G M' a (f.1 - 10) k = updV (fV G M a (f.1 - 10)) f.2.1 (cv G v) k)
    (kk : WW p l e R s m args below meth c G me Q n0 w0 (pc + 3) ls st M') : WW p l e R s m args below meth c G me Q n0 w0 pc ls (v :: .ref a :: st) M := by
  intro H locs sl hL hR hS
  obtain ⟨r, q1, q2, q3, q4, q5, q6, q7, q8, q9⟩ := fres_spec hf h2
  obtain ⟨hkd, hlt⟩ := s1_kind hk (by omega)
  have h100 : 100 ≤ a := kind_ge (by omega)
  have ho := hR.obj (a := a) (by omega) h100 hlt
  rw [hkd] at ho
  obtain ⟨r', e1, e2, e3, e4, ⟨ty0, e5, -⟩, e6⟩ := vw_all _ (vw_lt q1)
  cases q1.symm.trans e1
  rw [e2] at ho
  obtain ⟨ty, hd1, hd2⟩ := ckTy_spec q8
  obtain ⟨hn, hfit⟩ := hty ty hd2
  have hts := X.2.2.2.2.1
  have hK := X.2.2.2.2.2.1
  have hap := va_apart (own := ownN me.2.1) hts e4 ty0 e5 e6 hK q1
  obtain ⟨cell, g1, g2, g3, g4⟩ := ho
  obtain ⟨hSl, hfc, kC, hkC, hkind⟩ := hK.1 (f.1 - 10) _ q1
  obtain ⟨cf, kf, fi, fd, hi, hsl⟩ := hSl f.2.1 q4
  have hst := (u_facts hfc hkC (u_lays hts e4 q4) hi).1
  have hlink := hts _ q6
  have hgo : ∀ H' : Heap, H'[ad G a]? = some (cell.setSlot fd.slot (cv G v)) → H'.size = H.size → (∀ q, q ≠ ad G a → H'[q]? = H[q]?) → W p l e R s m args below meth c H' (locs ++ [⟨ad G a, fd.slot⟩]) (M.1 - n0) (M.2.1 - w0) Q (F0 m (pc + 3) sl (st.map (cv G))) := by
    intro H' z1 z2 z3
    have hRC : RepC G M' H' a := by
      unfold RepC
      rw [if_pos (by omega), hkd, e2]
      refine t_OB.to (V := updV (fV G M a (f.1 - 10)) f.2.1 (cv G v)) ⟨_, z1, g2, g3, ?_⟩ (fun k _ => (hV k).symm)
      rw [hsl]
      exact t_set g4 hap q4 (cv G v)
    have := kk H' (locs ++ [⟨ad G a, fd.slot⟩]) sl hL (hR.put h100 hM1 z2 z3 hrow hRC) (hS.put z2 z3 (by show G.2.2.1 ≤ ad G a; unfold ad; omega))
    rw [hM1, hM2] at this
    exact this
  have hlay := hts _ (e4 _ (u_in_lay q4))
  unfold u_lay at hlay
  rw [List.map_cons, List.map_cons, cv_ref h100]
  cases hfb : f.2.2.2.1 with
  | false =>
    rw [if_neg (by rw [q7, hfb]; decide)] at hlay
    have h6 := u_store hfc hkC hkind hlay hi hd1 hn hfit
    exact W.putK X.1 X.2.1 (f := fd) ⟨X.2.2.2.1, hlink, ⟨_, _, _, by rw [← q5]; exact hi⟩, hst⟩ (by rw [g2]; exact h6) g1 g3 (by rw [hsl]; exact k2_hasslot (g4 _ q4)) rfl rfl hd hgo
  | true =>
    rw [if_pos (by rw [q7, hfb])] at hlay
    unfold okFin at hfin
    rw [hfb] at hfin
    dsimp only at hfin
    rw [Bool.and_eq_true] at hfin
    have hcls : f.1 = 10 + me.2.1 := Nat.eq_of_beq_eq_true hfin.2
    have hcf : m.cls = cf := by
      obtain ⟨_, _, c', _, _, _, -, -, hf', -, -, -, hown2, -⟩ := Cond.laysFinal_spec hlay
      have ec : c' = cf := by have := hi.symm.trans hf'; simp at this; exact this.1.symm
      rw [q5] at hown2
      rw [show f.1 - 10 = me.2.1 by omega] at e3
      rw [← ec, ← e3] at *
      exact Option.some.inj (X.2.2.2.1.symm.trans hown2)
    have h6 := u_fits hfc hkC hkind (Or.inr hlay) hi hd1 hn hfit
    exact W.putFinK X.1 X.2.1 X.2.2.2.1 hlink (by rw [← q5]; exact hi) hst hcf (X.2.2.2.2.2.2.2.1 hfin.1) (by rw [g2]; exact h6) g1 g3 (by rw [hsl]; exact k2_hasslot (g4 _ q4)) rfl rfl hd hgo
end Steps2
