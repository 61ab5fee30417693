/-! NEW CELLS, constants, statics, strings, switches. -/
theorem n1_spec {M : M1} {sh : Nat × Nat} {w a : Nat} {M' : M1} (h : n1 M sh w = some (a, M')) : sh0 (100 + M.1) = sh ∧ a = 100 + M.1 ∧ M' = mNew M w := by
  unfold n1 at h
  cases hb : decide (sh0 (100 + M.1) = sh) with
  | false => rw [hb] at h; cases h
  | true =>
    rw [hb] at h
    cases h
    exact ⟨of_decide_eq_true hb, rfl, rfl⟩
def ckAr (i : Nat) (ty : FieldType) : Bool := decide (lw_tbl[i]? = some (.arrayClass ty))
section Steps4
variable {p : Program} {l : Launch} {e : Env} {R : Room} {s : State} {m : MethodId} {args : Array Value} {below : List Frame} {meth : Method} {c : Code} {G : Wd} {me : MD} {Q : State → Prop} {n0 w0 d : Nat} {pc : Nat} {ls st : List Value} {M : M1}
theorem ad_new {H : Heap} (hR : RepH G M H) : ad G (100 + M.1) = H.size := by unfold ad; rw [hR.1]; omega
theorem va_S.grow {H H' : Heap} {locs : List Loc} {A : Nat → Prop} {H0 : Heap} (hS : va_S A H0 H locs) (hz : H'.size = H.size + 1) (ho : ∀ q, q < H.size → H'[q]? = H[q]?) : va_S A H0 H' locs :=
  ⟨by rw [hz]; exact Nat.le_succ_of_le hS.1, fun q h1 h2 => by rw [ho q (Nat.lt_of_lt_of_le h1 hS.1)]; exact hS.2.1 q h1 h2, hS.2.2⟩
theorem w_new {n : Nat} {q : Nat × Nat × Nat × Nat × Nat} {a : Nat} {M' : M1} (X : Ctx p R s m args meth c G me d) (hd : decode (byt me) pc = .ok (.new n, 3)) (hq : cres me.2.1 n = some q) (hn : n1 M (10 + q.1, 0) q.2.1 = some (a, M')) (h0 : n0 ≤ M.1) (h1 : w0 ≤ M.2.1) (hc : M'.1 - n0 ≤ R.cells) (hs : M'.2.1 - w0 ≤ R.slots)
    (kk : WW p l e R s m args below meth c G me Q n0 w0 (pc + 3) ls (.ref a :: st) M') : WW p l e R s m args below meth c G me Q n0 w0 pc ls st M := by
  intro H locs sl hL hR hS
  obtain ⟨e1, rfl, rfl⟩ := n1_spec hn
  have hk := ckRows_spec ckC_all hq
  cases hv : vwCl[q.1]? with
  | none => rw [hv] at hk; cases hk
  | some r =>
    rw [hv] at hk
    simp only [Bool.and_eq_true] at hk
    obtain ⟨k1, k2, k3, k4⟩ := hk
    have hts := X.2.2.2.2.1
    have hK := X.2.2.2.2.2.1
    obtain ⟨r', e1', e2, e3, e4, ⟨ty0, e5, e6⟩, -⟩ := vw_all _ (vw_lt hv)
    cases hv.symm.trans e1'
    have hKn := hK.1 q.1 _ hv
    have hN : r.2.2 = q.2.1 := Nat.eq_of_beq_eq_true k1
    refine W.newcK X.1 X.2.1 X.2.2.2.1 (hts _ (inTB (of_decide_eq_true k2) rfl)) (hts _ (inTB (of_decide_eq_true k3) rfl)) (hts _ (inTB (of_decide_eq_true k4) rfl)) rfl hd (by have : M.1 + 1 - n0 ≤ R.cells := hc; omega) (by have : M.2.1 + q.2.1 - w0 ≤ R.slots := hs; omega) hKn.2.1 rfl fun H1 kC hkC z1 z2 z3 => ?_
    have hRC : RepC G (mNew M q.2.1) H1 (100 + M.1) := by
      unfold RepC
      have hci := vw_lt hv
      rw [e1]
      show if 10 + q.1 < 40 then _ else _
      rw [if_pos (by omega), show 10 + q.1 - 10 = q.1 by omega, ad_new hR, e2]
      refine (u_born ty0 hts e4 hKn hkC z1 e5).to (fun j hj => ?_)
      rw [e6 j hj]
      unfold fV
      have r1 : (mNew M q.2.1).2.2.1 (100 + M.1) j = 0 := by show row0 _ _ _ _ _ = _; unfold row0; rw [if_pos rfl]
      have r2 : (mNew M q.2.1).2.2.2.1 (100 + M.1) j = 0 := by show row0 _ _ _ _ _ = _; unfold row0; rw [if_pos rfl]
      have r3 : (mNew M q.2.1).2.2.2.2 (100 + M.1) j = 0 := by show row0 _ _ _ _ _ = _; unfold row0; rw [if_pos rfl]
      rw [r1, r2, r3]
      generalize (ftyT.getD q.1 []).getD j 0 = z
      match z with
      | 0 => rfl
      | 1 => rfl
      | 2 => rfl
      | z + 3 => rfl
    have := kk H1 locs sl hL (hR.push z2 z3 hRC) (hS.grow z2 z3)
    rw [List.map_cons, cv_ref (by omega), ad_new hR] at this
    rw [show M.1 - n0 + 1 = (mNew M q.2.1).1 - n0 by show _ = M.1 + 1 - n0; omega, show M.2.1 - w0 + r.2.2 = (mNew M q.2.1).2.1 - w0 by show _ = M.2.1 + q.2.1 - w0; omega]
    exact this
theorem w_newa {t : Jvm.ClassFile.ArrayType} {kd t0 : Nat} {ty : FieldType} {n : Int32} {a : Nat} {M' : M1} (X : Ctx p R s m args meth c G me d) (hd : decode (byt me) pc = .ok (.newarray t, 2)) (hty : newarray.typeOf t = ty) (harr : Cond.arrayClass ty ∈ TB) (ht : (TYS G)[t0]? = some (G.2.1 kd, ty)) (h40 : 40 ≤ kd) (hRA : ∀ cA, va_RA s cA ty → s.vm.findClass ("[" ++ ty.toString) = some cA) (hdef : defaultValue ty = aV G (mNew M 0) (100 + M.1) kd 0) (hbt : componentBytes ty ≤ 8) (hn0 : ¬ n < 0) (hb : ix n ≤ 100000) (hn : n1 M (kd, ix n) (ix n) = some (a, M')) (h0 : n0 ≤ M.1) (h1 : w0 ≤ M.2.1) (hc : M'.1 - n0 ≤ R.cells) (hs : M'.2.1 - w0 ≤ R.slots)
    (kk : WW p l e R s m args below meth c G me Q n0 w0 (pc + 2) ls (.ref a :: st) M') : WW p l e R s m args below meth c G me Q n0 w0 pc ls (.int n :: st) M := by
  intro H locs sl hL hR hS
  obtain ⟨e1, rfl, rfl⟩ := n1_spec hn
  subst hty
  have hts := X.2.2.2.2.1
  have hK := X.2.2.2.2.2.1
  refine va_newaK X.1 X.2.1 (hts _ harr) rfl hd rfl hn0 (N := ix n) rfl (by have : ix n * componentBytes (newarray.typeOf t) ≤ 100000 * 8 := Nat.mul_le_mul hb hbt; omega) (by have : M.1 + 1 - n0 ≤ R.cells := hc; omega) (by have : M.2.1 + ix n - w0 ≤ R.slots := hs; omega) rfl (fun H1 cA z1 z2 z3 hAr hNm => ?_)
  have hcA : cA = G.2.1 kd := Option.some.inj (hNm.symm.trans (hRA _ (hK.2 t0 _ ht).2))
  subst hcA
  have hz : ∀ j, aV G (mNew M (ix n)) (100 + M.1) kd j = aV G (mNew M 0) (100 + M.1) kd 0 := by
    intro j
    unfold aV mNew row0
    simp
  have hRC : RepC G (mNew M (ix n)) H1 (100 + M.1) := by
    unfold RepC
    rw [e1]
    show if kd < 40 then _ else _
    rw [if_neg (by omega), ad_new hR, z1]
    congr 2
    funext j
    rw [hz j, hdef]
  have := kk H1 locs sl hL (hR.push z2 z3 hRC) (hS.grow z2 z3)
  rw [List.map_cons, cv_ref (by omega), ad_new hR] at this
  rw [show M.1 - n0 + 1 = (mNew M (ix n)).1 - n0 by show _ = M.1 + 1 - n0; omega, show M.2.1 - w0 + ix n = (mNew M (ix n)).2.1 - w0 by show _ = M.2.1 + ix n - w0; omega]
  exact this
theorem w_anew {k : Nat} {q : Nat × Nat × Nat} {n : Int32} {a : Nat} {M' : M1} (X : Ctx p R s m args meth c G me d) (hd : decode (byt me) pc = .ok (.anewarray k, 3)) (hq : ares me.2.1 k = some q) (hn0 : ¬ n < 0) (hb : ix n ≤ 100000) (hn : n1 M (q.1, ix n) (ix n) = some (a, M')) (h0 : n0 ≤ M.1) (h1 : w0 ≤ M.2.1) (hc : M'.1 - n0 ≤ R.cells) (hs : M'.2.1 - w0 ≤ R.slots)
    (kk : WW p l e R s m args below meth c G me Q n0 w0 (pc + 3) ls (.ref a :: st) M') : WW p l e R s m args below meth c G me Q n0 w0 pc ls (.int n :: st) M := by
  intro H locs sl hL hR hS
  obtain ⟨e1, rfl, rfl⟩ := n1_spec hn
  have hk := ckRows_spec ckA_all hq
  simp only [Bool.and_eq_true] at hk
  obtain ⟨k1, k2, k3, k4⟩ := hk
  have hk1 : 44 ≤ q.1 := Nat.le_of_ble_eq_true k1
  have hk2 : q.1 ≤ 46 := Nat.le_of_ble_eq_true k2
  have hts := X.2.2.2.2.1
  have hK := X.2.2.2.2.2.1
  have hAO := X.2.2.2.2.2.2.1.2.2.2.2.2.1
  have hover : (Cond.arrayOver (FieldType.object (arrN q.1))).before args s = true ∧ ∃ t0 : Nat, (TYS G)[t0]? = some (G.2.1 q.1, FieldType.object (arrN q.1)) := by
    rcases (show q.1 = 44 ∨ q.1 = 45 ∨ q.1 = 46 by omega) with h | h | h
    · rw [h]; exact ⟨hAO.1.use, 4, rfl⟩
    · rw [h]; exact ⟨hAO.2.1.use, 5, rfl⟩
    · rw [h]; exact ⟨hAO.2.2.use, 6, rfl⟩
  obtain ⟨hov, t0, ht⟩ := hover
  refine W.anew X.1 X.2.1 X.2.2.2.1 (hts _ (inTB (of_decide_eq_true k3) rfl)) hov rfl hd rfl hn0 (by have : ix n * 4 ≤ 100000 * 4 := Nat.mul_le_mul hb (Nat.le_refl 4); show ix n * 4 ≤ _; omega) (by have : M.1 + 1 - n0 ≤ R.cells := hc; omega) (by have : M.2.1 + ix n - w0 ≤ R.slots := hs; show M.2.1 - w0 + ix n ≤ _; omega) (fun cA kA comp f1 f2 f3 f4 => ?_)
  generalize hH1 : H.push ({ cls := cA, slots := Array.replicate n.toNatClampNeg .null, vm := .none } : Cell) = H1
  have z2 : H1.size = H.size + 1 := by rw [← hH1, Array.size_push]
  have z1 : H1[H.size]? = some (arrV cA (ix n) (fun _ => .null)) := by rw [← hH1, Array.getElem?_push_size, ← arrV_new]; rfl
  have z3 : ∀ q : Nat, q < H.size → H1[q]? = H[q]? := fun q hq => by rw [← hH1, Array.getElem?_push, if_neg (Nat.ne_of_lt hq)]
  obtain ⟨kA', comp', g1, g2, g3, g4⟩ := (hK.2 t0 _ ht).2
  have hcA : cA = G.2.1 q.1 := Option.some.inj (f1.symm.trans g4)
  subst hcA
  have hRC : RepC G (mNew M (ix n)) H1 (100 + M.1) := by
    unfold RepC
    rw [e1]
    show if q.1 < 40 then _ else _
    rw [if_neg (by omega), ad_new hR, z1]
    congr 2
    funext j
    rw [aV_ref (show 44 ≤ (q.1, ix n).1 from hk1)]
    have r3 : (mNew M (ix n)).2.2.2.2 (100 + M.1) j = 0 := by show row0 _ _ _ _ _ = _; unfold row0; rw [if_pos rfl]
    show Value.null = va_rf (adr G ((mNew M (ix n)).2.2.2.2 (100 + M.1) j))
    rw [r3]
    rfl
  have := kk H1 locs sl hL (hR.push z2 z3 hRC) (hS.grow z2 z3)
  rw [List.map_cons, cv_ref (by omega), ad_new hR] at this
  rw [show M.1 - n0 + 1 = (mNew M (ix n)).1 - n0 by show _ = M.1 + 1 - n0; omega, show M.2.1 - w0 + n.toNatClampNeg = (mNew M (ix n)).2.1 - w0 by show _ = M.2.1 + ix n - w0; show M.2.1 - w0 + ix n = _; omega]
  exact this
theorem w_ldc {k : Nat} {z : Int × Nat} (X : Ctx p R s m args meth c G me d) (hd : decode (byt me) pc = .ok (.ldc k, 2)) (hk : kint me.2.1 k = some z) (kk : WW p l e R s m args below meth c G me Q n0 w0 (pc + 2) ls (.int (iI z.1) :: st) M) : WW p l e R s m args below meth c G me Q n0 w0 pc ls st M := fun H locs sl hL hR hS =>
  lv_ldc X.1 X.2.1 X.2.2.2.1 (X.2.2.2.2.1 _ (inTB (of_decide_eq_true (ckRows_spec ckKI_all hk)) rfl)) hd (kk H locs sl hL hR hS)
theorem w_ldcw {k : Nat} {z : Int × Nat} (X : Ctx p R s m args meth c G me d) (hd : decode (byt me) pc = .ok (.ldc_w k, 3)) (hk : kint me.2.1 k = some z) (kk : WW p l e R s m args below meth c G me Q n0 w0 (pc + 3) ls (.int (iI z.1) :: st) M) : WW p l e R s m args below meth c G me Q n0 w0 pc ls st M := fun H locs sl hL hR hS =>
  lv_ldcw X.1 X.2.1 X.2.2.2.1 (X.2.2.2.2.1 _ (inTB (of_decide_eq_true (ckRows_spec ckKI_all hk)) rfl)) hd (kk H locs sl hL hR hS)
theorem w_ldc2 {k : Nat} {z : Int × Nat} (X : Ctx p R s m args meth c G me d) (hd : decode (byt me) pc = .ok (.ldc2_w k, 3)) (hk : klong me.2.1 k = some z) (kk : WW p l e R s m args below meth c G me Q n0 w0 (pc + 3) ls (.long (lI z.1) :: st) M) : WW p l e R s m args below meth c G me Q n0 w0 pc ls st M := fun H locs sl hL hR hS =>
  lv_ldc2 X.1 X.2.1 X.2.2.2.1 (X.2.2.2.2.1 _ (inTB (of_decide_eq_true (ckRows_spec ckKL_all hk)) rfl)) hd (kk H locs sl hL hR hS)
theorem kstr_range {own n : Nat} {q : Nat × Nat} (h : kstr own n = some q) : q.1 ≠ 0 ∧ q.1 < 100 := by
  have hk : ckRows kstrT (fun _ _ q => !(Nat.beq q.1 0) && Nat.blt q.1 100) = true := by decide +kernel
  have h1 := ckRows_spec hk h
  simp only [Bool.and_eq_true] at h1
  refine ⟨fun e => ?_, blt_lt h1.2⟩
  rw [e] at h1
  exact absurd h1.1 (by decide)
theorem w_ldcS {k : Nat} {q : Nat × Nat} (X : Ctx p R s m args meth c G me d) (hd : decode (byt me) pc = .ok (.ldc k, 2)) (hk : kstr me.2.1 k = some q) (kk : WW p l e R s m args below meth c G me Q n0 w0 (pc + 2) ls (.ref q.1 :: st) M) : WW p l e R s m args below meth c G me Q n0 w0 pc ls st M := by
  intro H locs sl hL hR hS
  obtain ⟨tx, a, e1, e2⟩ := X.2.2.2.2.2.2.1.2.2.1 _ _ _ hk
  have h := kk H locs sl hL hR hS
  obtain ⟨k0, k1⟩ := kstr_range hk
  rw [List.map_cons, show cv G (.ref q.1) = .ref a by show va_rf (adr G q.1) = _; unfold adr; rw [if_neg k0, if_pos k1, e1]; rfl] at h
  exact va_ldcS X.1 X.2.1 X.2.2.2.1 e2 hd h
theorem w_gst {k : Nat} {q : Nat × Nat} {v : Value} (X : Ctx p R s m args meth c G me d) (hd : decode (byt me) pc = .ok (.getstatic k, 3)) (hk : gst me.2.1 k = some q) (hv : v = bb (Nat.beq q.1 1) (.int (iI 1)) (.ref 2)) (kk : WW p l e R s m args below meth c G me Q n0 w0 (pc + 3) ls (v :: st) M) : WW p l e R s m args below meth c G me Q n0 w0 pc ls st M := by
  intro H locs sl hL hR hS
  have h := kk H locs sl hL hR hS
  have hc := ckRows_spec ckG_all hk
  rw [List.map_cons] at h
  cases hb : Nat.beq q.1 1 with
  | true =>
    rw [hb] at hc hv
    subst hv
    exact va_gets X.1 X.2.1 X.2.2.2.2.2.2.1.2.2.2.1 hS X.2.2.2.1 (X.2.2.2.2.1 _ (inTB (of_decide_eq_true hc) rfl)) (fun _ h => h) hd h
  | false =>
    rw [hb] at hc hv
    subst hv
    exact va_gets X.1 X.2.1 X.2.2.2.2.2.2.1.2.2.2.2.1 hS X.2.2.2.1 (X.2.2.2.2.1 _ (inTB (of_decide_eq_true hc) rfl)) (fun _ h => h) hd h
/-! the script, the texts -/
theorem isK_low {a k : Nat} (hk : isK O1 M a k = true) (h0 : k ≠ 0) (h4 : k < 4) : (sh0 a).1 = k ∧ a < 100 := by
  obtain ⟨h1, h2⟩ := s1_kind hk h0
  refine ⟨h1, ?_⟩
  rcases Nat.lt_or_ge a 100 with q | q
  · exact q
  · have hk2 : ∀ j, j < 116 → 4 ≤ (shT.getD j (0, 0)).1 := by decide +kernel
    rcases Nat.lt_or_ge (a - 100) 116 with z | z
    · have := hk2 _ z
      unfold sh0 at h1
      rw [show Nat.ble 100 a = true from Nat.ble_eq_true_of_le q] at h1
      dsimp only at h1
      omega
    · unfold sh0 at h1
      rw [show Nat.ble 100 a = true from Nat.ble_eq_true_of_le q] at h1
      dsimp only at h1
      have hl : shT.length = 116 := by decide +kernel
      rw [List.getD_eq_getElem?_getD, List.getElem?_eq_none (by rw [hl]; exact z)] at h1
      exact absurd h1.symm h0
theorem sh_script {a : Nat} (h : (sh0 a).1 = 1) (h100 : a < 100) : a = 1 := by
  have hk : ∀ j, j < 100 → (sh0 j).1 = 1 → j = 1 := by decide +kernel
  exact hk a h100 h
theorem sh_str {a : Nat} (h : (sh0 a).1 = 2) (h100 : a < 100) : ∃ i, i < 22 ∧ a = 10 + 2 * i := by
  have hk : ∀ j, j < 100 → (sh0 j).1 = 2 → (j - 10) / 2 < 22 ∧ j = 10 + 2 * ((j - 10) / 2) := by decide +kernel
  exact ⟨_, hk a h100 h⟩
theorem sh_txt {a : Nat} (h : (sh0 a).1 = 3) (h100 : a < 100) : ∃ i, i < 22 ∧ a = 11 + 2 * i ∧ (sh0 a).2 = (txtT.getD i []).length := by
  have hk : ∀ j, j < 100 → (sh0 j).1 = 3 → (j - 11) / 2 < 22 ∧ j = 11 + 2 * ((j - 11) / 2) ∧ (sh0 j).2 = (txtT.getD ((j - 11) / 2) []).length := by decide +kernel
  exact ⟨_, hk a h100 h⟩
theorem cv_low {a q : Nat} (h0 : a ≠ 0) (h : a < 100) (hq : G.2.2.2.1 a = some q) : cv G (.ref a) = .ref q := by
  show va_rf (adr G a) = _
  unfold adr; rw [if_neg h0, if_pos h, hq]; rfl
theorem w_sld {a : Nat} {i : Int32} (X : Ctx p R s m args meth c G me d) (hd : decode (byt me) pc = .ok (.iaload, 1)) (hk : isK O1 M a 1 = true) (hi : inb i (ix (M.2.2.1 0 0)) = true) (kk : WW p l e R s m args below meth c G me Q n0 w0 (pc + 1) ls (.int (M.2.2.1 a (ix i)) :: st) M) : WW p l e R s m args below meth c G me Q n0 w0 pc ls (.int i :: .ref a :: st) M := by
  intro H locs sl hL hR hS
  obtain ⟨h1, h2⟩ := isK_low hk (by decide) (by decide)
  have ha := sh_script h1 h2
  subst ha
  obtain ⟨b, hb, hT⟩ := X.2.2.2.2.2.2.1.1
  have hh := kk H locs sl hL hR hS
  rw [List.map_cons] at hh
  rw [List.map_cons, List.map_cons, cv_low (by decide) (by decide) hb]
  have hlen : ix (M.2.2.1 0 0) = G.2.2.2.2.1 := by
    rw [hR.2.2.2.1]
    exact Int32.toNatClampNeg_ofNat_of_lt (by have := hR.2.2.2.2; omega)
  rw [hlen] at hi
  have hin := inb_in hi
  refine va_ti X.1 X.2.1 hT hS hin ?_ hd hh
  show Value.int (G.2.2.2.2.2 (ix i)) = .int (M.2.2.1 1 (ix i))
  rw [hR.2.2.1 (ix i) (Nat.not_le.mp fun q => hin (Or.inr q))]
theorem w_slen {a : Nat} (X : Ctx p R s m args meth c G me d) (hd : decode (byt me) pc = .ok (.arraylength, 1)) (hk : isK O1 M a 1 = true) (kk : WW p l e R s m args below meth c G me Q n0 w0 (pc + 1) ls (.int (M.2.2.1 0 0) :: st) M) : WW p l e R s m args below meth c G me Q n0 w0 pc ls (.ref a :: st) M := by
  intro H locs sl hL hR hS
  obtain ⟨h1, h2⟩ := isK_low hk (by decide) (by decide)
  have ha := sh_script h1 h2
  subst ha
  obtain ⟨b, hb, hT⟩ := X.2.2.2.2.2.2.1.1
  have hh := kk H locs sl hL hR hS
  rw [List.map_cons] at hh
  rw [List.map_cons, cv_low (by decide) (by decide) hb]
  exact va_tlen X.1 X.2.1 hT hS hR.2.2.2.1.symm hd hh
theorem w_tb {a : Nat} {i : Int32} (X : Ctx p R s m args meth c G me d) (hd : decode (byt me) pc = .ok (.baload, 1)) (hk : isK O1 M a 3 = true) (hi : inb i (oS O1 M a).2 = true) (kk : WW p l e R s m args below meth c G me Q n0 w0 (pc + 1) ls (.int (txt a (ix i)) :: st) M) : WW p l e R s m args below meth c G me Q n0 w0 pc ls (.int i :: .ref a :: st) M := by
  intro H locs sl hL hR hS
  obtain ⟨h1, h2⟩ := isK_low hk (by decide) (by decide)
  obtain ⟨j, hj, ha, hlen⟩ := sh_txt h1 h2
  obtain ⟨k, v, q1, q2, -, -, -, hT⟩ := X.2.2.2.2.2.2.1.2.1 j hj
  have hh := kk H locs sl hL hR hS
  rw [List.map_cons] at hh
  have e0 : oS O1 M a = sh0 a := by
    show bb (Nat.blt a (100 + M.1)) (sh0 a) (0, 0) = sh0 a
    rw [lt_blt (show a < 100 + M.1 by omega)]
    rfl
  rw [e0, hlen] at hi
  rw [List.map_cons, List.map_cons, cv_low (by omega) h2 (by rw [ha]; exact q2)]
  refine va_tb X.1 X.2.1 hT hS (inb_in hi) ?_ hd hh
  rw [ha]
  rfl
theorem w_tlen {a : Nat} (X : Ctx p R s m args meth c G me d) (hd : decode (byt me) pc = .ok (.arraylength, 1)) (hk : isK O1 M a 3 = true) (kk : WW p l e R s m args below meth c G me Q n0 w0 (pc + 1) ls (.int (iI (oS O1 M a).2) :: st) M) : WW p l e R s m args below meth c G me Q n0 w0 pc ls (.ref a :: st) M := by
  intro H locs sl hL hR hS
  obtain ⟨h1, h2⟩ := isK_low hk (by decide) (by decide)
  obtain ⟨j, hj, ha, hlen⟩ := sh_txt h1 h2
  obtain ⟨k, v, q1, q2, -, -, -, hT⟩ := X.2.2.2.2.2.2.1.2.1 j hj
  have hh := kk H locs sl hL hR hS
  rw [List.map_cons] at hh
  have e0 : oS O1 M a = sh0 a := by
    show bb (Nat.blt a (100 + M.1)) (sh0 a) (0, 0) = sh0 a
    rw [lt_blt (show a < 100 + M.1 by omega)]
    rfl
  rw [List.map_cons, cv_low (by omega) h2 (by rw [ha]; exact q2)]
  exact va_tlen X.1 X.2.1 hT hS (by rw [e0, hlen]; exact iI_nat _) hd hh
theorem w_alen {a k t0 : Nat} {ty : FieldType} (X : Ctx p R s m args meth c G me d) (hd : decode (byt me) pc = .ok (.arraylength, 1)) (hk : isK O1 M a k = true) (h40 : 40 ≤ k) (ht : (TYS G)[t0]? = some (G.2.1 k, ty)) (kk : WW p l e R s m args below meth c G me Q n0 w0 (pc + 1) ls (.int (iI (oS O1 M a).2) :: st) M) : WW p l e R s m args below meth c G me Q n0 w0 pc ls (.ref a :: st) M := by
  intro H locs sl hL hR hS
  obtain ⟨h1, h2⟩ := s1_kind hk (by omega)
  have h100 : 100 ≤ a := kind_ge (by omega)
  have hc := hR.arr (a := a) (by omega) h100 h2
  rw [h1] at hc
  have hh := kk H locs sl hL hR hS
  rw [List.map_cons] at hh
  have e0 : oS O1 M a = sh0 a := by
    show bb (Nat.blt a (100 + M.1)) (sh0 a) (0, 0) = sh0 a
    rw [lt_blt h2]
    rfl
  rw [List.map_cons, cv_ref h100]
  refine W.alen (n := iI (oS O1 M a).2) X.1 X.2.1 hc ((X.2.2.2.2.2.1.2 t0 _ ht).1 _ _) ?_ rfl rfl hd hh
  rw [arrV_size, e0]
  exact iI_nat _
theorem w_getS {n a : Nat} {f : Nat × Nat × Nat × Bool × Nat} (X : Ctx p R s m args meth c G me d) (hd : decode (byt me) pc = .ok (.getfield n, 3)) (hf : fres me.2.1 n = some f) (h2 : f.1 = 2) (hk : isK O1 M a 2 = true) (kk : (f.2.2.1 = 4 → WW p l e R s m args below meth c G me Q n0 w0 (pc + 3) ls (.int (iI 0) :: st) M) ∧ (f.2.2.1 = 5 → WW p l e R s m args below meth c G me Q n0 w0 (pc + 3) ls (.ref (a + 1) :: st) M)) : WW p l e R s m args below meth c G me Q n0 w0 pc ls (.ref a :: st) M := by
  intro H locs sl hL hR hS
  obtain ⟨h1, h3⟩ := isK_low hk (by decide) (by decide)
  obtain ⟨j, hj, ha⟩ := sh_str h1 h3
  obtain ⟨k, v, q1, q2, -, hC, hV, -⟩ := X.2.2.2.2.2.2.1.2.1 j hj
  have hc := ckRows_spec ckF_all hf
  unfold ckF at hc
  rw [h2, show Nat.beq 2 2 = true from rfl] at hc
  dsimp only at hc
  rw [List.map_cons, cv_low (by omega) h3 (by rw [ha]; exact q1)]
  cases hb : Nat.beq f.2.1 0 with
  | true =>
    rw [hb] at hc
    simp only [Bool.and_eq_true] at hc
    have hh := kk.2 (Nat.eq_of_beq_eq_true hc.1) H locs sl hL hR hS
    rw [List.map_cons, cv_low (q := v) (by omega) (by omega) (by rw [ha, show 10 + 2 * j + 1 = 11 + 2 * j by omega]; exact q2)] at hh
    exact vk_getf X.1 X.2.1 hV hS X.2.2.2.1 (X.2.2.2.2.1 _ (inTB (of_decide_eq_true hc.2) rfl)) (fun _ h => h) hd hh
  | false =>
    rw [hb] at hc
    simp only [Bool.and_eq_true] at hc
    have hh := kk.1 (Nat.eq_of_beq_eq_true hc.1) H locs sl hL hR hS
    exact vk_getf X.1 X.2.1 hC hS X.2.2.2.1 (X.2.2.2.2.1 _ (inTB (of_decide_eq_true hc.2) rfl)) (fun _ h => h) hd hh
end Steps4
