/-! THE WORLD: how the interpreter's memory stands in the machine's heap. -/
abbrev Wd : Type := va_G × (Nat → ClassId) × Nat × (Nat → Option Nat) × Nat × (Nat → Int32)
def adr (G : Wd) (n : Nat) : Option Nat := if n = 0 then none else if n < 100 then G.2.2.2.1 n else some (G.2.2.1 + (n - 100))
def cv (G : Wd) : Value → Value
  | .ref n => va_rf (adr G n)
  | v => v
def rv (G : Wd) : Value → Option Value
  | .null => none
  | v => some (cv G v)
/-- how many cells, how many slots are made; ints, longs, references -/
abbrev M1 : Type := Nat × Nat × (Nat → Nat → Int32) × (Nat → Nat → Int64) × (Nat → Nat → Nat)
def row0 {α : Type} (f : Nat → Nat → α) (a : Nat) (z : α) : Nat → Nat → α := fun a' => if a' = a then (fun _ => z) else f a'
def s1 (m : M1) (a : Nat) : Nat × Nat := bb (Nat.blt a (100 + m.1)) (sh0 a) (0, 0)
def n1 (m : M1) (sh : Nat × Nat) (w : Nat) : Option (Nat × M1) := bb (decide (sh0 (100 + m.1) = sh)) (some (100 + m.1, (m.1 + 1, m.2.1 + w, row0 m.2.2.1 (100 + m.1) 0, row0 m.2.2.2.1 (100 + m.1) 0, row0 m.2.2.2.2 (100 + m.1) 0))) none
def i1 (m : M1) (a k : Nat) (v : Int32) : M1 := (m.1, m.2.1, up2 m.2.2.1 a k v, m.2.2.2)
def l1 (m : M1) (a k : Nat) (v : Int64) : M1 := (m.1, m.2.1, m.2.2.1, up2 m.2.2.2.1 a k v, m.2.2.2.2)
def r1 (m : M1) (a k : Nat) (v : Nat) : M1 := (m.1, m.2.1, m.2.2.1, m.2.2.2.1, up2 m.2.2.2.2 a k v)
def O1 : Ops M1 := (s1, fun m a k => m.2.2.1 a k, fun m a k => m.2.2.2.1 a k, fun m a k => m.2.2.2.2 a k, i1, l1, fun m a k v => some (r1 m a k v), n1)
def nF (ci : Nat) : Nat := (ftyT.getD ci []).length
def fV (G : Wd) (m : M1) (id ci k : Nat) : Value := match (ftyT.getD ci []).getD k 0 with
  | 1 => .long (m.2.2.2.1 id k)
  | 2 => va_rf (adr G (m.2.2.2.2 id k))
  | _ => .int (m.2.2.1 id k)
def aV (G : Wd) (m : M1) (id kd j : Nat) : Value := if kd = 43 then .long (m.2.2.2.1 id j) else if 44 ≤ kd then va_rf (adr G (m.2.2.2.2 id j)) else .int (m.2.2.1 id j)
def ad (G : Wd) (id : Nat) : Nat := G.2.2.1 + (id - 100)
def RepC (G : Wd) (m : M1) (H : Heap) (id : Nat) : Prop := if (sh0 id).1 < 40 then t_OB (ad G id) (G.1.1 ((sh0 id).1 - 10)) (nF ((sh0 id).1 - 10)) (G.1.2 ((sh0 id).1 - 10)) H (fV G m id ((sh0 id).1 - 10)) else H[ad G id]? = some (arrV (G.2.1 (sh0 id).1) (sh0 id).2 (aV G m id (sh0 id).1))
def RepH (G : Wd) (m : M1) (H : Heap) : Prop := H.size = G.2.2.1 + m.1 ∧ (∀ id, 100 ≤ id → id < 100 + m.1 → RepC G m H id) ∧ (∀ j, j < G.2.2.2.2.1 → m.2.2.1 1 j = G.2.2.2.2.2 j) ∧ m.2.2.1 0 0 = Int32.ofNat G.2.2.2.2.1 ∧ G.2.2.2.2.1 ≤ 3072
def AA (G : Wd) : Nat → Prop := fun q => G.2.2.1 ≤ q
def TYS (G : Wd) : List (ClassId × FieldType) := [(G.2.1 40, .int), (G.2.1 41, .byte), (G.2.1 42, .boolean), (G.2.1 43, .long), (G.2.1 44, .object "RoseWall$Room"), (G.2.1 45, .object "RoseWall$Moment"), (G.2.1 46, .object "RoseWall$Tray")]
def KX (G : Wd) (U : State) : Prop := va_K G.1 vwCl (TYS G) U
def StrX (G : Wd) (U : State) (H : Heap) (i : Nat) : Prop := ∃ k v : Nat, G.2.2.2.1 (10 + 2 * i) = some k ∧ G.2.2.2.1 (11 + 2 * i) = some v ∧ va_O "java/lang/String" k (AA G) U H ∧ va_OF "java/lang/String" "coder" "B" (.int 0) k (AA G) U H ∧ va_OF "java/lang/String" "value" "[B" (.ref v) k (AA G) U H ∧ va_T .byte v (txtT.getD i []).length (fun j => .int (txt (11 + 2 * i) j)) (AA G) U H
def Ext (G : Wd) (U : State) (H : Heap) : Prop :=
  (∃ b : Nat, G.2.2.2.1 1 = some b ∧ va_T .int b G.2.2.2.2.1 (fun j => .int (G.2.2.2.2.2 j)) (AA G) U H) ∧
  (∀ i, i < 22 → StrX G U H i) ∧
  (∀ own n q, kstr own n = some q → ∃ tx k, G.2.2.2.1 q.1 = some k ∧ vk_R (ownN own) n tx k U) ∧
  va_Z "java/lang/String" "COMPACT_STRINGS" "Z" (.int 1) (AA G) U H ∧
  va_Z "jdk/internal/util/Preconditions" "SIOOBE_FORMATTER" "Ljava/util/function/BiFunction;" (va_rf (G.2.2.2.1 2)) (AA G) U H ∧
  (va_AO "RoseWall$Room" U ∧ va_AO "RoseWall$Moment" U ∧ va_AO "RoseWall$Tray" U) ∧
  (∀ own n q, mrow own n = some q → q.2.2.2.2 ≠ 0 → va_Nw (.methodLinkNest (ownN own) n (nmT.getD q.1 ⟨"", "", ""⟩) "RoseWall") U)
theorem Ext.go {G : Wd} {u U : State} {H H1 : Heap} (hA : u.vm.Alike U.vm) (hR : ∀ own k tx a, vk_R own k tx a u → vk_R own k tx a U) (hN : ∀ own n y, va_Nw (.methodLinkNest own n y "RoseWall") u → va_Nw (.methodLinkNest own n y "RoseWall") U) (hq : ∀ a : Nat, a < H.size → ¬ AA G a → H1[a]? = H[a]?) (h : Ext G u H) : Ext G U H1 := by
  obtain ⟨⟨b, hb, hT⟩, hS, hK, hZ1, hZ2, ⟨a1, a2, a3⟩, hM⟩ := h
  refine ⟨⟨b, hb, (hT.moved hA).kept hq⟩, fun i hi => ?_, fun own n q h => ?_, (hZ1.moved hA).kept hq, (hZ2.moved hA).kept hq, ⟨a1.moved hA, a2.moved hA, a3.moved hA⟩, fun own n q h1 h2 => hN _ _ _ (hM own n q h1 h2)⟩
  · obtain ⟨k, v, e1, e2, q1, q2, q3, q4⟩ := hS i hi
    exact ⟨k, v, e1, e2, (q1.moved hA).kept hq, (q2.moved hA).kept hq, (q3.moved hA).kept hq, (q4.moved hA).kept hq⟩
  · obtain ⟨tx, k, e1, e2⟩ := hK own n q h
    exact ⟨tx, k, e1, hR _ _ _ _ e2⟩
theorem Ext.warm {G : Wd} {u U : State} {H H1 : Heap} (hW : u.WarmedH U.vm) (hq : ∀ a : Nat, a < H.size → ¬ AA G a → H1[a]? = H[a]?) (h : Ext G u H) : Ext G U H1 :=
  Ext.go hW.alike (fun _ _ _ _ h => vk_R.warm hW h) (fun _ _ _ h => va_Nw.warmM hW h) hq h
theorem Ext.same {G : Wd} {u U : State} {H : Heap} (hv : U.vm = u.vm) (h : Ext G u H) : Ext G U H :=
  Ext.go (by rw [hv]; exact Vm.Alike.refl u.vm) (fun _ _ _ _ h => vk_R.same hv h) (fun _ _ _ h => va_Nw.same rfl hv.symm h) (fun _ _ _ => rfl) h
theorem blt_lt {a b : Nat} (h : Nat.blt a b = true) : a < b := Nat.le_of_ble_eq_true h
theorem lt_blt {a b : Nat} (h : a < b) : Nat.blt a b = true := Nat.ble_eq_true_of_le h
/-! locals -/
def okL (l : List Value) (i : Nat) (v : Value) : Prop := match v with
  | .int _ => True
  | .ref _ => True
  | .long _ => l[i + 1]? = some mk2
  | _ => False
def LH (G : Wd) (sl : Array Slot) (nL : Nat) (l : List Value) : Prop := sl.size = nL ∧ l.length = nL ∧ lv_wf sl ∧ ∀ i v, l[i]? = some v → okL l i v → sl[i]? = some (.val (cv G v))
noncomputable def prs (G : Wd) (l : List Value) : List (Nat × Value) := (List.range l.length).filterMap (fun i => match l[i]? with
  | some v => @ite _ (okL l i v) (Classical.propDecidable _) (some (i, cv G v)) none
  | none => none)
theorem prs_mem {G : Wd} {l : List Value} {q : Nat × Value} : q ∈ prs G l ↔ ∃ v, l[q.1]? = some v ∧ okL l q.1 v ∧ q.2 = cv G v := by
  unfold prs
  rw [List.mem_filterMap]
  constructor
  · rintro ⟨i, -, h⟩
    split at h
    · rename_i v hv
      by_cases ho : okL l i v
      · rw [if_pos ho] at h
        cases h
        exact ⟨v, hv, ho, rfl⟩
      · rw [if_neg ho] at h
        cases h
    · cases h
  · rintro ⟨v, hv, ho, e⟩
    refine ⟨q.1, List.mem_range.mpr (List.getElem?_eq_some_iff.mp hv).1, ?_⟩
    rw [hv]
    show @ite _ (okL l q.1 v) (Classical.propDecidable _) (some (q.1, cv G v)) none = some q
    rw [if_pos ho, ← e]
theorem LH.has {G : Wd} {sl : Array Slot} {nL : Nat} {l : List Value} (h : LH G sl nL l) : lv_has sl nL (prs G l) := by
  refine ⟨h.1, h.2.2.1, fun q hq => ?_⟩
  obtain ⟨v, hv, ho, e⟩ := prs_mem.mp hq
  rw [e]
  exact h.2.2.2 _ _ hv ho
theorem cat_rf (r : Option Nat) : (va_rf r).category = 1 := by cases r <;> rfl
theorem cat_cv1 {G : Wd} {v : Value} (h : ¬ ∃ x, v = .long x) (hd : ∀ x, v ≠ .double x) : (cv G v).category = 1 := by
  cases v with
  | ref n => exact cat_rf _
  | long x => exact absurd ⟨x, rfl⟩ h
  | double x => exact absurd rfl (hd x)
  | _ => rfl
theorem LH.set1 {G : Wd} {sl sl' : Array Slot} {nL : Nat} {l : List Value} {i : Nat} {v : Value} (h : LH G sl nL l) (hi : i < nL) (hv1 : (∃ x, v = .int x) ∨ ∃ x, v = .ref x) (h' : lv_has sl' nL ((i, cv G v) :: (prs G l).filter (fun q => !(q.1 == i) && !(q.1 + 1 == i && q.2.category == 2)))) : LH G sl' nL (l.set i v) := by
  refine ⟨h'.1, by rw [List.length_set]; exact h.2.1, h'.2.1, fun j w hj ho => ?_⟩
  by_cases hji : j = i
  · subst hji
    rw [List.getElem?_set_self (by rw [h.2.1]; exact hi)] at hj
    cases hj
    exact h'.2.2 (j, cv G v) List.mem_cons_self
  · rw [List.getElem?_set_ne (Ne.symm hji)] at hj
    have ho2 : okL l j w ∧ (∀ x, w = .long x → j + 1 ≠ i) := by
      cases w with
      | long x =>
        have ho3 : (l.set i v)[j + 1]? = some mk2 := ho
        by_cases hi1 : j + 1 = i
        · rw [hi1, List.getElem?_set_self (by rw [h.2.1]; exact hi)] at ho3
          rcases hv1 with ⟨x, rfl⟩ | ⟨x, rfl⟩ <;> simp [mk2] at ho3
        · rw [List.getElem?_set_ne (Ne.symm hi1)] at ho3
          exact ⟨ho3, fun _ _ => hi1⟩
      | int x => exact ⟨trivial, fun x e => by cases e⟩
      | ref x => exact ⟨trivial, fun x e => by cases e⟩
      | _ => exact absurd ho (by simp [okL])
    refine h'.2.2 (j, cv G w) (List.mem_cons_of_mem _ (List.mem_filter.mpr ⟨prs_mem.mpr ⟨w, hj, ho2.1, rfl⟩, ?_⟩))
    have e1 : (j == i) = false := by simp [hji]
    have e2 : (j + 1 == i && (cv G w).category == 2) = false := by
      cases w with
      | long x => simp [ho2.2 x rfl]
      | ref x => simp [cv, cat_rf]
      | int x => simp [cv, Value.category]
      | _ => exact absurd ho2.1 (by simp [okL])
    show (!(j == i) && !(j + 1 == i && (cv G w).category == 2)) = true
    rw [e1, e2]; rfl
theorem LH.set2 {G : Wd} {sl sl' : Array Slot} {nL : Nat} {l : List Value} {i : Nat} {x : Int64} (h : LH G sl nL l) (hi : i + 1 < nL) (h' : lv_has sl' nL ((i, Value.long x) :: (prs G l).filter (fun q => !(q.1 == i) && (!(q.1 == i + 1) && !(q.1 + 1 == i && q.2.category == 2))))) : LH G sl' nL ((l.set i (.long x)).set (i + 1) mk2) := by
  have hl := h.2.1
  refine ⟨h'.1, by rw [List.length_set, List.length_set]; exact h.2.1, h'.2.1, fun j w hj ho => ?_⟩
  by_cases hj2 : j = i + 1
  · subst hj2
    rw [List.getElem?_set_self (by rw [List.length_set, hl]; exact hi)] at hj
    cases hj
    exact absurd ho (by simp [okL, mk2])
  · rw [List.getElem?_set_ne (Ne.symm hj2)] at hj
    by_cases hji : j = i
    · subst hji
      rw [List.getElem?_set_self (by rw [hl]; omega)] at hj
      cases hj
      exact h'.2.2 (j, .long x) List.mem_cons_self
    · rw [List.getElem?_set_ne (Ne.symm hji)] at hj
      have ho2 : okL l j w ∧ (∀ x, w = .long x → j + 1 ≠ i) := by
        cases w with
        | long y =>
          have ho3 : ((l.set i (.long x)).set (i + 1) mk2)[j + 1]? = some mk2 := ho
          rw [List.getElem?_set_ne (by omega)] at ho3
          by_cases hi1 : j + 1 = i
          · rw [hi1, List.getElem?_set_self (by rw [hl]; omega)] at ho3
            simp [mk2] at ho3
          · rw [List.getElem?_set_ne (Ne.symm hi1)] at ho3
            exact ⟨ho3, fun _ _ => hi1⟩
        | int y => exact ⟨trivial, fun x e => by cases e⟩
        | ref y => exact ⟨trivial, fun x e => by cases e⟩
        | _ => exact absurd ho (by simp [okL])
      refine h'.2.2 (j, cv G w) (List.mem_cons_of_mem _ (List.mem_filter.mpr ⟨prs_mem.mpr ⟨w, hj, ho2.1, rfl⟩, ?_⟩))
      have e1 : (j == i) = false := by simp [hji]
      have e3 : (j == i + 1) = false := by simp [hj2]
      have e2 : (j + 1 == i && (cv G w).category == 2) = false := by
        cases w with
        | long y => simp [ho2.2 y rfl]
        | ref y => simp [cv, cat_rf]
        | int y => simp [cv, Value.category]
        | _ => exact absurd ho2.1 (by simp [okL])
      show (!(j == i) && (!(j == i + 1) && !(j + 1 == i && (cv G w).category == 2))) = true
      rw [e1, e2, e3]; rfl
/-! memory and heap -/
theorem ad_inj {G : Wd} {a b : Nat} (ha : 100 ≤ a) (hb : 100 ≤ b) (h : ad G a = ad G b) : a = b := by
  unfold ad at h; omega
theorem RepC.kept {G : Wd} {m m' : M1} {H H' : Heap} {id : Nat} (h : RepC G m H id) (e : H'[ad G id]? = H[ad G id]?) (h1 : m'.2.2.1 id = m.2.2.1 id) (h2 : m'.2.2.2.1 id = m.2.2.2.1 id) (h3 : m'.2.2.2.2 id = m.2.2.2.2 id) : RepC G m' H' id := by
  have ea : aV G m' id (sh0 id).1 = aV G m id (sh0 id).1 := by funext j; unfold aV; rw [h1, h2, h3]
  have ef : fV G m' id ((sh0 id).1 - 10) = fV G m id ((sh0 id).1 - 10) := by funext j; unfold fV; rw [h1, h2, h3]
  unfold RepC at *
  by_cases hk : (sh0 id).1 < 40
  · rw [if_pos hk] at *
    rw [ef]
    exact h.kept e
  · rw [if_neg hk] at *
    rw [ea, e]
    exact h
/-- a cell is written: the rest stays -/
theorem RepH.put {G : Wd} {m m' : M1} {H H' : Heap} {id : Nat} (h : RepH G m H) (hid : 100 ≤ id) (hn : m'.1 = m.1) (hz : H'.size = H.size) (ho : ∀ q, q ≠ ad G id → H'[q]? = H[q]?) (hr : ∀ a, a ≠ id → m'.2.2.1 a = m.2.2.1 a ∧ m'.2.2.2.1 a = m.2.2.2.1 a ∧ m'.2.2.2.2 a = m.2.2.2.2 a) (hc : RepC G m' H' id) : RepH G m' H' := by
  obtain ⟨g1, g2, g3, g4, g5⟩ := h
  refine ⟨by rw [hz, hn]; exact g1, fun a h1 h2 => ?_, fun j hj => ?_, ?_, g5⟩
  · by_cases ha : a = id
    · rw [ha]; exact hc
    · rw [hn] at h2
      exact (g2 a h1 h2).kept (ho _ (fun e => ha (ad_inj h1 hid e))) (hr a ha).1 (hr a ha).2.1 (hr a ha).2.2
  · rw [(hr 1 (by omega)).1]; exact g3 j hj
  · rw [(hr 0 (by omega)).1]; exact g4
/-- a cell is made -/
def mNew (m : M1) (w : Nat) : M1 := (m.1 + 1, m.2.1 + w, row0 m.2.2.1 (100 + m.1) 0, row0 m.2.2.2.1 (100 + m.1) 0, row0 m.2.2.2.2 (100 + m.1) 0)
theorem RepH.push {G : Wd} {m : M1} {H H' : Heap} {w : Nat} (h : RepH G m H) (hz : H'.size = H.size + 1) (ho : ∀ q, q < H.size → H'[q]? = H[q]?) (hc : RepC G (mNew m w) H' (100 + m.1)) : RepH G (mNew m w) H' := by
  obtain ⟨g1, g2, g3, g4, g5⟩ := h
  refine ⟨by rw [hz, g1]; rfl, fun a h1 h2 => ?_, fun j hj => ?_, ?_, g5⟩
  · by_cases ha : a = 100 + m.1
    · rw [ha]; exact hc
    · have h2' : a < 100 + m.1 := by have : a < 100 + (m.1 + 1) := h2; omega
      refine (g2 a h1 h2').kept (ho _ ?_) (by simp [mNew, row0, ha]) (by simp [mNew, row0, ha]) (by simp [mNew, row0, ha])
      unfold ad; rw [g1]; omega
  · show row0 m.2.2.1 (100 + m.1) 0 1 j = _
    rw [show row0 m.2.2.1 (100 + m.1) 0 1 = m.2.2.1 1 by unfold row0; rw [if_neg (by omega)]]
    exact g3 j hj
  · show row0 m.2.2.1 (100 + m.1) 0 0 0 = _
    rw [show row0 m.2.2.1 (100 + m.1) 0 0 = m.2.2.1 0 by unfold row0; rw [if_neg (by omega)]]
    exact g4
theorem s1_kind {m : M1} {a k : Nat} (h : isK O1 m a k = true) (hk : k ≠ 0) : (sh0 a).1 = k ∧ a < 100 + m.1 := by
  have h1 : Nat.beq (s1 m a).1 k = true := h
  have h2 := Nat.eq_of_beq_eq_true h1
  unfold s1 at h2
  cases hb : Nat.blt a (100 + m.1) with
  | true =>
    rw [hb] at h2
    exact ⟨h2, blt_lt hb⟩
  | false =>
    rw [hb] at h2
    exact absurd h2.symm hk
theorem sh0_low {a : Nat} (h : a < 100) : (sh0 a).1 < 4 := by
  unfold sh0
  rw [show Nat.ble 100 a = false from Bool.eq_false_iff.mpr (fun q => by have := Nat.le_of_ble_eq_true q; omega)]
  dsimp only
  split
  · decide
  · split
    · split
      · show 2 < 4; decide
      · show 3 < 4; decide
    · decide
theorem kind_ge {a : Nat} (h : 4 ≤ (sh0 a).1) : 100 ≤ a := by
  rcases Nat.lt_or_ge a 100 with q | q
  · have := sh0_low q; omega
  · exact q
theorem adr_ge {G : Wd} {a : Nat} (h : 100 ≤ a) : adr G a = some (ad G a) := by
  unfold adr ad
  rw [if_neg (by omega), if_neg (by omega)]
theorem inb_in {i : Int32} {n : Nat} (h : inb i n = true) : vp_in i n := by
  unfold inb at h
  rw [Bool.and_eq_true] at h
  have h1 : ¬ i < 0 := by simpa using h.1
  have h2 : ix i < n := blt_lt h.2
  rintro (q | q)
  · exact h1 q
  · exact absurd q (Nat.not_le.mpr h2)
theorem gb_some {α : Type} {b : Bool} {x : Option α} {r : α} (h : gb b x = some r) : b = true ∧ x = some r := by
  cases b
  · cases h
  · exact ⟨rfl, h⟩
