/-! THE WORLD at the start. -/
def adF (b : Nat) (fm : Option Nat) (ad : Nat → Nat × Nat) (n : Nat) : Option Nat := if n = 1 then some b else if n = 2 then fm else if n % 2 = 0 then some (ad ((n - 10) / 2)).1 else some (ad ((n - 11) / 2)).2
theorem adF_k (b : Nat) (fm : Option Nat) (ad : Nat → Nat × Nat) (i : Nat) : adF b fm ad (10 + 2 * i) = some (ad i).1 := by
  unfold adF
  rw [if_neg (by omega), if_neg (by omega), if_pos (by omega), show (10 + 2 * i - 10) / 2 = i by omega]
theorem adF_v (b : Nat) (fm : Option Nat) (ad : Nat → Nat × Nat) (i : Nat) : adF b fm ad (11 + 2 * i) = some (ad i).2 := by
  unfold adF
  rw [if_neg (by omega), if_neg (by omega), if_neg (by omega), show (11 + 2 * i - 11) / 2 = i by omega]
theorem nest_spec {own n : Nat} {q : Nat × Nat × Nat × Nat × Nat} (h : mrow own n = some q) (h0 : q.2.2.2.2 ≠ 0) : Cond.methodLinkNest (ownN own) n (nmT.getD q.1 ⟨"", "", ""⟩) "RoseWall" ∈ lw_tbl := by
  have hc := ckRows_spec ckR_all h
  unfold ckR at hc
  rw [Bool.and_eq_true, Bool.and_eq_true, Bool.and_eq_true, Bool.and_eq_true] at hc
  have h4 := hc.2.2.2.1
  rw [beq_f h0] at h4
  exact List.mem_of_getElem? (of_decide_eq_true h4)
theorem inst_all : ((List.range 13).all fun ci => decide (Cond.instantiable (ownN ci) (nF ci) ∈ lw_tbl)) = true := by decide +kernel
theorem kn_start {args : Array Value} {s : State} (hts : ∀ w ∈ lw_tbl, w.before args s = true) : ∃ (dC : Nat → ClassId) (dI : Nat → Nat → Nat), ∀ (c : Nat) (q : vw_C), vwCl[c]? = some q → u_Kn s q.1 q.2.1 q.2.2 (dC c) (dI c) := by
  have h0 : ∀ c : Nat, ∃ d : ClassId × (Nat → Nat), ∀ q : vw_C, vwCl[c]? = some q → u_Kn s q.1 q.2.1 q.2.2 d.1 d.2 := by
    intro c
    by_cases hc : c < 13
    · obtain ⟨r, h1, h2, h3, h4, -⟩ := vw_all c hc
      have hi := of_decide_eq_true (List.all_eq_true.mp inst_all c (List.mem_range.mpr hc))
      obtain ⟨cC, iS, hk⟩ := u_known (C := r.1) (T := r.2.1) (N := r.2.2) (n := nF c) hts (fun w hw => TB_tbl (h4 w hw)) (by rw [← h3]; exact hts _ hi)
      exact ⟨(cC, iS), fun q hq => by rw [h1] at hq; cases hq; exact hk⟩
    · exact ⟨(default, fun _ => 0), fun q hq => by
        have := (List.getElem?_eq_some_iff.mp hq).1
        exact absurd this hc⟩
  obtain ⟨d, hd⟩ := Classical.axiomOfChoice h0
  exact ⟨fun c => (d c).1, fun c => (d c).2, hd⟩
theorem arr_p {args : Array Value} {s : State} {ty : FieldType} (h : (Cond.arrayClass ty).before args s = true) (ho : ∀ C, ty ≠ .object C) : ∃ cA : ClassId, ArrOfT s cA ty ∧ va_RA s cA ty := by
  obtain ⟨c, k, comp, h1, h2, h3⟩ := Cond.arrayClass_spec h
  refine ⟨c, fun n z => ⟨fun k h => (by cases h), k, h2, comp, h3⟩, ?_⟩
  cases ty <;> first | exact h1 | exact absurd rfl (ho _)
theorem arr_o {args : Array Value} {s : State} {C : String} (h : (Cond.arrayOver (.object C)).before args s = true) : ∃ cA : ClassId, ArrOfT s cA (.object C) ∧ va_RA s cA (.object C) := by
  obtain ⟨comp, c, k, h1, h2, h3, h4, h5⟩ := Cond.arrayOver_spec h
  exact ⟨c, fun n z => ⟨fun k h => (by cases h), k, h3, comp, h4⟩, k, comp, h3, h4, h1, h5⟩
def kAf (a b c d e f g : ClassId) (k : Nat) : ClassId := if k = 40 then a else if k = 41 then b else if k = 42 then c else if k = 43 then d else if k = 44 then e else if k = 45 then f else g
theorem ext_start {args : Array Value} {s : State} (hgv : (Jvm.Cond.and given_1 narrow_1).before args s = true) (hts : ∀ w ∈ lw_tbl, w.before args s = true) : ∃ (dC : Nat → ClassId) (dI : Nat → Nat → Nat) (kA : Nat → ClassId) (fm : Option Nat) (ad : Nat → Nat × Nat), va_K (dC, dI) vwCl [(kA 40, .int), (kA 41, .byte), (kA 42, .boolean), (kA 43, .long), (kA 44, .object "RoseWall$Room"), (kA 45, .object "RoseWall$Moment"), (kA 46, .object "RoseWall$Tray")] s ∧
    (∀ i, i < 22 → vk_R (SKa i).1 (SKa i).2.1 (SKa i).2.2.2.2 (ad i).1 s ∧ va_O "java/lang/String" (ad i).1 (fun q => s.heap.size ≤ q) s s.heap ∧ va_OF "java/lang/String" "coder" "B" (.int 0) (ad i).1 (fun q => s.heap.size ≤ q) s s.heap ∧ va_OF "java/lang/String" "value" "[B" (.ref (ad i).2) (ad i).1 (fun q => s.heap.size ≤ q) s s.heap ∧ va_T .byte (ad i).2 (txtT.getD i []).length (fun j => .int (txt (11 + 2 * i) j)) (fun q => s.heap.size ≤ q) s s.heap) ∧
    va_Z "java/lang/String" "COMPACT_STRINGS" "Z" (.int 1) (fun q => s.heap.size ≤ q) s s.heap ∧
    va_Z "jdk/internal/util/Preconditions" "SIOOBE_FORMATTER" "Ljava/util/function/BiFunction;" (va_rf fm) (fun q => s.heap.size ≤ q) s s.heap ∧
    (∀ own n q, mrow own n = some q → q.2.2.2.2 ≠ 0 → va_Nw (.methodLinkNest (ownN own) n (nmT.getD q.1 ⟨"", "", ""⟩) "RoseWall") s) := by
  have hA : ∀ a : Nat, a < s.heap.size → ¬ (fun q : Nat => s.heap.size ≤ q) a := fun a h q => absurd h (Nat.not_lt.mpr q)
  have hs := flat_of_before NN hgv
  obtain ⟨dC, dI, hk⟩ := kn_start hts
  obtain ⟨c40, a40, b40⟩ := arr_p (hts _ (TB_tbl arrTB_int)) (fun C h => by cases h)
  obtain ⟨c41, a41, b41⟩ := arr_p (hts _ (TB_tbl arrTB_byte)) (fun C h => by cases h)
  obtain ⟨c42, a42, b42⟩ := arr_p (hts _ (TB_tbl arrTB_boolean)) (fun C h => by cases h)
  obtain ⟨c43, a43, b43⟩ := arr_p (hts _ (TB_tbl arrTB_long)) (fun C h => by cases h)
  obtain ⟨c44, a44, b44⟩ := arr_o (C := "RoseWall$Room") (hts _ (List.mem_of_getElem? (i := 228) (by decide +kernel)))
  obtain ⟨c45, a45, b45⟩ := arr_o (C := "RoseWall$Moment") (hts _ (List.mem_of_getElem? (i := 230) (by decide +kernel)))
  obtain ⟨c46, a46, b46⟩ := arr_o (C := "RoseWall$Tray") (hts _ (List.mem_of_getElem? (i := 273) (by decide +kernel)))
  obtain ⟨ad, had⟩ := str_start (A := fun q => s.heap.size ≤ q) hgv hts hA
  have hz1 : va_Z "java/lang/String" "COMPACT_STRINGS" "Z" (.int 1) (fun q => s.heap.size ≤ q) s s.heap := va_Zof (hts _ (List.mem_of_getElem? (i := 621) (by decide +kernel))) (hts _ (List.mem_of_getElem? (i := 128) (by decide +kernel))) (va_eqi (hs _ (List.mem_of_getElem? (i := 4) (by decide +kernel)))) hA
  have hz2 : va_Zq "jdk/internal/util/Preconditions" "SIOOBE_FORMATTER" "Ljava/util/function/BiFunction;" (fun q => s.heap.size ≤ q) s s.heap := va_Zqof (hts _ (List.mem_of_getElem? (i := 637) (by decide +kernel))) (hts _ (List.mem_of_getElem? (i := 130) (by decide +kernel))) (hs _ (List.mem_of_getElem? (i := 5) (by decide +kernel))) hA
  obtain ⟨fm, hfm⟩ : ∃ fm : Option Nat, va_Z "jdk/internal/util/Preconditions" "SIOOBE_FORMATTER" "Ljava/util/function/BiFunction;" (va_rf fm) (fun q => s.heap.size ≤ q) s s.heap := by
    rcases hz2 with h | ⟨t, h⟩
    · exact ⟨none, h⟩
    · exact ⟨some t, h⟩
  refine ⟨dC, dI, kAf c40 c41 c42 c43 c44 c45 c46, fm, ad, ⟨hk, fun k q h => ?_⟩, had, hz1, hfm, fun own n q h h0 => va_Nw.of rfl (hts _ (nest_spec h h0))⟩
  match k, h with
  | 0, h => cases h; exact ⟨a40, b40⟩
  | 1, h => cases h; exact ⟨a41, b41⟩
  | 2, h => cases h; exact ⟨a42, b42⟩
  | 3, h => cases h; exact ⟨a43, b43⟩
  | 4, h => cases h; exact ⟨a44, b44⟩
  | 5, h => cases h; exact ⟨a45, b45⟩
  | 6, h => cases h; exact ⟨a46, b46⟩
  | k + 7, h => simp at h
