/-! THE STRING CONSTANTS at the start. Written by wip/whole/gen/gen_str.py. -/
abbrev SKt : Type := String × Nat × Nat × Nat × String
def SKs : List SKt := [("RoseWall$Tokens", 90, 9, 607, "or"), ("RoseWall$Tokens", 96, 15, 660, "in"), ("RoseWall$Tokens", 98, 22, 661, "and"), ("RoseWall$Tokens", 100, 31, 662, "not"), ("RoseWall$Tokens", 102, 41, 663, "row"), ("RoseWall$Tokens", 104, 52, 664, "all"), ("RoseWall$Tokens", 121, 64, 669, "cell"), ("RoseWall$Tokens", 123, 78, 670, "face"), ("RoseWall$Tokens", 125, 93, 671, "goes"), ("RoseWall$Tokens", 127, 109, 672, "kind"), ("RoseWall$Tokens", 128, 126, 673, "near"), ("RoseWall$Tokens", 130, 144, 674, "open"), ("RoseWall$Tokens", 132, 163, 675, "wall"), ("RoseWall$Tokens", 109, 183, 676, "light"), ("RoseWall$Tokens", 111, 205, 677, "turns"), ("RoseWall$Tokens", 113, 228, 678, "tenant"), ("RoseWall$Tokens", 115, 253, 679, "turned"), ("RoseWall$Tokens", 117, 279, 680, "temper"), ("RoseWall$Tokens", 119, 306, 681, "patience"), ("RoseWall$Tokens", 82, 336, 682, ";:+-*()[]=<>"), ("RoseWallModel", 83, 371, 1459, " wall row tenant patience in turned face open temper turns goes light cell kind near all and or not "), ("RoseWallModel", 121, 495, 1465, ";:+-*()[]=<>")]
def SKa (i : Nat) : SKt := SKs.getD i ("", 0, 0, 0, "")
def NN : Cond := Jvm.Cond.and given_1 narrow_1
def sTm (i : Nat) : Term := .string (SKa i).1 (SKa i).2.1
def sVl (i : Nat) : Term := .field (sTm i) "java/lang/String" "value" "[B"
def sRow (i : Nat) : Nat → Cond
  | 0 => .exactly (sTm i) "java/lang/String"
  | 1 => .eq (.field (sTm i) "java/lang/String" "coder" "B") (.int 0)
  | 2 => .arrayOf (sVl i) .byte
  | 3 => .eq (.length (sVl i)) (.int (Int32.ofNat (txtT.getD i []).length))
  | j + 4 => .eq (.elem (sVl i) (.int (Int32.ofNat j))) (.int (txt (11 + 2 * i) j))
def ckS (i : Nat) : Bool := decide ((List.range (4 + (txtT.getD i []).length)).map (sRow i) = ((flatC NN).drop (SKa i).2.2.1).take (4 + (txtT.getD i []).length)) && (decide (lw_tbl[(SKa i).2.2.2.1]? = some (.stringRef (SKa i).1 (SKa i).2.1 (SKa i).2.2.2.2)) && Nat.ble (txtT.getD i []).length 1000)
set_option maxRecDepth 100000 in
theorem ckS_0 : ckS 0 = true := by decide +kernel
set_option maxRecDepth 100000 in
theorem ckS_1 : ckS 1 = true := by decide +kernel
set_option maxRecDepth 100000 in
theorem ckS_2 : ckS 2 = true := by decide +kernel
set_option maxRecDepth 100000 in
theorem ckS_3 : ckS 3 = true := by decide +kernel
set_option maxRecDepth 100000 in
theorem ckS_4 : ckS 4 = true := by decide +kernel
set_option maxRecDepth 100000 in
theorem ckS_5 : ckS 5 = true := by decide +kernel
set_option maxRecDepth 100000 in
theorem ckS_6 : ckS 6 = true := by decide +kernel
set_option maxRecDepth 100000 in
theorem ckS_7 : ckS 7 = true := by decide +kernel
set_option maxRecDepth 100000 in
theorem ckS_8 : ckS 8 = true := by decide +kernel
set_option maxRecDepth 100000 in
theorem ckS_9 : ckS 9 = true := by decide +kernel
set_option maxRecDepth 100000 in
theorem ckS_10 : ckS 10 = true := by decide +kernel
set_option maxRecDepth 100000 in
theorem ckS_11 : ckS 11 = true := by decide +kernel
set_option maxRecDepth 100000 in
theorem ckS_12 : ckS 12 = true := by decide +kernel
set_option maxRecDepth 100000 in
theorem ckS_13 : ckS 13 = true := by decide +kernel
set_option maxRecDepth 100000 in
theorem ckS_14 : ckS 14 = true := by decide +kernel
set_option maxRecDepth 100000 in
theorem ckS_15 : ckS 15 = true := by decide +kernel
set_option maxRecDepth 100000 in
theorem ckS_16 : ckS 16 = true := by decide +kernel
set_option maxRecDepth 100000 in
theorem ckS_17 : ckS 17 = true := by decide +kernel
set_option maxRecDepth 100000 in
theorem ckS_18 : ckS 18 = true := by decide +kernel
set_option maxRecDepth 100000 in
theorem ckS_19 : ckS 19 = true := by decide +kernel
set_option maxRecDepth 100000 in
theorem ckS_20 : ckS 20 = true := by decide +kernel
set_option maxRecDepth 100000 in
theorem ckS_21 : ckS 21 = true := by decide +kernel
theorem ckS_all : ∀ i, i < 22 → ckS i = true := fun i h => match i, h with
  | 0, _ => ckS_0
  | 1, _ => ckS_1
  | 2, _ => ckS_2
  | 3, _ => ckS_3
  | 4, _ => ckS_4
  | 5, _ => ckS_5
  | 6, _ => ckS_6
  | 7, _ => ckS_7
  | 8, _ => ckS_8
  | 9, _ => ckS_9
  | 10, _ => ckS_10
  | 11, _ => ckS_11
  | 12, _ => ckS_12
  | 13, _ => ckS_13
  | 14, _ => ckS_14
  | 15, _ => ckS_15
  | 16, _ => ckS_16
  | 17, _ => ckS_17
  | 18, _ => ckS_18
  | 19, _ => ckS_19
  | 20, _ => ckS_20
  | 21, _ => ckS_21
  | i + 22, h => absurd h (by omega)
theorem ckK_all : ckRows kstrT (fun own n q => Nat.blt ((q.1 - 10) / 2) 22 && (Nat.beq q.1 (10 + 2 * ((q.1 - 10) / 2)) && (decide ((SKa ((q.1 - 10) / 2)).1 = ownN own) && Nat.beq (SKa ((q.1 - 10) / 2)).2.1 n))) = true := by decide +kernel
theorem kstr_SK {own n : Nat} {q : Nat × Nat} (h : kstr own n = some q) : ∃ i, i < 22 ∧ q.1 = 10 + 2 * i ∧ (SKa i).1 = ownN own ∧ (SKa i).2.1 = n := by
  have hc := ckRows_spec ckK_all h
  rw [Bool.and_eq_true, Bool.and_eq_true, Bool.and_eq_true] at hc
  exact ⟨(q.1 - 10) / 2, blt_lt hc.1, Nat.eq_of_beq_eq_true hc.2.1, of_decide_eq_true hc.2.2.1, Nat.eq_of_beq_eq_true hc.2.2.2⟩
theorem sRow_in {i : Nat} (h : i < 22) (j : Nat) (hj : j < 4 + (txtT.getD i []).length) : sRow i j ∈ flatC NN := by
  have hc := ckS_all i h
  unfold ckS at hc
  rw [Bool.and_eq_true] at hc
  exact va_run (of_decide_eq_true hc.1) j hj
theorem sRef_in {i : Nat} (h : i < 22) : Cond.stringRef (SKa i).1 (SKa i).2.1 (SKa i).2.2.2.2 ∈ lw_tbl ∧ (txtT.getD i []).length ≤ 1000 := by
  have hc := ckS_all i h
  unfold ckS at hc
  rw [Bool.and_eq_true, Bool.and_eq_true] at hc
  exact ⟨List.mem_of_getElem? (of_decide_eq_true hc.2.1), Nat.le_of_ble_eq_true hc.2.2⟩
/-- where the constants lie -/
theorem str_start {args : Array Value} {s : State} {A : Nat → Prop} (hgv : NN.before args s = true) (hts : ∀ w ∈ lw_tbl, w.before args s = true) (hA : ∀ a : Nat, a < s.heap.size → ¬ A a) : ∃ ad : Nat → Nat × Nat, ∀ i, i < 22 → vk_R (SKa i).1 (SKa i).2.1 (SKa i).2.2.2.2 (ad i).1 s ∧ va_O "java/lang/String" (ad i).1 A s s.heap ∧ va_OF "java/lang/String" "coder" "B" (.int 0) (ad i).1 A s s.heap ∧ va_OF "java/lang/String" "value" "[B" (.ref (ad i).2) (ad i).1 A s s.heap ∧ va_T .byte (ad i).2 (txtT.getD i []).length (fun j => .int (txt (11 + 2 * i) j)) A s s.heap := by
  have hs := flat_of_before NN hgv
  have h0 : ∀ i : Nat, ∃ q : Nat × Nat, i < 22 → vk_R (SKa i).1 (SKa i).2.1 (SKa i).2.2.2.2 q.1 s ∧ va_O "java/lang/String" q.1 A s s.heap ∧ va_OF "java/lang/String" "coder" "B" (.int 0) q.1 A s s.heap ∧ va_OF "java/lang/String" "value" "[B" (.ref q.2) q.1 A s s.heap ∧ va_T .byte q.2 (txtT.getD i []).length (fun j => .int (txt (11 + 2 * i) j)) A s s.heap := by
    intro i
    by_cases hi : i < 22
    · have hl := (sRef_in hi).2
      have r0 := hs _ (sRow_in hi 0 (by omega))
      have r1 := hs _ (sRow_in hi 1 (by omega))
      have r2 := hs _ (sRow_in hi 2 (by omega))
      have r3 := hs _ (sRow_in hi 3 (by omega))
      have r4 : ∀ j, j < (txtT.getD i []).length → (Cond.eq (.elem (sVl i) (.int (Int32.ofNat j))) (.int (txt (11 + 2 * i) j))).before args s = true := fun j hj => hs _ (sRow_in hi (j + 4) (by omega))
      obtain ⟨a, c, cA, kA, q1, q2, q3, q4, q5, q6, -⟩ := Cond.exactly_spec (args := args) (first := s) (o := none) (s := s) (idx := []) (t := sTm i) (cls := "java/lang/String") r0
      obtain ⟨t, ht, hT⟩ := va_Tof (f := fun j => .int (txt (11 + 2 * i) j)) (A := A) (N := (txtT.getD i []).length) (by omega) r2 (va_eqt r3) (fun j hj => va_eqt (r4 j hj)) hA
      exact ⟨(a, t), fun _ => ⟨vk_R.of (hts _ (sRef_in hi).1) q1, ⟨cA, q3, q5, by rw [q6]; exact q2, hA a (Array.getElem?_eq_some_iff.mp q3).1⟩, vk_OFof q1 (va_eqt r1) hA, vk_OFof q1 ht hA, hT⟩⟩
    · exact ⟨(0, 0), fun h => absurd h hi⟩
  exact Classical.axiomOfChoice h0
