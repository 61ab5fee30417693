/-! THE LAW: its cases, its loop. Written by wip/whole/gen/gen_law2.py. -/
section LawL
theorem inL {i L : Nat} {k : Int} (h : i + 6 ≤ L) (hL : L ≤ 3072) (h0 : 0 ≤ k) (h5 : k ≤ 5) : inb (iI (i : Int) + iI k) (ix (iI (L : Int))) = true := by
  rw [iI_add, ix_nat (by omega), inb_ok (by omega) (by omega) (by omega)]
def LwA (i : Nat) : List Value := [.ref 1, .ref 100, .ref 197, .int (iI (i : Int))]
def Gd (d i b : Nat) (M : Mem) (x : Rs Mem) : Prop := ∃ M2, x = X2 (d + 80) m_law 1467 (LwA i) [] M2 ∧ Rel M2 (b + 1) ∧ Keep M M2
theorem Gd.ite {d i b : Nat} {M : Mem} {P : Prop} [Decidable P] {x y : Rs Mem} (hx : Gd d i b M x) (hy : Gd d i b M y) : Gd d i b M (if P then x else y) := by
  by_cases h : P
  · rw [if_pos h]; exact hx
  · rw [if_neg h]; exact hy
def Cs (pc : Nat) : Prop := ∀ d M b i L, Rel M b → b < 99990 → gI M 0 0 = iI (L : Nat) → L ≤ 3072 → i + 6 ≤ L → Gd d i b M (X2 (d + 80) m_law pc (LwA i) [] M)
theorem Rel.up {M : Mem} {b : Nat} (h : Rel M b) : Rel M (b + 1) := by
  obtain ⟨r, tm0, st, nx, nd, m, f, so, tn, tv, z, hS, hst, h⟩ := h
  exact ⟨r, tm0, st, nx, nd, m, f, so, tn, tv, z, hS, by omega, h⟩
theorem law_c0 {mc mm : MD} {pc : Nat} (e : ∀ (d : Nat) (x3 : Int32) (M : Mem), X2 d m_law pc [.ref 1, .ref 100, .ref 197, .int x3] [] M = bI (c2 d mc [.ref 100] M) fun r2 M1 => bI (c2 d mm [.ref 197] M1) fun r4 M3 => if r2 = r4 then X2 d m_law 1467 [.ref 1, .ref 100, .ref 197, .int x3] [] M3 else some (.int (iI 0), M3)) (s : Step mc mm []) : Cs pc := by
  intro d M b i L hR hb h0 hL hi
  obtain ⟨v, M1, M2, e1, e2, hR2, hK⟩ := s d M b hR hb
  obtain ⟨k0, k1⟩ := kp_cl _ _ _ _ _ _ e1
  have h1 : gI M1 0 0 = iI (L : Nat) := (congrFun k0 0).trans h0
  refine ⟨M2, ?_, hR2, hK⟩
  show X2 (d + 80) m_law pc [.ref 1, .ref 100, .ref 197, .int (iI (i : Int))] [] M = _
  rw [e, e1, bI_some, e2, bI_some, if_pos rfl] <;> rfl
theorem law_c1 {mc mm : MD} {pc : Nat} (e : ∀ (d : Nat) (x3 : Int32) (M : Mem), X2 d m_law pc [.ref 1, .ref 100, .ref 197, .int x3] [] M = gb (inb (x3 + (iI 1)) (ix (gI M 0 0))) (bI (c2 d mc [.ref 100, .int (gI M 1 (ix (x3 + (iI 1))))] M) fun r2 M1 => gb (inb (x3 + (iI 1)) (ix (gI M1 0 0))) (bI (c2 d mm [.ref 197, .int (gI M1 1 (ix (x3 + (iI 1))))] M1) fun r4 M3 => if r2 = r4 then X2 d m_law 1467 [.ref 1, .ref 100, .ref 197, .int x3] [] M3 else some (.int (iI 0), M3)))) (s : ∀ x1 : Int32, Step mc mm [.int x1]) : Cs pc := by
  intro d M b i L hR hb h0 hL hi
  obtain ⟨v, M1, M2, e1, e2, hR2, hK⟩ := s (gI M 1 (ix (iI (i : Int) + iI 1))) d M b hR hb
  obtain ⟨k0, k1⟩ := kp_cl _ _ _ _ _ _ e1
  have h1 : gI M1 0 0 = iI (L : Nat) := (congrFun k0 0).trans h0
  have g1 : gI M1 1 (ix (iI (i : Int) + iI 1)) = gI M 1 (ix (iI (i : Int) + iI 1)) := congrFun k1 _
  refine ⟨M2, ?_, hR2, hK⟩
  show X2 (d + 80) m_law pc [.ref 1, .ref 100, .ref 197, .int (iI (i : Int))] [] M = _
  rw [e, h0, inL (k := 1) hi hL (by decide) (by decide), gb_T, e1, bI_some, h1, inL (k := 1) hi hL (by decide) (by decide), gb_T, g1, e2, bI_some, if_pos rfl] <;> rfl
theorem law_c2 {mc mm : MD} {pc : Nat} (e : ∀ (d : Nat) (x3 : Int32) (M : Mem), X2 d m_law pc [.ref 1, .ref 100, .ref 197, .int x3] [] M = gb (inb (x3 + (iI 1)) (ix (gI M 0 0))) (gb (inb (x3 + (iI 2)) (ix (gI M 0 0))) (bI (c2 d mc [.ref 100, .int (gI M 1 (ix (x3 + (iI 1)))), .int (gI M 1 (ix (x3 + (iI 2))))] M) fun r2 M1 => gb (inb (x3 + (iI 1)) (ix (gI M1 0 0))) (gb (inb (x3 + (iI 2)) (ix (gI M1 0 0))) (bI (c2 d mm [.ref 197, .int (gI M1 1 (ix (x3 + (iI 1)))), .int (gI M1 1 (ix (x3 + (iI 2))))] M1) fun r4 M3 => if r2 = r4 then X2 d m_law 1467 [.ref 1, .ref 100, .ref 197, .int x3] [] M3 else some (.int (iI 0), M3)))))) (s : ∀ x1 x2 : Int32, Step mc mm [.int x1, .int x2]) : Cs pc := by
  intro d M b i L hR hb h0 hL hi
  obtain ⟨v, M1, M2, e1, e2, hR2, hK⟩ := s (gI M 1 (ix (iI (i : Int) + iI 1))) (gI M 1 (ix (iI (i : Int) + iI 2))) d M b hR hb
  obtain ⟨k0, k1⟩ := kp_cl _ _ _ _ _ _ e1
  have h1 : gI M1 0 0 = iI (L : Nat) := (congrFun k0 0).trans h0
  have g1 : gI M1 1 (ix (iI (i : Int) + iI 1)) = gI M 1 (ix (iI (i : Int) + iI 1)) := congrFun k1 _
  have g2 : gI M1 1 (ix (iI (i : Int) + iI 2)) = gI M 1 (ix (iI (i : Int) + iI 2)) := congrFun k1 _
  refine ⟨M2, ?_, hR2, hK⟩
  show X2 (d + 80) m_law pc [.ref 1, .ref 100, .ref 197, .int (iI (i : Int))] [] M = _
  rw [e, h0, inL (k := 1) hi hL (by decide) (by decide), gb_T, inL (k := 2) hi hL (by decide) (by decide), gb_T, e1, bI_some, h1, inL (k := 1) hi hL (by decide) (by decide), gb_T, inL (k := 2) hi hL (by decide) (by decide), gb_T, g1, g2, e2, bI_some, if_pos rfl] <;> rfl
theorem law_c3 {mc mm : MD} {pc : Nat} (e : ∀ (d : Nat) (x3 : Int32) (M : Mem), X2 d m_law pc [.ref 1, .ref 100, .ref 197, .int x3] [] M = gb (inb (x3 + (iI 1)) (ix (gI M 0 0))) (gb (inb (x3 + (iI 2)) (ix (gI M 0 0))) (gb (inb (x3 + (iI 3)) (ix (gI M 0 0))) (bI (c2 d mc [.ref 100, .int (gI M 1 (ix (x3 + (iI 1)))), .int (gI M 1 (ix (x3 + (iI 2)))), .int (gI M 1 (ix (x3 + (iI 3))))] M) fun r2 M1 => gb (inb (x3 + (iI 1)) (ix (gI M1 0 0))) (gb (inb (x3 + (iI 2)) (ix (gI M1 0 0))) (gb (inb (x3 + (iI 3)) (ix (gI M1 0 0))) (bI (c2 d mm [.ref 197, .int (gI M1 1 (ix (x3 + (iI 1)))), .int (gI M1 1 (ix (x3 + (iI 2)))), .int (gI M1 1 (ix (x3 + (iI 3))))] M1) fun r4 M3 => if r2 = r4 then X2 d m_law 1467 [.ref 1, .ref 100, .ref 197, .int x3] [] M3 else some (.int (iI 0), M3)))))))) (s : ∀ x1 x2 x3 : Int32, Step mc mm [.int x1, .int x2, .int x3]) : Cs pc := by
  intro d M b i L hR hb h0 hL hi
  obtain ⟨v, M1, M2, e1, e2, hR2, hK⟩ := s (gI M 1 (ix (iI (i : Int) + iI 1))) (gI M 1 (ix (iI (i : Int) + iI 2))) (gI M 1 (ix (iI (i : Int) + iI 3))) d M b hR hb
  obtain ⟨k0, k1⟩ := kp_cl _ _ _ _ _ _ e1
  have h1 : gI M1 0 0 = iI (L : Nat) := (congrFun k0 0).trans h0
  have g1 : gI M1 1 (ix (iI (i : Int) + iI 1)) = gI M 1 (ix (iI (i : Int) + iI 1)) := congrFun k1 _
  have g2 : gI M1 1 (ix (iI (i : Int) + iI 2)) = gI M 1 (ix (iI (i : Int) + iI 2)) := congrFun k1 _
  have g3 : gI M1 1 (ix (iI (i : Int) + iI 3)) = gI M 1 (ix (iI (i : Int) + iI 3)) := congrFun k1 _
  refine ⟨M2, ?_, hR2, hK⟩
  show X2 (d + 80) m_law pc [.ref 1, .ref 100, .ref 197, .int (iI (i : Int))] [] M = _
  rw [e, h0, inL (k := 1) hi hL (by decide) (by decide), gb_T, inL (k := 2) hi hL (by decide) (by decide), gb_T, inL (k := 3) hi hL (by decide) (by decide), gb_T, e1, bI_some, h1, inL (k := 1) hi hL (by decide) (by decide), gb_T, inL (k := 2) hi hL (by decide) (by decide), gb_T, inL (k := 3) hi hL (by decide) (by decide), gb_T, g1, g2, g3, e2, bI_some, if_pos rfl] <;> rfl
theorem law_c5 {mc mm : MD} {pc : Nat} (e : ∀ (d : Nat) (x3 : Int32) (M : Mem), X2 d m_law pc [.ref 1, .ref 100, .ref 197, .int x3] [] M = gb (inb (x3 + (iI 1)) (ix (gI M 0 0))) (gb (inb (x3 + (iI 2)) (ix (gI M 0 0))) (gb (inb (x3 + (iI 3)) (ix (gI M 0 0))) (gb (inb (x3 + (iI 4)) (ix (gI M 0 0))) (gb (inb (x3 + (iI 5)) (ix (gI M 0 0))) (bI (c2 d mc [.ref 100, .int (gI M 1 (ix (x3 + (iI 1)))), .int (gI M 1 (ix (x3 + (iI 2)))), .int (gI M 1 (ix (x3 + (iI 3)))), .int (gI M 1 (ix (x3 + (iI 4)))), .int (gI M 1 (ix (x3 + (iI 5))))] M) fun r2 M1 => gb (inb (x3 + (iI 1)) (ix (gI M1 0 0))) (gb (inb (x3 + (iI 2)) (ix (gI M1 0 0))) (gb (inb (x3 + (iI 3)) (ix (gI M1 0 0))) (gb (inb (x3 + (iI 4)) (ix (gI M1 0 0))) (gb (inb (x3 + (iI 5)) (ix (gI M1 0 0))) (bI (c2 d mm [.ref 197, .int (gI M1 1 (ix (x3 + (iI 1)))), .int (gI M1 1 (ix (x3 + (iI 2)))), .int (gI M1 1 (ix (x3 + (iI 3)))), .int (gI M1 1 (ix (x3 + (iI 4)))), .int (gI M1 1 (ix (x3 + (iI 5))))] M1) fun r4 M3 => if r2 = r4 then X2 d m_law 1467 [.ref 1, .ref 100, .ref 197, .int x3] [] M3 else some (.int (iI 0), M3)))))))))))) (s : ∀ x1 x2 x3 x4 x5 : Int32, Step mc mm [.int x1, .int x2, .int x3, .int x4, .int x5]) : Cs pc := by
  intro d M b i L hR hb h0 hL hi
  obtain ⟨v, M1, M2, e1, e2, hR2, hK⟩ := s (gI M 1 (ix (iI (i : Int) + iI 1))) (gI M 1 (ix (iI (i : Int) + iI 2))) (gI M 1 (ix (iI (i : Int) + iI 3))) (gI M 1 (ix (iI (i : Int) + iI 4))) (gI M 1 (ix (iI (i : Int) + iI 5))) d M b hR hb
  obtain ⟨k0, k1⟩ := kp_cl _ _ _ _ _ _ e1
  have h1 : gI M1 0 0 = iI (L : Nat) := (congrFun k0 0).trans h0
  have g1 : gI M1 1 (ix (iI (i : Int) + iI 1)) = gI M 1 (ix (iI (i : Int) + iI 1)) := congrFun k1 _
  have g2 : gI M1 1 (ix (iI (i : Int) + iI 2)) = gI M 1 (ix (iI (i : Int) + iI 2)) := congrFun k1 _
  have g3 : gI M1 1 (ix (iI (i : Int) + iI 3)) = gI M 1 (ix (iI (i : Int) + iI 3)) := congrFun k1 _
  have g4 : gI M1 1 (ix (iI (i : Int) + iI 4)) = gI M 1 (ix (iI (i : Int) + iI 4)) := congrFun k1 _
  have g5 : gI M1 1 (ix (iI (i : Int) + iI 5)) = gI M 1 (ix (iI (i : Int) + iI 5)) := congrFun k1 _
  refine ⟨M2, ?_, hR2, hK⟩
  show X2 (d + 80) m_law pc [.ref 1, .ref 100, .ref 197, .int (iI (i : Int))] [] M = _
  rw [e, h0, inL (k := 1) hi hL (by decide) (by decide), gb_T, inL (k := 2) hi hL (by decide) (by decide), gb_T, inL (k := 3) hi hL (by decide) (by decide), gb_T, inL (k := 4) hi hL (by decide) (by decide), gb_T, inL (k := 5) hi hL (by decide) (by decide), gb_T, e1, bI_some, h1, inL (k := 1) hi hL (by decide) (by decide), gb_T, inL (k := 2) hi hL (by decide) (by decide), gb_T, inL (k := 3) hi hL (by decide) (by decide), gb_T, inL (k := 4) hi hL (by decide) (by decide), gb_T, inL (k := 5) hi hL (by decide) (by decide), gb_T, g1, g2, g3, g4, g5, e2, bI_some, if_pos rfl] <;> rfl
theorem lg_same (x : Int64) : lg_cmp x x = 0 := by
  unfold lg_cmp
  rw [if_neg (show ¬ (x > x) from Int64.lt_irrefl), if_pos rfl]
theorem law_w : Cs 1291 := by
  intro d M b i L hR hb h0 hL hi
  obtain ⟨v, M1, M2, e1, e2, hR2, hK⟩ := s_write (gI M 1 (ix (iI (i : Int) + iI 1))) (gI M 1 (ix (iI (i : Int) + iI 2))) ((((gI M 1 (ix (iI (i : Int) + (iI 3)))).toInt64) <<< ((iI 32).toInt64 &&& 63)) ||| (((gI M 1 (ix (iI (i : Int) + (iI 4)))).toInt64) &&& (lI 4294967295))) d M b hR hb
  obtain ⟨k0, k1⟩ := kp_cl _ _ _ _ _ _ e1
  have h1 : gI M1 0 0 = iI (L : Nat) := (congrFun k0 0).trans h0
  have g1 : gI M1 1 (ix (iI (i : Int) + iI 1)) = gI M 1 (ix (iI (i : Int) + iI 1)) := congrFun k1 _
  have g2 : gI M1 1 (ix (iI (i : Int) + iI 2)) = gI M 1 (ix (iI (i : Int) + iI 2)) := congrFun k1 _
  have g3 : gI M1 1 (ix (iI (i : Int) + iI 3)) = gI M 1 (ix (iI (i : Int) + iI 3)) := congrFun k1 _
  have g4 : gI M1 1 (ix (iI (i : Int) + iI 4)) = gI M 1 (ix (iI (i : Int) + iI 4)) := congrFun k1 _
  refine ⟨M2, ?_, hR2, hK⟩
  show X2 (d + 80) m_law 1291 [.ref 1, .ref 100, .ref 197, .int (iI (i : Int))] [] M = _
  rw [e_law_1291, h0, inL (k := 1) hi hL (by decide) (by decide), gb_T, inL (k := 2) hi hL (by decide) (by decide), gb_T, inL (k := 3) hi hL (by decide) (by decide), gb_T, inL (k := 4) hi hL (by decide) (by decide), gb_T, e1, bL_some, h1, inL (k := 1) hi hL (by decide) (by decide), gb_T, inL (k := 2) hi hL (by decide) (by decide), gb_T, inL (k := 3) hi hL (by decide) (by decide), gb_T, inL (k := 4) hi hL (by decide) (by decide), gb_T, g1, g2, g3, g4, e2, bL_some, lg_same, if_pos rfl] <;> rfl
theorem cs_224 : Cs 224 := law_c5 (pc := 224) e_law_224 s_feed
theorem cs_287 : Cs 287 := law_c1 (pc := 287) e_law_287 s_room
theorem cs_310 : Cs 310 := law_c1 (pc := 310) e_law_310 s_fault
theorem cs_333 : Cs 333 := law_c2 (pc := 333) e_law_333 s_rose
theorem cs_366 : Cs 366 := law_c2 (pc := 366) e_law_366 s_tenant
theorem cs_399 : Cs 399 := law_c1 (pc := 399) e_law_399 s_night
theorem cs_422 : Cs 422 := law_c2 (pc := 422) e_law_422 s_nights
theorem cs_455 : Cs 455 := law_c1 (pc := 455) e_law_455 s_let
theorem cs_478 : Cs 478 := law_c1 (pc := 478) e_law_478 s_turn
theorem cs_501 : Cs 501 := law_c1 (pc := 501) e_law_501 s_temper
theorem cs_524 : Cs 524 := law_c1 (pc := 524) e_law_524 s_undo
theorem cs_547 : Cs 547 := law_c2 (pc := 547) e_law_547 s_judge
theorem cs_580 : Cs 580 := law_c1 (pc := 580) e_law_580 s_perform
theorem cs_603 : Cs 603 := law_c2 (pc := 603) e_law_603 s_season
theorem cs_636 : Cs 636 := law_c2 (pc := 636) e_law_636 s_lies
theorem cs_669 : Cs 669 := law_c2 (pc := 669) e_law_669 s_round
theorem cs_702 : Cs 702 := law_c0 (pc := 702) e_law_702 s_stays
theorem cs_715 : Cs 715 := law_c1 (pc := 715) e_law_715 s_stayBy
theorem cs_738 : Cs 738 := law_c0 (pc := 738) e_law_738 s_out
theorem cs_751 : Cs 751 := law_c1 (pc := 751) e_law_751 s_outBy
theorem cs_774 : Cs 774 := law_c0 (pc := 774) e_law_774 s_forces
theorem cs_787 : Cs 787 := law_c0 (pc := 787) e_law_787 s_minds
theorem cs_800 : Cs 800 := law_c1 (pc := 800) e_law_800 s_soonest
theorem cs_823 : Cs 823 := law_c2 (pc := 823) e_law_823 s_way
theorem cs_856 : Cs 856 := law_c0 (pc := 856) e_law_856 s_toFace
theorem cs_869 : Cs 869 := law_c0 (pc := 869) e_law_869 s_walls
theorem cs_882 : Cs 882 := law_c3 (pc := 882) e_law_882 s_parents
theorem cs_925 : Cs 925 := law_c2 (pc := 925) e_law_925 s_orphans
theorem cs_958 : Cs 958 := law_c2 (pc := 958) e_law_958 s_still
theorem cs_991 : Cs 991 := law_c2 (pc := 991) e_law_991 s_rows
theorem cs_1024 : Cs 1024 := law_c1 (pc := 1024) e_law_1024 s_seen
theorem cs_1047 : Cs 1047 := law_c2 (pc := 1047) e_law_1047 s_seenBy
theorem cs_1080 : Cs 1080 := law_c1 (pc := 1080) e_law_1080 s_whose
theorem cs_1103 : Cs 1103 := law_c2 (pc := 1103) e_law_1103 s_tempers
theorem cs_1136 : Cs 1136 := law_c2 (pc := 1136) e_law_1136 s_attempt
theorem cs_1169 : Cs 1169 := law_c2 (pc := 1169) e_law_1169 s_chance
theorem cs_1202 : Cs 1202 := law_c1 (pc := 1202) e_law_1202 s_gone
theorem cs_1225 : Cs 1225 := law_c1 (pc := 1225) e_law_1225 s_best
theorem cs_1248 : Cs 1248 := law_c3 (pc := 1248) e_law_1248 s_numbers
theorem cs_1365 : Cs 1365 := law_c2 (pc := 1365) e_law_1365 s_lists
theorem cs_1398 : Cs 1398 := law_c1 (pc := 1398) e_law_1398 s_image
theorem cs_1421 : Cs 1421 := law_c1 (pc := 1421) e_law_1421 s_restore
theorem cs_1444 : Cs 1444 := law_c1 (pc := 1444) e_law_1444 s_count
theorem cs_1291 : Cs 1291 := law_w
theorem law_one {d b i L : Nat} {M : Mem} (hR : Rel M b) (hb : b < 99990) (h0 : gI M 0 0 = iI (L : Nat)) (hL : L ≤ 3072) (hi : i + 6 ≤ L) : Gd d i b M (X2 (d + 80) m_law 18 (LwA i) [] M) := by
  have e : X2 (d + 80) m_law 18 (LwA i) [] M = _ := e_law_18 (d + 80) (iI (i : Int)) M
  rw [h0, iI_sub, if_neg (by rw [iI_lt (by omega) (by omega) (by omega) (by omega)]; omega), ix_nat (n := L) (by omega), inb_ok (by omega) (by omega) (by omega), gb_T] at e
  rw [e]
  exact Gd.ite (cs_224 d M b i L hR hb h0 hL hi) (Gd.ite (cs_287 d M b i L hR hb h0 hL hi) (Gd.ite (cs_310 d M b i L hR hb h0 hL hi) (Gd.ite (cs_333 d M b i L hR hb h0 hL hi) (Gd.ite (cs_366 d M b i L hR hb h0 hL hi) (Gd.ite (cs_399 d M b i L hR hb h0 hL hi) (Gd.ite (cs_422 d M b i L hR hb h0 hL hi) (Gd.ite (cs_455 d M b i L hR hb h0 hL hi) (Gd.ite (cs_478 d M b i L hR hb h0 hL hi) (Gd.ite (cs_501 d M b i L hR hb h0 hL hi) (Gd.ite (cs_524 d M b i L hR hb h0 hL hi) (Gd.ite (cs_547 d M b i L hR hb h0 hL hi) (Gd.ite (cs_580 d M b i L hR hb h0 hL hi) (Gd.ite (cs_603 d M b i L hR hb h0 hL hi) (Gd.ite (cs_636 d M b i L hR hb h0 hL hi) (Gd.ite (cs_669 d M b i L hR hb h0 hL hi) (Gd.ite (cs_702 d M b i L hR hb h0 hL hi) (Gd.ite (cs_715 d M b i L hR hb h0 hL hi) (Gd.ite (cs_738 d M b i L hR hb h0 hL hi) (Gd.ite (cs_751 d M b i L hR hb h0 hL hi) (Gd.ite (cs_774 d M b i L hR hb h0 hL hi) (Gd.ite (cs_787 d M b i L hR hb h0 hL hi) (Gd.ite (cs_800 d M b i L hR hb h0 hL hi) (Gd.ite (cs_823 d M b i L hR hb h0 hL hi) (Gd.ite (cs_856 d M b i L hR hb h0 hL hi) (Gd.ite (cs_869 d M b i L hR hb h0 hL hi) (Gd.ite (cs_882 d M b i L hR hb h0 hL hi) (Gd.ite (cs_925 d M b i L hR hb h0 hL hi) (Gd.ite (cs_958 d M b i L hR hb h0 hL hi) (Gd.ite (cs_991 d M b i L hR hb h0 hL hi) (Gd.ite (cs_1024 d M b i L hR hb h0 hL hi) (Gd.ite (cs_1047 d M b i L hR hb h0 hL hi) (Gd.ite (cs_1080 d M b i L hR hb h0 hL hi) (Gd.ite (cs_1103 d M b i L hR hb h0 hL hi) (Gd.ite (cs_1136 d M b i L hR hb h0 hL hi) (Gd.ite (cs_1169 d M b i L hR hb h0 hL hi) (Gd.ite (cs_1202 d M b i L hR hb h0 hL hi) (Gd.ite (cs_1225 d M b i L hR hb h0 hL hi) (Gd.ite (cs_1248 d M b i L hR hb h0 hL hi) (Gd.ite (cs_1291 d M b i L hR hb h0 hL hi) (Gd.ite (cs_1365 d M b i L hR hb h0 hL hi) (Gd.ite (cs_1398 d M b i L hR hb h0 hL hi) (Gd.ite (cs_1421 d M b i L hR hb h0 hL hi) (Gd.ite (cs_1444 d M b i L hR hb h0 hL hi) (⟨M, rfl, hR.up, rfl, rfl⟩))))))))))))))))))))))))))))))))))))))))))))
theorem law_all (d : Nat) {L : Nat} (hL : L ≤ 3072) : ∀ (j i b : Nat) (M : Mem), L ≤ i + 6 * j → i ≤ L → b + j < 99990 → Rel M b → gI M 0 0 = iI (L : Nat) → ∃ M', X2 (d + 80) m_law 18 (LwA i) [] M = some (.int (iI 1), M') := by
  have en : ∀ (i : Nat) (M : Mem), i ≤ L + 6 → L < i + 6 → gI M 0 0 = iI (L : Nat) → X2 (d + 80) m_law 18 (LwA i) [] M = some (.int (iI 1), M) := fun i M h1 h2 h0 => by
    have e : X2 (d + 80) m_law 18 (LwA i) [] M = _ := e_law_18 (d + 80) (iI (i : Int)) M
    rw [h0, iI_sub, if_pos (by rw [iI_lt (by omega) (by omega) (by omega) (by omega)]; omega)] at e
    exact e
  intro j
  induction j with
  | zero => intro i b M h1 h2 h3 hR h0; exact ⟨M, en i M (by omega) (by omega) h0⟩
  | succ j ih =>
    intro i b M h1 h2 h3 hR h0
    by_cases q : i + 6 ≤ L
    · obtain ⟨M2, e, hR2, hK⟩ := law_one (d := d) hR (by omega) h0 hL q
      have e2 : X2 (d + 80) m_law 1467 (LwA i) [] M2 = X2 (d + 80) m_law 18 (LwA (i + 6)) [] M2 := by
        have e3 : X2 (d + 80) m_law 1467 (LwA i) [] M2 = _ := e_law_1467 (d + 80) (iI (i : Int)) M2
        rw [iI_add] at e3
        exact e3
      obtain ⟨M', e4⟩ := ih (i + 6) (b + 1) M2 (by omega) (by omega) (by omega) hR2 ((congrFun hK.1 0).trans h0)
      exact ⟨M', by rw [e, e2, e4]⟩
    · exact ⟨M, en i M (by omega) (by omega) h0⟩
end LawL
