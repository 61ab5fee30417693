/-! EQUATIONS of methods: written by wip/whole/gen/gen_eq.py. -/
set_option maxRecDepth 100000 in
set_option maxHeartbeats 4000000 in
theorem e_Mo_feed_0 (d : Nat) (x1 : Int32) (x2 : Int32) (x3 : Int32) (x4 : Int32) (x5 : Int32) (M : Mem) : X2 d m_Mo_feed 0 [.ref 197, .int x1, .int x2, .int x3, .int x4, .int x5, uns, uns] [] M = if iI 900 < (gI M 197 5) + (iI 20) then some (.int (iI (-5)), wI M 197 0 (iI 0)) else X2 d m_Mo_feed 24 [.ref 197, .int x1, .int x2, .int x3, .int x4, .int x5, .int (iI 0), uns] [] (wI M 197 0 (iI 0)) :=
  (sx_eq O2 d m_Mo_feed [24, 77] 12 _ _ _ _).trans rfl
set_option maxRecDepth 100000 in
set_option maxHeartbeats 4000000 in
theorem e_Mo_feed_24 (d : Nat) (x1 : Int32) (x2 : Int32) (x3 : Int32) (x4 : Int32) (x5 : Int32) (x6 : Int32) (v7 : Value) (M : Mem) : X2 d m_Mo_feed 24 [.ref 197, .int x1, .int x2, .int x3, .int x4, .int x5, .int x6, v7] [] M = if x6 < iI 20 then if x6 < iI 4 then X2 d m_Mo_feed 77 [.ref 197, .int x1, .int x2, .int x3, .int x4, .int x5, .int x6, v7] [.int x1] M else if x6 < iI 8 then X2 d m_Mo_feed 77 [.ref 197, .int x1, .int x2, .int x3, .int x4, .int x5, .int x6, v7] [.int x2] M else if x6 < iI 12 then X2 d m_Mo_feed 77 [.ref 197, .int x1, .int x2, .int x3, .int x4, .int x5, .int x6, v7] [.int x3] M else if x6 < iI 16 then X2 d m_Mo_feed 77 [.ref 197, .int x1, .int x2, .int x3, .int x4, .int x5, .int x6, v7] [.int x4] M else X2 d m_Mo_feed 77 [.ref 197, .int x1, .int x2, .int x3, .int x4, .int x5, .int x6, v7] [.int x5] M else some (.int (gI M 197 5), M) :=
  (sx_eq O2 d m_Mo_feed [24, 77] 18 _ _ _ _).trans rfl
set_option maxRecDepth 100000 in
set_option maxHeartbeats 4000000 in
theorem e_Mo_feed_77 (d : Nat) (x1 : Int32) (x2 : Int32) (x3 : Int32) (x4 : Int32) (x5 : Int32) (x6 : Int32) (v7 : Value) (y0 : Int32) (M : Mem) : X2 d m_Mo_feed 77 [.ref 197, .int x1, .int x2, .int x3, .int x4, .int x5, .int x6, v7] [.int y0] M = gb (inb (gI M 197 5) 900) (X2 d m_Mo_feed 24 [.ref 197, .int x1, .int x2, .int x3, .int x4, .int x5, .int (x6 + iI 1), .int y0] [] (wI (wI M 200 (ix (gI M 197 5)) ((y0 >>> (((iI 24) - ((iI 8) * (irm x6 (iI 4)))) &&& 31)) &&& (iI 255))) 197 5 ((gI M 197 5) + (iI 1)))) :=
  (sx_eq O2 d m_Mo_feed [24, 77] 26 _ _ _ _).trans rfl
set_option maxRecDepth 100000 in
set_option maxHeartbeats 4000000 in
theorem e_Mo_room_0 (d : Nat) (x1 : Int32) (M : Mem) : X2 d m_Mo_room 0 [.ref 197, .int x1, uns] [] M = bI (c2 d m_Mo_within [.long ((x1).toInt64), .long (lI 0), .long ((gI M 197 5).toInt64)] (wI M 197 0 (iI 0))) fun r2 M1 => if r2 = 0 then some (.int (iI (-3)), M1) else bV (c2 d m_Mo_plain [.ref 201] (wI (wI (wI (wI M1 197 8 x1) 197 5 (iI 0)) 197 7 (iI 0)) 197 11 (iI 0))) fun M3 => bV (c2 d m_Mo_next [.ref 197] M3) fun M4 => bI (c2 d m_Mo_eats [.ref 197, .int (iI 0)] M4) fun r6 M5 => if r6 = 0 then bV (c2 d m_Mo_fails [.ref 197, .int (iI 2)] M5) fun M12 => bI (c2 d m_Mo_takes [.ref 197, .int (iI 1), .int (iI 3)] M12) fun r14 M13 => bI (c2 d m_Mo_takes [.ref 197, .int (iI 1), .int (iI 3)] (wI M13 201 1 r14)) fun r16 M15 => bV (c2 d m_Mo_ends [.ref 197] (wI M15 201 2 r16)) fun M17 => X2 d m_Mo_room 94 [.ref 197, .int x1, uns] [] M17 else bI (c2 d m_Mo_takes [.ref 197, .int (iI 1), .int (iI 3)] M5) fun r8 M7 => bI (c2 d m_Mo_takes [.ref 197, .int (iI 1), .int (iI 3)] (wI M7 201 1 r8)) fun r10 M9 => bV (c2 d m_Mo_ends [.ref 197] (wI M9 201 2 r10)) fun M11 => X2 d m_Mo_room 94 [.ref 197, .int x1, uns] [] M11 :=
  (sx_eq O2 d m_Mo_room [94, 121, 165] 54 _ _ _ _).trans rfl
set_option maxRecDepth 100000 in
set_option maxHeartbeats 4000000 in
theorem e_Mo_room_94 (d : Nat) (v1 : Value) (v2 : Value) (M : Mem) : X2 d m_Mo_room 94 [.ref 197, v1, v2] [] M = if gI M 197 11 = 0 then if gI M 197 9 = iI 24 then X2 d m_Mo_room 121 [.ref 197, v1, v2] [] M else bV (c2 d m_Mo_readLine [.ref 197] M) fun M1 => bV (c2 d m_Mo_ends [.ref 197] M1) fun M2 => X2 d m_Mo_room 94 [.ref 197, v1, v2] [] M2 else X2 d m_Mo_room 121 [.ref 197, v1, v2] [] M :=
  (sx_eq O2 d m_Mo_room [94, 121, 165] 13 _ _ _ _).trans rfl
set_option maxRecDepth 100000 in
set_option maxHeartbeats 4000000 in
theorem e_Mo_room_121 (d : Nat) (v1 : Value) (v2 : Value) (M : Mem) : X2 d m_Mo_room 121 [.ref 197, v1, v2] [] M = if gI M 197 11 = 0 then if gI M 197 11 = 0 then X2 d m_Mo_room 165 [.ref 197, v1, .int (iI 0)] [] (wI (wI M 197 13 (gI M 197 11)) 197 14 (iI (-1))) else some (.int ((iI (-30)) - (gI M 197 11)), wI (wI M 197 13 (gI M 197 11)) 197 14 (iI (-1))) else if gI M 197 11 = 0 then X2 d m_Mo_room 165 [.ref 197, v1, .int (iI 0)] [] (wI (wI M 197 13 (gI M 197 11)) 197 14 (gI M 197 12)) else some (.int ((iI (-30)) - (gI M 197 11)), wI (wI M 197 13 (gI M 197 11)) 197 14 (gI M 197 12)) :=
  (sx_eq O2 d m_Mo_room [94, 121, 165] 20 _ _ _ _).trans rfl
set_option maxRecDepth 100000 in
set_option maxHeartbeats 4000000 in
theorem e_Mo_room_165 (d : Nat) (v1 : Value) (x2 : Int32) (M : Mem) : X2 d m_Mo_room 165 [.ref 197, v1, .int x2] [] M = if x2 < iI 971 then gb (inb x2 971) (gb (inb x2 2913) (X2 d m_Mo_room 165 [.ref 197, v1, .int (x2 + iI 1)] [] (wI M 198 (ix x2) (gI M 201 (ix x2))))) else some (.int (gI M 198 0), M) :=
  (sx_eq O2 d m_Mo_room [94, 121, 165] 14 _ _ _ _).trans rfl
set_option maxRecDepth 100000 in
set_option maxHeartbeats 4000000 in
theorem e_Mo_fault_0 (d : Nat) (x1 : Int32) (M : Mem) : X2 d m_Mo_fault 0 [.ref 197, .int x1] [] M = if x1 = 0 then some (.int (gI M 197 13), wI M 197 0 (iI 0)) else if x1 = iI 1 then some (.int (gI M 197 14), wI M 197 0 (iI 0)) else some (.int (iI (-1)), wI M 197 0 (iI 0)) :=
  (sx_eq O2 d m_Mo_fault [] 13 _ _ _ _).trans rfl
set_option maxRecDepth 100000 in
set_option maxHeartbeats 4000000 in
theorem e_Mo_rose_0 (d : Nat) (x1 : Int32) (x2 : Int32) (M : Mem) : X2 d m_Mo_rose 0 [.ref 197, .int x1, .int x2] [] M = bI (c2 d m_Mo_isRose [.ref 197, .long ((x1).toInt64)] (wI M 197 0 (iI 0))) fun r2 M1 => if r2 = 0 then some (.int (iI (-2)), M1) else if x2 = iI 0 then gb (inb ((iI 12) + x1) 2913) (some (.int (gI M1 198 (ix ((iI 12) + x1))), M1)) else if x2 = iI 1 then some (.int (((gI M1 198 25) >>> (x1 &&& 31)) &&& (iI 1)), M1) else if x2 = iI 2 then bI (c2 d m_Mo_nearOf [.ref 197, .int x1, .int (gI M1 198 25)] M1) fun r4 M3 => some (.int r4, M3) else if x2 = iI 3 then bI (c2 d m_Mo_turnsThen [.ref 197, .int x1, .int (gI M1 198 25), .int (gI M1 198 26), .int (x2 - (iI 3))] M1) fun r6 M5 => if r6 = 0 then some (.int (iI 0), M5) else some (.int (iI 1), M5) else if x2 = iI 4 then bI (c2 d m_Mo_turnsThen [.ref 197, .int x1, .int (gI M1 198 25), .int (gI M1 198 26), .int (x2 - (iI 3))] M1) fun r8 M7 => if r8 = 0 then some (.int (iI 0), M7) else some (.int (iI 1), M7) else some (.int (iI (-2)), M1) :=
  (sx_eq O2 d m_Mo_rose [] 29 _ _ _ _).trans rfl
set_option maxRecDepth 100000 in
set_option maxHeartbeats 4000000 in
theorem e_Mo_tenant_0 (d : Nat) (x1 : Int32) (x2 : Int32) (M : Mem) : X2 d m_Mo_tenant 0 [.ref 197, .int x1, .int x2] [] M = bI (c2 d m_Mo_isTenant [.ref 197, .long ((x1).toInt64)] (wI M 197 0 (iI 0))) fun r2 M1 => if r2 = 0 then some (.int (iI (-2)), M1) else if x2 = iI 0 then gb (inb ((iI 21) + x1) 2913) (some (.int (gI M1 198 (ix ((iI 21) + x1))), M1)) else if x2 = iI 1 then if gI M1 198 26 = x1 then some (.int (iI 1), M1) else some (.int (iI 0), M1) else if x2 = iI 2 then bI (c2 d m_Mo_goesBy [.ref 197, .int x1, .int (gI M1 198 25), .int (x2 - (iI 2))] M1) fun r4 M3 => if r4 = 0 then some (.int (iI 0), M3) else some (.int (iI 1), M3) else if x2 = iI 3 then bI (c2 d m_Mo_goesBy [.ref 197, .int x1, .int (gI M1 198 25), .int (x2 - (iI 2))] M1) fun r6 M5 => if r6 = 0 then some (.int (iI 0), M5) else some (.int (iI 1), M5) else some (.int (iI (-2)), M1) :=
  (sx_eq O2 d m_Mo_tenant [] 25 _ _ _ _).trans rfl
set_option maxRecDepth 100000 in
set_option maxHeartbeats 4000000 in
theorem e_Mo_night_0 (d : Nat) (x1 : Int32) (M : Mem) : X2 d m_Mo_night 0 [.ref 197, .int x1] [] M = bI (c2 d m_Mo_isBlind [.long ((x1).toInt64)] (wI M 197 0 (iI 0))) fun r2 M1 => if r2 = 0 then some (.int (iI (-11)), M1) else bV (c2 d m_Mo_keeps [.ref 197] M1) fun M3 => bV (c2 d m_Mo_goesNight [.ref 197, .int x1] M3) fun M4 => bV (c2 d m_Mo_notes [.ref 197] M4) fun M5 => some (.int (gI M5 198 25), M5) :=
  (sx_eq O2 d m_Mo_night [] 20 _ _ _ _).trans rfl
set_option maxRecDepth 100000 in
set_option maxHeartbeats 4000000 in
theorem e_Mo_nights_0 (d : Nat) (x1 : Int32) (x2 : Int32) (M : Mem) : X2 d m_Mo_nights 0 [.ref 197, .int x1, .int x2, uns, uns, uns] [] M = bI (c2 d m_Mo_within [.long ((x1).toInt64), .long (lI 1), .long (lI 99)] (wI M 197 0 (iI 0))) fun r2 M1 => if r2 = 0 then some (.int (iI (-3)), M1) else bI (c2 d m_Mo_isBlind [.long ((x2).toInt64)] M1) fun r4 M3 => if r4 = 0 then some (.int (iI (-11)), M3) else bV (c2 d m_Mo_keeps [.ref 197] M3) fun M5 => X2 d m_Mo_nights 40 [.ref 197, .int x1, .int x2, .int x1, .int (iI 1), uns] [] M5 :=
  (sx_eq O2 d m_Mo_nights [40, 62] 20 _ _ _ _).trans rfl
set_option maxRecDepth 100000 in
set_option maxHeartbeats 4000000 in
theorem e_Mo_nights_40 (d : Nat) (x1 : Int32) (x2 : Int32) (x3 : Int32) (x4 : Int32) (v5 : Value) (M : Mem) : X2 d m_Mo_nights 40 [.ref 197, .int x1, .int x2, .int x3, .int x4, v5] [] M = if x1 < x4 then bV (c2 d m_Mo_notes [.ref 197] M) fun M1 => some (.int x3, M1) else if gI M 198 26 = iI 4 then X2 d m_Mo_nights 62 [.ref 197, .int x1, .int x2, .int x3, .int x4, v5] [.int (iI 0)] M else X2 d m_Mo_nights 62 [.ref 197, .int x1, .int x2, .int x3, .int x4, v5] [.int (iI 1)] M :=
  (sx_eq O2 d m_Mo_nights [40, 62] 12 _ _ _ _).trans rfl
set_option maxRecDepth 100000 in
set_option maxHeartbeats 4000000 in
theorem e_Mo_nights_62 (d : Nat) (x1 : Int32) (x2 : Int32) (x3 : Int32) (x4 : Int32) (v5 : Value) (y0 : Int32) (M : Mem) : X2 d m_Mo_nights 62 [.ref 197, .int x1, .int x2, .int x3, .int x4, v5] [.int y0] M = bV (c2 d m_Mo_goesNight [.ref 197, .int x2] M) fun M1 => if y0 = 0 then X2 d m_Mo_nights 40 [.ref 197, .int x1, .int x2, .int x3, .int (x4 + iI 1), .int y0] [] M1 else if gI M1 198 26 = iI 4 then X2 d m_Mo_nights 40 [.ref 197, .int x1, .int x2, .int x4, .int (x4 + iI 1), .int y0] [] M1 else X2 d m_Mo_nights 40 [.ref 197, .int x1, .int x2, .int x3, .int (x4 + iI 1), .int y0] [] M1 :=
  (sx_eq O2 d m_Mo_nights [40, 62] 17 _ _ _ _).trans rfl
set_option maxRecDepth 100000 in
set_option maxHeartbeats 4000000 in
theorem e_Mo_let_0 (d : Nat) (x1 : Int32) (M : Mem) : X2 d m_Mo_let 0 [.ref 197, .int x1, uns] [] M = bI (c2 d m_Mo_whyLet [.ref 197, .long ((x1).toInt64)] (wI M 197 0 (iI 0))) fun r2 M1 => if r2 = 0 then bV (c2 d m_Mo_keeps [.ref 197] M1) fun M3 => bV (c2 d m_Mo_notes [.ref 197] (wI M3 198 26 x1)) fun M4 => bI (c2 d m_Mo_bitsOf [.int (gI M4 198 25)] M4) fun r6 M5 => some (.int r6, M5) else some (.int ((iI (-10)) - r2), M1) :=
  (sx_eq O2 d m_Mo_let [] 26 _ _ _ _).trans rfl
set_option maxRecDepth 100000 in
set_option maxHeartbeats 4000000 in
theorem e_Mo_turn_0 (d : Nat) (x1 : Int32) (M : Mem) : X2 d m_Mo_turn 0 [.ref 197, .int x1] [] M = bI (c2 d m_Mo_isRose [.ref 197, .long ((x1).toInt64)] (wI M 197 0 (iI 0))) fun r2 M1 => if r2 = 0 then some (.int (iI (-11)), M1) else bV (c2 d m_Mo_keeps [.ref 197] M1) fun M3 => bV (c2 d m_Mo_notes [.ref 197] (wI M3 198 25 ((gI M3 198 25) ^^^ ((iI 1) <<< (x1 &&& 31))))) fun M4 => some (.int (((gI M4 198 25) >>> (x1 &&& 31)) &&& (iI 1)), M4) :=
  (sx_eq O2 d m_Mo_turn [] 32 _ _ _ _).trans rfl
set_option maxRecDepth 100000 in
set_option maxHeartbeats 4000000 in
theorem e_Mo_temper_0 (d : Nat) (x1 : Int32) (M : Mem) : X2 d m_Mo_temper 0 [.ref 197, .int x1] [] M = bI (c2 d m_Mo_within [.long ((x1).toInt64), .long (lI 0), .long (lI 9)] (wI M 197 0 (iI 0))) fun r2 M1 => if r2 = 0 then some (.int (iI (-11)), M1) else bV (c2 d m_Mo_keeps [.ref 197] M1) fun M3 => bV (c2 d m_Mo_notes [.ref 197] (wI M3 198 27 x1)) fun M4 => some (.int (gI M4 204 2), M4) :=
  (sx_eq O2 d m_Mo_temper [] 24 _ _ _ _).trans rfl
set_option maxRecDepth 100000 in
set_option maxHeartbeats 4000000 in
theorem e_Mo_undo_0 (d : Nat) (x1 : Int32) (M : Mem) : X2 d m_Mo_undo 0 [.ref 197, .int x1, uns] [] M = bI (c2 d m_Mo_within [.long ((x1).toInt64), .long (lI 1), .long (lI 10)] (wI M 197 0 (iI 0))) fun r2 M1 => if r2 = 0 then some (.int (iI (-3)), M1) else if gI M1 198 29 < x1 then some (.int (iI (-3)), M1) else X2 d m_Mo_undo 44 [.ref 197, .int x1, .int (iI 0)] [] (wI M1 198 29 ((gI M1 198 29) - x1)) :=
  (sx_eq O2 d m_Mo_undo [44] 26 _ _ _ _).trans rfl
set_option maxRecDepth 100000 in
set_option maxHeartbeats 4000000 in
theorem e_Mo_undo_44 (d : Nat) (v1 : Value) (x2 : Int32) (M : Mem) : X2 d m_Mo_undo 44 [.ref 197, v1, .int x2] [] M = if x2 < iI 4 then gb (inb (((iI 30) + ((iI 4) * (gI M 198 29))) + x2) 2913) (gb (inb ((iI 25) + x2) 2913) (X2 d m_Mo_undo 44 [.ref 197, v1, .int (x2 + iI 1)] [] (wI M 198 (ix ((iI 25) + x2)) (gI M 198 (ix (((iI 30) + ((iI 4) * (gI M 198 29))) + x2)))))) else some (.int (gI M 198 29), M) :=
  (sx_eq O2 d m_Mo_undo [44] 25 _ _ _ _).trans rfl
set_option maxRecDepth 100000 in
set_option maxHeartbeats 4000000 in
theorem e_Mo_judge_0 (d : Nat) (x1 : Int32) (x2 : Int32) (M : Mem) : X2 d m_Mo_judge 0 [.ref 197, .int x1, .int x2, uns, uns, uns, uns] [] M = bI (c2 d m_Mo_within [.long ((x2).toInt64), .long (lI 0), .long (lI 3)] (wI M 197 0 (iI 0))) fun r2 M1 => if r2 = 0 then some (.int (iI (-2)), M1) else bI (c2 d m_Mo_noTray [.ref 197, .int x1] M1) fun r4 M3 => if r4 = 0 then bV (c2 d m_Mo_keeps [.ref 197] M3) fun M5 => bI (c2 d m_Mo_tells [.ref 197, .int x1] M5) fun r7 M6 => bV (c2 d m_Mo_isAgain [.ref 197] M6) fun M8 => if x2 = 0 then if gI M8 197 19 = 0 then some (.int (iI (-1)), M8) else some (.int r7, M8) else if x2 = iI 1 then some (.int (gI M8 197 19), M8) else if x2 = iI 2 then some (.int (gI M6 198 25), M8) else bI (c2 d m_Mo_toldWho [.int (gI M6 198 26)] M8) fun r10 M9 => some (.int r10, M9) else some (.int r4, M3) :=
  (sx_eq O2 d m_Mo_judge [] 45 _ _ _ _).trans rfl
set_option maxRecDepth 100000 in
set_option maxHeartbeats 4000000 in
theorem e_Mo_perform_0 (d : Nat) (x1 : Int32) (M : Mem) : X2 d m_Mo_perform 0 [.ref 197, .int x1, uns, uns] [] M = bI (c2 d m_Mo_noTray [.ref 197, .int x1] (wI M 197 0 (iI 0))) fun r2 M1 => if r2 = 0 then bV (c2 d m_Mo_keeps [.ref 197] M1) fun M3 => bI (c2 d m_Mo_tells [.ref 197, .int x1] M3) fun r5 M4 => if 0 < r5 then bV (c2 d m_Mo_notes [.ref 197] M4) fun M6 => some (.int r5, M6) else some (.int r5, M4) else some (.int r2, M1) :=
  (sx_eq O2 d m_Mo_perform [] 22 _ _ _ _).trans rfl
set_option maxRecDepth 100000 in
set_option maxHeartbeats 4000000 in
theorem e_Mo_season_0 (d : Nat) (x1 : Int32) (x2 : Int32) (M : Mem) : X2 d m_Mo_season 0 [.ref 197, .int x1, .int x2, uns, uns, uns] [] M = bI (c2 d m_Mo_within [.long ((x2).toInt64), .long (lI 1), .long (lI 40)] (wI M 197 0 (iI 0))) fun r2 M1 => if r2 = 0 then some (.int (iI (-3)), M1) else bV (c2 d m_Mo_keeps [.ref 197] M1) fun M3 => X2 d m_Mo_season 34 [.ref 197, .int x1, .int x2, .int (iI 0), .int (iI 0), uns] [] (wI M3 197 20 x1) :=
  (sx_eq O2 d m_Mo_season [34] 19 _ _ _ _).trans rfl
set_option maxRecDepth 100000 in
set_option maxHeartbeats 4000000 in
theorem e_Mo_season_34 (d : Nat) (v1 : Value) (x2 : Int32) (x3 : Int32) (x4 : Int32) (v5 : Value) (M : Mem) : X2 d m_Mo_season 34 [.ref 197, v1, .int x2, .int x3, .int x4, v5] [] M = if x4 < x2 then bI (c2 d m_Mo_drawn [.ref 197] M) fun r3 M2 => bI (c2 d m_Mo_whyNot [.ref 197, .long ((r3).toInt64)] M2) fun r5 M4 => if r5 = 0 then bV (c2 d m_Mo_does [.ref 197, .int r3] M4) fun M6 => X2 d m_Mo_season 34 [.ref 197, v1, .int x2, .int (x3 + iI 1), .int (x4 + iI 1), .int r3] [] M6 else X2 d m_Mo_season 34 [.ref 197, v1, .int x2, .int x3, .int (x4 + iI 1), .int r3] [] M4 else if 0 < x3 then bV (c2 d m_Mo_notes [.ref 197] M) fun M1 => some (.int x3, M1) else some (.int x3, M) :=
  (sx_eq O2 d m_Mo_season [34] 18 _ _ _ _).trans rfl
set_option maxRecDepth 100000 in
set_option maxHeartbeats 4000000 in
theorem e_Mo_lies_0 (d : Nat) (x1 : Int32) (x2 : Int32) (M : Mem) : X2 d m_Mo_lies 0 [.ref 197, .int x1, .int x2] [] M = bI (c2 d m_Mo_within [.long ((x1).toInt64), .long (lI 0), .long (lI 99999)] (wI M 197 0 (iI 0))) fun r2 M1 => if r2 = 0 then some (.int (iI (-3)), M1) else bI (c2 d m_Mo_isBlind [.long ((x2).toInt64)] M1) fun r4 M3 => if r4 = 0 then some (.int (iI (-3)), M3) else bV (c2 d m_Mo_laysRound [.ref 197, .int x2] M3) fun M5 => if x1 < gI M5 197 23 then gb (inb x1 2561) (some (.int ((gI M5 205 (ix x1)) / (iI 5)), M5)) else gb (!(decide (gI M5 197 24 = 0))) (gb (inb ((gI M5 197 23) + (irm (x1 - (gI M5 197 23)) (gI M5 197 24))) 2561) (some (.int ((gI M5 205 (ix ((gI M5 197 23) + (irm (x1 - (gI M5 197 23)) (gI M5 197 24))))) / (iI 5)), M5))) :=
  (sx_eq O2 d m_Mo_lies [] 37 _ _ _ _).trans rfl
set_option maxRecDepth 100000 in
set_option maxHeartbeats 4000000 in
theorem e_Mo_round_0 (d : Nat) (x1 : Int32) (x2 : Int32) (M : Mem) : X2 d m_Mo_round 0 [.ref 197, .int x1, .int x2, uns, uns] [] M = bI (c2 d m_Mo_within [.long ((x2).toInt64), .long (lI 0), .long (lI 3)] (wI M 197 0 (iI 0))) fun r2 M1 => if r2 = 0 then some (.int (iI (-2)), M1) else bI (c2 d m_Mo_isBlind [.long ((x1).toInt64)] M1) fun r4 M3 => if r4 = 0 then some (.int (iI (-3)), M3) else bV (c2 d m_Mo_laysRound [.ref 197, .int x1] M3) fun M5 => if x2 = 0 then some (.int (gI M5 197 23), M5) else if x2 = iI 1 then some (.int (gI M5 197 24), M5) else X2 d m_Mo_round 63 [.ref 197, .int x1, .int x2, .int (iI 0), .int (gI M5 197 23)] [] M5 :=
  (sx_eq O2 d m_Mo_round [63, 126] 27 _ _ _ _).trans rfl
set_option maxRecDepth 100000 in
set_option maxHeartbeats 4000000 in
theorem e_Mo_round_63 (d : Nat) (v1 : Value) (x2 : Int32) (x3 : Int32) (x4 : Int32) (M : Mem) : X2 d m_Mo_round 63 [.ref 197, v1, .int x2, .int x3, .int x4] [] M = if x4 < (gI M 197 23) + (gI M 197 24) then gb (inb x4 2561) (bI (c2 d m_Mo_bitsOf [.int ((gI M 205 (ix x4)) / (iI 5))] M) fun r2 M1 => if x3 < r2 then gb (inb x4 2561) (bI (c2 d m_Mo_bitsOf [.int ((gI M1 205 (ix x4)) / (iI 5))] M1) fun r4 M3 => X2 d m_Mo_round 63 [.ref 197, v1, .int x2, .int r4, .int (x4 + iI 1)] [] M3) else X2 d m_Mo_round 63 [.ref 197, v1, .int x2, .int x3, .int (x4 + iI 1)] [] M1) else if x2 = iI 2 then some (.int x3, M) else X2 d m_Mo_round 126 [.ref 197, v1, .int x2, .int x3, .int (iI 1)] [] M :=
  (sx_eq O2 d m_Mo_round [63, 126] 28 _ _ _ _).trans rfl
set_option maxRecDepth 100000 in
set_option maxHeartbeats 4000000 in
theorem e_Mo_round_126 (d : Nat) (v1 : Value) (v2 : Value) (v3 : Value) (x4 : Int32) (M : Mem) : X2 d m_Mo_round 126 [.ref 197, v1, v2, v3, .int x4] [] M = if x4 < (gI M 197 23) + (gI M 197 24) then gb (inb x4 2561) (if irm (gI M 205 (ix x4)) (iI 5) = iI 4 then gb (inb (x4 - (iI 1)) 2561) (if irm (gI M 205 (ix (x4 - (iI 1)))) (iI 5) = iI 4 then X2 d m_Mo_round 126 [.ref 197, v1, v2, v3, .int (x4 + iI 1)] [] M else some (.int x4, M)) else X2 d m_Mo_round 126 [.ref 197, v1, v2, v3, .int (x4 + iI 1)] [] M) else some (.int (iI (-1)), M) :=
  (sx_eq O2 d m_Mo_round [63, 126] 28 _ _ _ _).trans rfl
set_option maxRecDepth 100000 in
set_option maxHeartbeats 4000000 in
theorem e_Mo_stays_0 (d : Nat)  (M : Mem) : X2 d m_Mo_stays 0 [.ref 197, uns] [] M = if gI M 198 26 = iI 4 then some (.int (iI (-5)), wI M 197 0 (iI 0)) else bI (c2 d m_Mo_laysStays [.ref 197] (wI M 197 0 (iI 0))) fun r2 M1 => if r2 = iI 268435456 then some (.int (iI (-1)), M1) else some (.int r2, M1) :=
  (sx_eq O2 d m_Mo_stays [] 19 _ _ _ _).trans rfl
set_option maxRecDepth 100000 in
set_option maxHeartbeats 4000000 in
theorem e_Mo_stayBy_0 (d : Nat) (x1 : Int32) (M : Mem) : X2 d m_Mo_stayBy 0 [.ref 197, .int x1, uns, uns, uns, uns, uns] [] M = bI (c2 d m_Mo_within [.long ((x1).toInt64), .long (lI 0), .long (lI 99)] (wI M 197 0 (iI 0))) fun r2 M1 => if r2 = 0 then some (.int (iI (-3)), M1) else if gI M1 198 26 = iI 4 then some (.int (iI (-5)), M1) else bI (c2 d m_Mo_laysStays [.ref 197] M1) fun r4 M3 => if x1 < r4 then bI (c2 d m_Mo_standNow [.ref 197] M3) fun r6 M5 => X2 d m_Mo_stayBy 54 [.ref 197, .int x1, .int r4, .int r6, .int (iI 0), uns, uns] [] M5 else some (.int (iI (-1)), M3) :=
  (sx_eq O2 d m_Mo_stayBy [54, 73] 27 _ _ _ _).trans rfl
set_option maxRecDepth 100000 in
set_option maxHeartbeats 4000000 in
theorem e_Mo_stayBy_54 (d : Nat) (x1 : Int32) (x2 : Int32) (x3 : Int32) (x4 : Int32) (v5 : Value) (v6 : Value) (M : Mem) : X2 d m_Mo_stayBy 54 [.ref 197, .int x1, .int x2, .int x3, .int x4, v5, v6] [] M = if x2 = iI 268435456 then X2 d m_Mo_stayBy 73 [.ref 197, .int x1, .int x2, .int x3, .int x4, v5, v6] [.int (iI 268435456)] M else X2 d m_Mo_stayBy 73 [.ref 197, .int x1, .int x2, .int x3, .int x4, v5, v6] [.int ((x2 - x4) - (iI 1))] M :=
  (sx_eq O2 d m_Mo_stayBy [54, 73] 9 _ _ _ _).trans rfl
set_option maxRecDepth 100000 in
set_option maxHeartbeats 4000000 in
theorem e_Mo_stayBy_73 (d : Nat) (x1 : Int32) (x2 : Int32) (x3 : Int32) (x4 : Int32) (v5 : Value) (v6 : Value) (y0 : Int32) (M : Mem) : X2 d m_Mo_stayBy 73 [.ref 197, .int x1, .int x2, .int x3, .int x4, v5, v6] [.int y0] M = gb (inb ((iI 2) * x3) 5120) (gb (inb (gI M 207 (ix ((iI 2) * x3))) 2560) (if gI M 208 (ix (gI M 207 (ix ((iI 2) * x3)))) = y0 then if x4 = x1 then some (.int (iI 0), M) else gb (inb (((iI 2) * x3) + (iI 0)) 5120) (X2 d m_Mo_stayBy 54 [.ref 197, .int x1, .int x2, .int (gI M 207 (ix (((iI 2) * x3) + (iI 0)))), .int (x4 + iI 1), .int y0, .int (iI 0)] [] M) else if x4 = x1 then some (.int (iI 1), M) else gb (inb (((iI 2) * x3) + (iI 1)) 5120) (X2 d m_Mo_stayBy 54 [.ref 197, .int x1, .int x2, .int (gI M 207 (ix (((iI 2) * x3) + (iI 1)))), .int (x4 + iI 1), .int y0, .int (iI 1)] [] M))) :=
  (sx_eq O2 d m_Mo_stayBy [54, 73] 30 _ _ _ _).trans rfl
set_option maxRecDepth 100000 in
set_option maxHeartbeats 4000000 in
theorem e_Mo_out_0 (d : Nat)  (M : Mem) : X2 d m_Mo_out 0 [.ref 197] [] M = if gI M 198 26 = iI 4 then some (.int (iI (-5)), wI M 197 0 (iI 0)) else bI (c2 d m_Mo_laysFar [.ref 197, .int (iI (-1))] (wI M 197 0 (iI 0))) fun r2 M1 => bI (c2 d m_Mo_toldFar [.int r2] M1) fun r4 M3 => some (.int r4, M3) :=
  (sx_eq O2 d m_Mo_out [] 15 _ _ _ _).trans rfl
set_option maxRecDepth 100000 in
set_option maxHeartbeats 4000000 in
theorem e_Mo_outBy_0 (d : Nat) (x1 : Int32) (M : Mem) : X2 d m_Mo_outBy 0 [.ref 197, .int x1] [] M = if x1 < 0 then some (.int (iI (-3)), wI M 197 0 (iI 0)) else if gI M 198 26 = iI 4 then some (.int (iI (-5)), wI M 197 0 (iI 0)) else bI (c2 d m_Mo_laysFar [.ref 197, .int (iI (-1))] (wI M 197 0 (iI 0))) fun r2 M1 => bI (c2 d m_Mo_blindAt [.ref 197, .int x1] M1) fun r4 M3 => some (.int r4, M3) :=
  (sx_eq O2 d m_Mo_outBy [] 20 _ _ _ _).trans rfl
set_option maxRecDepth 100000 in
set_option maxHeartbeats 4000000 in
theorem e_Mo_forces_0 (d : Nat)  (M : Mem) : X2 d m_Mo_forces 0 [.ref 197] [] M = if gI M 198 26 = iI 4 then some (.int (iI (-5)), wI M 197 0 (iI 0)) else bI (c2 d m_Mo_laysForced [.ref 197] (wI M 197 0 (iI 0))) fun r2 M1 => bI (c2 d m_Mo_toldFar [.int r2] M1) fun r4 M3 => some (.int r4, M3) :=
  (sx_eq O2 d m_Mo_forces [] 14 _ _ _ _).trans rfl
set_option maxRecDepth 100000 in
set_option maxHeartbeats 4000000 in
theorem e_Mo_minds_0 (d : Nat)  (M : Mem) : X2 d m_Mo_minds 0 [.ref 197, uns] [] M = if gI M 198 26 = iI 4 then some (.int (iI (-5)), wI M 197 0 (iI 0)) else bI (c2 d m_Mo_laysForced [.ref 197] (wI M 197 0 (iI 0))) fun r2 M1 => if r2 = iI 268435456 then some (.int (iI (-1)), M1) else bI (c2 d m_Mo_standNow [.ref 197] M1) fun r4 M3 => gb (inb ((iI 2) * r4) 5120) (gb (inb (gI M3 207 (ix ((iI 2) * r4))) 2560) (if gI M3 209 (ix (gI M3 207 (ix ((iI 2) * r4)))) = r2 - (iI 1) then some (.int (iI 0), M3) else some (.int (iI 1), M3))) :=
  (sx_eq O2 d m_Mo_minds [] 33 _ _ _ _).trans rfl
set_option maxRecDepth 100000 in
set_option maxHeartbeats 4000000 in
theorem e_Mo_soonest_0 (d : Nat) (x1 : Int32) (M : Mem) : X2 d m_Mo_soonest 0 [.ref 197, .int x1] [] M = bI (c2 d m_Mo_isWall [.ref 197, .long ((x1).toInt64)] (wI M 197 0 (iI 0))) fun r2 M1 => if r2 = 0 then some (.int (iI (-3)), M1) else bI (c2 d m_Mo_laysFar [.ref 197, .int x1] M1) fun r4 M3 => bI (c2 d m_Mo_toldFar [.int r4] M3) fun r6 M5 => some (.int r6, M5) :=
  (sx_eq O2 d m_Mo_soonest [] 15 _ _ _ _).trans rfl
set_option maxRecDepth 100000 in
set_option maxHeartbeats 4000000 in
theorem e_Mo_way_0 (d : Nat) (x1 : Int32) (x2 : Int32) (M : Mem) : X2 d m_Mo_way 0 [.ref 197, .int x1, .int x2] [] M = bI (c2 d m_Mo_isWall [.ref 197, .long ((x1).toInt64)] (wI M 197 0 (iI 0))) fun r2 M1 => if r2 = 0 then some (.int (iI (-3)), M1) else if x2 < 0 then some (.int (iI (-3)), M1) else bI (c2 d m_Mo_laysFar [.ref 197, .int x1] M1) fun r4 M3 => bI (c2 d m_Mo_blindAt [.ref 197, .int x2] M3) fun r6 M5 => some (.int r6, M5) :=
  (sx_eq O2 d m_Mo_way [] 19 _ _ _ _).trans rfl
set_option maxRecDepth 100000 in
set_option maxHeartbeats 4000000 in
theorem e_Mo_toFace_0 (d : Nat)  (M : Mem) : X2 d m_Mo_toFace 0 [.ref 197] [] M = if gI M 198 4 = 0 then some (.int (iI (-1)), wI M 197 0 (iI 0)) else bI (c2 d m_Mo_laysFar [.ref 197, .int (gI M 198 4)] (wI M 197 0 (iI 0))) fun r2 M1 => bI (c2 d m_Mo_toldFar [.int r2] M1) fun r4 M3 => some (.int r4, M3) :=
  (sx_eq O2 d m_Mo_toFace [] 17 _ _ _ _).trans rfl
set_option maxRecDepth 100000 in
set_option maxHeartbeats 4000000 in
theorem e_Mo_walls_0 (d : Nat)  (M : Mem) : X2 d m_Mo_walls 0 [.ref 197, uns, uns, uns, uns, uns] [] M = bV (c2 d m_Mo_beginsMany [.ref 197] (wI M 197 0 (iI 0))) fun M1 => X2 d m_Mo_walls 11 [.ref 197, .int (iI 1), uns, uns, uns, uns] [] M1 :=
  (sx_eq O2 d m_Mo_walls [11, 19, 28, 104, 117] 8 _ _ _ _).trans rfl
set_option maxRecDepth 100000 in
set_option maxHeartbeats 4000000 in
theorem e_Mo_walls_11 (d : Nat) (x1 : Int32) (v2 : Value) (v3 : Value) (v4 : Value) (v5 : Value) (M : Mem) : X2 d m_Mo_walls 11 [.ref 197, .int x1, v2, v3, v4, v5] [] M = if x1 = 0 then X2 d m_Mo_walls 104 [.ref 197, .int x1, .int (iI 0), .int (iI 0), v4, v5] [] M else X2 d m_Mo_walls 19 [.ref 197, .int (iI 0), .int (iI 0), v3, v4, v5] [] M :=
  (sx_eq O2 d m_Mo_walls [11, 19, 28, 104, 117] 7 _ _ _ _).trans rfl
set_option maxRecDepth 100000 in
set_option maxHeartbeats 4000000 in
theorem e_Mo_walls_104 (d : Nat) (v1 : Value) (x2 : Int32) (x3 : Int32) (v4 : Value) (v5 : Value) (M : Mem) : X2 d m_Mo_walls 104 [.ref 197, v1, .int x2, .int x3, v4, v5] [] M = if x3 < iI 512 then X2 d m_Mo_walls 117 [.ref 197, v1, .int x2, .int x3, .int (iI 0), .int (iI 0)] [] M else some (.int x2, M) :=
  (sx_eq O2 d m_Mo_walls [11, 19, 28, 104, 117] 8 _ _ _ _).trans rfl
set_option maxRecDepth 100000 in
set_option maxHeartbeats 4000000 in
theorem e_Mo_walls_19 (d : Nat) (x1 : Int32) (x2 : Int32) (v3 : Value) (v4 : Value) (v5 : Value) (M : Mem) : X2 d m_Mo_walls 19 [.ref 197, .int x1, .int x2, v3, v4, v5] [] M = if x2 < iI 2560 then X2 d m_Mo_walls 28 [.ref 197, .int x1, .int x2, .int (iI 0), v4, v5] [] M else X2 d m_Mo_walls 11 [.ref 197, .int x1, .int x2, v3, v4, v5] [] M :=
  (sx_eq O2 d m_Mo_walls [11, 19, 28, 104, 117] 6 _ _ _ _).trans rfl
set_option maxRecDepth 100000 in
set_option maxHeartbeats 4000000 in
theorem e_Mo_walls_117 (d : Nat) (v1 : Value) (x2 : Int32) (x3 : Int32) (x4 : Int32) (x5 : Int32) (M : Mem) : X2 d m_Mo_walls 117 [.ref 197, v1, .int x2, .int x3, .int x4, .int x5] [] M = if x5 < iI 5 then bI (c2 d m_Mo_standOf [.int x3, .int x5] M) fun r2 M1 => gb (inb r2 2560) (if gI M1 210 (ix r2) = iI 1 then X2 d m_Mo_walls 117 [.ref 197, v1, .int x2, .int x3, .int (x4 ||| (iI 1)), .int (x5 + iI 1)] [] M1 else X2 d m_Mo_walls 117 [.ref 197, v1, .int x2, .int x3, .int (x4 ||| (iI 0)), .int (x5 + iI 1)] [] M1) else if x4 = 0 then X2 d m_Mo_walls 104 [.ref 197, v1, .int (x2 + (iI 0)), .int (x3 + iI 1), .int x4, .int x5] [] M else X2 d m_Mo_walls 104 [.ref 197, v1, .int (x2 + (iI 1)), .int (x3 + iI 1), .int x4, .int x5] [] M :=
  (sx_eq O2 d m_Mo_walls [11, 19, 28, 104, 117] 19 _ _ _ _).trans rfl
set_option maxRecDepth 100000 in
set_option maxHeartbeats 4000000 in
theorem e_Mo_walls_28 (d : Nat) (x1 : Int32) (x2 : Int32) (x3 : Int32) (v4 : Value) (v5 : Value) (M : Mem) : X2 d m_Mo_walls 28 [.ref 197, .int x1, .int x2, .int x3, v4, v5] [] M = if x3 < iI 2 then gb (inb x2 2560) (if gI M 210 (ix x2) = iI 1 then gb (inb (((iI 2) * x2) + x3) 5120) (gb (inb (gI M 207 (ix (((iI 2) * x2) + x3))) 2560) (if gI M 210 (ix (gI M 207 (ix (((iI 2) * x2) + x3)))) = 0 then gb (inb (((iI 2) * x2) + x3) 5120) (gb (inb (gI M 207 (ix (((iI 2) * x2) + x3))) 2560) (X2 d m_Mo_walls 28 [.ref 197, .int (x1 ||| (iI 1)), .int x2, .int (x3 + iI 1), v4, v5] [] (wI M 210 (ix (gI M 207 (ix (((iI 2) * x2) + x3)))) (iI 1)))) else gb (inb (((iI 2) * x2) + x3) 5120) (gb (inb (gI M 207 (ix (((iI 2) * x2) + x3))) 2560) (X2 d m_Mo_walls 28 [.ref 197, .int (x1 ||| (iI 0)), .int x2, .int (x3 + iI 1), v4, v5] [] (wI M 210 (ix (gI M 207 (ix (((iI 2) * x2) + x3)))) (iI 1)))))) else X2 d m_Mo_walls 19 [.ref 197, .int x1, .int (x2 + iI 1), .int x3, v4, v5] [] M) else X2 d m_Mo_walls 19 [.ref 197, .int x1, .int (x2 + iI 1), .int x3, v4, v5] [] M :=
  (sx_eq O2 d m_Mo_walls [11, 19, 28, 104, 117] 41 _ _ _ _).trans rfl
set_option maxRecDepth 100000 in
set_option maxHeartbeats 4000000 in
theorem e_Mo_parents_0 (d : Nat) (x1 : Int32) (x2 : Int32) (x3 : Int32) (M : Mem) : X2 d m_Mo_parents 0 [.ref 197, .int x1, .int x2, .int x3] [] M = if x3 = iI (-1) then bI (c2 d m_Mo_isWall [.ref 197, .long ((x1).toInt64)] (wI M 197 0 (iI 0))) fun r2 M1 => if r2 = 0 then some (.int (iI (-3)), M1) else bI (c2 d m_Mo_isBlind [.long ((x2).toInt64)] M1) fun r4 M3 => if r4 = 0 then some (.int (iI (-3)), M3) else bV (c2 d m_Mo_laysFrom [.ref 197, .int x2, .int x3] M3) fun M5 => gb (inb x1 512) (some (.int (gI M5 212 (ix x1)), M5)) else bI (c2 d m_Mo_isTenant [.ref 197, .long ((x3).toInt64)] (wI M 197 0 (iI 0))) fun r7 M6 => if r7 = 0 then some (.int (iI (-2)), M6) else bI (c2 d m_Mo_isWall [.ref 197, .long ((x1).toInt64)] M6) fun r9 M8 => if r9 = 0 then some (.int (iI (-3)), M8) else bI (c2 d m_Mo_isBlind [.long ((x2).toInt64)] M8) fun r11 M10 => if r11 = 0 then some (.int (iI (-3)), M10) else bV (c2 d m_Mo_laysFrom [.ref 197, .int x2, .int x3] M10) fun M12 => gb (inb x1 512) (some (.int (gI M12 212 (ix x1)), M12)) :=
  (sx_eq O2 d m_Mo_parents [] 30 _ _ _ _).trans rfl
set_option maxRecDepth 100000 in
set_option maxHeartbeats 4000000 in
theorem e_Mo_orphans_0 (d : Nat) (x1 : Int32) (x2 : Int32) (M : Mem) : X2 d m_Mo_orphans 0 [.ref 197, .int x1, .int x2, uns, uns, uns] [] M = bI (c2 d m_Mo_noSo [.ref 197, .int x1, .int x2] (wI M 197 0 (iI 0))) fun r2 M1 => if r2 = 0 then bV (c2 d m_Mo_laysFrom [.ref 197, .int x1, .int x2] M1) fun M3 => X2 d m_Mo_orphans 30 [.ref 197, .int x1, .int x2, .int r2, .int (iI 0), .int (iI 0)] [] M3 else some (.int r2, M1) :=
  (sx_eq O2 d m_Mo_orphans [30] 19 _ _ _ _).trans rfl
set_option maxRecDepth 100000 in
set_option maxHeartbeats 4000000 in
theorem e_Mo_orphans_30 (d : Nat) (v1 : Value) (v2 : Value) (v3 : Value) (x4 : Int32) (x5 : Int32) (M : Mem) : X2 d m_Mo_orphans 30 [.ref 197, v1, v2, v3, .int x4, .int x5] [] M = bI (c2 d m_Mo_roses [.ref 197] M) fun r2 M1 => if x5 < (iI 1) <<< (r2 &&& 31) then gb (inb x5 512) (if gI M1 212 (ix x5) = 0 then X2 d m_Mo_orphans 30 [.ref 197, v1, v2, v3, .int (x4 + (iI 1)), .int (x5 + iI 1)] [] M1 else X2 d m_Mo_orphans 30 [.ref 197, v1, v2, v3, .int (x4 + (iI 0)), .int (x5 + iI 1)] [] M1) else some (.int x4, M1) :=
  (sx_eq O2 d m_Mo_orphans [30] 19 _ _ _ _).trans rfl
set_option maxRecDepth 100000 in
set_option maxHeartbeats 4000000 in
theorem e_Mo_still_0 (d : Nat) (x1 : Int32) (x2 : Int32) (M : Mem) : X2 d m_Mo_still 0 [.ref 197, .int x1, .int x2, uns, uns, uns] [] M = bI (c2 d m_Mo_noSo [.ref 197, .int x1, .int x2] (wI M 197 0 (iI 0))) fun r2 M1 => if r2 = 0 then X2 d m_Mo_still 24 [.ref 197, .int x1, .int x2, .int r2, .int (iI 0), .int (iI 0)] [] M1 else some (.int r2, M1) :=
  (sx_eq O2 d m_Mo_still [24] 15 _ _ _ _).trans rfl
set_option maxRecDepth 100000 in
set_option maxHeartbeats 4000000 in
theorem e_Mo_still_24 (d : Nat) (x1 : Int32) (x2 : Int32) (v3 : Value) (x4 : Int32) (x5 : Int32) (M : Mem) : X2 d m_Mo_still 24 [.ref 197, .int x1, .int x2, v3, .int x4, .int x5] [] M = bI (c2 d m_Mo_roses [.ref 197] M) fun r2 M1 => if x5 < (iI 1) <<< (r2 &&& 31) then if x2 = iI (-1) then bI (c2 d m_Mo_wallThen [.ref 197, .int x5, .int (iI 4), .int x1] M1) fun r6 M5 => if r6 = x5 then X2 d m_Mo_still 24 [.ref 197, .int x1, .int x2, v3, .int (x4 + (iI 1)), .int (x5 + iI 1)] [] M5 else X2 d m_Mo_still 24 [.ref 197, .int x1, .int x2, v3, .int (x4 + (iI 0)), .int (x5 + iI 1)] [] M5 else bI (c2 d m_Mo_wallThen [.ref 197, .int x5, .int x2, .int x1] M1) fun r4 M3 => if r4 = x5 then X2 d m_Mo_still 24 [.ref 197, .int x1, .int x2, v3, .int (x4 + (iI 1)), .int (x5 + iI 1)] [] M3 else X2 d m_Mo_still 24 [.ref 197, .int x1, .int x2, v3, .int (x4 + (iI 0)), .int (x5 + iI 1)] [] M3 else some (.int x4, M1) :=
  (sx_eq O2 d m_Mo_still [24] 25 _ _ _ _).trans rfl
set_option maxRecDepth 100000 in
set_option maxHeartbeats 4000000 in
theorem e_Mo_rows_0 (d : Nat) (x1 : Int32) (x2 : Int32) (M : Mem) : X2 d m_Mo_rows 0 [.ref 197, .int x1, .int x2, uns, uns] [] M = bI (c2 d m_Mo_isWall [.ref 197, .long ((x1).toInt64)] (wI M 197 0 (iI 0))) fun r2 M1 => if r2 = 0 then some (.int (iI (-3)), M1) else bI (c2 d m_Mo_within [.long ((x2).toInt64), .long (lI 0), .long (lI 20)] M1) fun r4 M3 => if r4 = 0 then some (.int (iI (-3)), M3) else bV (c2 d m_Mo_beginsMany [.ref 197] M3) fun M5 => X2 d m_Mo_rows 35 [.ref 197, .int x1, .int x2, .int (iI 0), uns] [] M5 :=
  (sx_eq O2 d m_Mo_rows [35, 57] 19 _ _ _ _).trans rfl
set_option maxRecDepth 100000 in
set_option maxHeartbeats 4000000 in
theorem e_Mo_rows_35 (d : Nat) (x1 : Int32) (x2 : Int32) (x3 : Int32) (v4 : Value) (M : Mem) : X2 d m_Mo_rows 35 [.ref 197, .int x1, .int x2, .int x3, v4] [] M = if x3 < x2 then bV (c2 d m_Mo_goesMany [.ref 197, .int (iI 1), .int (iI 1)] M) fun M1 => X2 d m_Mo_rows 35 [.ref 197, .int x1, .int x2, .int (x3 + iI 1), v4] [] M1 else X2 d m_Mo_rows 57 [.ref 197, .int x1, .int x2, .int (iI 0), .int (iI 0)] [] M :=
  (sx_eq O2 d m_Mo_rows [35, 57] 10 _ _ _ _).trans rfl
set_option maxRecDepth 100000 in
set_option maxHeartbeats 4000000 in
theorem e_Mo_rows_57 (d : Nat) (x1 : Int32) (v2 : Value) (x3 : Int32) (x4 : Int32) (M : Mem) : X2 d m_Mo_rows 57 [.ref 197, .int x1, v2, .int x3, .int x4] [] M = if x4 < iI 5 then bI (c2 d m_Mo_standOf [.int x1, .int x4] M) fun r2 M1 => gb (inb r2 2560) (X2 d m_Mo_rows 57 [.ref 197, .int x1, v2, .int (x3 + (gI M1 210 (ix r2))), .int (x4 + iI 1)] [] M1) else some (.int x3, M) :=
  (sx_eq O2 d m_Mo_rows [35, 57] 15 _ _ _ _).trans rfl
set_option maxRecDepth 100000 in
set_option maxHeartbeats 4000000 in
theorem e_Mo_seen_0 (d : Nat) (x1 : Int32) (M : Mem) : X2 d m_Mo_seen 0 [.ref 197, .int x1, uns, uns, uns] [] M = bI (c2 d m_Mo_noSeen [.ref 197, .int x1] (wI M 197 0 (iI 0))) fun r2 M1 => if r2 = 0 then bV (c2 d m_Mo_laysThen [.ref 197] M1) fun M3 => X2 d m_Mo_seen 26 [.ref 197, .int x1, .int r2, .int (iI 0), .int (iI 0)] [] M3 else some (.int r2, M1) :=
  (sx_eq O2 d m_Mo_seen [26] 16 _ _ _ _).trans rfl
set_option maxRecDepth 100000 in
set_option maxHeartbeats 4000000 in
theorem e_Mo_seen_26 (d : Nat) (x1 : Int32) (v2 : Value) (x3 : Int32) (x4 : Int32) (M : Mem) : X2 d m_Mo_seen 26 [.ref 197, .int x1, v2, .int x3, .int x4] [] M = gb (inb x1 4) (if x4 < (iI 1) <<< ((gI M 214 (ix x1)) &&& 31) then bI (c2 d m_Mo_standNow [.ref 197] M) fun r2 M1 => bI (c2 d m_Mo_isRow [.ref 197, .int x1, .int x4, .int r2] M1) fun r4 M3 => if r4 = 0 then X2 d m_Mo_seen 26 [.ref 197, .int x1, v2, .int (x3 + (iI 0)), .int (x4 + iI 1)] [] M3 else X2 d m_Mo_seen 26 [.ref 197, .int x1, v2, .int (x3 + (iI 1)), .int (x4 + iI 1)] [] M3 else some (.int x3, M)) :=
  (sx_eq O2 d m_Mo_seen [26] 23 _ _ _ _).trans rfl
set_option maxRecDepth 100000 in
set_option maxHeartbeats 4000000 in
theorem e_Mo_seenBy_0 (d : Nat) (x1 : Int32) (x2 : Int32) (M : Mem) : X2 d m_Mo_seenBy 0 [.ref 197, .int x1, .int x2, uns, uns] [] M = bI (c2 d m_Mo_noSeen [.ref 197, .int x1] (wI M 197 0 (iI 0))) fun r2 M1 => if r2 = 0 then if x2 < 0 then some (.int (iI (-3)), M1) else bV (c2 d m_Mo_laysThen [.ref 197] M1) fun M3 => X2 d m_Mo_seenBy 31 [.ref 197, .int x1, .int x2, .int r2, .int (iI 0)] [] M3 else some (.int r2, M1) :=
  (sx_eq O2 d m_Mo_seenBy [31] 16 _ _ _ _).trans rfl
set_option maxRecDepth 100000 in
set_option maxHeartbeats 4000000 in
theorem e_Mo_seenBy_31 (d : Nat) (x1 : Int32) (x2 : Int32) (v3 : Value) (x4 : Int32) (M : Mem) : X2 d m_Mo_seenBy 31 [.ref 197, .int x1, .int x2, v3, .int x4] [] M = gb (inb x1 4) (if x4 < (iI 1) <<< ((gI M 214 (ix x1)) &&& 31) then gb (inb x1 4) (if x2 < gI M 214 (ix x1) then bI (c2 d m_Mo_standNow [.ref 197] M) fun r2 M1 => bI (c2 d m_Mo_isRow [.ref 197, .int x1, .int x4, .int r2] M1) fun r4 M3 => if r4 = 0 then X2 d m_Mo_seenBy 31 [.ref 197, .int x1, .int x2, v3, .int (x4 + iI 1)] [] M3 else bI (c2 d m_Mo_blindIn [.ref 197, .int x1, .int x4, .int x2] M3) fun r6 M5 => some (.int r6, M5) else some (.int (iI (-1)), M)) else some (.int (iI (-1)), M)) :=
  (sx_eq O2 d m_Mo_seenBy [31] 28 _ _ _ _).trans rfl
set_option maxRecDepth 100000 in
set_option maxHeartbeats 4000000 in
theorem e_Mo_whose_0 (d : Nat) (x1 : Int32) (M : Mem) : X2 d m_Mo_whose 0 [.ref 197, .int x1, uns, uns, uns, uns] [] M = bI (c2 d m_Mo_noSeen [.ref 197, .int x1] (wI M 197 0 (iI 0))) fun r2 M1 => if r2 = 0 then bV (c2 d m_Mo_laysThen [.ref 197] M1) fun M3 => X2 d m_Mo_whose 26 [.ref 197, .int x1, .int r2, .int (iI 0), .int (iI 0), uns] [] M3 else some (.int r2, M1) :=
  (sx_eq O2 d m_Mo_whose [26, 55] 16 _ _ _ _).trans rfl
set_option maxRecDepth 100000 in
set_option maxHeartbeats 4000000 in
theorem e_Mo_whose_26 (d : Nat) (x1 : Int32) (v2 : Value) (x3 : Int32) (x4 : Int32) (v5 : Value) (M : Mem) : X2 d m_Mo_whose 26 [.ref 197, .int x1, v2, .int x3, .int x4, v5] [] M = if iI 4 < x4 then some (.int x3, M) else if x4 = iI 4 then X2 d m_Mo_whose 55 [.ref 197, .int x1, v2, .int x3, .int x4, .int (iI 0)] [] M else if x4 < gI M 198 3 then X2 d m_Mo_whose 55 [.ref 197, .int x1, v2, .int x3, .int x4, .int (iI 0)] [] M else X2 d m_Mo_whose 26 [.ref 197, .int x1, v2, .int x3, .int (x4 + iI 1), v5] [] M :=
  (sx_eq O2 d m_Mo_whose [26, 55] 16 _ _ _ _).trans rfl
set_option maxRecDepth 100000 in
set_option maxHeartbeats 4000000 in
theorem e_Mo_whose_55 (d : Nat) (x1 : Int32) (v2 : Value) (x3 : Int32) (x4 : Int32) (x5 : Int32) (M : Mem) : X2 d m_Mo_whose 55 [.ref 197, .int x1, v2, .int x3, .int x4, .int x5] [] M = gb (inb x1 4) (if x5 < (iI 1) <<< ((gI M 214 (ix x1)) &&& 31) then bI (c2 d m_Mo_standOf [.int (gI M 198 25), .int x4] M) fun r2 M1 => bI (c2 d m_Mo_isRow [.ref 197, .int x1, .int x5, .int r2] M1) fun r4 M3 => if r4 = 0 then X2 d m_Mo_whose 55 [.ref 197, .int x1, v2, .int x3, .int x4, .int (x5 + iI 1)] [] M3 else if x4 = iI 4 then X2 d m_Mo_whose 55 [.ref 197, .int x1, v2, .int (x3 ||| ((iI 1) <<< ((iI 9) &&& 31))), .int x4, .int (x5 + iI 1)] [] M3 else X2 d m_Mo_whose 55 [.ref 197, .int x1, v2, .int (x3 ||| ((iI 1) <<< (x4 &&& 31))), .int x4, .int (x5 + iI 1)] [] M3 else X2 d m_Mo_whose 26 [.ref 197, .int x1, v2, .int x3, .int (x4 + iI 1), .int x5] [] M) :=
  (sx_eq O2 d m_Mo_whose [26, 55] 32 _ _ _ _).trans rfl
set_option maxRecDepth 100000 in
set_option maxHeartbeats 4000000 in
theorem e_Mo_tempers_0 (d : Nat) (x1 : Int32) (x2 : Int32) (M : Mem) : X2 d m_Mo_tempers 0 [.ref 197, .int x1, .int x2, uns] [] M = bI (c2 d m_Mo_noBlinds [.ref 197, .int x1, .int x2] (wI M 197 0 (iI 0))) fun r2 M1 => if r2 = 0 then bI (c2 d m_Mo_tempersOf [.ref 197, .int x1, .int x2] M1) fun r4 M3 => some (.int r4, M3) else some (.int r2, M1) :=
  (sx_eq O2 d m_Mo_tempers [] 16 _ _ _ _).trans rfl
set_option maxRecDepth 100000 in
set_option maxHeartbeats 4000000 in
theorem e_Mo_attempt_0 (d : Nat) (x1 : Int32) (x2 : Int32) (M : Mem) : X2 d m_Mo_attempt 0 [.ref 197, .int x1, .int x2, uns, uns] [] M = bI (c2 d m_Mo_noBlinds [.ref 197, .int x1, .int x2] (wI M 197 0 (iI 0))) fun r2 M1 => if r2 = 0 then bI (c2 d m_Mo_tempersOf [.ref 197, .int x1, .int x2] M1) fun r4 M3 => if r4 = 0 then some (.int (iI (-1)), M3) else bI (c2 d m_Mo_mostAlike [.ref 197, .int r4, .int (iI 1)] M3) fun r6 M5 => bI (c2 d m_Mo_mostAlike [.ref 197, .int r4, .int (iI 0)] M5) fun r8 M7 => if r6 < r8 then some (.int (iI 1), M7) else some (.int (iI 0), M7) else some (.int r2, M1) :=
  (sx_eq O2 d m_Mo_attempt [] 30 _ _ _ _).trans rfl
set_option maxRecDepth 100000 in
set_option maxHeartbeats 4000000 in
theorem e_Mo_chance_0 (d : Nat) (x1 : Int32) (x2 : Int32) (M : Mem) : X2 d m_Mo_chance 0 [.ref 197, .int x1, .int x2, uns] [] M = bI (c2 d m_Mo_within [.long ((x2).toInt64), .long (lI 0), .long (lI 1)] (wI M 197 0 (iI 0))) fun r2 M1 => if r2 = 0 then some (.int (iI (-2)), M1) else bI (c2 d m_Mo_within [.long ((x1).toInt64), .long (lI 0), .long (lI 8)] M1) fun r4 M3 => if r4 = 0 then some (.int (iI (-3)), M3) else if gI M3 198 26 = iI 4 then some (.int (iI (-5)), M3) else bI (c2 d m_Mo_chanceOf [.ref 197, .int (gI M3 198 26), .int x1] M3) fun r6 M5 => if x2 = 0 then bI (c2 d m_Mo_wholeOf [.int x1] M5) fun r14 M13 => bI (c2 d m_Mo_common [.int r6, .int r14] M13) fun r16 M15 => gb (!(decide (r16 = 0))) (some (.int (r6 / r16), M15)) else bI (c2 d m_Mo_wholeOf [.int x1] M5) fun r8 M7 => bI (c2 d m_Mo_wholeOf [.int x1] M7) fun r10 M9 => bI (c2 d m_Mo_common [.int r6, .int r10] M9) fun r12 M11 => gb (!(decide (r12 = 0))) (some (.int (r8 / r12), M11)) :=
  (sx_eq O2 d m_Mo_chance [] 40 _ _ _ _).trans rfl
set_option maxRecDepth 100000 in
set_option maxHeartbeats 4000000 in
theorem e_Mo_gone_0 (d : Nat) (x1 : Int32) (M : Mem) : X2 d m_Mo_gone 0 [.ref 197, .int x1, uns] [] M = bI (c2 d m_Mo_within [.long ((x1).toInt64), .long (lI 0), .long (lI 100)] (wI M 197 0 (iI 0))) fun r2 M1 => if r2 = 0 then some (.int (iI (-3)), M1) else if gI M1 198 26 = iI 4 then some (.int (iI (-5)), M1) else X2 d m_Mo_gone 36 [.ref 197, .int x1, .int (iI 0)] [] M1 :=
  (sx_eq O2 d m_Mo_gone [36] 18 _ _ _ _).trans rfl
set_option maxRecDepth 100000 in
set_option maxHeartbeats 4000000 in
theorem e_Mo_gone_36 (d : Nat) (x1 : Int32) (x2 : Int32) (M : Mem) : X2 d m_Mo_gone 36 [.ref 197, .int x1, .int x2] [] M = if iI 8 < x2 then some (.int (iI (-1)), M) else bI (c2 d m_Mo_chanceOf [.ref 197, .int (gI M 198 26), .int x2] M) fun r2 M1 => bI (c2 d m_Mo_wholeOf [.int x2] M1) fun r4 M3 => if lg_cmp ((lI 100) * ((r2).toInt64)) (((x1).toInt64) * ((r4).toInt64)) < 0 then some (.int x2, M3) else X2 d m_Mo_gone 36 [.ref 197, .int x1, .int (x2 + iI 1)] [] M3 :=
  (sx_eq O2 d m_Mo_gone [36] 24 _ _ _ _).trans rfl
set_option maxRecDepth 100000 in
set_option maxHeartbeats 4000000 in
theorem e_Mo_best_0 (d : Nat) (x1 : Int32) (M : Mem) : X2 d m_Mo_best 0 [.ref 197, .int x1, uns, uns, uns, uns] [] M = bI (c2 d m_Mo_within [.long ((x1).toInt64), .long (lI 0), .long (lI 8)] (wI M 197 0 (iI 0))) fun r2 M1 => if r2 = 0 then some (.int (iI (-3)), M1) else X2 d m_Mo_best 27 [.ref 197, .int x1, .int (iI (-1)), .int (iI (-1)), .int (iI 0), uns] [] M1 :=
  (sx_eq O2 d m_Mo_best [27] 16 _ _ _ _).trans rfl
set_option maxRecDepth 100000 in
set_option maxHeartbeats 4000000 in
theorem e_Mo_best_27 (d : Nat) (x1 : Int32) (x2 : Int32) (x3 : Int32) (x4 : Int32) (v5 : Value) (M : Mem) : X2 d m_Mo_best 27 [.ref 197, .int x1, .int x2, .int x3, .int x4, v5] [] M = if x4 < gI M 198 3 then bI (c2 d m_Mo_chanceOf [.ref 197, .int x4, .int x1] M) fun r2 M1 => if x3 < r2 then X2 d m_Mo_best 27 [.ref 197, .int x1, .int x4, .int r2, .int (x4 + iI 1), .int r2] [] M1 else X2 d m_Mo_best 27 [.ref 197, .int x1, .int x2, .int x3, .int (x4 + iI 1), .int r2] [] M1 else some (.int x2, M) :=
  (sx_eq O2 d m_Mo_best [27] 21 _ _ _ _).trans rfl
set_option maxRecDepth 100000 in
set_option maxHeartbeats 4000000 in
theorem e_Mo_numbers_0 (d : Nat) (x1 : Int32) (x2 : Int32) (x3 : Int32) (M : Mem) : X2 d m_Mo_numbers 0 [.ref 197, .int x1, .int x2, .int x3, uns] [] M = bI (c2 d m_Mo_within [.long ((x1).toInt64), .long (lI 0), .long (lI 3)] (wI M 197 0 (iI 0))) fun r2 M1 => if r2 = 0 then some (.int (iI (-2)), M1) else bI (c2 d m_Mo_within [.long ((x2).toInt64), .long (lI 0), .long (lI 3)] M1) fun r4 M3 => if r4 = 0 then some (.int (iI (-2)), M3) else bI (c2 d m_Mo_within [.long ((x3).toInt64), .long (lI 0), .long (lI 40)] M3) fun r6 M5 => if r6 = 0 then some (.int (iI (-3)), M5) else gb (inb x1 4) (gb (inb x1 4) (X2 d m_Mo_numbers 64 [.ref 197, .int x1, .int x2, .int x3, .int (iI 0)] [] (wI (wI M5 213 (ix x1) x2) 214 (ix x1) x3))) :=
  (sx_eq O2 d m_Mo_numbers [64] 34 _ _ _ _).trans rfl
set_option maxRecDepth 100000 in
set_option maxHeartbeats 4000000 in
theorem e_Mo_numbers_64 (d : Nat) (x1 : Int32) (v2 : Value) (x3 : Int32) (x4 : Int32) (M : Mem) : X2 d m_Mo_numbers 64 [.ref 197, .int x1, v2, .int x3, .int x4] [] M = if x4 < x3 then gb (inb (((iI 40) * x1) + x4) 160) (X2 d m_Mo_numbers 64 [.ref 197, .int x1, v2, .int x3, .int (x4 + iI 1)] [] (wL M 215 (ix (((iI 40) * x1) + x4)) (lI 0))) else some (.int (iI 0), M) :=
  (sx_eq O2 d m_Mo_numbers [64] 15 _ _ _ _).trans rfl
set_option maxRecDepth 100000 in
set_option maxHeartbeats 4000000 in
theorem e_Mo_write_0 (d : Nat) (x1 : Int32) (x2 : Int32) (x3 : Int64) (M : Mem) : X2 d m_Mo_write 0 [.ref 197, .int x1, .int x2, .long x3, mk2, uns] [] M = bI (c2 d m_Mo_noTray [.ref 197, .int x1] (wI M 197 0 (iI 0))) fun r2 M1 => if r2 = 0 then gb (inb x1 4) (bI (c2 d m_Mo_within [.long ((x2).toInt64), .long (lI 0), .long (((gI M1 214 (ix x1)) - (iI 1)).toInt64)] M1) fun r4 M3 => if r4 = 0 then some (.long (lI (-7)), M3) else gb (inb x1 4) (bL (c2 d m_Mo_cut [.long x3, .int (gI M3 213 (ix x1))] M3) fun r6 M5 => gb (inb (((iI 40) * x1) + x2) 160) (gb (inb (((iI 40) * x1) + x2) 160) (some (.long (gL (wL M5 215 (ix (((iI 40) * x1) + x2)) r6) 215 (ix (((iI 40) * x1) + x2))), wL M5 215 (ix (((iI 40) * x1) + x2)) r6))))) else some (.long ((r2).toInt64), M1) :=
  (sx_eq O2 d m_Mo_write [] 45 _ _ _ _).trans rfl
set_option maxRecDepth 100000 in
set_option maxHeartbeats 4000000 in
theorem e_Mo_lists_0 (d : Nat) (x1 : Int32) (x2 : Int32) (M : Mem) : X2 d m_Mo_lists 0 [.ref 197, .int x1, .int x2, uns, uns, uns] [] M = bI (c2 d m_Mo_noTray [.ref 197, .int x1] (wI M 197 0 (iI 0))) fun r2 M1 => if r2 = 0 then bI (c2 d m_Mo_isBlind [.long ((x2).toInt64)] M1) fun r4 M3 => if r4 = 0 then some (.int (iI (-3)), M3) else bI (c2 d m_Mo_standNow [.ref 197] M3) fun r6 M5 => X2 d m_Mo_lists 37 [.ref 197, .int x1, .int x2, .int r2, .int r6, .int (iI 0)] [] M5 else some (.int r2, M1) :=
  (sx_eq O2 d m_Mo_lists [37] 19 _ _ _ _).trans rfl
set_option maxRecDepth 100000 in
set_option maxHeartbeats 4000000 in
theorem e_Mo_lists_37 (d : Nat) (x1 : Int32) (x2 : Int32) (v3 : Value) (x4 : Int32) (x5 : Int32) (M : Mem) : X2 d m_Mo_lists 37 [.ref 197, .int x1, .int x2, v3, .int x4, .int x5] [] M = gb (inb x1 4) (if x5 < gI M 214 (ix x1) then bI (c2 d m_Mo_standThen [.ref 197, .int x4, .int x2] M) fun r2 M1 => gb (inb x1 4) (bL (c2 d m_Mo_cut [.long ((r2 / (iI 5)).toInt64), .int (gI M1 213 (ix x1))] M1) fun r4 M3 => gb (inb (((iI 40) * x1) + x5) 160) (X2 d m_Mo_lists 37 [.ref 197, .int x1, .int x2, v3, .int r2, .int (x5 + iI 1)] [] (wL M3 215 (ix (((iI 40) * x1) + x5)) r4))) else gb (inb x1 4) (some (.int (gI M 214 (ix x1)), M))) :=
  (sx_eq O2 d m_Mo_lists [37] 31 _ _ _ _).trans rfl
set_option maxRecDepth 100000 in
set_option maxHeartbeats 4000000 in
theorem e_Mo_image_0 (d : Nat) (x1 : Int32) (M : Mem) : X2 d m_Mo_image 0 [.ref 197, .int x1, uns] [] M = bI (c2 d m_Mo_within [.long ((x1).toInt64), .long (lI 0), .long (lI 1)] (wI M 197 0 (iI 0))) fun r2 M1 => if r2 = 0 then some (.int (iI (-2)), M1) else X2 d m_Mo_image 20 [.ref 197, .int x1, .int (iI 0)] [] M1 :=
  (sx_eq O2 d m_Mo_image [20] 12 _ _ _ _).trans rfl
set_option maxRecDepth 100000 in
set_option maxHeartbeats 4000000 in
theorem e_Mo_image_20 (d : Nat) (x1 : Int32) (x2 : Int32) (M : Mem) : X2 d m_Mo_image 20 [.ref 197, .int x1, .int x2] [] M = if x2 < iI 971 then gb (inb x2 2913) (gb (inb (((iI 971) * (x1 + (iI 1))) + x2) 2913) (X2 d m_Mo_image 20 [.ref 197, .int x1, .int (x2 + iI 1)] [] (wI M 198 (ix (((iI 971) * (x1 + (iI 1))) + x2)) (gI M 198 (ix x2))))) else gb (inb x1 2) (some (.int (iI 0), wI M 199 (ix x1) ((iI 1) &&& 1))) :=
  (sx_eq O2 d m_Mo_image [20] 20 _ _ _ _).trans rfl
set_option maxRecDepth 100000 in
set_option maxHeartbeats 4000000 in
theorem e_Mo_restore_0 (d : Nat) (x1 : Int32) (M : Mem) : X2 d m_Mo_restore 0 [.ref 197, .int x1, uns] [] M = bI (c2 d m_Mo_within [.long ((x1).toInt64), .long (lI 0), .long (lI 1)] (wI M 197 0 (iI 0))) fun r2 M1 => if r2 = 0 then some (.int (iI (-2)), M1) else gb (inb x1 2) (if gI M1 199 (ix x1) = 0 then some (.int (iI (-5)), M1) else X2 d m_Mo_restore 32 [.ref 197, .int x1, .int (iI 0)] [] M1) :=
  (sx_eq O2 d m_Mo_restore [32] 17 _ _ _ _).trans rfl
set_option maxRecDepth 100000 in
set_option maxHeartbeats 4000000 in
theorem e_Mo_restore_32 (d : Nat) (x1 : Int32) (x2 : Int32) (M : Mem) : X2 d m_Mo_restore 32 [.ref 197, .int x1, .int x2] [] M = if x2 < iI 971 then gb (inb (((iI 971) * (x1 + (iI 1))) + x2) 2913) (gb (inb x2 2913) (X2 d m_Mo_restore 32 [.ref 197, .int x1, .int (x2 + iI 1)] [] (wI M 198 (ix x2) (gI M 198 (ix (((iI 971) * (x1 + (iI 1))) + x2)))))) else some (.int (iI 0), wI M 198 29 (iI 0)) :=
  (sx_eq O2 d m_Mo_restore [32] 20 _ _ _ _).trans rfl
set_option maxRecDepth 100000 in
set_option maxHeartbeats 4000000 in
theorem e_Mo_count_0 (d : Nat) (x1 : Int32) (M : Mem) : X2 d m_Mo_count 0 [.ref 197, .int x1] [] M = if x1 = iI 0 then bI (c2 d m_Mo_roses [.ref 197] (wI M 197 0 (iI 0))) fun r2 M1 => some (.int r2, M1) else if x1 = iI 1 then some (.int (gI M 198 3), wI M 197 0 (iI 0)) else if x1 = iI 2 then some (.int (gI M 198 25), wI M 197 0 (iI 0)) else if x1 = iI 3 then bI (c2 d m_Mo_toldWho [.int (gI M 198 26)] (wI M 197 0 (iI 0))) fun r4 M3 => some (.int r4, M3) else if x1 = iI 4 then bI (c2 d m_Mo_bitsOf [.int (gI M 198 25)] (wI M 197 0 (iI 0))) fun r6 M5 => some (.int r6, M5) else if x1 = iI 5 then some (.int (gI M 198 4), wI M 197 0 (iI 0)) else if x1 = iI 6 then some (.int (gI M 198 27), wI M 197 0 (iI 0)) else if x1 = iI 7 then some (.int (gI M 198 28), wI M 197 0 (iI 0)) else if x1 = iI 8 then some (.int (gI M 198 29), wI M 197 0 (iI 0)) else if x1 = iI 9 then some (.int (gI M 197 5), wI M 197 0 (iI 0)) else if x1 = iI 10 then some (.int (gI M 198 0), wI M 197 0 (iI 0)) else some (.int (iI (-1)), wI M 197 0 (iI 0)) :=
  (sx_eq O2 d m_Mo_count [] 12 _ _ _ _).trans rfl
set_option maxRecDepth 100000 in
set_option maxHeartbeats 4000000 in
theorem e_Mo_plain_0 (d : Nat) (a0 : Nat) (M : Mem) : X2 d m_Mo_plain 0 [.ref a0, uns] [] M = X2 d m_Mo_plain 2 [.ref a0, .int (iI 0)] [] M :=
  (sx_eq O2 d m_Mo_plain [2] 3 _ _ _ _).trans rfl
set_option maxRecDepth 100000 in
set_option maxHeartbeats 4000000 in
theorem e_Mo_plain_2 (d : Nat) (a0 : Nat) (x1 : Int32) (M : Mem) : X2 d m_Mo_plain 2 [.ref a0, .int x1] [] M = if x1 < iI 971 then gb (at_ O2 M a0 40 x1) (X2 d m_Mo_plain 2 [.ref a0, .int (x1 + iI 1)] [] (wI M a0 (ix x1) (iI 0))) else gb (at_ O2 M a0 40 (iI 1)) (gb (at_ O2 (wI M a0 1 (iI 1)) a0 40 (iI 2)) (gb (at_ O2 (wI (wI M a0 1 (iI 1)) a0 2 (iI 1)) a0 40 (iI 5)) (gb (at_ O2 (wI (wI (wI M a0 1 (iI 1)) a0 2 (iI 1)) a0 5 (iI 5)) a0 40 (iI 26)) (some (.null, wI (wI (wI (wI M a0 1 (iI 1)) a0 2 (iI 1)) a0 5 (iI 5)) a0 26 (iI 4)))))) :=
  (sx_eq O2 d m_Mo_plain [2] 21 _ _ _ _).trans rfl
set_option maxRecDepth 100000 in
set_option maxHeartbeats 4000000 in
theorem e_Mo_within_0 (d : Nat) (x0 : Int64) (x2 : Int64) (x4 : Int64) (M : Mem) : X2 d m_Mo_within 0 [.long x0, mk2, .long x2, mk2, .long x4, mk2] [] M = if lg_cmp x0 x2 < 0 then some (.int (iI 0), M) else if 0 < lg_cmp x0 x4 then some (.int (iI 0), M) else some (.int (iI 1), M) :=
  (sx_eq O2 d m_Mo_within [] 12 _ _ _ _).trans rfl
set_option maxRecDepth 100000 in
set_option maxHeartbeats 4000000 in
theorem e_Mo_next_0 (d : Nat)  (M : Mem) : X2 d m_Mo_next 0 [.ref 197, uns] [] M = X2 d m_Mo_next 8 [.ref 197, uns] [] (wI M 197 6 (gI M 197 7)) :=
  (sx_eq O2 d m_Mo_next [8, 89, 146, 254] 5 _ _ _ _).trans rfl
set_option maxRecDepth 100000 in
set_option maxHeartbeats 4000000 in
theorem e_Mo_next_8 (d : Nat) (v1 : Value) (M : Mem) : X2 d m_Mo_next 8 [.ref 197, v1] [] M = bI (c2 d m_Mo_see [.ref 197, .int (gI M 197 6)] M) fun r2 M1 => if r2 = iI 10 then X2 d m_Mo_next 8 [.ref 197, v1] [] (wI M1 197 6 ((gI M1 197 6) + (iI 1))) else bI (c2 d m_Mo_see [.ref 197, .int (gI M1 197 6)] M1) fun r4 M3 => if r4 = iI 32 then X2 d m_Mo_next 8 [.ref 197, v1] [] (wI M3 197 6 ((gI M3 197 6) + (iI 1))) else if gI M3 197 6 < gI M3 197 8 then bI (c2 d m_Mo_see [.ref 197, .int (gI M3 197 6)] (wI M3 197 7 (gI M3 197 6))) fun r6 M5 => bI (c2 d m_Mo_isSmall [.int r6] M5) fun r8 M7 => if r8 = 0 then bI (c2 d m_Mo_see [.ref 197, .int (gI M7 197 6)] M7) fun r10 M9 => bI (c2 d m_Mo_isDigit [.int r10] M9) fun r12 M11 => if r12 = 0 then X2 d m_Mo_next 254 [.ref 197, .int (iI 0)] [] (wI (wI M11 197 7 ((gI M11 197 7) + (iI 1))) 197 9 (iI 25)) else X2 d m_Mo_next 146 [.ref 197, v1] [] (wI M11 197 10 (iI 0)) else X2 d m_Mo_next 89 [.ref 197, v1] [] M7 else some (.null, wI (wI M3 197 7 (gI M3 197 6)) 197 9 (iI 24)) :=
  (sx_eq O2 d m_Mo_next [8, 89, 146, 254] 45 _ _ _ _).trans rfl
set_option maxRecDepth 100000 in
set_option maxHeartbeats 4000000 in
theorem e_Mo_next_254 (d : Nat) (x1 : Int32) (M : Mem) : X2 d m_Mo_next 254 [.ref 197, .int x1] [] M = bI (c2 d m_Str_length [.ref 52] M) fun r2 M1 => if x1 < r2 then bI (c2 d m_Mo_see [.ref 197, .int (gI M1 197 6)] M1) fun r4 M3 => bI (c2 d m_Str_charAt [.ref 52, .int x1] M3) fun r6 M5 => if r4 = r6 then X2 d m_Mo_next 254 [.ref 197, .int (x1 + iI 1)] [] (wI M5 197 9 ((iI 30) + x1)) else X2 d m_Mo_next 254 [.ref 197, .int (x1 + iI 1)] [] M5 else some (.null, M1) :=
  (sx_eq O2 d m_Mo_next [8, 89, 146, 254] 20 _ _ _ _).trans rfl
set_option maxRecDepth 100000 in
set_option maxHeartbeats 4000000 in
theorem e_Mo_next_146 (d : Nat) (v1 : Value) (M : Mem) : X2 d m_Mo_next 146 [.ref 197, v1] [] M = bI (c2 d m_Mo_see [.ref 197, .int (gI M 197 7)] M) fun r2 M1 => bI (c2 d m_Mo_isDigit [.int r2] M1) fun r4 M3 => if r4 = 0 then if iI 3 < (gI M3 197 7) - (gI M3 197 6) then some (.null, wI M3 197 9 (iI 25)) else some (.null, wI M3 197 9 (iI 23)) else if (gI M3 197 7) - (gI M3 197 6) < iI 3 then bI (c2 d m_Mo_see [.ref 197, .int (gI M3 197 7)] M3) fun r6 M5 => X2 d m_Mo_next 146 [.ref 197, v1] [] (wI (wI M5 197 10 ((((iI 10) * (gI M3 197 10)) + r6) - (iI 48))) 197 7 ((gI M5 197 7) + (iI 1))) else X2 d m_Mo_next 146 [.ref 197, v1] [] (wI M3 197 7 ((gI M3 197 7) + (iI 1))) :=
  (sx_eq O2 d m_Mo_next [8, 89, 146, 254] 34 _ _ _ _).trans rfl
set_option maxRecDepth 100000 in
set_option maxHeartbeats 4000000 in
theorem e_Mo_next_89 (d : Nat) (v1 : Value) (M : Mem) : X2 d m_Mo_next 89 [.ref 197, v1] [] M = bI (c2 d m_Mo_see [.ref 197, .int (gI M 197 7)] M) fun r2 M1 => bI (c2 d m_Mo_isSmall [.int r2] M1) fun r4 M3 => if r4 = 0 then bI (c2 d m_Mo_keyAt [.ref 197] M3) fun r6 M5 => some (.null, wI M5 197 9 r6) else X2 d m_Mo_next 89 [.ref 197, v1] [] (wI M3 197 7 ((gI M3 197 7) + (iI 1))) :=
  (sx_eq O2 d m_Mo_next [8, 89, 146, 254] 14 _ _ _ _).trans rfl
set_option maxRecDepth 100000 in
set_option maxHeartbeats 4000000 in
theorem e_Mo_eats_0 (d : Nat) (x1 : Int32) (M : Mem) : X2 d m_Mo_eats 0 [.ref 197, .int x1] [] M = bI (c2 d m_Mo_is [.ref 197, .int x1] M) fun r2 M1 => if r2 = 0 then some (.int (iI 0), M1) else bV (c2 d m_Mo_next [.ref 197] M1) fun M3 => some (.int (iI 1), M3) :=
  (sx_eq O2 d m_Mo_eats [] 9 _ _ _ _).trans rfl
set_option maxRecDepth 100000 in
set_option maxHeartbeats 4000000 in
theorem e_Mo_fails_0 (d : Nat) (x1 : Int32) (M : Mem) : X2 d m_Mo_fails 0 [.ref 197, .int x1] [] M = if gI M 197 11 = 0 then if gI M 197 9 = iI 25 then some (.null, wI (wI M 197 11 (iI 1)) 197 12 (gI M 197 6)) else some (.null, wI (wI M 197 11 x1) 197 12 (gI M 197 6)) else some (.null, M) :=
  (sx_eq O2 d m_Mo_fails [] 17 _ _ _ _).trans rfl
set_option maxRecDepth 100000 in
set_option maxHeartbeats 4000000 in
theorem e_Mo_takes_0 (d : Nat) (x1 : Int32) (x2 : Int32) (M : Mem) : X2 d m_Mo_takes 0 [.ref 197, .int x1, .int x2, uns] [] M = bI (c2 d m_Mo_is [.ref 197, .int (iI 23)] M) fun r2 M1 => if r2 = 0 then bV (c2 d m_Mo_fails [.ref 197, .int (iI 2)] M1) fun M8 => if gI M8 197 11 = 0 then bV (c2 d m_Mo_next [.ref 197] M8) fun M9 => some (.int (gI M8 197 10), M9) else some (.int (gI M8 197 10), M8) else bI (c2 d m_Mo_within [.long ((gI M1 197 10).toInt64), .long ((x1).toInt64), .long ((x2).toInt64)] M1) fun r4 M3 => if r4 = 0 then bV (c2 d m_Mo_fails [.ref 197, .int (iI 3)] M3) fun M6 => if gI M6 197 11 = 0 then bV (c2 d m_Mo_next [.ref 197] M6) fun M7 => some (.int (gI M6 197 10), M7) else some (.int (gI M6 197 10), M6) else if gI M3 197 11 = 0 then bV (c2 d m_Mo_next [.ref 197] M3) fun M5 => some (.int (gI M3 197 10), M5) else some (.int (gI M3 197 10), M3) :=
  (sx_eq O2 d m_Mo_takes [] 27 _ _ _ _).trans rfl
set_option maxRecDepth 100000 in
set_option maxHeartbeats 4000000 in
theorem e_Mo_ends_0 (d : Nat)  (M : Mem) : X2 d m_Mo_ends 0 [.ref 197] [] M = bI (c2 d m_Mo_eats [.ref 197, .int (iI 30)] M) fun r2 M1 => if r2 = 0 then bV (c2 d m_Mo_fails [.ref 197, .int (iI 2)] M1) fun M3 => some (.null, wI M3 201 0 ((gI M3 201 0) + (iI 1))) else some (.null, wI M1 201 0 ((gI M1 201 0) + (iI 1))) :=
  (sx_eq O2 d m_Mo_ends [] 17 _ _ _ _).trans rfl
set_option maxRecDepth 100000 in
set_option maxHeartbeats 4000000 in
theorem e_Mo_readLine_0 (d : Nat)  (M : Mem) : X2 d m_Mo_readLine 0 [.ref 197] [] M = if gI M 197 11 = 0 then bI (c2 d m_Mo_is [.ref 197, .int (iI 1)] M) fun r2 M1 => if r2 = 0 then bI (c2 d m_Mo_is [.ref 197, .int (iI 2)] M1) fun r4 M3 => if r4 = 0 then bI (c2 d m_Mo_eats [.ref 197, .int (iI 4)] M3) fun r6 M5 => if r6 = 0 then bI (c2 d m_Mo_eats [.ref 197, .int (iI 5)] M5) fun r8 M7 => if r8 = 0 then bI (c2 d m_Mo_is [.ref 197, .int (iI 6)] M7) fun r10 M9 => if r10 = 0 then bI (c2 d m_Mo_eats [.ref 197, .int (iI 7)] M9) fun r12 M11 => if r12 = 0 then bI (c2 d m_Mo_eats [.ref 197, .int (iI 8)] M11) fun r14 M13 => if r14 = 0 then bI (c2 d m_Mo_is [.ref 197, .int (iI 9)] M13) fun r16 M15 => if r16 = 0 then bI (c2 d m_Mo_is [.ref 197, .int (iI 10)] M15) fun r19 M18 => if r19 = 0 then bV (c2 d m_Mo_fails [.ref 197, .int (iI 2)] M18) fun M20 => some (.null, M20) else bV (c2 d m_Mo_readLaw [.ref 197, .int ((gI M18 197 9) - (iI 9))] M18) fun M21 => some (.null, M21) else bV (c2 d m_Mo_readLaw [.ref 197, .int ((gI M15 197 9) - (iI 9))] M15) fun M17 => some (.null, M17) else bI (c2 d m_Mo_takes [.ref 197, .int (iI 0), .int (iI 9)] M13) fun r23 M22 => some (.null, wI M22 201 27 r23) else bI (c2 d m_Mo_takes [.ref 197, .int (iI 0), .int (iI 10)] M11) fun r25 M24 => some (.null, wI M24 201 5 r25) else bV (c2 d m_Mo_readFace [.ref 197] M9) fun M26 => some (.null, M26) else bI (c2 d m_Mo_readRose [.ref 197] M7) fun r28 M27 => some (.null, wI M27 201 25 ((gI M7 201 25) ||| r28)) else bI (c2 d m_Mo_takes [.ref 197, .int (iI 0), .int ((gI M5 201 3) - (iI 1))] M5) fun r30 M29 => some (.null, wI M29 201 26 r30) else bV (c2 d m_Mo_readTenant [.ref 197] M3) fun M31 => some (.null, M31) else bV (c2 d m_Mo_readRow [.ref 197] M1) fun M32 => some (.null, M32) else some (.null, M) :=
  (sx_eq O2 d m_Mo_readLine [] 48 _ _ _ _).trans rfl
set_option maxRecDepth 100000 in
set_option maxHeartbeats 4000000 in
theorem e_Mo_isRose_0 (d : Nat) (x1 : Int64) (M : Mem) : X2 d m_Mo_isRose 0 [.ref 197, .long x1, mk2] [] M = bI (c2 d m_Mo_roses [.ref 197] M) fun r2 M1 => bI (c2 d m_Mo_within [.long x1, .long (lI 0), .long ((r2 - (iI 1)).toInt64)] M1) fun r4 M3 => gb (decide (r4 &&& 1 = r4)) (some (.int r4, M3)) :=
  (sx_eq O2 d m_Mo_isRose [] 10 _ _ _ _).trans rfl
set_option maxRecDepth 100000 in
set_option maxHeartbeats 4000000 in
theorem e_Mo_nearOf_0 (d : Nat) (x1 : Int32) (x2 : Int32) (M : Mem) : X2 d m_Mo_nearOf 0 [.ref 197, .int x1, .int x2, uns, uns, uns, uns] [] M = X2 d m_Mo_nearOf 5 [.ref 197, .int x1, .int x2, .int (iI 0), .int (iI 0), uns, uns] [] M :=
  (sx_eq O2 d m_Mo_nearOf [5] 5 _ _ _ _).trans rfl
set_option maxRecDepth 100000 in
set_option maxHeartbeats 4000000 in
theorem e_Mo_nearOf_5 (d : Nat) (x1 : Int32) (x2 : Int32) (x3 : Int32) (x4 : Int32) (v5 : Value) (v6 : Value) (M : Mem) : X2 d m_Mo_nearOf 5 [.ref 197, .int x1, .int x2, .int x3, .int x4, v5, v6] [] M = bI (c2 d m_Mo_roses [.ref 197] M) fun r2 M1 => if x4 < r2 then gb (!(decide (gI M1 198 2 = 0))) (gb (!(decide (gI M1 198 2 = 0))) (gb (!(decide (gI M1 198 2 = 0))) (gb (!(decide (gI M1 198 2 = 0))) (if x4 = x1 then X2 d m_Mo_nearOf 5 [.ref 197, .int x1, .int x2, .int (x3 + (iI 0)), .int (x4 + iI 1), .int ((x4 / (gI M1 198 2)) - (x1 / (gI M1 198 2))), .int ((irm x4 (gI M1 198 2)) - (irm x1 (gI M1 198 2)))] [] M1 else bI (c2 d m_Mo_isIn [.long ((x2).toInt64), .int x4] M1) fun r4 M3 => if r4 = 0 then X2 d m_Mo_nearOf 5 [.ref 197, .int x1, .int x2, .int (x3 + (iI 0)), .int (x4 + iI 1), .int ((x4 / (gI M1 198 2)) - (x1 / (gI M1 198 2))), .int ((irm x4 (gI M1 198 2)) - (irm x1 (gI M1 198 2)))] [] M3 else bI (c2 d m_Mo_within [.long (((x4 / (gI M1 198 2)) - (x1 / (gI M1 198 2))).toInt64), .long (lI (-1)), .long (lI 1)] M3) fun r6 M5 => if r6 = 0 then X2 d m_Mo_nearOf 5 [.ref 197, .int x1, .int x2, .int (x3 + (iI 0)), .int (x4 + iI 1), .int ((x4 / (gI M1 198 2)) - (x1 / (gI M1 198 2))), .int ((irm x4 (gI M1 198 2)) - (irm x1 (gI M1 198 2)))] [] M5 else bI (c2 d m_Mo_within [.long (((irm x4 (gI M1 198 2)) - (irm x1 (gI M1 198 2))).toInt64), .long (lI (-1)), .long (lI 1)] M5) fun r8 M7 => if r8 = 0 then X2 d m_Mo_nearOf 5 [.ref 197, .int x1, .int x2, .int (x3 + (iI 0)), .int (x4 + iI 1), .int ((x4 / (gI M1 198 2)) - (x1 / (gI M1 198 2))), .int ((irm x4 (gI M1 198 2)) - (irm x1 (gI M1 198 2)))] [] M7 else X2 d m_Mo_nearOf 5 [.ref 197, .int x1, .int x2, .int (x3 + (iI 1)), .int (x4 + iI 1), .int ((x4 / (gI M1 198 2)) - (x1 / (gI M1 198 2))), .int ((irm x4 (gI M1 198 2)) - (irm x1 (gI M1 198 2)))] [] M7)))) else some (.int x3, M1) :=
  (sx_eq O2 d m_Mo_nearOf [5] 60 _ _ _ _).trans rfl
set_option maxRecDepth 100000 in
set_option maxHeartbeats 4000000 in
theorem e_Mo_turnsThen_0 (d : Nat) (x1 : Int32) (x2 : Int32) (x3 : Int32) (x4 : Int32) (M : Mem) : X2 d m_Mo_turnsThen 0 [.ref 197, .int x1, .int x2, .int x3, .int x4, uns] [] M = bI (c2 d m_Mo_nearOf [.ref 197, .int x1, .int x2] M) fun r2 M1 => if gI M1 198 6 = 0 then bI (c2 d m_Mo_within [.long ((r2).toInt64), .long (lI 1), .long (lI 3)] M1) fun r4 M3 => gb (decide (r4 &&& 1 = r4)) (some (.int r4, M3)) else if x3 = iI 4 then X2 d m_Mo_turnsThen 53 [.ref 197, .int x1, .int x2, .int x3, .int x4, .int r2] [.int (iI 9), .int (iI 1), .ref 203] (wI M1 203 0 x4) else X2 d m_Mo_turnsThen 53 [.ref 197, .int x1, .int x2, .int x3, .int x4, .int r2] [.int x3, .int (iI 1), .ref 203] (wI M1 203 0 x4) :=
  (sx_eq O2 d m_Mo_turnsThen [53] 24 _ _ _ _).trans rfl
set_option maxRecDepth 100000 in
set_option maxHeartbeats 4000000 in
theorem e_Mo_turnsThen_53 (d : Nat) (x1 : Int32) (x2 : Int32) (v3 : Value) (v4 : Value) (x5 : Int32) (y0 : Int32) (y1 : Int32) (M : Mem) : X2 d m_Mo_turnsThen 53 [.ref 197, .int x1, .int x2, v3, v4, .int x5] [.int y0, .int y1, .ref 203] M = gb (inb y1 10) (gb (inb ((iI 12) + x1) 2913) (bI (c2 d m_Mo_reckons [.ref 197, .int (iI 0)] (wI (wI (wI (wI (wI (wI M 203 (ix y1) y0) 203 2 x1) 203 3 (gI M 198 (ix ((iI 12) + x1)))) 203 4 x5) 203 5 ((x2 >>> (x1 &&& 31)) &&& (iI 1))) 203 6 (gI M 198 27))) fun r2 M1 => gb (decide (r2 &&& 1 = r2)) (some (.int r2, M1)))) :=
  (sx_eq O2 d m_Mo_turnsThen [53] 43 _ _ _ _).trans rfl
set_option maxRecDepth 100000 in
set_option maxHeartbeats 4000000 in
theorem e_Mo_isTenant_0 (d : Nat) (x1 : Int64) (M : Mem) : X2 d m_Mo_isTenant 0 [.ref 197, .long x1, mk2] [] M = bI (c2 d m_Mo_within [.long x1, .long (lI 0), .long (((gI M 198 3) - (iI 1)).toInt64)] M) fun r2 M1 => gb (decide (r2 &&& 1 = r2)) (some (.int r2, M1)) :=
  (sx_eq O2 d m_Mo_isTenant [] 12 _ _ _ _).trans rfl
set_option maxRecDepth 100000 in
set_option maxHeartbeats 4000000 in
theorem e_Mo_goesBy_0 (d : Nat) (x1 : Int32) (x2 : Int32) (x3 : Int32) (M : Mem) : X2 d m_Mo_goesBy 0 [.ref 197, .int x1, .int x2, .int x3] [] M = if gI M 198 7 = 0 then bI (c2 d m_Mo_bitsOf [.int x2] M) fun r10 M9 => gb (inb ((iI 21) + x1) 2913) (if gI M9 198 (ix ((iI 21) + x1)) < r10 then some (.int (iI 1), M9) else some (.int (iI 0), M9)) else bI (c2 d m_Mo_bitsOf [.int x2] (wI (wI M 203 0 x3) 203 1 x1)) fun r2 M1 => if x2 = 0 then gb (inb ((iI 21) + x1) 2913) (bI (c2 d m_Mo_reckons [.ref 197, .int (iI 1)] (wI (wI (wI M1 203 7 r2) 203 8 (iI 0)) 203 9 (gI M1 198 (ix ((iI 21) + x1))))) fun r4 M3 => gb (decide (r4 &&& 1 = r4)) (some (.int r4, M3))) else if x2 = gI M1 198 4 then gb (inb ((iI 21) + x1) 2913) (bI (c2 d m_Mo_reckons [.ref 197, .int (iI 1)] (wI (wI (wI M1 203 7 r2) 203 8 (iI 1)) 203 9 (gI M1 198 (ix ((iI 21) + x1))))) fun r8 M7 => gb (decide (r8 &&& 1 = r8)) (some (.int r8, M7))) else gb (inb ((iI 21) + x1) 2913) (bI (c2 d m_Mo_reckons [.ref 197, .int (iI 1)] (wI (wI (wI M1 203 7 r2) 203 8 (iI 0)) 203 9 (gI M1 198 (ix ((iI 21) + x1))))) fun r6 M5 => gb (decide (r6 &&& 1 = r6)) (some (.int r6, M5))) :=
  (sx_eq O2 d m_Mo_goesBy [] 50 _ _ _ _).trans rfl
set_option maxRecDepth 100000 in
set_option maxHeartbeats 4000000 in
theorem e_Mo_isBlind_0 (d : Nat) (x0 : Int64) (M : Mem) : X2 d m_Mo_isBlind 0 [.long x0, mk2] [] M = bI (c2 d m_Mo_within [.long x0, .long (lI 0), .long (lI 1)] M) fun r2 M1 => gb (decide (r2 &&& 1 = r2)) (some (.int r2, M1)) :=
  (sx_eq O2 d m_Mo_isBlind [] 6 _ _ _ _).trans rfl
set_option maxRecDepth 100000 in
set_option maxHeartbeats 4000000 in
theorem e_Mo_keeps_0 (d : Nat)  (M : Mem) : X2 d m_Mo_keeps 0 [.ref 197, uns] [] M = X2 d m_Mo_keeps 2 [.ref 197, .int (iI 0)] [] M :=
  (sx_eq O2 d m_Mo_keeps [2] 3 _ _ _ _).trans rfl
set_option maxRecDepth 100000 in
set_option maxHeartbeats 4000000 in
theorem e_Mo_keeps_2 (d : Nat) (x1 : Int32) (M : Mem) : X2 d m_Mo_keeps 2 [.ref 197, .int x1] [] M = if x1 < iI 4 then gb (inb ((iI 25) + x1) 2913) (gb (inb x1 4) (X2 d m_Mo_keeps 2 [.ref 197, .int (x1 + iI 1)] [] (wI M 204 (ix x1) (gI M 198 (ix ((iI 25) + x1)))))) else some (.null, M) :=
  (sx_eq O2 d m_Mo_keeps [2] 16 _ _ _ _).trans rfl
set_option maxRecDepth 100000 in
set_option maxHeartbeats 4000000 in
theorem e_Mo_goesNight_0 (d : Nat) (x1 : Int32) (M : Mem) : X2 d m_Mo_goesNight 0 [.ref 197, .int x1, uns] [] M = bI (c2 d m_Mo_standNow [.ref 197] M) fun r2 M1 => bI (c2 d m_Mo_standThen [.ref 197, .int r2, .int x1] M1) fun r4 M3 => some (.null, wI (wI (wI M3 198 25 (r4 / (iI 5))) 198 26 (irm r4 (iI 5))) 198 28 ((gI M3 198 28) + (iI 1))) :=
  (sx_eq O2 d m_Mo_goesNight [] 30 _ _ _ _).trans rfl
set_option maxRecDepth 100000 in
set_option maxHeartbeats 4000000 in
theorem e_Mo_notes_0 (d : Nat)  (M : Mem) : X2 d m_Mo_notes 0 [.ref 197, uns] [] M = if gI M 198 29 = iI 10 then X2 d m_Mo_notes 14 [.ref 197, .int (iI 0)] [] M else X2 d m_Mo_notes 57 [.ref 197, .int (iI 0)] [] M :=
  (sx_eq O2 d m_Mo_notes [14, 57] 9 _ _ _ _).trans rfl
set_option maxRecDepth 100000 in
set_option maxHeartbeats 4000000 in
theorem e_Mo_notes_57 (d : Nat) (x1 : Int32) (M : Mem) : X2 d m_Mo_notes 57 [.ref 197, .int x1] [] M = if x1 < iI 4 then gb (inb x1 4) (gb (inb (((iI 30) + ((iI 4) * (gI M 198 29))) + x1) 2913) (X2 d m_Mo_notes 57 [.ref 197, .int (x1 + iI 1)] [] (wI M 198 (ix (((iI 30) + ((iI 4) * (gI M 198 29))) + x1)) (gI M 204 (ix x1))))) else some (.null, wI M 198 29 ((gI M 198 29) + (iI 1))) :=
  (sx_eq O2 d m_Mo_notes [14, 57] 23 _ _ _ _).trans rfl
set_option maxRecDepth 100000 in
set_option maxHeartbeats 4000000 in
theorem e_Mo_notes_14 (d : Nat) (x1 : Int32) (M : Mem) : X2 d m_Mo_notes 14 [.ref 197, .int x1] [] M = if x1 < iI 36 then gb (inb ((iI 34) + x1) 2913) (gb (inb ((iI 30) + x1) 2913) (X2 d m_Mo_notes 14 [.ref 197, .int (x1 + iI 1)] [] (wI M 198 (ix ((iI 30) + x1)) (gI M 198 (ix ((iI 34) + x1)))))) else X2 d m_Mo_notes 57 [.ref 197, .int (iI 0)] [] (wI M 198 29 ((gI M 198 29) - (iI 1))) :=
  (sx_eq O2 d m_Mo_notes [14, 57] 18 _ _ _ _).trans rfl
set_option maxRecDepth 100000 in
set_option maxHeartbeats 4000000 in
theorem e_Mo_whyLet_0 (d : Nat) (x1 : Int64) (M : Mem) : X2 d m_Mo_whyLet 0 [.ref 197, .long x1, mk2] [] M = bI (c2 d m_Mo_isTenant [.ref 197, .long x1] M) fun r2 M1 => if r2 = 0 then some (.int (iI 1), M1) else if gI M1 198 26 = iI 4 then some (.int (iI 0), M1) else some (.int (iI 2), M1) :=
  (sx_eq O2 d m_Mo_whyLet [] 14 _ _ _ _).trans rfl
set_option maxRecDepth 100000 in
set_option maxHeartbeats 4000000 in
theorem e_Mo_bitsOf_0 (d : Nat) (x0 : Int32) (M : Mem) : X2 d m_Mo_bitsOf 0 [.int x0, uns, uns] [] M = X2 d m_Mo_bitsOf 4 [.int x0, .int (iI 0), .int (iI 0)] [] M :=
  (sx_eq O2 d m_Mo_bitsOf [4] 5 _ _ _ _).trans rfl
set_option maxRecDepth 100000 in
set_option maxHeartbeats 4000000 in
theorem e_Mo_bitsOf_4 (d : Nat) (x0 : Int32) (x1 : Int32) (x2 : Int32) (M : Mem) : X2 d m_Mo_bitsOf 4 [.int x0, .int x1, .int x2] [] M = if x2 < iI 10 then X2 d m_Mo_bitsOf 4 [.int x0, .int (x1 + ((x0 >>> (x2 &&& 31)) &&& (iI 1))), .int (x2 + iI 1)] [] M else some (.int x1, M) :=
  (sx_eq O2 d m_Mo_bitsOf [4] 14 _ _ _ _).trans rfl
set_option maxRecDepth 100000 in
set_option maxHeartbeats 4000000 in
theorem e_Mo_noTray_0 (d : Nat) (x1 : Int32) (M : Mem) : X2 d m_Mo_noTray 0 [.ref 197, .int x1] [] M = bI (c2 d m_Mo_within [.long ((x1).toInt64), .long (lI 0), .long (lI 3)] M) fun r2 M1 => if r2 = 0 then some (.int (iI (-2)), M1) else gb (inb x1 4) (if gI M1 213 (ix x1) = iI (-1) then some (.int (iI (-6)), M1) else some (.int (iI 0), M1)) :=
  (sx_eq O2 d m_Mo_noTray [] 16 _ _ _ _).trans rfl
set_option maxRecDepth 100000 in
set_option maxHeartbeats 4000000 in
theorem e_Mo_tells_0 (d : Nat) (x1 : Int32) (M : Mem) : X2 d m_Mo_tells 0 [.ref 197, .int x1, uns] [] M = X2 d m_Mo_tells 7 [.ref 197, .int x1, .int (iI 0)] [] (wI M 197 19 (iI 0)) :=
  (sx_eq O2 d m_Mo_tells [7] 6 _ _ _ _).trans rfl
set_option maxRecDepth 100000 in
set_option maxHeartbeats 4000000 in
theorem e_Mo_tells_7 (d : Nat) (x1 : Int32) (x2 : Int32) (M : Mem) : X2 d m_Mo_tells 7 [.ref 197, .int x1, .int x2] [] M = gb (inb x1 4) (if x2 < gI M 214 (ix x1) then gb (inb (((iI 40) * x1) + x2) 160) (bI (c2 d m_Mo_whyNot [.ref 197, .long (gL M 215 (ix (((iI 40) * x1) + x2)))] M) fun r2 M1 => if r2 = 0 then gb (inb (((iI 40) * x1) + x2) 160) (bV (c2 d m_Mo_does [.ref 197, .int ((gL M1 215 (ix (((iI 40) * x1) + x2))).toInt32)] (wI M1 197 19 r2)) fun M3 => X2 d m_Mo_tells 7 [.ref 197, .int x1, .int (x2 + iI 1)] [] M3) else some (.int x2, wI M1 197 19 r2)) else gb (inb x1 4) (some (.int (gI M 214 (ix x1)), M))) :=
  (sx_eq O2 d m_Mo_tells [7] 35 _ _ _ _).trans rfl
set_option maxRecDepth 100000 in
set_option maxHeartbeats 4000000 in
theorem e_Mo_isAgain_0 (d : Nat)  (M : Mem) : X2 d m_Mo_isAgain 0 [.ref 197, uns] [] M = X2 d m_Mo_isAgain 2 [.ref 197, .int (iI 0)] [] M :=
  (sx_eq O2 d m_Mo_isAgain [2] 3 _ _ _ _).trans rfl
set_option maxRecDepth 100000 in
set_option maxHeartbeats 4000000 in
theorem e_Mo_isAgain_2 (d : Nat) (x1 : Int32) (M : Mem) : X2 d m_Mo_isAgain 2 [.ref 197, .int x1] [] M = if x1 < iI 4 then gb (inb x1 4) (gb (inb ((iI 25) + x1) 2913) (X2 d m_Mo_isAgain 2 [.ref 197, .int (x1 + iI 1)] [] (wI M 198 (ix ((iI 25) + x1)) (gI M 204 (ix x1))))) else some (.null, M) :=
  (sx_eq O2 d m_Mo_isAgain [2] 16 _ _ _ _).trans rfl
set_option maxRecDepth 100000 in
set_option maxHeartbeats 4000000 in
theorem e_Mo_toldWho_0 (d : Nat) (x0 : Int32) (M : Mem) : X2 d m_Mo_toldWho 0 [.int x0] [] M = if x0 = iI 4 then some (.int (iI (-1)), M) else some (.int x0, M) :=
  (sx_eq O2 d m_Mo_toldWho [] 7 _ _ _ _).trans rfl
set_option maxRecDepth 100000 in
set_option maxHeartbeats 4000000 in
theorem e_Mo_drawn_0 (d : Nat)  (M : Mem) : X2 d m_Mo_drawn 0 [.ref 197, uns] [] M = bI (c2 d m_Mo_draw [.ref 197, .int (iI 6)] M) fun r2 M1 => if r2 < iI 3 then bI (c2 d m_Mo_draw [.ref 197, .int (iI 2)] M1) fun r10 M9 => some (.int r10, M9) else if r2 = iI 3 then bI (c2 d m_Mo_draw [.ref 197, .int (iI 4)] M1) fun r8 M7 => some (.int ((iI 10) + r8), M7) else if r2 = iI 4 then bI (c2 d m_Mo_draw [.ref 197, .int (iI 9)] M1) fun r6 M5 => some (.int ((iI 20) + r6), M5) else bI (c2 d m_Mo_draw [.ref 197, .int (iI 10)] M1) fun r4 M3 => some (.int ((iI 30) + r4), M3) :=
  (sx_eq O2 d m_Mo_drawn [] 21 _ _ _ _).trans rfl
set_option maxRecDepth 100000 in
set_option maxHeartbeats 4000000 in
theorem e_Mo_whyNot_0 (d : Nat) (x1 : Int64) (M : Mem) : X2 d m_Mo_whyNot 0 [.ref 197, .long x1, mk2] [] M = bI (c2 d m_Mo_isBlind [.long x1] M) fun r2 M1 => if r2 = 0 then bI (c2 d m_Mo_within [.long x1, .long (lI 30), .long (lI 39)] M1) fun r4 M3 => if r4 = 0 then bI (c2 d m_Mo_within [.long x1, .long (lI 10), .long (lI 19)] M3) fun r6 M5 => if r6 = 0 then bI (c2 d m_Mo_within [.long x1, .long (lI 20), .long (lI 29)] M5) fun r8 M7 => if r8 = 0 then some (.int (iI 1), M7) else bI (c2 d m_Mo_isRose [.ref 197, .long (x1 - (lI 20))] M7) fun r10 M9 => if r10 = 0 then some (.int (iI 1), M9) else some (.int (iI 0), M9) else bI (c2 d m_Mo_whyLet [.ref 197, .long (x1 - (lI 10))] M5) fun r12 M11 => some (.int r12, M11) else some (.int (iI 0), M3) else some (.int (iI 0), M1) :=
  (sx_eq O2 d m_Mo_whyNot [] 28 _ _ _ _).trans rfl
set_option maxRecDepth 100000 in
set_option maxHeartbeats 4000000 in
theorem e_Mo_does_0 (d : Nat) (x1 : Int32) (M : Mem) : X2 d m_Mo_does 0 [.ref 197, .int x1] [] M = if x1 < iI 2 then bV (c2 d m_Mo_goesNight [.ref 197, .int x1] M) fun M1 => some (.null, M1) else if x1 < iI 20 then some (.null, wI M 198 26 (x1 - (iI 10))) else if x1 < iI 30 then some (.null, wI M 198 25 ((gI M 198 25) ^^^ ((iI 1) <<< ((x1 - (iI 20)) &&& 31)))) else some (.null, wI M 198 27 (x1 - (iI 30))) :=
  (sx_eq O2 d m_Mo_does [] 24 _ _ _ _).trans rfl
set_option maxRecDepth 100000 in
set_option maxHeartbeats 4000000 in
theorem e_Mo_laysRound_0 (d : Nat) (x1 : Int32) (M : Mem) : X2 d m_Mo_laysRound 0 [.ref 197, .int x1, uns, uns] [] M = X2 d m_Mo_laysRound 2 [.ref 197, .int x1, .int (iI 0), uns] [] M :=
  (sx_eq O2 d m_Mo_laysRound [2, 29] 3 _ _ _ _).trans rfl
set_option maxRecDepth 100000 in
set_option maxHeartbeats 4000000 in
theorem e_Mo_laysRound_2 (d : Nat) (x1 : Int32) (x2 : Int32) (v3 : Value) (M : Mem) : X2 d m_Mo_laysRound 2 [.ref 197, .int x1, .int x2, v3] [] M = if x2 < iI 2560 then gb (inb x2 2560) (X2 d m_Mo_laysRound 2 [.ref 197, .int x1, .int (x2 + iI 1), v3] [] (wI M 206 (ix x2) (iI (-1)))) else bI (c2 d m_Mo_standNow [.ref 197] M) fun r2 M1 => X2 d m_Mo_laysRound 29 [.ref 197, .int x1, .int r2, .int (iI 0)] [] M1 :=
  (sx_eq O2 d m_Mo_laysRound [2, 29] 11 _ _ _ _).trans rfl
set_option maxRecDepth 100000 in
set_option maxHeartbeats 4000000 in
theorem e_Mo_laysRound_29 (d : Nat) (x1 : Int32) (x2 : Int32) (x3 : Int32) (M : Mem) : X2 d m_Mo_laysRound 29 [.ref 197, .int x1, .int x2, .int x3] [] M = gb (inb x2 2560) (if gI M 206 (ix x2) = iI (-1) then gb (inb x2 2560) (gb (inb x3 2561) (bI (c2 d m_Mo_standThen [.ref 197, .int x2, .int x1] (wI (wI M 206 (ix x2) x3) 205 (ix x3) x2)) fun r2 M1 => X2 d m_Mo_laysRound 29 [.ref 197, .int x1, .int r2, .int (x3 + iI 1)] [] M1)) else gb (inb x2 2560) (some (.null, wI (wI M 197 23 (gI M 206 (ix x2))) 197 24 (x3 - (gI M 206 (ix x2)))))) :=
  (sx_eq O2 d m_Mo_laysRound [2, 29] 24 _ _ _ _).trans rfl
set_option maxRecDepth 100000 in
set_option maxHeartbeats 4000000 in
theorem e_Mo_laysStays_0 (d : Nat)  (M : Mem) : X2 d m_Mo_laysStays 0 [.ref 197, uns, uns, uns, uns] [] M = bV (c2 d m_Mo_laysThen [.ref 197] M) fun M1 => X2 d m_Mo_laysStays 6 [.ref 197, .int (iI 0), uns, uns, uns] [] M1 :=
  (sx_eq O2 d m_Mo_laysStays [6, 41, 49] 5 _ _ _ _).trans rfl
set_option maxRecDepth 100000 in
set_option maxHeartbeats 4000000 in
theorem e_Mo_laysStays_6 (d : Nat) (x1 : Int32) (v2 : Value) (v3 : Value) (v4 : Value) (M : Mem) : X2 d m_Mo_laysStays 6 [.ref 197, .int x1, v2, v3, v4] [] M = if x1 < iI 2560 then bI (c2 d m_Mo_isGone [.int x1] M) fun r2 M1 => if r2 = 0 then gb (inb x1 2560) (X2 d m_Mo_laysStays 6 [.ref 197, .int (x1 + iI 1), v2, v3, v4] [] (wI M1 208 (ix x1) (iI 268435456))) else gb (inb x1 2560) (X2 d m_Mo_laysStays 6 [.ref 197, .int (x1 + iI 1), v2, v3, v4] [] (wI M1 208 (ix x1) (iI (-1)))) else X2 d m_Mo_laysStays 41 [.ref 197, .int (iI 1), v2, v3, v4] [] M :=
  (sx_eq O2 d m_Mo_laysStays [6, 41, 49] 15 _ _ _ _).trans rfl
set_option maxRecDepth 100000 in
set_option maxHeartbeats 4000000 in
theorem e_Mo_laysStays_41 (d : Nat) (x1 : Int32) (v2 : Value) (v3 : Value) (v4 : Value) (M : Mem) : X2 d m_Mo_laysStays 41 [.ref 197, .int x1, v2, v3, v4] [] M = if x1 = 0 then bI (c2 d m_Mo_standNow [.ref 197] M) fun r2 M1 => gb (inb r2 2560) (some (.int (gI M1 208 (ix r2)), M1)) else X2 d m_Mo_laysStays 49 [.ref 197, .int (iI 0), .int (iI 0), v3, v4] [] M :=
  (sx_eq O2 d m_Mo_laysStays [6, 41, 49] 9 _ _ _ _).trans rfl
set_option maxRecDepth 100000 in
set_option maxHeartbeats 4000000 in
theorem e_Mo_laysStays_49 (d : Nat) (x1 : Int32) (x2 : Int32) (v3 : Value) (v4 : Value) (M : Mem) : X2 d m_Mo_laysStays 49 [.ref 197, .int x1, .int x2, v3, v4] [] M = bI (c2 d m_Mo_roses [.ref 197] M) fun r2 M1 => if x2 < (iI 5) <<< (r2 &&& 31) then bI (c2 d m_Mo_isGone [.int x2] M1) fun r4 M3 => if r4 = 0 then gb (inb x2 2560) (if gI M3 208 (ix x2) < iI 268435456 then X2 d m_Mo_laysStays 49 [.ref 197, .int x1, .int (x2 + iI 1), v3, v4] [] M3 else gb (inb ((iI 2) * x2) 5120) (gb (inb (gI M3 207 (ix ((iI 2) * x2))) 2560) (gb (inb (((iI 2) * x2) + (iI 1)) 5120) (gb (inb (gI M3 207 (ix (((iI 2) * x2) + (iI 1)))) 2560) (if gI M3 208 (ix (gI M3 207 (ix ((iI 2) * x2)))) = iI 268435456 then X2 d m_Mo_laysStays 49 [.ref 197, .int x1, .int (x2 + iI 1), .int (gI M3 208 (ix (gI M3 207 (ix ((iI 2) * x2))))), .int (gI M3 208 (ix (gI M3 207 (ix (((iI 2) * x2) + (iI 1))))))] [] M3 else if gI M3 208 (ix (gI M3 207 (ix (((iI 2) * x2) + (iI 1))))) = iI 268435456 then X2 d m_Mo_laysStays 49 [.ref 197, .int x1, .int (x2 + iI 1), .int (gI M3 208 (ix (gI M3 207 (ix ((iI 2) * x2))))), .int (gI M3 208 (ix (gI M3 207 (ix (((iI 2) * x2) + (iI 1))))))] [] M3 else if gI M3 208 (ix (gI M3 207 (ix (((iI 2) * x2) + (iI 1))))) < gI M3 208 (ix (gI M3 207 (ix ((iI 2) * x2)))) then gb (inb x2 2560) (X2 d m_Mo_laysStays 49 [.ref 197, .int (iI 1), .int (x2 + iI 1), .int (gI M3 208 (ix (gI M3 207 (ix ((iI 2) * x2))))), .int (gI M3 208 (ix (gI M3 207 (ix (((iI 2) * x2) + (iI 1))))))] [] (wI M3 208 (ix x2) ((iI 1) + (gI M3 208 (ix (gI M3 207 (ix ((iI 2) * x2)))))))) else gb (inb x2 2560) (X2 d m_Mo_laysStays 49 [.ref 197, .int (iI 1), .int (x2 + iI 1), .int (gI M3 208 (ix (gI M3 207 (ix ((iI 2) * x2))))), .int (gI M3 208 (ix (gI M3 207 (ix (((iI 2) * x2) + (iI 1))))))] [] (wI M3 208 (ix x2) ((iI 1) + (gI M3 208 (ix (gI M3 207 (ix (((iI 2) * x2) + (iI 1)))))))))))))) else X2 d m_Mo_laysStays 49 [.ref 197, .int x1, .int (x2 + iI 1), v3, v4] [] M3 else X2 d m_Mo_laysStays 41 [.ref 197, .int x1, .int x2, v3, v4] [] M1 :=
  (sx_eq O2 d m_Mo_laysStays [6, 41, 49] 59 _ _ _ _).trans rfl
set_option maxRecDepth 100000 in
set_option maxHeartbeats 4000000 in
theorem e_Mo_standNow_0 (d : Nat)  (M : Mem) : X2 d m_Mo_standNow 0 [.ref 197] [] M = bI (c2 d m_Mo_standOf [.int (gI M 198 25), .int (gI M 198 26)] M) fun r2 M1 => some (.int r2, M1) :=
  (sx_eq O2 d m_Mo_standNow [] 11 _ _ _ _).trans rfl
set_option maxRecDepth 100000 in
set_option maxHeartbeats 4000000 in
theorem e_Mo_laysFar_0 (d : Nat) (x1 : Int32) (M : Mem) : X2 d m_Mo_laysFar 0 [.ref 197, .int x1, uns, uns] [] M = bV (c2 d m_Mo_laysThen [.ref 197] M) fun M1 => X2 d m_Mo_laysFar 11 [.ref 197, .int x1, .int (iI 0), uns] [] (wI M1 197 28 x1) :=
  (sx_eq O2 d m_Mo_laysFar [11, 47, 55] 8 _ _ _ _).trans rfl
set_option maxRecDepth 100000 in
set_option maxHeartbeats 4000000 in
theorem e_Mo_laysFar_11 (d : Nat) (v1 : Value) (x2 : Int32) (v3 : Value) (M : Mem) : X2 d m_Mo_laysFar 11 [.ref 197, v1, .int x2, v3] [] M = if x2 < iI 2560 then bI (c2 d m_Mo_isSought [.ref 197, .int x2] M) fun r2 M1 => if r2 = 0 then gb (inb x2 2560) (X2 d m_Mo_laysFar 11 [.ref 197, v1, .int (x2 + iI 1), v3] [] (wI M1 208 (ix x2) (iI 268435456))) else gb (inb x2 2560) (X2 d m_Mo_laysFar 11 [.ref 197, v1, .int (x2 + iI 1), v3] [] (wI M1 208 (ix x2) (iI 0))) else X2 d m_Mo_laysFar 47 [.ref 197, v1, .int (iI 1), v3] [] M :=
  (sx_eq O2 d m_Mo_laysFar [11, 47, 55] 16 _ _ _ _).trans rfl
set_option maxRecDepth 100000 in
set_option maxHeartbeats 4000000 in
theorem e_Mo_laysFar_47 (d : Nat) (v1 : Value) (x2 : Int32) (v3 : Value) (M : Mem) : X2 d m_Mo_laysFar 47 [.ref 197, v1, .int x2, v3] [] M = if x2 = 0 then bI (c2 d m_Mo_standNow [.ref 197] M) fun r2 M1 => gb (inb r2 2560) (some (.int (gI M1 208 (ix r2)), M1)) else X2 d m_Mo_laysFar 55 [.ref 197, v1, .int (iI 0), .int (iI 0)] [] M :=
  (sx_eq O2 d m_Mo_laysFar [11, 47, 55] 9 _ _ _ _).trans rfl
set_option maxRecDepth 100000 in
set_option maxHeartbeats 4000000 in
theorem e_Mo_laysFar_55 (d : Nat) (v1 : Value) (x2 : Int32) (x3 : Int32) (M : Mem) : X2 d m_Mo_laysFar 55 [.ref 197, v1, .int x2, .int x3] [] M = bI (c2 d m_Mo_roses [.ref 197] M) fun r2 M1 => if x3 < (iI 5) <<< (r2 &&& 31) then bI (c2 d m_Mo_leastBy [.ref 197, .int x3] M1) fun r4 M3 => gb (inb x3 2560) (if r4 < gI M3 208 (ix x3) then bI (c2 d m_Mo_leastBy [.ref 197, .int x3] M3) fun r6 M5 => gb (inb x3 2560) (X2 d m_Mo_laysFar 55 [.ref 197, v1, .int (iI 1), .int (x3 + iI 1)] [] (wI M5 208 (ix x3) r6)) else X2 d m_Mo_laysFar 55 [.ref 197, v1, .int x2, .int (x3 + iI 1)] [] M3) else X2 d m_Mo_laysFar 47 [.ref 197, v1, .int x2, .int x3] [] M1 :=
  (sx_eq O2 d m_Mo_laysFar [11, 47, 55] 26 _ _ _ _).trans rfl
set_option maxRecDepth 100000 in
set_option maxHeartbeats 4000000 in
theorem e_Mo_toldFar_0 (d : Nat) (x0 : Int32) (M : Mem) : X2 d m_Mo_toldFar 0 [.int x0] [] M = if x0 = iI 268435456 then some (.int (iI (-1)), M) else some (.int x0, M) :=
  (sx_eq O2 d m_Mo_toldFar [] 7 _ _ _ _).trans rfl
set_option maxRecDepth 100000 in
set_option maxHeartbeats 4000000 in
theorem e_Mo_blindAt_0 (d : Nat) (x1 : Int32) (M : Mem) : X2 d m_Mo_blindAt 0 [.ref 197, .int x1, uns, uns, uns, uns] [] M = bI (c2 d m_Mo_standNow [.ref 197] M) fun r2 M1 => gb (inb r2 2560) (if gI M1 208 (ix r2) = iI 268435456 then some (.int (iI (-1)), M1) else if x1 < gI M1 208 (ix r2) then X2 d m_Mo_blindAt 29 [.ref 197, .int x1, .int r2, .int (gI M1 208 (ix r2)), .int (iI 0), uns] [] M1 else some (.int (iI (-1)), M1)) :=
  (sx_eq O2 d m_Mo_blindAt [29] 17 _ _ _ _).trans rfl
set_option maxRecDepth 100000 in
set_option maxHeartbeats 4000000 in
theorem e_Mo_blindAt_29 (d : Nat) (x1 : Int32) (x2 : Int32) (x3 : Int32) (x4 : Int32) (v5 : Value) (M : Mem) : X2 d m_Mo_blindAt 29 [.ref 197, .int x1, .int x2, .int x3, .int x4, v5] [] M = gb (inb ((iI 2) * x2) 5120) (gb (inb (gI M 207 (ix ((iI 2) * x2))) 2560) (if gI M 208 (ix (gI M 207 (ix ((iI 2) * x2)))) = (x3 - x4) - (iI 1) then if x4 = x1 then some (.int (iI 0), M) else gb (inb (((iI 2) * x2) + (iI 0)) 5120) (X2 d m_Mo_blindAt 29 [.ref 197, .int x1, .int (gI M 207 (ix (((iI 2) * x2) + (iI 0)))), .int x3, .int (x4 + iI 1), .int (iI 0)] [] M) else if x4 = x1 then some (.int (iI 1), M) else gb (inb (((iI 2) * x2) + (iI 1)) 5120) (X2 d m_Mo_blindAt 29 [.ref 197, .int x1, .int (gI M 207 (ix (((iI 2) * x2) + (iI 1)))), .int x3, .int (x4 + iI 1), .int (iI 1)] [] M))) :=
  (sx_eq O2 d m_Mo_blindAt [29] 33 _ _ _ _).trans rfl
set_option maxRecDepth 100000 in
set_option maxHeartbeats 4000000 in
theorem e_Mo_laysForced_0 (d : Nat)  (M : Mem) : X2 d m_Mo_laysForced 0 [.ref 197, uns, uns, uns, uns] [] M = bV (c2 d m_Mo_laysThen [.ref 197] M) fun M1 => X2 d m_Mo_laysForced 6 [.ref 197, .int (iI 0), uns, uns, uns] [] M1 :=
  (sx_eq O2 d m_Mo_laysForced [6, 53, 61, 148] 5 _ _ _ _).trans rfl
set_option maxRecDepth 100000 in
set_option maxHeartbeats 4000000 in
theorem e_Mo_laysForced_6 (d : Nat) (x1 : Int32) (v2 : Value) (v3 : Value) (v4 : Value) (M : Mem) : X2 d m_Mo_laysForced 6 [.ref 197, .int x1, v2, v3, v4] [] M = if x1 < iI 2560 then bI (c2 d m_Mo_isGone [.int x1] M) fun r2 M1 => if r2 = 0 then gb (inb x1 2560) (gb (inb x1 2560) (gb (inb x1 2560) (X2 d m_Mo_laysForced 6 [.ref 197, .int (x1 + iI 1), v2, v3, v4] [] (wI (wI M1 208 (ix x1) (iI 268435456)) 209 (ix x1) (gI (wI M1 208 (ix x1) (iI 268435456)) 208 (ix x1)))))) else gb (inb x1 2560) (gb (inb x1 2560) (gb (inb x1 2560) (X2 d m_Mo_laysForced 6 [.ref 197, .int (x1 + iI 1), v2, v3, v4] [] (wI (wI M1 208 (ix x1) (iI 0)) 209 (ix x1) (gI (wI M1 208 (ix x1) (iI 0)) 208 (ix x1)))))) else X2 d m_Mo_laysForced 53 [.ref 197, .int (iI 1), v2, v3, v4] [] M :=
  (sx_eq O2 d m_Mo_laysForced [6, 53, 61, 148] 23 _ _ _ _).trans rfl
set_option maxRecDepth 100000 in
set_option maxHeartbeats 4000000 in
theorem e_Mo_laysForced_53 (d : Nat) (x1 : Int32) (v2 : Value) (v3 : Value) (v4 : Value) (M : Mem) : X2 d m_Mo_laysForced 53 [.ref 197, .int x1, v2, v3, v4] [] M = if x1 = 0 then bI (c2 d m_Mo_standNow [.ref 197] M) fun r2 M1 => gb (inb r2 2560) (some (.int (gI M1 208 (ix r2)), M1)) else X2 d m_Mo_laysForced 61 [.ref 197, .int (iI 0), .int (iI 0), v3, v4] [] M :=
  (sx_eq O2 d m_Mo_laysForced [6, 53, 61, 148] 9 _ _ _ _).trans rfl
set_option maxRecDepth 100000 in
set_option maxHeartbeats 4000000 in
theorem e_Mo_laysForced_61 (d : Nat) (x1 : Int32) (x2 : Int32) (v3 : Value) (v4 : Value) (M : Mem) : X2 d m_Mo_laysForced 61 [.ref 197, .int x1, .int x2, v3, v4] [] M = bI (c2 d m_Mo_roses [.ref 197] M) fun r2 M1 => if x2 < (iI 5) <<< (r2 &&& 31) then bI (c2 d m_Mo_isGone [.int x2] M1) fun r4 M3 => if r4 = 0 then bI (c2 d m_Mo_herBy [.ref 197, .int x2] M3) fun r6 M5 => bI (c2 d m_Mo_mostBy [.ref 197, .int x2] M5) fun r8 M7 => gb (inb x2 2560) (if r6 < gI M7 208 (ix x2) then gb (inb x2 2560) (if r6 < gI M7 208 (ix x2) then X2 d m_Mo_laysForced 148 [.ref 197, .int (x1 ||| (iI 1)), .int x2, .int r6, .int r8] [.int r6, .int x2, .ref 208] M7 else gb (inb x2 2560) (X2 d m_Mo_laysForced 148 [.ref 197, .int (x1 ||| (iI 1)), .int x2, .int r6, .int r8] [.int (gI M7 208 (ix x2)), .int x2, .ref 208] M7)) else gb (inb x2 2560) (if r8 < gI M7 209 (ix x2) then gb (inb x2 2560) (if r6 < gI M7 208 (ix x2) then X2 d m_Mo_laysForced 148 [.ref 197, .int (x1 ||| (iI 1)), .int x2, .int r6, .int r8] [.int r6, .int x2, .ref 208] M7 else gb (inb x2 2560) (X2 d m_Mo_laysForced 148 [.ref 197, .int (x1 ||| (iI 1)), .int x2, .int r6, .int r8] [.int (gI M7 208 (ix x2)), .int x2, .ref 208] M7)) else gb (inb x2 2560) (if r6 < gI M7 208 (ix x2) then X2 d m_Mo_laysForced 148 [.ref 197, .int (x1 ||| (iI 0)), .int x2, .int r6, .int r8] [.int r6, .int x2, .ref 208] M7 else gb (inb x2 2560) (X2 d m_Mo_laysForced 148 [.ref 197, .int (x1 ||| (iI 0)), .int x2, .int r6, .int r8] [.int (gI M7 208 (ix x2)), .int x2, .ref 208] M7)))) else X2 d m_Mo_laysForced 61 [.ref 197, .int x1, .int (x2 + iI 1), v3, v4] [] M3 else X2 d m_Mo_laysForced 53 [.ref 197, .int x1, .int x2, v3, v4] [] M1 :=
  (sx_eq O2 d m_Mo_laysForced [6, 53, 61, 148] 48 _ _ _ _).trans rfl
set_option maxRecDepth 100000 in
set_option maxHeartbeats 4000000 in
theorem e_Mo_laysForced_148 (d : Nat) (x1 : Int32) (x2 : Int32) (v3 : Value) (x4 : Int32) (y0 : Int32) (y1 : Int32) (M : Mem) : X2 d m_Mo_laysForced 148 [.ref 197, .int x1, .int x2, v3, .int x4] [.int y0, .int y1, .ref 208] M = gb (inb y1 2560) (gb (inb x2 2560) (if x4 < gI M 209 (ix x2) then gb (inb x2 2560) (X2 d m_Mo_laysForced 61 [.ref 197, .int x1, .int (x2 + iI 1), v3, .int x4] [] (wI (wI M 208 (ix y1) y0) 209 (ix x2) x4)) else gb (inb x2 2560) (gb (inb x2 2560) (X2 d m_Mo_laysForced 61 [.ref 197, .int x1, .int (x2 + iI 1), v3, .int x4] [] (wI (wI M 208 (ix y1) y0) 209 (ix x2) (gI M 209 (ix x2))))))) :=
  (sx_eq O2 d m_Mo_laysForced [6, 53, 61, 148] 18 _ _ _ _).trans rfl
set_option maxRecDepth 100000 in
set_option maxHeartbeats 4000000 in
theorem e_Mo_isWall_0 (d : Nat) (x1 : Int64) (M : Mem) : X2 d m_Mo_isWall 0 [.ref 197, .long x1, mk2] [] M = bI (c2 d m_Mo_roses [.ref 197] M) fun r2 M1 => bI (c2 d m_Mo_within [.long x1, .long (lI 0), .long ((((iI 1) <<< (r2 &&& 31)) - (iI 1)).toInt64)] M1) fun r4 M3 => gb (decide (r4 &&& 1 = r4)) (some (.int r4, M3)) :=
  (sx_eq O2 d m_Mo_isWall [] 12 _ _ _ _).trans rfl
set_option maxRecDepth 100000 in
set_option maxHeartbeats 4000000 in
theorem e_Mo_beginsMany_0 (d : Nat)  (M : Mem) : X2 d m_Mo_beginsMany 0 [.ref 197, uns] [] M = bV (c2 d m_Mo_laysThen [.ref 197] M) fun M1 => X2 d m_Mo_beginsMany 6 [.ref 197, .int (iI 0)] [] M1 :=
  (sx_eq O2 d m_Mo_beginsMany [6] 5 _ _ _ _).trans rfl
set_option maxRecDepth 100000 in
set_option maxHeartbeats 4000000 in
theorem e_Mo_beginsMany_6 (d : Nat) (x1 : Int32) (M : Mem) : X2 d m_Mo_beginsMany 6 [.ref 197, .int x1] [] M = if x1 < iI 2560 then bI (c2 d m_Mo_standNow [.ref 197] M) fun r2 M1 => if x1 = r2 then gb (inb x1 2560) (gb (inb x1 2560) (X2 d m_Mo_beginsMany 6 [.ref 197, .int (x1 + iI 1)] [] (wI (wI M1 210 (ix x1) (iI 1)) 211 (ix x1) (iI 0)))) else gb (inb x1 2560) (gb (inb x1 2560) (X2 d m_Mo_beginsMany 6 [.ref 197, .int (x1 + iI 1)] [] (wI (wI M1 210 (ix x1) (iI 0)) 211 (ix x1) (iI 0)))) else some (.null, M) :=
  (sx_eq O2 d m_Mo_beginsMany [6] 21 _ _ _ _).trans rfl
set_option maxRecDepth 100000 in
set_option maxHeartbeats 4000000 in
theorem e_Mo_standOf_0 (d : Nat) (x0 : Int32) (x1 : Int32) (M : Mem) : X2 d m_Mo_standOf 0 [.int x0, .int x1] [] M = some (.int (((iI 5) * x0) + x1), M) :=
  (sx_eq O2 d m_Mo_standOf [] 7 _ _ _ _).trans rfl
set_option maxRecDepth 100000 in
set_option maxHeartbeats 4000000 in
theorem e_Mo_laysFrom_0 (d : Nat) (x1 : Int32) (x2 : Int32) (M : Mem) : X2 d m_Mo_laysFrom 0 [.ref 197, .int x1, .int x2, uns] [] M = X2 d m_Mo_laysFrom 2 [.ref 197, .int x1, .int x2, .int (iI 0)] [] M :=
  (sx_eq O2 d m_Mo_laysFrom [2, 24] 3 _ _ _ _).trans rfl
set_option maxRecDepth 100000 in
set_option maxHeartbeats 4000000 in
theorem e_Mo_laysFrom_2 (d : Nat) (x1 : Int32) (x2 : Int32) (x3 : Int32) (M : Mem) : X2 d m_Mo_laysFrom 2 [.ref 197, .int x1, .int x2, .int x3] [] M = if x3 < iI 512 then gb (inb x3 512) (X2 d m_Mo_laysFrom 2 [.ref 197, .int x1, .int x2, .int (x3 + iI 1)] [] (wI M 212 (ix x3) (iI 0))) else X2 d m_Mo_laysFrom 24 [.ref 197, .int x1, .int x2, .int (iI 0)] [] M :=
  (sx_eq O2 d m_Mo_laysFrom [2, 24] 11 _ _ _ _).trans rfl
set_option maxRecDepth 100000 in
set_option maxHeartbeats 4000000 in
theorem e_Mo_laysFrom_24 (d : Nat) (x1 : Int32) (x2 : Int32) (x3 : Int32) (M : Mem) : X2 d m_Mo_laysFrom 24 [.ref 197, .int x1, .int x2, .int x3] [] M = bI (c2 d m_Mo_roses [.ref 197] M) fun r2 M1 => if x3 < (iI 1) <<< (r2 &&& 31) then if x2 = iI (-1) then bI (c2 d m_Mo_wallThen [.ref 197, .int x3, .int (iI 4), .int x1] M1) fun r6 M5 => gb (inb r6 512) (gb (inb r6 512) (X2 d m_Mo_laysFrom 24 [.ref 197, .int x1, .int x2, .int (x3 + iI 1)] [] (wI M5 212 (ix r6) ((gI M5 212 (ix r6)) + (iI 1))))) else bI (c2 d m_Mo_wallThen [.ref 197, .int x3, .int x2, .int x1] M1) fun r4 M3 => gb (inb r4 512) (gb (inb r4 512) (X2 d m_Mo_laysFrom 24 [.ref 197, .int x1, .int x2, .int (x3 + iI 1)] [] (wI M3 212 (ix r4) ((gI M3 212 (ix r4)) + (iI 1))))) else some (.null, M1) :=
  (sx_eq O2 d m_Mo_laysFrom [2, 24] 25 _ _ _ _).trans rfl
set_option maxRecDepth 100000 in
set_option maxHeartbeats 4000000 in
theorem e_Mo_noSo_0 (d : Nat) (x1 : Int32) (x2 : Int32) (M : Mem) : X2 d m_Mo_noSo 0 [.ref 197, .int x1, .int x2] [] M = if x2 = iI (-1) then bI (c2 d m_Mo_isBlind [.long ((x1).toInt64)] M) fun r2 M1 => if r2 = 0 then some (.int (iI (-3)), M1) else some (.int (iI 0), M1) else bI (c2 d m_Mo_isTenant [.ref 197, .long ((x2).toInt64)] M) fun r4 M3 => if r4 = 0 then some (.int (iI (-2)), M3) else bI (c2 d m_Mo_isBlind [.long ((x1).toInt64)] M3) fun r6 M5 => if r6 = 0 then some (.int (iI (-3)), M5) else some (.int (iI 0), M5) :=
  (sx_eq O2 d m_Mo_noSo [] 16 _ _ _ _).trans rfl
set_option maxRecDepth 100000 in
set_option maxHeartbeats 4000000 in
theorem e_Mo_roses_0 (d : Nat)  (M : Mem) : X2 d m_Mo_roses 0 [.ref 197] [] M = some (.int ((gI M 198 1) * (gI M 198 2)), M) :=
  (sx_eq O2 d m_Mo_roses [] 11 _ _ _ _).trans rfl
set_option maxRecDepth 100000 in
set_option maxHeartbeats 4000000 in
theorem e_Mo_wallThen_0 (d : Nat) (x1 : Int32) (x2 : Int32) (x3 : Int32) (M : Mem) : X2 d m_Mo_wallThen 0 [.ref 197, .int x1, .int x2, .int x3, uns, uns] [] M = X2 d m_Mo_wallThen 6 [.ref 197, .int x1, .int x2, .int x3, .int (iI 0), .int (iI 0)] [] M :=
  (sx_eq O2 d m_Mo_wallThen [6] 5 _ _ _ _).trans rfl
set_option maxRecDepth 100000 in
set_option maxHeartbeats 4000000 in
theorem e_Mo_wallThen_6 (d : Nat) (x1 : Int32) (x2 : Int32) (x3 : Int32) (x4 : Int32) (x5 : Int32) (M : Mem) : X2 d m_Mo_wallThen 6 [.ref 197, .int x1, .int x2, .int x3, .int x4, .int x5] [] M = bI (c2 d m_Mo_roses [.ref 197] M) fun r2 M1 => if x5 < r2 then bI (c2 d m_Mo_turnsThen [.ref 197, .int x5, .int x1, .int x2, .int x3] M1) fun r4 M3 => if r4 = 0 then X2 d m_Mo_wallThen 6 [.ref 197, .int x1, .int x2, .int x3, .int (x4 ||| (iI 0)), .int (x5 + iI 1)] [] M3 else X2 d m_Mo_wallThen 6 [.ref 197, .int x1, .int x2, .int x3, .int (x4 ||| ((iI 1) <<< (x5 &&& 31))), .int (x5 + iI 1)] [] M3 else some (.int x4, M1) :=
  (sx_eq O2 d m_Mo_wallThen [6] 21 _ _ _ _).trans rfl
set_option maxRecDepth 100000 in
set_option maxHeartbeats 4000000 in
theorem e_Mo_goesMany_0 (d : Nat) (x1 : Int32) (x2 : Int32) (M : Mem) : X2 d m_Mo_goesMany 0 [.ref 197, .int x1, .int x2, uns] [] M = X2 d m_Mo_goesMany 2 [.ref 197, .int x1, .int x2, .int (iI 0)] [] M :=
  (sx_eq O2 d m_Mo_goesMany [2, 79] 3 _ _ _ _).trans rfl
set_option maxRecDepth 100000 in
set_option maxHeartbeats 4000000 in
theorem e_Mo_goesMany_2 (d : Nat) (x1 : Int32) (x2 : Int32) (x3 : Int32) (M : Mem) : X2 d m_Mo_goesMany 2 [.ref 197, .int x1, .int x2, .int x3] [] M = if x3 < iI 2560 then gb (inb x3 2560) (if gI M 210 (ix x3) = 0 then X2 d m_Mo_goesMany 2 [.ref 197, .int x1, .int x2, .int (x3 + iI 1)] [] M else gb (inb ((iI 2) * x3) 5120) (gb (inb (gI M 207 (ix ((iI 2) * x3))) 2560) (gb (inb x3 2560) (gb (inb (gI M 207 (ix ((iI 2) * x3))) 2560) (gb (inb (((iI 2) * x3) + (iI 1)) 5120) (gb (inb (gI M 207 (ix (((iI 2) * x3) + (iI 1)))) 2560) (gb (inb x3 2560) (gb (inb (gI M 207 (ix (((iI 2) * x3) + (iI 1)))) 2560) (X2 d m_Mo_goesMany 2 [.ref 197, .int x1, .int x2, .int (x3 + iI 1)] [] (wI (wI M 211 (ix (gI M 207 (ix ((iI 2) * x3)))) ((gI M 211 (ix (gI M 207 (ix ((iI 2) * x3))))) + (x1 * (gI M 210 (ix x3))))) 211 (ix (gI M 207 (ix (((iI 2) * x3) + (iI 1))))) ((gI (wI M 211 (ix (gI M 207 (ix ((iI 2) * x3)))) ((gI M 211 (ix (gI M 207 (ix ((iI 2) * x3))))) + (x1 * (gI M 210 (ix x3))))) 211 (ix (gI M 207 (ix (((iI 2) * x3) + (iI 1)))))) + (x2 * (gI M 210 (ix x3)))))))))))))) else X2 d m_Mo_goesMany 79 [.ref 197, .int x1, .int x2, .int (iI 0)] [] M :=
  (sx_eq O2 d m_Mo_goesMany [2, 79] 49 _ _ _ _).trans rfl
set_option maxRecDepth 100000 in
set_option maxHeartbeats 4000000 in
theorem e_Mo_goesMany_79 (d : Nat) (v1 : Value) (v2 : Value) (x3 : Int32) (M : Mem) : X2 d m_Mo_goesMany 79 [.ref 197, v1, v2, .int x3] [] M = if x3 < iI 2560 then gb (inb x3 2560) (gb (inb x3 2560) (gb (inb x3 2560) (X2 d m_Mo_goesMany 79 [.ref 197, v1, v2, .int (x3 + iI 1)] [] (wI (wI M 210 (ix x3) (gI M 211 (ix x3))) 211 (ix x3) (iI 0))))) else some (.null, M) :=
  (sx_eq O2 d m_Mo_goesMany [2, 79] 19 _ _ _ _).trans rfl
set_option maxRecDepth 100000 in
set_option maxHeartbeats 4000000 in
theorem e_Mo_noSeen_0 (d : Nat) (x1 : Int32) (M : Mem) : X2 d m_Mo_noSeen 0 [.ref 197, .int x1, uns, uns] [] M = bI (c2 d m_Mo_noTray [.ref 197, .int x1] M) fun r2 M1 => if r2 = 0 then gb (inb x1 4) (bI (c2 d m_Mo_within [.long ((gI M1 214 (ix x1)).toInt64), .long (lI 1), .long (lI 10)] M1) fun r4 M3 => if r4 = 0 then some (.int (iI (-4)), M3) else X2 d m_Mo_noSeen 34 [.ref 197, .int x1, .int r2, .int (iI 0)] [] M3) else some (.int r2, M1) :=
  (sx_eq O2 d m_Mo_noSeen [34] 18 _ _ _ _).trans rfl
set_option maxRecDepth 100000 in
set_option maxHeartbeats 4000000 in
theorem e_Mo_noSeen_34 (d : Nat) (x1 : Int32) (v2 : Value) (x3 : Int32) (M : Mem) : X2 d m_Mo_noSeen 34 [.ref 197, .int x1, v2, .int x3] [] M = gb (inb x1 4) (if x3 < gI M 214 (ix x1) then gb (inb (((iI 40) * x1) + x3) 160) (if lg_cmp (gL M 215 (ix (((iI 40) * x1) + x3))) (lI (-1)) = 0 then X2 d m_Mo_noSeen 34 [.ref 197, .int x1, v2, .int (x3 + iI 1)] [] M else gb (inb (((iI 40) * x1) + x3) 160) (bI (c2 d m_Mo_isWall [.ref 197, .long (gL M 215 (ix (((iI 40) * x1) + x3)))] M) fun r2 M1 => if r2 = 0 then some (.int (iI (-3)), M1) else X2 d m_Mo_noSeen 34 [.ref 197, .int x1, v2, .int (x3 + iI 1)] [] M1)) else some (.int (iI 0), M)) :=
  (sx_eq O2 d m_Mo_noSeen [34] 31 _ _ _ _).trans rfl
set_option maxRecDepth 100000 in
set_option maxHeartbeats 4000000 in
theorem e_Mo_laysThen_0 (d : Nat)  (M : Mem) : X2 d m_Mo_laysThen 0 [.ref 197, uns, uns, uns] [] M = X2 d m_Mo_laysThen 2 [.ref 197, .int (iI 0), uns, uns] [] M :=
  (sx_eq O2 d m_Mo_laysThen [2, 39] 3 _ _ _ _).trans rfl
set_option maxRecDepth 100000 in
set_option maxHeartbeats 4000000 in
theorem e_Mo_laysThen_2 (d : Nat) (x1 : Int32) (v2 : Value) (v3 : Value) (M : Mem) : X2 d m_Mo_laysThen 2 [.ref 197, .int x1, v2, v3] [] M = bI (c2 d m_Mo_roses [.ref 197] M) fun r2 M1 => if x1 < (iI 5) <<< (r2 &&& 31) then if irm x1 (iI 5) = iI 4 then X2 d m_Mo_laysThen 39 [.ref 197, .int x1, .int (iI 1), .int (iI 0)] [] M1 else if irm x1 (iI 5) < gI M1 198 3 then X2 d m_Mo_laysThen 39 [.ref 197, .int x1, .int (iI 1), .int (iI 0)] [] M1 else X2 d m_Mo_laysThen 39 [.ref 197, .int x1, .int (iI 0), .int (iI 0)] [] M1 else some (.null, M1) :=
  (sx_eq O2 d m_Mo_laysThen [2, 39] 25 _ _ _ _).trans rfl
set_option maxRecDepth 100000 in
set_option maxHeartbeats 4000000 in
theorem e_Mo_laysThen_39 (d : Nat) (x1 : Int32) (x2 : Int32) (x3 : Int32) (M : Mem) : X2 d m_Mo_laysThen 39 [.ref 197, .int x1, .int x2, .int x3] [] M = if x3 < iI 2 then if x2 = 0 then gb (inb (((iI 2) * x1) + x3) 5120) (X2 d m_Mo_laysThen 39 [.ref 197, .int x1, .int x2, .int (x3 + iI 1)] [] (wI M 207 (ix (((iI 2) * x1) + x3)) x1)) else bI (c2 d m_Mo_standThen [.ref 197, .int x1, .int x3] M) fun r2 M1 => gb (inb (((iI 2) * x1) + x3) 5120) (X2 d m_Mo_laysThen 39 [.ref 197, .int x1, .int x2, .int (x3 + iI 1)] [] (wI M1 207 (ix (((iI 2) * x1) + x3)) r2)) else X2 d m_Mo_laysThen 2 [.ref 197, .int (x1 + iI 1), .int x2, .int x3] [] M :=
  (sx_eq O2 d m_Mo_laysThen [2, 39] 21 _ _ _ _).trans rfl
set_option maxRecDepth 100000 in
set_option maxHeartbeats 4000000 in
theorem e_Mo_isRow_0 (d : Nat) (x1 : Int32) (x2 : Int32) (x3 : Int32) (M : Mem) : X2 d m_Mo_isRow 0 [.ref 197, .int x1, .int x2, .int x3, uns, uns] [] M = X2 d m_Mo_isRow 6 [.ref 197, .int x1, .int x2, .int x3, .int x3, .int (iI 0)] [] M :=
  (sx_eq O2 d m_Mo_isRow [6] 5 _ _ _ _).trans rfl
set_option maxRecDepth 100000 in
set_option maxHeartbeats 4000000 in
theorem e_Mo_isRow_6 (d : Nat) (x1 : Int32) (x2 : Int32) (v3 : Value) (x4 : Int32) (x5 : Int32) (M : Mem) : X2 d m_Mo_isRow 6 [.ref 197, .int x1, .int x2, v3, .int x4, .int x5] [] M = gb (inb x1 4) (if x5 < gI M 214 (ix x1) then bI (c2 d m_Mo_blindIn [.ref 197, .int x1, .int x2, .int x5] M) fun r2 M1 => gb (inb (((iI 2) * x4) + r2) 5120) (bI (c2 d m_Mo_isSeen [.ref 197, .int x1, .int x5, .int ((gI M1 207 (ix (((iI 2) * x4) + r2))) / (iI 5))] M1) fun r4 M3 => if r4 = 0 then some (.int (iI 0), M3) else X2 d m_Mo_isRow 6 [.ref 197, .int x1, .int x2, v3, .int (gI M1 207 (ix (((iI 2) * x4) + r2))), .int (x5 + iI 1)] [] M3) else some (.int (iI 1), M)) :=
  (sx_eq O2 d m_Mo_isRow [6] 30 _ _ _ _).trans rfl
set_option maxRecDepth 100000 in
set_option maxHeartbeats 4000000 in
theorem e_Mo_blindIn_0 (d : Nat) (x1 : Int32) (x2 : Int32) (x3 : Int32) (M : Mem) : X2 d m_Mo_blindIn 0 [.ref 197, .int x1, .int x2, .int x3] [] M = gb (inb x1 4) (some (.int ((x2 >>> ((((gI M 214 (ix x1)) - (iI 1)) - x3) &&& 31)) &&& (iI 1)), M)) :=
  (sx_eq O2 d m_Mo_blindIn [] 14 _ _ _ _).trans rfl
set_option maxRecDepth 100000 in
set_option maxHeartbeats 4000000 in
theorem e_Mo_noBlinds_0 (d : Nat) (x1 : Int32) (x2 : Int32) (M : Mem) : X2 d m_Mo_noBlinds 0 [.ref 197, .int x1, .int x2, uns] [] M = bI (c2 d m_Mo_noSeen [.ref 197, .int x1] M) fun r2 M1 => if r2 = 0 then gb (inb x1 4) (bI (c2 d m_Mo_within [.long ((x2).toInt64), .long (lI 0), .long ((((iI 1) <<< ((gI M1 214 (ix x1)) &&& 31)) - (iI 1)).toInt64)] M1) fun r4 M3 => if r4 = 0 then some (.int (iI (-3)), M3) else some (.int (iI 0), M3)) else some (.int r2, M1) :=
  (sx_eq O2 d m_Mo_noBlinds [] 24 _ _ _ _).trans rfl
set_option maxRecDepth 100000 in
set_option maxHeartbeats 4000000 in
theorem e_Mo_tempersOf_0 (d : Nat) (x1 : Int32) (x2 : Int32) (M : Mem) : X2 d m_Mo_tempersOf 0 [.ref 197, .int x1, .int x2, uns, uns, uns, uns, uns, uns] [] M = X2 d m_Mo_tempersOf 14 [.ref 197, .int x1, .int x2, .int (gI M 198 27), .int (iI 0), .int (iI 0), uns, uns, uns] [] M :=
  (sx_eq O2 d m_Mo_tempersOf [14, 42] 10 _ _ _ _).trans rfl
set_option maxRecDepth 100000 in
set_option maxHeartbeats 4000000 in
theorem e_Mo_tempersOf_14 (d : Nat) (x1 : Int32) (x2 : Int32) (x3 : Int32) (x4 : Int32) (x5 : Int32) (v6 : Value) (v7 : Value) (v8 : Value) (M : Mem) : X2 d m_Mo_tempersOf 14 [.ref 197, .int x1, .int x2, .int x3, .int x4, .int x5, v6, v7, v8] [] M = if iI 9 < x5 then some (.int x4, wI M 198 27 x3) else bI (c2 d m_Mo_standNow [.ref 197] (wI M 198 27 x5)) fun r2 M1 => X2 d m_Mo_tempersOf 42 [.ref 197, .int x1, .int x2, .int x3, .int x4, .int x5, .int r2, .int (iI 1), .int (iI 0)] [] M1 :=
  (sx_eq O2 d m_Mo_tempersOf [14, 42] 16 _ _ _ _).trans rfl
set_option maxRecDepth 100000 in
set_option maxHeartbeats 4000000 in
theorem e_Mo_tempersOf_42 (d : Nat) (x1 : Int32) (x2 : Int32) (x3 : Int32) (x4 : Int32) (x5 : Int32) (x6 : Int32) (x7 : Int32) (x8 : Int32) (M : Mem) : X2 d m_Mo_tempersOf 42 [.ref 197, .int x1, .int x2, .int x3, .int x4, .int x5, .int x6, .int x7, .int x8] [] M = gb (inb x1 4) (if x8 < gI M 214 (ix x1) then if x7 = 0 then if x7 = 0 then X2 d m_Mo_tempersOf 14 [.ref 197, .int x1, .int x2, .int x3, .int (x4 ||| (iI 0)), .int (x5 + iI 1), .int x6, .int x7, .int x8] [] M else X2 d m_Mo_tempersOf 14 [.ref 197, .int x1, .int x2, .int x3, .int (x4 ||| ((iI 1) <<< (x5 &&& 31))), .int (x5 + iI 1), .int x6, .int x7, .int x8] [] M else bI (c2 d m_Mo_standThen [.ref 197, .int x6, .int ((x2 >>> (x8 &&& 31)) &&& (iI 1))] M) fun r2 M1 => bI (c2 d m_Mo_isSeen [.ref 197, .int x1, .int x8, .int (r2 / (iI 5))] M1) fun r4 M3 => X2 d m_Mo_tempersOf 42 [.ref 197, .int x1, .int x2, .int x3, .int x4, .int x5, .int r2, .int r4, .int (x8 + iI 1)] [] M3 else if x7 = 0 then X2 d m_Mo_tempersOf 14 [.ref 197, .int x1, .int x2, .int x3, .int (x4 ||| (iI 0)), .int (x5 + iI 1), .int x6, .int x7, .int x8] [] M else X2 d m_Mo_tempersOf 14 [.ref 197, .int x1, .int x2, .int x3, .int (x4 ||| ((iI 1) <<< (x5 &&& 31))), .int (x5 + iI 1), .int x6, .int x7, .int x8] [] M) :=
  (sx_eq O2 d m_Mo_tempersOf [14, 42] 28 _ _ _ _).trans rfl
set_option maxRecDepth 100000 in
set_option maxHeartbeats 4000000 in
theorem e_Mo_mostAlike_0 (d : Nat) (x1 : Int32) (x2 : Int32) (M : Mem) : X2 d m_Mo_mostAlike 0 [.ref 197, .int x1, .int x2, uns, uns, uns, uns] [] M = X2 d m_Mo_mostAlike 14 [.ref 197, .int x1, .int x2, .int (gI M 198 27), .int (iI 0), .int (iI 0), uns] [] M :=
  (sx_eq O2 d m_Mo_mostAlike [14, 39] 10 _ _ _ _).trans rfl
set_option maxRecDepth 100000 in
set_option maxHeartbeats 4000000 in
theorem e_Mo_mostAlike_14 (d : Nat) (x1 : Int32) (x2 : Int32) (x3 : Int32) (x4 : Int32) (x5 : Int32) (v6 : Value) (M : Mem) : X2 d m_Mo_mostAlike 14 [.ref 197, .int x1, .int x2, .int x3, .int x4, .int x5, v6] [] M = if x5 < iI 512 then gb (inb x5 512) (X2 d m_Mo_mostAlike 14 [.ref 197, .int x1, .int x2, .int x3, .int x4, .int (x5 + iI 1), v6] [] (wI M 212 (ix x5) (iI 0))) else X2 d m_Mo_mostAlike 39 [.ref 197, .int x1, .int x2, .int x3, .int x4, .int (iI 0), v6] [] M :=
  (sx_eq O2 d m_Mo_mostAlike [14, 39] 11 _ _ _ _).trans rfl
set_option maxRecDepth 100000 in
set_option maxHeartbeats 4000000 in
theorem e_Mo_mostAlike_39 (d : Nat) (x1 : Int32) (x2 : Int32) (x3 : Int32) (x4 : Int32) (x5 : Int32) (v6 : Value) (M : Mem) : X2 d m_Mo_mostAlike 39 [.ref 197, .int x1, .int x2, .int x3, .int x4, .int x5, v6] [] M = if iI 9 < x5 then some (.int x4, wI M 198 27 x3) else bI (c2 d m_Mo_isIn [.long ((x1).toInt64), .int x5] M) fun r2 M1 => if r2 = 0 then X2 d m_Mo_mostAlike 39 [.ref 197, .int x1, .int x2, .int x3, .int x4, .int (x5 + iI 1), v6] [] M1 else bI (c2 d m_Mo_wallThen [.ref 197, .int (gI M1 198 25), .int (gI M1 198 26), .int x2] (wI M1 198 27 x5)) fun r4 M3 => gb (inb r4 512) (gb (inb r4 512) (gb (inb r4 512) (if x4 < gI (wI M3 212 (ix r4) ((gI M3 212 (ix r4)) + (iI 1))) 212 (ix r4) then gb (inb r4 512) (X2 d m_Mo_mostAlike 39 [.ref 197, .int x1, .int x2, .int x3, .int (gI (wI M3 212 (ix r4) ((gI M3 212 (ix r4)) + (iI 1))) 212 (ix r4)), .int (x5 + iI 1), .int r4] [] (wI M3 212 (ix r4) ((gI M3 212 (ix r4)) + (iI 1)))) else X2 d m_Mo_mostAlike 39 [.ref 197, .int x1, .int x2, .int x3, .int x4, .int (x5 + iI 1), .int r4] [] (wI M3 212 (ix r4) ((gI M3 212 (ix r4)) + (iI 1)))))) :=
  (sx_eq O2 d m_Mo_mostAlike [14, 39] 48 _ _ _ _).trans rfl
set_option maxRecDepth 100000 in
set_option maxHeartbeats 4000000 in
theorem e_Mo_chanceOf_0 (d : Nat) (x1 : Int32) (x2 : Int32) (M : Mem) : X2 d m_Mo_chanceOf 0 [.ref 197, .int x1, .int x2, uns, uns] [] M = bV (c2 d m_Mo_beginsMany [.ref 197] M) fun M1 => bI (c2 d m_Mo_standNow [.ref 197] M1) fun r3 M2 => gb (inb r3 2560) (bI (c2 d m_Mo_standOf [.int (gI M2 198 25), .int x1] (wI M2 210 (ix r3) (iI 0))) fun r5 M4 => gb (inb r5 2560) (X2 d m_Mo_chanceOf 33 [.ref 197, .int x1, .int x2, .int (iI 0), uns] [] (wI M4 210 (ix r5) (iI 1)))) :=
  (sx_eq O2 d m_Mo_chanceOf [33, 68] 21 _ _ _ _).trans rfl
set_option maxRecDepth 100000 in
set_option maxHeartbeats 4000000 in
theorem e_Mo_chanceOf_33 (d : Nat) (v1 : Value) (x2 : Int32) (x3 : Int32) (v4 : Value) (M : Mem) : X2 d m_Mo_chanceOf 33 [.ref 197, v1, .int x2, .int x3, v4] [] M = if x3 < x2 then bV (c2 d m_Mo_goesMany [.ref 197, .int ((iI 10) - (gI M 198 5)), .int (gI M 198 5)] M) fun M1 => X2 d m_Mo_chanceOf 33 [.ref 197, v1, .int x2, .int (x3 + iI 1), v4] [] M1 else X2 d m_Mo_chanceOf 68 [.ref 197, v1, .int x2, .int (iI 0), .int (iI 0)] [] M :=
  (sx_eq O2 d m_Mo_chanceOf [33, 68] 18 _ _ _ _).trans rfl
set_option maxRecDepth 100000 in
set_option maxHeartbeats 4000000 in
theorem e_Mo_chanceOf_68 (d : Nat) (v1 : Value) (v2 : Value) (x3 : Int32) (x4 : Int32) (M : Mem) : X2 d m_Mo_chanceOf 68 [.ref 197, v1, v2, .int x3, .int x4] [] M = if x4 < iI 2560 then bI (c2 d m_Mo_isGone [.int x4] M) fun r2 M1 => if r2 = 0 then gb (inb x4 2560) (X2 d m_Mo_chanceOf 68 [.ref 197, v1, v2, .int (x3 + (gI M1 210 (ix x4))), .int (x4 + iI 1)] [] M1) else X2 d m_Mo_chanceOf 68 [.ref 197, v1, v2, .int (x3 + (iI 0)), .int (x4 + iI 1)] [] M1 else some (.int x3, M) :=
  (sx_eq O2 d m_Mo_chanceOf [33, 68] 16 _ _ _ _).trans rfl
set_option maxRecDepth 100000 in
set_option maxHeartbeats 4000000 in
theorem e_Mo_wholeOf_0 (d : Nat) (x0 : Int32) (M : Mem) : X2 d m_Mo_wholeOf 0 [.int x0, uns, uns] [] M = X2 d m_Mo_wholeOf 4 [.int x0, .int (iI 1), .int (iI 0)] [] M :=
  (sx_eq O2 d m_Mo_wholeOf [4] 5 _ _ _ _).trans rfl
set_option maxRecDepth 100000 in
set_option maxHeartbeats 4000000 in
theorem e_Mo_wholeOf_4 (d : Nat) (x0 : Int32) (x1 : Int32) (x2 : Int32) (M : Mem) : X2 d m_Mo_wholeOf 4 [.int x0, .int x1, .int x2] [] M = if x2 < x0 then X2 d m_Mo_wholeOf 4 [.int x0, .int (x1 * (iI 10)), .int (x2 + iI 1)] [] M else some (.int x1, M) :=
  (sx_eq O2 d m_Mo_wholeOf [4] 10 _ _ _ _).trans rfl
set_option maxRecDepth 100000 in
set_option maxHeartbeats 4000000 in
theorem e_Mo_common_0 (d : Nat) (x0 : Int32) (x1 : Int32) (M : Mem) : X2 d m_Mo_common 0 [.int x0, .int x1] [] M = if x1 = 0 then some (.int x0, M) else gb (!(decide (x1 = 0))) (bI (c2 d m_Mo_common [.int x1, .int (irm x0 x1)] M) fun r2 M1 => some (.int r2, M1)) :=
  (sx_eq O2 d m_Mo_common [] 9 _ _ _ _).trans rfl
set_option maxRecDepth 100000 in
set_option maxHeartbeats 4000000 in
theorem e_Mo_cut_0 (d : Nat) (x0 : Int64) (x2 : Int32) (M : Mem) : X2 d m_Mo_cut 0 [.long x0, mk2, .int x2] [] M = if x2 = 0 then some (.long ((((x0).toInt32).toInt8.toInt32).toInt64), M) else if x2 = iI 1 then some (.long ((((x0).toInt32).toInt16.toInt32).toInt64), M) else if x2 = iI 2 then some (.long (((x0).toInt32).toInt64), M) else some (.long x0, M) :=
  (sx_eq O2 d m_Mo_cut [] 14 _ _ _ _).trans rfl
set_option maxRecDepth 100000 in
set_option maxHeartbeats 4000000 in
theorem e_Mo_standThen_0 (d : Nat) (x1 : Int32) (x2 : Int32) (M : Mem) : X2 d m_Mo_standThen 0 [.ref 197, .int x1, .int x2, uns, uns] [] M = bI (c2 d m_Mo_wallThen [.ref 197, .int (x1 / (iI 5)), .int (irm x1 (iI 5)), .int x2] M) fun r2 M1 => if irm x1 (iI 5) = iI 4 then bI (c2 d m_Mo_standOf [.int r2, .int (irm x1 (iI 5))] M1) fun r4 M3 => some (.int r4, M3) else bI (c2 d m_Mo_goesBy [.ref 197, .int (irm x1 (iI 5)), .int r2, .int x2] M1) fun r6 M5 => if r6 = 0 then bI (c2 d m_Mo_standOf [.int r2, .int (irm x1 (iI 5))] M5) fun r8 M7 => some (.int r8, M7) else bI (c2 d m_Mo_standOf [.int r2, .int (iI 4)] M5) fun r10 M9 => some (.int r10, M9) :=
  (sx_eq O2 d m_Mo_standThen [] 27 _ _ _ _).trans rfl
set_option maxRecDepth 100000 in
set_option maxHeartbeats 4000000 in
theorem e_Mo_see_0 (d : Nat) (x1 : Int32) (M : Mem) : X2 d m_Mo_see 0 [.ref 197, .int x1] [] M = if x1 < gI M 197 8 then gb (inb x1 900) (some (.int (gI M 200 (ix x1)), M)) else some (.int (iI (-1)), M) :=
  (sx_eq O2 d m_Mo_see [] 11 _ _ _ _).trans rfl
set_option maxRecDepth 100000 in
set_option maxHeartbeats 4000000 in
theorem e_Mo_isSmall_0 (d : Nat) (x0 : Int32) (M : Mem) : X2 d m_Mo_isSmall 0 [.int x0] [] M = if x0 < iI 97 then some (.int (iI 0), M) else if iI 122 < x0 then some (.int (iI 0), M) else some (.int (iI 1), M) :=
  (sx_eq O2 d m_Mo_isSmall [] 10 _ _ _ _).trans rfl
set_option maxRecDepth 100000 in
set_option maxHeartbeats 4000000 in
theorem e_Mo_keyAt_0 (d : Nat)  (M : Mem) : X2 d m_Mo_keyAt 0 [.ref 197, uns, uns, uns] [] M = X2 d m_Mo_keyAt 4 [.ref 197, .int (iI 0), .int (iI 1), uns] [] M :=
  (sx_eq O2 d m_Mo_keyAt [4, 15, 97] 5 _ _ _ _).trans rfl
set_option maxRecDepth 100000 in
set_option maxHeartbeats 4000000 in
theorem e_Mo_keyAt_4 (d : Nat) (x1 : Int32) (x2 : Int32) (v3 : Value) (M : Mem) : X2 d m_Mo_keyAt 4 [.ref 197, .int x1, .int x2, v3] [] M = bI (c2 d m_Str_length [.ref 50] M) fun r2 M1 => if x2 < r2 then X2 d m_Mo_keyAt 15 [.ref 197, .int x1, .int x2, .int (iI 0)] [] M1 else some (.int (iI 22), M1) :=
  (sx_eq O2 d m_Mo_keyAt [4, 15, 97] 7 _ _ _ _).trans rfl
set_option maxRecDepth 100000 in
set_option maxHeartbeats 4000000 in
theorem e_Mo_keyAt_15 (d : Nat) (x1 : Int32) (x2 : Int32) (x3 : Int32) (M : Mem) : X2 d m_Mo_keyAt 15 [.ref 197, .int x1, .int x2, .int x3] [] M = bI (c2 d m_Str_charAt [.ref 50, .int (x2 + x3)] M) fun r2 M1 => if r2 = iI 32 then bI (c2 d m_Str_charAt [.ref 50, .int (x2 + x3)] M1) fun r4 M3 => if r4 = iI 32 then if (gI M3 197 6) + x3 = gI M3 197 7 then some (.int x1, M3) else X2 d m_Mo_keyAt 97 [.ref 197, .int x1, .int x2, .int x3] [] M3 else X2 d m_Mo_keyAt 97 [.ref 197, .int x1, .int x2, .int x3] [] M3 else if (gI M1 197 6) + x3 < gI M1 197 7 then gb (inb ((gI M1 197 6) + x3) 900) (bI (c2 d m_Str_charAt [.ref 50, .int (x2 + x3)] M1) fun r8 M7 => if gI M1 200 (ix ((gI M1 197 6) + x3)) = r8 then X2 d m_Mo_keyAt 15 [.ref 197, .int x1, .int x2, .int (x3 + iI 1)] [] M7 else bI (c2 d m_Str_charAt [.ref 50, .int (x2 + x3)] M7) fun r10 M9 => if r10 = iI 32 then if (gI M9 197 6) + x3 = gI M9 197 7 then some (.int x1, M9) else X2 d m_Mo_keyAt 97 [.ref 197, .int x1, .int x2, .int x3] [] M9 else X2 d m_Mo_keyAt 97 [.ref 197, .int x1, .int x2, .int x3] [] M9) else bI (c2 d m_Str_charAt [.ref 50, .int (x2 + x3)] M1) fun r6 M5 => if r6 = iI 32 then if (gI M5 197 6) + x3 = gI M5 197 7 then some (.int x1, M5) else X2 d m_Mo_keyAt 97 [.ref 197, .int x1, .int x2, .int x3] [] M5 else X2 d m_Mo_keyAt 97 [.ref 197, .int x1, .int x2, .int x3] [] M5 :=
  (sx_eq O2 d m_Mo_keyAt [4, 15, 97] 44 _ _ _ _).trans rfl
set_option maxRecDepth 100000 in
set_option maxHeartbeats 4000000 in
theorem e_Mo_keyAt_97 (d : Nat) (x1 : Int32) (x2 : Int32) (v3 : Value) (M : Mem) : X2 d m_Mo_keyAt 97 [.ref 197, .int x1, .int x2, v3] [] M = bI (c2 d m_Str_charAt [.ref 50, .int x2] M) fun r2 M1 => if r2 = iI 32 then X2 d m_Mo_keyAt 4 [.ref 197, .int (x1 + iI 1), .int (x2 + iI 1), v3] [] M1 else X2 d m_Mo_keyAt 97 [.ref 197, .int x1, .int (x2 + iI 1), v3] [] M1 :=
  (sx_eq O2 d m_Mo_keyAt [4, 15, 97] 9 _ _ _ _).trans rfl
set_option maxRecDepth 100000 in
set_option maxHeartbeats 4000000 in
theorem e_Mo_isDigit_0 (d : Nat) (x0 : Int32) (M : Mem) : X2 d m_Mo_isDigit 0 [.int x0] [] M = if x0 < iI 48 then some (.int (iI 0), M) else if iI 57 < x0 then some (.int (iI 0), M) else some (.int (iI 1), M) :=
  (sx_eq O2 d m_Mo_isDigit [] 10 _ _ _ _).trans rfl
set_option maxRecDepth 100000 in
set_option maxHeartbeats 4000000 in
theorem e_Mo_is_0 (d : Nat) (x1 : Int32) (M : Mem) : X2 d m_Mo_is 0 [.ref 197, .int x1] [] M = if gI M 197 11 = 0 then if gI M 197 9 = x1 then some (.int (iI 1), M) else some (.int (iI 0), M) else some (.int (iI 0), M) :=
  (sx_eq O2 d m_Mo_is [] 11 _ _ _ _).trans rfl
set_option maxRecDepth 100000 in
set_option maxHeartbeats 4000000 in
theorem e_Mo_readRow_0 (d : Nat)  (M : Mem) : X2 d m_Mo_readRow 0 [.ref 197, uns, uns] [] M = bV (c2 d m_Mo_next [.ref 197] M) fun M1 => bI (c2 d m_Mo_takes [.ref 197, .int (iI 0), .int ((gI M1 201 1) - (iI 1))] M1) fun r3 M2 => X2 d m_Mo_readRow 20 [.ref 197, .int r3, .int (iI 0)] [] M2 :=
  (sx_eq O2 d m_Mo_readRow [20] 15 _ _ _ _).trans rfl
set_option maxRecDepth 100000 in
set_option maxHeartbeats 4000000 in
theorem e_Mo_readRow_20 (d : Nat) (x1 : Int32) (x2 : Int32) (M : Mem) : X2 d m_Mo_readRow 20 [.ref 197, .int x1, .int x2] [] M = if x2 < gI M 201 2 then if gI M 197 11 = 0 then bI (c2 d m_Mo_takes [.ref 197, .int (iI 0), .int (iI 9)] M) fun r2 M1 => gb (inb (((iI 12) + ((gI M 201 2) * x1)) + x2) 971) (X2 d m_Mo_readRow 20 [.ref 197, .int x1, .int (x2 + iI 1)] [] (wI M1 201 (ix (((iI 12) + ((gI M 201 2) * x1)) + x2)) r2)) else some (.null, M) else some (.null, M) :=
  (sx_eq O2 d m_Mo_readRow [20] 29 _ _ _ _).trans rfl
set_option maxRecDepth 100000 in
set_option maxHeartbeats 4000000 in
theorem e_Mo_readTenant_0 (d : Nat)  (M : Mem) : X2 d m_Mo_readTenant 0 [.ref 197, uns] [] M = if gI M 201 3 = iI 4 then bV (c2 d m_Mo_fails [.ref 197, .int (iI 4)] M) fun M2 => if gI M2 197 11 = 0 then bV (c2 d m_Mo_next [.ref 197] M2) fun M3 => gb (inb ((iI 21) + (gI M 201 3)) 971) (X2 d m_Mo_readTenant 40 [.ref 197, .int (gI M 201 3)] [] (wI M3 201 (ix ((iI 21) + (gI M 201 3))) (iI 9))) else some (.null, M2) else if gI M 197 11 = 0 then bV (c2 d m_Mo_next [.ref 197] M) fun M1 => gb (inb ((iI 21) + (gI M 201 3)) 971) (X2 d m_Mo_readTenant 40 [.ref 197, .int (gI M 201 3)] [] (wI M1 201 (ix ((iI 21) + (gI M 201 3))) (iI 9))) else some (.null, M) :=
  (sx_eq O2 d m_Mo_readTenant [40] 24 _ _ _ _).trans rfl
set_option maxRecDepth 100000 in
set_option maxHeartbeats 4000000 in
theorem e_Mo_readTenant_40 (d : Nat) (x1 : Int32) (M : Mem) : X2 d m_Mo_readTenant 40 [.ref 197, .int x1] [] M = if gI M 197 11 = 0 then bI (c2 d m_Mo_eats [.ref 197, .int (iI 3)] M) fun r2 M1 => if r2 = 0 then if gI M1 197 11 = 0 then some (.null, wI M1 201 3 ((gI M1 201 3) + (iI 1))) else some (.null, M1) else bI (c2 d m_Mo_takes [.ref 197, .int (iI 0), .int (iI 9)] M1) fun r4 M3 => gb (inb ((iI 21) + x1) 971) (X2 d m_Mo_readTenant 40 [.ref 197, .int x1] [] (wI M3 201 (ix ((iI 21) + x1)) r4)) else if gI M 197 11 = 0 then some (.null, wI M 201 3 ((gI M 201 3) + (iI 1))) else some (.null, M) :=
  (sx_eq O2 d m_Mo_readTenant [40] 20 _ _ _ _).trans rfl
set_option maxRecDepth 100000 in
set_option maxHeartbeats 4000000 in
theorem e_Mo_readRose_0 (d : Nat)  (M : Mem) : X2 d m_Mo_readRose 0 [.ref 197] [] M = bI (c2 d m_Mo_takes [.ref 197, .int (iI 0), .int (((gI M 201 1) * (gI M 201 2)) - (iI 1))] M) fun r2 M1 => some (.int ((iI 1) <<< (r2 &&& 31)), M1) :=
  (sx_eq O2 d m_Mo_readRose [] 18 _ _ _ _).trans rfl
set_option maxRecDepth 100000 in
set_option maxHeartbeats 4000000 in
theorem e_Mo_readFace_0 (d : Nat)  (M : Mem) : X2 d m_Mo_readFace 0 [.ref 197, uns] [] M = bV (c2 d m_Mo_next [.ref 197] M) fun M1 => bI (c2 d m_Mo_readRose [.ref 197] M1) fun r3 M2 => X2 d m_Mo_readFace 9 [.ref 197, .int r3] [] M2 :=
  (sx_eq O2 d m_Mo_readFace [9] 6 _ _ _ _).trans rfl
set_option maxRecDepth 100000 in
set_option maxHeartbeats 4000000 in
theorem e_Mo_readFace_9 (d : Nat) (x1 : Int32) (M : Mem) : X2 d m_Mo_readFace 9 [.ref 197, .int x1] [] M = if gI M 197 11 = 0 then bI (c2 d m_Mo_is [.ref 197, .int (iI 23)] M) fun r2 M1 => if r2 = 0 then if gI M1 197 11 = 0 then some (.null, wI M1 201 4 x1) else some (.null, M1) else bI (c2 d m_Mo_readRose [.ref 197] M1) fun r4 M3 => X2 d m_Mo_readFace 9 [.ref 197, .int (x1 ||| r4)] [] M3 else if gI M 197 11 = 0 then some (.null, wI M 201 4 x1) else some (.null, M) :=
  (sx_eq O2 d m_Mo_readFace [9] 17 _ _ _ _).trans rfl
set_option maxRecDepth 100000 in
set_option maxHeartbeats 4000000 in
theorem e_Mo_readLaw_0 (d : Nat) (x1 : Int32) (M : Mem) : X2 d m_Mo_readLaw 0 [.ref 197, .int x1, uns] [] M = bV (c2 d m_Mo_next [.ref 197] M) fun M1 => bI (c2 d m_Mo_eats [.ref 197, .int (iI 31)] M1) fun r3 M2 => if r3 = 0 then bV (c2 d m_Mo_fails [.ref 197, .int (iI 2)] M2) fun M4 => X2 d m_Mo_readLaw 18 [.ref 197, .int x1, uns] [] M4 else X2 d m_Mo_readLaw 18 [.ref 197, .int x1, uns] [] M2 :=
  (sx_eq O2 d m_Mo_readLaw [18] 10 _ _ _ _).trans rfl
set_option maxRecDepth 100000 in
set_option maxHeartbeats 4000000 in
theorem e_Mo_readLaw_18 (d : Nat) (x1 : Int32) (v2 : Value) (M : Mem) : X2 d m_Mo_readLaw 18 [.ref 197, .int x1, v2] [] M = bV (c2 d m_Mo_readTruth [.ref 197, .int (iI 0)] (wI M 197 15 x1)) fun M1 => if gI M1 197 11 = 0 then gb (inb ((iI 6) + x1) 971) (gb (inb ((iI 8) + x1) 971) (gb (inb ((iI 10) + x1) 971) (some (.null, wI (wI (wI M1 201 (ix ((iI 6) + x1)) (iI 1)) 201 (ix ((iI 8) + x1)) (gI M 201 70)) 201 (ix ((iI 10) + x1)) ((gI (wI (wI M1 201 (ix ((iI 6) + x1)) (iI 1)) 201 (ix ((iI 8) + x1)) (gI M 201 70)) 201 70) - (gI M 201 70)))))) else some (.null, M1) :=
  (sx_eq O2 d m_Mo_readLaw [18] 42 _ _ _ _).trans rfl
set_option maxRecDepth 100000 in
set_option maxHeartbeats 4000000 in
theorem e_Mo_isIn_0 (d : Nat) (x0 : Int64) (x2 : Int32) (M : Mem) : X2 d m_Mo_isIn 0 [.long x0, mk2, .int x2] [] M = if lg_cmp ((x0 >>> ((x2).toInt64 &&& 63)) &&& (lI 1)) (lI 1) = 0 then some (.int (iI 1), M) else some (.int (iI 0), M) :=
  (sx_eq O2 d m_Mo_isIn [] 12 _ _ _ _).trans rfl
set_option maxRecDepth 100000 in
set_option maxHeartbeats 4000000 in
theorem e_Mo_reckons_0 (d : Nat) (x1 : Int32) (M : Mem) : X2 d m_Mo_reckons 0 [.ref 197, .int x1, uns, uns, uns] [] M = X2 d m_Mo_reckons 4 [.ref 197, .int x1, .int (iI 0), .int (iI 0), uns] [] M :=
  (sx_eq O2 d m_Mo_reckons [4, 114] 5 _ _ _ _).trans rfl
set_option maxRecDepth 100000 in
set_option maxHeartbeats 4000000 in
theorem e_Mo_reckons_4 (d : Nat) (x1 : Int32) (x2 : Int32) (x3 : Int32) (v4 : Value) (M : Mem) : X2 d m_Mo_reckons 4 [.ref 197, .int x1, .int x2, .int x3, v4] [] M = gb (inb ((iI 10) + x1) 2913) (if x3 < gI M 198 (ix ((iI 10) + x1)) then gb (inb ((iI 8) + x1) 2913) (gb (inb (((iI 71) + (gI M 198 (ix ((iI 8) + x1)))) + x3) 2913) (if gI M 198 (ix (((iI 71) + (gI M 198 (ix ((iI 8) + x1)))) + x3)) < iI 3000 then if gI M 198 (ix (((iI 71) + (gI M 198 (ix ((iI 8) + x1)))) + x3)) < iI 1000 then gb (inb x2 900) (X2 d m_Mo_reckons 4 [.ref 197, .int x1, .int (x2 + iI 1), .int (x3 + iI 1), .int (gI M 198 (ix (((iI 71) + (gI M 198 (ix ((iI 8) + x1)))) + x3)))] [] (wI M 202 (ix x2) (gI M 198 (ix (((iI 71) + (gI M 198 (ix ((iI 8) + x1)))) + x3))))) else gb (inb ((gI M 198 (ix (((iI 71) + (gI M 198 (ix ((iI 8) + x1)))) + x3))) - (iI 1000)) 10) (gb (inb x2 900) (X2 d m_Mo_reckons 4 [.ref 197, .int x1, .int (x2 + iI 1), .int (x3 + iI 1), .int (gI M 198 (ix (((iI 71) + (gI M 198 (ix ((iI 8) + x1)))) + x3)))] [] (wI M 202 (ix x2) (gI M 203 (ix ((gI M 198 (ix (((iI 71) + (gI M 198 (ix ((iI 8) + x1)))) + x3))) - (iI 1000))))))) else if gI M 198 (ix (((iI 71) + (gI M 198 (ix ((iI 8) + x1)))) + x3)) = iI 3006 then gb (inb (x2 - (iI 1)) 900) (gb (inb (x2 - (iI 1)) 900) (X2 d m_Mo_reckons 4 [.ref 197, .int x1, .int x2, .int (x3 + iI 1), .int (gI M 198 (ix (((iI 71) + (gI M 198 (ix ((iI 8) + x1)))) + x3)))] [] (wI M 202 (ix (x2 - (iI 1))) ((iI 1) - (gI M 202 (ix (x2 - (iI 1)))))))) else X2 d m_Mo_reckons 114 [.ref 197, .int x1, .int (x2 + iI (-1)), .int x3, .int (gI M 198 (ix (((iI 71) + (gI M 198 (ix ((iI 8) + x1)))) + x3)))] [] M)) else if gI M 202 0 = iI 1 then some (.int (iI 1), M) else some (.int (iI 0), M)) :=
  (sx_eq O2 d m_Mo_reckons [4, 114] 46 _ _ _ _).trans rfl
set_option maxRecDepth 100000 in
set_option maxHeartbeats 4000000 in
theorem e_Mo_reckons_114 (d : Nat) (x1 : Int32) (x2 : Int32) (x3 : Int32) (x4 : Int32) (M : Mem) : X2 d m_Mo_reckons 114 [.ref 197, .int x1, .int x2, .int x3, .int x4] [] M = gb (inb (x2 - (iI 1)) 900) (gb (inb x2 900) (bI (c2 d m_Mo_between [.int x4, .int (gI M 202 (ix (x2 - (iI 1)))), .int (gI M 202 (ix x2))] M) fun r2 M1 => gb (inb (x2 - (iI 1)) 900) (X2 d m_Mo_reckons 4 [.ref 197, .int x1, .int x2, .int (x3 + iI 1), .int x4] [] (wI M1 202 (ix (x2 - (iI 1))) r2)))) :=
  (sx_eq O2 d m_Mo_reckons [4, 114] 21 _ _ _ _).trans rfl
set_option maxRecDepth 100000 in
set_option maxHeartbeats 4000000 in
theorem e_Mo_draw_0 (d : Nat) (x1 : Int32) (M : Mem) : X2 d m_Mo_draw 0 [.ref 197, .int x1] [] M = gb (!(decide (x1 = 0))) (some (.int (irm (((((iI 1103515245) * (gI M 197 20)) + (iI 12345)).toUInt32 >>> ((iI 16).toUInt32 &&& Int32.toUInt32 31)).toInt32) x1), wI M 197 20 (((iI 1103515245) * (gI M 197 20)) + (iI 12345)))) :=
  (sx_eq O2 d m_Mo_draw [] 16 _ _ _ _).trans rfl
set_option maxRecDepth 100000 in
set_option maxHeartbeats 4000000 in
theorem e_Mo_isGone_0 (d : Nat) (x0 : Int32) (M : Mem) : X2 d m_Mo_isGone 0 [.int x0] [] M = if irm x0 (iI 5) = iI 4 then some (.int (iI 1), M) else some (.int (iI 0), M) :=
  (sx_eq O2 d m_Mo_isGone [] 9 _ _ _ _).trans rfl
set_option maxRecDepth 100000 in
set_option maxHeartbeats 4000000 in
theorem e_Mo_isSought_0 (d : Nat) (x1 : Int32) (M : Mem) : X2 d m_Mo_isSought 0 [.ref 197, .int x1] [] M = if gI M 197 28 = iI (-1) then bI (c2 d m_Mo_isGone [.int x1] M) fun r2 M1 => gb (decide (r2 &&& 1 = r2)) (some (.int r2, M1)) else if x1 / (iI 5) = gI M 197 28 then some (.int (iI 1), M) else some (.int (iI 0), M) :=
  (sx_eq O2 d m_Mo_isSought [] 14 _ _ _ _).trans rfl
set_option maxRecDepth 100000 in
set_option maxHeartbeats 4000000 in
theorem e_Mo_leastBy_0 (d : Nat) (x1 : Int32) (M : Mem) : X2 d m_Mo_leastBy 0 [.ref 197, .int x1, uns, uns, uns] [] M = gb (inb ((iI 2) * x1) 5120) (gb (inb (gI M 207 (ix ((iI 2) * x1))) 2560) (gb (inb (((iI 2) * x1) + (iI 1)) 5120) (gb (inb (gI M 207 (ix (((iI 2) * x1) + (iI 1)))) 2560) (if gI M 208 (ix (gI M 207 (ix ((iI 2) * x1)))) < gI M 208 (ix (gI M 207 (ix (((iI 2) * x1) + (iI 1))))) then if gI M 208 (ix (gI M 207 (ix ((iI 2) * x1)))) = iI 268435456 then some (.int (iI 268435456), M) else some (.int ((gI M 208 (ix (gI M 207 (ix ((iI 2) * x1))))) + (iI 1)), M) else if gI M 208 (ix (gI M 207 (ix (((iI 2) * x1) + (iI 1))))) = iI 268435456 then some (.int (iI 268435456), M) else some (.int ((gI M 208 (ix (gI M 207 (ix (((iI 2) * x1) + (iI 1)))))) + (iI 1)), M))))) :=
  (sx_eq O2 d m_Mo_leastBy [] 36 _ _ _ _).trans rfl
set_option maxRecDepth 100000 in
set_option maxHeartbeats 4000000 in
theorem e_Mo_herBy_0 (d : Nat) (x1 : Int32) (M : Mem) : X2 d m_Mo_herBy 0 [.ref 197, .int x1, uns, uns, uns] [] M = gb (inb ((iI 2) * x1) 5120) (gb (inb (gI M 207 (ix ((iI 2) * x1))) 2560) (gb (inb (((iI 2) * x1) + (iI 1)) 5120) (gb (inb (gI M 207 (ix (((iI 2) * x1) + (iI 1)))) 2560) (if gI M 209 (ix (gI M 207 (ix ((iI 2) * x1)))) < gI M 209 (ix (gI M 207 (ix (((iI 2) * x1) + (iI 1))))) then if gI M 209 (ix (gI M 207 (ix ((iI 2) * x1)))) = iI 268435456 then some (.int (iI 268435456), M) else some (.int ((gI M 209 (ix (gI M 207 (ix ((iI 2) * x1))))) + (iI 1)), M) else if gI M 209 (ix (gI M 207 (ix (((iI 2) * x1) + (iI 1))))) = iI 268435456 then some (.int (iI 268435456), M) else some (.int ((gI M 209 (ix (gI M 207 (ix (((iI 2) * x1) + (iI 1)))))) + (iI 1)), M))))) :=
  (sx_eq O2 d m_Mo_herBy [] 36 _ _ _ _).trans rfl
set_option maxRecDepth 100000 in
set_option maxHeartbeats 4000000 in
theorem e_Mo_mostBy_0 (d : Nat) (x1 : Int32) (M : Mem) : X2 d m_Mo_mostBy 0 [.ref 197, .int x1, uns, uns, uns] [] M = gb (inb ((iI 2) * x1) 5120) (gb (inb (gI M 207 (ix ((iI 2) * x1))) 2560) (gb (inb (((iI 2) * x1) + (iI 1)) 5120) (gb (inb (gI M 207 (ix (((iI 2) * x1) + (iI 1)))) 2560) (if gI M 208 (ix (gI M 207 (ix (((iI 2) * x1) + (iI 1))))) < gI M 208 (ix (gI M 207 (ix ((iI 2) * x1)))) then if gI M 208 (ix (gI M 207 (ix ((iI 2) * x1)))) = iI 268435456 then some (.int (iI 268435456), M) else some (.int ((gI M 208 (ix (gI M 207 (ix ((iI 2) * x1))))) + (iI 1)), M) else if gI M 208 (ix (gI M 207 (ix (((iI 2) * x1) + (iI 1))))) = iI 268435456 then some (.int (iI 268435456), M) else some (.int ((gI M 208 (ix (gI M 207 (ix (((iI 2) * x1) + (iI 1)))))) + (iI 1)), M))))) :=
  (sx_eq O2 d m_Mo_mostBy [] 36 _ _ _ _).trans rfl
set_option maxRecDepth 100000 in
set_option maxHeartbeats 4000000 in
theorem e_Mo_isSeen_0 (d : Nat) (x1 : Int32) (x2 : Int32) (x3 : Int32) (M : Mem) : X2 d m_Mo_isSeen 0 [.ref 197, .int x1, .int x2, .int x3] [] M = gb (inb (((iI 40) * x1) + x2) 160) (if lg_cmp (gL M 215 (ix (((iI 40) * x1) + x2))) (lI (-1)) = 0 then some (.int (iI 1), M) else gb (inb (((iI 40) * x1) + x2) 160) (if lg_cmp (gL M 215 (ix (((iI 40) * x1) + x2))) ((x3).toInt64) = 0 then some (.int (iI 1), M) else some (.int (iI 0), M))) :=
  (sx_eq O2 d m_Mo_isSeen [] 27 _ _ _ _).trans rfl
set_option maxRecDepth 100000 in
set_option maxHeartbeats 4000000 in
theorem e_Mo_readTruth_0 (d : Nat) (x1 : Int32) (M : Mem) : X2 d m_Mo_readTruth 0 [.ref 197, .int x1] [] M = bV (c2 d m_Mo_readBoth [.ref 197, .int x1] M) fun M1 => X2 d m_Mo_readTruth 5 [.ref 197, .int x1] [] M1 :=
  (sx_eq O2 d m_Mo_readTruth [5] 4 _ _ _ _).trans rfl
set_option maxRecDepth 100000 in
set_option maxHeartbeats 4000000 in
theorem e_Mo_readTruth_5 (d : Nat) (x1 : Int32) (M : Mem) : X2 d m_Mo_readTruth 5 [.ref 197, .int x1] [] M = bI (c2 d m_Mo_eats [.ref 197, .int (iI 17)] M) fun r2 M1 => if r2 = 0 then some (.null, M1) else bV (c2 d m_Mo_readBoth [.ref 197, .int x1] M1) fun M3 => bV (c2 d m_Mo_codes [.ref 197, .int (iI 3008)] M3) fun M4 => X2 d m_Mo_readTruth 5 [.ref 197, .int x1] [] M4 :=
  (sx_eq O2 d m_Mo_readTruth [5] 12 _ _ _ _).trans rfl
set_option maxRecDepth 100000 in
set_option maxHeartbeats 4000000 in
theorem e_Mo_between_0 (d : Nat) (x0 : Int32) (x1 : Int32) (x2 : Int32) (M : Mem) : X2 d m_Mo_between 0 [.int x0, .int x1, .int x2, uns, uns] [] M = if x0 = iI 3003 then if x1 = x2 then some (.int (iI 1), M) else some (.int (iI 0), M) else if x0 = iI 3004 then if x1 < x2 then some (.int (iI 1), M) else some (.int (iI 0), M) else if x0 = iI 3005 then if x2 < x1 then some (.int (iI 1), M) else some (.int (iI 0), M) else if x0 = iI 3006 then if x0 = iI 3000 then if 0 < lg_cmp (((x1).toInt64) + ((x2).toInt64)) (lI 1000000) then some (.int ((lI 1000000).toInt32), M) else if lg_cmp (((x1).toInt64) + ((x2).toInt64)) (lI (-1000000)) < 0 then some (.int ((lI (-1000000)).toInt32), M) else some (.int ((((x1).toInt64) + ((x2).toInt64)).toInt32), M) else if x0 = iI 3001 then if 0 < lg_cmp (((x1).toInt64) - ((x2).toInt64)) (lI 1000000) then some (.int ((lI 1000000).toInt32), M) else if lg_cmp (((x1).toInt64) - ((x2).toInt64)) (lI (-1000000)) < 0 then some (.int ((lI (-1000000)).toInt32), M) else some (.int ((((x1).toInt64) - ((x2).toInt64)).toInt32), M) else if 0 < lg_cmp (((x1).toInt64) * ((x2).toInt64)) (lI 1000000) then some (.int ((lI 1000000).toInt32), M) else if lg_cmp (((x1).toInt64) * ((x2).toInt64)) (lI (-1000000)) < 0 then some (.int ((lI (-1000000)).toInt32), M) else some (.int ((((x1).toInt64) * ((x2).toInt64)).toInt32), M) else if x0 = iI 3007 then some (.int (x1 &&& x2), M) else if x0 = iI 3008 then some (.int (x1 ||| x2), M) else if x0 = iI 3000 then if 0 < lg_cmp (((x1).toInt64) + ((x2).toInt64)) (lI 1000000) then some (.int ((lI 1000000).toInt32), M) else if lg_cmp (((x1).toInt64) + ((x2).toInt64)) (lI (-1000000)) < 0 then some (.int ((lI (-1000000)).toInt32), M) else some (.int ((((x1).toInt64) + ((x2).toInt64)).toInt32), M) else if x0 = iI 3001 then if 0 < lg_cmp (((x1).toInt64) - ((x2).toInt64)) (lI 1000000) then some (.int ((lI 1000000).toInt32), M) else if lg_cmp (((x1).toInt64) - ((x2).toInt64)) (lI (-1000000)) < 0 then some (.int ((lI (-1000000)).toInt32), M) else some (.int ((((x1).toInt64) - ((x2).toInt64)).toInt32), M) else if 0 < lg_cmp (((x1).toInt64) * ((x2).toInt64)) (lI 1000000) then some (.int ((lI 1000000).toInt32), M) else if lg_cmp (((x1).toInt64) * ((x2).toInt64)) (lI (-1000000)) < 0 then some (.int ((lI (-1000000)).toInt32), M) else some (.int ((((x1).toInt64) * ((x2).toInt64)).toInt32), M) :=
  (sx_eq O2 d m_Mo_between [] 28 _ _ _ _).trans rfl
set_option maxRecDepth 100000 in
set_option maxHeartbeats 4000000 in
theorem e_Mo_readBoth_0 (d : Nat) (x1 : Int32) (M : Mem) : X2 d m_Mo_readBoth 0 [.ref 197, .int x1] [] M = bV (c2 d m_Mo_readUnit [.ref 197, .int x1] M) fun M1 => X2 d m_Mo_readBoth 5 [.ref 197, .int x1] [] M1 :=
  (sx_eq O2 d m_Mo_readBoth [5] 4 _ _ _ _).trans rfl
set_option maxRecDepth 100000 in
set_option maxHeartbeats 4000000 in
theorem e_Mo_readBoth_5 (d : Nat) (x1 : Int32) (M : Mem) : X2 d m_Mo_readBoth 5 [.ref 197, .int x1] [] M = bI (c2 d m_Mo_eats [.ref 197, .int (iI 16)] M) fun r2 M1 => if r2 = 0 then some (.null, M1) else bV (c2 d m_Mo_readUnit [.ref 197, .int x1] M1) fun M3 => bV (c2 d m_Mo_codes [.ref 197, .int (iI 3007)] M3) fun M4 => X2 d m_Mo_readBoth 5 [.ref 197, .int x1] [] M4 :=
  (sx_eq O2 d m_Mo_readBoth [5] 12 _ _ _ _).trans rfl
set_option maxRecDepth 100000 in
set_option maxHeartbeats 4000000 in
theorem e_Mo_codes_0 (d : Nat) (x1 : Int32) (M : Mem) : X2 d m_Mo_codes 0 [.ref 197, .int x1] [] M = if gI M 197 11 = 0 then gb (inb ((iI 71) + (gI M 201 70)) 971) (some (.null, wI (wI M 201 (ix ((iI 71) + (gI M 201 70))) x1) 201 70 ((gI (wI M 201 (ix ((iI 71) + (gI M 201 70))) x1) 201 70) + (iI 1)))) else some (.null, M) :=
  (sx_eq O2 d m_Mo_codes [] 23 _ _ _ _).trans rfl
set_option maxRecDepth 100000 in
set_option maxHeartbeats 4000000 in
theorem e_Mo_readUnit_0 (d : Nat) (x1 : Int32) (M : Mem) : X2 d m_Mo_readUnit 0 [.ref 197, .int x1, uns] [] M = bI (c2 d m_Mo_is [.ref 197, .int (iI 18)] M) fun r2 M1 => if r2 = 0 then bI (c2 d m_Mo_is [.ref 197, .int (iI 37)] M1) fun r4 M3 => if r4 = 0 then bV (c2 d m_Mo_readSum [.ref 197, .int x1] M3) fun M5 => bI (c2 d m_Mo_is [.ref 197, .int (iI 39)] M5) fun r7 M6 => if r7 = 0 then bI (c2 d m_Mo_is [.ref 197, .int (iI 40)] M6) fun r9 M8 => if r9 = 0 then X2 d m_Mo_readUnit 111 [.ref 197, .int x1, uns] [.int (iI 3005)] M8 else X2 d m_Mo_readUnit 111 [.ref 197, .int x1, uns] [.int (iI 3004)] M8 else X2 d m_Mo_readUnit 111 [.ref 197, .int x1, uns] [.int (iI 3003)] M6 else bI (c2 d m_Mo_goesIn [.ref 197, .int x1] M3) fun r11 M10 => if r11 = 0 then some (.null, M10) else bV (c2 d m_Mo_readTruth [.ref 197, .int (x1 + (iI 1))] M10) fun M12 => bI (c2 d m_Mo_eats [.ref 197, .int (iI 38)] M12) fun r14 M13 => if r14 = 0 then bV (c2 d m_Mo_fails [.ref 197, .int (iI 2)] M13) fun M15 => some (.null, M15) else some (.null, M13) else bI (c2 d m_Mo_goesIn [.ref 197, .int x1] M1) fun r17 M16 => if r17 = 0 then some (.null, M16) else bV (c2 d m_Mo_readUnit [.ref 197, .int (x1 + (iI 1))] M16) fun M18 => bV (c2 d m_Mo_codes [.ref 197, .int (iI 3006)] M18) fun M19 => some (.null, M19) :=
  (sx_eq O2 d m_Mo_readUnit [111] 26 _ _ _ _).trans rfl
set_option maxRecDepth 100000 in
set_option maxHeartbeats 4000000 in
theorem e_Mo_readUnit_111 (d : Nat) (x1 : Int32) (v2 : Value) (y0 : Int32) (M : Mem) : X2 d m_Mo_readUnit 111 [.ref 197, .int x1, v2] [.int y0] M = bI (c2 d m_Mo_is [.ref 197, .int (iI 39)] M) fun r2 M1 => if r2 = 0 then bI (c2 d m_Mo_is [.ref 197, .int (iI 40)] M1) fun r7 M6 => if r7 = 0 then bI (c2 d m_Mo_is [.ref 197, .int (iI 41)] M6) fun r12 M11 => if r12 = 0 then bV (c2 d m_Mo_fails [.ref 197, .int (iI 2)] M11) fun M13 => bV (c2 d m_Mo_readSum [.ref 197, .int x1] M13) fun M14 => bV (c2 d m_Mo_codes [.ref 197, .int y0] M14) fun M15 => some (.null, M15) else bV (c2 d m_Mo_next [.ref 197] M11) fun M16 => bV (c2 d m_Mo_readSum [.ref 197, .int x1] M16) fun M17 => bV (c2 d m_Mo_codes [.ref 197, .int y0] M17) fun M18 => some (.null, M18) else bV (c2 d m_Mo_next [.ref 197] M6) fun M8 => bV (c2 d m_Mo_readSum [.ref 197, .int x1] M8) fun M9 => bV (c2 d m_Mo_codes [.ref 197, .int y0] M9) fun M10 => some (.null, M10) else bV (c2 d m_Mo_next [.ref 197] M1) fun M3 => bV (c2 d m_Mo_readSum [.ref 197, .int x1] M3) fun M4 => bV (c2 d m_Mo_codes [.ref 197, .int y0] M4) fun M5 => some (.null, M5) :=
  (sx_eq O2 d m_Mo_readUnit [111] 24 _ _ _ _).trans rfl
set_option maxRecDepth 100000 in
set_option maxHeartbeats 4000000 in
theorem e_Mo_goesIn_0 (d : Nat) (x1 : Int32) (M : Mem) : X2 d m_Mo_goesIn 0 [.ref 197, .int x1] [] M = if x1 = iI 6 then bV (c2 d m_Mo_fails [.ref 197, .int (iI 4)] M) fun M2 => if gI M2 197 11 = 0 then bV (c2 d m_Mo_next [.ref 197] M2) fun M3 => if gI M3 197 11 = 0 then some (.int (iI 1), M3) else some (.int (iI 0), M3) else if gI M2 197 11 = 0 then some (.int (iI 1), M2) else some (.int (iI 0), M2) else if gI M 197 11 = 0 then bV (c2 d m_Mo_next [.ref 197] M) fun M1 => if gI M1 197 11 = 0 then some (.int (iI 1), M1) else some (.int (iI 0), M1) else if gI M 197 11 = 0 then some (.int (iI 1), M) else some (.int (iI 0), M) :=
  (sx_eq O2 d m_Mo_goesIn [] 18 _ _ _ _).trans rfl
set_option maxRecDepth 100000 in
set_option maxHeartbeats 4000000 in
theorem e_Mo_readSum_0 (d : Nat) (x1 : Int32) (M : Mem) : X2 d m_Mo_readSum 0 [.ref 197, .int x1, uns] [] M = bV (c2 d m_Mo_readTerm [.ref 197, .int x1] M) fun M1 => X2 d m_Mo_readSum 5 [.ref 197, .int x1, uns] [] M1 :=
  (sx_eq O2 d m_Mo_readSum [5, 23] 4 _ _ _ _).trans rfl
set_option maxRecDepth 100000 in
set_option maxHeartbeats 4000000 in
theorem e_Mo_readSum_5 (d : Nat) (x1 : Int32) (v2 : Value) (M : Mem) : X2 d m_Mo_readSum 5 [.ref 197, .int x1, v2] [] M = bI (c2 d m_Mo_is [.ref 197, .int (iI 32)] M) fun r2 M1 => if r2 = 0 then bI (c2 d m_Mo_is [.ref 197, .int (iI 33)] M1) fun r4 M3 => if r4 = 0 then some (.null, M3) else X2 d m_Mo_readSum 23 [.ref 197, .int x1, v2] [] M3 else X2 d m_Mo_readSum 23 [.ref 197, .int x1, v2] [] M1 :=
  (sx_eq O2 d m_Mo_readSum [5, 23] 10 _ _ _ _).trans rfl
set_option maxRecDepth 100000 in
set_option maxHeartbeats 4000000 in
theorem e_Mo_readSum_23 (d : Nat) (x1 : Int32) (v2 : Value) (M : Mem) : X2 d m_Mo_readSum 23 [.ref 197, .int x1, v2] [] M = if gI M 197 9 = iI 32 then bV (c2 d m_Mo_next [.ref 197] M) fun M4 => bV (c2 d m_Mo_readTerm [.ref 197, .int x1] M4) fun M5 => bV (c2 d m_Mo_codes [.ref 197, .int (iI 3000)] M5) fun M6 => X2 d m_Mo_readSum 5 [.ref 197, .int x1, .int (iI 3000)] [] M6 else bV (c2 d m_Mo_next [.ref 197] M) fun M1 => bV (c2 d m_Mo_readTerm [.ref 197, .int x1] M1) fun M2 => bV (c2 d m_Mo_codes [.ref 197, .int (iI 3001)] M2) fun M3 => X2 d m_Mo_readSum 5 [.ref 197, .int x1, .int (iI 3001)] [] M3 :=
  (sx_eq O2 d m_Mo_readSum [5, 23] 17 _ _ _ _).trans rfl
set_option maxRecDepth 100000 in
set_option maxHeartbeats 4000000 in
theorem e_Mo_readTerm_0 (d : Nat) (x1 : Int32) (M : Mem) : X2 d m_Mo_readTerm 0 [.ref 197, .int x1] [] M = bV (c2 d m_Mo_readAtom [.ref 197, .int x1] M) fun M1 => X2 d m_Mo_readTerm 5 [.ref 197, .int x1] [] M1 :=
  (sx_eq O2 d m_Mo_readTerm [5] 4 _ _ _ _).trans rfl
set_option maxRecDepth 100000 in
set_option maxHeartbeats 4000000 in
theorem e_Mo_readTerm_5 (d : Nat) (x1 : Int32) (M : Mem) : X2 d m_Mo_readTerm 5 [.ref 197, .int x1] [] M = bI (c2 d m_Mo_eats [.ref 197, .int (iI 34)] M) fun r2 M1 => if r2 = 0 then some (.null, M1) else bV (c2 d m_Mo_readAtom [.ref 197, .int x1] M1) fun M3 => bV (c2 d m_Mo_codes [.ref 197, .int (iI 3002)] M3) fun M4 => X2 d m_Mo_readTerm 5 [.ref 197, .int x1] [] M4 :=
  (sx_eq O2 d m_Mo_readTerm [5] 12 _ _ _ _).trans rfl
set_option maxRecDepth 100000 in
set_option maxHeartbeats 4000000 in
theorem e_Mo_readAtom_0 (d : Nat) (x1 : Int32) (M : Mem) : X2 d m_Mo_readAtom 0 [.ref 197, .int x1] [] M = bI (c2 d m_Mo_is [.ref 197, .int (iI 23)] M) fun r2 M1 => if r2 = 0 then if gI M1 197 11 = 0 then bI (c2 d m_Mo_wordOf [.ref 197, .int (gI M1 197 9)] M1) fun r4 M3 => if r4 = iI (-1) then X2 d m_Mo_readAtom 66 [.ref 197, .int x1] [] M3 else bI (c2 d m_Mo_wordOf [.ref 197, .int (gI M3 197 9)] M3) fun r6 M5 => bV (c2 d m_Mo_codes [.ref 197, .int ((iI 1000) + r6)] M5) fun M7 => bV (c2 d m_Mo_next [.ref 197] M7) fun M8 => some (.null, M8) else X2 d m_Mo_readAtom 66 [.ref 197, .int x1] [] M1 else bV (c2 d m_Mo_codes [.ref 197, .int (gI M1 197 10)] M1) fun M9 => bV (c2 d m_Mo_next [.ref 197] M9) fun M10 => some (.null, M10) :=
  (sx_eq O2 d m_Mo_readAtom [66] 26 _ _ _ _).trans rfl
set_option maxRecDepth 100000 in
set_option maxHeartbeats 4000000 in
theorem e_Mo_readAtom_66 (d : Nat) (x1 : Int32) (M : Mem) : X2 d m_Mo_readAtom 66 [.ref 197, .int x1] [] M = bI (c2 d m_Mo_is [.ref 197, .int (iI 35)] M) fun r2 M1 => if r2 = 0 then bV (c2 d m_Mo_fails [.ref 197, .int (iI 2)] M1) fun M3 => some (.null, M3) else bI (c2 d m_Mo_goesIn [.ref 197, .int x1] M1) fun r5 M4 => if r5 = 0 then some (.null, M4) else bV (c2 d m_Mo_readSum [.ref 197, .int (x1 + (iI 1))] M4) fun M6 => bI (c2 d m_Mo_eats [.ref 197, .int (iI 36)] M6) fun r8 M7 => if r8 = 0 then bV (c2 d m_Mo_fails [.ref 197, .int (iI 2)] M7) fun M9 => some (.null, M9) else some (.null, M7) :=
  (sx_eq O2 d m_Mo_readAtom [66] 23 _ _ _ _).trans rfl
set_option maxRecDepth 100000 in
set_option maxHeartbeats 4000000 in
theorem e_Mo_wordOf_0 (d : Nat) (x1 : Int32) (M : Mem) : X2 d m_Mo_wordOf 0 [.ref 197, .int x1] [] M = if x1 = iI 11 then some (.int (iI 0), M) else if x1 = iI 2 then some (.int (iI 1), M) else if gI M 197 15 = 0 then bI (c2 d m_Mo_turnsWord [.ref 197, .int x1] M) fun r2 M1 => some (.int r2, M1) else if x1 = iI 15 then some (.int (iI 7), M) else if x1 = iI 6 then some (.int (iI 8), M) else if x1 = iI 3 then some (.int (iI 9), M) else some (.int (iI (-1)), M) :=
  (sx_eq O2 d m_Mo_wordOf [] 22 _ _ _ _).trans rfl
set_option maxRecDepth 100000 in
set_option maxHeartbeats 4000000 in
theorem e_Mo_turnsWord_0 (d : Nat) (x1 : Int32) (M : Mem) : X2 d m_Mo_turnsWord 0 [.ref 197, .int x1] [] M = if x1 = iI 5 then some (.int (iI 5), M) else if x1 = iI 6 then some (.int (iI (-1)), M) else if x1 = iI 7 then some (.int (iI (-1)), M) else if x1 = iI 8 then some (.int (iI 6), M) else if x1 = iI 9 then some (.int (iI (-1)), M) else if x1 = iI 10 then some (.int (iI (-1)), M) else if x1 = iI 11 then some (.int (iI (-1)), M) else if x1 = iI 12 then some (.int (iI 2), M) else if x1 = iI 13 then some (.int (iI 3), M) else if x1 = iI 14 then some (.int (iI 4), M) else some (.int (iI (-1)), M) :=
  (sx_eq O2 d m_Mo_turnsWord [] 5 _ _ _ _).trans rfl
