/-! EQUATIONS of methods: written by wip/whole/gen/gen_eq.py. -/
set_option maxRecDepth 100000 in
set_option maxHeartbeats 4000000 in
theorem e_RW_feed_0 (d : Nat) (x1 : Int32) (x2 : Int32) (x3 : Int32) (x4 : Int32) (x5 : Int32) (M : Mem) : X2 d m_RW_feed 0 [.ref 100, .int x1, .int x2, .int x3, .int x4, .int x5] [] M = if iI 900 < (gI M 100 1) + (iI 20) then some (.int (iI (-5)), M) else bV (c2 d m_RW_tapeFour [.ref 100, .int x1] M) fun M1 => bV (c2 d m_RW_tapeFour [.ref 100, .int x2] M1) fun M2 => bV (c2 d m_RW_tapeFour [.ref 100, .int x3] M2) fun M3 => bV (c2 d m_RW_tapeFour [.ref 100, .int x4] M3) fun M4 => bV (c2 d m_RW_tapeFour [.ref 100, .int x5] M4) fun M5 => some (.int (gI M5 100 1), M5) :=
  (sx_eq O2 d m_RW_feed [] 25 _ _ _ _).trans rfl
set_option maxRecDepth 100000 in
set_option maxHeartbeats 4000000 in
theorem e_RW_room_0 (d : Nat) (x1 : Int32) (M : Mem) : X2 d m_RW_room 0 [.ref 100, .int x1, uns] [] M = if x1 < 0 then some (.int (iI (-3)), M) else if gI M 100 1 < x1 then some (.int (iI (-3)), M) else bR (c2 d m_RW_spareRoom [.ref 100] (wI M 100 1 (iI 0))) fun r2 M1 => bV (c2 d m_Tok_begin [.ref 102, .ref 101, .int x1] M1) fun M3 => bI (c2 d m_RR_readRoom [.ref 106, .ref 102, .ref r2] M3) fun r5 M4 => if r5 = 0 then some (.int ((iI (-30)) - (gI M4 102 11)), M4) else bV (c2 d m_Mom_begin [.ref 111, .ref r2] (wR M4 100 5 r2)) fun M6 => bV (c2 d m_Past_clear [.ref 114] M6) fun M7 => bV (c2 d m_Stp_take [.ref 127, .ref (gR M7 100 5)] M7) fun M8 => gb (isK O2 M8 (gR M8 100 5) 16) (some (.int (gI M8 (gR M8 100 5) 9), M8)) :=
  (sx_eq O2 d m_RW_room [] 46 _ _ _ _).trans rfl
set_option maxRecDepth 100000 in
set_option maxHeartbeats 4000000 in
theorem e_RW_fault_0 (d : Nat) (x1 : Int32) (M : Mem) : X2 d m_RW_fault 0 [.ref 100, .int x1] [] M = if x1 = iI 0 then some (.int (gI M 102 11), M) else if x1 = iI 1 then some (.int (gI M 102 12), M) else some (.int (iI (-1)), M) :=
  (sx_eq O2 d m_RW_fault [] 7 _ _ _ _).trans rfl
set_option maxRecDepth 100000 in
set_option maxHeartbeats 4000000 in
theorem e_RW_rose_0 (d : Nat) (x1 : Int32) (x2 : Int32) (M : Mem) : X2 d m_RW_rose 0 [.ref 100, .int x1, .int x2] [] M = gb (isK O2 M (gR M 100 5) 16 && !false) (bI (c2 d m_Room_hasRose [.ref (gR M 100 5), .int x1] M) fun r2 M1 => if r2 = 0 then some (.int (iI (-2)), M1) else if x2 < 0 then some (.int (iI (-2)), M1) else if iI 4 < x2 then some (.int (iI (-2)), M1) else if x2 = iI 0 then gb (isK O2 M1 (gR M1 100 5) 16) (bb (isK O2 M1 (gR M1 (gR M1 100 5) 10) 1) (gb (inb x1 (ix (gI M1 0 0))) (some (.int (gI M1 (gR M1 (gR M1 100 5) 10) (ix x1)), M1))) (gb (at_ O2 M1 (gR M1 (gR M1 100 5) 10) 40 x1) (some (.int (gI M1 (gR M1 (gR M1 100 5) 10) (ix x1)), M1)))) else if x2 = iI 1 then some (.int (((gI M1 111 0) >>> (x1 &&& 31)) &&& (iI 1)), M1) else if x2 = iI 2 then gb (isK O2 M1 (gR M1 100 5) 16) (bb (isK O2 M1 (gR M1 (gR M1 100 5) 11) 1) (gb (inb x1 (ix (gI M1 0 0))) (bI (c2 d m_Int_bitCount [.int ((gI M1 111 0) &&& (gI M1 (gR M1 (gR M1 100 5) 11) (ix x1)))] M1) fun r4 M3 => some (.int r4, M3))) (gb (at_ O2 M1 (gR M1 (gR M1 100 5) 11) 40 x1) (bI (c2 d m_Int_bitCount [.int ((gI M1 111 0) &&& (gI M1 (gR M1 (gR M1 100 5) 11) (ix x1)))] M1) fun r4 M3 => some (.int r4, M3)))) else bI (c2 d m_Mom_place [.ref 111] M1) fun r6 M5 => bI (c2 d m_Stp_pass [.ref 127, .int r6, .int (x2 - (iI 3)), .int (gI M5 111 2)] M5) fun r8 M7 => some (.int ((r8 >>> (x1 &&& 31)) &&& (iI 1)), M7)) :=
  (sx_eq O2 d m_RW_rose [] 30 _ _ _ _).trans rfl
set_option maxRecDepth 100000 in
set_option maxHeartbeats 4000000 in
theorem e_RW_tenant_0 (d : Nat) (x1 : Int32) (x2 : Int32) (M : Mem) : X2 d m_RW_tenant 0 [.ref 100, .int x1, .int x2] [] M = gb (isK O2 M (gR M 100 5) 16 && !false) (bI (c2 d m_Room_hasTenant [.ref (gR M 100 5), .int x1] M) fun r2 M1 => if r2 = 0 then some (.int (iI (-2)), M1) else if x2 < 0 then some (.int (iI (-2)), M1) else if iI 3 < x2 then some (.int (iI (-2)), M1) else if x2 = iI 0 then gb (isK O2 M1 (gR M1 100 5) 16) (bb (isK O2 M1 (gR M1 (gR M1 100 5) 12) 1) (gb (inb x1 (ix (gI M1 0 0))) (some (.int (gI M1 (gR M1 (gR M1 100 5) 12) (ix x1)), M1))) (gb (at_ O2 M1 (gR M1 (gR M1 100 5) 12) 40 x1) (some (.int (gI M1 (gR M1 (gR M1 100 5) 12) (ix x1)), M1)))) else if x2 = iI 1 then if gI M1 111 1 = x1 then some (.int (iI 1), M1) else some (.int (iI 0), M1) else bI (c2 d m_Stp_isGoing [.ref 127, .int (gI M1 111 0), .int x1, .int (x2 - (iI 2))] M1) fun r4 M3 => if r4 = 0 then some (.int (iI 0), M3) else some (.int (iI 1), M3)) :=
  (sx_eq O2 d m_RW_tenant [] 27 _ _ _ _).trans rfl
set_option maxRecDepth 100000 in
set_option maxHeartbeats 4000000 in
theorem e_RW_night_0 (d : Nat) (x1 : Int32) (M : Mem) : X2 d m_RW_night 0 [.ref 100, .int x1, uns] [] M = bI (c2 d m_RW_doneAlone [.ref 100, .int x1, .int (iI 0)] M) fun r2 M1 => if r2 = 0 then some (.int (gI M1 111 0), M1) else some (.int ((iI (-10)) - r2), M1) :=
  (sx_eq O2 d m_RW_night [] 13 _ _ _ _).trans rfl
set_option maxRecDepth 100000 in
set_option maxHeartbeats 4000000 in
theorem e_RW_nights_0 (d : Nat) (x1 : Int32) (x2 : Int32) (M : Mem) : X2 d m_RW_nights 0 [.ref 100, .int x1, .int x2, uns, uns] [] M = if x1 < iI 1 then some (.int (iI (-3)), M) else if iI 99 < x1 then some (.int (iI (-3)), M) else bI (c2 d m_RW_isBlind [.int x2] M) fun r2 M1 => if r2 = 0 then some (.int (iI (-11)), M1) else bV (c2 d m_Past_keep [.ref 114, .ref 111] M1) fun M3 => if gI M3 111 1 = iI (-1) then X2 d m_RW_nights 55 [.ref 100, .int x1, .int x2, .int x1, .int (iI 1)] [] M3 else X2 d m_RW_nights 55 [.ref 100, .int x1, .int x2, .int (iI 0), .int (iI 1)] [] M3 :=
  (sx_eq O2 d m_RW_nights [55] 25 _ _ _ _).trans rfl
set_option maxRecDepth 100000 in
set_option maxHeartbeats 4000000 in
theorem e_RW_nights_55 (d : Nat) (x1 : Int32) (x2 : Int32) (x3 : Int32) (x4 : Int32) (M : Mem) : X2 d m_RW_nights 55 [.ref 100, .int x1, .int x2, .int x3, .int x4] [] M = if x1 < x4 then if x3 = 0 then some (.int x1, M) else some (.int x3, M) else bV (c2 d m_RW_passNight [.ref 100, .ref 111, .int x2] M) fun M1 => if x3 = 0 then if gI M1 111 1 = iI (-1) then X2 d m_RW_nights 55 [.ref 100, .int x1, .int x2, .int x4, .int (x4 + iI 1)] [] M1 else X2 d m_RW_nights 55 [.ref 100, .int x1, .int x2, .int x3, .int (x4 + iI 1)] [] M1 else X2 d m_RW_nights 55 [.ref 100, .int x1, .int x2, .int x3, .int (x4 + iI 1)] [] M1 :=
  (sx_eq O2 d m_RW_nights [55] 20 _ _ _ _).trans rfl
set_option maxRecDepth 100000 in
set_option maxHeartbeats 4000000 in
theorem e_RW_let_0 (d : Nat) (x1 : Int32) (M : Mem) : X2 d m_RW_let 0 [.ref 100, .int x1, uns] [] M = bI (c2 d m_RW_doneAlone [.ref 100, .int x1, .int (iI 10)] M) fun r2 M1 => if r2 = 0 then bI (c2 d m_Int_bitCount [.int (gI M1 111 0)] M1) fun r4 M3 => some (.int r4, M3) else some (.int ((iI (-10)) - r2), M1) :=
  (sx_eq O2 d m_RW_let [] 13 _ _ _ _).trans rfl
set_option maxRecDepth 100000 in
set_option maxHeartbeats 4000000 in
theorem e_RW_turn_0 (d : Nat) (x1 : Int32) (M : Mem) : X2 d m_RW_turn 0 [.ref 100, .int x1, uns] [] M = bI (c2 d m_RW_doneAlone [.ref 100, .int x1, .int (iI 20)] M) fun r2 M1 => if r2 = 0 then some (.int (((gI M1 111 0) >>> (x1 &&& 31)) &&& (iI 1)), M1) else some (.int ((iI (-10)) - r2), M1) :=
  (sx_eq O2 d m_RW_turn [] 16 _ _ _ _).trans rfl
set_option maxRecDepth 100000 in
set_option maxHeartbeats 4000000 in
theorem e_RW_temper_0 (d : Nat) (x1 : Int32) (M : Mem) : X2 d m_RW_temper 0 [.ref 100, .int x1, uns] [] M = bI (c2 d m_RW_doneAlone [.ref 100, .int x1, .int (iI 30)] M) fun r2 M1 => if r2 = 0 then some (.int (gI M1 112 2), M1) else some (.int ((iI (-10)) - r2), M1) :=
  (sx_eq O2 d m_RW_temper [] 13 _ _ _ _).trans rfl
set_option maxRecDepth 100000 in
set_option maxHeartbeats 4000000 in
theorem e_RW_undo_0 (d : Nat) (x1 : Int32) (M : Mem) : X2 d m_RW_undo 0 [.ref 100, .int x1] [] M = if x1 < iI 1 then some (.int (iI (-3)), M) else if gI M 114 2 < x1 then some (.int (iI (-3)), M) else bV (c2 d m_Past_bringBack [.ref 114, .int x1, .ref 111] M) fun M1 => some (.int (gI M1 114 2), M1) :=
  (sx_eq O2 d m_RW_undo [] 19 _ _ _ _).trans rfl
set_option maxRecDepth 100000 in
set_option maxHeartbeats 4000000 in
theorem e_RW_judge_0 (d : Nat) (x1 : Int32) (x2 : Int32) (M : Mem) : X2 d m_RW_judge 0 [.ref 100, .int x1, .int x2, uns, uns] [] M = bI (c2 d m_RW_isTray [.int x1] M) fun r2 M1 => if r2 = 0 then some (.int (iI (-2)), M1) else if x2 < 0 then some (.int (iI (-2)), M1) else if iI 3 < x2 then some (.int (iI (-2)), M1) else gb (false || false || inb x1 4) (gb (isK O2 M1 (gR M1 126 (ix x1)) 20) (if gI M1 (gR M1 126 (ix x1)) 3 = 0 then bV (c2 d m_Mom_copy [.ref 113, .ref 111] M1) fun M3 => gb (false || false || inb x1 4) (bI (c2 d m_RW_doTray [.ref 100, .ref (gR M3 126 (ix x1)), .ref 113] M3) fun r5 M4 => gb (false || false || inb x1 4) (gb (isK O2 M4 (gR M4 126 (ix x1)) 20) (if r5 = gI M4 (gR M4 126 (ix x1)) 2 then X2 d m_RW_judge 78 [.ref 100, .int x1, .int x2, .int r5, uns] [.int (iI 1)] M4 else X2 d m_RW_judge 78 [.ref 100, .int x1, .int x2, .int r5, uns] [.int (iI 0)] M4))) else some (.int (iI (-6)), M1))) :=
  (sx_eq O2 d m_RW_judge [78] 38 _ _ _ _).trans rfl
set_option maxRecDepth 100000 in
set_option maxHeartbeats 4000000 in
theorem e_RW_judge_78 (d : Nat) (x1 : Int32) (x2 : Int32) (x3 : Int32) (v4 : Value) (y0 : Int32) (M : Mem) : X2 d m_RW_judge 78 [.ref 100, .int x1, .int x2, .int x3, v4] [.int y0] M = if x2 = iI 0 then if y0 = 0 then some (.int x3, M) else some (.int (iI (-1)), M) else if x2 = iI 1 then if y0 = 0 then gb (false || false || inb x1 4) (gb (isK O2 M (gR M 126 (ix x1)) 20 && !false) (bL (c2 d m_Tray_at [.ref (gR M 126 (ix x1)), .int x3] M) fun r2 M1 => bI (c2 d m_RW_doDeed [.ref 100, .ref 113, .long r2] M1) fun r4 M3 => some (.int r4, M3))) else some (.int (iI 0), M) else if x2 = iI 2 then some (.int (gI M 113 0), M) else some (.int (gI M 113 1), M) :=
  (sx_eq O2 d m_RW_judge [78] 17 _ _ _ _).trans rfl
set_option maxRecDepth 100000 in
set_option maxHeartbeats 4000000 in
theorem e_RW_perform_0 (d : Nat) (x1 : Int32) (M : Mem) : X2 d m_RW_perform 0 [.ref 100, .int x1, uns] [] M = bI (c2 d m_RW_isTray [.int x1] M) fun r2 M1 => if r2 = 0 then some (.int (iI (-2)), M1) else gb (false || false || inb x1 4) (gb (isK O2 M1 (gR M1 126 (ix x1)) 20) (if gI M1 (gR M1 126 (ix x1)) 3 = 0 then bV (c2 d m_Mom_copy [.ref 112, .ref 111] M1) fun M3 => gb (false || false || inb x1 4) (bI (c2 d m_RW_doTray [.ref 100, .ref (gR M3 126 (ix x1)), .ref 111] M3) fun r5 M4 => if 0 < r5 then bV (c2 d m_Past_keep [.ref 114, .ref 112] M4) fun M6 => some (.int r5, M6) else some (.int r5, M4)) else some (.int (iI (-6)), M1))) :=
  (sx_eq O2 d m_RW_perform [] 33 _ _ _ _).trans rfl
set_option maxRecDepth 100000 in
set_option maxHeartbeats 4000000 in
theorem e_RW_season_0 (d : Nat) (x1 : Int32) (x2 : Int32) (M : Mem) : X2 d m_RW_season 0 [.ref 100, .int x1, .int x2, uns, uns, uns, uns] [] M = if x2 < iI 1 then some (.int (iI (-3)), M) else if iI 40 < x2 then some (.int (iI (-3)), M) else bV (c2 d m_Mom_copy [.ref 112, .ref 111] M) fun M1 => X2 d m_RW_season 33 [.ref 100, .int x1, .int x2, .int x1, .int (iI 0), .int (iI 0), uns] [] M1 :=
  (sx_eq O2 d m_RW_season [33] 18 _ _ _ _).trans rfl
set_option maxRecDepth 100000 in
set_option maxHeartbeats 4000000 in
theorem e_RW_season_33 (d : Nat) (v1 : Value) (x2 : Int32) (x3 : Int32) (x4 : Int32) (x5 : Int32) (v6 : Value) (M : Mem) : X2 d m_RW_season 33 [.ref 100, v1, .int x2, .int x3, .int x4, .int x5, v6] [] M = if x5 < x2 then bI (c2 d m_RW_drawn [.int x3] M) fun r3 M2 => bI (c2 d m_RW_drawn [.int r3] M2) fun r5 M4 => bI (c2 d m_RW_seasonDeed [.int (irm (((r3).toUInt32 >>> ((iI 16).toUInt32 &&& Int32.toUInt32 31)).toInt32) (iI 6)), .int (((r5).toUInt32 >>> ((iI 16).toUInt32 &&& Int32.toUInt32 31)).toInt32)] M4) fun r7 M6 => bI (c2 d m_RW_doDeed [.ref 100, .ref 111, .long ((r7).toInt64)] M6) fun r9 M8 => if r9 = 0 then X2 d m_RW_season 33 [.ref 100, v1, .int x2, .int r5, .int (x4 + iI 1), .int (x5 + iI 1), .int (irm (((r3).toUInt32 >>> ((iI 16).toUInt32 &&& Int32.toUInt32 31)).toInt32) (iI 6))] [] M8 else X2 d m_RW_season 33 [.ref 100, v1, .int x2, .int r5, .int x4, .int (x5 + iI 1), .int (irm (((r3).toUInt32 >>> ((iI 16).toUInt32 &&& Int32.toUInt32 31)).toInt32) (iI 6))] [] M8 else if 0 < x4 then bV (c2 d m_Past_keep [.ref 114, .ref 112] M) fun M1 => some (.int x4, M1) else some (.int x4, M) :=
  (sx_eq O2 d m_RW_season [33] 30 _ _ _ _).trans rfl
set_option maxRecDepth 100000 in
set_option maxHeartbeats 4000000 in
theorem e_RW_lies_0 (d : Nat) (x1 : Int32) (x2 : Int32) (M : Mem) : X2 d m_RW_lies 0 [.ref 100, .int x1, .int x2, uns] [] M = if x1 < 0 then some (.int (iI (-3)), M) else if iI 99999 < x1 then some (.int (iI (-3)), M) else bI (c2 d m_RW_isBlind [.int x2] M) fun r2 M1 => if r2 = 0 then some (.int (iI (-3)), M1) else bI (c2 d m_RW_here [.ref 100] M1) fun r4 M3 => bI (c2 d m_Rch_walk [.ref 133, .ref 127, .int r4, .int x2] M3) fun r6 M5 => bI (c2 d m_Rch_placeBehind [.ref 133, .int x1, .int r6] M5) fun r8 M7 => some (.int (r8 &&& (iI 511)), M7) :=
  (sx_eq O2 d m_RW_lies [] 26 _ _ _ _).trans rfl
set_option maxRecDepth 100000 in
set_option maxHeartbeats 4000000 in
theorem e_RW_round_0 (d : Nat) (x1 : Int32) (x2 : Int32) (M : Mem) : X2 d m_RW_round 0 [.ref 100, .int x1, .int x2, uns] [] M = if x2 < 0 then some (.int (iI (-2)), M) else if iI 3 < x2 then some (.int (iI (-2)), M) else bI (c2 d m_RW_isBlind [.int x1] M) fun r2 M1 => if r2 = 0 then some (.int (iI (-3)), M1) else bI (c2 d m_RW_here [.ref 100] M1) fun r4 M3 => bI (c2 d m_Rch_walk [.ref 133, .ref 127, .int r4, .int x1] M3) fun r6 M5 => if x2 = iI 0 then some (.int r6, M5) else if x2 = iI 1 then some (.int ((gI M5 133 1) - r6), M5) else if x2 = iI 2 then bI (c2 d m_Rch_mostTurned [.ref 133, .int r6] M5) fun r8 M7 => some (.int r8, M7) else if gI M5 111 1 = iI (-1) then some (.int (iI (-1)), M5) else bI (c2 d m_Rch_firstEmpty [.ref 133] M5) fun r10 M9 => some (.int r10, M9) :=
  (sx_eq O2 d m_RW_round [] 29 _ _ _ _).trans rfl
set_option maxRecDepth 100000 in
set_option maxHeartbeats 4000000 in
theorem e_RW_stays_0 (d : Nat)  (M : Mem) : X2 d m_RW_stays 0 [.ref 100, uns] [] M = if gI M 111 1 = iI (-1) then some (.int (iI (-5)), M) else bI (c2 d m_RW_here [.ref 100] M) fun r2 M1 => bI (c2 d m_Rch_explore [.ref 133, .ref 127, .int r2, .int (iI (-3))] M1) fun r4 M3 => bV (c2 d m_Con_settle [.ref 140, .ref 133, .int (iI 0)] M3) fun M5 => bI (c2 d m_Con_level [.ref 140, .int (iI 0), .int (iI 1)] M5) fun r7 M6 => if r7 = iI (-1) then some (.int (iI (-1)), M6) else some (.int (r7 - (iI 1)), M6) :=
  (sx_eq O2 d m_RW_stays [] 34 _ _ _ _).trans rfl
set_option maxRecDepth 100000 in
set_option maxHeartbeats 4000000 in
theorem e_RW_stayBy_0 (d : Nat) (x1 : Int32) (M : Mem) : X2 d m_RW_stayBy 0 [.ref 100, .int x1] [] M = if x1 < 0 then some (.int (iI (-3)), M) else if iI 99 < x1 then some (.int (iI (-3)), M) else if gI M 111 1 = iI (-1) then some (.int (iI (-5)), M) else bI (c2 d m_RW_here [.ref 100] M) fun r2 M1 => bI (c2 d m_Rch_explore [.ref 133, .ref 127, .int r2, .int (iI (-3))] M1) fun r4 M3 => bV (c2 d m_Con_settle [.ref 140, .ref 133, .int (iI 0)] M3) fun M5 => bI (c2 d m_Con_stayBlind [.ref 140, .ref 133, .int x1] M5) fun r7 M6 => some (.int r7, M6) :=
  (sx_eq O2 d m_RW_stayBy [] 33 _ _ _ _).trans rfl
set_option maxRecDepth 100000 in
set_option maxHeartbeats 4000000 in
theorem e_RW_out_0 (d : Nat)  (M : Mem) : X2 d m_RW_out 0 [.ref 100] [] M = if gI M 111 1 = iI (-1) then some (.int (iI (-5)), M) else bI (c2 d m_RW_here [.ref 100] M) fun r2 M1 => bI (c2 d m_Rch_explore [.ref 133, .ref 127, .int r2, .int (iI (-2))] M1) fun r4 M3 => bI (c2 d m_Rch_depth [.ref 133, .int r4] M3) fun r6 M5 => some (.int r6, M5) :=
  (sx_eq O2 d m_RW_out [] 18 _ _ _ _).trans rfl
set_option maxRecDepth 100000 in
set_option maxHeartbeats 4000000 in
theorem e_RW_outBy_0 (d : Nat) (x1 : Int32) (M : Mem) : X2 d m_RW_outBy 0 [.ref 100, .int x1] [] M = if x1 < 0 then some (.int (iI (-3)), M) else if gI M 111 1 = iI (-1) then some (.int (iI (-5)), M) else bI (c2 d m_RW_here [.ref 100] M) fun r2 M1 => bI (c2 d m_Rch_explore [.ref 133, .ref 127, .int r2, .int (iI (-2))] M1) fun r4 M3 => bI (c2 d m_Rch_blindTo [.ref 133, .int r4, .int x1] M3) fun r6 M5 => some (.int r6, M5) :=
  (sx_eq O2 d m_RW_outBy [] 21 _ _ _ _).trans rfl
set_option maxRecDepth 100000 in
set_option maxHeartbeats 4000000 in
theorem e_RW_forces_0 (d : Nat)  (M : Mem) : X2 d m_RW_forces 0 [.ref 100] [] M = if gI M 111 1 = iI (-1) then some (.int (iI (-5)), M) else bI (c2 d m_RW_here [.ref 100] M) fun r2 M1 => bI (c2 d m_Rch_explore [.ref 133, .ref 127, .int r2, .int (iI (-3))] M1) fun r4 M3 => bV (c2 d m_Con_settle [.ref 140, .ref 133, .int (iI 1)] M3) fun M5 => bI (c2 d m_Con_level [.ref 140, .int (iI 0), .int (iI 0)] M5) fun r7 M6 => some (.int r7, M6) :=
  (sx_eq O2 d m_RW_forces [] 27 _ _ _ _).trans rfl
set_option maxRecDepth 100000 in
set_option maxHeartbeats 4000000 in
theorem e_RW_minds_0 (d : Nat)  (M : Mem) : X2 d m_RW_minds 0 [.ref 100] [] M = if gI M 111 1 = iI (-1) then some (.int (iI (-5)), M) else bI (c2 d m_RW_here [.ref 100] M) fun r2 M1 => bI (c2 d m_Rch_explore [.ref 133, .ref 127, .int r2, .int (iI (-3))] M1) fun r4 M3 => bV (c2 d m_Con_settle [.ref 140, .ref 133, .int (iI 1)] M3) fun M5 => bI (c2 d m_Con_forcingBlind [.ref 140, .ref 133] M5) fun r7 M6 => some (.int r7, M6) :=
  (sx_eq O2 d m_RW_minds [] 27 _ _ _ _).trans rfl
set_option maxRecDepth 100000 in
set_option maxHeartbeats 4000000 in
theorem e_RW_soonest_0 (d : Nat) (x1 : Int32) (M : Mem) : X2 d m_RW_soonest 0 [.ref 100, .int x1] [] M = gb (isK O2 M (gR M 100 5) 16 && !false) (bI (c2 d m_Room_hasWall [.ref (gR M 100 5), .int x1] M) fun r2 M1 => if r2 = 0 then some (.int (iI (-3)), M1) else bI (c2 d m_RW_here [.ref 100] M1) fun r4 M3 => bI (c2 d m_Rch_explore [.ref 133, .ref 127, .int r4, .int x1] M3) fun r6 M5 => bI (c2 d m_Rch_depth [.ref 133, .int r6] M5) fun r8 M7 => some (.int r8, M7)) :=
  (sx_eq O2 d m_RW_soonest [] 18 _ _ _ _).trans rfl
set_option maxRecDepth 100000 in
set_option maxHeartbeats 4000000 in
theorem e_RW_way_0 (d : Nat) (x1 : Int32) (x2 : Int32) (M : Mem) : X2 d m_RW_way 0 [.ref 100, .int x1, .int x2] [] M = gb (isK O2 M (gR M 100 5) 16 && !false) (bI (c2 d m_Room_hasWall [.ref (gR M 100 5), .int x1] M) fun r2 M1 => if r2 = 0 then some (.int (iI (-3)), M1) else if x2 < 0 then some (.int (iI (-3)), M1) else bI (c2 d m_RW_here [.ref 100] M1) fun r4 M3 => bI (c2 d m_Rch_explore [.ref 133, .ref 127, .int r4, .int x1] M3) fun r6 M5 => bI (c2 d m_Rch_blindTo [.ref 133, .int r6, .int x2] M5) fun r8 M7 => some (.int r8, M7)) :=
  (sx_eq O2 d m_RW_way [] 21 _ _ _ _).trans rfl
set_option maxRecDepth 100000 in
set_option maxHeartbeats 4000000 in
theorem e_RW_toFace_0 (d : Nat)  (M : Mem) : X2 d m_RW_toFace 0 [.ref 100] [] M = gb (isK O2 M (gR M 100 5) 16) (if gI M (gR M 100 5) 6 = 0 then some (.int (iI (-1)), M) else bI (c2 d m_RW_here [.ref 100] M) fun r2 M1 => gb (isK O2 M1 (gR M1 100 5) 16) (bI (c2 d m_Rch_explore [.ref 133, .ref 127, .int r2, .int (gI M1 (gR M1 100 5) 6)] M1) fun r4 M3 => bI (c2 d m_Rch_depth [.ref 133, .int r4] M3) fun r6 M5 => some (.int r6, M5))) :=
  (sx_eq O2 d m_RW_toFace [] 19 _ _ _ _).trans rfl
set_option maxRecDepth 100000 in
set_option maxHeartbeats 4000000 in
theorem e_RW_walls_0 (d : Nat)  (M : Mem) : X2 d m_RW_walls 0 [.ref 100] [] M = bI (c2 d m_RW_here [.ref 100] M) fun r2 M1 => bI (c2 d m_Rch_explore [.ref 133, .ref 127, .int r2, .int (iI (-1))] M1) fun r4 M3 => bI (c2 d m_Rch_differentWalls [.ref 133] M3) fun r6 M5 => some (.int r6, M5) :=
  (sx_eq O2 d m_RW_walls [] 14 _ _ _ _).trans rfl
set_option maxRecDepth 100000 in
set_option maxHeartbeats 4000000 in
theorem e_RW_parents_0 (d : Nat) (x1 : Int32) (x2 : Int32) (x3 : Int32) (M : Mem) : X2 d m_RW_parents 0 [.ref 100, .int x1, .int x2, .int x3] [] M = if x3 = iI (-1) then X2 d m_RW_parents 19 [.ref 100, .int x1, .int x2, .int x3] [] M else gb (isK O2 M (gR M 100 5) 16 && !false) (bI (c2 d m_Room_hasTenant [.ref (gR M 100 5), .int x3] M) fun r2 M1 => if r2 = 0 then some (.int (iI (-2)), M1) else X2 d m_RW_parents 19 [.ref 100, .int x1, .int x2, .int x3] [] M1) :=
  (sx_eq O2 d m_RW_parents [19] 11 _ _ _ _).trans rfl
set_option maxRecDepth 100000 in
set_option maxHeartbeats 4000000 in
theorem e_RW_parents_19 (d : Nat) (x1 : Int32) (x2 : Int32) (x3 : Int32) (M : Mem) : X2 d m_RW_parents 19 [.ref 100, .int x1, .int x2, .int x3] [] M = gb (isK O2 M (gR M 100 5) 16 && !false) (bI (c2 d m_Room_hasWall [.ref (gR M 100 5), .int x1] M) fun r2 M1 => if r2 = 0 then some (.int (iI (-3)), M1) else bI (c2 d m_RW_isBlind [.int x2] M1) fun r4 M3 => if r4 = 0 then some (.int (iI (-3)), M3) else bV (c2 d m_Stp_tune [.ref 127, .int (gI M3 111 2)] M3) fun M5 => bI (c2 d m_Stp_comingTo [.ref 127, .int x1, .int x2, .int x3] M5) fun r7 M6 => some (.int r7, M6)) :=
  (sx_eq O2 d m_RW_parents [19] 22 _ _ _ _).trans rfl
set_option maxRecDepth 100000 in
set_option maxHeartbeats 4000000 in
theorem e_RW_orphans_0 (d : Nat) (x1 : Int32) (x2 : Int32) (M : Mem) : X2 d m_RW_orphans 0 [.ref 100, .int x1, .int x2] [] M = if x2 = iI (-1) then bI (c2 d m_RW_isBlind [.int x1] M) fun r2 M1 => if r2 = 0 then some (.int (iI (-3)), M1) else bV (c2 d m_Stp_tune [.ref 127, .int (gI M1 111 2)] M1) fun M3 => bI (c2 d m_Stp_comingOfNone [.ref 127, .int x1, .int x2] M3) fun r5 M4 => some (.int r5, M4) else gb (isK O2 M (gR M 100 5) 16 && !false) (bI (c2 d m_Room_hasTenant [.ref (gR M 100 5), .int x2] M) fun r7 M6 => if r7 = 0 then some (.int (iI (-2)), M6) else bI (c2 d m_RW_isBlind [.int x1] M6) fun r9 M8 => if r9 = 0 then some (.int (iI (-3)), M8) else bV (c2 d m_Stp_tune [.ref 127, .int (gI M8 111 2)] M8) fun M10 => bI (c2 d m_Stp_comingOfNone [.ref 127, .int x1, .int x2] M10) fun r12 M11 => some (.int r12, M11)) :=
  (sx_eq O2 d m_RW_orphans [] 24 _ _ _ _).trans rfl
set_option maxRecDepth 100000 in
set_option maxHeartbeats 4000000 in
theorem e_RW_still_0 (d : Nat) (x1 : Int32) (x2 : Int32) (M : Mem) : X2 d m_RW_still 0 [.ref 100, .int x1, .int x2] [] M = if x2 = iI (-1) then bI (c2 d m_RW_isBlind [.int x1] M) fun r2 M1 => if r2 = 0 then some (.int (iI (-3)), M1) else bV (c2 d m_Stp_tune [.ref 127, .int (gI M1 111 2)] M1) fun M3 => bI (c2 d m_Stp_stayingSame [.ref 127, .int x1, .int x2] M3) fun r5 M4 => some (.int r5, M4) else gb (isK O2 M (gR M 100 5) 16 && !false) (bI (c2 d m_Room_hasTenant [.ref (gR M 100 5), .int x2] M) fun r7 M6 => if r7 = 0 then some (.int (iI (-2)), M6) else bI (c2 d m_RW_isBlind [.int x1] M6) fun r9 M8 => if r9 = 0 then some (.int (iI (-3)), M8) else bV (c2 d m_Stp_tune [.ref 127, .int (gI M8 111 2)] M8) fun M10 => bI (c2 d m_Stp_stayingSame [.ref 127, .int x1, .int x2] M10) fun r12 M11 => some (.int r12, M11)) :=
  (sx_eq O2 d m_RW_still [] 24 _ _ _ _).trans rfl
set_option maxRecDepth 100000 in
set_option maxHeartbeats 4000000 in
theorem e_RW_rows_0 (d : Nat) (x1 : Int32) (x2 : Int32) (M : Mem) : X2 d m_RW_rows 0 [.ref 100, .int x1, .int x2] [] M = gb (isK O2 M (gR M 100 5) 16 && !false) (bI (c2 d m_Room_hasWall [.ref (gR M 100 5), .int x1] M) fun r2 M1 => if r2 = 0 then some (.int (iI (-3)), M1) else if x2 < 0 then some (.int (iI (-3)), M1) else if iI 20 < x2 then some (.int (iI (-3)), M1) else bI (c2 d m_RW_here [.ref 100] M1) fun r4 M3 => bI (c2 d m_Rch_rowsTo [.ref 133, .ref 127, .int r4, .int x1, .int x2] M3) fun r6 M5 => some (.int r6, M5)) :=
  (sx_eq O2 d m_RW_rows [] 21 _ _ _ _).trans rfl
set_option maxRecDepth 100000 in
set_option maxHeartbeats 4000000 in
theorem e_RW_seen_0 (d : Nat) (x1 : Int32) (M : Mem) : X2 d m_RW_seen 0 [.ref 100, .int x1, uns] [] M = bI (c2 d m_RW_refusedSeen [.ref 100, .int x1] M) fun r2 M1 => if r2 = 0 then gb (false || false || inb x1 4) (bI (c2 d m_RW_here [.ref 100] M1) fun r4 M3 => bI (c2 d m_RW_rowsSeen [.ref 100, .ref (gR M1 126 (ix x1)), .int r4, .int (iI 0)] M3) fun r6 M5 => some (.int r6, M5)) else some (.int r2, M1) :=
  (sx_eq O2 d m_RW_seen [] 17 _ _ _ _).trans rfl
set_option maxRecDepth 100000 in
set_option maxHeartbeats 4000000 in
theorem e_RW_seenBy_0 (d : Nat) (x1 : Int32) (x2 : Int32) (M : Mem) : X2 d m_RW_seenBy 0 [.ref 100, .int x1, .int x2, uns, uns, uns, uns] [] M = bI (c2 d m_RW_refusedSeen [.ref 100, .int x1] M) fun r2 M1 => if r2 = 0 then if x2 < 0 then some (.int (iI (-3)), M1) else bI (c2 d m_RW_here [.ref 100] M1) fun r4 M3 => gb (false || false || inb x1 4) (gb (isK O2 M3 (gR M3 126 (ix x1)) 20) (if x2 < gI M3 (gR M3 126 (ix x1)) 2 then gb (false || false || inb x1 4) (bI (c2 d m_RW_rowsSeen [.ref 100, .ref (gR M3 126 (ix x1)), .int r4, .int (iI 0)] M3) fun r6 M5 => if r6 = 0 then some (.int (iI (-1)), M5) else X2 d m_RW_seenBy 62 [.ref 100, .int x1, .int x2, .int r2, .int r4, .int (iI (-1)), .int (iI 0)] [] M5) else some (.int (iI (-1)), M3))) else some (.int r2, M1) :=
  (sx_eq O2 d m_RW_seenBy [62] 32 _ _ _ _).trans rfl
set_option maxRecDepth 100000 in
set_option maxHeartbeats 4000000 in
theorem e_RW_seenBy_62 (d : Nat) (x1 : Int32) (x2 : Int32) (v3 : Value) (x4 : Int32) (x5 : Int32) (x6 : Int32) (M : Mem) : X2 d m_RW_seenBy 62 [.ref 100, .int x1, .int x2, v3, .int x4, .int x5, .int x6] [] M = if x2 < x6 then some (.int x5, M) else gb (false || false || inb x1 4) (bI (c2 d m_RW_isFirstBlind [.ref 100, .ref (gR M 126 (ix x1)), .int x4, .int x6] M) fun r2 M1 => if r2 = 0 then bI (c2 d m_Stp_next [.ref 127, .int x4, .int (iI 1)] M1) fun r4 M3 => X2 d m_RW_seenBy 62 [.ref 100, .int x1, .int x2, v3, .int r4, .int (iI 1), .int (x6 + iI 1)] [] M3 else bI (c2 d m_Stp_next [.ref 127, .int x4, .int (iI 0)] M1) fun r6 M5 => X2 d m_RW_seenBy 62 [.ref 100, .int x1, .int x2, v3, .int r6, .int (iI 0), .int (x6 + iI 1)] [] M5) :=
  (sx_eq O2 d m_RW_seenBy [62] 24 _ _ _ _).trans rfl
set_option maxRecDepth 100000 in
set_option maxHeartbeats 4000000 in
theorem e_RW_whose_0 (d : Nat) (x1 : Int32) (M : Mem) : X2 d m_RW_whose 0 [.ref 100, .int x1, uns, uns, uns] [] M = bI (c2 d m_RW_refusedSeen [.ref 100, .int x1] M) fun r2 M1 => if r2 = 0 then bV (c2 d m_Stp_tune [.ref 127, .int (gI M1 111 2)] M1) fun M3 => gb (false || false || inb x1 4) (bI (c2 d m_RW_placeOf [.int (gI M3 111 0), .int (iI (-1))] M3) fun r5 M4 => bI (c2 d m_RW_rowsSeen [.ref 100, .ref (gR M3 126 (ix x1)), .int r5, .int (iI 0)] M4) fun r7 M6 => if 0 < r7 then X2 d m_RW_whose 62 [.ref 100, .int x1, .int r2, .int (iI 512), .int (iI 0)] [] M6 else X2 d m_RW_whose 62 [.ref 100, .int x1, .int r2, .int (iI 0), .int (iI 0)] [] M6) else some (.int r2, M1) :=
  (sx_eq O2 d m_RW_whose [62] 31 _ _ _ _).trans rfl
set_option maxRecDepth 100000 in
set_option maxHeartbeats 4000000 in
theorem e_RW_whose_62 (d : Nat) (x1 : Int32) (v2 : Value) (x3 : Int32) (x4 : Int32) (M : Mem) : X2 d m_RW_whose 62 [.ref 100, .int x1, v2, .int x3, .int x4] [] M = gb (isK O2 M (gR M 100 5) 16) (if x4 < gI M (gR M 100 5) 3 then gb (false || false || inb x1 4) (bI (c2 d m_RW_placeOf [.int (gI M 111 0), .int x4] M) fun r2 M1 => bI (c2 d m_RW_rowsSeen [.ref 100, .ref (gR M 126 (ix x1)), .int r2, .int (iI 0)] M1) fun r4 M3 => if 0 < r4 then X2 d m_RW_whose 62 [.ref 100, .int x1, v2, .int (x3 ||| ((iI 1) <<< (x4 &&& 31))), .int (x4 + iI 1)] [] M3 else X2 d m_RW_whose 62 [.ref 100, .int x1, v2, .int x3, .int (x4 + iI 1)] [] M3) else some (.int x3, M)) :=
  (sx_eq O2 d m_RW_whose [62] 27 _ _ _ _).trans rfl
set_option maxRecDepth 100000 in
set_option maxHeartbeats 4000000 in
theorem e_RW_tempers_0 (d : Nat) (x1 : Int32) (x2 : Int32) (M : Mem) : X2 d m_RW_tempers 0 [.ref 100, .int x1, .int x2, uns] [] M = bI (c2 d m_RW_refusedTempers [.ref 100, .int x1, .int x2] M) fun r2 M1 => if r2 = 0 then gb (false || false || inb x1 4) (bI (c2 d m_RW_tempersSeen [.ref 100, .ref (gR M1 126 (ix x1)), .int x2] M1) fun r4 M3 => some (.int r4, M3)) else some (.int r2, M1) :=
  (sx_eq O2 d m_RW_tempers [] 16 _ _ _ _).trans rfl
set_option maxRecDepth 100000 in
set_option maxHeartbeats 4000000 in
theorem e_RW_attempt_0 (d : Nat) (x1 : Int32) (x2 : Int32) (M : Mem) : X2 d m_RW_attempt 0 [.ref 100, .int x1, .int x2, uns, uns] [] M = bI (c2 d m_RW_refusedTempers [.ref 100, .int x1, .int x2] M) fun r2 M1 => if r2 = 0 then gb (false || false || inb x1 4) (bI (c2 d m_RW_tempersSeen [.ref 100, .ref (gR M1 126 (ix x1)), .int x2] M1) fun r4 M3 => if r4 = 0 then some (.int (iI (-1)), M3) else bI (c2 d m_RW_mostAlike [.ref 100, .int r4, .int (iI 1)] M3) fun r6 M5 => bI (c2 d m_RW_mostAlike [.ref 100, .int r4, .int (iI 0)] M5) fun r8 M7 => if r6 < r8 then some (.int (iI 1), M7) else some (.int (iI 0), M7)) else some (.int r2, M1) :=
  (sx_eq O2 d m_RW_attempt [] 30 _ _ _ _).trans rfl
set_option maxRecDepth 100000 in
set_option maxHeartbeats 4000000 in
theorem e_RW_chance_0 (d : Nat) (x1 : Int32) (x2 : Int32) (M : Mem) : X2 d m_RW_chance 0 [.ref 100, .int x1, .int x2, uns, uns, uns] [] M = if x2 < 0 then some (.int (iI (-2)), M) else if iI 1 < x2 then some (.int (iI (-2)), M) else if x1 < 0 then some (.int (iI (-3)), M) else if iI 8 < x1 then some (.int (iI (-3)), M) else if gI M 111 1 = iI (-1) then some (.int (iI (-5)), M) else bI (c2 d m_RW_here [.ref 100] M) fun r2 M1 => bI (c2 d m_RW_share [.ref 100, .int r2, .int x1] M1) fun r4 M3 => bI (c2 d m_RW_powerOfTen [.int x1] M3) fun r6 M5 => bI (c2 d m_RW_commonDivisor [.int r4, .int r6] M5) fun r8 M7 => if r8 < iI 1 then some (.int (iI (-1)), M7) else if x2 = 0 then gb (!(decide (r8 = 0))) (some (.int (r4 / r8), M7)) else gb (!(decide (r8 = 0))) (some (.int (r6 / r8), M7)) :=
  (sx_eq O2 d m_RW_chance [] 39 _ _ _ _).trans rfl
set_option maxRecDepth 100000 in
set_option maxHeartbeats 4000000 in
theorem e_RW_gone_0 (d : Nat) (x1 : Int32) (M : Mem) : X2 d m_RW_gone 0 [.ref 100, .int x1, uns, uns] [] M = if x1 < 0 then some (.int (iI (-3)), M) else if iI 100 < x1 then some (.int (iI (-3)), M) else if gI M 111 1 = iI (-1) then some (.int (iI (-5)), M) else bI (c2 d m_RW_here [.ref 100] M) fun r2 M1 => X2 d m_RW_gone 34 [.ref 100, .int x1, .int r2, .int (iI 0)] [] M1 :=
  (sx_eq O2 d m_RW_gone [34] 16 _ _ _ _).trans rfl
set_option maxRecDepth 100000 in
set_option maxHeartbeats 4000000 in
theorem e_RW_gone_34 (d : Nat) (x1 : Int32) (x2 : Int32) (x3 : Int32) (M : Mem) : X2 d m_RW_gone 34 [.ref 100, .int x1, .int x2, .int x3] [] M = if iI 8 < x3 then some (.int (iI (-1)), M) else bI (c2 d m_RW_share [.ref 100, .int x2, .int x3] M) fun r2 M1 => bI (c2 d m_RW_powerOfTen [.int x3] M1) fun r4 M3 => if lg_cmp (((r2).toInt64) * (lI 100)) (((x1).toInt64) * ((r4).toInt64)) < 0 then some (.int x3, M3) else X2 d m_RW_gone 34 [.ref 100, .int x1, .int x2, .int (x3 + iI 1)] [] M3 :=
  (sx_eq O2 d m_RW_gone [34] 21 _ _ _ _).trans rfl
set_option maxRecDepth 100000 in
set_option maxHeartbeats 4000000 in
theorem e_RW_best_0 (d : Nat) (x1 : Int32) (M : Mem) : X2 d m_RW_best 0 [.ref 100, .int x1, uns, uns, uns, uns] [] M = if x1 < 0 then some (.int (iI (-3)), M) else if iI 8 < x1 then some (.int (iI (-3)), M) else bV (c2 d m_Stp_tune [.ref 127, .int (gI M 111 2)] M) fun M1 => X2 d m_RW_best 34 [.ref 100, .int x1, .int (iI (-1)), .int (iI (-1)), .int (iI 0), uns] [] M1 :=
  (sx_eq O2 d m_RW_best [34] 18 _ _ _ _).trans rfl
set_option maxRecDepth 100000 in
set_option maxHeartbeats 4000000 in
theorem e_RW_best_34 (d : Nat) (x1 : Int32) (x2 : Int32) (x3 : Int32) (x4 : Int32) (v5 : Value) (M : Mem) : X2 d m_RW_best 34 [.ref 100, .int x1, .int x2, .int x3, .int x4, v5] [] M = gb (isK O2 M (gR M 100 5) 16) (if x4 < gI M (gR M 100 5) 3 then bI (c2 d m_RW_placeOf [.int (gI M 111 0), .int x4] M) fun r2 M1 => bI (c2 d m_RW_share [.ref 100, .int r2, .int x1] M1) fun r4 M3 => if x3 < r4 then X2 d m_RW_best 34 [.ref 100, .int x1, .int x4, .int r4, .int (x4 + iI 1), .int r4] [] M3 else X2 d m_RW_best 34 [.ref 100, .int x1, .int x2, .int x3, .int (x4 + iI 1), .int r4] [] M3 else some (.int x2, M)) :=
  (sx_eq O2 d m_RW_best [34] 24 _ _ _ _).trans rfl
set_option maxRecDepth 100000 in
set_option maxHeartbeats 4000000 in
theorem e_RW_numbers_0 (d : Nat) (x1 : Int32) (x2 : Int32) (x3 : Int32) (M : Mem) : X2 d m_RW_numbers 0 [.ref 100, .int x1, .int x2, .int x3] [] M = bI (c2 d m_RW_isTray [.int x1] M) fun r2 M1 => if r2 = 0 then some (.int (iI (-2)), M1) else if x2 < 0 then some (.int (iI (-2)), M1) else if iI 3 < x2 then some (.int (iI (-2)), M1) else if x3 < 0 then some (.int (iI (-3)), M1) else if iI 40 < x3 then some (.int (iI (-3)), M1) else gb (false || false || inb x1 4) (gb (isK O2 M1 (gR M1 126 (ix x1)) 20 && !false) (bV (c2 d m_Tray_begin [.ref (gR M1 126 (ix x1)), .int x2, .int x3] M1) fun M3 => some (.int (iI 0), M3))) :=
  (sx_eq O2 d m_RW_numbers [] 23 _ _ _ _).trans rfl
set_option maxRecDepth 100000 in
set_option maxHeartbeats 4000000 in
theorem e_RW_write_0 (d : Nat) (x1 : Int32) (x2 : Int32) (x3 : Int64) (M : Mem) : X2 d m_RW_write 0 [.ref 100, .int x1, .int x2, .long x3, mk2] [] M = bI (c2 d m_RW_isTray [.int x1] M) fun r2 M1 => if r2 = 0 then some (.long (lI (-2)), M1) else gb (false || false || inb x1 4) (gb (isK O2 M1 (gR M1 126 (ix x1)) 20) (if gI M1 (gR M1 126 (ix x1)) 3 = 0 then if x2 < 0 then some (.long (lI (-7)), M1) else gb (false || false || inb x1 4) (gb (isK O2 M1 (gR M1 126 (ix x1)) 20) (if x2 < gI M1 (gR M1 126 (ix x1)) 2 then gb (false || false || inb x1 4) (gb (isK O2 M1 (gR M1 126 (ix x1)) 20 && !false) (bV (c2 d m_Tray_put [.ref (gR M1 126 (ix x1)), .int x2, .long x3] M1) fun M3 => gb (false || false || inb x1 4) (gb (isK O2 M3 (gR M3 126 (ix x1)) 20 && !false) (bL (c2 d m_Tray_at [.ref (gR M3 126 (ix x1)), .int x2] M3) fun r5 M4 => some (.long r5, M4))))) else some (.long (lI (-7)), M1))) else some (.long (lI (-6)), M1))) :=
  (sx_eq O2 d m_RW_write [] 33 _ _ _ _).trans rfl
set_option maxRecDepth 100000 in
set_option maxHeartbeats 4000000 in
theorem e_RW_lists_0 (d : Nat) (x1 : Int32) (x2 : Int32) (M : Mem) : X2 d m_RW_lists 0 [.ref 100, .int x1, .int x2, uns, uns] [] M = bI (c2 d m_RW_isTray [.int x1] M) fun r2 M1 => if r2 = 0 then some (.int (iI (-2)), M1) else gb (false || false || inb x1 4) (gb (isK O2 M1 (gR M1 126 (ix x1)) 20) (if gI M1 (gR M1 126 (ix x1)) 3 = 0 then bI (c2 d m_RW_isBlind [.int x2] M1) fun r4 M3 => if r4 = 0 then some (.int (iI (-3)), M3) else bI (c2 d m_RW_here [.ref 100] M3) fun r6 M5 => X2 d m_RW_lists 43 [.ref 100, .int x1, .int x2, .int r6, .int (iI 0)] [] M5 else some (.int (iI (-6)), M1))) :=
  (sx_eq O2 d m_RW_lists [43] 18 _ _ _ _).trans rfl
set_option maxRecDepth 100000 in
set_option maxHeartbeats 4000000 in
theorem e_RW_lists_43 (d : Nat) (x1 : Int32) (x2 : Int32) (x3 : Int32) (x4 : Int32) (M : Mem) : X2 d m_RW_lists 43 [.ref 100, .int x1, .int x2, .int x3, .int x4] [] M = gb (false || false || inb x1 4) (gb (isK O2 M (gR M 126 (ix x1)) 20) (if x4 < gI M (gR M 126 (ix x1)) 2 then bI (c2 d m_Stp_next [.ref 127, .int x3, .int x2] M) fun r2 M1 => gb (false || false || inb x1 4) (gb (isK O2 M1 (gR M1 126 (ix x1)) 20 && !false) (bV (c2 d m_Tray_put [.ref (gR M1 126 (ix x1)), .int x4, .long ((r2 &&& (iI 511)).toInt64)] M1) fun M3 => X2 d m_RW_lists 43 [.ref 100, .int x1, .int x2, .int r2, .int (x4 + iI 1)] [] M3)) else gb (false || false || inb x1 4) (gb (isK O2 M (gR M 126 (ix x1)) 20) (some (.int (gI M (gR M 126 (ix x1)) 2), M))))) :=
  (sx_eq O2 d m_RW_lists [43] 26 _ _ _ _).trans rfl
set_option maxRecDepth 100000 in
set_option maxHeartbeats 4000000 in
theorem e_RW_image_0 (d : Nat) (x1 : Int32) (M : Mem) : X2 d m_RW_image 0 [.ref 100, .int x1] [] M = if x1 < 0 then some (.int (iI (-2)), M) else if x1 < iI 2 then gb ((inb x1 2 || false || false) && isK O2 M (gR M 100 5) 16) (oB (wR2 M 109 (ix x1) (gR M 100 5)) fun M1 => gb (false || inb x1 2 || false) (gb (isK O2 M1 (gR M1 110 (ix x1)) 13 && !false) (bV (c2 d m_Mom_copy [.ref (gR M1 110 (ix x1)), .ref 111] M1) fun M2 => some (.int (iI 0), M2)))) else some (.int (iI (-2)), M) :=
  (sx_eq O2 d m_RW_image [] 21 _ _ _ _).trans rfl
set_option maxRecDepth 100000 in
set_option maxHeartbeats 4000000 in
theorem e_RW_restore_0 (d : Nat) (x1 : Int32) (M : Mem) : X2 d m_RW_restore 0 [.ref 100, .int x1] [] M = if x1 < 0 then some (.int (iI (-2)), M) else if x1 < iI 2 then gb (inb x1 2 || false || false) (gb (rOk (gR M 109 (ix x1))) (if gR M 109 (ix x1) = 0 then some (.int (iI (-5)), M) else gb (inb x1 2 || false || false) (gb (false || inb x1 2 || false) (bV (c2 d m_Mom_copy [.ref 111, .ref (gR M 110 (ix x1))] (wR M 100 5 (gR M 109 (ix x1)))) fun M1 => bV (c2 d m_Past_clear [.ref 114] M1) fun M2 => bV (c2 d m_Stp_take [.ref 127, .ref (gR M2 100 5)] M2) fun M3 => some (.int (iI 0), M3))))) else some (.int (iI (-2)), M) :=
  (sx_eq O2 d m_RW_restore [] 34 _ _ _ _).trans rfl
set_option maxRecDepth 100000 in
set_option maxHeartbeats 4000000 in
theorem e_RW_count_0 (d : Nat) (x1 : Int32) (M : Mem) : X2 d m_RW_count 0 [.ref 100, .int x1] [] M = if x1 = iI 0 then gb (isK O2 M (gR M 100 5) 16) (some (.int (gI M (gR M 100 5) 2), M)) else if x1 = iI 1 then gb (isK O2 M (gR M 100 5) 16) (some (.int (gI M (gR M 100 5) 3), M)) else if x1 = iI 2 then some (.int (gI M 111 0), M) else if x1 = iI 3 then some (.int (gI M 111 1), M) else if x1 = iI 4 then bI (c2 d m_Int_bitCount [.int (gI M 111 0)] M) fun r2 M1 => some (.int r2, M1) else if x1 = iI 5 then gb (isK O2 M (gR M 100 5) 16) (some (.int (gI M (gR M 100 5) 6), M)) else if x1 = iI 6 then some (.int (gI M 111 2), M) else if x1 = iI 7 then some (.int (gI M 111 3), M) else if x1 = iI 8 then some (.int (gI M 114 2), M) else if x1 = iI 9 then some (.int (gI M 100 1), M) else if x1 = iI 10 then gb (isK O2 M (gR M 100 5) 16) (some (.int (gI M (gR M 100 5) 9), M)) else some (.int (iI (-1)), M) :=
  (sx_eq O2 d m_RW_count [] 8 _ _ _ _).trans rfl
set_option maxRecDepth 100000 in
set_option maxHeartbeats 4000000 in
theorem e_RW_tapeFour_0 (d : Nat) (x1 : Int32) (M : Mem) : X2 d m_RW_tapeFour 0 [.ref 100, .int x1, uns] [] M = X2 d m_RW_tapeFour 3 [.ref 100, .int x1, .int (iI 24)] [] M :=
  (sx_eq O2 d m_RW_tapeFour [3] 3 _ _ _ _).trans rfl
set_option maxRecDepth 100000 in
set_option maxHeartbeats 4000000 in
theorem e_RW_tapeFour_3 (d : Nat) (x1 : Int32) (x2 : Int32) (M : Mem) : X2 d m_RW_tapeFour 3 [.ref 100, .int x1, .int x2] [] M = if x2 < 0 then some (.null, M) else if gI M 100 1 < iI 900 then gb (inb (gI M 100 1) 900) (X2 d m_RW_tapeFour 3 [.ref 100, .int x1, .int (x2 + iI (-8))] [] (wI (wI M 100 1 ((gI M 100 1) + (iI 1))) 101 (ix (gI M 100 1)) (((x1 >>> (x2 &&& 31)).toInt8.toInt32).toInt8.toInt32))) else some (.null, M) :=
  (sx_eq O2 d m_RW_tapeFour [3] 23 _ _ _ _).trans rfl
set_option maxRecDepth 100000 in
set_option maxHeartbeats 4000000 in
theorem e_RW_spareRoom_0 (d : Nat)  (M : Mem) : X2 d m_RW_spareRoom 0 [.ref 100, uns] [] M = X2 d m_RW_spareRoom 2 [.ref 100, .int (iI 1)] [] M :=
  (sx_eq O2 d m_RW_spareRoom [2] 3 _ _ _ _).trans rfl
set_option maxRecDepth 100000 in
set_option maxHeartbeats 4000000 in
theorem e_RW_spareRoom_2 (d : Nat) (x1 : Int32) (M : Mem) : X2 d m_RW_spareRoom 2 [.ref 100, .int x1] [] M = if x1 < iI 4 then gb (inb x1 4 || false || false) (gb (rOk (gR M 108 (ix x1)) && rOk (gR M 100 5)) (if gR M 108 (ix x1) = gR M 100 5 then X2 d m_RW_spareRoom 2 [.ref 100, .int (x1 + iI 1)] [] M else gb (inb x1 4 || false || false) (gb (rOk (gR M 108 (ix x1)) && rOk (gR M 109 0)) (if gR M 108 (ix x1) = gR M 109 0 then X2 d m_RW_spareRoom 2 [.ref 100, .int (x1 + iI 1)] [] M else gb (inb x1 4 || false || false) (gb (rOk (gR M 108 (ix x1)) && rOk (gR M 109 1)) (if gR M 108 (ix x1) = gR M 109 1 then X2 d m_RW_spareRoom 2 [.ref 100, .int (x1 + iI 1)] [] M else gb (inb x1 4 || false || false) (some (.ref (gR M 108 (ix x1)), M)))))))) else some (.ref 147, M) :=
  (sx_eq O2 d m_RW_spareRoom [2] 36 _ _ _ _).trans rfl
set_option maxRecDepth 100000 in
set_option maxHeartbeats 4000000 in
theorem e_RW_doneAlone_0 (d : Nat) (x1 : Int32) (x2 : Int32) (M : Mem) : X2 d m_RW_doneAlone 0 [.ref 100, .int x1, .int x2, uns] [] M = if x1 < 0 then some (.int (iI 1), M) else if iI 9 < x1 then some (.int (iI 1), M) else bV (c2 d m_Mom_copy [.ref 112, .ref 111] M) fun M1 => bI (c2 d m_RW_doDeed [.ref 100, .ref 111, .long ((x2 + x1).toInt64)] M1) fun r3 M2 => if r3 = 0 then bV (c2 d m_Past_keep [.ref 114, .ref 112] M2) fun M4 => some (.int r3, M4) else some (.int r3, M2) :=
  (sx_eq O2 d m_RW_doneAlone [] 29 _ _ _ _).trans rfl
set_option maxRecDepth 100000 in
set_option maxHeartbeats 4000000 in
theorem e_RW_isBlind_0 (d : Nat) (x0 : Int32) (M : Mem) : X2 d m_RW_isBlind 0 [.int x0] [] M = if x0 = 0 then some (.int (iI 1), M) else if x0 = iI 1 then some (.int (iI 1), M) else some (.int (iI 0), M) :=
  (sx_eq O2 d m_RW_isBlind [] 9 _ _ _ _).trans rfl
set_option maxRecDepth 100000 in
set_option maxHeartbeats 4000000 in
theorem e_RW_passNight_0 (d : Nat) (a1 : Nat) (x2 : Int32) (M : Mem) : X2 d m_RW_passNight 0 [.ref 100, .ref a1, .int x2] [] M = gb (isK O2 M a1 13 && !false) (bI (c2 d m_Mom_place [.ref a1] M) fun r2 M1 => gb (isK O2 M1 a1 13) (bI (c2 d m_Stp_pass [.ref 127, .int r2, .int x2, .int (gI M1 a1 2)] M1) fun r4 M3 => gb (isK O2 M3 a1 13 && !false) (bV (c2 d m_Mom_goTo [.ref a1, .int r4] M3) fun M5 => gb (isK O2 M5 a1 13) (gb (isK O2 M5 a1 13) (some (.null, wI M5 a1 3 ((gI M5 a1 3) + (iI 1)))))))) :=
  (sx_eq O2 d m_RW_passNight [] 18 _ _ _ _).trans rfl
set_option maxRecDepth 100000 in
set_option maxHeartbeats 4000000 in
theorem e_RW_isTray_0 (d : Nat) (x0 : Int32) (M : Mem) : X2 d m_RW_isTray 0 [.int x0] [] M = if x0 < 0 then some (.int (iI 0), M) else if x0 < iI 4 then some (.int (iI 1), M) else some (.int (iI 0), M) :=
  (sx_eq O2 d m_RW_isTray [] 9 _ _ _ _).trans rfl
set_option maxRecDepth 100000 in
set_option maxHeartbeats 4000000 in
theorem e_RW_doTray_0 (d : Nat) (a1 : Nat) (a2 : Nat) (M : Mem) : X2 d m_RW_doTray 0 [.ref 100, .ref a1, .ref a2, uns] [] M = X2 d m_RW_doTray 2 [.ref 100, .ref a1, .ref a2, .int (iI 0)] [] M :=
  (sx_eq O2 d m_RW_doTray [2] 3 _ _ _ _).trans rfl
set_option maxRecDepth 100000 in
set_option maxHeartbeats 4000000 in
theorem e_RW_doTray_2 (d : Nat) (a1 : Nat) (a2 : Nat) (x3 : Int32) (M : Mem) : X2 d m_RW_doTray 2 [.ref 100, .ref a1, .ref a2, .int x3] [] M = gb (isK O2 M a1 20) (if x3 < gI M a1 2 then gb (isK O2 M a1 20 && !false) (bL (c2 d m_Tray_at [.ref a1, .int x3] M) fun r2 M1 => bI (c2 d m_RW_doDeed [.ref 100, .ref a2, .long r2] M1) fun r4 M3 => if r4 = 0 then X2 d m_RW_doTray 2 [.ref 100, .ref a1, .ref a2, .int (x3 + iI 1)] [] M3 else some (.int x3, M3)) else some (.int x3, M)) :=
  (sx_eq O2 d m_RW_doTray [2] 14 _ _ _ _).trans rfl
set_option maxRecDepth 100000 in
set_option maxHeartbeats 4000000 in
theorem e_RW_doDeed_0 (d : Nat) (a1 : Nat) (x2 : Int64) (M : Mem) : X2 d m_RW_doDeed 0 [.ref 100, .ref a1, .long x2, mk2, uns] [] M = if lg_cmp x2 (lI 0) < 0 then some (.int (iI 1), M) else if lg_cmp x2 (lI 40) < 0 then if (((x2).toInt32) / (iI 10)) * (iI 10) = iI 10 then bI (c2 d m_RW_doLet [.ref 100, .ref a1, .int (irm ((x2).toInt32) (iI 10))] M) fun r2 M1 => some (.int r2, M1) else if (((x2).toInt32) / (iI 10)) * (iI 10) = iI 20 then gb (isK O2 M (gR M 100 5) 16 && !false) (bI (c2 d m_Room_hasRose [.ref (gR M 100 5), .int (irm ((x2).toInt32) (iI 10))] M) fun r4 M3 => if r4 = 0 then some (.int (iI 1), M3) else gb (isK O2 M3 a1 13) (gb (isK O2 M3 a1 13) (some (.int (iI 0), wI M3 a1 0 ((gI M3 a1 0) ^^^ ((iI 1) <<< ((irm ((x2).toInt32) (iI 10)) &&& 31))))))) else if (((x2).toInt32) / (iI 10)) * (iI 10) = iI 30 then gb (isK O2 M a1 13) (some (.int (iI 0), wI M a1 2 (irm ((x2).toInt32) (iI 10)))) else bI (c2 d m_RW_isBlind [.int (irm ((x2).toInt32) (iI 10))] M) fun r6 M5 => if r6 = 0 then some (.int (iI 1), M5) else bV (c2 d m_RW_passNight [.ref 100, .ref a1, .int (irm ((x2).toInt32) (iI 10))] M5) fun M7 => some (.int (iI 0), M7) else some (.int (iI 1), M) :=
  (sx_eq O2 d m_RW_doDeed [] 36 _ _ _ _).trans rfl
set_option maxRecDepth 100000 in
set_option maxHeartbeats 4000000 in
theorem e_RW_drawn_0 (d : Nat) (x0 : Int32) (M : Mem) : X2 d m_RW_drawn 0 [.int x0] [] M = some (.int (((iI 1103515245) * x0) + (iI 12345)), M) :=
  (sx_eq O2 d m_RW_drawn [] 7 _ _ _ _).trans rfl
set_option maxRecDepth 100000 in
set_option maxHeartbeats 4000000 in
theorem e_RW_seasonDeed_0 (d : Nat) (x0 : Int32) (x1 : Int32) (M : Mem) : X2 d m_RW_seasonDeed 0 [.int x0, .int x1] [] M = if x0 = iI 3 then some (.int ((iI 10) + (irm x1 (iI 4))), M) else if x0 = iI 4 then some (.int ((iI 20) + (irm x1 (iI 9))), M) else if x0 = iI 5 then some (.int ((iI 30) + (irm x1 (iI 10))), M) else some (.int (irm x1 (iI 2)), M) :=
  (sx_eq O2 d m_RW_seasonDeed [] 9 _ _ _ _).trans rfl
set_option maxRecDepth 100000 in
set_option maxHeartbeats 4000000 in
theorem e_RW_here_0 (d : Nat)  (M : Mem) : X2 d m_RW_here 0 [.ref 100] [] M = bV (c2 d m_Stp_tune [.ref 127, .int (gI M 111 2)] M) fun M1 => bI (c2 d m_Mom_place [.ref 111] M1) fun r3 M2 => some (.int r3, M2) :=
  (sx_eq O2 d m_RW_here [] 11 _ _ _ _).trans rfl
set_option maxRecDepth 100000 in
set_option maxHeartbeats 4000000 in
theorem e_RW_refusedSeen_0 (d : Nat) (x1 : Int32) (M : Mem) : X2 d m_RW_refusedSeen 0 [.ref 100, .int x1, uns, uns, uns] [] M = bI (c2 d m_RW_isTray [.int x1] M) fun r2 M1 => if r2 = 0 then some (.int (iI (-2)), M1) else gb (false || false || inb x1 4) (gb (isK O2 M1 (gR M1 126 (ix x1)) 20) (if gI M1 (gR M1 126 (ix x1)) 3 = 0 then gb (false || false || inb x1 4) (gb (isK O2 M1 (gR M1 126 (ix x1)) 20) (if gI M1 (gR M1 126 (ix x1)) 2 < iI 1 then some (.int (iI (-4)), M1) else gb (false || false || inb x1 4) (gb (isK O2 M1 (gR M1 126 (ix x1)) 20) (if iI 10 < gI M1 (gR M1 126 (ix x1)) 2 then some (.int (iI (-4)), M1) else X2 d m_RW_refusedSeen 57 [.ref 100, .int x1, .int (iI 0), uns, uns] [] M1)))) else some (.int (iI (-6)), M1))) :=
  (sx_eq O2 d m_RW_refusedSeen [57] 26 _ _ _ _).trans rfl
set_option maxRecDepth 100000 in
set_option maxHeartbeats 4000000 in
theorem e_RW_refusedSeen_57 (d : Nat) (x1 : Int32) (x2 : Int32) (v3 : Value) (v4 : Value) (M : Mem) : X2 d m_RW_refusedSeen 57 [.ref 100, .int x1, .int x2, v3, v4] [] M = gb (false || false || inb x1 4) (gb (isK O2 M (gR M 126 (ix x1)) 20) (if x2 < gI M (gR M 126 (ix x1)) 2 then gb (false || false || inb x1 4) (gb (isK O2 M (gR M 126 (ix x1)) 20 && !false) (bL (c2 d m_Tray_at [.ref (gR M 126 (ix x1)), .int x2] M) fun r2 M1 => if lg_cmp r2 (lI (-1)) < 0 then some (.int (iI (-3)), M1) else gb (isK O2 M1 (gR M1 100 5) 16 && !false) (bI (c2 d m_Room_fullWall [.ref (gR M1 100 5)] M1) fun r4 M3 => if 0 < lg_cmp r2 ((r4).toInt64) then some (.int (iI (-3)), M3) else X2 d m_RW_refusedSeen 57 [.ref 100, .int x1, .int (x2 + iI 1), .long r2, mk2] [] M3))) else some (.int (iI 0), M))) :=
  (sx_eq O2 d m_RW_refusedSeen [57] 28 _ _ _ _).trans rfl
set_option maxRecDepth 100000 in
set_option maxHeartbeats 4000000 in
theorem e_RW_rowsSeen_0 (d : Nat) (a1 : Nat) (x2 : Int32) (x3 : Int32) (M : Mem) : X2 d m_RW_rowsSeen 0 [.ref 100, .ref a1, .int x2, .int x3, uns, uns, uns] [] M = gb (isK O2 M a1 20) (if x3 < gI M a1 2 then if iI 10 < x3 then some (.int (iI 1), M) else X2 d m_RW_rowsSeen 22 [.ref 100, .ref a1, .int x2, .int x3, .int (iI 0), .int (iI 0), uns] [] M else some (.int (iI 1), M)) :=
  (sx_eq O2 d m_RW_rowsSeen [22] 12 _ _ _ _).trans rfl
set_option maxRecDepth 100000 in
set_option maxHeartbeats 4000000 in
theorem e_RW_rowsSeen_22 (d : Nat) (a1 : Nat) (x2 : Int32) (x3 : Int32) (x4 : Int32) (x5 : Int32) (v6 : Value) (M : Mem) : X2 d m_RW_rowsSeen 22 [.ref 100, .ref a1, .int x2, .int x3, .int x4, .int x5, v6] [] M = if iI 1 < x5 then some (.int x4, M) else bI (c2 d m_Stp_next [.ref 127, .int x2, .int x5] M) fun r2 M1 => gb (isK O2 M1 a1 20 && !false) (bI (c2 d m_Tray_fits [.ref a1, .int x3, .int (r2 &&& (iI 511))] M1) fun r4 M3 => if r4 = 0 then X2 d m_RW_rowsSeen 22 [.ref 100, .ref a1, .int x2, .int x3, .int x4, .int (x5 + iI 1), .int r2] [] M3 else bI (c2 d m_RW_rowsSeen [.ref 100, .ref a1, .int r2, .int (x3 + (iI 1))] M3) fun r6 M5 => X2 d m_RW_rowsSeen 22 [.ref 100, .ref a1, .int x2, .int x3, .int (x4 + r6), .int (x5 + iI 1), .int r2] [] M5) :=
  (sx_eq O2 d m_RW_rowsSeen [22] 29 _ _ _ _).trans rfl
set_option maxRecDepth 100000 in
set_option maxHeartbeats 4000000 in
theorem e_RW_isFirstBlind_0 (d : Nat) (a1 : Nat) (x2 : Int32) (x3 : Int32) (M : Mem) : X2 d m_RW_isFirstBlind 0 [.ref 100, .ref a1, .int x2, .int x3, uns] [] M = bI (c2 d m_Stp_next [.ref 127, .int x2, .int (iI 0)] M) fun r2 M1 => gb (isK O2 M1 a1 20 && !false) (bI (c2 d m_Tray_fits [.ref a1, .int x3, .int (r2 &&& (iI 511))] M1) fun r4 M3 => if r4 = 0 then some (.int (iI 0), M3) else bI (c2 d m_RW_rowsSeen [.ref 100, .ref a1, .int r2, .int (x3 + (iI 1))] M3) fun r6 M5 => if 0 < r6 then some (.int (iI 1), M5) else some (.int (iI 0), M5)) :=
  (sx_eq O2 d m_RW_isFirstBlind [] 25 _ _ _ _).trans rfl
set_option maxRecDepth 100000 in
set_option maxHeartbeats 4000000 in
theorem e_RW_placeOf_0 (d : Nat) (x0 : Int32) (x1 : Int32) (M : Mem) : X2 d m_RW_placeOf 0 [.int x0, .int x1] [] M = if x1 < 0 then some (.int ((x0 &&& (iI 511)) ||| ((iI 4) <<< ((iI 9) &&& 31))), M) else if x1 < iI 4 then some (.int ((x0 &&& (iI 511)) ||| (x1 <<< ((iI 9) &&& 31))), M) else some (.int ((x0 &&& (iI 511)) ||| ((iI 4) <<< ((iI 9) &&& 31))), M) :=
  (sx_eq O2 d m_RW_placeOf [] 15 _ _ _ _).trans rfl
set_option maxRecDepth 100000 in
set_option maxHeartbeats 4000000 in
theorem e_RW_refusedTempers_0 (d : Nat) (x1 : Int32) (x2 : Int32) (M : Mem) : X2 d m_RW_refusedTempers 0 [.ref 100, .int x1, .int x2, uns] [] M = bI (c2 d m_RW_refusedSeen [.ref 100, .int x1] M) fun r2 M1 => if r2 = 0 then if x2 < 0 then some (.int (iI (-3)), M1) else gb (false || false || inb x1 4) (gb (isK O2 M1 (gR M1 126 (ix x1)) 20) (if x2 < (iI 1) <<< ((gI M1 (gR M1 126 (ix x1)) 2) &&& 31) then some (.int (iI 0), M1) else some (.int (iI (-3)), M1))) else some (.int r2, M1) :=
  (sx_eq O2 d m_RW_refusedTempers [] 21 _ _ _ _).trans rfl
set_option maxRecDepth 100000 in
set_option maxHeartbeats 4000000 in
theorem e_RW_tempersSeen_0 (d : Nat) (a1 : Nat) (x2 : Int32) (M : Mem) : X2 d m_RW_tempersSeen 0 [.ref 100, .ref a1, .int x2, uns, uns] [] M = X2 d m_RW_tempersSeen 5 [.ref 100, .ref a1, .int x2, .int (iI 0), .int (iI 0)] [] M :=
  (sx_eq O2 d m_RW_tempersSeen [5] 5 _ _ _ _).trans rfl
set_option maxRecDepth 100000 in
set_option maxHeartbeats 4000000 in
theorem e_RW_tempersSeen_5 (d : Nat) (a1 : Nat) (x2 : Int32) (x3 : Int32) (x4 : Int32) (M : Mem) : X2 d m_RW_tempersSeen 5 [.ref 100, .ref a1, .int x2, .int x3, .int x4] [] M = if x4 < iI 10 then bI (c2 d m_RW_isTemperSeen [.ref 100, .ref a1, .int x2, .int x4] M) fun r2 M1 => if r2 = 0 then X2 d m_RW_tempersSeen 5 [.ref 100, .ref a1, .int x2, .int x3, .int (x4 + iI 1)] [] M1 else X2 d m_RW_tempersSeen 5 [.ref 100, .ref a1, .int x2, .int (x3 ||| ((iI 1) <<< (x4 &&& 31))), .int (x4 + iI 1)] [] M1 else some (.int x3, M) :=
  (sx_eq O2 d m_RW_tempersSeen [5] 18 _ _ _ _).trans rfl
set_option maxRecDepth 100000 in
set_option maxHeartbeats 4000000 in
theorem e_RW_mostAlike_0 (d : Nat) (x1 : Int32) (x2 : Int32) (M : Mem) : X2 d m_RW_mostAlike 0 [.ref 100, .int x1, .int x2, uns, uns] [] M = X2 d m_RW_mostAlike 2 [.ref 100, .int x1, .int x2, .int (iI 0), uns] [] M :=
  (sx_eq O2 d m_RW_mostAlike [2, 57] 3 _ _ _ _).trans rfl
set_option maxRecDepth 100000 in
set_option maxHeartbeats 4000000 in
theorem e_RW_mostAlike_2 (d : Nat) (x1 : Int32) (x2 : Int32) (x3 : Int32) (v4 : Value) (M : Mem) : X2 d m_RW_mostAlike 2 [.ref 100, .int x1, .int x2, .int x3, v4] [] M = if x3 < iI 10 then if (x1 >>> (x3 &&& 31)) &&& (iI 1) = 0 then gb (inb x3 10) (X2 d m_RW_mostAlike 2 [.ref 100, .int x1, .int x2, .int (x3 + iI 1), v4] [] (wI M 146 (ix x3) (iI (-1)))) else bI (c2 d m_Mom_place [.ref 111] M) fun r2 M1 => bI (c2 d m_Stp_pass [.ref 127, .int r2, .int x2, .int x3] M1) fun r4 M3 => gb (inb x3 10) (X2 d m_RW_mostAlike 2 [.ref 100, .int x1, .int x2, .int (x3 + iI 1), v4] [] (wI M3 146 (ix x3) (r4 &&& (iI 511)))) else X2 d m_RW_mostAlike 57 [.ref 100, .int x1, .int x2, .int (iI 0), .int (iI 0)] [] M :=
  (sx_eq O2 d m_RW_mostAlike [2, 57] 27 _ _ _ _).trans rfl
set_option maxRecDepth 100000 in
set_option maxHeartbeats 4000000 in
theorem e_RW_mostAlike_57 (d : Nat) (v1 : Value) (v2 : Value) (x3 : Int32) (x4 : Int32) (M : Mem) : X2 d m_RW_mostAlike 57 [.ref 100, v1, v2, .int x3, .int x4] [] M = if x4 < iI 10 then gb (inb x4 10) (if gI M 146 (ix x4) = iI (-1) then X2 d m_RW_mostAlike 57 [.ref 100, v1, v2, .int x3, .int (x4 + iI 1)] [] M else gb (inb x4 10) (bI (c2 d m_RW_alike [.ref 100, .int (gI M 146 (ix x4))] M) fun r2 M1 => bI (c2 d m_Mat_max [.int x3, .int r2] M1) fun r4 M3 => X2 d m_RW_mostAlike 57 [.ref 100, v1, v2, .int r4, .int (x4 + iI 1)] [] M3)) else some (.int x3, M) :=
  (sx_eq O2 d m_RW_mostAlike [2, 57] 21 _ _ _ _).trans rfl
set_option maxRecDepth 100000 in
set_option maxHeartbeats 4000000 in
theorem e_RW_share_0 (d : Nat) (x1 : Int32) (x2 : Int32) (M : Mem) : X2 d m_RW_share 0 [.ref 100, .int x1, .int x2, uns] [] M = if x1 >>> ((iI 9) &&& 31) = iI 4 then some (.int (iI 0), M) else if iI 8 < x2 then some (.int (iI 0), M) else if 0 < x2 then gb (isK O2 M (gR M 100 5) 16) (if 0 < gI M (gR M 100 5) 7 then gb (isK O2 M (gR M 100 5) 16) (bI (c2 d m_Stp_next [.ref 127, .int x1, .int (iI 1)] M) fun r2 M1 => bI (c2 d m_RW_share [.ref 100, .int r2, .int (x2 - (iI 1))] M1) fun r4 M3 => X2 d m_RW_share 61 [.ref 100, .int x1, .int x2, .int ((iI 0) + ((gI M (gR M 100 5) 7) * r4))] [] M3) else X2 d m_RW_share 61 [.ref 100, .int x1, .int x2, .int (iI 0)] [] M) else some (.int (iI 1), M) :=
  (sx_eq O2 d m_RW_share [61] 34 _ _ _ _).trans rfl
set_option maxRecDepth 100000 in
set_option maxHeartbeats 4000000 in
theorem e_RW_share_61 (d : Nat) (x1 : Int32) (x2 : Int32) (x3 : Int32) (M : Mem) : X2 d m_RW_share 61 [.ref 100, .int x1, .int x2, .int x3] [] M = gb (isK O2 M (gR M 100 5) 16) (if gI M (gR M 100 5) 7 < iI 10 then gb (isK O2 M (gR M 100 5) 16) (bI (c2 d m_Stp_next [.ref 127, .int x1, .int (iI 0)] M) fun r2 M1 => bI (c2 d m_RW_share [.ref 100, .int r2, .int (x2 - (iI 1))] M1) fun r4 M3 => some (.int (x3 + (((iI 10) - (gI M (gR M 100 5) 7)) * r4)), M3)) else some (.int x3, M)) :=
  (sx_eq O2 d m_RW_share [61] 27 _ _ _ _).trans rfl
set_option maxRecDepth 100000 in
set_option maxHeartbeats 4000000 in
theorem e_RW_powerOfTen_0 (d : Nat) (x0 : Int32) (M : Mem) : X2 d m_RW_powerOfTen 0 [.int x0, uns, uns] [] M = X2 d m_RW_powerOfTen 4 [.int x0, .int (iI 1), .int (iI 0)] [] M :=
  (sx_eq O2 d m_RW_powerOfTen [4] 5 _ _ _ _).trans rfl
set_option maxRecDepth 100000 in
set_option maxHeartbeats 4000000 in
theorem e_RW_powerOfTen_4 (d : Nat) (x0 : Int32) (x1 : Int32) (x2 : Int32) (M : Mem) : X2 d m_RW_powerOfTen 4 [.int x0, .int x1, .int x2] [] M = if x2 < x0 then if x2 < iI 9 then X2 d m_RW_powerOfTen 4 [.int x0, .int (x1 * (iI 10)), .int (x2 + iI 1)] [] M else some (.int x1, M) else some (.int x1, M) :=
  (sx_eq O2 d m_RW_powerOfTen [4] 13 _ _ _ _).trans rfl
set_option maxRecDepth 100000 in
set_option maxHeartbeats 4000000 in
theorem e_RW_commonDivisor_0 (d : Nat) (x0 : Int32) (x1 : Int32) (M : Mem) : X2 d m_RW_commonDivisor 0 [.int x0, .int x1, uns, uns, uns, uns] [] M = X2 d m_RW_commonDivisor 7 [.int x0, .int x1, .int x0, .int x1, .int (iI 0), uns] [] M :=
  (sx_eq O2 d m_RW_commonDivisor [7] 7 _ _ _ _).trans rfl
set_option maxRecDepth 100000 in
set_option maxHeartbeats 4000000 in
theorem e_RW_commonDivisor_7 (d : Nat) (v0 : Value) (v1 : Value) (x2 : Int32) (x3 : Int32) (x4 : Int32) (v5 : Value) (M : Mem) : X2 d m_RW_commonDivisor 7 [v0, v1, .int x2, .int x3, .int x4, v5] [] M = if x4 < iI 100 then if x3 = 0 then some (.int x2, M) else gb (!(decide (x3 = 0))) (X2 d m_RW_commonDivisor 7 [v0, v1, .int x3, .int (irm x2 x3), .int (x4 + iI 1), .int (irm x2 x3)] [] M) else some (.int x2, M) :=
  (sx_eq O2 d m_RW_commonDivisor [7] 16 _ _ _ _).trans rfl
set_option maxRecDepth 100000 in
set_option maxHeartbeats 4000000 in
theorem e_RW_doLet_0 (d : Nat) (a1 : Nat) (x2 : Int32) (M : Mem) : X2 d m_RW_doLet 0 [.ref 100, .ref a1, .int x2] [] M = gb (isK O2 M (gR M 100 5) 16 && !false) (bI (c2 d m_Room_hasTenant [.ref (gR M 100 5), .int x2] M) fun r2 M1 => if r2 = 0 then some (.int (iI 1), M1) else gb (isK O2 M1 a1 13) (if gI M1 a1 1 = iI (-1) then gb (isK O2 M1 a1 13) (some (.int (iI 0), wI M1 a1 1 x2)) else some (.int (iI 2), M1))) :=
  (sx_eq O2 d m_RW_doLet [] 15 _ _ _ _).trans rfl
set_option maxRecDepth 100000 in
set_option maxHeartbeats 4000000 in
theorem e_RW_isTemperSeen_0 (d : Nat) (a1 : Nat) (x2 : Int32) (x3 : Int32) (M : Mem) : X2 d m_RW_isTemperSeen 0 [.ref 100, .ref a1, .int x2, .int x3, uns, uns] [] M = bI (c2 d m_Mom_place [.ref 111] M) fun r2 M1 => X2 d m_RW_isTemperSeen 12 [.ref 100, .ref a1, .int x2, .int x3, .int r2, .int (iI 0)] [] M1 :=
  (sx_eq O2 d m_RW_isTemperSeen [12] 7 _ _ _ _).trans rfl
set_option maxRecDepth 100000 in
set_option maxHeartbeats 4000000 in
theorem e_RW_isTemperSeen_12 (d : Nat) (a1 : Nat) (x2 : Int32) (x3 : Int32) (x4 : Int32) (x5 : Int32) (M : Mem) : X2 d m_RW_isTemperSeen 12 [.ref 100, .ref a1, .int x2, .int x3, .int x4, .int x5] [] M = gb (isK O2 M a1 20) (if x5 < gI M a1 2 then bI (c2 d m_Stp_pass [.ref 127, .int x4, .int ((x2 >>> (x5 &&& 31)) &&& (iI 1)), .int x3] M) fun r2 M1 => gb (isK O2 M1 a1 20 && !false) (bI (c2 d m_Tray_fits [.ref a1, .int x5, .int (r2 &&& (iI 511))] M1) fun r4 M3 => if r4 = 0 then some (.int (iI 0), M3) else X2 d m_RW_isTemperSeen 12 [.ref 100, .ref a1, .int x2, .int x3, .int r2, .int (x5 + iI 1)] [] M3) else some (.int (iI 1), M)) :=
  (sx_eq O2 d m_RW_isTemperSeen [12] 25 _ _ _ _).trans rfl
set_option maxRecDepth 100000 in
set_option maxHeartbeats 4000000 in
theorem e_RW_alike_0 (d : Nat) (x1 : Int32) (M : Mem) : X2 d m_RW_alike 0 [.ref 100, .int x1, uns, uns] [] M = X2 d m_RW_alike 4 [.ref 100, .int x1, .int (iI 0), .int (iI 0)] [] M :=
  (sx_eq O2 d m_RW_alike [4] 5 _ _ _ _).trans rfl
set_option maxRecDepth 100000 in
set_option maxHeartbeats 4000000 in
theorem e_RW_alike_4 (d : Nat) (x1 : Int32) (x2 : Int32) (x3 : Int32) (M : Mem) : X2 d m_RW_alike 4 [.ref 100, .int x1, .int x2, .int x3] [] M = if x3 < iI 10 then gb (inb x3 10) (if gI M 146 (ix x3) = x1 then X2 d m_RW_alike 4 [.ref 100, .int x1, .int (x2 + iI 1), .int (x3 + iI 1)] [] M else X2 d m_RW_alike 4 [.ref 100, .int x1, .int x2, .int (x3 + iI 1)] [] M) else some (.int x2, M) :=
  (sx_eq O2 d m_RW_alike [4] 13 _ _ _ _).trans rfl
