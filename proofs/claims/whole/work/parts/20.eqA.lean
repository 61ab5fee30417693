/-! EQUATIONS of methods: written by wip/whole/gen/gen_eq.py. -/
set_option maxRecDepth 100000 in
set_option maxHeartbeats 4000000 in
theorem e_Mom_begin_0 (d : Nat) (a0 : Nat) (a1 : Nat) (M : Mem) : X2 d m_Mom_begin 0 [.ref a0, .ref a1] [] M = gb (isK O2 M a1 16) (gb (isK O2 M a0 13) (gb (isK O2 (wI M a0 0 (gI M a1 5)) a1 16) (gb (isK O2 (wI M a0 0 (gI M a1 5)) a0 13) (gb (isK O2 (wI (wI M a0 0 (gI M a1 5)) a0 1 (gI (wI M a0 0 (gI M a1 5)) a1 4)) a1 16) (gb (isK O2 (wI (wI M a0 0 (gI M a1 5)) a0 1 (gI (wI M a0 0 (gI M a1 5)) a1 4)) a0 13) (gb (isK O2 (wI (wI (wI M a0 0 (gI M a1 5)) a0 1 (gI (wI M a0 0 (gI M a1 5)) a1 4)) a0 2 (gI (wI (wI M a0 0 (gI M a1 5)) a0 1 (gI (wI M a0 0 (gI M a1 5)) a1 4)) a1 8)) a0 13) (some (.null, wI (wI (wI (wI M a0 0 (gI M a1 5)) a0 1 (gI (wI M a0 0 (gI M a1 5)) a1 4)) a0 2 (gI (wI (wI M a0 0 (gI M a1 5)) a0 1 (gI (wI M a0 0 (gI M a1 5)) a1 4)) a1 8)) a0 3 (iI 0))))))))) :=
  (sx_eq O2 d m_Mom_begin [] 17 _ _ _ _).trans rfl
set_option maxRecDepth 100000 in
set_option maxHeartbeats 4000000 in
theorem e_Past_clear_0 (d : Nat)  (M : Mem) : X2 d m_Past_clear 0 [.ref 114] [] M = some (.null, wI M 114 2 (iI 0)) :=
  (sx_eq O2 d m_Past_clear [] 5 _ _ _ _).trans rfl
set_option maxRecDepth 100000 in
set_option maxHeartbeats 4000000 in
theorem e_Room_hasRose_0 (d : Nat) (a0 : Nat) (x1 : Int32) (M : Mem) : X2 d m_Room_hasRose 0 [.ref a0, .int x1] [] M = if x1 < 0 then some (.int (iI 0), M) else gb (isK O2 M a0 16) (if x1 < gI M a0 2 then if x1 < iI 9 then some (.int (iI 1), M) else some (.int (iI 0), M) else some (.int (iI 0), M)) :=
  (sx_eq O2 d m_Room_hasRose [] 13 _ _ _ _).trans rfl
set_option maxRecDepth 100000 in
set_option maxHeartbeats 4000000 in
theorem e_Int_bitCount_0 (d : Nat) (x0 : Int32) (M : Mem) : X2 d m_Int_bitCount 0 [.int x0] [] M = some (.int ((((((((x0 - ((((x0).toUInt32 >>> ((iI 1).toUInt32 &&& Int32.toUInt32 31)).toInt32) &&& (iI 1431655765))) &&& (iI 858993459)) + ((((x0 - ((((x0).toUInt32 >>> ((iI 1).toUInt32 &&& Int32.toUInt32 31)).toInt32) &&& (iI 1431655765))).toUInt32 >>> ((iI 2).toUInt32 &&& Int32.toUInt32 31)).toInt32) &&& (iI 858993459))) + (((((x0 - ((((x0).toUInt32 >>> ((iI 1).toUInt32 &&& Int32.toUInt32 31)).toInt32) &&& (iI 1431655765))) &&& (iI 858993459)) + ((((x0 - ((((x0).toUInt32 >>> ((iI 1).toUInt32 &&& Int32.toUInt32 31)).toInt32) &&& (iI 1431655765))).toUInt32 >>> ((iI 2).toUInt32 &&& Int32.toUInt32 31)).toInt32) &&& (iI 858993459))).toUInt32 >>> ((iI 4).toUInt32 &&& Int32.toUInt32 31)).toInt32)) &&& (iI 252645135)) + (((((((x0 - ((((x0).toUInt32 >>> ((iI 1).toUInt32 &&& Int32.toUInt32 31)).toInt32) &&& (iI 1431655765))) &&& (iI 858993459)) + ((((x0 - ((((x0).toUInt32 >>> ((iI 1).toUInt32 &&& Int32.toUInt32 31)).toInt32) &&& (iI 1431655765))).toUInt32 >>> ((iI 2).toUInt32 &&& Int32.toUInt32 31)).toInt32) &&& (iI 858993459))) + (((((x0 - ((((x0).toUInt32 >>> ((iI 1).toUInt32 &&& Int32.toUInt32 31)).toInt32) &&& (iI 1431655765))) &&& (iI 858993459)) + ((((x0 - ((((x0).toUInt32 >>> ((iI 1).toUInt32 &&& Int32.toUInt32 31)).toInt32) &&& (iI 1431655765))).toUInt32 >>> ((iI 2).toUInt32 &&& Int32.toUInt32 31)).toInt32) &&& (iI 858993459))).toUInt32 >>> ((iI 4).toUInt32 &&& Int32.toUInt32 31)).toInt32)) &&& (iI 252645135)).toUInt32 >>> ((iI 8).toUInt32 &&& Int32.toUInt32 31)).toInt32)) + ((((((((x0 - ((((x0).toUInt32 >>> ((iI 1).toUInt32 &&& Int32.toUInt32 31)).toInt32) &&& (iI 1431655765))) &&& (iI 858993459)) + ((((x0 - ((((x0).toUInt32 >>> ((iI 1).toUInt32 &&& Int32.toUInt32 31)).toInt32) &&& (iI 1431655765))).toUInt32 >>> ((iI 2).toUInt32 &&& Int32.toUInt32 31)).toInt32) &&& (iI 858993459))) + (((((x0 - ((((x0).toUInt32 >>> ((iI 1).toUInt32 &&& Int32.toUInt32 31)).toInt32) &&& (iI 1431655765))) &&& (iI 858993459)) + ((((x0 - ((((x0).toUInt32 >>> ((iI 1).toUInt32 &&& Int32.toUInt32 31)).toInt32) &&& (iI 1431655765))).toUInt32 >>> ((iI 2).toUInt32 &&& Int32.toUInt32 31)).toInt32) &&& (iI 858993459))).toUInt32 >>> ((iI 4).toUInt32 &&& Int32.toUInt32 31)).toInt32)) &&& (iI 252645135)) + (((((((x0 - ((((x0).toUInt32 >>> ((iI 1).toUInt32 &&& Int32.toUInt32 31)).toInt32) &&& (iI 1431655765))) &&& (iI 858993459)) + ((((x0 - ((((x0).toUInt32 >>> ((iI 1).toUInt32 &&& Int32.toUInt32 31)).toInt32) &&& (iI 1431655765))).toUInt32 >>> ((iI 2).toUInt32 &&& Int32.toUInt32 31)).toInt32) &&& (iI 858993459))) + (((((x0 - ((((x0).toUInt32 >>> ((iI 1).toUInt32 &&& Int32.toUInt32 31)).toInt32) &&& (iI 1431655765))) &&& (iI 858993459)) + ((((x0 - ((((x0).toUInt32 >>> ((iI 1).toUInt32 &&& Int32.toUInt32 31)).toInt32) &&& (iI 1431655765))).toUInt32 >>> ((iI 2).toUInt32 &&& Int32.toUInt32 31)).toInt32) &&& (iI 858993459))).toUInt32 >>> ((iI 4).toUInt32 &&& Int32.toUInt32 31)).toInt32)) &&& (iI 252645135)).toUInt32 >>> ((iI 8).toUInt32 &&& Int32.toUInt32 31)).toInt32)).toUInt32 >>> ((iI 16).toUInt32 &&& Int32.toUInt32 31)).toInt32)) &&& (iI 63)), M) :=
  (sx_eq O2 d m_Int_bitCount [] 43 _ _ _ _).trans rfl
set_option maxRecDepth 100000 in
set_option maxHeartbeats 4000000 in
theorem e_Mom_place_0 (d : Nat) (a0 : Nat) (M : Mem) : X2 d m_Mom_place 0 [.ref a0] [] M = gb (isK O2 M a0 13) (gb (isK O2 M a0 13) (bI (c2 d m_RW_placeOf [.int (gI M a0 0), .int (gI M a0 1)] M) fun r2 M1 => some (.int r2, M1))) :=
  (sx_eq O2 d m_Mom_place [] 7 _ _ _ _).trans rfl
set_option maxRecDepth 100000 in
set_option maxHeartbeats 4000000 in
theorem e_Room_hasTenant_0 (d : Nat) (a0 : Nat) (x1 : Int32) (M : Mem) : X2 d m_Room_hasTenant 0 [.ref a0, .int x1] [] M = if x1 < 0 then some (.int (iI 0), M) else gb (isK O2 M a0 16) (if x1 < gI M a0 3 then if x1 < iI 4 then some (.int (iI 1), M) else some (.int (iI 0), M) else some (.int (iI 0), M)) :=
  (sx_eq O2 d m_Room_hasTenant [] 13 _ _ _ _).trans rfl
set_option maxRecDepth 100000 in
set_option maxHeartbeats 4000000 in
theorem e_Past_keep_0 (d : Nat) (a1 : Nat) (M : Mem) : X2 d m_Past_keep 0 [.ref 114, .ref a1] [] M = gb (false || inb (gI M 114 1) 10 || false) (gb (isK O2 M (gR M 115 (ix (gI M 114 1))) 13 && !false) (bV (c2 d m_Mom_copy [.ref (gR M 115 (ix (gI M 114 1))), .ref a1] M) fun M1 => bI (c2 d m_Mat_min [.int ((gI M1 114 2) + (iI 1)), .int (iI 10)] (wI M1 114 1 (irm ((gI M1 114 1) + (iI 1)) (iI 10)))) fun r3 M2 => some (.null, wI M2 114 2 r3))) :=
  (sx_eq O2 d m_Past_keep [] 25 _ _ _ _).trans rfl
set_option maxRecDepth 100000 in
set_option maxHeartbeats 4000000 in
theorem e_Past_bringBack_0 (d : Nat) (x1 : Int32) (a2 : Nat) (M : Mem) : X2 d m_Past_bringBack 0 [.ref 114, .int x1, .ref a2] [] M = bI (c2 d m_Mat_floorMod [.int ((gI M 114 1) - x1), .int (iI 10)] M) fun r2 M1 => gb (false || inb r2 10 || false) (gb (isK O2 (wI (wI M1 114 1 r2) 114 2 ((gI M1 114 2) - x1)) a2 13 && !false) (bV (c2 d m_Mom_copy [.ref a2, .ref (gR M1 115 (ix r2))] (wI (wI M1 114 1 r2) 114 2 ((gI M1 114 2) - x1))) fun M3 => some (.null, M3))) :=
  (sx_eq O2 d m_Past_bringBack [] 23 _ _ _ _).trans rfl
set_option maxRecDepth 100000 in
set_option maxHeartbeats 4000000 in
theorem e_Mom_copy_0 (d : Nat) (a0 : Nat) (a1 : Nat) (M : Mem) : X2 d m_Mom_copy 0 [.ref a0, .ref a1] [] M = gb (isK O2 M a1 13) (gb (isK O2 M a0 13) (gb (isK O2 (wI M a0 0 (gI M a1 0)) a1 13) (gb (isK O2 (wI M a0 0 (gI M a1 0)) a0 13) (gb (isK O2 (wI (wI M a0 0 (gI M a1 0)) a0 1 (gI (wI M a0 0 (gI M a1 0)) a1 1)) a1 13) (gb (isK O2 (wI (wI M a0 0 (gI M a1 0)) a0 1 (gI (wI M a0 0 (gI M a1 0)) a1 1)) a0 13) (gb (isK O2 (wI (wI (wI M a0 0 (gI M a1 0)) a0 1 (gI (wI M a0 0 (gI M a1 0)) a1 1)) a0 2 (gI (wI (wI M a0 0 (gI M a1 0)) a0 1 (gI (wI M a0 0 (gI M a1 0)) a1 1)) a1 2)) a1 13) (gb (isK O2 (wI (wI (wI M a0 0 (gI M a1 0)) a0 1 (gI (wI M a0 0 (gI M a1 0)) a1 1)) a0 2 (gI (wI (wI M a0 0 (gI M a1 0)) a0 1 (gI (wI M a0 0 (gI M a1 0)) a1 1)) a1 2)) a0 13) (some (.null, wI (wI (wI (wI M a0 0 (gI M a1 0)) a0 1 (gI (wI M a0 0 (gI M a1 0)) a1 1)) a0 2 (gI (wI (wI M a0 0 (gI M a1 0)) a0 1 (gI (wI M a0 0 (gI M a1 0)) a1 1)) a1 2)) a0 3 (gI (wI (wI (wI M a0 0 (gI M a1 0)) a0 1 (gI (wI M a0 0 (gI M a1 0)) a1 1)) a0 2 (gI (wI (wI M a0 0 (gI M a1 0)) a0 1 (gI (wI M a0 0 (gI M a1 0)) a1 1)) a1 2)) a1 3)))))))))) :=
  (sx_eq O2 d m_Mom_copy [] 18 _ _ _ _).trans rfl
set_option maxRecDepth 100000 in
set_option maxHeartbeats 4000000 in
theorem e_Tray_at_0 (d : Nat) (a0 : Nat) (x1 : Int32) (M : Mem) : X2 d m_Tray_at 0 [.ref a0, .int x1] [] M = if x1 < 0 then some (.long (lI (-1)), M) else gb (isK O2 M a0 20) (if x1 < gI M a0 2 then gb (isK O2 M a0 20) (gb (at_ O2 M (gR M a0 0) 43 x1) (some (.long (gL M (gR M a0 0) (ix x1)), M))) else some (.long (lI (-1)), M)) :=
  (sx_eq O2 d m_Tray_at [] 12 _ _ _ _).trans rfl
set_option maxRecDepth 100000 in
set_option maxHeartbeats 4000000 in
theorem e_Room_hasWall_0 (d : Nat) (a0 : Nat) (x1 : Int32) (M : Mem) : X2 d m_Room_hasWall 0 [.ref a0, .int x1] [] M = if x1 < 0 then some (.int (iI 0), M) else gb (isK O2 M a0 16 && !false) (bI (c2 d m_Room_fullWall [.ref a0] M) fun r2 M1 => if r2 < x1 then some (.int (iI 0), M1) else some (.int (iI 1), M1)) :=
  (sx_eq O2 d m_Room_hasWall [] 10 _ _ _ _).trans rfl
set_option maxRecDepth 100000 in
set_option maxHeartbeats 4000000 in
theorem e_Tray_begin_0 (d : Nat) (a0 : Nat) (x1 : Int32) (x2 : Int32) (M : Mem) : X2 d m_Tray_begin 0 [.ref a0, .int x1, .int x2] [] M = gb (isK O2 M a0 20) (bI (c2 d m_Mat_min [.int x2, .int (iI 40)] (wI M a0 1 x1)) fun r2 M1 => bI (c2 d m_Mat_max [.int (iI 0), .int r2] M1) fun r4 M3 => gb (isK O2 M3 a0 20) (gb (isK O2 (wI M3 a0 2 r4) a0 20) (gb (isK O2 (wI (wI M3 a0 2 r4) a0 3 (iI 0)) a0 20) (bV (c2 d m_Arr_fillJ [.ref (gR M3 a0 0), .long (lI 0)] (wI (wI M3 a0 2 r4) a0 3 (iI 0))) fun M5 => some (.null, M5))))) :=
  (sx_eq O2 d m_Tray_begin [] 19 _ _ _ _).trans rfl
set_option maxRecDepth 100000 in
set_option maxHeartbeats 4000000 in
theorem e_Tray_put_0 (d : Nat) (a0 : Nat) (x1 : Int32) (x2 : Int64) (M : Mem) : X2 d m_Tray_put 0 [.ref a0, .int x1, .long x2, mk2] [] M = if x1 < 0 then some (.null, M) else gb (isK O2 M a0 20) (if x1 < gI M a0 2 then gb (isK O2 M a0 20) (if gI M a0 1 = iI 0 then gb (isK O2 M a0 20) (gb (at_ O2 M (gR M a0 0) 43 x1) (some (.null, wL M (gR M a0 0) (ix x1) ((((x2).toInt32).toInt8.toInt32).toInt64)))) else if gI M a0 1 = iI 1 then gb (isK O2 M a0 20) (gb (at_ O2 M (gR M a0 0) 43 x1) (some (.null, wL M (gR M a0 0) (ix x1) ((((x2).toInt32).toInt16.toInt32).toInt64)))) else if gI M a0 1 = iI 2 then gb (isK O2 M a0 20) (gb (at_ O2 M (gR M a0 0) 43 x1) (some (.null, wL M (gR M a0 0) (ix x1) (((x2).toInt32).toInt64)))) else gb (isK O2 M a0 20) (gb (at_ O2 M (gR M a0 0) 43 x1) (some (.null, wL M (gR M a0 0) (ix x1) x2)))) else some (.null, M)) :=
  (sx_eq O2 d m_Tray_put [] 20 _ _ _ _).trans rfl
set_option maxRecDepth 100000 in
set_option maxHeartbeats 4000000 in
theorem e_Room_clear_0 (d : Nat) (a0 : Nat) (M : Mem) : X2 d m_Room_clear 0 [.ref a0] [] M = gb (isK O2 M a0 16) (gb (isK O2 (wI M a0 3 (iI 0)) a0 16) (gb (isK O2 (wI (wI M a0 3 (iI 0)) a0 4 (iI (-1))) a0 16) (gb (isK O2 (wI (wI (wI M a0 3 (iI 0)) a0 4 (iI (-1))) a0 5 (iI 0)) a0 16) (gb (isK O2 (wI (wI (wI (wI M a0 3 (iI 0)) a0 4 (iI (-1))) a0 5 (iI 0)) a0 6 (iI 0)) a0 16) (gb (isK O2 (wI (wI (wI (wI (wI M a0 3 (iI 0)) a0 4 (iI (-1))) a0 5 (iI 0)) a0 6 (iI 0)) a0 7 (iI 5)) a0 16) (gb (isK O2 (wI (wI (wI (wI (wI (wI M a0 3 (iI 0)) a0 4 (iI (-1))) a0 5 (iI 0)) a0 6 (iI 0)) a0 7 (iI 5)) a0 8 (iI 0)) a0 16) (gb (isK O2 (wI (wI (wI (wI (wI (wI (wI M a0 3 (iI 0)) a0 4 (iI (-1))) a0 5 (iI 0)) a0 6 (iI 0)) a0 7 (iI 5)) a0 8 (iI 0)) a0 9 (iI 0)) a0 16) (bV (c2 d m_Arr_fillI [.ref (gR M a0 10), .int (iI 0)] (wI (wI (wI (wI (wI (wI (wI M a0 3 (iI 0)) a0 4 (iI (-1))) a0 5 (iI 0)) a0 6 (iI 0)) a0 7 (iI 5)) a0 8 (iI 0)) a0 9 (iI 0))) fun M1 => gb (isK O2 M1 a0 16) (gb (isK O2 M1 (gR M1 a0 13) 11 && !false) (bV (c2 d m_Lw_clear [.ref (gR M1 a0 13)] M1) fun M2 => gb (isK O2 M2 a0 16) (gb (isK O2 M2 (gR M2 a0 14) 11 && !false) (bV (c2 d m_Lw_clear [.ref (gR M2 a0 14)] M2) fun M3 => gb (isK O2 M3 a0 16 && !false) (bV (c2 d m_Room_shape [.ref a0, .int (iI 1), .int (iI 1)] M3) fun M4 => some (.null, M4)))))))))))))) :=
  (sx_eq O2 d m_Room_clear [] 37 _ _ _ _).trans rfl
set_option maxRecDepth 100000 in
set_option maxHeartbeats 4000000 in
theorem e_Arr_fillJ_0 (d : Nat) (a0 : Nat) (x1 : Int64) (M : Mem) : X2 d m_Arr_fillJ 0 [.ref a0, .long x1, mk2, uns, uns] [] M = bb (isK O2 M a0 1) (X2 d m_Arr_fillJ 6 [.ref a0, .long x1, mk2, .int (iI 0), .int (gI M 0 0)] [] M) (gb (isK O2 M a0 3 || isK O2 M a0 40 || isK O2 M a0 41 || isK O2 M a0 42 || isK O2 M a0 43 || isK O2 M a0 44 || isK O2 M a0 45 || isK O2 M a0 46) (X2 d m_Arr_fillJ 6 [.ref a0, .long x1, mk2, .int (iI 0), .int (iI (oS O2 M a0).2)] [] M)) :=
  (sx_eq O2 d m_Arr_fillJ [6] 6 _ _ _ _).trans rfl
set_option maxRecDepth 100000 in
set_option maxHeartbeats 4000000 in
theorem e_Arr_fillJ_6 (d : Nat) (a0 : Nat) (x1 : Int64) (x3 : Int32) (x4 : Int32) (M : Mem) : X2 d m_Arr_fillJ 6 [.ref a0, .long x1, mk2, .int x3, .int x4] [] M = if x3 < x4 then gb (at_ O2 M a0 43 x3) (X2 d m_Arr_fillJ 6 [.ref a0, .long x1, mk2, .int (x3 + iI 1), .int x4] [] (wL M a0 (ix x3) x1)) else some (.null, M) :=
  (sx_eq O2 d m_Arr_fillJ [6] 10 _ _ _ _).trans rfl
set_option maxRecDepth 100000 in
set_option maxHeartbeats 4000000 in
theorem e_Mat_min_0 (d : Nat) (x0 : Int32) (x1 : Int32) (M : Mem) : X2 d m_Mat_min 0 [.int x0, .int x1] [] M = if x1 < x0 then some (.int x1, M) else some (.int x0, M) :=
  (sx_eq O2 d m_Mat_min [] 7 _ _ _ _).trans rfl
set_option maxRecDepth 100000 in
set_option maxHeartbeats 4000000 in
theorem e_Mat_max_0 (d : Nat) (x0 : Int32) (x1 : Int32) (M : Mem) : X2 d m_Mat_max 0 [.int x0, .int x1] [] M = if x0 < x1 then some (.int x1, M) else some (.int x0, M) :=
  (sx_eq O2 d m_Mat_max [] 7 _ _ _ _).trans rfl
set_option maxRecDepth 100000 in
set_option maxHeartbeats 4000000 in
theorem e_Str_length_0 (d : Nat) (a0 : Nat) (M : Mem) : X2 d m_Str_length 0 [.ref a0] [] M = gb (isK O2 M a0 2) (bb (isK O2 M (a0 + 1) 1) (gb (isK O2 M a0 2 && !false) (bI (c2 d m_Str_coder [.ref a0] M) fun r2 M1 => some (.int ((gI M 0 0) >>> (r2 &&& 31)), M1))) (gb (isK O2 M (a0 + 1) 3 || isK O2 M (a0 + 1) 40 || isK O2 M (a0 + 1) 41 || isK O2 M (a0 + 1) 42 || isK O2 M (a0 + 1) 43 || isK O2 M (a0 + 1) 44 || isK O2 M (a0 + 1) 45 || isK O2 M (a0 + 1) 46) (gb (isK O2 M a0 2 && !false) (bI (c2 d m_Str_coder [.ref a0] M) fun r4 M3 => some (.int ((iI (oS O2 M (a0 + 1)).2) >>> (r4 &&& 31)), M3))))) :=
  (sx_eq O2 d m_Str_length [] 8 _ _ _ _).trans rfl
set_option maxRecDepth 100000 in
set_option maxHeartbeats 4000000 in
theorem e_Str_charAt_0 (d : Nat) (a0 : Nat) (x1 : Int32) (M : Mem) : X2 d m_Str_charAt 0 [.ref a0, .int x1] [] M = gb (isK O2 M a0 2 && !false) (bI (c2 d m_Str_isLatin1 [.ref a0] M) fun r2 M1 => if r2 = 0 then gb (isK O2 M1 a0 2) (none) else gb (isK O2 M1 a0 2) (bI (c2 d m_Lat_charAt [.ref (a0 + 1), .int x1] M1) fun r4 M3 => gb (decide ((r4).toUInt32.toUInt16.toUInt32.toInt32 = r4)) (some (.int r4, M3)))) :=
  (sx_eq O2 d m_Str_charAt [] 9 _ _ _ _).trans rfl
set_option maxRecDepth 100000 in
set_option maxHeartbeats 4000000 in
theorem e_Lw_isTold_0 (d : Nat) (a0 : Nat) (M : Mem) : X2 d m_Lw_isTold 0 [.ref a0] [] M = gb (isK O2 M a0 11) (if 0 < gI M a0 2 then some (.int (iI 1), M) else some (.int (iI 0), M)) :=
  (sx_eq O2 d m_Lw_isTold [] 7 _ _ _ _).trans rfl
set_option maxRecDepth 100000 in
set_option maxHeartbeats 4000000 in
theorem e_Lw_holds_0 (d : Nat) (a0 : Nat) (M : Mem) : X2 d m_Lw_holds 0 [.ref a0, .ref 130, uns, uns, uns] [] M = X2 d m_Lw_holds 4 [.ref a0, .ref 130, .int (iI 0), .int (iI 0), uns] [] M :=
  (sx_eq O2 d m_Lw_holds [4, 41] 5 _ _ _ _).trans rfl
set_option maxRecDepth 100000 in
set_option maxHeartbeats 4000000 in
theorem e_Lw_holds_4 (d : Nat) (a0 : Nat) (x2 : Int32) (x3 : Int32) (v4 : Value) (M : Mem) : X2 d m_Lw_holds 4 [.ref a0, .ref 130, .int x2, .int x3, v4] [] M = gb (isK O2 M a0 11) (if x3 < gI M a0 2 then if x3 < iI 900 then gb (isK O2 M a0 11) (bb (isK O2 M (gR M a0 0) 1) (gb (inb x3 (ix (gI M 0 0))) (if gI M (gR M a0 0) (ix x3) < 0 then if (gI M (gR M a0 0) (ix x3)) ^^^ (iI (-1)) < iI 10 then X2 d m_Lw_holds 41 [.ref a0, .ref 130, .int x2, .int x3, .int (gI M (gR M a0 0) (ix x3))] [] M else if (gI M (gR M a0 0) (ix x3)) ^^^ (iI (-1)) = iI 18 then if 0 < x2 then gb (isK O2 M a0 11) (gb (isK O2 M a0 11) (bb (isK O2 M (gR M a0 1) 1) (gb (inb (x2 - (iI 1)) (ix (gI M 0 0))) (gb (at_ O2 M (gR M a0 1) 40 (x2 - (iI 1))) (X2 d m_Lw_holds 4 [.ref a0, .ref 130, .int x2, .int (x3 + iI 1), .int (gI M (gR M a0 0) (ix x3))] [] (wI M (gR M a0 1) (ix (x2 - (iI 1))) ((iI 1) - (gI M (gR M a0 1) (ix (x2 - (iI 1))))))))) (gb (at_ O2 M (gR M a0 1) 40 (x2 - (iI 1))) (gb (at_ O2 M (gR M a0 1) 40 (x2 - (iI 1))) (X2 d m_Lw_holds 4 [.ref a0, .ref 130, .int x2, .int (x3 + iI 1), .int (gI M (gR M a0 0) (ix x3))] [] (wI M (gR M a0 1) (ix (x2 - (iI 1))) ((iI 1) - (gI M (gR M a0 1) (ix (x2 - (iI 1))))))))))) else X2 d m_Lw_holds 4 [.ref a0, .ref 130, .int x2, .int (x3 + iI 1), .int (gI M (gR M a0 0) (ix x3))] [] M else if iI 1 < x2 then gb (isK O2 M a0 11) (gb (isK O2 M a0 11) (bb (isK O2 M (gR M a0 1) 1) (gb (inb ((x2 + iI (-1)) - (iI 1)) (ix (gI M 0 0))) (gb (isK O2 M a0 11) (bb (isK O2 M (gR M a0 1) 1) (gb (inb (x2 + iI (-1)) (ix (gI M 0 0))) (bI (c2 d m_Lw_joined [.int ((gI M (gR M a0 0) (ix x3)) ^^^ (iI (-1))), .long ((gI M (gR M a0 1) (ix ((x2 + iI (-1)) - (iI 1)))).toInt64), .long ((gI M (gR M a0 1) (ix (x2 + iI (-1)))).toInt64)] M) fun r2 M1 => gb (at_ O2 M1 (gR M a0 1) 40 ((x2 + iI (-1)) - (iI 1))) (X2 d m_Lw_holds 4 [.ref a0, .ref 130, .int (x2 + iI (-1)), .int (x3 + iI 1), .int (gI M (gR M a0 0) (ix x3))] [] (wI M1 (gR M a0 1) (ix ((x2 + iI (-1)) - (iI 1))) r2)))) (gb (at_ O2 M (gR M a0 1) 40 (x2 + iI (-1))) (bI (c2 d m_Lw_joined [.int ((gI M (gR M a0 0) (ix x3)) ^^^ (iI (-1))), .long ((gI M (gR M a0 1) (ix ((x2 + iI (-1)) - (iI 1)))).toInt64), .long ((gI M (gR M a0 1) (ix (x2 + iI (-1)))).toInt64)] M) fun r2 M1 => gb (at_ O2 M1 (gR M a0 1) 40 ((x2 + iI (-1)) - (iI 1))) (X2 d m_Lw_holds 4 [.ref a0, .ref 130, .int (x2 + iI (-1)), .int (x3 + iI 1), .int (gI M (gR M a0 0) (ix x3))] [] (wI M1 (gR M a0 1) (ix ((x2 + iI (-1)) - (iI 1))) r2))))))) (gb (at_ O2 M (gR M a0 1) 40 ((x2 + iI (-1)) - (iI 1))) (gb (isK O2 M a0 11) (bb (isK O2 M (gR M a0 1) 1) (gb (inb (x2 + iI (-1)) (ix (gI M 0 0))) (bI (c2 d m_Lw_joined [.int ((gI M (gR M a0 0) (ix x3)) ^^^ (iI (-1))), .long ((gI M (gR M a0 1) (ix ((x2 + iI (-1)) - (iI 1)))).toInt64), .long ((gI M (gR M a0 1) (ix (x2 + iI (-1)))).toInt64)] M) fun r2 M1 => gb (at_ O2 M1 (gR M a0 1) 40 ((x2 + iI (-1)) - (iI 1))) (X2 d m_Lw_holds 4 [.ref a0, .ref 130, .int (x2 + iI (-1)), .int (x3 + iI 1), .int (gI M (gR M a0 0) (ix x3))] [] (wI M1 (gR M a0 1) (ix ((x2 + iI (-1)) - (iI 1))) r2)))) (gb (at_ O2 M (gR M a0 1) 40 (x2 + iI (-1))) (bI (c2 d m_Lw_joined [.int ((gI M (gR M a0 0) (ix x3)) ^^^ (iI (-1))), .long ((gI M (gR M a0 1) (ix ((x2 + iI (-1)) - (iI 1)))).toInt64), .long ((gI M (gR M a0 1) (ix (x2 + iI (-1)))).toInt64)] M) fun r2 M1 => gb (at_ O2 M1 (gR M a0 1) 40 ((x2 + iI (-1)) - (iI 1))) (X2 d m_Lw_holds 4 [.ref a0, .ref 130, .int (x2 + iI (-1)), .int (x3 + iI 1), .int (gI M (gR M a0 0) (ix x3))] [] (wI M1 (gR M a0 1) (ix ((x2 + iI (-1)) - (iI 1))) r2))))))))) else X2 d m_Lw_holds 4 [.ref a0, .ref 130, .int x2, .int (x3 + iI 1), .int (gI M (gR M a0 0) (ix x3))] [] M else X2 d m_Lw_holds 41 [.ref a0, .ref 130, .int x2, .int x3, .int (gI M (gR M a0 0) (ix x3))] [] M)) (gb (at_ O2 M (gR M a0 0) 40 x3) (if gI M (gR M a0 0) (ix x3) < 0 then if (gI M (gR M a0 0) (ix x3)) ^^^ (iI (-1)) < iI 10 then X2 d m_Lw_holds 41 [.ref a0, .ref 130, .int x2, .int x3, .int (gI M (gR M a0 0) (ix x3))] [] M else if (gI M (gR M a0 0) (ix x3)) ^^^ (iI (-1)) = iI 18 then if 0 < x2 then gb (isK O2 M a0 11) (gb (isK O2 M a0 11) (bb (isK O2 M (gR M a0 1) 1) (gb (inb (x2 - (iI 1)) (ix (gI M 0 0))) (gb (at_ O2 M (gR M a0 1) 40 (x2 - (iI 1))) (X2 d m_Lw_holds 4 [.ref a0, .ref 130, .int x2, .int (x3 + iI 1), .int (gI M (gR M a0 0) (ix x3))] [] (wI M (gR M a0 1) (ix (x2 - (iI 1))) ((iI 1) - (gI M (gR M a0 1) (ix (x2 - (iI 1))))))))) (gb (at_ O2 M (gR M a0 1) 40 (x2 - (iI 1))) (gb (at_ O2 M (gR M a0 1) 40 (x2 - (iI 1))) (X2 d m_Lw_holds 4 [.ref a0, .ref 130, .int x2, .int (x3 + iI 1), .int (gI M (gR M a0 0) (ix x3))] [] (wI M (gR M a0 1) (ix (x2 - (iI 1))) ((iI 1) - (gI M (gR M a0 1) (ix (x2 - (iI 1))))))))))) else X2 d m_Lw_holds 4 [.ref a0, .ref 130, .int x2, .int (x3 + iI 1), .int (gI M (gR M a0 0) (ix x3))] [] M else if iI 1 < x2 then gb (isK O2 M a0 11) (gb (isK O2 M a0 11) (bb (isK O2 M (gR M a0 1) 1) (gb (inb ((x2 + iI (-1)) - (iI 1)) (ix (gI M 0 0))) (gb (isK O2 M a0 11) (bb (isK O2 M (gR M a0 1) 1) (gb (inb (x2 + iI (-1)) (ix (gI M 0 0))) (bI (c2 d m_Lw_joined [.int ((gI M (gR M a0 0) (ix x3)) ^^^ (iI (-1))), .long ((gI M (gR M a0 1) (ix ((x2 + iI (-1)) - (iI 1)))).toInt64), .long ((gI M (gR M a0 1) (ix (x2 + iI (-1)))).toInt64)] M) fun r2 M1 => gb (at_ O2 M1 (gR M a0 1) 40 ((x2 + iI (-1)) - (iI 1))) (X2 d m_Lw_holds 4 [.ref a0, .ref 130, .int (x2 + iI (-1)), .int (x3 + iI 1), .int (gI M (gR M a0 0) (ix x3))] [] (wI M1 (gR M a0 1) (ix ((x2 + iI (-1)) - (iI 1))) r2)))) (gb (at_ O2 M (gR M a0 1) 40 (x2 + iI (-1))) (bI (c2 d m_Lw_joined [.int ((gI M (gR M a0 0) (ix x3)) ^^^ (iI (-1))), .long ((gI M (gR M a0 1) (ix ((x2 + iI (-1)) - (iI 1)))).toInt64), .long ((gI M (gR M a0 1) (ix (x2 + iI (-1)))).toInt64)] M) fun r2 M1 => gb (at_ O2 M1 (gR M a0 1) 40 ((x2 + iI (-1)) - (iI 1))) (X2 d m_Lw_holds 4 [.ref a0, .ref 130, .int (x2 + iI (-1)), .int (x3 + iI 1), .int (gI M (gR M a0 0) (ix x3))] [] (wI M1 (gR M a0 1) (ix ((x2 + iI (-1)) - (iI 1))) r2))))))) (gb (at_ O2 M (gR M a0 1) 40 ((x2 + iI (-1)) - (iI 1))) (gb (isK O2 M a0 11) (bb (isK O2 M (gR M a0 1) 1) (gb (inb (x2 + iI (-1)) (ix (gI M 0 0))) (bI (c2 d m_Lw_joined [.int ((gI M (gR M a0 0) (ix x3)) ^^^ (iI (-1))), .long ((gI M (gR M a0 1) (ix ((x2 + iI (-1)) - (iI 1)))).toInt64), .long ((gI M (gR M a0 1) (ix (x2 + iI (-1)))).toInt64)] M) fun r2 M1 => gb (at_ O2 M1 (gR M a0 1) 40 ((x2 + iI (-1)) - (iI 1))) (X2 d m_Lw_holds 4 [.ref a0, .ref 130, .int (x2 + iI (-1)), .int (x3 + iI 1), .int (gI M (gR M a0 0) (ix x3))] [] (wI M1 (gR M a0 1) (ix ((x2 + iI (-1)) - (iI 1))) r2)))) (gb (at_ O2 M (gR M a0 1) 40 (x2 + iI (-1))) (bI (c2 d m_Lw_joined [.int ((gI M (gR M a0 0) (ix x3)) ^^^ (iI (-1))), .long ((gI M (gR M a0 1) (ix ((x2 + iI (-1)) - (iI 1)))).toInt64), .long ((gI M (gR M a0 1) (ix (x2 + iI (-1)))).toInt64)] M) fun r2 M1 => gb (at_ O2 M1 (gR M a0 1) 40 ((x2 + iI (-1)) - (iI 1))) (X2 d m_Lw_holds 4 [.ref a0, .ref 130, .int (x2 + iI (-1)), .int (x3 + iI 1), .int (gI M (gR M a0 0) (ix x3))] [] (wI M1 (gR M a0 1) (ix ((x2 + iI (-1)) - (iI 1))) r2))))))))) else X2 d m_Lw_holds 4 [.ref a0, .ref 130, .int x2, .int (x3 + iI 1), .int (gI M (gR M a0 0) (ix x3))] [] M else X2 d m_Lw_holds 41 [.ref a0, .ref 130, .int x2, .int x3, .int (gI M (gR M a0 0) (ix x3))] [] M))) else if 0 < x2 then gb (isK O2 M a0 11) (bb (isK O2 M (gR M a0 1) 1) (gb (inb (x2 - (iI 1)) (ix (gI M 0 0))) (if gI M (gR M a0 1) (ix (x2 - (iI 1))) = 0 then some (.int (iI 0), M) else some (.int (iI 1), M))) (gb (at_ O2 M (gR M a0 1) 40 (x2 - (iI 1))) (if gI M (gR M a0 1) (ix (x2 - (iI 1))) = 0 then some (.int (iI 0), M) else some (.int (iI 1), M)))) else some (.int (iI 0), M) else if 0 < x2 then gb (isK O2 M a0 11) (bb (isK O2 M (gR M a0 1) 1) (gb (inb (x2 - (iI 1)) (ix (gI M 0 0))) (if gI M (gR M a0 1) (ix (x2 - (iI 1))) = 0 then some (.int (iI 0), M) else some (.int (iI 1), M))) (gb (at_ O2 M (gR M a0 1) 40 (x2 - (iI 1))) (if gI M (gR M a0 1) (ix (x2 - (iI 1))) = 0 then some (.int (iI 0), M) else some (.int (iI 1), M)))) else some (.int (iI 0), M)) :=
  (sx_eq O2 d m_Lw_holds [4, 41] 54 _ _ _ _).trans rfl
set_option maxRecDepth 100000 in
set_option maxHeartbeats 4000000 in
theorem e_Lw_holds_41 (d : Nat) (a0 : Nat) (x2 : Int32) (x3 : Int32) (x4 : Int32) (M : Mem) : X2 d m_Lw_holds 41 [.ref a0, .ref 130, .int x2, .int x3, .int x4] [] M = if x2 < iI 40 then gb (isK O2 M a0 11) (if x4 < 0 then gb (inb (x4 ^^^ (iI (-1))) 10) (gb (at_ O2 M (gR M a0 1) 40 x2) (X2 d m_Lw_holds 4 [.ref a0, .ref 130, .int (x2 + iI 1), .int (x3 + iI 1), .int x4] [] (wI M (gR M a0 1) (ix x2) (gI M 130 (ix (x4 ^^^ (iI (-1)))))))) else gb (at_ O2 M (gR M a0 1) 40 x2) (X2 d m_Lw_holds 4 [.ref a0, .ref 130, .int (x2 + iI 1), .int (x3 + iI 1), .int x4] [] (wI M (gR M a0 1) (ix x2) x4))) else X2 d m_Lw_holds 4 [.ref a0, .ref 130, .int x2, .int (x3 + iI 1), .int x4] [] M :=
  (sx_eq O2 d m_Lw_holds [4, 41] 19 _ _ _ _).trans rfl
set_option maxRecDepth 100000 in
set_option maxHeartbeats 4000000 in
theorem e_Mom_goTo_0 (d : Nat) (a0 : Nat) (x1 : Int32) (M : Mem) : X2 d m_Mom_goTo 0 [.ref a0, .int x1] [] M = gb (isK O2 M a0 13) (if x1 >>> ((iI 9) &&& 31) = iI 4 then gb (isK O2 (wI M a0 0 (x1 &&& (iI 511))) a0 13) (some (.null, wI (wI M a0 0 (x1 &&& (iI 511))) a0 1 (iI (-1)))) else gb (isK O2 (wI M a0 0 (x1 &&& (iI 511))) a0 13) (some (.null, wI (wI M a0 0 (x1 &&& (iI 511))) a0 1 (x1 >>> ((iI 9) &&& 31))))) :=
  (sx_eq O2 d m_Mom_goTo [] 17 _ _ _ _).trans rfl
set_option maxRecDepth 100000 in
set_option maxHeartbeats 4000000 in
theorem e_Mat_floorMod_0 (d : Nat) (x0 : Int32) (x1 : Int32) (M : Mem) : X2 d m_Mat_floorMod 0 [.int x0, .int x1, uns] [] M = gb (!(decide (x1 = 0))) (if x0 ^^^ x1 < 0 then if irm x0 x1 = 0 then some (.int (irm x0 x1), M) else some (.int ((irm x0 x1) + x1), M) else some (.int (irm x0 x1), M)) :=
  (sx_eq O2 d m_Mat_floorMod [] 15 _ _ _ _).trans rfl
set_option maxRecDepth 100000 in
set_option maxHeartbeats 4000000 in
theorem e_Room_fullWall_0 (d : Nat) (a0 : Nat) (M : Mem) : X2 d m_Room_fullWall 0 [.ref a0] [] M = gb (isK O2 M a0 16) (some (.int (((iI 1) <<< ((gI M a0 2) &&& 31)) - (iI 1)), M)) :=
  (sx_eq O2 d m_Room_fullWall [] 8 _ _ _ _).trans rfl
set_option maxRecDepth 100000 in
set_option maxHeartbeats 4000000 in
theorem e_Arr_fillI_0 (d : Nat) (a0 : Nat) (x1 : Int32) (M : Mem) : X2 d m_Arr_fillI 0 [.ref a0, .int x1, uns, uns] [] M = bb (isK O2 M a0 1) (X2 d m_Arr_fillI 5 [.ref a0, .int x1, .int (iI 0), .int (gI M 0 0)] [] M) (gb (isK O2 M a0 3 || isK O2 M a0 40 || isK O2 M a0 41 || isK O2 M a0 42 || isK O2 M a0 43 || isK O2 M a0 44 || isK O2 M a0 45 || isK O2 M a0 46) (X2 d m_Arr_fillI 5 [.ref a0, .int x1, .int (iI 0), .int (iI (oS O2 M a0).2)] [] M)) :=
  (sx_eq O2 d m_Arr_fillI [5] 6 _ _ _ _).trans rfl
set_option maxRecDepth 100000 in
set_option maxHeartbeats 4000000 in
theorem e_Arr_fillI_5 (d : Nat) (a0 : Nat) (x1 : Int32) (x2 : Int32) (x3 : Int32) (M : Mem) : X2 d m_Arr_fillI 5 [.ref a0, .int x1, .int x2, .int x3] [] M = if x2 < x3 then gb (at_ O2 M a0 40 x2) (X2 d m_Arr_fillI 5 [.ref a0, .int x1, .int (x2 + iI 1), .int x3] [] (wI M a0 (ix x2) x1)) else some (.null, M) :=
  (sx_eq O2 d m_Arr_fillI [5] 10 _ _ _ _).trans rfl
set_option maxRecDepth 100000 in
set_option maxHeartbeats 4000000 in
theorem e_Tray_fits_0 (d : Nat) (a0 : Nat) (x1 : Int32) (x2 : Int32) (M : Mem) : X2 d m_Tray_fits 0 [.ref a0, .int x1, .int x2, uns, uns] [] M = gb (isK O2 M a0 20 && !false) (bL (c2 d m_Tray_at [.ref a0, .int x1] M) fun r2 M1 => if lg_cmp r2 (lI (-1)) = 0 then some (.int (iI 1), M1) else if lg_cmp r2 ((x2).toInt64) = 0 then some (.int (iI 1), M1) else some (.int (iI 0), M1)) :=
  (sx_eq O2 d m_Tray_fits [] 17 _ _ _ _).trans rfl
set_option maxRecDepth 100000 in
set_option maxHeartbeats 4000000 in
theorem e_Lw_clear_0 (d : Nat) (a0 : Nat) (M : Mem) : X2 d m_Lw_clear 0 [.ref a0] [] M = gb (isK O2 M a0 11) (some (.null, wI M a0 2 (iI 0))) :=
  (sx_eq O2 d m_Lw_clear [] 5 _ _ _ _).trans rfl
set_option maxRecDepth 100000 in
set_option maxHeartbeats 4000000 in
theorem e_Room_shape_0 (d : Nat) (a0 : Nat) (x1 : Int32) (x2 : Int32) (M : Mem) : X2 d m_Room_shape 0 [.ref a0, .int x1, .int x2, uns] [] M = gb (isK O2 M a0 16) (gb (isK O2 (wI M a0 0 x1) a0 16) (gb (isK O2 (wI (wI M a0 0 x1) a0 1 x2) a0 16) (gb (isK O2 (wI (wI M a0 0 x1) a0 1 x2) a0 16) (gb (isK O2 (wI (wI M a0 0 x1) a0 1 x2) a0 16) (X2 d m_Room_shape 25 [.ref a0, .int x1, .int x2, .int (iI 0)] [] (wI (wI (wI M a0 0 x1) a0 1 x2) a0 2 ((gI (wI (wI M a0 0 x1) a0 1 x2) a0 0) * (gI (wI (wI M a0 0 x1) a0 1 x2) a0 1)))))))) :=
  (sx_eq O2 d m_Room_shape [25] 16 _ _ _ _).trans rfl
set_option maxRecDepth 100000 in
set_option maxHeartbeats 4000000 in
theorem e_Room_shape_25 (d : Nat) (a0 : Nat) (v1 : Value) (v2 : Value) (x3 : Int32) (M : Mem) : X2 d m_Room_shape 25 [.ref a0, v1, v2, .int x3] [] M = gb (isK O2 M a0 16) (if x3 < gI M a0 2 then if x3 < iI 9 then gb (isK O2 M a0 16) (gb (isK O2 M a0 16 && !false) (bI (c2 d m_Room_neighbours [.ref a0, .int x3] M) fun r2 M1 => gb (at_ O2 M1 (gR M a0 11) 40 x3) (X2 d m_Room_shape 25 [.ref a0, v1, v2, .int (x3 + iI 1)] [] (wI M1 (gR M a0 11) (ix x3) r2)))) else some (.null, M) else some (.null, M)) :=
  (sx_eq O2 d m_Room_shape [25] 17 _ _ _ _).trans rfl
set_option maxRecDepth 100000 in
set_option maxHeartbeats 4000000 in
theorem e_Str_indexOf_0 (d : Nat) (a0 : Nat) (x1 : Int32) (M : Mem) : X2 d m_Str_indexOf 0 [.ref a0, .int x1] [] M = gb (isK O2 M a0 2 && !false) (bI (c2 d m_Str_indexOf2 [.ref a0, .int x1, .int (iI 0)] M) fun r2 M1 => some (.int r2, M1)) :=
  (sx_eq O2 d m_Str_indexOf [] 6 _ _ _ _).trans rfl
set_option maxRecDepth 100000 in
set_option maxHeartbeats 4000000 in
theorem e_Str_coder_0 (d : Nat) (a0 : Nat) (M : Mem) : X2 d m_Str_coder 0 [.ref a0] [] M = gb (isK O2 M a0 2) (some (.int (iI 0), M)) :=
  (sx_eq O2 d m_Str_coder [] 7 _ _ _ _).trans rfl
set_option maxRecDepth 100000 in
set_option maxHeartbeats 4000000 in
theorem e_Str_isLatin1_0 (d : Nat) (a0 : Nat) (M : Mem) : X2 d m_Str_isLatin1 0 [.ref a0] [] M = gb (isK O2 M a0 2) (some (.int (iI 1), M)) :=
  (sx_eq O2 d m_Str_isLatin1 [] 9 _ _ _ _).trans rfl
set_option maxRecDepth 100000 in
set_option maxHeartbeats 4000000 in
theorem e_Lat_charAt_0 (d : Nat) (a0 : Nat) (x1 : Int32) (M : Mem) : X2 d m_Lat_charAt 0 [.ref a0, .int x1] [] M = bb (isK O2 M a0 1) (bV (c2 d m_Str_checkIndex [.int x1, .int (gI M 0 0)] M) fun M1 => bb (isK O2 M1 a0 3) (gb (inb x1 (oS O2 M1 a0).2) (gb (decide (((((txt a0 (ix x1)) &&& (iI 255)).toUInt32 % 65536).toInt32).toUInt32.toUInt16.toUInt32.toInt32 = (((txt a0 (ix x1)) &&& (iI 255)).toUInt32 % 65536).toInt32)) (some (.int ((((txt a0 (ix x1)) &&& (iI 255)).toUInt32 % 65536).toInt32), M1)))) (gb (at_ O2 M1 a0 41 x1 || at_ O2 M1 a0 42 x1) (gb (decide (((((gI M1 a0 (ix x1)) &&& (iI 255)).toUInt32 % 65536).toInt32).toUInt32.toUInt16.toUInt32.toInt32 = (((gI M1 a0 (ix x1)) &&& (iI 255)).toUInt32 % 65536).toInt32)) (some (.int ((((gI M1 a0 (ix x1)) &&& (iI 255)).toUInt32 % 65536).toInt32), M1))))) (gb (isK O2 M a0 3 || isK O2 M a0 40 || isK O2 M a0 41 || isK O2 M a0 42 || isK O2 M a0 43 || isK O2 M a0 44 || isK O2 M a0 45 || isK O2 M a0 46) (bV (c2 d m_Str_checkIndex [.int x1, .int (iI (oS O2 M a0).2)] M) fun M2 => bb (isK O2 M2 a0 3) (gb (inb x1 (oS O2 M2 a0).2) (gb (decide (((((txt a0 (ix x1)) &&& (iI 255)).toUInt32 % 65536).toInt32).toUInt32.toUInt16.toUInt32.toInt32 = (((txt a0 (ix x1)) &&& (iI 255)).toUInt32 % 65536).toInt32)) (some (.int ((((txt a0 (ix x1)) &&& (iI 255)).toUInt32 % 65536).toInt32), M2)))) (gb (at_ O2 M2 a0 41 x1 || at_ O2 M2 a0 42 x1) (gb (decide (((((gI M2 a0 (ix x1)) &&& (iI 255)).toUInt32 % 65536).toInt32).toUInt32.toUInt16.toUInt32.toInt32 = (((gI M2 a0 (ix x1)) &&& (iI 255)).toUInt32 % 65536).toInt32)) (some (.int ((((gI M2 a0 (ix x1)) &&& (iI 255)).toUInt32 % 65536).toInt32), M2)))))) :=
  (sx_eq O2 d m_Lat_charAt [] 12 _ _ _ _).trans rfl
set_option maxRecDepth 100000 in
set_option maxHeartbeats 4000000 in
theorem e_Lw_joined_0 (d : Nat) (x0 : Int32) (x1 : Int64) (x3 : Int64) (M : Mem) : X2 d m_Lw_joined 0 [.int x0, .long x1, mk2, .long x3, mk2, uns, uns] [] M = if x0 = iI 17 then some (.int ((x1 &&& x3).toInt32), M) else if x0 = iI 42 then if 0 < lg_cmp (x1 * x3) (lI 1000000) then some (.int (iI 1000000), M) else if lg_cmp (x1 * x3) (lI (-1000000)) < 0 then some (.int (iI (-1000000)), M) else some (.int ((x1 * x3).toInt32), M) else if x0 = iI 43 then if 0 < lg_cmp (x1 + x3) (lI 1000000) then some (.int (iI 1000000), M) else if lg_cmp (x1 + x3) (lI (-1000000)) < 0 then some (.int (iI (-1000000)), M) else some (.int ((x1 + x3).toInt32), M) else if x0 = iI 45 then if 0 < lg_cmp (x1 - x3) (lI 1000000) then some (.int (iI 1000000), M) else if lg_cmp (x1 - x3) (lI (-1000000)) < 0 then some (.int (iI (-1000000)), M) else some (.int ((x1 - x3).toInt32), M) else if x0 = iI 60 then if lg_cmp x1 x3 < 0 then some (.int (iI 1), M) else some (.int (iI 0), M) else if x0 = iI 61 then if lg_cmp x1 x3 = 0 then some (.int (iI 1), M) else some (.int (iI 0), M) else if x0 = iI 62 then if 0 < lg_cmp x1 x3 then some (.int (iI 1), M) else some (.int (iI 0), M) else some (.int ((x1 ||| x3).toInt32), M) :=
  (sx_eq O2 d m_Lw_joined [] 19 _ _ _ _).trans rfl
set_option maxRecDepth 100000 in
set_option maxHeartbeats 4000000 in
theorem e_Room_neighbours_0 (d : Nat) (a0 : Nat) (x1 : Int32) (M : Mem) : X2 d m_Room_neighbours 0 [.ref a0, .int x1, uns, uns, uns, uns] [] M = X2 d m_Room_neighbours 4 [.ref a0, .int x1, .int (iI 0), .int (iI 0), uns, uns] [] M :=
  (sx_eq O2 d m_Room_neighbours [4] 5 _ _ _ _).trans rfl
set_option maxRecDepth 100000 in
set_option maxHeartbeats 4000000 in
theorem e_Room_neighbours_4 (d : Nat) (a0 : Nat) (x1 : Int32) (x2 : Int32) (x3 : Int32) (v4 : Value) (v5 : Value) (M : Mem) : X2 d m_Room_neighbours 4 [.ref a0, .int x1, .int x2, .int x3, v4, v5] [] M = gb (isK O2 M a0 16) (if x3 < gI M a0 2 then gb (isK O2 M a0 16) (if 0 < gI M a0 1 then gb (isK O2 M a0 16) (gb (!(decide (gI M a0 1 = 0))) (gb (isK O2 M a0 16) (gb (!(decide (gI M a0 1 = 0))) (bI (c2 d m_Mat_abs [.int ((x3 / (gI M a0 1)) - (x1 / (gI M a0 1)))] M) fun r2 M1 => gb (isK O2 M1 a0 16) (gb (!(decide (gI M1 a0 1 = 0))) (gb (isK O2 M1 a0 16) (gb (!(decide (gI M1 a0 1 = 0))) (bI (c2 d m_Mat_abs [.int ((irm x3 (gI M1 a0 1)) - (irm x1 (gI M1 a0 1)))] M1) fun r4 M3 => if x3 = x1 then X2 d m_Room_neighbours 4 [.ref a0, .int x1, .int x2, .int (x3 + iI 1), .int r2, .int r4] [] M3 else if iI 1 < r2 then X2 d m_Room_neighbours 4 [.ref a0, .int x1, .int x2, .int (x3 + iI 1), .int r2, .int r4] [] M3 else if iI 1 < r4 then X2 d m_Room_neighbours 4 [.ref a0, .int x1, .int x2, .int (x3 + iI 1), .int r2, .int r4] [] M3 else X2 d m_Room_neighbours 4 [.ref a0, .int x1, .int (x2 ||| ((iI 1) <<< (x3 &&& 31))), .int (x3 + iI 1), .int r2, .int r4] [] M3)))))))) else some (.int x2, M)) else some (.int x2, M)) :=
  (sx_eq O2 d m_Room_neighbours [4] 47 _ _ _ _).trans rfl
set_option maxRecDepth 100000 in
set_option maxHeartbeats 4000000 in
theorem e_Str_indexOf2_0 (d : Nat) (a0 : Nat) (x1 : Int32) (x2 : Int32) (M : Mem) : X2 d m_Str_indexOf2 0 [.ref a0, .int x1, .int x2] [] M = gb (isK O2 M a0 2 && !false) (bI (c2 d m_Str_isLatin1 [.ref a0] M) fun r2 M1 => if r2 = 0 then gb (isK O2 M1 a0 2) (gb (isK O2 M1 a0 2 && !false) (bI (c2 d m_Str_length [.ref a0] M1) fun r4 M3 => none)) else gb (isK O2 M1 a0 2) (gb (isK O2 M1 a0 2 && !false) (bI (c2 d m_Str_length [.ref a0] M1) fun r6 M5 => bI (c2 d m_Lat_indexOf [.ref (a0 + 1), .int x1, .int x2, .int r6] M5) fun r8 M7 => some (.int r8, M7)))) :=
  (sx_eq O2 d m_Str_indexOf2 [] 13 _ _ _ _).trans rfl
set_option maxRecDepth 100000 in
set_option maxHeartbeats 4000000 in
theorem e_Str_checkIndex_0 (d : Nat) (x0 : Int32) (x1 : Int32) (M : Mem) : X2 d m_Str_checkIndex 0 [.int x0, .int x1] [] M = bI (c2 d m_Pre_checkIndex [.int x0, .int x1, .ref 2] M) fun r2 M1 => some (.null, M1) :=
  (sx_eq O2 d m_Str_checkIndex [] 7 _ _ _ _).trans rfl
set_option maxRecDepth 100000 in
set_option maxHeartbeats 4000000 in
theorem e_Mat_abs_0 (d : Nat) (x0 : Int32) (M : Mem) : X2 d m_Mat_abs 0 [.int x0] [] M = if x0 < 0 then some (.int (-x0), M) else some (.int x0, M) :=
  (sx_eq O2 d m_Mat_abs [] 7 _ _ _ _).trans rfl
set_option maxRecDepth 100000 in
set_option maxHeartbeats 4000000 in
theorem e_Lat_indexOf_0 (d : Nat) (a0 : Nat) (x1 : Int32) (x2 : Int32) (x3 : Int32) (M : Mem) : X2 d m_Lat_indexOf 0 [.ref a0, .int x1, .int x2, .int x3] [] M = bI (c2 d m_Lat_canEncode [.int x1] M) fun r2 M1 => if r2 = 0 then some (.int (iI (-1)), M1) else bI (c2 d m_Mat_max [.int x2, .int (iI 0)] M1) fun r4 M3 => bb (isK O2 M3 a0 1) (bI (c2 d m_Mat_min [.int x3, .int (gI M3 0 0)] M3) fun r6 M5 => if r4 < r6 then bI (c2 d m_Lat_indexOfChar [.ref a0, .int x1, .int r4, .int r6] M5) fun r8 M7 => some (.int r8, M7) else some (.int (iI (-1)), M5)) (gb (isK O2 M3 a0 3 || isK O2 M3 a0 40 || isK O2 M3 a0 41 || isK O2 M3 a0 42 || isK O2 M3 a0 43 || isK O2 M3 a0 44 || isK O2 M3 a0 45 || isK O2 M3 a0 46) (bI (c2 d m_Mat_min [.int x3, .int (iI (oS O2 M3 a0).2)] M3) fun r10 M9 => if r4 < r10 then bI (c2 d m_Lat_indexOfChar [.ref a0, .int x1, .int r4, .int r10] M9) fun r12 M11 => some (.int r12, M11) else some (.int (iI (-1)), M9))) :=
  (sx_eq O2 d m_Lat_indexOf [] 22 _ _ _ _).trans rfl
set_option maxRecDepth 100000 in
set_option maxHeartbeats 4000000 in
theorem e_Lw_add_0 (d : Nat) (a0 : Nat) (x1 : Int32) (M : Mem) : X2 d m_Lw_add 0 [.ref a0, .int x1] [] M = gb (isK O2 M a0 11) (if gI M a0 2 < iI 900 then gb (isK O2 M a0 11) (gb (isK O2 M a0 11) (gb (isK O2 M a0 11) (gb (at_ O2 (wI M a0 2 ((gI M a0 2) + (iI 1))) (gR M a0 0) 40 (gI M a0 2)) (some (.null, wI (wI M a0 2 ((gI M a0 2) + (iI 1))) (gR M a0 0) (ix (gI M a0 2)) x1))))) else some (.null, M)) :=
  (sx_eq O2 d m_Lw_add [] 17 _ _ _ _).trans rfl
set_option maxRecDepth 100000 in
set_option maxHeartbeats 4000000 in
theorem e_Pre_checkIndex_0 (d : Nat) (x0 : Int32) (x1 : Int32) (M : Mem) : X2 d m_Pre_checkIndex 0 [.int x0, .int x1, .ref 2] [] M = if x0 < 0 then none else if x0 < x1 then some (.int x0, M) else none :=
  (sx_eq O2 d m_Pre_checkIndex [] 10 _ _ _ _).trans rfl
set_option maxRecDepth 100000 in
set_option maxHeartbeats 4000000 in
theorem e_Lat_canEncode_0 (d : Nat) (x0 : Int32) (M : Mem) : X2 d m_Lat_canEncode 0 [.int x0] [] M = if x0 < 0 then some (.int (iI 0), M) else if iI 255 < x0 then some (.int (iI 0), M) else some (.int (iI 1), M) :=
  (sx_eq O2 d m_Lat_canEncode [] 9 _ _ _ _).trans rfl
set_option maxRecDepth 100000 in
set_option maxHeartbeats 4000000 in
theorem e_Lat_indexOfChar_0 (d : Nat) (a0 : Nat) (x1 : Int32) (x2 : Int32) (x3 : Int32) (M : Mem) : X2 d m_Lat_indexOfChar 0 [.ref a0, .int x1, .int x2, .int x3, uns, uns] [] M = X2 d m_Lat_indexOfChar 7 [.ref a0, .int x1, .int x2, .int x3, .int ((x1).toInt8.toInt32), .int x2] [] M :=
  (sx_eq O2 d m_Lat_indexOfChar [7] 6 _ _ _ _).trans rfl
set_option maxRecDepth 100000 in
set_option maxHeartbeats 4000000 in
theorem e_Lat_indexOfChar_7 (d : Nat) (a0 : Nat) (v1 : Value) (v2 : Value) (x3 : Int32) (x4 : Int32) (x5 : Int32) (M : Mem) : X2 d m_Lat_indexOfChar 7 [.ref a0, v1, v2, .int x3, .int x4, .int x5] [] M = if x5 < x3 then bb (isK O2 M a0 3) (gb (inb x5 (oS O2 M a0).2) (if txt a0 (ix x5) = x4 then some (.int x5, M) else X2 d m_Lat_indexOfChar 7 [.ref a0, v1, v2, .int x3, .int x4, .int (x5 + iI 1)] [] M)) (gb (at_ O2 M a0 41 x5 || at_ O2 M a0 42 x5) (if gI M a0 (ix x5) = x4 then some (.int x5, M) else X2 d m_Lat_indexOfChar 7 [.ref a0, v1, v2, .int x3, .int x4, .int (x5 + iI 1)] [] M)) else some (.int (iI (-1)), M) :=
  (sx_eq O2 d m_Lat_indexOfChar [7] 11 _ _ _ _).trans rfl
