/-! Contracts of Walk, and of the two bitCounts. -/
set_option maxHeartbeats 4000000 in
set_option maxRecDepth 100000 in
theorem c_J6_bitCount_0f7a4 (l : Launch) (D : va_G) (cI cJ cZ : ClassId) (w : va_W) (x : Nat) (hx0 : x < 64) : Ct l D cI cJ cZ yJ6_bitCount_0f7a4 wsJ6_bitCount_0f7a4 ({ frames := 0, cells := 0, slots := 0, locals := 0 } : Room) 0 0 [.int (nI x)] w (S := Unit) (fun u => True) (fun u => some (.int (nI (ct (fun jj => x.testBit jj) 6)))) (fun u => w) := by
  refine Ct.ofW (cc := cJ6_bitCount_0f7a4) (maxL := 1) (ret := (some .int)) (R_C := RJ6) (by decide +kernel) rfl rfl (Nat.le_of_ble_eq_true rfl) rfl ?_
  intro p e s m args below meth c A Q ls H locs hx hb hml hown hts hK hA hP hD hS hZ hl hri hrl hrv
  refine lv_iload_n hx hb dJ6_bitCount_0f7a4_0 rfl (lv_at hl 0 rfl) ?_
  refine lv_iload_n hx hb dJ6_bitCount_0f7a4_1 rfl (lv_at hl 0 rfl) ?_
  refine lv_iconst (v := nI 1) hx hb dJ6_bitCount_0f7a4_2 (by decide) ?_
  refine lv_iushr hx hb dJ6_bitCount_0f7a4_3 rfl ?_
  refine lv_ldcw (v := (1431655765)) hx hb hown (hts (.constant RJ6 265 (1431655765)) (List.mem_of_getElem? (i := 1) rfl)) dJ6_bitCount_0f7a4_4 ?_
  refine lv_iand hx hb dJ6_bitCount_0f7a4_7 ?_
  refine lv_isub hx hb dJ6_bitCount_0f7a4_8 ?_
  refine fx_eqi (x := (nI x) - ((((nI x).toUInt32 >>> ((nI 1).toUInt32 &&& Int32.toUInt32 31)).toInt32) &&& (1431655765))) (y := bcI1 (nI x)) rfl ?_
  refine lv_istore_n (lv' := [(0, .int (bcI1 (nI x)))]) hx hb dJ6_bitCount_0f7a4_9 rfl hl (by decide) rfl (fun ls hl => ?_)
  refine lv_iload_n hx hb dJ6_bitCount_0f7a4_10 rfl (lv_at hl 0 rfl) ?_
  refine lv_ldcw (v := (858993459)) hx hb hown (hts (.constant RJ6 266 (858993459)) (List.mem_of_getElem? (i := 2) rfl)) dJ6_bitCount_0f7a4_11 ?_
  refine lv_iand hx hb dJ6_bitCount_0f7a4_14 ?_
  refine lv_iload_n hx hb dJ6_bitCount_0f7a4_15 rfl (lv_at hl 0 rfl) ?_
  refine lv_iconst (v := nI 2) hx hb dJ6_bitCount_0f7a4_16 (by decide) ?_
  refine lv_iushr hx hb dJ6_bitCount_0f7a4_17 rfl ?_
  refine lv_ldcw (v := (858993459)) hx hb hown (hts (.constant RJ6 266 (858993459)) (List.mem_of_getElem? (i := 2) rfl)) dJ6_bitCount_0f7a4_18 ?_
  refine lv_iand hx hb dJ6_bitCount_0f7a4_21 ?_
  refine lv_iadd hx hb dJ6_bitCount_0f7a4_22 ?_
  refine fx_eqi (x := ((bcI1 (nI x)) &&& (858993459)) + ((((bcI1 (nI x)).toUInt32 >>> ((nI 2).toUInt32 &&& Int32.toUInt32 31)).toInt32) &&& (858993459))) (y := bcI2 (bcI1 (nI x))) rfl ?_
  refine lv_istore_n (lv' := [(0, .int (bcI2 (bcI1 (nI x))))]) hx hb dJ6_bitCount_0f7a4_23 rfl hl (by decide) rfl (fun ls hl => ?_)
  refine lv_iload_n hx hb dJ6_bitCount_0f7a4_24 rfl (lv_at hl 0 rfl) ?_
  refine lv_iload_n hx hb dJ6_bitCount_0f7a4_25 rfl (lv_at hl 0 rfl) ?_
  refine lv_iconst (v := nI 4) hx hb dJ6_bitCount_0f7a4_26 (by decide) ?_
  refine lv_iushr hx hb dJ6_bitCount_0f7a4_27 rfl ?_
  refine lv_iadd hx hb dJ6_bitCount_0f7a4_28 ?_
  refine lv_ldcw (v := (252645135)) hx hb hown (hts (.constant RJ6 267 (252645135)) (List.mem_of_getElem? (i := 3) rfl)) dJ6_bitCount_0f7a4_29 ?_
  refine lv_iand hx hb dJ6_bitCount_0f7a4_32 ?_
  refine fx_eqi (x := ((bcI2 (bcI1 (nI x))) + (((bcI2 (bcI1 (nI x))).toUInt32 >>> ((nI 4).toUInt32 &&& Int32.toUInt32 31)).toInt32)) &&& (252645135)) (y := bcI3 (bcI2 (bcI1 (nI x)))) rfl ?_
  refine lv_istore_n (lv' := [(0, .int (bcI3 (bcI2 (bcI1 (nI x)))))]) hx hb dJ6_bitCount_0f7a4_33 rfl hl (by decide) rfl (fun ls hl => ?_)
  refine lv_iload_n hx hb dJ6_bitCount_0f7a4_34 rfl (lv_at hl 0 rfl) ?_
  refine lv_iload_n hx hb dJ6_bitCount_0f7a4_35 rfl (lv_at hl 0 rfl) ?_
  refine lv_bipush (v := nI 8) hx hb dJ6_bitCount_0f7a4_36 (by decide) ?_
  refine lv_iushr hx hb dJ6_bitCount_0f7a4_38 rfl ?_
  refine lv_iadd hx hb dJ6_bitCount_0f7a4_39 ?_
  refine fx_eqi (x := (bcI3 (bcI2 (bcI1 (nI x)))) + (((bcI3 (bcI2 (bcI1 (nI x)))).toUInt32 >>> ((nI 8).toUInt32 &&& Int32.toUInt32 31)).toInt32)) (y := bcI4 (bcI3 (bcI2 (bcI1 (nI x))))) rfl ?_
  refine lv_istore_n (lv' := [(0, .int (bcI4 (bcI3 (bcI2 (bcI1 (nI x))))))]) hx hb dJ6_bitCount_0f7a4_40 rfl hl (by decide) rfl (fun ls hl => ?_)
  refine lv_iload_n hx hb dJ6_bitCount_0f7a4_41 rfl (lv_at hl 0 rfl) ?_
  refine lv_iload_n hx hb dJ6_bitCount_0f7a4_42 rfl (lv_at hl 0 rfl) ?_
  refine lv_bipush (v := nI 16) hx hb dJ6_bitCount_0f7a4_43 (by decide) ?_
  refine lv_iushr hx hb dJ6_bitCount_0f7a4_45 rfl ?_
  refine lv_iadd hx hb dJ6_bitCount_0f7a4_46 ?_
  refine fx_eqi (x := (bcI4 (bcI3 (bcI2 (bcI1 (nI x))))) + (((bcI4 (bcI3 (bcI2 (bcI1 (nI x))))).toUInt32 >>> ((nI 16).toUInt32 &&& Int32.toUInt32 31)).toInt32)) (y := bcI5 (bcI4 (bcI3 (bcI2 (bcI1 (nI x)))))) rfl ?_
  refine lv_istore_n (lv' := [(0, .int (bcI5 (bcI4 (bcI3 (bcI2 (bcI1 (nI x)))))))]) hx hb dJ6_bitCount_0f7a4_47 rfl hl (by decide) rfl (fun ls hl => ?_)
  refine lv_iload_n hx hb dJ6_bitCount_0f7a4_48 rfl (lv_at hl 0 rfl) ?_
  refine lv_bipush (v := nI 63) hx hb dJ6_bitCount_0f7a4_49 (by decide) ?_
  refine lv_iand hx hb dJ6_bitCount_0f7a4_51 ?_
  exact hri () _ H locs 52 ls .int rfl rfl trivial (by exact bc_int x hx0) hP hD hS dJ6_bitCount_0f7a4_52
set_option maxHeartbeats 4000000 in
set_option maxRecDepth 100000 in
theorem c_J13_bitCount_95d88 (l : Launch) (D : va_G) (cI cJ cZ : ClassId) (w : va_W) (x : Int64) : Ct l D cI cJ cZ yJ13_bitCount_95d88 wsJ13_bitCount_95d88 ({ frames := 0, cells := 0, slots := 0, locals := 0 } : Room) 0 0 [.long x] w (S := Unit) (fun u => True) (fun u => some (.int (nI (bct x)))) (fun u => w) := by
  refine Ct.ofW (cc := cJ13_bitCount_95d88) (maxL := 2) (ret := (some .int)) (R_C := RJ13) (by decide +kernel) rfl rfl (Nat.le_of_ble_eq_true rfl) rfl ?_
  intro p e s m args below meth c A Q ls H locs hx hb hml hown hts hK hA hP hD hS hZ hl hri hrl hrv
  refine lv_lload_n hx hb dJ13_bitCount_95d88_0 rfl (lv_at hl 0 rfl) ?_
  refine lv_lload_n hx hb dJ13_bitCount_95d88_1 rfl (lv_at hl 0 rfl) ?_
  refine lv_iconst (v := nI 1) hx hb dJ13_bitCount_95d88_2 (by decide) ?_
  refine lv_lushr hx hb dJ13_bitCount_95d88_3 rfl ?_
  refine lv_ldc2 (v := (6148914691236517205)) hx hb hown (hts (.constantLong RJ13 314 (6148914691236517205)) (List.mem_of_getElem? (i := 1) rfl)) dJ13_bitCount_95d88_4 ?_
  refine lv_land hx hb dJ13_bitCount_95d88_7 ?_
  refine lv_lsub hx hb dJ13_bitCount_95d88_8 ?_
  refine fx_eql (x := x - (((x.toUInt64 >>> ((nI 1).toInt64.toUInt64 &&& Int64.toUInt64 63)).toInt64) &&& (6148914691236517205))) (y := bcL1 x) rfl ?_
  refine lv_lstore_n (lv' := [(0, .long (bcL1 x))]) hx hb dJ13_bitCount_95d88_9 rfl hl (by decide) rfl (fun ls hl => ?_)
  refine lv_lload_n hx hb dJ13_bitCount_95d88_10 rfl (lv_at hl 0 rfl) ?_
  refine lv_ldc2 (v := (3689348814741910323)) hx hb hown (hts (.constantLong RJ13 316 (3689348814741910323)) (List.mem_of_getElem? (i := 2) rfl)) dJ13_bitCount_95d88_11 ?_
  refine lv_land hx hb dJ13_bitCount_95d88_14 ?_
  refine lv_lload_n hx hb dJ13_bitCount_95d88_15 rfl (lv_at hl 0 rfl) ?_
  refine lv_iconst (v := nI 2) hx hb dJ13_bitCount_95d88_16 (by decide) ?_
  refine lv_lushr hx hb dJ13_bitCount_95d88_17 rfl ?_
  refine lv_ldc2 (v := (3689348814741910323)) hx hb hown (hts (.constantLong RJ13 316 (3689348814741910323)) (List.mem_of_getElem? (i := 2) rfl)) dJ13_bitCount_95d88_18 ?_
  refine lv_land hx hb dJ13_bitCount_95d88_21 ?_
  refine lv_ladd hx hb dJ13_bitCount_95d88_22 ?_
  refine fx_eql (x := ((bcL1 x) &&& (3689348814741910323)) + ((((bcL1 x).toUInt64 >>> ((nI 2).toInt64.toUInt64 &&& Int64.toUInt64 63)).toInt64) &&& (3689348814741910323))) (y := bcL2 (bcL1 x)) rfl ?_
  refine lv_lstore_n (lv' := [(0, .long (bcL2 (bcL1 x)))]) hx hb dJ13_bitCount_95d88_23 rfl hl (by decide) rfl (fun ls hl => ?_)
  refine lv_lload_n hx hb dJ13_bitCount_95d88_24 rfl (lv_at hl 0 rfl) ?_
  refine lv_lload_n hx hb dJ13_bitCount_95d88_25 rfl (lv_at hl 0 rfl) ?_
  refine lv_iconst (v := nI 4) hx hb dJ13_bitCount_95d88_26 (by decide) ?_
  refine lv_lushr hx hb dJ13_bitCount_95d88_27 rfl ?_
  refine lv_ladd hx hb dJ13_bitCount_95d88_28 ?_
  refine lv_ldc2 (v := (1085102592571150095)) hx hb hown (hts (.constantLong RJ13 318 (1085102592571150095)) (List.mem_of_getElem? (i := 3) rfl)) dJ13_bitCount_95d88_29 ?_
  refine lv_land hx hb dJ13_bitCount_95d88_32 ?_
  refine fx_eql (x := ((bcL2 (bcL1 x)) + (((bcL2 (bcL1 x)).toUInt64 >>> ((nI 4).toInt64.toUInt64 &&& Int64.toUInt64 63)).toInt64)) &&& (1085102592571150095)) (y := bcL3 (bcL2 (bcL1 x))) rfl ?_
  refine lv_lstore_n (lv' := [(0, .long (bcL3 (bcL2 (bcL1 x))))]) hx hb dJ13_bitCount_95d88_33 rfl hl (by decide) rfl (fun ls hl => ?_)
  refine lv_lload_n hx hb dJ13_bitCount_95d88_34 rfl (lv_at hl 0 rfl) ?_
  refine lv_lload_n hx hb dJ13_bitCount_95d88_35 rfl (lv_at hl 0 rfl) ?_
  refine lv_bipush (v := nI 8) hx hb dJ13_bitCount_95d88_36 (by decide) ?_
  refine lv_lushr hx hb dJ13_bitCount_95d88_38 rfl ?_
  refine lv_ladd hx hb dJ13_bitCount_95d88_39 ?_
  refine fx_eql (x := (bcL3 (bcL2 (bcL1 x))) + (((bcL3 (bcL2 (bcL1 x))).toUInt64 >>> ((nI 8).toInt64.toUInt64 &&& Int64.toUInt64 63)).toInt64)) (y := bcL4 (bcL3 (bcL2 (bcL1 x)))) rfl ?_
  refine lv_lstore_n (lv' := [(0, .long (bcL4 (bcL3 (bcL2 (bcL1 x)))))]) hx hb dJ13_bitCount_95d88_40 rfl hl (by decide) rfl (fun ls hl => ?_)
  refine lv_lload_n hx hb dJ13_bitCount_95d88_41 rfl (lv_at hl 0 rfl) ?_
  refine lv_lload_n hx hb dJ13_bitCount_95d88_42 rfl (lv_at hl 0 rfl) ?_
  refine lv_bipush (v := nI 16) hx hb dJ13_bitCount_95d88_43 (by decide) ?_
  refine lv_lushr hx hb dJ13_bitCount_95d88_45 rfl ?_
  refine lv_ladd hx hb dJ13_bitCount_95d88_46 ?_
  refine fx_eql (x := (bcL4 (bcL3 (bcL2 (bcL1 x)))) + (((bcL4 (bcL3 (bcL2 (bcL1 x)))).toUInt64 >>> ((nI 16).toInt64.toUInt64 &&& Int64.toUInt64 63)).toInt64)) (y := bcL5 (bcL4 (bcL3 (bcL2 (bcL1 x))))) rfl ?_
  refine lv_lstore_n (lv' := [(0, .long (bcL5 (bcL4 (bcL3 (bcL2 (bcL1 x))))))]) hx hb dJ13_bitCount_95d88_47 rfl hl (by decide) rfl (fun ls hl => ?_)
  refine lv_lload_n hx hb dJ13_bitCount_95d88_48 rfl (lv_at hl 0 rfl) ?_
  refine lv_lload_n hx hb dJ13_bitCount_95d88_49 rfl (lv_at hl 0 rfl) ?_
  refine lv_bipush (v := nI 32) hx hb dJ13_bitCount_95d88_50 (by decide) ?_
  refine lv_lushr hx hb dJ13_bitCount_95d88_52 rfl ?_
  refine lv_ladd hx hb dJ13_bitCount_95d88_53 ?_
  refine fx_eql (x := (bcL5 (bcL4 (bcL3 (bcL2 (bcL1 x))))) + (((bcL5 (bcL4 (bcL3 (bcL2 (bcL1 x))))).toUInt64 >>> ((nI 32).toInt64.toUInt64 &&& Int64.toUInt64 63)).toInt64)) (y := bcL6 (bcL5 (bcL4 (bcL3 (bcL2 (bcL1 x)))))) rfl ?_
  refine lv_lstore_n (lv' := [(0, .long (bcL6 (bcL5 (bcL4 (bcL3 (bcL2 (bcL1 x)))))))]) hx hb dJ13_bitCount_95d88_54 rfl hl (by decide) rfl (fun ls hl => ?_)
  refine lv_lload_n hx hb dJ13_bitCount_95d88_55 rfl (lv_at hl 0 rfl) ?_
  refine lv_l2i hx hb dJ13_bitCount_95d88_56 rfl ?_
  refine lv_bipush (v := nI 127) hx hb dJ13_bitCount_95d88_57 (by decide) ?_
  refine lv_iand hx hb dJ13_bitCount_95d88_59 ?_
  exact hri () _ H locs 60 ls .int rfl rfl trivial (by exact bc_long x) hP hD hS dJ13_bitCount_95d88_60
set_option maxHeartbeats 4000000 in
set_option maxRecDepth 100000 in
theorem c_X3_everywhere (l : Launch) (D : va_G) (cI cJ cZ : ClassId) (w : va_W) (v : Nat) (hv : v ≤ 2) : Ct l D cI cJ cZ yX3_everywhere wsX3_everywhere ({ frames := 0, cells := 0, slots := 0, locals := 0 } : Room) 0 0 [.int (nI v)] w (S := Unit) (fun u => True) (fun u => some (.long (evyL v))) (fun u => w) := by
  refine Ct.ofW (cc := cX3_everywhere) (maxL := 1) (ret := (some .long)) (R_C := RX3) (by decide +kernel) rfl rfl (Nat.le_of_ble_eq_true rfl) rfl ?_
  intro p e s m args below meth c A Q ls H locs hx hb hml hown hts hK hA hP hD hS hZ hl hri hrl hrv
  refine lv_iload_n hx hb dX3_everywhere_0 rfl (lv_at hl 0 rfl) ?_
  refine lv_iconst (v := nI 1) hx hb dX3_everywhere_1 (by decide) ?_
  refine lv_icmp_ne (tgt := 11) hx hb dX3_everywhere_2 (by decide) (fun c_2 => ?_) (fun c_2 => ?_)
  · have f_2 : ¬ v = 1 := fun h => c_2 ((nI_eq (a := v) (b := 1) (by first | omega | exact b_and1 _ | exact b_ct _ _ (by omega) | exact b_andr _ (by omega)) (by first | omega | exact b_and1 _ | exact b_ct _ _ (by omega) | exact b_andr _ (by omega))).mpr h)
    refine lv_lconst (v := 0) hx hb dX3_everywhere_11 (by decide) ?_
    exact hrl () _ H locs 12 ls rfl trivial (by simp [evyL, f_2]) hP hD hS dX3_everywhere_12
  have f_2 : v = 1 := (nI_eq (a := v) (b := 1) (by first | omega | exact b_and1 _ | exact b_ct _ _ (by omega) | exact b_andr _ (by omega)) (by first | omega | exact b_and1 _ | exact b_ct _ _ (by omega) | exact b_andr _ (by omega))).mp c_2
  refine lv_ldc2 (v := (-1)) hx hb hown (hts (.constantLong RX3 28 (-1)) (List.mem_of_getElem? (i := 1) rfl)) dX3_everywhere_5 ?_
  refine lv_goto (tgt := 12) hx hb dX3_everywhere_8 (by decide) ?_
  exact hrl () _ H locs 12 ls rfl trivial (by simp [evyL, f_2]) hP hD hS dX3_everywhere_12
set_option maxHeartbeats 4000000 in
set_option maxRecDepth 100000 in
theorem c_X3_allRows (l : Launch) (D : va_G) (cI cJ cZ : ClassId) (q : Nat → Nat) (xro : Int64) (xtk : Nat) (xli : Nat) (cn : Nat) (ci : Nat) (cs : Nat) (cso : Nat → Nat) (cki : Nat → Nat) (cfa : Nat → Nat) (cfb : Nat → Nat) (cfc : Nat → Nat) (cva : Nat → Nat) (csn : Nat → Nat) (csd : Nat → Nat) (csl : Nat → Nat) (csb : Nat → Nat) (csr : Nat → Nat) (csc : Nat → Nat) (won : Nat → Int64) (wle : Nat → Int64) (pte : Nat → Nat) (pho : Nat → Nat) (nwa : Nat → Int32) (nti : Nat → Int32) (hcs : cs ≤ 6) : Ct l D cI cJ cZ yX3_allRows wsX3_allRows ({ frames := 1, cells := 0, slots := 0, locals := 20 } : Room) 0 0 [.ref (q 14)] (wA q cI cJ xro xtk xli cn ci cs cso cki cfa cfb cfc cva csn csd csl csb csr csc won wle pte pho nwa nti) (S := Unit) (fun u => True) (fun u => some (.long (alR cs))) (fun u => (wA q cI cJ xro xtk xli cn ci cs cso cki cfa cfb cfc cva csn csd csl csb csr csc won wle pte pho nwa nti)) := by
  refine Ct.ofW (cc := cX3_allRows) (maxL := 2) (ret := (some .long)) (R_C := RX3) (by decide +kernel) rfl rfl (Nat.le_of_ble_eq_true rfl) rfl ?_
  intro p e s m args below meth c A Q ls H locs hx hb hml hown hts hK hA hP hD hS hZ hl hri hrl hrv
  refine lv_aload_n hx hb dX3_allRows_0 rfl (lv_at hl 0 rfl) ?_
  refine va_get (D := D) (ci := 3) (v := .ref (q 1)) (C := RX3) (T := TX3) (N := 3) hx hb hts (fun w h => List.mem_cons_of_mem _ (List.mem_append_left _ (List.mem_append_right _ h))) hown hK hP 14 rfl rfl 0 (by decide) (hts (.fieldLink RX3 18 "FirstStates$Walk" "circuit" "LFirstStates$Circuit;") (List.mem_of_getElem? (i := 1) rfl)) (fun _ h9 => h9) rfl dX3_allRows_1 ?_
  refine fx_callV (As := []) (rest := []) ⟨hx, hb, hml, hown, hts⟩ (c_X0_rowCount l D cI cJ cZ q xro xtk xli cn ci cs cso cki cfa cfb cfc cva csn csd csl csb csr csc won wle pte pho nwa nti (by first | assumption | omega)) (cwV 0 hts gX3_allRows_X0_rowCount rfl rfl rfl kv_X0_rowCount ⟨Nat.le_of_ble_eq_true rfl, Nat.le_of_ble_eq_true rfl⟩) hK hP hD hS hA hZ 1 rfl rfl rfl rfl hl.1 rfl (lv_room (Nat.le_of_ble_eq_true rfl)) dX3_allRows_4 ⟨Nat.zero_le _, Nat.zero_le _⟩ (fun u_1 H locs hu_1 hP hD hS => ?_)
  refine lv_istore_n (lv' := [(1, .int (nI (2 ^ cs))), (0, .ref (q 14))]) hx hb dX3_allRows_7 rfl hl (by decide) rfl (fun ls hl => ?_)
  have hp6 : 2 ^ cs ≤ 64 := Nat.pow_le_pow_right (by omega) hcs
  refine lv_iload_n hx hb dX3_allRows_8 rfl (lv_at hl 0 rfl) ?_
  refine lv_bipush (v := nI 64) hx hb dX3_allRows_9 (by decide) ?_
  refine lv_icmp_lt (tgt := 20) hx hb dX3_allRows_11 (by decide) (fun c_11 => ?_) (fun c_11 => ?_)
  · have f_11 : 2 ^ cs < 64 := (nI_ltI (a := 2 ^ cs) (b := 64) (by first | omega | exact b_and1 _ | exact b_ct _ _ (by omega) | exact b_andr _ (by omega)) (by first | omega | exact b_and1 _ | exact b_ct _ _ (by omega) | exact b_andr _ (by omega))).mp c_11
    refine lv_lconst (v := 1) hx hb dX3_allRows_20 (by decide) ?_
    refine lv_iload_n hx hb dX3_allRows_21 rfl (lv_at hl 0 rfl) ?_
    refine lv_lshl hx hb dX3_allRows_22 rfl ?_
    refine lv_lconst (v := 1) hx hb dX3_allRows_23 (by decide) ?_
    refine lv_lsub hx hb dX3_allRows_24 ?_
    exact hrl () _ H locs 25 ls rfl trivial (by simp [alR, shL, f_11]) hP hD hS dX3_allRows_25
  have f_11 : ¬ 2 ^ cs < 64 := fun h => c_11 ((nI_ltI (a := 2 ^ cs) (b := 64) (by first | omega | exact b_and1 _ | exact b_ct _ _ (by omega) | exact b_andr _ (by omega)) (by first | omega | exact b_and1 _ | exact b_ct _ _ (by omega) | exact b_andr _ (by omega))).mpr h)
  refine lv_ldc2 (v := (-1)) hx hb hown (hts (.constantLong RX3 28 (-1)) (List.mem_of_getElem? (i := 2) rfl)) dX3_allRows_14 ?_
  refine lv_goto (tgt := 25) hx hb dX3_allRows_17 (by decide) ?_
  exact hrl () _ H locs 25 ls rfl trivial (by simp [alR, shL, f_11]) hP hD hS dX3_allRows_25
set_option maxHeartbeats 4000000 in
set_option maxRecDepth 100000 in
theorem c_X3_gateOnes (l : Launch) (D : va_G) (cI cJ cZ : ClassId) (q : Nat → Nat) (xro : Int64) (xtk : Nat) (xli : Nat) (cn : Nat) (ci : Nat) (cs : Nat) (cso : Nat → Nat) (cki : Nat → Nat) (cfa : Nat → Nat) (cfb : Nat → Nat) (cfc : Nat → Nat) (cva : Nat → Nat) (csn : Nat → Nat) (csd : Nat → Nat) (csl : Nat → Nat) (csb : Nat → Nat) (csr : Nat → Nat) (csc : Nat → Nat) (won : Nat → Int64) (wle : Nat → Int64) (pte : Nat → Nat) (pho : Nat → Nat) (nwa : Nat → Int32) (nti : Nat → Int32) (k : Nat) (hcn : cn ≤ 32) (hk : k < cn) (hki : cki k ≤ 4) (hg : cfa k < k ∧ cfb k < k ∧ cfc k < k) : Ct l D cI cJ cZ yX3_gateOnes wsX3_gateOnes ({ frames := 0, cells := 0, slots := 0, locals := 0 } : Room) 0 0 [.ref (q 14), .int (nI k)] (wA q cI cJ xro xtk xli cn ci cs cso cki cfa cfb cfc cva csn csd csl csb csr csc won wle pte pho nwa nti) (S := Unit) (fun u => True) (fun u => some (.long (goF (cki k) (won (cfa k)) (won (cfb k)) (won (cfc k))))) (fun u => (wA q cI cJ xro xtk xli cn ci cs cso cki cfa cfb cfc cva csn csd csl csb csr csc won wle pte pho nwa nti)) := by
  refine Ct.ofW (cc := cX3_gateOnes) (maxL := 8) (ret := (some .long)) (R_C := RX3) (by decide +kernel) rfl rfl (Nat.le_of_ble_eq_true rfl) rfl ?_
  intro p e s m args below meth c A Q ls H locs hx hb hml hown hts hK hA hP hD hS hZ hl hri hrl hrv
  refine lv_aload_n hx hb dX3_gateOnes_0 rfl (lv_at hl 0 rfl) ?_
  refine va_get (D := D) (ci := 3) (v := .ref (q 15)) (C := RX3) (T := TX3) (N := 3) hx hb hts (fun w h => List.mem_cons_of_mem _ (List.mem_append_left _ (List.mem_append_right _ h))) hown hK hP 14 rfl rfl 1 (by decide) (hts (.fieldLink RX3 9 "FirstStates$Walk" "ones" "[J") (List.mem_of_getElem? (i := 1) rfl)) (fun _ h9 => h9) rfl dX3_gateOnes_1 ?_
  refine lv_aload_n hx hb dX3_gateOnes_4 rfl (lv_at hl 0 rfl) ?_
  refine va_get (D := D) (ci := 3) (v := .ref (q 1)) (C := RX3) (T := TX3) (N := 3) hx hb hts (fun w h => List.mem_cons_of_mem _ (List.mem_append_left _ (List.mem_append_right _ h))) hown hK hP 14 rfl rfl 0 (by decide) (hts (.fieldLink RX3 18 "FirstStates$Walk" "circuit" "LFirstStates$Circuit;") (List.mem_of_getElem? (i := 2) rfl)) (fun _ h9 => h9) rfl dX3_gateOnes_5 ?_
  refine va_get (D := D) (ci := 0) (v := .ref (q 4)) (C := RX0) (T := TX0) (N := 15) hx hb hts (fun w h => List.mem_cons_of_mem _ (List.mem_append_right _ h)) hown hK hP 1 rfl rfl 5 (by decide) (hts (.fieldLink RX3 66 "FirstStates$Circuit" "firsts" "[I") (List.mem_of_getElem? (i := 3) rfl)) (fun _ h9 => h9) rfl dX3_gateOnes_8 ?_
  refine lv_iload_n hx hb dX3_gateOnes_11 rfl (lv_at hl 1 rfl) ?_
  refine fx_iald (ar := nI) hx hb hK hP 4 (f := cfa) (k := k) rfl (by omega) (by decide) dX3_gateOnes_12 ?_
  refine fx_lald hx hb hK hP 15 (f := won) (k := (cfa k)) rfl (by omega) (by decide) dX3_gateOnes_13 ?_
  refine lv_lstore_n (lv' := [(2, .long (won (cfa k))), (0, .ref (q 14)), (1, .int (nI k))]) hx hb dX3_gateOnes_14 rfl hl (by decide) rfl (fun ls hl => ?_)
  refine lv_aload_n hx hb dX3_gateOnes_15 rfl (lv_at hl 1 rfl) ?_
  refine va_get (D := D) (ci := 3) (v := .ref (q 15)) (C := RX3) (T := TX3) (N := 3) hx hb hts (fun w h => List.mem_cons_of_mem _ (List.mem_append_left _ (List.mem_append_right _ h))) hown hK hP 14 rfl rfl 1 (by decide) (hts (.fieldLink RX3 9 "FirstStates$Walk" "ones" "[J") (List.mem_of_getElem? (i := 1) rfl)) (fun _ h9 => h9) rfl dX3_gateOnes_16 ?_
  refine lv_aload_n hx hb dX3_gateOnes_19 rfl (lv_at hl 1 rfl) ?_
  refine va_get (D := D) (ci := 3) (v := .ref (q 1)) (C := RX3) (T := TX3) (N := 3) hx hb hts (fun w h => List.mem_cons_of_mem _ (List.mem_append_left _ (List.mem_append_right _ h))) hown hK hP 14 rfl rfl 0 (by decide) (hts (.fieldLink RX3 18 "FirstStates$Walk" "circuit" "LFirstStates$Circuit;") (List.mem_of_getElem? (i := 2) rfl)) (fun _ h9 => h9) rfl dX3_gateOnes_20 ?_
  refine va_get (D := D) (ci := 0) (v := .ref (q 5)) (C := RX0) (T := TX0) (N := 15) hx hb hts (fun w h => List.mem_cons_of_mem _ (List.mem_append_right _ h)) hown hK hP 1 rfl rfl 6 (by decide) (hts (.fieldLink RX3 69 "FirstStates$Circuit" "seconds" "[I") (List.mem_of_getElem? (i := 4) rfl)) (fun _ h9 => h9) rfl dX3_gateOnes_23 ?_
  refine lv_iload_n hx hb dX3_gateOnes_26 rfl (lv_at hl 2 rfl) ?_
  refine fx_iald (ar := nI) hx hb hK hP 5 (f := cfb) (k := k) rfl (by omega) (by decide) dX3_gateOnes_27 ?_
  refine fx_lald hx hb hK hP 15 (f := won) (k := (cfb k)) rfl (by omega) (by decide) dX3_gateOnes_28 ?_
  refine lv_lstore (lv' := [(4, .long (won (cfb k))), (2, .long (won (cfa k))), (0, .ref (q 14)), (1, .int (nI k))]) hx hb dX3_gateOnes_29 hl (by decide) rfl (fun ls hl => ?_)
  refine lv_aload_n hx hb dX3_gateOnes_31 rfl (lv_at hl 2 rfl) ?_
  refine va_get (D := D) (ci := 3) (v := .ref (q 15)) (C := RX3) (T := TX3) (N := 3) hx hb hts (fun w h => List.mem_cons_of_mem _ (List.mem_append_left _ (List.mem_append_right _ h))) hown hK hP 14 rfl rfl 1 (by decide) (hts (.fieldLink RX3 9 "FirstStates$Walk" "ones" "[J") (List.mem_of_getElem? (i := 1) rfl)) (fun _ h9 => h9) rfl dX3_gateOnes_32 ?_
  refine lv_aload_n hx hb dX3_gateOnes_35 rfl (lv_at hl 2 rfl) ?_
  refine va_get (D := D) (ci := 3) (v := .ref (q 1)) (C := RX3) (T := TX3) (N := 3) hx hb hts (fun w h => List.mem_cons_of_mem _ (List.mem_append_left _ (List.mem_append_right _ h))) hown hK hP 14 rfl rfl 0 (by decide) (hts (.fieldLink RX3 18 "FirstStates$Walk" "circuit" "LFirstStates$Circuit;") (List.mem_of_getElem? (i := 2) rfl)) (fun _ h9 => h9) rfl dX3_gateOnes_36 ?_
  refine va_get (D := D) (ci := 0) (v := .ref (q 6)) (C := RX0) (T := TX0) (N := 15) hx hb hts (fun w h => List.mem_cons_of_mem _ (List.mem_append_right _ h)) hown hK hP 1 rfl rfl 7 (by decide) (hts (.fieldLink RX3 72 "FirstStates$Circuit" "thirds" "[I") (List.mem_of_getElem? (i := 5) rfl)) (fun _ h9 => h9) rfl dX3_gateOnes_39 ?_
  refine lv_iload_n hx hb dX3_gateOnes_42 rfl (lv_at hl 3 rfl) ?_
  refine fx_iald (ar := nI) hx hb hK hP 6 (f := cfc) (k := k) rfl (by omega) (by decide) dX3_gateOnes_43 ?_
  refine fx_lald hx hb hK hP 15 (f := won) (k := (cfc k)) rfl (by omega) (by decide) dX3_gateOnes_44 ?_
  refine lv_lstore (lv' := [(6, .long (won (cfc k))), (4, .long (won (cfb k))), (2, .long (won (cfa k))), (0, .ref (q 14)), (1, .int (nI k))]) hx hb dX3_gateOnes_45 hl (by decide) rfl (fun ls hl => ?_)
  refine lv_aload_n hx hb dX3_gateOnes_47 rfl (lv_at hl 3 rfl) ?_
  refine va_get (D := D) (ci := 3) (v := .ref (q 1)) (C := RX3) (T := TX3) (N := 3) hx hb hts (fun w h => List.mem_cons_of_mem _ (List.mem_append_left _ (List.mem_append_right _ h))) hown hK hP 14 rfl rfl 0 (by decide) (hts (.fieldLink RX3 18 "FirstStates$Walk" "circuit" "LFirstStates$Circuit;") (List.mem_of_getElem? (i := 2) rfl)) (fun _ h9 => h9) rfl dX3_gateOnes_48 ?_
  refine va_get (D := D) (ci := 0) (v := .ref (q 3)) (C := RX0) (T := TX0) (N := 15) hx hb hts (fun w h => List.mem_cons_of_mem _ (List.mem_append_right _ h)) hown hK hP 1 rfl rfl 4 (by decide) (hts (.fieldLink RX3 75 "FirstStates$Circuit" "kinds" "[I") (List.mem_of_getElem? (i := 6) rfl)) (fun _ h9 => h9) rfl dX3_gateOnes_51 ?_
  refine lv_iload_n hx hb dX3_gateOnes_54 rfl (lv_at hl 4 rfl) ?_
  refine fx_iald (ar := nI) hx hb hK hP 3 (f := cki) (k := k) rfl (by omega) (by decide) dX3_gateOnes_55 ?_
  have h_56 : cki k = 0 ∨ cki k = 1 ∨ cki k = 2 ∨ cki k = 3 ∨ cki k = 4 := by omega
  rcases h_56 with h_56 | h_56 | h_56 | h_56 | h_56
  · refine lv_tableIn (off := 32) (tgt := 88) hx hb dX3_gateOnes_56 (by rw [h_56]; decide) (by rw [h_56]; decide) (by rw [h_56]; decide) (by decide) ?_
    refine lv_lload_n hx hb dX3_gateOnes_88 rfl (lv_at hl 2 rfl) ?_
    refine lv_ldc2 (v := (-1)) hx hb hown (hts (.constantLong RX3 28 (-1)) (List.mem_of_getElem? (i := 7) rfl)) dX3_gateOnes_89 ?_
    refine lv_lxor hx hb dX3_gateOnes_92 ?_
    exact hrl () _ H locs 93 ls rfl trivial (by simp [goF, h_56]) hP hD hS dX3_gateOnes_93
  · refine lv_tableIn (off := 38) (tgt := 94) hx hb dX3_gateOnes_56 (by rw [h_56]; decide) (by rw [h_56]; decide) (by rw [h_56]; decide) (by decide) ?_
    refine lv_lload_n hx hb dX3_gateOnes_94 rfl (lv_at hl 2 rfl) ?_
    refine lv_lload hx hb dX3_gateOnes_95 (lv_at hl 1 rfl) ?_
    refine lv_land hx hb dX3_gateOnes_97 ?_
    exact hrl () _ H locs 98 ls rfl trivial (by simp [goF, h_56]) hP hD hS dX3_gateOnes_98
  · refine lv_tableIn (off := 43) (tgt := 99) hx hb dX3_gateOnes_56 (by rw [h_56]; decide) (by rw [h_56]; decide) (by rw [h_56]; decide) (by decide) ?_
    refine lv_lload_n hx hb dX3_gateOnes_99 rfl (lv_at hl 2 rfl) ?_
    refine lv_lload hx hb dX3_gateOnes_100 (lv_at hl 1 rfl) ?_
    refine lv_lor hx hb dX3_gateOnes_102 ?_
    exact hrl () _ H locs 103 ls rfl trivial (by simp [goF, h_56]) hP hD hS dX3_gateOnes_103
  · refine lv_tableIn (off := 48) (tgt := 104) hx hb dX3_gateOnes_56 (by rw [h_56]; decide) (by rw [h_56]; decide) (by rw [h_56]; decide) (by decide) ?_
    refine lv_lload_n hx hb dX3_gateOnes_104 rfl (lv_at hl 2 rfl) ?_
    refine lv_lload hx hb dX3_gateOnes_105 (lv_at hl 1 rfl) ?_
    refine lv_lxor hx hb dX3_gateOnes_107 ?_
    exact hrl () _ H locs 108 ls rfl trivial (by simp [goF, h_56]) hP hD hS dX3_gateOnes_108
  refine lv_tableOut (tgt := 109) hx hb dX3_gateOnes_56 (by rw [h_56]; decide) (by decide) ?_
  refine lv_lload_n hx hb dX3_gateOnes_109 rfl (lv_at hl 2 rfl) ?_
  refine lv_lload hx hb dX3_gateOnes_110 (lv_at hl 1 rfl) ?_
  refine lv_land hx hb dX3_gateOnes_112 ?_
  refine lv_lload_n hx hb dX3_gateOnes_113 rfl (lv_at hl 2 rfl) ?_
  refine lv_ldc2 (v := (-1)) hx hb hown (hts (.constantLong RX3 28 (-1)) (List.mem_of_getElem? (i := 7) rfl)) dX3_gateOnes_114 ?_
  refine lv_lxor hx hb dX3_gateOnes_117 ?_
  refine lv_lload hx hb dX3_gateOnes_118 (lv_at hl 0 rfl) ?_
  refine lv_land hx hb dX3_gateOnes_120 ?_
  refine lv_lor hx hb dX3_gateOnes_121 ?_
  exact hrl () _ H locs 122 ls rfl trivial (by simp [goF, h_56]) hP hD hS dX3_gateOnes_122
set_option maxHeartbeats 4000000 in
set_option maxRecDepth 100000 in
theorem c_X3_evaluate (l : Launch) (D : va_G) (cI cJ cZ : ClassId) (q : Nat → Nat) (xro : Int64) (xtk : Nat) (xli : Nat) (cn : Nat) (ci : Nat) (cs : Nat) (cso : Nat → Nat) (cki : Nat → Nat) (cfa : Nat → Nat) (cfb : Nat → Nat) (cfc : Nat → Nat) (cva : Nat → Nat) (csn : Nat → Nat) (csd : Nat → Nat) (csl : Nat → Nat) (csb : Nat → Nat) (csr : Nat → Nat) (csc : Nat → Nat) (won : Nat → Int64) (wle : Nat → Int64) (pte : Nat → Nat) (pho : Nat → Nat) (nwa : Nat → Int32) (nti : Nat → Int32) (way : Nat) (ao : Bool) (hcn : cn ≤ 32) (hcs : cs ≤ 6) (hso : ∀ j, j < cn → cso j ≤ 3 ∧ cki j ≤ 4 ∧ cva j ≤ 2) (hg : ∀ j, j < cn → cso j = 2 → cfa j < j ∧ cfb j < j ∧ cfc j < j) (hs : ∀ j, j < cn → cso j = 3 → csn j < cs) (hin : ct (fun j => decide (cso j = 0)) cn ≤ 4) (hw : way < 16) : Ct l D cI cJ cZ yX3_evaluate wsX3_evaluate ({ frames := 1, cells := 0, slots := 0, locals := 27 } : Room) 0 0 [.ref (q 14), .int (nI way), .int (bI ao)] (wA q cI cJ xro xtk xli cn ci cs cso cki cfa cfb cfc cva csn csd csl csb csr csc won wle pte pho nwa nti) (S := Unit) (fun u => True) (fun u => none) (fun u => (wA q cI cJ xro xtk xli cn ci cs cso cki cfa cfb cfc cva csn csd csl csb csr csc (evalT cso cki cfa cfb cfc cva csn ao way won cn) wle pte pho nwa nti)) := by
  refine Ct.ofW (cc := cX3_evaluate) (maxL := 5) (ret := none) (R_C := RX3) (by decide +kernel) rfl rfl (Nat.le_of_ble_eq_true rfl) rfl ?_
  intro p e s m args below meth c A Q ls H locs hx hb hml hown hts hK hA hP hD hS hZ hl hri hrl hrv
  refine lv_iload_n hx hb dX3_evaluate_0 rfl (lv_at hl 1 rfl) ?_
  refine lv_istore_n (lv' := [(3, .int (nI way)), (0, .ref (q 14)), (1, .int (nI way)), (2, .int (bI ao))]) hx hb dX3_evaluate_1 rfl hl (by decide) rfl (fun ls hl => ?_)
  refine lv_iconst (v := nI 0) hx hb dX3_evaluate_2 (by decide) ?_
  refine lv_istore (lv' := [(4, .int (nI 0)), (3, .int (nI way)), (0, .ref (q 14)), (1, .int (nI way)), (2, .int (bI ao))]) hx hb dX3_evaluate_3 hl (by decide) rfl (fun ls hl => ?_)
  have L_5 : ∀ (fuel : Nat) (i : Nat) (hi : i ≤ cn) (hfu : cn - i < fuel) (H : Heap) (locs : List Loc), va_P D vwCl (wA q cI cJ xro xtk xli cn ci cs cso cki cfa cfb cfc cva csn csd csl csb csr csc (evalT cso cki cfa cfb cfc cva csn ao way won i) wle pte pho nwa nti) H → va_D A (wA q cI cJ xro xtk xli cn ci cs cso cki cfa cfb cfc cva csn csd csl csb csr csc (evalT cso cki cfa cfb cfc cva csn ao way won i) wle pte pho nwa nti) → va_S A s.heap H locs → ∀ ls : Array Slot, lv_has ls 5 [(0, .ref (q 14)), (2, .int (bI ao)), (3, .int (nI (way >>> ct (opP cso cva ao) i))), (4, .int (nI i))] → W p l e ({ frames := 1, cells := 0, slots := 0, locals := 27 } : Room) s m args below meth c H locs 0 0 Q (F0 m 5 ls []) := by
    intro fuel
    induction fuel with
    | zero => intro i hi hfu; exact absurd hfu (Nat.not_lt_zero _)
    | succ fuel ih_5 =>
      intro i hi hfu H locs hP hD hS ls hl
      refine lv_iload hx hb dX3_evaluate_5 (lv_at hl 3 rfl) ?_
      refine lv_aload_n hx hb dX3_evaluate_7 rfl (lv_at hl 0 rfl) ?_
      refine va_get (D := D) (ci := 3) (v := .ref (q 1)) (C := RX3) (T := TX3) (N := 3) hx hb hts (fun w h => List.mem_cons_of_mem _ (List.mem_append_left _ (List.mem_append_right _ h))) hown hK hP 14 rfl rfl 0 (by decide) (hts (.fieldLink RX3 18 "FirstStates$Walk" "circuit" "LFirstStates$Circuit;") (List.mem_of_getElem? (i := 1) rfl)) (fun _ h9 => h9) rfl dX3_evaluate_8 ?_
      refine va_get (D := D) (ci := 0) (v := .int (nI cn)) (C := RX0) (T := TX0) (N := 15) hx hb hts (fun w h => List.mem_cons_of_mem _ (List.mem_append_right _ h)) hown hK hP 1 rfl rfl 0 (by decide) (hts (.fieldLink RX3 42 "FirstStates$Circuit" "nodes" "I") (List.mem_of_getElem? (i := 2) rfl)) (fun _ h9 => h9) rfl dX3_evaluate_11 ?_
      refine lv_icmp_ge (tgt := 179) hx hb dX3_evaluate_14 (by decide) (fun c_14 => ?_) (fun c_14 => ?_)
      · have f_14 : cn ≤ i := (nI_leI (a := cn) (b := i) (by first | omega | exact b_and1 _ | exact b_ct _ _ (by omega) | exact b_andr _ (by omega)) (by first | omega | exact b_and1 _ | exact b_ct _ _ (by omega) | exact b_andr _ (by omega))).mp c_14
        have e_1 : evalT cso cki cfa cfb cfc cva csn ao way won i = evalT cso cki cfa cfb cfc cva csn ao way won cn := by first | rfl | (rw [show cn = i by omega])
        exact hrv () H locs 179 ls rfl trivial rfl (fx_Pe (w' := (wA q cI cJ xro xtk xli cn ci cs cso cki cfa cfb cfc cva csn csd csl csb csr csc (evalT cso cki cfa cfb cfc cva csn ao way won cn) wle pte pho nwa nti)) hP (congrArg (fun w9 : Nat → Int64 => (wA q cI cJ xro xtk xli cn ci cs cso cki cfa cfb cfc cva csn csd csl csb csr csc w9 wle pte pho nwa nti)) e_1)) (fx_D hD rfl) hS dX3_evaluate_179
      have f_14 : ¬ cn ≤ i := fun h => c_14 ((nI_leI (a := cn) (b := i) (by first | omega | exact b_and1 _ | exact b_ct _ _ (by omega) | exact b_andr _ (by omega)) (by first | omega | exact b_and1 _ | exact b_ct _ _ (by omega) | exact b_andr _ (by omega))).mpr h)
      have hso1 := hso i (by omega)
      have hwb : way >>> ct (opP cso cva ao) i ≤ way := Nat.shiftRight_le _ _
      refine lv_aload_n hx hb dX3_evaluate_17 rfl (lv_at hl 0 rfl) ?_
      refine va_get (D := D) (ci := 3) (v := .ref (q 1)) (C := RX3) (T := TX3) (N := 3) hx hb hts (fun w h => List.mem_cons_of_mem _ (List.mem_append_left _ (List.mem_append_right _ h))) hown hK hP 14 rfl rfl 0 (by decide) (hts (.fieldLink RX3 18 "FirstStates$Walk" "circuit" "LFirstStates$Circuit;") (List.mem_of_getElem? (i := 1) rfl)) (fun _ h9 => h9) rfl dX3_evaluate_18 ?_
      refine va_get (D := D) (ci := 0) (v := .ref (q 2)) (C := RX0) (T := TX0) (N := 15) hx hb hts (fun w h => List.mem_cons_of_mem _ (List.mem_append_right _ h)) hown hK hP 1 rfl rfl 3 (by decide) (hts (.fieldLink RX3 46 "FirstStates$Circuit" "sorts" "[I") (List.mem_of_getElem? (i := 3) rfl)) (fun _ h9 => h9) rfl dX3_evaluate_21 ?_
      refine lv_iload hx hb dX3_evaluate_24 (lv_at hl 3 rfl) ?_
      refine fx_iald (ar := nI) hx hb hK hP 2 (f := cso) (k := i) rfl (by omega) (by decide) dX3_evaluate_26 ?_
      have h_27 : cso i = 0 ∨ cso i = 1 ∨ cso i = 2 ∨ cso i = 3 := by omega
      rcases h_27 with h_27 | h_27 | h_27 | h_27
      · refine lv_tableIn (off := 25) (tgt := 52) hx hb dX3_evaluate_27 (by rw [h_27]; decide) (by rw [h_27]; decide) (by rw [h_27]; decide) (by decide) ?_
        refine lv_iload_n hx hb dX3_evaluate_52 rfl (lv_at hl 1 rfl) ?_
        refine lv_if_ne (tgt := 70) hx hb dX3_evaluate_53 (by decide) (fun c_53 => ?_) (fun c_53 => ?_)
        · have f_53 : ao = true := bI_n0.mp c_53
          refine lv_aload_n hx hb dX3_evaluate_70 rfl (lv_at hl 0 rfl) ?_
          refine va_get (D := D) (ci := 3) (v := .ref (q 15)) (C := RX3) (T := TX3) (N := 3) hx hb hts (fun w h => List.mem_cons_of_mem _ (List.mem_append_left _ (List.mem_append_right _ h))) hown hK hP 14 rfl rfl 1 (by decide) (hts (.fieldLink RX3 9 "FirstStates$Walk" "ones" "[J") (List.mem_of_getElem? (i := 5) rfl)) (fun _ h9 => h9) rfl dX3_evaluate_71 ?_
          refine lv_iload hx hb dX3_evaluate_74 (lv_at hl 3 rfl) ?_
          refine lv_iload_n hx hb dX3_evaluate_76 rfl (lv_at hl 2 rfl) ?_
          refine lv_iconst (v := nI 1) hx hb dX3_evaluate_77 (by decide) ?_
          refine lv_iand hx hb dX3_evaluate_78 ?_
          refine fx_eqi (fx_andI _ _) ?_
          refine fx_callS (As := [.int (nI ((way >>> ct (opP cso cva ao) i) &&& 1))]) (rest := [.int (nI i), .ref (q 15)]) ⟨hx, hb, hml, hown, hts⟩ (c_X3_everywhere l D cI cJ cZ (wA q cI cJ xro xtk xli cn ci cs cso cki cfa cfb cfc cva csn csd csl csb csr csc (evalT cso cki cfa cfb cfc cva csn ao way won i) wle pte pho nwa nti) ((way >>> ct (opP cso cva ao) i) &&& 1) (by have := @Nat.and_le_right (way >>> ct (opP cso cva ao) i) 1; omega)) (va_cwS 1 hts gX3_evaluate_X3_everywhere rfl rfl rfl ks_X3_everywhere ⟨Nat.le_of_ble_eq_true rfl, Nat.le_of_ble_eq_true rfl⟩) hK hP hD hS hA hZ rfl hl.1 rfl (lv_room (Nat.le_of_ble_eq_true rfl)) dX3_evaluate_79 ⟨Nat.zero_le _, Nat.zero_le _⟩ (fun u_2 H locs hu_2 hP hD hS => ?_)
          refine fx_last hx hb hK hP hD hS 15 (f := (evalT cso cki cfa cfb cfc cva csn ao way won i)) (k := i) (v := (evyL ((way >>> ct (opP cso cva ao) i) &&& 1))) rfl (by omega) (by decide) dX3_evaluate_82 (fun H locs hP hD hS => ?_)
          have hP : va_P D vwCl (wA q cI cJ xro xtk xli cn ci cs cso cki cfa cfb cfc cva csn csd csl csb csr csc (va_up (evalT cso cki cfa cfb cfc cva csn ao way won i) i (evyL ((way >>> ct (opP cso cva ao) i) &&& 1))) wle pte pho nwa nti) H := hP
          have hD : va_D A (wA q cI cJ xro xtk xli cn ci cs cso cki cfa cfb cfc cva csn csd csl csb csr csc (va_up (evalT cso cki cfa cfb cfc cva csn ao way won i) i (evyL ((way >>> ct (opP cso cva ao) i) &&& 1))) wle pte pho nwa nti) := fx_D hD rfl
          refine lv_iload_n hx hb dX3_evaluate_83 rfl (lv_at hl 2 rfl) ?_
          refine lv_iconst (v := nI 1) hx hb dX3_evaluate_84 (by decide) ?_
          refine lv_ishr hx hb dX3_evaluate_85 ?_
          refine fx_eqi (y := nI ((way >>> ct (opP cso cva ao) i) >>> 1)) (fx_shr (by first | omega | exact b_and1 _ | exact b_ct _ _ (by omega) | exact b_andr _ (by omega)) (by first | omega | exact b_and1 _ | exact b_ct _ _ (by omega) | exact b_andr _ (by omega))) ?_
          refine lv_istore_n (lv' := [(3, .int (nI ((way >>> ct (opP cso cva ao) i) >>> 1))), (0, .ref (q 14)), (2, .int (bI ao)), (4, .int (nI i))]) hx hb dX3_evaluate_86 rfl hl (by decide) rfl (fun ls hl => ?_)
          refine lv_goto (tgt := 173) hx hb dX3_evaluate_87 (by decide) ?_
          refine lv_iinc (v := nI (i + 1)) (lv' := [(4, .int (nI (i + 1))), (3, .int (nI ((way >>> ct (opP cso cva ao) i) >>> 1))), (0, .ref (q 14)), (2, .int (bI ao))]) hx hb dX3_evaluate_173 hl (k := 3) rfl (by exact nI_1 _) (by decide) rfl (fun ls hl => ?_)
          refine lv_goto (tgt := 5) hx hb dX3_evaluate_176 (by decide) ?_
          have e_3 : va_up (evalT cso cki cfa cfb cfc cva csn ao way won i) i (evyL ((way >>> ct (opP cso cva ao) i) &&& 1)) = evalT cso cki cfa cfb cfc cva csn ao way won (i + 1) := by first | rfl | (simp [evalT, opP, h_27, f_53])
          have e_4 : nI ((way >>> ct (opP cso cva ao) i) >>> 1) = nI (way >>> ct (opP cso cva ao) (i + 1)) := by first | rfl | (simp [ct, opP, h_27, f_53, Nat.shiftRight_add])
          exact ih_5 (i + 1) (by first | assumption | omega) (by omega) H locs (fx_Pe (w' := (wA q cI cJ xro xtk xli cn ci cs cso cki cfa cfb cfc cva csn csd csl csb csr csc (evalT cso cki cfa cfb cfc cva csn ao way won (i + 1)) wle pte pho nwa nti)) hP (congrArg (fun w9 : Nat → Int64 => (wA q cI cJ xro xtk xli cn ci cs cso cki cfa cfb cfc cva csn csd csl csb csr csc w9 wle pte pho nwa nti)) e_3)) (fx_D hD rfl) hS ls (lv_sub (fx_hl (l' := [(4, .int (nI (i + 1))), (3, .int (nI (way >>> ct (opP cso cva ao) (i + 1)))), (0, .ref (q 14)), (2, .int (bI ao))]) hl (congrArg (fun w9 : Int32 => ([(4, .int (nI (i + 1))), (3, .int w9), (0, .ref (q 14)), (2, .int (bI ao))] : List (Nat × Value))) e_4)) [2, 3, 1, 0] rfl)
        have f_53 : ao = false := bI_0.mp c_53
        refine lv_aload_n hx hb dX3_evaluate_56 rfl (lv_at hl 0 rfl) ?_
        refine va_get (D := D) (ci := 3) (v := .ref (q 1)) (C := RX3) (T := TX3) (N := 3) hx hb hts (fun w h => List.mem_cons_of_mem _ (List.mem_append_left _ (List.mem_append_right _ h))) hown hK hP 14 rfl rfl 0 (by decide) (hts (.fieldLink RX3 18 "FirstStates$Walk" "circuit" "LFirstStates$Circuit;") (List.mem_of_getElem? (i := 1) rfl)) (fun _ h9 => h9) rfl dX3_evaluate_57 ?_
        refine va_get (D := D) (ci := 0) (v := .ref (q 7)) (C := RX0) (T := TX0) (N := 15) hx hb hts (fun w h => List.mem_cons_of_mem _ (List.mem_append_right _ h)) hown hK hP 1 rfl rfl 8 (by decide) (hts (.fieldLink RX3 50 "FirstStates$Circuit" "values" "[I") (List.mem_of_getElem? (i := 4) rfl)) (fun _ h9 => h9) rfl dX3_evaluate_60 ?_
        refine lv_iload hx hb dX3_evaluate_63 (lv_at hl 3 rfl) ?_
        refine fx_iald (ar := nI) hx hb hK hP 7 (f := cva) (k := i) rfl (by omega) (by decide) dX3_evaluate_65 ?_
        refine lv_iconst (v := nI 2) hx hb dX3_evaluate_66 (by decide) ?_
        refine lv_icmp_ne (tgt := 90) hx hb dX3_evaluate_67 (by decide) (fun c_67 => ?_) (fun c_67 => ?_)
        · have f_67 : ¬ cva i = 2 := fun h => c_67 ((nI_eq (a := cva i) (b := 2) (by first | omega | exact b_and1 _ | exact b_ct _ _ (by omega) | exact b_andr _ (by omega)) (by first | omega | exact b_and1 _ | exact b_ct _ _ (by omega) | exact b_andr _ (by omega))).mpr h)
          refine lv_aload_n hx hb dX3_evaluate_90 rfl (lv_at hl 0 rfl) ?_
          refine va_get (D := D) (ci := 3) (v := .ref (q 15)) (C := RX3) (T := TX3) (N := 3) hx hb hts (fun w h => List.mem_cons_of_mem _ (List.mem_append_left _ (List.mem_append_right _ h))) hown hK hP 14 rfl rfl 1 (by decide) (hts (.fieldLink RX3 9 "FirstStates$Walk" "ones" "[J") (List.mem_of_getElem? (i := 5) rfl)) (fun _ h9 => h9) rfl dX3_evaluate_91 ?_
          refine lv_iload hx hb dX3_evaluate_94 (lv_at hl 3 rfl) ?_
          refine lv_aload_n hx hb dX3_evaluate_96 rfl (lv_at hl 0 rfl) ?_
          refine va_get (D := D) (ci := 3) (v := .ref (q 1)) (C := RX3) (T := TX3) (N := 3) hx hb hts (fun w h => List.mem_cons_of_mem _ (List.mem_append_left _ (List.mem_append_right _ h))) hown hK hP 14 rfl rfl 0 (by decide) (hts (.fieldLink RX3 18 "FirstStates$Walk" "circuit" "LFirstStates$Circuit;") (List.mem_of_getElem? (i := 1) rfl)) (fun _ h9 => h9) rfl dX3_evaluate_97 ?_
          refine va_get (D := D) (ci := 0) (v := .ref (q 7)) (C := RX0) (T := TX0) (N := 15) hx hb hts (fun w h => List.mem_cons_of_mem _ (List.mem_append_right _ h)) hown hK hP 1 rfl rfl 8 (by decide) (hts (.fieldLink RX3 50 "FirstStates$Circuit" "values" "[I") (List.mem_of_getElem? (i := 4) rfl)) (fun _ h9 => h9) rfl dX3_evaluate_100 ?_
          refine lv_iload hx hb dX3_evaluate_103 (lv_at hl 3 rfl) ?_
          refine fx_iald (ar := nI) hx hb hK hP 7 (f := cva) (k := i) rfl (by omega) (by decide) dX3_evaluate_105 ?_
          refine fx_callS (As := [.int (nI (cva i))]) (rest := [.int (nI i), .ref (q 15)]) ⟨hx, hb, hml, hown, hts⟩ (c_X3_everywhere l D cI cJ cZ (wA q cI cJ xro xtk xli cn ci cs cso cki cfa cfb cfc cva csn csd csl csb csr csc (evalT cso cki cfa cfb cfc cva csn ao way won i) wle pte pho nwa nti) (cva i) (by first | assumption | omega)) (va_cwS 1 hts gX3_evaluate_X3_everywhere rfl rfl rfl ks_X3_everywhere ⟨Nat.le_of_ble_eq_true rfl, Nat.le_of_ble_eq_true rfl⟩) hK hP hD hS hA hZ rfl hl.1 rfl (lv_room (Nat.le_of_ble_eq_true rfl)) dX3_evaluate_106 ⟨Nat.zero_le _, Nat.zero_le _⟩ (fun u_5 H locs hu_5 hP hD hS => ?_)
          refine fx_last hx hb hK hP hD hS 15 (f := (evalT cso cki cfa cfb cfc cva csn ao way won i)) (k := i) (v := (evyL (cva i))) rfl (by omega) (by decide) dX3_evaluate_109 (fun H locs hP hD hS => ?_)
          have hP : va_P D vwCl (wA q cI cJ xro xtk xli cn ci cs cso cki cfa cfb cfc cva csn csd csl csb csr csc (va_up (evalT cso cki cfa cfb cfc cva csn ao way won i) i (evyL (cva i))) wle pte pho nwa nti) H := hP
          have hD : va_D A (wA q cI cJ xro xtk xli cn ci cs cso cki cfa cfb cfc cva csn csd csl csb csr csc (va_up (evalT cso cki cfa cfb cfc cva csn ao way won i) i (evyL (cva i))) wle pte pho nwa nti) := fx_D hD rfl
          refine lv_goto (tgt := 173) hx hb dX3_evaluate_110 (by decide) ?_
          refine lv_iinc (v := nI (i + 1)) (lv' := [(4, .int (nI (i + 1))), (0, .ref (q 14)), (2, .int (bI ao)), (3, .int (nI (way >>> ct (opP cso cva ao) i)))]) hx hb dX3_evaluate_173 hl (k := 3) rfl (by exact nI_1 _) (by decide) rfl (fun ls hl => ?_)
          refine lv_goto (tgt := 5) hx hb dX3_evaluate_176 (by decide) ?_
          have e_6 : va_up (evalT cso cki cfa cfb cfc cva csn ao way won i) i (evyL (cva i)) = evalT cso cki cfa cfb cfc cva csn ao way won (i + 1) := by first | rfl | (simp [evalT, opP, h_27, f_53, f_67])
          have e_7 : nI (way >>> ct (opP cso cva ao) i) = nI (way >>> ct (opP cso cva ao) (i + 1)) := by first | rfl | (simp [ct, opP, h_27, f_53, f_67, Nat.shiftRight_add])
          exact ih_5 (i + 1) (by first | assumption | omega) (by omega) H locs (fx_Pe (w' := (wA q cI cJ xro xtk xli cn ci cs cso cki cfa cfb cfc cva csn csd csl csb csr csc (evalT cso cki cfa cfb cfc cva csn ao way won (i + 1)) wle pte pho nwa nti)) hP (congrArg (fun w9 : Nat → Int64 => (wA q cI cJ xro xtk xli cn ci cs cso cki cfa cfb cfc cva csn csd csl csb csr csc w9 wle pte pho nwa nti)) e_6)) (fx_D hD rfl) hS ls (lv_sub (fx_hl (l' := [(4, .int (nI (i + 1))), (0, .ref (q 14)), (2, .int (bI ao)), (3, .int (nI (way >>> ct (opP cso cva ao) (i + 1))))]) hl (congrArg (fun w9 : Int32 => ([(4, .int (nI (i + 1))), (0, .ref (q 14)), (2, .int (bI ao)), (3, .int w9)] : List (Nat × Value))) e_7)) [1, 2, 3, 0] rfl)
        have f_67 : cva i = 2 := (nI_eq (a := cva i) (b := 2) (by first | omega | exact b_and1 _ | exact b_ct _ _ (by omega) | exact b_andr _ (by omega)) (by first | omega | exact b_and1 _ | exact b_ct _ _ (by omega) | exact b_andr _ (by omega))).mp c_67
        refine lv_aload_n hx hb dX3_evaluate_70 rfl (lv_at hl 0 rfl) ?_
        refine va_get (D := D) (ci := 3) (v := .ref (q 15)) (C := RX3) (T := TX3) (N := 3) hx hb hts (fun w h => List.mem_cons_of_mem _ (List.mem_append_left _ (List.mem_append_right _ h))) hown hK hP 14 rfl rfl 1 (by decide) (hts (.fieldLink RX3 9 "FirstStates$Walk" "ones" "[J") (List.mem_of_getElem? (i := 5) rfl)) (fun _ h9 => h9) rfl dX3_evaluate_71 ?_
        refine lv_iload hx hb dX3_evaluate_74 (lv_at hl 3 rfl) ?_
        refine lv_iload_n hx hb dX3_evaluate_76 rfl (lv_at hl 2 rfl) ?_
        refine lv_iconst (v := nI 1) hx hb dX3_evaluate_77 (by decide) ?_
        refine lv_iand hx hb dX3_evaluate_78 ?_
        refine fx_eqi (fx_andI _ _) ?_
        refine fx_callS (As := [.int (nI ((way >>> ct (opP cso cva ao) i) &&& 1))]) (rest := [.int (nI i), .ref (q 15)]) ⟨hx, hb, hml, hown, hts⟩ (c_X3_everywhere l D cI cJ cZ (wA q cI cJ xro xtk xli cn ci cs cso cki cfa cfb cfc cva csn csd csl csb csr csc (evalT cso cki cfa cfb cfc cva csn ao way won i) wle pte pho nwa nti) ((way >>> ct (opP cso cva ao) i) &&& 1) (by have := @Nat.and_le_right (way >>> ct (opP cso cva ao) i) 1; omega)) (va_cwS 1 hts gX3_evaluate_X3_everywhere rfl rfl rfl ks_X3_everywhere ⟨Nat.le_of_ble_eq_true rfl, Nat.le_of_ble_eq_true rfl⟩) hK hP hD hS hA hZ rfl hl.1 rfl (lv_room (Nat.le_of_ble_eq_true rfl)) dX3_evaluate_79 ⟨Nat.zero_le _, Nat.zero_le _⟩ (fun u_8 H locs hu_8 hP hD hS => ?_)
        refine fx_last hx hb hK hP hD hS 15 (f := (evalT cso cki cfa cfb cfc cva csn ao way won i)) (k := i) (v := (evyL ((way >>> ct (opP cso cva ao) i) &&& 1))) rfl (by omega) (by decide) dX3_evaluate_82 (fun H locs hP hD hS => ?_)
        have hP : va_P D vwCl (wA q cI cJ xro xtk xli cn ci cs cso cki cfa cfb cfc cva csn csd csl csb csr csc (va_up (evalT cso cki cfa cfb cfc cva csn ao way won i) i (evyL ((way >>> ct (opP cso cva ao) i) &&& 1))) wle pte pho nwa nti) H := hP
        have hD : va_D A (wA q cI cJ xro xtk xli cn ci cs cso cki cfa cfb cfc cva csn csd csl csb csr csc (va_up (evalT cso cki cfa cfb cfc cva csn ao way won i) i (evyL ((way >>> ct (opP cso cva ao) i) &&& 1))) wle pte pho nwa nti) := fx_D hD rfl
        refine lv_iload_n hx hb dX3_evaluate_83 rfl (lv_at hl 2 rfl) ?_
        refine lv_iconst (v := nI 1) hx hb dX3_evaluate_84 (by decide) ?_
        refine lv_ishr hx hb dX3_evaluate_85 ?_
        refine fx_eqi (y := nI ((way >>> ct (opP cso cva ao) i) >>> 1)) (fx_shr (by first | omega | exact b_and1 _ | exact b_ct _ _ (by omega) | exact b_andr _ (by omega)) (by first | omega | exact b_and1 _ | exact b_ct _ _ (by omega) | exact b_andr _ (by omega))) ?_
        refine lv_istore_n (lv' := [(3, .int (nI ((way >>> ct (opP cso cva ao) i) >>> 1))), (0, .ref (q 14)), (2, .int (bI ao)), (4, .int (nI i))]) hx hb dX3_evaluate_86 rfl hl (by decide) rfl (fun ls hl => ?_)
        refine lv_goto (tgt := 173) hx hb dX3_evaluate_87 (by decide) ?_
        refine lv_iinc (v := nI (i + 1)) (lv' := [(4, .int (nI (i + 1))), (3, .int (nI ((way >>> ct (opP cso cva ao) i) >>> 1))), (0, .ref (q 14)), (2, .int (bI ao))]) hx hb dX3_evaluate_173 hl (k := 3) rfl (by exact nI_1 _) (by decide) rfl (fun ls hl => ?_)
        refine lv_goto (tgt := 5) hx hb dX3_evaluate_176 (by decide) ?_
        have e_9 : va_up (evalT cso cki cfa cfb cfc cva csn ao way won i) i (evyL ((way >>> ct (opP cso cva ao) i) &&& 1)) = evalT cso cki cfa cfb cfc cva csn ao way won (i + 1) := by first | rfl | (simp [evalT, opP, h_27, f_53, f_67])
        have e_10 : nI ((way >>> ct (opP cso cva ao) i) >>> 1) = nI (way >>> ct (opP cso cva ao) (i + 1)) := by first | rfl | (simp [ct, opP, h_27, f_53, f_67, Nat.shiftRight_add])
        exact ih_5 (i + 1) (by first | assumption | omega) (by omega) H locs (fx_Pe (w' := (wA q cI cJ xro xtk xli cn ci cs cso cki cfa cfb cfc cva csn csd csl csb csr csc (evalT cso cki cfa cfb cfc cva csn ao way won (i + 1)) wle pte pho nwa nti)) hP (congrArg (fun w9 : Nat → Int64 => (wA q cI cJ xro xtk xli cn ci cs cso cki cfa cfb cfc cva csn csd csl csb csr csc w9 wle pte pho nwa nti)) e_9)) (fx_D hD rfl) hS ls (lv_sub (fx_hl (l' := [(4, .int (nI (i + 1))), (3, .int (nI (way >>> ct (opP cso cva ao) (i + 1)))), (0, .ref (q 14)), (2, .int (bI ao))]) hl (congrArg (fun w9 : Int32 => ([(4, .int (nI (i + 1))), (3, .int w9), (0, .ref (q 14)), (2, .int (bI ao))] : List (Nat × Value))) e_10)) [2, 3, 1, 0] rfl)
      · refine lv_tableIn (off := 86) (tgt := 113) hx hb dX3_evaluate_27 (by rw [h_27]; decide) (by rw [h_27]; decide) (by rw [h_27]; decide) (by decide) ?_
        refine lv_aload_n hx hb dX3_evaluate_113 rfl (lv_at hl 0 rfl) ?_
        refine va_get (D := D) (ci := 3) (v := .ref (q 15)) (C := RX3) (T := TX3) (N := 3) hx hb hts (fun w h => List.mem_cons_of_mem _ (List.mem_append_left _ (List.mem_append_right _ h))) hown hK hP 14 rfl rfl 1 (by decide) (hts (.fieldLink RX3 9 "FirstStates$Walk" "ones" "[J") (List.mem_of_getElem? (i := 5) rfl)) (fun _ h9 => h9) rfl dX3_evaluate_114 ?_
        refine lv_iload hx hb dX3_evaluate_117 (lv_at hl 3 rfl) ?_
        refine lv_aload_n hx hb dX3_evaluate_119 rfl (lv_at hl 0 rfl) ?_
        refine va_get (D := D) (ci := 3) (v := .ref (q 1)) (C := RX3) (T := TX3) (N := 3) hx hb hts (fun w h => List.mem_cons_of_mem _ (List.mem_append_left _ (List.mem_append_right _ h))) hown hK hP 14 rfl rfl 0 (by decide) (hts (.fieldLink RX3 18 "FirstStates$Walk" "circuit" "LFirstStates$Circuit;") (List.mem_of_getElem? (i := 1) rfl)) (fun _ h9 => h9) rfl dX3_evaluate_120 ?_
        refine va_get (D := D) (ci := 0) (v := .ref (q 7)) (C := RX0) (T := TX0) (N := 15) hx hb hts (fun w h => List.mem_cons_of_mem _ (List.mem_append_right _ h)) hown hK hP 1 rfl rfl 8 (by decide) (hts (.fieldLink RX3 50 "FirstStates$Circuit" "values" "[I") (List.mem_of_getElem? (i := 4) rfl)) (fun _ h9 => h9) rfl dX3_evaluate_123 ?_
        refine lv_iload hx hb dX3_evaluate_126 (lv_at hl 3 rfl) ?_
        refine fx_iald (ar := nI) hx hb hK hP 7 (f := cva) (k := i) rfl (by omega) (by decide) dX3_evaluate_128 ?_
        refine fx_callS (As := [.int (nI (cva i))]) (rest := [.int (nI i), .ref (q 15)]) ⟨hx, hb, hml, hown, hts⟩ (c_X3_everywhere l D cI cJ cZ (wA q cI cJ xro xtk xli cn ci cs cso cki cfa cfb cfc cva csn csd csl csb csr csc (evalT cso cki cfa cfb cfc cva csn ao way won i) wle pte pho nwa nti) (cva i) (by first | assumption | omega)) (va_cwS 1 hts gX3_evaluate_X3_everywhere rfl rfl rfl ks_X3_everywhere ⟨Nat.le_of_ble_eq_true rfl, Nat.le_of_ble_eq_true rfl⟩) hK hP hD hS hA hZ rfl hl.1 rfl (lv_room (Nat.le_of_ble_eq_true rfl)) dX3_evaluate_129 ⟨Nat.zero_le _, Nat.zero_le _⟩ (fun u_11 H locs hu_11 hP hD hS => ?_)
        refine fx_last hx hb hK hP hD hS 15 (f := (evalT cso cki cfa cfb cfc cva csn ao way won i)) (k := i) (v := (evyL (cva i))) rfl (by omega) (by decide) dX3_evaluate_132 (fun H locs hP hD hS => ?_)
        have hP : va_P D vwCl (wA q cI cJ xro xtk xli cn ci cs cso cki cfa cfb cfc cva csn csd csl csb csr csc (va_up (evalT cso cki cfa cfb cfc cva csn ao way won i) i (evyL (cva i))) wle pte pho nwa nti) H := hP
        have hD : va_D A (wA q cI cJ xro xtk xli cn ci cs cso cki cfa cfb cfc cva csn csd csl csb csr csc (va_up (evalT cso cki cfa cfb cfc cva csn ao way won i) i (evyL (cva i))) wle pte pho nwa nti) := fx_D hD rfl
        refine lv_goto (tgt := 173) hx hb dX3_evaluate_133 (by decide) ?_
        refine lv_iinc (v := nI (i + 1)) (lv' := [(4, .int (nI (i + 1))), (0, .ref (q 14)), (2, .int (bI ao)), (3, .int (nI (way >>> ct (opP cso cva ao) i)))]) hx hb dX3_evaluate_173 hl (k := 3) rfl (by exact nI_1 _) (by decide) rfl (fun ls hl => ?_)
        refine lv_goto (tgt := 5) hx hb dX3_evaluate_176 (by decide) ?_
        have e_12 : va_up (evalT cso cki cfa cfb cfc cva csn ao way won i) i (evyL (cva i)) = evalT cso cki cfa cfb cfc cva csn ao way won (i + 1) := by first | rfl | (simp [evalT, opP, h_27])
        have e_13 : nI (way >>> ct (opP cso cva ao) i) = nI (way >>> ct (opP cso cva ao) (i + 1)) := by first | rfl | (simp [ct, opP, h_27, Nat.shiftRight_add])
        exact ih_5 (i + 1) (by first | assumption | omega) (by omega) H locs (fx_Pe (w' := (wA q cI cJ xro xtk xli cn ci cs cso cki cfa cfb cfc cva csn csd csl csb csr csc (evalT cso cki cfa cfb cfc cva csn ao way won (i + 1)) wle pte pho nwa nti)) hP (congrArg (fun w9 : Nat → Int64 => (wA q cI cJ xro xtk xli cn ci cs cso cki cfa cfb cfc cva csn csd csl csb csr csc w9 wle pte pho nwa nti)) e_12)) (fx_D hD rfl) hS ls (lv_sub (fx_hl (l' := [(4, .int (nI (i + 1))), (0, .ref (q 14)), (2, .int (bI ao)), (3, .int (nI (way >>> ct (opP cso cva ao) (i + 1))))]) hl (congrArg (fun w9 : Int32 => ([(4, .int (nI (i + 1))), (0, .ref (q 14)), (2, .int (bI ao)), (3, .int w9)] : List (Nat × Value))) e_13)) [1, 2, 3, 0] rfl)
      · refine lv_tableIn (off := 109) (tgt := 136) hx hb dX3_evaluate_27 (by rw [h_27]; decide) (by rw [h_27]; decide) (by rw [h_27]; decide) (by decide) ?_
        have hg1 := hg i (by omega) h_27
        refine lv_aload_n hx hb dX3_evaluate_136 rfl (lv_at hl 0 rfl) ?_
        refine va_get (D := D) (ci := 3) (v := .ref (q 15)) (C := RX3) (T := TX3) (N := 3) hx hb hts (fun w h => List.mem_cons_of_mem _ (List.mem_append_left _ (List.mem_append_right _ h))) hown hK hP 14 rfl rfl 1 (by decide) (hts (.fieldLink RX3 9 "FirstStates$Walk" "ones" "[J") (List.mem_of_getElem? (i := 5) rfl)) (fun _ h9 => h9) rfl dX3_evaluate_137 ?_
        refine lv_iload hx hb dX3_evaluate_140 (lv_at hl 3 rfl) ?_
        refine lv_aload_n hx hb dX3_evaluate_142 rfl (lv_at hl 0 rfl) ?_
        refine lv_iload hx hb dX3_evaluate_143 (lv_at hl 3 rfl) ?_
        refine fx_callV (As := [.int (nI i)]) (rest := [.int (nI i), .ref (q 15)]) ⟨hx, hb, hml, hown, hts⟩ (c_X3_gateOnes l D cI cJ cZ q xro xtk xli cn ci cs cso cki cfa cfb cfc cva csn csd csl csb csr csc (evalT cso cki cfa cfb cfc cva csn ao way won i) wle pte pho nwa nti i (by first | assumption | omega) (by first | assumption | omega) (by first | assumption | omega) (by first | assumption | omega)) (cwV 1 hts gX3_evaluate_X3_gateOnes rfl rfl rfl kv_X3_gateOnes ⟨Nat.le_of_ble_eq_true rfl, Nat.le_of_ble_eq_true rfl⟩) hK hP hD hS hA hZ 14 rfl rfl rfl rfl hl.1 rfl (lv_room (Nat.le_of_ble_eq_true rfl)) dX3_evaluate_145 ⟨Nat.zero_le _, Nat.zero_le _⟩ (fun u_14 H locs hu_14 hP hD hS => ?_)
        refine fx_last hx hb hK hP hD hS 15 (f := (evalT cso cki cfa cfb cfc cva csn ao way won i)) (k := i) (v := (goF (cki i) ((evalT cso cki cfa cfb cfc cva csn ao way won i) (cfa i)) ((evalT cso cki cfa cfb cfc cva csn ao way won i) (cfb i)) ((evalT cso cki cfa cfb cfc cva csn ao way won i) (cfc i)))) rfl (by omega) (by decide) dX3_evaluate_148 (fun H locs hP hD hS => ?_)
        have hP : va_P D vwCl (wA q cI cJ xro xtk xli cn ci cs cso cki cfa cfb cfc cva csn csd csl csb csr csc (va_up (evalT cso cki cfa cfb cfc cva csn ao way won i) i (goF (cki i) ((evalT cso cki cfa cfb cfc cva csn ao way won i) (cfa i)) ((evalT cso cki cfa cfb cfc cva csn ao way won i) (cfb i)) ((evalT cso cki cfa cfb cfc cva csn ao way won i) (cfc i)))) wle pte pho nwa nti) H := hP
        have hD : va_D A (wA q cI cJ xro xtk xli cn ci cs cso cki cfa cfb cfc cva csn csd csl csb csr csc (va_up (evalT cso cki cfa cfb cfc cva csn ao way won i) i (goF (cki i) ((evalT cso cki cfa cfb cfc cva csn ao way won i) (cfa i)) ((evalT cso cki cfa cfb cfc cva csn ao way won i) (cfb i)) ((evalT cso cki cfa cfb cfc cva csn ao way won i) (cfc i)))) wle pte pho nwa nti) := fx_D hD rfl
        refine lv_goto (tgt := 173) hx hb dX3_evaluate_149 (by decide) ?_
        refine lv_iinc (v := nI (i + 1)) (lv' := [(4, .int (nI (i + 1))), (0, .ref (q 14)), (2, .int (bI ao)), (3, .int (nI (way >>> ct (opP cso cva ao) i)))]) hx hb dX3_evaluate_173 hl (k := 3) rfl (by exact nI_1 _) (by decide) rfl (fun ls hl => ?_)
        refine lv_goto (tgt := 5) hx hb dX3_evaluate_176 (by decide) ?_
        have e_15 : va_up (evalT cso cki cfa cfb cfc cva csn ao way won i) i (goF (cki i) ((evalT cso cki cfa cfb cfc cva csn ao way won i) (cfa i)) ((evalT cso cki cfa cfb cfc cva csn ao way won i) (cfb i)) ((evalT cso cki cfa cfb cfc cva csn ao way won i) (cfc i))) = evalT cso cki cfa cfb cfc cva csn ao way won (i + 1) := by first | rfl | (simp [evalT, opP, h_27])
        have e_16 : nI (way >>> ct (opP cso cva ao) i) = nI (way >>> ct (opP cso cva ao) (i + 1)) := by first | rfl | (simp [ct, opP, h_27, Nat.shiftRight_add])
        exact ih_5 (i + 1) (by first | assumption | omega) (by omega) H locs (fx_Pe (w' := (wA q cI cJ xro xtk xli cn ci cs cso cki cfa cfb cfc cva csn csd csl csb csr csc (evalT cso cki cfa cfb cfc cva csn ao way won (i + 1)) wle pte pho nwa nti)) hP (congrArg (fun w9 : Nat → Int64 => (wA q cI cJ xro xtk xli cn ci cs cso cki cfa cfb cfc cva csn csd csl csb csr csc w9 wle pte pho nwa nti)) e_15)) (fx_D hD rfl) hS ls (lv_sub (fx_hl (l' := [(4, .int (nI (i + 1))), (0, .ref (q 14)), (2, .int (bI ao)), (3, .int (nI (way >>> ct (opP cso cva ao) (i + 1))))]) hl (congrArg (fun w9 : Int32 => ([(4, .int (nI (i + 1))), (0, .ref (q 14)), (2, .int (bI ao)), (3, .int w9)] : List (Nat × Value))) e_16)) [1, 2, 3, 0] rfl)
      refine lv_tableOut (tgt := 152) hx hb dX3_evaluate_27 (by rw [h_27]; decide) (by decide) ?_
      have hs1 := hs i (by omega) h_27
      refine lv_aload_n hx hb dX3_evaluate_152 rfl (lv_at hl 0 rfl) ?_
      refine va_get (D := D) (ci := 3) (v := .ref (q 15)) (C := RX3) (T := TX3) (N := 3) hx hb hts (fun w h => List.mem_cons_of_mem _ (List.mem_append_left _ (List.mem_append_right _ h))) hown hK hP 14 rfl rfl 1 (by decide) (hts (.fieldLink RX3 9 "FirstStates$Walk" "ones" "[J") (List.mem_of_getElem? (i := 5) rfl)) (fun _ h9 => h9) rfl dX3_evaluate_153 ?_
      refine lv_iload hx hb dX3_evaluate_156 (lv_at hl 3 rfl) ?_
      obtain ⟨th, hZ1, hT1⟩ := id hZ
      refine va_gets hx hb hZ1 hS hown (hts (.fieldLink RX3 60 "FirstStates$Walk" "HOLDING" "[J") (List.mem_of_getElem? (i := 6) rfl)) (fun _ h9 => h9) dX3_evaluate_158 ?_
      refine lv_aload_n hx hb dX3_evaluate_161 rfl (lv_at hl 0 rfl) ?_
      refine va_get (D := D) (ci := 3) (v := .ref (q 1)) (C := RX3) (T := TX3) (N := 3) hx hb hts (fun w h => List.mem_cons_of_mem _ (List.mem_append_left _ (List.mem_append_right _ h))) hown hK hP 14 rfl rfl 0 (by decide) (hts (.fieldLink RX3 18 "FirstStates$Walk" "circuit" "LFirstStates$Circuit;") (List.mem_of_getElem? (i := 1) rfl)) (fun _ h9 => h9) rfl dX3_evaluate_162 ?_
      refine va_get (D := D) (ci := 0) (v := .ref (q 8)) (C := RX0) (T := TX0) (N := 15) hx hb hts (fun w h => List.mem_cons_of_mem _ (List.mem_append_right _ h)) hown hK hP 1 rfl rfl 9 (by decide) (hts (.fieldLink RX3 63 "FirstStates$Circuit" "storeNumbers" "[I") (List.mem_of_getElem? (i := 7) rfl)) (fun _ h9 => h9) rfl dX3_evaluate_165 ?_
      refine lv_iload hx hb dX3_evaluate_168 (lv_at hl 3 rfl) ?_
      refine fx_iald (ar := nI) hx hb hK hP 8 (f := csn) (k := i) rfl (by omega) (by decide) dX3_evaluate_170 ?_
      refine fx_hold hx hb hT1 hS (by omega) dX3_evaluate_171 ?_
      refine fx_last hx hb hK hP hD hS 15 (f := (evalT cso cki cfa cfb cfc cva csn ao way won i)) (k := i) (v := (holdL (csn i))) rfl (by omega) (by decide) dX3_evaluate_172 (fun H locs hP hD hS => ?_)
      have hP : va_P D vwCl (wA q cI cJ xro xtk xli cn ci cs cso cki cfa cfb cfc cva csn csd csl csb csr csc (va_up (evalT cso cki cfa cfb cfc cva csn ao way won i) i (holdL (csn i))) wle pte pho nwa nti) H := hP
      have hD : va_D A (wA q cI cJ xro xtk xli cn ci cs cso cki cfa cfb cfc cva csn csd csl csb csr csc (va_up (evalT cso cki cfa cfb cfc cva csn ao way won i) i (holdL (csn i))) wle pte pho nwa nti) := fx_D hD rfl
      refine lv_iinc (v := nI (i + 1)) (lv' := [(4, .int (nI (i + 1))), (0, .ref (q 14)), (2, .int (bI ao)), (3, .int (nI (way >>> ct (opP cso cva ao) i)))]) hx hb dX3_evaluate_173 hl (k := 3) rfl (by exact nI_1 _) (by decide) rfl (fun ls hl => ?_)
      refine lv_goto (tgt := 5) hx hb dX3_evaluate_176 (by decide) ?_
      have e_17 : va_up (evalT cso cki cfa cfb cfc cva csn ao way won i) i (holdL (csn i)) = evalT cso cki cfa cfb cfc cva csn ao way won (i + 1) := by first | rfl | (simp [evalT, opP, h_27])
      have e_18 : nI (way >>> ct (opP cso cva ao) i) = nI (way >>> ct (opP cso cva ao) (i + 1)) := by first | rfl | (simp [ct, opP, h_27, Nat.shiftRight_add])
      exact ih_5 (i + 1) (by first | assumption | omega) (by omega) H locs (fx_Pe (w' := (wA q cI cJ xro xtk xli cn ci cs cso cki cfa cfb cfc cva csn csd csl csb csr csc (evalT cso cki cfa cfb cfc cva csn ao way won (i + 1)) wle pte pho nwa nti)) hP (congrArg (fun w9 : Nat → Int64 => (wA q cI cJ xro xtk xli cn ci cs cso cki cfa cfb cfc cva csn csd csl csb csr csc w9 wle pte pho nwa nti)) e_17)) (fx_D hD rfl) hS ls (lv_sub (fx_hl (l' := [(4, .int (nI (i + 1))), (0, .ref (q 14)), (2, .int (bI ao)), (3, .int (nI (way >>> ct (opP cso cva ao) (i + 1))))]) hl (congrArg (fun w9 : Int32 => ([(4, .int (nI (i + 1))), (0, .ref (q 14)), (2, .int (bI ao)), (3, .int w9)] : List (Nat × Value))) e_18)) [1, 2, 3, 0] rfl)
  exact L_5 (cn - 0 + 1) 0 (Nat.zero_le _) (Nat.lt_succ_self _) H locs hP (fx_D hD rfl) hS ls (lv_sub hl [2, 4, 1, 0] rfl)
set_option maxHeartbeats 4000000 in
set_option maxRecDepth 100000 in
theorem c_X3_led (l : Launch) (D : va_G) (cI cJ cZ : ClassId) (q : Nat → Nat) (xro : Int64) (xtk : Nat) (xli : Nat) (cn : Nat) (ci : Nat) (cs : Nat) (cso : Nat → Nat) (cki : Nat → Nat) (cfa : Nat → Nat) (cfb : Nat → Nat) (cfc : Nat → Nat) (cva : Nat → Nat) (csn : Nat → Nat) (csd : Nat → Nat) (csl : Nat → Nat) (csb : Nat → Nat) (csr : Nat → Nat) (csc : Nat → Nat) (won : Nat → Int64) (wle : Nat → Int64) (pte : Nat → Nat) (pho : Nat → Nat) (nwa : Nat → Int32) (nti : Nat → Int32) (r : Nat) (hcn : cn ≤ 32) (hcs : cs ≤ 6) (hsr : ∀ i, i < cs → csr i < cn) (hr : r < 64) : Ct l D cI cJ cZ yX3_led wsX3_led ({ frames := 0, cells := 0, slots := 0, locals := 0 } : Room) 0 0 [.ref (q 14), .int (nI r)] (wA q cI cJ xro xtk xli cn ci cs cso cki cfa cfb cfc cva csn csd csl csb csr csc won wle pte pho nwa nti) (S := Unit) (fun u => True) (fun u => some (.int (nI (ledN won csr cs r)))) (fun u => (wA q cI cJ xro xtk xli cn ci cs cso cki cfa cfb cfc cva csn csd csl csb csr csc won wle pte pho nwa nti)) := by
  refine Ct.ofW (cc := cX3_led) (maxL := 4) (ret := (some .int)) (R_C := RX3) (by decide +kernel) rfl rfl (Nat.le_of_ble_eq_true rfl) rfl ?_
  intro p e s m args below meth c A Q ls H locs hx hb hml hown hts hK hA hP hD hS hZ hl hri hrl hrv
  refine lv_iconst (v := nI 0) hx hb dX3_led_0 (by decide) ?_
  refine lv_istore_n (lv' := [(2, .int (nI 0)), (0, .ref (q 14)), (1, .int (nI r))]) hx hb dX3_led_1 rfl hl (by decide) rfl (fun ls hl => ?_)
  refine lv_iconst (v := nI 0) hx hb dX3_led_2 (by decide) ?_
  refine lv_istore_n (lv' := [(3, .int (nI 0)), (2, .int (nI 0)), (0, .ref (q 14)), (1, .int (nI r))]) hx hb dX3_led_3 rfl hl (by decide) rfl (fun ls hl => ?_)
  have L_4 : ∀ (fuel : Nat) (i : Nat) (hi : i ≤ cs) (hfu : cs - i < fuel) (H : Heap) (locs : List Loc), va_P D vwCl (wA q cI cJ xro xtk xli cn ci cs cso cki cfa cfb cfc cva csn csd csl csb csr csc won wle pte pho nwa nti) H → va_D A (wA q cI cJ xro xtk xli cn ci cs cso cki cfa cfb cfc cva csn csd csl csb csr csc won wle pte pho nwa nti) → va_S A s.heap H locs → ∀ ls : Array Slot, lv_has ls 4 [(0, .ref (q 14)), (1, .int (nI r)), (2, .int (nI (bN (fun jj => lbit (won (csr jj)) r) i))), (3, .int (nI i))] → W p l e ({ frames := 0, cells := 0, slots := 0, locals := 0 } : Room) s m args below meth c H locs 0 0 Q (F0 m 4 ls []) := by
    intro fuel
    induction fuel with
    | zero => intro i hi hfu; exact absurd hfu (Nat.not_lt_zero _)
    | succ fuel ih_4 =>
      intro i hi hfu H locs hP hD hS ls hl
      refine lv_iload_n hx hb dX3_led_4 rfl (lv_at hl 3 rfl) ?_
      refine lv_aload_n hx hb dX3_led_5 rfl (lv_at hl 0 rfl) ?_
      refine va_get (D := D) (ci := 3) (v := .ref (q 1)) (C := RX3) (T := TX3) (N := 3) hx hb hts (fun w h => List.mem_cons_of_mem _ (List.mem_append_left _ (List.mem_append_right _ h))) hown hK hP 14 rfl rfl 0 (by decide) (hts (.fieldLink RX3 18 "FirstStates$Walk" "circuit" "LFirstStates$Circuit;") (List.mem_of_getElem? (i := 1) rfl)) (fun _ h9 => h9) rfl dX3_led_6 ?_
      refine va_get (D := D) (ci := 0) (v := .int (nI cs)) (C := RX0) (T := TX0) (N := 15) hx hb hts (fun w h => List.mem_cons_of_mem _ (List.mem_append_right _ h)) hown hK hP 1 rfl rfl 2 (by decide) (hts (.fieldLink RX3 78 "FirstStates$Circuit" "stores" "I") (List.mem_of_getElem? (i := 2) rfl)) (fun _ h9 => h9) rfl dX3_led_9 ?_
      refine lv_icmp_ge (tgt := 50) hx hb dX3_led_12 (by decide) (fun c_12 => ?_) (fun c_12 => ?_)
      · have f_12 : cs ≤ i := (nI_leI (a := cs) (b := i) (by first | omega | exact b_and1 _ | exact b_ct _ _ (by omega) | exact b_andr _ (by omega)) (by first | omega | exact b_and1 _ | exact b_ct _ _ (by omega) | exact b_andr _ (by omega))).mp c_12
        refine lv_iload_n hx hb dX3_led_50 rfl (lv_at hl 2 rfl) ?_
        exact hri () _ H locs 51 ls .int rfl rfl trivial (by rw [show cs = i by omega]; rfl) hP hD hS dX3_led_51
      have f_12 : ¬ cs ≤ i := fun h => c_12 ((nI_leI (a := cs) (b := i) (by first | omega | exact b_and1 _ | exact b_ct _ _ (by omega) | exact b_andr _ (by omega)) (by first | omega | exact b_and1 _ | exact b_ct _ _ (by omega) | exact b_andr _ (by omega))).mpr h)
      have hsr1 := hsr i (by omega)
      refine lv_aload_n hx hb dX3_led_15 rfl (lv_at hl 0 rfl) ?_
      refine va_get (D := D) (ci := 3) (v := .ref (q 15)) (C := RX3) (T := TX3) (N := 3) hx hb hts (fun w h => List.mem_cons_of_mem _ (List.mem_append_left _ (List.mem_append_right _ h))) hown hK hP 14 rfl rfl 1 (by decide) (hts (.fieldLink RX3 9 "FirstStates$Walk" "ones" "[J") (List.mem_of_getElem? (i := 3) rfl)) (fun _ h9 => h9) rfl dX3_led_16 ?_
      refine lv_aload_n hx hb dX3_led_19 rfl (lv_at hl 0 rfl) ?_
      refine va_get (D := D) (ci := 3) (v := .ref (q 1)) (C := RX3) (T := TX3) (N := 3) hx hb hts (fun w h => List.mem_cons_of_mem _ (List.mem_append_left _ (List.mem_append_right _ h))) hown hK hP 14 rfl rfl 0 (by decide) (hts (.fieldLink RX3 18 "FirstStates$Walk" "circuit" "LFirstStates$Circuit;") (List.mem_of_getElem? (i := 1) rfl)) (fun _ h9 => h9) rfl dX3_led_20 ?_
      refine va_get (D := D) (ci := 0) (v := .ref (q 12)) (C := RX0) (T := TX0) (N := 15) hx hb hts (fun w h => List.mem_cons_of_mem _ (List.mem_append_right _ h)) hown hK hP 1 rfl rfl 13 (by decide) (hts (.fieldLink RX3 81 "FirstStates$Circuit" "storeReads" "[I") (List.mem_of_getElem? (i := 4) rfl)) (fun _ h9 => h9) rfl dX3_led_23 ?_
      refine lv_iload_n hx hb dX3_led_26 rfl (lv_at hl 3 rfl) ?_
      refine fx_iald (ar := nI) hx hb hK hP 12 (f := csr) (k := i) rfl (by omega) (by decide) dX3_led_27 ?_
      refine fx_lald hx hb hK hP 15 (f := won) (k := (csr i)) rfl (by omega) (by decide) dX3_led_28 ?_
      refine lv_iload_n hx hb dX3_led_29 rfl (lv_at hl 1 rfl) ?_
      refine lv_lushr hx hb dX3_led_30 rfl ?_
      refine lv_lconst (v := 1) hx hb dX3_led_31 (by decide) ?_
      refine lv_land hx hb dX3_led_32 ?_
      refine lv_lconst (v := 0) hx hb dX3_led_33 (by decide) ?_
      refine W.lcmp hx hb dX3_led_34 ?_
      refine lv_if_eq (tgt := 44) hx hb dX3_led_35 (by decide) (fun c_35 => ?_) (fun c_35 => ?_)
      · have f_35 : (((won (csr i)).toUInt64 >>> ((nI r).toInt64.toUInt64 &&& Int64.toUInt64 63)).toInt64) &&& 1 = 0 := (fx_cmp0 _ _).mp c_35
        refine lv_iinc (v := nI (i + 1)) (lv' := [(3, .int (nI (i + 1))), (0, .ref (q 14)), (1, .int (nI r)), (2, .int (nI (bN (fun jj => lbit (won (csr jj)) r) i)))]) hx hb dX3_led_44 hl (k := 3) rfl (by exact nI_1 _) (by decide) rfl (fun ls hl => ?_)
        refine lv_goto (tgt := 4) hx hb dX3_led_47 (by decide) ?_
        have e_1 : nI (bN (fun jj => lbit (won (csr jj)) r) i) = nI (bN (fun jj => lbit (won (csr jj)) r) (i + 1)) := by first | rfl | (simp [bN, lbit, ushL, f_35])
        exact ih_4 (i + 1) (by first | assumption | omega) (by omega) H locs hP hD hS ls (lv_sub (fx_hl (l' := [(3, .int (nI (i + 1))), (0, .ref (q 14)), (1, .int (nI r)), (2, .int (nI (bN (fun jj => lbit (won (csr jj)) r) (i + 1))))]) hl (congrArg (fun w9 : Int32 => ([(3, .int (nI (i + 1))), (0, .ref (q 14)), (1, .int (nI r)), (2, .int w9)] : List (Nat × Value))) e_1)) [1, 2, 3, 0] rfl)
      have f_35 : ¬ (((won (csr i)).toUInt64 >>> ((nI r).toInt64.toUInt64 &&& Int64.toUInt64 63)).toInt64) &&& 1 = 0 := fun h => c_35 ((fx_cmp0 _ _).mpr h)
      refine lv_iload_n hx hb dX3_led_38 rfl (lv_at hl 2 rfl) ?_
      refine lv_iconst (v := nI 1) hx hb dX3_led_39 (by decide) ?_
      refine lv_iload_n hx hb dX3_led_40 rfl (lv_at hl 3 rfl) ?_
      refine lv_ishl hx hb dX3_led_41 ?_
      refine fx_eqi (y := nI (2 ^ i)) (fx_shl1 (by first | omega | exact b_and1 _ | exact b_ct _ _ (by omega) | exact b_andr _ (by omega))) ?_
      refine lv_ior hx hb dX3_led_42 ?_
      refine fx_eqi (fx_orI _ _) ?_
      refine lv_istore_n (lv' := [(2, .int (nI ((bN (fun jj => lbit (won (csr jj)) r) i) ||| (2 ^ i)))), (0, .ref (q 14)), (1, .int (nI r)), (3, .int (nI i))]) hx hb dX3_led_43 rfl hl (by decide) rfl (fun ls hl => ?_)
      refine lv_iinc (v := nI (i + 1)) (lv' := [(3, .int (nI (i + 1))), (2, .int (nI ((bN (fun jj => lbit (won (csr jj)) r) i) ||| (2 ^ i)))), (0, .ref (q 14)), (1, .int (nI r))]) hx hb dX3_led_44 hl (k := 3) rfl (by exact nI_1 _) (by decide) rfl (fun ls hl => ?_)
      refine lv_goto (tgt := 4) hx hb dX3_led_47 (by decide) ?_
      have e_2 : nI ((bN (fun jj => lbit (won (csr jj)) r) i) ||| (2 ^ i)) = nI (bN (fun jj => lbit (won (csr jj)) r) (i + 1)) := by first | rfl | (simp [bN, lbit, ushL, f_35])
      exact ih_4 (i + 1) (by first | assumption | omega) (by omega) H locs hP hD hS ls (lv_sub (fx_hl (l' := [(3, .int (nI (i + 1))), (2, .int (nI (bN (fun jj => lbit (won (csr jj)) r) (i + 1)))), (0, .ref (q 14)), (1, .int (nI r))]) hl (congrArg (fun w9 : Int32 => ([(3, .int (nI (i + 1))), (2, .int w9), (0, .ref (q 14)), (1, .int (nI r))] : List (Nat × Value))) e_2)) [2, 3, 1, 0] rfl)
  have e_3 : nI 0 = nI (bN (fun jj => lbit (won (csr jj)) r) 0) := by first | rfl | (simp [bN, lbit, ushL, Nat.add_zero])
  exact L_4 (cs - 0 + 1) 0 (Nat.zero_le _) (Nat.lt_succ_self _) H locs hP hD hS ls (lv_sub (fx_hl (l' := [(3, .int (nI 0)), (2, .int (nI (bN (fun jj => lbit (won (csr jj)) r) 0))), (0, .ref (q 14)), (1, .int (nI r))]) hl (congrArg (fun w9 : Int32 => ([(3, .int (nI 0)), (2, .int w9), (0, .ref (q 14)), (1, .int (nI r))] : List (Nat × Value))) e_3)) [2, 3, 1, 0] rfl)
set_option maxHeartbeats 4000000 in
set_option maxRecDepth 100000 in
theorem c_X3_prepare (l : Launch) (D : va_G) (cI cJ cZ : ClassId) (q : Nat → Nat) (xro : Int64) (xtk : Nat) (xli : Nat) (cn : Nat) (ci : Nat) (cs : Nat) (cso : Nat → Nat) (cki : Nat → Nat) (cfa : Nat → Nat) (cfb : Nat → Nat) (cfc : Nat → Nat) (cva : Nat → Nat) (csn : Nat → Nat) (csd : Nat → Nat) (csl : Nat → Nat) (csb : Nat → Nat) (csr : Nat → Nat) (csc : Nat → Nat) (won : Nat → Int64) (wle : Nat → Int64) (pte : Nat → Nat) (pho : Nat → Nat) (nwa : Nat → Int32) (nti : Nat → Int32) (ao : Bool) (hcn : cn ≤ 32) (hcs : cs ≤ 6) (hso : ∀ j, j < cn → cso j ≤ 3 ∧ cki j ≤ 4 ∧ cva j ≤ 2) (hg : ∀ j, j < cn → cso j = 2 → cfa j < j ∧ cfb j < j ∧ cfc j < j) (hs : ∀ j, j < cn → cso j = 3 → csn j < cs) (hin : ct (fun j => decide (cso j = 0)) cn ≤ 4) (hsr : ∀ i, i < cs → csr i < cn) : Ct l D cI cJ cZ yX3_prepare wsX3_prepare ({ frames := 2, cells := 0, slots := 0, locals := 51 } : Room) 0 0 [.ref (q 14), .int (bI ao)] (wA q cI cJ xro xtk xli cn ci cs cso cki cfa cfb cfc cva csn csd csl csb csr csc won wle pte pho nwa nti) (S := Unit) (fun u => True) (fun u => none) (fun u => (wA q cI cJ xro xtk xli cn ci cs cso cki cfa cfb cfc cva csn csd csl csb csr csc ((preT cso cki cfa cfb cfc cva csn csr cn cs ao won wle (2 ^ ct (opP cso cva ao) cn)).1) ((preT cso cki cfa cfb cfc cva csn csr cn cs ao won wle (2 ^ ct (opP cso cva ao) cn)).2) pte pho nwa nti)) := by
  refine Ct.ofW (cc := cX3_prepare) (maxL := 6) (ret := none) (R_C := RX3) (by decide +kernel) rfl rfl (Nat.le_of_ble_eq_true rfl) rfl ?_
  intro p e s m args below meth c A Q ls H locs hx hb hml hown hts hK hA hP hD hS hZ hl hri hrl hrv
  refine lv_aload_n hx hb dX3_prepare_0 rfl (lv_at hl 0 rfl) ?_
  refine va_get (D := D) (ci := 3) (v := .ref (q 1)) (C := RX3) (T := TX3) (N := 3) hx hb hts (fun w h => List.mem_cons_of_mem _ (List.mem_append_left _ (List.mem_append_right _ h))) hown hK hP 14 rfl rfl 0 (by decide) (hts (.fieldLink RX3 18 "FirstStates$Walk" "circuit" "LFirstStates$Circuit;") (List.mem_of_getElem? (i := 1) rfl)) (fun _ h9 => h9) rfl dX3_prepare_1 ?_
  refine fx_callV (As := []) (rest := []) ⟨hx, hb, hml, hown, hts⟩ (c_X0_rowCount l D cI cJ cZ q xro xtk xli cn ci cs cso cki cfa cfb cfc cva csn csd csl csb csr csc won wle pte pho nwa nti (by first | assumption | omega)) (cwV 0 hts gX3_prepare_X0_rowCount rfl rfl rfl kv_X0_rowCount ⟨Nat.le_of_ble_eq_true rfl, Nat.le_of_ble_eq_true rfl⟩) hK hP hD hS hA hZ 1 rfl rfl rfl rfl hl.1 rfl (lv_room (Nat.le_of_ble_eq_true rfl)) dX3_prepare_4 ⟨Nat.zero_le _, Nat.zero_le _⟩ (fun u_1 H locs hu_1 hP hD hS => ?_)
  refine lv_istore_n (lv' := [(2, .int (nI (2 ^ cs))), (0, .ref (q 14)), (1, .int (bI ao))]) hx hb dX3_prepare_7 rfl hl (by decide) rfl (fun ls hl => ?_)
  have hp6 : 2 ^ cs ≤ 64 := Nat.pow_le_pow_right (by omega) hcs
  refine lv_iconst (v := nI 0) hx hb dX3_prepare_8 (by decide) ?_
  refine lv_istore_n (lv' := [(3, .int (nI 0)), (2, .int (nI (2 ^ cs))), (0, .ref (q 14)), (1, .int (bI ao))]) hx hb dX3_prepare_9 rfl hl (by decide) rfl (fun ls hl => ?_)
  have L_10 : ∀ (fuel : Nat) (i : Nat) (hi : i ≤ 2 ^ cs) (hfu : 2 ^ cs - i < fuel) (H : Heap) (locs : List Loc), va_P D vwCl (wA q cI cJ xro xtk xli cn ci cs cso cki cfa cfb cfc cva csn csd csl csb csr csc won (mixF (fun _ => 0) wle i) pte pho nwa nti) H → va_D A (wA q cI cJ xro xtk xli cn ci cs cso cki cfa cfb cfc cva csn csd csl csb csr csc won (mixF (fun _ => 0) wle i) pte pho nwa nti) → va_S A s.heap H locs → ∀ ls : Array Slot, lv_has ls 6 [(0, .ref (q 14)), (1, .int (bI ao)), (2, .int (nI (2 ^ cs))), (3, .int (nI i))] → W p l e ({ frames := 2, cells := 0, slots := 0, locals := 51 } : Room) s m args below meth c H locs 0 0 Q (F0 m 10 ls []) := by
    intro fuel
    induction fuel with
    | zero => intro i hi hfu; exact absurd hfu (Nat.not_lt_zero _)
    | succ fuel ih_10 =>
      intro i hi hfu H locs hP hD hS ls hl
      refine lv_iload_n hx hb dX3_prepare_10 rfl (lv_at hl 3 rfl) ?_
      refine lv_iload_n hx hb dX3_prepare_11 rfl (lv_at hl 2 rfl) ?_
      refine lv_icmp_ge (tgt := 28) hx hb dX3_prepare_12 (by decide) (fun c_12 => ?_) (fun c_12 => ?_)
      · have f_12 : 2 ^ cs ≤ i := (nI_leI (a := 2 ^ cs) (b := i) (by first | omega | exact b_and1 _ | exact b_ct _ _ (by omega) | exact b_andr _ (by omega)) (by first | omega | exact b_and1 _ | exact b_ct _ _ (by omega) | exact b_andr _ (by omega))).mp c_12
        have e_i : i = 2 ^ cs := by omega
        have hc4 : ct (opP cso cva ao) cn ≤ 4 := Nat.le_trans (ct_op _ _ _ _) hin
        have hp4 : 2 ^ ct (opP cso cva ao) cn ≤ 16 := Nat.pow_le_pow_right (by omega) hc4
        refine lv_iconst (v := nI 1) hx hb dX3_prepare_28 (by decide) ?_
        refine lv_aload_n hx hb dX3_prepare_29 rfl (lv_at hl 0 rfl) ?_
        refine va_get (D := D) (ci := 3) (v := .ref (q 1)) (C := RX3) (T := TX3) (N := 3) hx hb hts (fun w h => List.mem_cons_of_mem _ (List.mem_append_left _ (List.mem_append_right _ h))) hown hK hP 14 rfl rfl 0 (by decide) (hts (.fieldLink RX3 18 "FirstStates$Walk" "circuit" "LFirstStates$Circuit;") (List.mem_of_getElem? (i := 1) rfl)) (fun _ h9 => h9) rfl dX3_prepare_30 ?_
        refine lv_iload_n hx hb dX3_prepare_33 rfl (lv_at hl 1 rfl) ?_
        refine fx_callV (As := [.int (bI ao)]) (rest := [.int (nI 1)]) ⟨hx, hb, hml, hown, hts⟩ (c_X0_openInputs l D cI cJ cZ q xro xtk xli cn ci cs cso cki cfa cfb cfc cva csn csd csl csb csr csc won (mixF (fun _ => 0) wle i) pte pho nwa nti ao (by first | assumption | omega) (fun j hj => ⟨(hso j hj).1, (hso j hj).2.2⟩)) (cwV 1 hts gX3_prepare_X0_openInputs rfl rfl rfl kv_X0_openInputs ⟨Nat.le_of_ble_eq_true rfl, Nat.le_of_ble_eq_true rfl⟩) hK hP hD hS hA hZ 1 rfl rfl rfl rfl hl.1 rfl (lv_room (Nat.le_of_ble_eq_true rfl)) dX3_prepare_34 ⟨Nat.zero_le _, Nat.zero_le _⟩ (fun u_2 H locs hu_2 hP hD hS => ?_)
        refine lv_ishl hx hb dX3_prepare_37 ?_
        refine fx_eqi (y := nI (2 ^ (ct (opP cso cva ao) cn))) (fx_shl1 (by first | omega | exact b_and1 _ | exact b_ct _ _ (by omega) | exact b_andr _ (by omega))) ?_
        refine lv_istore_n (lv' := [(3, .int (nI (2 ^ (ct (opP cso cva ao) cn)))), (0, .ref (q 14)), (1, .int (bI ao)), (2, .int (nI (2 ^ cs)))]) hx hb dX3_prepare_38 rfl hl (by decide) rfl (fun ls hl => ?_)
        refine lv_iconst (v := nI 0) hx hb dX3_prepare_39 (by decide) ?_
        refine lv_istore (lv' := [(4, .int (nI 0)), (3, .int (nI (2 ^ (ct (opP cso cva ao) cn)))), (0, .ref (q 14)), (1, .int (bI ao)), (2, .int (nI (2 ^ cs)))]) hx hb dX3_prepare_40 hl (by decide) rfl (fun ls hl => ?_)
        have L_42 : ∀ (fuel : Nat) (w : Nat) (hw : w ≤ 2 ^ ct (opP cso cva ao) cn) (hfu : 2 ^ ct (opP cso cva ao) cn - w < fuel) (H : Heap) (locs : List Loc), va_P D vwCl (wA q cI cJ xro xtk xli cn ci cs cso cki cfa cfb cfc cva csn csd csl csb csr csc ((preT cso cki cfa cfb cfc cva csn csr cn cs ao won wle w).1) ((preT cso cki cfa cfb cfc cva csn csr cn cs ao won wle w).2) pte pho nwa nti) H → va_D A (wA q cI cJ xro xtk xli cn ci cs cso cki cfa cfb cfc cva csn csd csl csb csr csc ((preT cso cki cfa cfb cfc cva csn csr cn cs ao won wle w).1) ((preT cso cki cfa cfb cfc cva csn csr cn cs ao won wle w).2) pte pho nwa nti) → va_S A s.heap H locs → ∀ ls : Array Slot, lv_has ls 6 [(0, .ref (q 14)), (1, .int (bI ao)), (2, .int (nI (2 ^ cs))), (3, .int (nI (2 ^ ct (opP cso cva ao) cn))), (4, .int (nI w))] → W p l e ({ frames := 2, cells := 0, slots := 0, locals := 51 } : Room) s m args below meth c H locs 0 0 Q (F0 m 42 ls []) := by
          intro fuel
          induction fuel with
          | zero => intro w hw hfu; exact absurd hfu (Nat.not_lt_zero _)
          | succ fuel ih_42 =>
            intro w hw hfu H locs hP hD hS ls hl
            refine lv_iload hx hb dX3_prepare_42 (lv_at hl 4 rfl) ?_
            refine lv_iload_n hx hb dX3_prepare_44 rfl (lv_at hl 3 rfl) ?_
            refine lv_icmp_ge (tgt := 94) hx hb dX3_prepare_45 (by decide) (fun c_45 => ?_) (fun c_45 => ?_)
            · have f_45 : 2 ^ ct (opP cso cva ao) cn ≤ w := (nI_leI (a := 2 ^ ct (opP cso cva ao) cn) (b := w) (by first | omega | exact b_and1 _ | exact b_ct _ _ (by omega) | exact b_andr _ (by omega)) (by first | omega | exact b_and1 _ | exact b_ct _ _ (by omega) | exact b_andr _ (by omega))).mp c_45
              have e_w : w = 2 ^ ct (opP cso cva ao) cn := by omega
              have e_3 : (preT cso cki cfa cfb cfc cva csn csr cn cs ao won wle w).1 = (preT cso cki cfa cfb cfc cva csn csr cn cs ao won wle (2 ^ ct (opP cso cva ao) cn)).1 := by first | rfl | (rw [e_w])
              have e_4 : (preT cso cki cfa cfb cfc cva csn csr cn cs ao won wle w).2 = (preT cso cki cfa cfb cfc cva csn csr cn cs ao won wle (2 ^ ct (opP cso cva ao) cn)).2 := by first | rfl | (rw [e_w])
              exact hrv () H locs 94 ls rfl trivial rfl (fx_Pe (w' := (wA q cI cJ xro xtk xli cn ci cs cso cki cfa cfb cfc cva csn csd csl csb csr csc ((preT cso cki cfa cfb cfc cva csn csr cn cs ao won wle (2 ^ ct (opP cso cva ao) cn)).1) ((preT cso cki cfa cfb cfc cva csn csr cn cs ao won wle (2 ^ ct (opP cso cva ao) cn)).2) pte pho nwa nti)) (fx_Pe (w' := (wA q cI cJ xro xtk xli cn ci cs cso cki cfa cfb cfc cva csn csd csl csb csr csc ((preT cso cki cfa cfb cfc cva csn csr cn cs ao won wle (2 ^ ct (opP cso cva ao) cn)).1) ((preT cso cki cfa cfb cfc cva csn csr cn cs ao won wle w).2) pte pho nwa nti)) hP (congrArg (fun w9 : Nat → Int64 => (wA q cI cJ xro xtk xli cn ci cs cso cki cfa cfb cfc cva csn csd csl csb csr csc w9 ((preT cso cki cfa cfb cfc cva csn csr cn cs ao won wle w).2) pte pho nwa nti)) e_3)) (congrArg (fun w9 : Nat → Int64 => (wA q cI cJ xro xtk xli cn ci cs cso cki cfa cfb cfc cva csn csd csl csb csr csc ((preT cso cki cfa cfb cfc cva csn csr cn cs ao won wle (2 ^ ct (opP cso cva ao) cn)).1) w9 pte pho nwa nti)) e_4)) (fx_D hD rfl) hS dX3_prepare_94
            have f_45 : ¬ 2 ^ ct (opP cso cva ao) cn ≤ w := fun h => c_45 ((nI_leI (a := 2 ^ ct (opP cso cva ao) cn) (b := w) (by first | omega | exact b_and1 _ | exact b_ct _ _ (by omega) | exact b_andr _ (by omega)) (by first | omega | exact b_and1 _ | exact b_ct _ _ (by omega) | exact b_andr _ (by omega))).mpr h)
            refine lv_aload_n hx hb dX3_prepare_48 rfl (lv_at hl 0 rfl) ?_
            refine lv_iload hx hb dX3_prepare_49 (lv_at hl 4 rfl) ?_
            refine lv_iload_n hx hb dX3_prepare_51 rfl (lv_at hl 1 rfl) ?_
            refine fx_callV (As := [.int (nI w), .int (bI ao)]) (rest := []) ⟨hx, hb, hml, hown, hts⟩ (c_X3_evaluate l D cI cJ cZ q xro xtk xli cn ci cs cso cki cfa cfb cfc cva csn csd csl csb csr csc ((preT cso cki cfa cfb cfc cva csn csr cn cs ao won wle w).1) ((preT cso cki cfa cfb cfc cva csn csr cn cs ao won wle w).2) pte pho nwa nti w ao (by first | assumption | omega) (by first | assumption | omega) (by first | assumption | omega) (by first | assumption | omega) (by first | assumption | omega) (by first | assumption | omega) (by first | assumption | omega)) (cwV 2 hts gX3_prepare_X3_evaluate rfl rfl rfl kv_X3_evaluate ⟨Nat.le_of_ble_eq_true rfl, Nat.le_of_ble_eq_true rfl⟩) hK hP hD hS hA hZ 14 rfl rfl rfl rfl hl.1 rfl (lv_room (Nat.le_of_ble_eq_true rfl)) dX3_prepare_52 ⟨Nat.zero_le _, Nat.zero_le _⟩ (fun u_5 H locs hu_5 hP hD hS => ?_)
            have hP : va_P D vwCl (wA q cI cJ xro xtk xli cn ci cs cso cki cfa cfb cfc cva csn csd csl csb csr csc (evalT cso cki cfa cfb cfc cva csn ao w ((preT cso cki cfa cfb cfc cva csn csr cn cs ao won wle w).1) cn) ((preT cso cki cfa cfb cfc cva csn csr cn cs ao won wle w).2) pte pho nwa nti) H := hP
            have hD : va_D A (wA q cI cJ xro xtk xli cn ci cs cso cki cfa cfb cfc cva csn csd csl csb csr csc (evalT cso cki cfa cfb cfc cva csn ao w ((preT cso cki cfa cfb cfc cva csn csr cn cs ao won wle w).1) cn) ((preT cso cki cfa cfb cfc cva csn csr cn cs ao won wle w).2) pte pho nwa nti) := fx_D hD rfl
            refine lv_iconst (v := nI 0) hx hb dX3_prepare_55 (by decide) ?_
            refine lv_istore (lv' := [(5, .int (nI 0)), (0, .ref (q 14)), (1, .int (bI ao)), (2, .int (nI (2 ^ cs))), (3, .int (nI (2 ^ ct (opP cso cva ao) cn))), (4, .int (nI w))]) hx hb dX3_prepare_56 hl (by decide) rfl (fun ls hl => ?_)
            have L_58 : ∀ (fuel : Nat) (k : Nat) (hk : k ≤ 2 ^ cs) (hfu : 2 ^ cs - k < fuel) (H : Heap) (locs : List Loc), va_P D vwCl (wA q cI cJ xro xtk xli cn ci cs cso cki cfa cfb cfc cva csn csd csl csb csr csc (evalT cso cki cfa cfb cfc cva csn ao w ((preT cso cki cfa cfb cfc cva csn csr cn cs ao won wle w).1) cn) (mixF (fun j => (preT cso cki cfa cfb cfc cva csn csr cn cs ao won wle w).2 j ||| shL 1 (ledN (evalT cso cki cfa cfb cfc cva csn ao w (preT cso cki cfa cfb cfc cva csn csr cn cs ao won wle w).1 cn) csr cs j)) (preT cso cki cfa cfb cfc cva csn csr cn cs ao won wle w).2 k) pte pho nwa nti) H → va_D A (wA q cI cJ xro xtk xli cn ci cs cso cki cfa cfb cfc cva csn csd csl csb csr csc (evalT cso cki cfa cfb cfc cva csn ao w ((preT cso cki cfa cfb cfc cva csn csr cn cs ao won wle w).1) cn) (mixF (fun j => (preT cso cki cfa cfb cfc cva csn csr cn cs ao won wle w).2 j ||| shL 1 (ledN (evalT cso cki cfa cfb cfc cva csn ao w (preT cso cki cfa cfb cfc cva csn csr cn cs ao won wle w).1 cn) csr cs j)) (preT cso cki cfa cfb cfc cva csn csr cn cs ao won wle w).2 k) pte pho nwa nti) → va_S A s.heap H locs → ∀ ls : Array Slot, lv_has ls 6 [(0, .ref (q 14)), (1, .int (bI ao)), (2, .int (nI (2 ^ cs))), (3, .int (nI (2 ^ ct (opP cso cva ao) cn))), (4, .int (nI w)), (5, .int (nI k))] → W p l e ({ frames := 2, cells := 0, slots := 0, locals := 51 } : Room) s m args below meth c H locs 0 0 Q (F0 m 58 ls []) := by
              intro fuel
              induction fuel with
              | zero => intro k hk hfu; exact absurd hfu (Nat.not_lt_zero _)
              | succ fuel ih_58 =>
                intro k hk hfu H locs hP hD hS ls hl
                refine lv_iload hx hb dX3_prepare_58 (lv_at hl 5 rfl) ?_
                refine lv_iload_n hx hb dX3_prepare_60 rfl (lv_at hl 2 rfl) ?_
                refine lv_icmp_ge (tgt := 88) hx hb dX3_prepare_61 (by decide) (fun c_61 => ?_) (fun c_61 => ?_)
                · have f_61 : 2 ^ cs ≤ k := (nI_leI (a := 2 ^ cs) (b := k) (by first | omega | exact b_and1 _ | exact b_ct _ _ (by omega) | exact b_andr _ (by omega)) (by first | omega | exact b_and1 _ | exact b_ct _ _ (by omega) | exact b_andr _ (by omega))).mp c_61
                  have e_k : k = 2 ^ cs := by omega
                  refine lv_iinc (v := nI (w + 1)) (lv' := [(4, .int (nI (w + 1))), (0, .ref (q 14)), (1, .int (bI ao)), (2, .int (nI (2 ^ cs))), (3, .int (nI (2 ^ ct (opP cso cva ao) cn))), (5, .int (nI k))]) hx hb dX3_prepare_88 hl (k := 4) rfl (by exact nI_1 _) (by decide) rfl (fun ls hl => ?_)
                  refine lv_goto (tgt := 42) hx hb dX3_prepare_91 (by decide) ?_
                  have e_6 : mixF (fun j => (preT cso cki cfa cfb cfc cva csn csr cn cs ao won wle w).2 j ||| shL 1 (ledN (evalT cso cki cfa cfb cfc cva csn ao w (preT cso cki cfa cfb cfc cva csn csr cn cs ao won wle w).1 cn) csr cs j)) (preT cso cki cfa cfb cfc cva csn csr cn cs ao won wle w).2 k = (preT cso cki cfa cfb cfc cva csn csr cn cs ao won wle (w + 1)).2 := by first | rfl | (rw [e_k]; rfl)
                  exact ih_42 (w + 1) (by first | assumption | omega) (by omega) H locs (fx_Pe (w' := (wA q cI cJ xro xtk xli cn ci cs cso cki cfa cfb cfc cva csn csd csl csb csr csc (evalT cso cki cfa cfb cfc cva csn ao w ((preT cso cki cfa cfb cfc cva csn csr cn cs ao won wle w).1) cn) ((preT cso cki cfa cfb cfc cva csn csr cn cs ao won wle (w + 1)).2) pte pho nwa nti)) hP (congrArg (fun w9 : Nat → Int64 => (wA q cI cJ xro xtk xli cn ci cs cso cki cfa cfb cfc cva csn csd csl csb csr csc (evalT cso cki cfa cfb cfc cva csn ao w ((preT cso cki cfa cfb cfc cva csn csr cn cs ao won wle w).1) cn) w9 pte pho nwa nti)) e_6)) (fx_D hD rfl) hS ls (lv_sub hl [1, 2, 3, 4, 0] rfl)
                have f_61 : ¬ 2 ^ cs ≤ k := fun h => c_61 ((nI_leI (a := 2 ^ cs) (b := k) (by first | omega | exact b_and1 _ | exact b_ct _ _ (by omega) | exact b_andr _ (by omega)) (by first | omega | exact b_and1 _ | exact b_ct _ _ (by omega) | exact b_andr _ (by omega))).mpr h)
                refine lv_aload_n hx hb dX3_prepare_64 rfl (lv_at hl 0 rfl) ?_
                refine va_get (D := D) (ci := 3) (v := .ref (q 16)) (C := RX3) (T := TX3) (N := 3) hx hb hts (fun w h => List.mem_cons_of_mem _ (List.mem_append_left _ (List.mem_append_right _ h))) hown hK hP 14 rfl rfl 2 (by decide) (hts (.fieldLink RX3 15 "FirstStates$Walk" "leads" "[J") (List.mem_of_getElem? (i := 2) rfl)) (fun _ h9 => h9) rfl dX3_prepare_65 ?_
                refine lv_iload hx hb dX3_prepare_68 (lv_at hl 5 rfl) ?_
                refine lv_dup2_11 hx hb dX3_prepare_70 rfl rfl ?_
                refine fx_lald hx hb hK hP 16 (f := (mixF (fun j => (preT cso cki cfa cfb cfc cva csn csr cn cs ao won wle w).2 j ||| shL 1 (ledN (evalT cso cki cfa cfb cfc cva csn ao w (preT cso cki cfa cfb cfc cva csn csr cn cs ao won wle w).1 cn) csr cs j)) (preT cso cki cfa cfb cfc cva csn csr cn cs ao won wle w).2 k)) (k := k) rfl (by omega) (by decide) dX3_prepare_71 ?_
                refine lv_lconst (v := 1) hx hb dX3_prepare_72 (by decide) ?_
                refine lv_aload_n hx hb dX3_prepare_73 rfl (lv_at hl 0 rfl) ?_
                refine lv_iload hx hb dX3_prepare_74 (lv_at hl 5 rfl) ?_
                refine fx_callV (As := [.int (nI k)]) (rest := [.long 1, .long ((mixF (fun j => (preT cso cki cfa cfb cfc cva csn csr cn cs ao won wle w).2 j ||| shL 1 (ledN (evalT cso cki cfa cfb cfc cva csn ao w (preT cso cki cfa cfb cfc cva csn csr cn cs ao won wle w).1 cn) csr cs j)) (preT cso cki cfa cfb cfc cva csn csr cn cs ao won wle w).2 k) k), .int (nI k), .ref (q 16)]) ⟨hx, hb, hml, hown, hts⟩ (c_X3_led l D cI cJ cZ q xro xtk xli cn ci cs cso cki cfa cfb cfc cva csn csd csl csb csr csc (evalT cso cki cfa cfb cfc cva csn ao w ((preT cso cki cfa cfb cfc cva csn csr cn cs ao won wle w).1) cn) (mixF (fun j => (preT cso cki cfa cfb cfc cva csn csr cn cs ao won wle w).2 j ||| shL 1 (ledN (evalT cso cki cfa cfb cfc cva csn ao w (preT cso cki cfa cfb cfc cva csn csr cn cs ao won wle w).1 cn) csr cs j)) (preT cso cki cfa cfb cfc cva csn csr cn cs ao won wle w).2 k) pte pho nwa nti k (by first | assumption | omega) (by first | assumption | omega) (by first | assumption | omega) (by first | assumption | omega)) (cwV 1 hts gX3_prepare_X3_led rfl rfl rfl kv_X3_led ⟨Nat.le_of_ble_eq_true rfl, Nat.le_of_ble_eq_true rfl⟩) hK hP hD hS hA hZ 14 rfl rfl rfl rfl hl.1 rfl (lv_room (Nat.le_of_ble_eq_true rfl)) dX3_prepare_76 ⟨Nat.zero_le _, Nat.zero_le _⟩ (fun u_7 H locs hu_7 hP hD hS => ?_)
                refine lv_lshl hx hb dX3_prepare_79 rfl ?_
                refine lv_lor hx hb dX3_prepare_80 ?_
                refine fx_last hx hb hK hP hD hS 16 (f := (mixF (fun j => (preT cso cki cfa cfb cfc cva csn csr cn cs ao won wle w).2 j ||| shL 1 (ledN (evalT cso cki cfa cfb cfc cva csn ao w (preT cso cki cfa cfb cfc cva csn csr cn cs ao won wle w).1 cn) csr cs j)) (preT cso cki cfa cfb cfc cva csn csr cn cs ao won wle w).2 k)) (k := k) (v := (((mixF (fun j => (preT cso cki cfa cfb cfc cva csn csr cn cs ao won wle w).2 j ||| shL 1 (ledN (evalT cso cki cfa cfb cfc cva csn ao w (preT cso cki cfa cfb cfc cva csn csr cn cs ao won wle w).1 cn) csr cs j)) (preT cso cki cfa cfb cfc cva csn csr cn cs ao won wle w).2 k) k) ||| (1 <<< ((nI (ledN (evalT cso cki cfa cfb cfc cva csn ao w ((preT cso cki cfa cfb cfc cva csn csr cn cs ao won wle w).1) cn) csr cs k)).toInt64 &&& 63)))) rfl (by omega) (by decide) dX3_prepare_81 (fun H locs hP hD hS => ?_)
                have hP : va_P D vwCl (wA q cI cJ xro xtk xli cn ci cs cso cki cfa cfb cfc cva csn csd csl csb csr csc (evalT cso cki cfa cfb cfc cva csn ao w ((preT cso cki cfa cfb cfc cva csn csr cn cs ao won wle w).1) cn) (va_up (mixF (fun j => (preT cso cki cfa cfb cfc cva csn csr cn cs ao won wle w).2 j ||| shL 1 (ledN (evalT cso cki cfa cfb cfc cva csn ao w (preT cso cki cfa cfb cfc cva csn csr cn cs ao won wle w).1 cn) csr cs j)) (preT cso cki cfa cfb cfc cva csn csr cn cs ao won wle w).2 k) k (((mixF (fun j => (preT cso cki cfa cfb cfc cva csn csr cn cs ao won wle w).2 j ||| shL 1 (ledN (evalT cso cki cfa cfb cfc cva csn ao w (preT cso cki cfa cfb cfc cva csn csr cn cs ao won wle w).1 cn) csr cs j)) (preT cso cki cfa cfb cfc cva csn csr cn cs ao won wle w).2 k) k) ||| (1 <<< ((nI (ledN (evalT cso cki cfa cfb cfc cva csn ao w ((preT cso cki cfa cfb cfc cva csn csr cn cs ao won wle w).1) cn) csr cs k)).toInt64 &&& 63)))) pte pho nwa nti) H := hP
                have hD : va_D A (wA q cI cJ xro xtk xli cn ci cs cso cki cfa cfb cfc cva csn csd csl csb csr csc (evalT cso cki cfa cfb cfc cva csn ao w ((preT cso cki cfa cfb cfc cva csn csr cn cs ao won wle w).1) cn) (va_up (mixF (fun j => (preT cso cki cfa cfb cfc cva csn csr cn cs ao won wle w).2 j ||| shL 1 (ledN (evalT cso cki cfa cfb cfc cva csn ao w (preT cso cki cfa cfb cfc cva csn csr cn cs ao won wle w).1 cn) csr cs j)) (preT cso cki cfa cfb cfc cva csn csr cn cs ao won wle w).2 k) k (((mixF (fun j => (preT cso cki cfa cfb cfc cva csn csr cn cs ao won wle w).2 j ||| shL 1 (ledN (evalT cso cki cfa cfb cfc cva csn ao w (preT cso cki cfa cfb cfc cva csn csr cn cs ao won wle w).1 cn) csr cs j)) (preT cso cki cfa cfb cfc cva csn csr cn cs ao won wle w).2 k) k) ||| (1 <<< ((nI (ledN (evalT cso cki cfa cfb cfc cva csn ao w ((preT cso cki cfa cfb cfc cva csn csr cn cs ao won wle w).1) cn) csr cs k)).toInt64 &&& 63)))) pte pho nwa nti) := fx_D hD rfl
                refine lv_iinc (v := nI (k + 1)) (lv' := [(5, .int (nI (k + 1))), (0, .ref (q 14)), (1, .int (bI ao)), (2, .int (nI (2 ^ cs))), (3, .int (nI (2 ^ ct (opP cso cva ao) cn))), (4, .int (nI w))]) hx hb dX3_prepare_82 hl (k := 5) rfl (by exact nI_1 _) (by decide) rfl (fun ls hl => ?_)
                refine lv_goto (tgt := 58) hx hb dX3_prepare_85 (by decide) ?_
                have e_8 : va_up (mixF (fun j => (preT cso cki cfa cfb cfc cva csn csr cn cs ao won wle w).2 j ||| shL 1 (ledN (evalT cso cki cfa cfb cfc cva csn ao w (preT cso cki cfa cfb cfc cva csn csr cn cs ao won wle w).1 cn) csr cs j)) (preT cso cki cfa cfb cfc cva csn csr cn cs ao won wle w).2 k) k (((mixF (fun j => (preT cso cki cfa cfb cfc cva csn csr cn cs ao won wle w).2 j ||| shL 1 (ledN (evalT cso cki cfa cfb cfc cva csn ao w (preT cso cki cfa cfb cfc cva csn csr cn cs ao won wle w).1 cn) csr cs j)) (preT cso cki cfa cfb cfc cva csn csr cn cs ao won wle w).2 k) k) ||| (1 <<< ((nI (ledN (evalT cso cki cfa cfb cfc cva csn ao w ((preT cso cki cfa cfb cfc cva csn csr cn cs ao won wle w).1) cn) csr cs k)).toInt64 &&& 63))) = mixF (fun j => (preT cso cki cfa cfb cfc cva csn csr cn cs ao won wle w).2 j ||| shL 1 (ledN (evalT cso cki cfa cfb cfc cva csn ao w (preT cso cki cfa cfb cfc cva csn csr cn cs ao won wle w).1 cn) csr cs j)) (preT cso cki cfa cfb cfc cva csn csr cn cs ao won wle w).2 (k + 1) := by first | rfl | (refine mix_up _ _ _ _ ?_; rw [mix_at]; rfl)
                exact ih_58 (k + 1) (by first | assumption | omega) (by omega) H locs (fx_Pe (w' := (wA q cI cJ xro xtk xli cn ci cs cso cki cfa cfb cfc cva csn csd csl csb csr csc (evalT cso cki cfa cfb cfc cva csn ao w ((preT cso cki cfa cfb cfc cva csn csr cn cs ao won wle w).1) cn) (mixF (fun j => (preT cso cki cfa cfb cfc cva csn csr cn cs ao won wle w).2 j ||| shL 1 (ledN (evalT cso cki cfa cfb cfc cva csn ao w (preT cso cki cfa cfb cfc cva csn csr cn cs ao won wle w).1 cn) csr cs j)) (preT cso cki cfa cfb cfc cva csn csr cn cs ao won wle w).2 (k + 1)) pte pho nwa nti)) hP (congrArg (fun w9 : Nat → Int64 => (wA q cI cJ xro xtk xli cn ci cs cso cki cfa cfb cfc cva csn csd csl csb csr csc (evalT cso cki cfa cfb cfc cva csn ao w ((preT cso cki cfa cfb cfc cva csn csr cn cs ao won wle w).1) cn) w9 pte pho nwa nti)) e_8)) (fx_D hD rfl) hS ls (lv_sub hl [1, 2, 3, 4, 5, 0] rfl)
            have e_9 : (preT cso cki cfa cfb cfc cva csn csr cn cs ao won wle w).2 = mixF (fun j => (preT cso cki cfa cfb cfc cva csn csr cn cs ao won wle w).2 j ||| shL 1 (ledN (evalT cso cki cfa cfb cfc cva csn ao w (preT cso cki cfa cfb cfc cva csn csr cn cs ao won wle w).1 cn) csr cs j)) (preT cso cki cfa cfb cfc cva csn csr cn cs ao won wle w).2 0 := by first | rfl | (exact (mix_0 _ _).symm)
            exact L_58 (2 ^ cs - 0 + 1) 0 (Nat.zero_le _) (Nat.lt_succ_self _) H locs (fx_Pe (w' := (wA q cI cJ xro xtk xli cn ci cs cso cki cfa cfb cfc cva csn csd csl csb csr csc (evalT cso cki cfa cfb cfc cva csn ao w ((preT cso cki cfa cfb cfc cva csn csr cn cs ao won wle w).1) cn) (mixF (fun j => (preT cso cki cfa cfb cfc cva csn csr cn cs ao won wle w).2 j ||| shL 1 (ledN (evalT cso cki cfa cfb cfc cva csn ao w (preT cso cki cfa cfb cfc cva csn csr cn cs ao won wle w).1 cn) csr cs j)) (preT cso cki cfa cfb cfc cva csn csr cn cs ao won wle w).2 0) pte pho nwa nti)) hP (congrArg (fun w9 : Nat → Int64 => (wA q cI cJ xro xtk xli cn ci cs cso cki cfa cfb cfc cva csn csd csl csb csr csc (evalT cso cki cfa cfb cfc cva csn ao w ((preT cso cki cfa cfb cfc cva csn csr cn cs ao won wle w).1) cn) w9 pte pho nwa nti)) e_9)) (fx_D hD rfl) hS ls (lv_sub hl [1, 2, 3, 4, 5, 0] rfl)
        have e_10 : mixF (fun _ => 0) wle i = (preT cso cki cfa cfb cfc cva csn csr cn cs ao won wle 0).2 := by first | rfl | (rw [e_i]; rfl)
        have e_11 : nI (2 ^ (ct (opP cso cva ao) cn)) = nI (2 ^ ct (opP cso cva ao) cn) := by first | rfl | (first | rfl | (simp; done))
        exact L_42 (2 ^ ct (opP cso cva ao) cn - 0 + 1) 0 (Nat.zero_le _) (Nat.lt_succ_self _) H locs (fx_Pe (w' := (wA q cI cJ xro xtk xli cn ci cs cso cki cfa cfb cfc cva csn csd csl csb csr csc won ((preT cso cki cfa cfb cfc cva csn csr cn cs ao won wle 0).2) pte pho nwa nti)) hP (congrArg (fun w9 : Nat → Int64 => (wA q cI cJ xro xtk xli cn ci cs cso cki cfa cfb cfc cva csn csd csl csb csr csc won w9 pte pho nwa nti)) e_10)) (fx_D hD rfl) hS ls (lv_sub (fx_hl (l' := [(4, .int (nI 0)), (3, .int (nI (2 ^ ct (opP cso cva ao) cn))), (0, .ref (q 14)), (1, .int (bI ao)), (2, .int (nI (2 ^ cs)))]) hl (congrArg (fun w9 : Int32 => ([(4, .int (nI 0)), (3, .int w9), (0, .ref (q 14)), (1, .int (bI ao)), (2, .int (nI (2 ^ cs)))] : List (Nat × Value))) e_11)) [2, 3, 4, 1, 0] rfl)
      have f_12 : ¬ 2 ^ cs ≤ i := fun h => c_12 ((nI_leI (a := 2 ^ cs) (b := i) (by first | omega | exact b_and1 _ | exact b_ct _ _ (by omega) | exact b_andr _ (by omega)) (by first | omega | exact b_and1 _ | exact b_ct _ _ (by omega) | exact b_andr _ (by omega))).mpr h)
      refine lv_aload_n hx hb dX3_prepare_15 rfl (lv_at hl 0 rfl) ?_
      refine va_get (D := D) (ci := 3) (v := .ref (q 16)) (C := RX3) (T := TX3) (N := 3) hx hb hts (fun w h => List.mem_cons_of_mem _ (List.mem_append_left _ (List.mem_append_right _ h))) hown hK hP 14 rfl rfl 2 (by decide) (hts (.fieldLink RX3 15 "FirstStates$Walk" "leads" "[J") (List.mem_of_getElem? (i := 2) rfl)) (fun _ h9 => h9) rfl dX3_prepare_16 ?_
      refine lv_iload_n hx hb dX3_prepare_19 rfl (lv_at hl 3 rfl) ?_
      refine lv_lconst (v := 0) hx hb dX3_prepare_20 (by decide) ?_
      refine fx_last hx hb hK hP hD hS 16 (f := (mixF (fun _ => 0) wle i)) (k := i) (v := 0) rfl (by omega) (by decide) dX3_prepare_21 (fun H locs hP hD hS => ?_)
      have hP : va_P D vwCl (wA q cI cJ xro xtk xli cn ci cs cso cki cfa cfb cfc cva csn csd csl csb csr csc won (va_up (mixF (fun _ => 0) wle i) i 0) pte pho nwa nti) H := hP
      have hD : va_D A (wA q cI cJ xro xtk xli cn ci cs cso cki cfa cfb cfc cva csn csd csl csb csr csc won (va_up (mixF (fun _ => 0) wle i) i 0) pte pho nwa nti) := fx_D hD rfl
      refine lv_iinc (v := nI (i + 1)) (lv' := [(3, .int (nI (i + 1))), (0, .ref (q 14)), (1, .int (bI ao)), (2, .int (nI (2 ^ cs)))]) hx hb dX3_prepare_22 hl (k := 3) rfl (by exact nI_1 _) (by decide) rfl (fun ls hl => ?_)
      refine lv_goto (tgt := 10) hx hb dX3_prepare_25 (by decide) ?_
      have e_12 : va_up (mixF (fun _ => 0) wle i) i 0 = mixF (fun _ => 0) wle (i + 1) := by first | rfl | (exact mix_up _ _ _ _ rfl)
      exact ih_10 (i + 1) (by first | assumption | omega) (by omega) H locs (fx_Pe (w' := (wA q cI cJ xro xtk xli cn ci cs cso cki cfa cfb cfc cva csn csd csl csb csr csc won (mixF (fun _ => 0) wle (i + 1)) pte pho nwa nti)) hP (congrArg (fun w9 : Nat → Int64 => (wA q cI cJ xro xtk xli cn ci cs cso cki cfa cfb cfc cva csn csd csl csb csr csc won w9 pte pho nwa nti)) e_12)) (fx_D hD rfl) hS ls (lv_sub hl [1, 2, 3, 0] rfl)
  have e_13 : wle = mixF (fun _ => 0) wle 0 := by first | rfl | (exact (mix_0 _ _).symm)
  exact L_10 (2 ^ cs - 0 + 1) 0 (Nat.zero_le _) (Nat.lt_succ_self _) H locs (fx_Pe (w' := (wA q cI cJ xro xtk xli cn ci cs cso cki cfa cfb cfc cva csn csd csl csb csr csc won (mixF (fun _ => 0) wle 0) pte pho nwa nti)) hP (congrArg (fun w9 : Nat → Int64 => (wA q cI cJ xro xtk xli cn ci cs cso cki cfa cfb cfc cva csn csd csl csb csr csc won w9 pte pho nwa nti)) e_13)) (fx_D hD rfl) hS ls (lv_sub hl [2, 3, 1, 0] rfl)
set_option maxHeartbeats 4000000 in
set_option maxRecDepth 100000 in
theorem c_X3_begun (l : Launch) (D : va_G) (cI cJ cZ : ClassId) (q : Nat → Nat) (xro : Int64) (xtk : Nat) (xli : Nat) (cn : Nat) (ci : Nat) (cs : Nat) (cso : Nat → Nat) (cki : Nat → Nat) (cfa : Nat → Nat) (cfb : Nat → Nat) (cfc : Nat → Nat) (cva : Nat → Nat) (csn : Nat → Nat) (csd : Nat → Nat) (csl : Nat → Nat) (csb : Nat → Nat) (csr : Nat → Nat) (csc : Nat → Nat) (won : Nat → Int64) (wle : Nat → Int64) (pte : Nat → Nat) (pho : Nat → Nat) (nwa : Nat → Int32) (nti : Nat → Int32) (x : Int64) (k : Nat) (hcs : cs ≤ 6) (hk : k < cs) (hb1 : csb k ≤ 1) : Ct l D cI cJ cZ yX3_begun wsX3_begun ({ frames := 0, cells := 0, slots := 0, locals := 0 } : Room) 0 0 [.ref (q 14), .long x, .int (nI k)] (wA q cI cJ xro xtk xli cn ci cs cso cki cfa cfb cfc cva csn csd csl csb csr csc won wle pte pho nwa nti) (S := Unit) (fun u => True) (fun u => some (.long (begL (csb k) k x))) (fun u => (wA q cI cJ xro xtk xli cn ci cs cso cki cfa cfb cfc cva csn csd csl csb csr csc won wle pte pho nwa nti)) := by
  refine Ct.ofW (cc := cX3_begun) (maxL := 5) (ret := (some .long)) (R_C := RX3) (by decide +kernel) rfl rfl (Nat.le_of_ble_eq_true rfl) rfl ?_
  intro p e s m args below meth c A Q ls H locs hx hb hml hown hts hK hA hP hD hS hZ hl hri hrl hrv
  refine lv_iconst (v := nI 1) hx hb dX3_begun_0 (by decide) ?_
  refine lv_iload_n hx hb dX3_begun_1 rfl (lv_at hl 2 rfl) ?_
  refine lv_ishl hx hb dX3_begun_2 ?_
  refine fx_eqi (y := nI (2 ^ k)) (fx_shl1 (by first | omega | exact b_and1 _ | exact b_ct _ _ (by omega) | exact b_andr _ (by omega))) ?_
  have hp5 : 2 ^ k ≤ 32 := Nat.pow_le_pow_right (n := 2) (by omega) (show k ≤ 5 by omega)
  refine lv_istore (lv' := [(4, .int (nI (2 ^ k))), (0, .ref (q 14)), (1, .long x), (3, .int (nI k))]) hx hb dX3_begun_3 hl (by decide) rfl (fun ls hl => ?_)
  refine lv_aload_n hx hb dX3_begun_5 rfl (lv_at hl 1 rfl) ?_
  refine va_get (D := D) (ci := 3) (v := .ref (q 1)) (C := RX3) (T := TX3) (N := 3) hx hb hts (fun w h => List.mem_cons_of_mem _ (List.mem_append_left _ (List.mem_append_right _ h))) hown hK hP 14 rfl rfl 0 (by decide) (hts (.fieldLink RX3 18 "FirstStates$Walk" "circuit" "LFirstStates$Circuit;") (List.mem_of_getElem? (i := 1) rfl)) (fun _ h9 => h9) rfl dX3_begun_6 ?_
  refine va_get (D := D) (ci := 0) (v := .ref (q 11)) (C := RX0) (T := TX0) (N := 15) hx hb hts (fun w h => List.mem_cons_of_mem _ (List.mem_append_right _ h)) hown hK hP 1 rfl rfl 12 (by decide) (hts (.fieldLink RX3 88 "FirstStates$Circuit" "storeBegins" "[I") (List.mem_of_getElem? (i := 2) rfl)) (fun _ h9 => h9) rfl dX3_begun_9 ?_
  refine lv_iload_n hx hb dX3_begun_12 rfl (lv_at hl 3 rfl) ?_
  refine fx_iald (ar := nI) hx hb hK hP 11 (f := csb) (k := k) rfl (by omega) (by decide) dX3_begun_13 ?_
  refine lv_iconst (v := nI 1) hx hb dX3_begun_14 (by decide) ?_
  refine lv_icmp_ne (tgt := 31) hx hb dX3_begun_15 (by decide) (fun c_15 => ?_) (fun c_15 => ?_)
  · have f_15 : ¬ csb k = 1 := fun h => c_15 ((nI_eq (a := csb k) (b := 1) (by first | omega | exact b_and1 _ | exact b_ct _ _ (by omega) | exact b_andr _ (by omega)) (by first | omega | exact b_and1 _ | exact b_ct _ _ (by omega) | exact b_andr _ (by omega))).mpr h)
    refine lv_lload_n hx hb dX3_begun_31 rfl (lv_at hl 2 rfl) ?_
    refine lv_lload_n hx hb dX3_begun_32 rfl (lv_at hl 2 rfl) ?_
    refine lv_iload hx hb dX3_begun_33 (lv_at hl 0 rfl) ?_
    refine lv_lushr hx hb dX3_begun_35 rfl ?_
    refine lv_lor hx hb dX3_begun_36 ?_
    obtain ⟨th, hZ1, hT1⟩ := id hZ
    refine va_gets hx hb hZ1 hS hown (hts (.fieldLink RX3 60 "FirstStates$Walk" "HOLDING" "[J") (List.mem_of_getElem? (i := 3) rfl)) (fun _ h9 => h9) dX3_begun_37 ?_
    refine lv_iload_n hx hb dX3_begun_40 rfl (lv_at hl 3 rfl) ?_
    refine fx_hold hx hb hT1 hS (by omega) dX3_begun_41 ?_
    refine lv_ldc2 (v := (-1)) hx hb hown (hts (.constantLong RX3 28 (-1)) (List.mem_of_getElem? (i := 4) rfl)) dX3_begun_42 ?_
    refine lv_lxor hx hb dX3_begun_45 ?_
    refine lv_land hx hb dX3_begun_46 ?_
    exact hrl () _ H locs 47 ls rfl trivial (by simp [begL, shL, ushL, f_15]) hP hD hS dX3_begun_47
  have f_15 : csb k = 1 := (nI_eq (a := csb k) (b := 1) (by first | omega | exact b_and1 _ | exact b_ct _ _ (by omega) | exact b_andr _ (by omega)) (by first | omega | exact b_and1 _ | exact b_ct _ _ (by omega) | exact b_andr _ (by omega))).mp c_15
  refine lv_lload_n hx hb dX3_begun_18 rfl (lv_at hl 2 rfl) ?_
  refine lv_lload_n hx hb dX3_begun_19 rfl (lv_at hl 2 rfl) ?_
  refine lv_iload hx hb dX3_begun_20 (lv_at hl 0 rfl) ?_
  refine lv_lshl hx hb dX3_begun_22 rfl ?_
  refine lv_lor hx hb dX3_begun_23 ?_
  obtain ⟨th, hZ1, hT1⟩ := id hZ
  refine va_gets hx hb hZ1 hS hown (hts (.fieldLink RX3 60 "FirstStates$Walk" "HOLDING" "[J") (List.mem_of_getElem? (i := 3) rfl)) (fun _ h9 => h9) dX3_begun_24 ?_
  refine lv_iload_n hx hb dX3_begun_27 rfl (lv_at hl 3 rfl) ?_
  refine fx_hold hx hb hT1 hS (by omega) dX3_begun_28 ?_
  refine lv_land hx hb dX3_begun_29 ?_
  exact hrl () _ H locs 30 ls rfl trivial (by simp [begL, shL, ushL, f_15]) hP hD hS dX3_begun_30
set_option maxHeartbeats 4000000 in
set_option maxRecDepth 100000 in
theorem c_X3_after (l : Launch) (D : va_G) (cI cJ cZ : ClassId) (q : Nat → Nat) (xro : Int64) (xtk : Nat) (xli : Nat) (cn : Nat) (ci : Nat) (cs : Nat) (cso : Nat → Nat) (cki : Nat → Nat) (cfa : Nat → Nat) (cfb : Nat → Nat) (cfc : Nat → Nat) (cva : Nat → Nat) (csn : Nat → Nat) (csd : Nat → Nat) (csl : Nat → Nat) (csb : Nat → Nat) (csr : Nat → Nat) (csc : Nat → Nat) (won : Nat → Int64) (wle : Nat → Int64) (pte : Nat → Nat) (pho : Nat → Nat) (nwa : Nat → Int32) (nti : Nat → Int32) (x : Int64) (rs : Nat) (hcs : cs ≤ 6) (hrs : rs < 64) (hsb : ∀ i, i < cs → csb i ≤ 1) : Ct l D cI cJ cZ yX3_after wsX3_after ({ frames := 1, cells := 0, slots := 0, locals := 24 } : Room) 0 0 [.ref (q 14), .long x, .int (nI rs)] (wA q cI cJ xro xtk xli cn ci cs cso cki cfa cfb cfc cva csn csd csl csb csr csc won wle pte pho nwa nti) (S := Unit) (fun u => True) (fun u => some (.long (aftF csb cs wle rs x))) (fun u => (wA q cI cJ xro xtk xli cn ci cs cso cki cfa cfb cfc cva csn csd csl csb csr csc won wle pte pho nwa nti)) := by
  refine Ct.ofW (cc := cX3_after) (maxL := 7) (ret := (some .long)) (R_C := RX3) (by decide +kernel) rfl rfl (Nat.le_of_ble_eq_true rfl) rfl ?_
  intro p e s m args below meth c A Q ls H locs hx hb hml hown hts hK hA hP hD hS hZ hl hri hrl hrv
  refine lv_lconst (v := 0) hx hb dX3_after_0 (by decide) ?_
  refine lv_lstore (lv' := [(4, .long 0), (0, .ref (q 14)), (1, .long x), (3, .int (nI rs))]) hx hb dX3_after_1 hl (by decide) rfl (fun ls hl => ?_)
  have hp6 : 2 ^ cs ≤ 64 := Nat.pow_le_pow_right (by omega) hcs
  refine lv_iconst (v := nI 0) hx hb dX3_after_3 (by decide) ?_
  refine lv_istore (lv' := [(6, .int (nI 0)), (4, .long 0), (0, .ref (q 14)), (1, .long x), (3, .int (nI rs))]) hx hb dX3_after_4 hl (by decide) rfl (fun ls hl => ?_)
  have L_6 : ∀ (fuel : Nat) (r : Nat) (hr : r ≤ 2 ^ cs) (hfu : 2 ^ cs - r < fuel) (H : Heap) (locs : List Loc), va_P D vwCl (wA q cI cJ xro xtk xli cn ci cs cso cki cfa cfb cfc cva csn csd csl csb csr csc won wle pte pho nwa nti) H → va_D A (wA q cI cJ xro xtk xli cn ci cs cso cki cfa cfb cfc cva csn csd csl csb csr csc won wle pte pho nwa nti) → va_S A s.heap H locs → ∀ ls : Array Slot, lv_has ls 7 [(0, .ref (q 14)), (1, .long x), (3, .int (nI rs)), (4, .long (orT x wle r)), (6, .int (nI r))] → W p l e ({ frames := 1, cells := 0, slots := 0, locals := 24 } : Room) s m args below meth c H locs 0 0 Q (F0 m 6 ls []) := by
    intro fuel
    induction fuel with
    | zero => intro r hr hfu; exact absurd hfu (Nat.not_lt_zero _)
    | succ fuel ih_6 =>
      intro r hr hfu H locs hP hD hS ls hl
      refine lv_iload hx hb dX3_after_6 (lv_at hl 4 rfl) ?_
      refine lv_aload_n hx hb dX3_after_8 rfl (lv_at hl 0 rfl) ?_
      refine va_get (D := D) (ci := 3) (v := .ref (q 1)) (C := RX3) (T := TX3) (N := 3) hx hb hts (fun w h => List.mem_cons_of_mem _ (List.mem_append_left _ (List.mem_append_right _ h))) hown hK hP 14 rfl rfl 0 (by decide) (hts (.fieldLink RX3 18 "FirstStates$Walk" "circuit" "LFirstStates$Circuit;") (List.mem_of_getElem? (i := 1) rfl)) (fun _ h9 => h9) rfl dX3_after_9 ?_
      refine fx_callV (As := []) (rest := [.int (nI r)]) ⟨hx, hb, hml, hown, hts⟩ (c_X0_rowCount l D cI cJ cZ q xro xtk xli cn ci cs cso cki cfa cfb cfc cva csn csd csl csb csr csc won wle pte pho nwa nti (by first | assumption | omega)) (cwV 0 hts gX3_after_X0_rowCount rfl rfl rfl kv_X0_rowCount ⟨Nat.le_of_ble_eq_true rfl, Nat.le_of_ble_eq_true rfl⟩) hK hP hD hS hA hZ 1 rfl rfl rfl rfl hl.1 rfl (lv_room (Nat.le_of_ble_eq_true rfl)) dX3_after_12 ⟨Nat.zero_le _, Nat.zero_le _⟩ (fun u_1 H locs hu_1 hP hD hS => ?_)
      refine lv_icmp_ge (tgt := 47) hx hb dX3_after_15 (by decide) (fun c_15 => ?_) (fun c_15 => ?_)
      · have f_15 : 2 ^ cs ≤ r := (nI_leI (a := 2 ^ cs) (b := r) (by first | omega | exact b_and1 _ | exact b_ct _ _ (by omega) | exact b_andr _ (by omega)) (by first | omega | exact b_and1 _ | exact b_ct _ _ (by omega) | exact b_andr _ (by omega))).mp c_15
        have e_r : r = 2 ^ cs := by omega
        refine lv_iconst (v := nI 0) hx hb dX3_after_47 (by decide) ?_
        refine lv_istore (lv' := [(6, .int (nI 0)), (0, .ref (q 14)), (1, .long x), (3, .int (nI rs)), (4, .long (orT x wle r))]) hx hb dX3_after_48 hl (by decide) rfl (fun ls hl => ?_)
        have L_50 : ∀ (fuel : Nat) (i : Nat) (hi : i ≤ cs) (hfu : cs - i < fuel) (H : Heap) (locs : List Loc), va_P D vwCl (wA q cI cJ xro xtk xli cn ci cs cso cki cfa cfb cfc cva csn csd csl csb csr csc won wle pte pho nwa nti) H → va_D A (wA q cI cJ xro xtk xli cn ci cs cso cki cfa cfb cfc cva csn csd csl csb csr csc won wle pte pho nwa nti) → va_S A s.heap H locs → ∀ ls : Array Slot, lv_has ls 7 [(0, .ref (q 14)), (1, .long x), (3, .int (nI rs)), (4, .long (begT csb rs (orT x wle (2 ^ cs)) i)), (6, .int (nI i))] → W p l e ({ frames := 1, cells := 0, slots := 0, locals := 24 } : Room) s m args below meth c H locs 0 0 Q (F0 m 50 ls []) := by
          intro fuel
          induction fuel with
          | zero => intro i hi hfu; exact absurd hfu (Nat.not_lt_zero _)
          | succ fuel ih_50 =>
            intro i hi hfu H locs hP hD hS ls hl
            refine lv_iload hx hb dX3_after_50 (lv_at hl 4 rfl) ?_
            refine lv_aload_n hx hb dX3_after_52 rfl (lv_at hl 0 rfl) ?_
            refine va_get (D := D) (ci := 3) (v := .ref (q 1)) (C := RX3) (T := TX3) (N := 3) hx hb hts (fun w h => List.mem_cons_of_mem _ (List.mem_append_left _ (List.mem_append_right _ h))) hown hK hP 14 rfl rfl 0 (by decide) (hts (.fieldLink RX3 18 "FirstStates$Walk" "circuit" "LFirstStates$Circuit;") (List.mem_of_getElem? (i := 1) rfl)) (fun _ h9 => h9) rfl dX3_after_53 ?_
            refine va_get (D := D) (ci := 0) (v := .int (nI cs)) (C := RX0) (T := TX0) (N := 15) hx hb hts (fun w h => List.mem_cons_of_mem _ (List.mem_append_right _ h)) hown hK hP 1 rfl rfl 2 (by decide) (hts (.fieldLink RX3 78 "FirstStates$Circuit" "stores" "I") (List.mem_of_getElem? (i := 3) rfl)) (fun _ h9 => h9) rfl dX3_after_56 ?_
            refine lv_icmp_ge (tgt := 87) hx hb dX3_after_59 (by decide) (fun c_59 => ?_) (fun c_59 => ?_)
            · have f_59 : cs ≤ i := (nI_leI (a := cs) (b := i) (by first | omega | exact b_and1 _ | exact b_ct _ _ (by omega) | exact b_andr _ (by omega)) (by first | omega | exact b_and1 _ | exact b_ct _ _ (by omega) | exact b_andr _ (by omega))).mp c_59
              refine lv_lload hx hb dX3_after_87 (lv_at hl 3 rfl) ?_
              exact hrl () _ H locs 89 ls rfl trivial (by rw [show cs = i by omega]; rfl) hP hD hS dX3_after_89
            have f_59 : ¬ cs ≤ i := fun h => c_59 ((nI_leI (a := cs) (b := i) (by first | omega | exact b_and1 _ | exact b_ct _ _ (by omega) | exact b_andr _ (by omega)) (by first | omega | exact b_and1 _ | exact b_ct _ _ (by omega) | exact b_andr _ (by omega))).mpr h)
            refine lv_iload_n hx hb dX3_after_62 rfl (lv_at hl 2 rfl) ?_
            refine lv_iload hx hb dX3_after_63 (lv_at hl 4 rfl) ?_
            refine lv_ishr hx hb dX3_after_65 ?_
            refine fx_eqi (y := nI (rs >>> i)) (fx_shr (by first | omega | exact b_and1 _ | exact b_ct _ _ (by omega) | exact b_andr _ (by omega)) (by first | omega | exact b_and1 _ | exact b_ct _ _ (by omega) | exact b_andr _ (by omega))) ?_
            refine lv_iconst (v := nI 1) hx hb dX3_after_66 (by decide) ?_
            refine lv_iand hx hb dX3_after_67 ?_
            refine fx_eqi (fx_andI _ _) ?_
            refine lv_if_eq (tgt := 81) hx hb dX3_after_68 (by decide) (fun c_68 => ?_) (fun c_68 => ?_)
            · have f_68 : (rs >>> i) &&& 1 = 0 := (nI_eq (a := (rs >>> i) &&& 1) (b := 0) (by first | omega | exact b_and1 _ | exact b_ct _ _ (by omega) | exact b_andr _ (by omega)) (by first | omega | exact b_and1 _ | exact b_ct _ _ (by omega) | exact b_andr _ (by omega))).mp c_68
              refine lv_iinc (v := nI (i + 1)) (lv' := [(6, .int (nI (i + 1))), (0, .ref (q 14)), (1, .long x), (3, .int (nI rs)), (4, .long (begT csb rs (orT x wle (2 ^ cs)) i))]) hx hb dX3_after_81 hl (k := 4) rfl (by exact nI_1 _) (by decide) rfl (fun ls hl => ?_)
              refine lv_goto (tgt := 50) hx hb dX3_after_84 (by decide) ?_
              have e_2 : begT csb rs (orT x wle (2 ^ cs)) i = begT csb rs (orT x wle (2 ^ cs)) (i + 1) := by first | rfl | (simp [begT, tb_0.mp f_68])
              exact ih_50 (i + 1) (by first | assumption | omega) (by omega) H locs hP hD hS ls (lv_sub (fx_hl (l' := [(6, .int (nI (i + 1))), (0, .ref (q 14)), (1, .long x), (3, .int (nI rs)), (4, .long (begT csb rs (orT x wle (2 ^ cs)) (i + 1)))]) hl (congrArg (fun w9 : Int64 => ([(6, .int (nI (i + 1))), (0, .ref (q 14)), (1, .long x), (3, .int (nI rs)), (4, .long w9)] : List (Nat × Value))) e_2)) [1, 2, 3, 4, 0] rfl)
            have f_68 : ¬ (rs >>> i) &&& 1 = 0 := fun h => c_68 ((nI_eq (a := (rs >>> i) &&& 1) (b := 0) (by first | omega | exact b_and1 _ | exact b_ct _ _ (by omega) | exact b_andr _ (by omega)) (by first | omega | exact b_and1 _ | exact b_ct _ _ (by omega) | exact b_andr _ (by omega))).mpr h)
            have hb1 := hsb i (by omega)
            refine lv_aload_n hx hb dX3_after_71 rfl (lv_at hl 0 rfl) ?_
            refine lv_lload hx hb dX3_after_72 (lv_at hl 3 rfl) ?_
            refine lv_iload hx hb dX3_after_74 (lv_at hl 4 rfl) ?_
            refine fx_callV (As := [.long (begT csb rs (orT x wle (2 ^ cs)) i), .int (nI i)]) (rest := []) ⟨hx, hb, hml, hown, hts⟩ (c_X3_begun l D cI cJ cZ q xro xtk xli cn ci cs cso cki cfa cfb cfc cva csn csd csl csb csr csc won wle pte pho nwa nti (begT csb rs (orT x wle (2 ^ cs)) i) i (by first | assumption | omega) (by first | assumption | omega) (by first | assumption | omega)) (cwV 2 hts gX3_after_X3_begun rfl rfl rfl kv_X3_begun ⟨Nat.le_of_ble_eq_true rfl, Nat.le_of_ble_eq_true rfl⟩) hK hP hD hS hA hZ 14 rfl rfl rfl rfl hl.1 rfl (lv_room (Nat.le_of_ble_eq_true rfl)) dX3_after_76 ⟨Nat.zero_le _, Nat.zero_le _⟩ (fun u_3 H locs hu_3 hP hD hS => ?_)
            refine lv_lstore (lv' := [(4, .long (begL (csb i) i (begT csb rs (orT x wle (2 ^ cs)) i))), (0, .ref (q 14)), (1, .long x), (3, .int (nI rs)), (6, .int (nI i))]) hx hb dX3_after_79 hl (by decide) rfl (fun ls hl => ?_)
            refine lv_iinc (v := nI (i + 1)) (lv' := [(6, .int (nI (i + 1))), (4, .long (begL (csb i) i (begT csb rs (orT x wle (2 ^ cs)) i))), (0, .ref (q 14)), (1, .long x), (3, .int (nI rs))]) hx hb dX3_after_81 hl (k := 4) rfl (by exact nI_1 _) (by decide) rfl (fun ls hl => ?_)
            refine lv_goto (tgt := 50) hx hb dX3_after_84 (by decide) ?_
            have e_4 : begL (csb i) i (begT csb rs (orT x wle (2 ^ cs)) i) = begT csb rs (orT x wle (2 ^ cs)) (i + 1) := by first | rfl | (simp [begT, tb_n0.mp f_68])
            exact ih_50 (i + 1) (by first | assumption | omega) (by omega) H locs hP hD hS ls (lv_sub (fx_hl (l' := [(6, .int (nI (i + 1))), (4, .long (begT csb rs (orT x wle (2 ^ cs)) (i + 1))), (0, .ref (q 14)), (1, .long x), (3, .int (nI rs))]) hl (congrArg (fun w9 : Int64 => ([(6, .int (nI (i + 1))), (4, .long w9), (0, .ref (q 14)), (1, .long x), (3, .int (nI rs))] : List (Nat × Value))) e_4)) [2, 3, 4, 1, 0] rfl)
        have e_5 : orT x wle r = begT csb rs (orT x wle (2 ^ cs)) 0 := by first | rfl | (rw [e_r]; rfl)
        exact L_50 (cs - 0 + 1) 0 (Nat.zero_le _) (Nat.lt_succ_self _) H locs hP hD hS ls (lv_sub (fx_hl (l' := [(6, .int (nI 0)), (0, .ref (q 14)), (1, .long x), (3, .int (nI rs)), (4, .long (begT csb rs (orT x wle (2 ^ cs)) 0))]) hl (congrArg (fun w9 : Int64 => ([(6, .int (nI 0)), (0, .ref (q 14)), (1, .long x), (3, .int (nI rs)), (4, .long w9)] : List (Nat × Value))) e_5)) [1, 2, 3, 4, 0] rfl)
      have f_15 : ¬ 2 ^ cs ≤ r := fun h => c_15 ((nI_leI (a := 2 ^ cs) (b := r) (by first | omega | exact b_and1 _ | exact b_ct _ _ (by omega) | exact b_andr _ (by omega)) (by first | omega | exact b_and1 _ | exact b_ct _ _ (by omega) | exact b_andr _ (by omega))).mpr h)
      refine lv_lload_n hx hb dX3_after_18 rfl (lv_at hl 1 rfl) ?_
      refine lv_iload hx hb dX3_after_19 (lv_at hl 4 rfl) ?_
      refine lv_lushr hx hb dX3_after_21 rfl ?_
      refine lv_lconst (v := 1) hx hb dX3_after_22 (by decide) ?_
      refine lv_land hx hb dX3_after_23 ?_
      refine lv_lconst (v := 0) hx hb dX3_after_24 (by decide) ?_
      refine W.lcmp hx hb dX3_after_25 ?_
      refine lv_if_eq (tgt := 41) hx hb dX3_after_26 (by decide) (fun c_26 => ?_) (fun c_26 => ?_)
      · have f_26 : ((x.toUInt64 >>> ((nI r).toInt64.toUInt64 &&& Int64.toUInt64 63)).toInt64) &&& 1 = 0 := (fx_cmp0 _ _).mp c_26
        refine lv_iinc (v := nI (r + 1)) (lv' := [(6, .int (nI (r + 1))), (0, .ref (q 14)), (1, .long x), (3, .int (nI rs)), (4, .long (orT x wle r))]) hx hb dX3_after_41 hl (k := 4) rfl (by exact nI_1 _) (by decide) rfl (fun ls hl => ?_)
        refine lv_goto (tgt := 6) hx hb dX3_after_44 (by decide) ?_
        have e_6 : orT x wle r = orT x wle (r + 1) := by first | rfl | (simp [orT, lbit, ushL, f_26])
        exact ih_6 (r + 1) (by first | assumption | omega) (by omega) H locs hP hD hS ls (lv_sub (fx_hl (l' := [(6, .int (nI (r + 1))), (0, .ref (q 14)), (1, .long x), (3, .int (nI rs)), (4, .long (orT x wle (r + 1)))]) hl (congrArg (fun w9 : Int64 => ([(6, .int (nI (r + 1))), (0, .ref (q 14)), (1, .long x), (3, .int (nI rs)), (4, .long w9)] : List (Nat × Value))) e_6)) [1, 2, 3, 4, 0] rfl)
      have f_26 : ¬ ((x.toUInt64 >>> ((nI r).toInt64.toUInt64 &&& Int64.toUInt64 63)).toInt64) &&& 1 = 0 := fun h => c_26 ((fx_cmp0 _ _).mpr h)
      refine lv_lload hx hb dX3_after_29 (lv_at hl 3 rfl) ?_
      refine lv_aload_n hx hb dX3_after_31 rfl (lv_at hl 0 rfl) ?_
      refine va_get (D := D) (ci := 3) (v := .ref (q 16)) (C := RX3) (T := TX3) (N := 3) hx hb hts (fun w h => List.mem_cons_of_mem _ (List.mem_append_left _ (List.mem_append_right _ h))) hown hK hP 14 rfl rfl 2 (by decide) (hts (.fieldLink RX3 15 "FirstStates$Walk" "leads" "[J") (List.mem_of_getElem? (i := 2) rfl)) (fun _ h9 => h9) rfl dX3_after_32 ?_
      refine lv_iload hx hb dX3_after_35 (lv_at hl 4 rfl) ?_
      refine fx_lald hx hb hK hP 16 (f := wle) (k := r) rfl (by omega) (by decide) dX3_after_37 ?_
      refine lv_lor hx hb dX3_after_38 ?_
      refine lv_lstore (lv' := [(4, .long ((orT x wle r) ||| (wle r))), (0, .ref (q 14)), (1, .long x), (3, .int (nI rs)), (6, .int (nI r))]) hx hb dX3_after_39 hl (by decide) rfl (fun ls hl => ?_)
      refine lv_iinc (v := nI (r + 1)) (lv' := [(6, .int (nI (r + 1))), (4, .long ((orT x wle r) ||| (wle r))), (0, .ref (q 14)), (1, .long x), (3, .int (nI rs))]) hx hb dX3_after_41 hl (k := 4) rfl (by exact nI_1 _) (by decide) rfl (fun ls hl => ?_)
      refine lv_goto (tgt := 6) hx hb dX3_after_44 (by decide) ?_
      have e_7 : (orT x wle r) ||| (wle r) = orT x wle (r + 1) := by first | rfl | (simp [orT, lbit, ushL, f_26])
      exact ih_6 (r + 1) (by first | assumption | omega) (by omega) H locs hP hD hS ls (lv_sub (fx_hl (l' := [(6, .int (nI (r + 1))), (4, .long (orT x wle (r + 1))), (0, .ref (q 14)), (1, .long x), (3, .int (nI rs))]) hl (congrArg (fun w9 : Int64 => ([(6, .int (nI (r + 1))), (4, .long w9), (0, .ref (q 14)), (1, .long x), (3, .int (nI rs))] : List (Nat × Value))) e_7)) [2, 3, 4, 1, 0] rfl)
  exact L_6 (2 ^ cs - 0 + 1) 0 (Nat.zero_le _) (Nat.lt_succ_self _) H locs hP hD hS ls (lv_sub hl [2, 3, 4, 1, 0] rfl)
set_option maxHeartbeats 4000000 in
set_option maxRecDepth 100000 in
theorem c_X3_ticksTillOne (l : Launch) (D : va_G) (cI cJ cZ : ClassId) (q : Nat → Nat) (xro : Int64) (xtk : Nat) (xli : Nat) (cn : Nat) (ci : Nat) (cs : Nat) (cso : Nat → Nat) (cki : Nat → Nat) (cfa : Nat → Nat) (cfb : Nat → Nat) (cfc : Nat → Nat) (cva : Nat → Nat) (csn : Nat → Nat) (csd : Nat → Nat) (csl : Nat → Nat) (csb : Nat → Nat) (csr : Nat → Nat) (csc : Nat → Nat) (won : Nat → Int64) (wle : Nat → Int64) (pte : Nat → Nat) (pho : Nat → Nat) (nwa : Nat → Int32) (nti : Nat → Int32) (x : Int64) (rs : Nat) (hcs : cs ≤ 6) (hrs : rs < 64) (hsb : ∀ i, i < cs → csb i ≤ 1) : Ct l D cI cJ cZ yX3_ticksTillOne wsX3_ticksTillOne ({ frames := 2, cells := 0, slots := 0, locals := 50 } : Room) 0 0 [.ref (q 14), .long x, .int (nI rs)] (wA q cI cJ xro xtk xli cn ci cs cso cki cfa cfb cfc cva csn csd csl csb csr csc won wle pte pho nwa nti) (S := Unit) (fun u => True) (fun u => some (.int (ttoF (aftF csb cs wle rs) 65 0 x))) (fun u => (wA q cI cJ xro xtk xli cn ci cs cso cki cfa cfb cfc cva csn csd csl csb csr csc won wle pte pho nwa nti)) := by
  refine Ct.ofW (cc := cX3_ticksTillOne) (maxL := 7) (ret := (some .int)) (R_C := RX3) (by decide +kernel) rfl rfl (Nat.le_of_ble_eq_true rfl) rfl ?_
  intro p e s m args below meth c A Q ls H locs hx hb hml hown hts hK hA hP hD hS hZ hl hri hrl hrv
  refine lv_lload_n hx hb dX3_ticksTillOne_0 rfl (lv_at hl 1 rfl) ?_
  refine lv_lstore (lv' := [(4, .long x), (0, .ref (q 14)), (1, .long x), (3, .int (nI rs))]) hx hb dX3_ticksTillOne_1 hl (by decide) rfl (fun ls hl => ?_)
  refine lv_iconst (v := nI 0) hx hb dX3_ticksTillOne_3 (by decide) ?_
  refine lv_istore (lv' := [(6, .int (nI 0)), (4, .long x), (0, .ref (q 14)), (1, .long x), (3, .int (nI rs))]) hx hb dX3_ticksTillOne_4 hl (by decide) rfl (fun ls hl => ?_)
  have L_6 : ∀ (fuel : Nat) (n : Nat) (t : Nat) (y : Int64) (hn : t + n = 65) (hr : ttoF (aftF csb cs wle rs) n t y = ttoF (aftF csb cs wle rs) 65 0 x) (hfu : n < fuel) (H : Heap) (locs : List Loc), va_P D vwCl (wA q cI cJ xro xtk xli cn ci cs cso cki cfa cfb cfc cva csn csd csl csb csr csc won wle pte pho nwa nti) H → va_D A (wA q cI cJ xro xtk xli cn ci cs cso cki cfa cfb cfc cva csn csd csl csb csr csc won wle pte pho nwa nti) → va_S A s.heap H locs → ∀ ls : Array Slot, lv_has ls 7 [(0, .ref (q 14)), (1, .long x), (3, .int (nI rs)), (4, .long y), (6, .int (nI t))] → W p l e ({ frames := 2, cells := 0, slots := 0, locals := 50 } : Room) s m args below meth c H locs 0 0 Q (F0 m 6 ls []) := by
    intro fuel
    induction fuel with
    | zero => intro n t y hn hr hfu; exact absurd hfu (Nat.not_lt_zero _)
    | succ fuel ih_6 =>
      intro n t y hn hr hfu H locs hP hD hS ls hl
      refine lv_iload hx hb dX3_ticksTillOne_6 (lv_at hl 4 rfl) ?_
      refine lv_bipush (v := nI 64) hx hb dX3_ticksTillOne_8 (by decide) ?_
      refine lv_icmp_gt (tgt := 40) hx hb dX3_ticksTillOne_10 (by decide) (fun c_10 => ?_) (fun c_10 => ?_)
      · have f_10 : 64 < t := (nI_ltI (a := 64) (b := t) (by first | omega | exact b_and1 _ | exact b_ct _ _ (by omega) | exact b_andr _ (by omega)) (by first | omega | exact b_and1 _ | exact b_ct _ _ (by omega) | exact b_andr _ (by omega))).mp c_10
        refine lv_bipush (v := (-9)) hx hb dX3_ticksTillOne_40 (by decide) ?_
        exact hri () _ H locs 42 ls .int rfl rfl trivial (by rw [← hr, show n = 0 by omega]; rfl) hP hD hS dX3_ticksTillOne_42
      have f_10 : ¬ 64 < t := fun h => c_10 ((nI_ltI (a := 64) (b := t) (by first | omega | exact b_and1 _ | exact b_ct _ _ (by omega) | exact b_andr _ (by omega)) (by first | omega | exact b_and1 _ | exact b_ct _ _ (by omega) | exact b_andr _ (by omega))).mpr h)
      obtain ⟨n1, rfl⟩ : ∃ n1, n = n1 + 1 := ⟨n - 1, by omega⟩
      refine lv_lload hx hb dX3_ticksTillOne_13 (lv_at hl 3 rfl) ?_
      refine fx_callS (As := [.long y]) (rest := []) ⟨hx, hb, hml, hown, hts⟩ (c_J13_bitCount_95d88 l D cI cJ cZ (wA q cI cJ xro xtk xli cn ci cs cso cki cfa cfb cfc cva csn csd csl csb csr csc won wle pte pho nwa nti) y) (va_cwS 1 hts gX3_ticksTillOne_J13_bitCount_95d88 rfl rfl rfl ks_J13_bitCount_95d88 ⟨Nat.le_of_ble_eq_true rfl, Nat.le_of_ble_eq_true rfl⟩) hK hP hD hS hA hZ rfl hl.1 rfl (lv_room (Nat.le_of_ble_eq_true rfl)) dX3_ticksTillOne_15 ⟨Nat.zero_le _, Nat.zero_le _⟩ (fun u_1 H locs hu_1 hP hD hS => ?_)
      refine lv_iconst (v := nI 1) hx hb dX3_ticksTillOne_18 (by decide) ?_
      refine lv_icmp_ne (tgt := 25) hx hb dX3_ticksTillOne_19 (by decide) (fun c_19 => ?_) (fun c_19 => ?_)
      · have f_19 : ¬ bct y = 1 := fun h => c_19 ((nI_eq (a := bct y) (b := 1) (by first | omega | exact b_and1 _ | exact b_ct _ _ (by omega) | exact b_andr _ (by omega)) (by first | omega | exact b_and1 _ | exact b_ct _ _ (by omega) | exact b_andr _ (by omega))).mpr h)
        refine lv_aload_n hx hb dX3_ticksTillOne_25 rfl (lv_at hl 0 rfl) ?_
        refine lv_lload hx hb dX3_ticksTillOne_26 (lv_at hl 3 rfl) ?_
        refine lv_iload_n hx hb dX3_ticksTillOne_28 rfl (lv_at hl 2 rfl) ?_
        refine fx_callV (As := [.long y, .int (nI rs)]) (rest := []) ⟨hx, hb, hml, hown, hts⟩ (c_X3_after l D cI cJ cZ q xro xtk xli cn ci cs cso cki cfa cfb cfc cva csn csd csl csb csr csc won wle pte pho nwa nti y rs (by first | assumption | omega) (by first | assumption | omega) (by first | assumption | omega)) (cwV 2 hts gX3_ticksTillOne_X3_after rfl rfl rfl kv_X3_after ⟨Nat.le_of_ble_eq_true rfl, Nat.le_of_ble_eq_true rfl⟩) hK hP hD hS hA hZ 14 rfl rfl rfl rfl hl.1 rfl (lv_room (Nat.le_of_ble_eq_true rfl)) dX3_ticksTillOne_29 ⟨Nat.zero_le _, Nat.zero_le _⟩ (fun u_2 H locs hu_2 hP hD hS => ?_)
        refine lv_lstore (lv' := [(4, .long (aftF csb cs wle rs y)), (0, .ref (q 14)), (1, .long x), (3, .int (nI rs)), (6, .int (nI t))]) hx hb dX3_ticksTillOne_32 hl (by decide) rfl (fun ls hl => ?_)
        refine lv_iinc (v := nI (t + 1)) (lv' := [(6, .int (nI (t + 1))), (4, .long (aftF csb cs wle rs y)), (0, .ref (q 14)), (1, .long x), (3, .int (nI rs))]) hx hb dX3_ticksTillOne_34 hl (k := 4) rfl (by exact nI_1 _) (by decide) rfl (fun ls hl => ?_)
        refine lv_goto (tgt := 6) hx hb dX3_ticksTillOne_37 (by decide) ?_
        exact ih_6 n1 (t + 1) (aftF csb cs wle rs y) (by first | assumption | omega) (by rw [← hr]; simp [ttoF, f_19]) (by omega) H locs hP hD hS ls (lv_sub hl [2, 3, 4, 1, 0] rfl)
      have f_19 : bct y = 1 := (nI_eq (a := bct y) (b := 1) (by first | omega | exact b_and1 _ | exact b_ct _ _ (by omega) | exact b_andr _ (by omega)) (by first | omega | exact b_and1 _ | exact b_ct _ _ (by omega) | exact b_andr _ (by omega))).mp c_19
      refine lv_iload hx hb dX3_ticksTillOne_22 (lv_at hl 4 rfl) ?_
      exact hri () _ H locs 24 ls .int rfl rfl trivial (by rw [← hr]; simp [ttoF, f_19]) hP hD hS dX3_ticksTillOne_24
  exact L_6 (65 + 1) 65 0 x rfl rfl (Nat.lt_succ_self _) H locs hP hD hS ls (lv_sub hl [2, 3, 4, 1, 0] rfl)
set_option maxHeartbeats 4000000 in
set_option maxRecDepth 100000 in
theorem c_X3_leavesOne (l : Launch) (D : va_G) (cI cJ cZ : ClassId) (q : Nat → Nat) (xro : Int64) (xtk : Nat) (xli : Nat) (cn : Nat) (ci : Nat) (cs : Nat) (cso : Nat → Nat) (cki : Nat → Nat) (cfa : Nat → Nat) (cfb : Nat → Nat) (cfc : Nat → Nat) (cva : Nat → Nat) (csn : Nat → Nat) (csd : Nat → Nat) (csl : Nat → Nat) (csb : Nat → Nat) (csr : Nat → Nat) (csc : Nat → Nat) (won : Nat → Int64) (wle : Nat → Int64) (pte : Nat → Nat) (pho : Nat → Nat) (nwa : Nat → Int32) (nti : Nat → Int32) (n : Nat) (rs : Nat) (hcs : cs ≤ 6) (hrs : rs < 64) (hsb : ∀ i, i < cs → csb i ≤ 1) (hn64 : n ≤ 64) : Ct l D cI cJ cZ yX3_leavesOne wsX3_leavesOne ({ frames := 2, cells := 0, slots := 0, locals := 50 } : Room) 0 0 [.ref (q 14), .int (nI n), .int (nI rs)] (wA q cI cJ xro xtk xli cn ci cs cso cki cfa cfb cfc cva csn csd csl csb csr csc won wle pte pho nwa nti) (S := Unit) (fun u => True) (fun u => some (.int (bI (decide (bct (lvF (aftF csb cs wle rs) n (alR cs)) = 1))))) (fun u => (wA q cI cJ xro xtk xli cn ci cs cso cki cfa cfb cfc cva csn csd csl csb csr csc won wle pte pho nwa nti)) := by
  refine Ct.ofW (cc := cX3_leavesOne) (maxL := 8) (ret := (some .boolean)) (R_C := RX3) (by decide +kernel) rfl rfl (Nat.le_of_ble_eq_true rfl) rfl ?_
  intro p e s m args below meth c A Q ls H locs hx hb hml hown hts hK hA hP hD hS hZ hl hri hrl hrv
  refine lv_aload_n hx hb dX3_leavesOne_0 rfl (lv_at hl 0 rfl) ?_
  refine fx_callV (As := []) (rest := []) ⟨hx, hb, hml, hown, hts⟩ (c_X3_allRows l D cI cJ cZ q xro xtk xli cn ci cs cso cki cfa cfb cfc cva csn csd csl csb csr csc won wle pte pho nwa nti (by first | assumption | omega)) (cwV 0 hts gX3_leavesOne_X3_allRows rfl rfl rfl kv_X3_allRows ⟨Nat.le_of_ble_eq_true rfl, Nat.le_of_ble_eq_true rfl⟩) hK hP hD hS hA hZ 14 rfl rfl rfl rfl hl.1 rfl (lv_room (Nat.le_of_ble_eq_true rfl)) dX3_leavesOne_1 ⟨Nat.zero_le _, Nat.zero_le _⟩ (fun u_1 H locs hu_1 hP hD hS => ?_)
  refine lv_lstore_n (lv' := [(3, .long (alR cs)), (0, .ref (q 14)), (1, .int (nI n)), (2, .int (nI rs))]) hx hb dX3_leavesOne_4 rfl hl (by decide) rfl (fun ls hl => ?_)
  refine lv_iconst (v := nI 0) hx hb dX3_leavesOne_5 (by decide) ?_
  refine lv_istore (lv' := [(5, .int (nI 0)), (3, .long (alR cs)), (0, .ref (q 14)), (1, .int (nI n)), (2, .int (nI rs))]) hx hb dX3_leavesOne_6 hl (by decide) rfl (fun ls hl => ?_)
  have L_8 : ∀ (fuel : Nat) (k : Nat) (t : Nat) (y : Int64) (hk : t + k = n) (hr : lvF (aftF csb cs wle rs) k y = lvF (aftF csb cs wle rs) n (alR cs)) (hfu : k < fuel) (H : Heap) (locs : List Loc), va_P D vwCl (wA q cI cJ xro xtk xli cn ci cs cso cki cfa cfb cfc cva csn csd csl csb csr csc won wle pte pho nwa nti) H → va_D A (wA q cI cJ xro xtk xli cn ci cs cso cki cfa cfb cfc cva csn csd csl csb csr csc won wle pte pho nwa nti) → va_S A s.heap H locs → ∀ ls : Array Slot, lv_has ls 8 [(0, .ref (q 14)), (1, .int (nI n)), (2, .int (nI rs)), (3, .long y), (5, .int (nI t))] → W p l e ({ frames := 2, cells := 0, slots := 0, locals := 50 } : Room) s m args below meth c H locs 0 0 Q (F0 m 8 ls []) := by
    intro fuel
    induction fuel with
    | zero => intro k t y hk hr hfu; exact absurd hfu (Nat.not_lt_zero _)
    | succ fuel ih_8 =>
      intro k t y hk hr hfu H locs hP hD hS ls hl
      refine lv_iload hx hb dX3_leavesOne_8 (lv_at hl 4 rfl) ?_
      refine lv_iload_n hx hb dX3_leavesOne_10 rfl (lv_at hl 1 rfl) ?_
      refine lv_icmp_ge (tgt := 41) hx hb dX3_leavesOne_11 (by decide) (fun c_11 => ?_) (fun c_11 => ?_)
      · have f_11 : n ≤ t := (nI_leI (a := n) (b := t) (by first | omega | exact b_and1 _ | exact b_ct _ _ (by omega) | exact b_andr _ (by omega)) (by first | omega | exact b_and1 _ | exact b_ct _ _ (by omega) | exact b_andr _ (by omega))).mp c_11
        refine lv_lload_n hx hb dX3_leavesOne_41 rfl (lv_at hl 3 rfl) ?_
        refine fx_callS (As := [.long y]) (rest := []) ⟨hx, hb, hml, hown, hts⟩ (c_J13_bitCount_95d88 l D cI cJ cZ (wA q cI cJ xro xtk xli cn ci cs cso cki cfa cfb cfc cva csn csd csl csb csr csc won wle pte pho nwa nti) y) (va_cwS 1 hts gX3_leavesOne_J13_bitCount_95d88 rfl rfl rfl ks_J13_bitCount_95d88 ⟨Nat.le_of_ble_eq_true rfl, Nat.le_of_ble_eq_true rfl⟩) hK hP hD hS hA hZ rfl hl.1 rfl (lv_room (Nat.le_of_ble_eq_true rfl)) dX3_leavesOne_42 ⟨Nat.zero_le _, Nat.zero_le _⟩ (fun u_2 H locs hu_2 hP hD hS => ?_)
        have hfin : lvF (aftF csb cs wle rs) n (alR cs) = y := by rw [← hr, show k = 0 by omega]; rfl
        refine lv_iconst (v := nI 1) hx hb dX3_leavesOne_45 (by decide) ?_
        refine lv_icmp_ne (tgt := 53) hx hb dX3_leavesOne_46 (by decide) (fun c_46 => ?_) (fun c_46 => ?_)
        · have f_46 : ¬ bct y = 1 := fun h => c_46 ((nI_eq (a := bct y) (b := 1) (by first | omega | exact b_and1 _ | exact b_ct _ _ (by omega) | exact b_andr _ (by omega)) (by first | omega | exact b_and1 _ | exact b_ct _ _ (by omega) | exact b_andr _ (by omega))).mpr h)
          refine lv_iconst (v := nI 0) hx hb dX3_leavesOne_53 (by decide) ?_
          exact hri () _ H locs 54 ls .boolean rfl rfl trivial (by exact bI_s0 (by rw [hfin]; simp [f_46])) hP hD hS dX3_leavesOne_54
        have f_46 : bct y = 1 := (nI_eq (a := bct y) (b := 1) (by first | omega | exact b_and1 _ | exact b_ct _ _ (by omega) | exact b_andr _ (by omega)) (by first | omega | exact b_and1 _ | exact b_ct _ _ (by omega) | exact b_andr _ (by omega))).mp c_46
        refine lv_iconst (v := nI 1) hx hb dX3_leavesOne_49 (by decide) ?_
        refine lv_goto (tgt := 54) hx hb dX3_leavesOne_50 (by decide) ?_
        exact hri () _ H locs 54 ls .boolean rfl rfl trivial (by exact bI_s1 (by rw [hfin]; simp [f_46])) hP hD hS dX3_leavesOne_54
      have f_11 : ¬ n ≤ t := fun h => c_11 ((nI_leI (a := n) (b := t) (by first | omega | exact b_and1 _ | exact b_ct _ _ (by omega) | exact b_andr _ (by omega)) (by first | omega | exact b_and1 _ | exact b_ct _ _ (by omega) | exact b_andr _ (by omega))).mpr h)
      obtain ⟨k1, rfl⟩ : ∃ k1, k = k1 + 1 := ⟨k - 1, by omega⟩
      refine lv_aload_n hx hb dX3_leavesOne_14 rfl (lv_at hl 0 rfl) ?_
      refine lv_lload_n hx hb dX3_leavesOne_15 rfl (lv_at hl 3 rfl) ?_
      refine lv_iload_n hx hb dX3_leavesOne_16 rfl (lv_at hl 2 rfl) ?_
      refine fx_callV (As := [.long y, .int (nI rs)]) (rest := []) ⟨hx, hb, hml, hown, hts⟩ (c_X3_after l D cI cJ cZ q xro xtk xli cn ci cs cso cki cfa cfb cfc cva csn csd csl csb csr csc won wle pte pho nwa nti y rs (by first | assumption | omega) (by first | assumption | omega) (by first | assumption | omega)) (cwV 2 hts gX3_leavesOne_X3_after rfl rfl rfl kv_X3_after ⟨Nat.le_of_ble_eq_true rfl, Nat.le_of_ble_eq_true rfl⟩) hK hP hD hS hA hZ 14 rfl rfl rfl rfl hl.1 rfl (lv_room (Nat.le_of_ble_eq_true rfl)) dX3_leavesOne_17 ⟨Nat.zero_le _, Nat.zero_le _⟩ (fun u_3 H locs hu_3 hP hD hS => ?_)
      refine lv_lstore (lv' := [(6, .long (aftF csb cs wle rs y)), (0, .ref (q 14)), (1, .int (nI n)), (2, .int (nI rs)), (3, .long y), (5, .int (nI t))]) hx hb dX3_leavesOne_20 hl (by decide) rfl (fun ls hl => ?_)
      refine lv_lload hx hb dX3_leavesOne_22 (lv_at hl 0 rfl) ?_
      refine lv_lload_n hx hb dX3_leavesOne_24 rfl (lv_at hl 4 rfl) ?_
      refine W.lcmp hx hb dX3_leavesOne_25 ?_
      refine lv_if_ne (tgt := 32) hx hb dX3_leavesOne_26 (by decide) (fun c_26 => ?_) (fun c_26 => ?_)
      · have f_26 : ¬ aftF csb cs wle rs y = y := fun h => c_26 ((fx_cmp0 _ _).mpr h)
        refine lv_lload hx hb dX3_leavesOne_32 (lv_at hl 0 rfl) ?_
        refine lv_lstore_n (lv' := [(3, .long (aftF csb cs wle rs y)), (6, .long (aftF csb cs wle rs y)), (0, .ref (q 14)), (1, .int (nI n)), (2, .int (nI rs)), (5, .int (nI t))]) hx hb dX3_leavesOne_34 rfl hl (by decide) rfl (fun ls hl => ?_)
        refine lv_iinc (v := nI (t + 1)) (lv' := [(5, .int (nI (t + 1))), (3, .long (aftF csb cs wle rs y)), (6, .long (aftF csb cs wle rs y)), (0, .ref (q 14)), (1, .int (nI n)), (2, .int (nI rs))]) hx hb dX3_leavesOne_35 hl (k := 5) rfl (by exact nI_1 _) (by decide) rfl (fun ls hl => ?_)
        refine lv_goto (tgt := 8) hx hb dX3_leavesOne_38 (by decide) ?_
        exact ih_8 k1 (t + 1) (aftF csb cs wle rs y) (by first | assumption | omega) (by rw [← hr]; simp [lvF, f_26]) (by omega) H locs hP hD hS ls (lv_sub hl [3, 4, 5, 1, 0] rfl)
      have f_26 : aftF csb cs wle rs y = y := (fx_cmp0 _ _).mp c_26
      have hfin : lvF (aftF csb cs wle rs) n (alR cs) = y := by rw [← hr]; simp [lvF, f_26]
      refine lv_goto (tgt := 41) hx hb dX3_leavesOne_29 (by decide) ?_
      refine lv_lload_n hx hb dX3_leavesOne_41 rfl (lv_at hl 4 rfl) ?_
      refine fx_callS (As := [.long y]) (rest := []) ⟨hx, hb, hml, hown, hts⟩ (c_J13_bitCount_95d88 l D cI cJ cZ (wA q cI cJ xro xtk xli cn ci cs cso cki cfa cfb cfc cva csn csd csl csb csr csc won wle pte pho nwa nti) y) (va_cwS 1 hts gX3_leavesOne_J13_bitCount_95d88 rfl rfl rfl ks_J13_bitCount_95d88 ⟨Nat.le_of_ble_eq_true rfl, Nat.le_of_ble_eq_true rfl⟩) hK hP hD hS hA hZ rfl hl.1 rfl (lv_room (Nat.le_of_ble_eq_true rfl)) dX3_leavesOne_42 ⟨Nat.zero_le _, Nat.zero_le _⟩ (fun u_4 H locs hu_4 hP hD hS => ?_)
      refine lv_iconst (v := nI 1) hx hb dX3_leavesOne_45 (by decide) ?_
      refine lv_icmp_ne (tgt := 53) hx hb dX3_leavesOne_46 (by decide) (fun c_46 => ?_) (fun c_46 => ?_)
      · have f_46 : ¬ bct y = 1 := fun h => c_46 ((nI_eq (a := bct y) (b := 1) (by first | omega | exact b_and1 _ | exact b_ct _ _ (by omega) | exact b_andr _ (by omega)) (by first | omega | exact b_and1 _ | exact b_ct _ _ (by omega) | exact b_andr _ (by omega))).mpr h)
        refine lv_iconst (v := nI 0) hx hb dX3_leavesOne_53 (by decide) ?_
        exact hri () _ H locs 54 ls .boolean rfl rfl trivial (by exact bI_s0 (by rw [hfin]; simp [f_46])) hP hD hS dX3_leavesOne_54
      have f_46 : bct y = 1 := (nI_eq (a := bct y) (b := 1) (by first | omega | exact b_and1 _ | exact b_ct _ _ (by omega) | exact b_andr _ (by omega)) (by first | omega | exact b_and1 _ | exact b_ct _ _ (by omega) | exact b_andr _ (by omega))).mp c_46
      refine lv_iconst (v := nI 1) hx hb dX3_leavesOne_49 (by decide) ?_
      refine lv_goto (tgt := 54) hx hb dX3_leavesOne_50 (by decide) ?_
      exact hri () _ H locs 54 ls .boolean rfl rfl trivial (by exact bI_s1 (by rw [hfin]; simp [f_46])) hP hD hS dX3_leavesOne_54
  exact L_8 (n + 1) n 0 (alR cs) (by omega) rfl (Nat.lt_succ_self _) H locs hP hD hS ls (lv_sub hl [2, 3, 4, 1, 0] rfl)
set_option maxHeartbeats 4000000 in
set_option maxRecDepth 100000 in
theorem c_X3_surely (l : Launch) (D : va_G) (cI cJ cZ : ClassId) (q : Nat → Nat) (xro : Int64) (xtk : Nat) (xli : Nat) (cn : Nat) (ci : Nat) (cs : Nat) (cso : Nat → Nat) (cki : Nat → Nat) (cfa : Nat → Nat) (cfb : Nat → Nat) (cfc : Nat → Nat) (cva : Nat → Nat) (csn : Nat → Nat) (csd : Nat → Nat) (csl : Nat → Nat) (csb : Nat → Nat) (csr : Nat → Nat) (csc : Nat → Nat) (won : Nat → Int64) (wle : Nat → Int64) (pte : Nat → Nat) (pho : Nat → Nat) (nwa : Nat → Int32) (nti : Nat → Int32) (k : Nat) (x : Int64) (hcn : cn ≤ 32) (hcs : cs ≤ 6) (hso : ∀ j, j < cn → cso j ≤ 3 ∧ cki j ≤ 4 ∧ cva j ≤ 2) (hg : ∀ j, j < cn → cso j = 2 → cfa j < j ∧ cfb j < j ∧ cfc j < j) (hs : ∀ j, j < cn → cso j = 3 → csn j < cs) (hin : ct (fun j => decide (cso j = 0)) cn ≤ 4) (hk : k < cn) : Ct l D cI cJ cZ yX3_surely wsX3_surely ({ frames := 2, cells := 0, slots := 0, locals := 51 } : Room) 0 0 [.ref (q 14), .int (nI k), .long x] (wA q cI cJ xro xtk xli cn ci cs cso cki cfa cfb cfc cva csn csd csl csb csr csc won wle pte pho nwa nti) (S := Unit) (fun u => True) (fun u => some (.int (nI (if (anyN (fun jj => !decide (surT cso cki cfa cfb cfc cva csn cn won (jj + 1) k &&& x = 0)) (2 ^ ct (opP cso cva false) cn) && anyN (fun jj => !decide ((surT cso cki cfa cfb cfc cva csn cn won (jj + 1) k ^^^ (-1)) &&& x = 0)) (2 ^ ct (opP cso cva false) cn)) = true then 2 else if anyN (fun jj => !decide (surT cso cki cfa cfb cfc cva csn cn won (jj + 1) k &&& x = 0)) (2 ^ ct (opP cso cva false) cn) = true then 1 else 0)))) (fun u => (wA q cI cJ xro xtk xli cn ci cs cso cki cfa cfb cfc cva csn csd csl csb csr csc (surT cso cki cfa cfb cfc cva csn cn won (2 ^ ct (opP cso cva false) cn)) wle pte pho nwa nti)) := by
  refine Ct.ofW (cc := cX3_surely) (maxL := 8) (ret := (some .int)) (R_C := RX3) (by decide +kernel) rfl rfl (Nat.le_of_ble_eq_true rfl) rfl ?_
  intro p e s m args below meth c A Q ls H locs hx hb hml hown hts hK hA hP hD hS hZ hl hri hrl hrv
  refine lv_iconst (v := nI 0) hx hb dX3_surely_0 (by decide) ?_
  refine lv_istore (lv' := [(4, .int (nI 0)), (0, .ref (q 14)), (1, .int (nI k)), (2, .long x)]) hx hb dX3_surely_1 hl (by decide) rfl (fun ls hl => ?_)
  refine lv_iconst (v := nI 0) hx hb dX3_surely_3 (by decide) ?_
  refine lv_istore (lv' := [(5, .int (nI 0)), (4, .int (nI 0)), (0, .ref (q 14)), (1, .int (nI k)), (2, .long x)]) hx hb dX3_surely_4 hl (by decide) rfl (fun ls hl => ?_)
  refine lv_iconst (v := nI 1) hx hb dX3_surely_6 (by decide) ?_
  refine lv_aload_n hx hb dX3_surely_7 rfl (lv_at hl 2 rfl) ?_
  refine va_get (D := D) (ci := 3) (v := .ref (q 1)) (C := RX3) (T := TX3) (N := 3) hx hb hts (fun w h => List.mem_cons_of_mem _ (List.mem_append_left _ (List.mem_append_right _ h))) hown hK hP 14 rfl rfl 0 (by decide) (hts (.fieldLink RX3 18 "FirstStates$Walk" "circuit" "LFirstStates$Circuit;") (List.mem_of_getElem? (i := 1) rfl)) (fun _ h9 => h9) rfl dX3_surely_8 ?_
  refine lv_iconst (v := nI 0) hx hb dX3_surely_11 (by decide) ?_
  refine fx_callV (As := [.int (bI false)]) (rest := [.int (nI 1)]) ⟨hx, hb, hml, hown, hts⟩ (c_X0_openInputs l D cI cJ cZ q xro xtk xli cn ci cs cso cki cfa cfb cfc cva csn csd csl csb csr csc won wle pte pho nwa nti false (by first | assumption | omega) (fun j hj => ⟨(hso j hj).1, (hso j hj).2.2⟩)) (cwV 1 hts gX3_surely_X0_openInputs rfl rfl rfl kv_X0_openInputs ⟨Nat.le_of_ble_eq_true rfl, Nat.le_of_ble_eq_true rfl⟩) hK hP hD hS hA hZ 1 rfl rfl rfl rfl hl.1 rfl (lv_room (Nat.le_of_ble_eq_true rfl)) dX3_surely_12 ⟨Nat.zero_le _, Nat.zero_le _⟩ (fun u_1 H locs hu_1 hP hD hS => ?_)
  have hc4 : ct (opP cso cva false) cn ≤ 4 := Nat.le_trans (ct_op _ _ _ _) hin
  have hp4 : 2 ^ ct (opP cso cva false) cn ≤ 16 := Nat.pow_le_pow_right (by omega) hc4
  refine lv_ishl hx hb dX3_surely_15 ?_
  refine fx_eqi (y := nI (2 ^ (ct (opP cso cva false) cn))) (fx_shl1 (by first | omega | exact b_and1 _ | exact b_ct _ _ (by omega) | exact b_andr _ (by omega))) ?_
  refine lv_istore (lv' := [(6, .int (nI (2 ^ (ct (opP cso cva false) cn)))), (5, .int (nI 0)), (4, .int (nI 0)), (0, .ref (q 14)), (1, .int (nI k)), (2, .long x)]) hx hb dX3_surely_16 hl (by decide) rfl (fun ls hl => ?_)
  refine lv_iconst (v := nI 0) hx hb dX3_surely_18 (by decide) ?_
  refine lv_istore (lv' := [(7, .int (nI 0)), (6, .int (nI (2 ^ (ct (opP cso cva false) cn)))), (5, .int (nI 0)), (4, .int (nI 0)), (0, .ref (q 14)), (1, .int (nI k)), (2, .long x)]) hx hb dX3_surely_19 hl (by decide) rfl (fun ls hl => ?_)
  have L_21 : ∀ (fuel : Nat) (w : Nat) (hw : w ≤ 2 ^ ct (opP cso cva false) cn) (hfu : 2 ^ ct (opP cso cva false) cn - w < fuel) (H : Heap) (locs : List Loc), va_P D vwCl (wA q cI cJ xro xtk xli cn ci cs cso cki cfa cfb cfc cva csn csd csl csb csr csc (surT cso cki cfa cfb cfc cva csn cn won w) wle pte pho nwa nti) H → va_D A (wA q cI cJ xro xtk xli cn ci cs cso cki cfa cfb cfc cva csn csd csl csb csr csc (surT cso cki cfa cfb cfc cva csn cn won w) wle pte pho nwa nti) → va_S A s.heap H locs → ∀ ls : Array Slot, lv_has ls 8 [(0, .ref (q 14)), (1, .int (nI k)), (2, .long x), (4, .int (bI (anyN (fun jj => !decide (surT cso cki cfa cfb cfc cva csn cn won (jj + 1) k &&& x = 0)) w))), (5, .int (bI (anyN (fun jj => !decide ((surT cso cki cfa cfb cfc cva csn cn won (jj + 1) k ^^^ (-1)) &&& x = 0)) w))), (6, .int (nI (2 ^ ct (opP cso cva false) cn))), (7, .int (nI w))] → W p l e ({ frames := 2, cells := 0, slots := 0, locals := 51 } : Room) s m args below meth c H locs 0 0 Q (F0 m 21 ls []) := by
    intro fuel
    induction fuel with
    | zero => intro w hw hfu; exact absurd hfu (Nat.not_lt_zero _)
    | succ fuel ih_21 =>
      intro w hw hfu H locs hP hD hS ls hl
      refine lv_iload hx hb dX3_surely_21 (lv_at hl 6 rfl) ?_
      refine lv_iload hx hb dX3_surely_23 (lv_at hl 5 rfl) ?_
      refine lv_icmp_ge (tgt := 91) hx hb dX3_surely_25 (by decide) (fun c_25 => ?_) (fun c_25 => ?_)
      · have f_25 : 2 ^ ct (opP cso cva false) cn ≤ w := (nI_leI (a := 2 ^ ct (opP cso cva false) cn) (b := w) (by first | omega | exact b_and1 _ | exact b_ct _ _ (by omega) | exact b_andr _ (by omega)) (by first | omega | exact b_and1 _ | exact b_ct _ _ (by omega) | exact b_andr _ (by omega))).mp c_25
        have e_w : w = 2 ^ ct (opP cso cva false) cn := by omega
        refine lv_iload hx hb dX3_surely_91 (lv_at hl 3 rfl) ?_
        refine lv_if_eq (tgt := 103) hx hb dX3_surely_93 (by decide) (fun c_93 => ?_) (fun c_93 => ?_)
        · have f_93 : (anyN (fun jj => !decide (surT cso cki cfa cfb cfc cva csn cn won (jj + 1) k &&& x = 0)) w) = false := bI_0.mp c_93
          refine lv_iload hx hb dX3_surely_103 (lv_at hl 3 rfl) ?_
          refine lv_if_eq (tgt := 112) hx hb dX3_surely_105 (by decide) (fun c_105 => ?_) (fun c_105 => ?_)
          · have f_105 : (anyN (fun jj => !decide (surT cso cki cfa cfb cfc cva csn cn won (jj + 1) k &&& x = 0)) w) = false := bI_0.mp c_105
            refine lv_iconst (v := nI 0) hx hb dX3_surely_112 (by decide) ?_
            have e_2 : surT cso cki cfa cfb cfc cva csn cn won w = surT cso cki cfa cfb cfc cva csn cn won (2 ^ ct (opP cso cva false) cn) := by first | rfl | (rw [e_w])
            exact hri () _ H locs 113 ls .int rfl rfl trivial (by rw [← e_w]; simp only [f_93, f_105]; rfl) (fx_Pe (w' := (wA q cI cJ xro xtk xli cn ci cs cso cki cfa cfb cfc cva csn csd csl csb csr csc (surT cso cki cfa cfb cfc cva csn cn won (2 ^ ct (opP cso cva false) cn)) wle pte pho nwa nti)) hP (congrArg (fun w9 : Nat → Int64 => (wA q cI cJ xro xtk xli cn ci cs cso cki cfa cfb cfc cva csn csd csl csb csr csc w9 wle pte pho nwa nti)) e_2)) (fx_D hD rfl) hS dX3_surely_113
          have f_105 : (anyN (fun jj => !decide (surT cso cki cfa cfb cfc cva csn cn won (jj + 1) k &&& x = 0)) w) = true := bI_n0.mp c_105
          exfalso; rw [f_93] at f_105; cases f_105
        have f_93 : (anyN (fun jj => !decide (surT cso cki cfa cfb cfc cva csn cn won (jj + 1) k &&& x = 0)) w) = true := bI_n0.mp c_93
        refine lv_iload hx hb dX3_surely_96 (lv_at hl 4 rfl) ?_
        refine lv_if_eq (tgt := 103) hx hb dX3_surely_98 (by decide) (fun c_98 => ?_) (fun c_98 => ?_)
        · have f_98 : (anyN (fun jj => !decide ((surT cso cki cfa cfb cfc cva csn cn won (jj + 1) k ^^^ (-1)) &&& x = 0)) w) = false := bI_0.mp c_98
          refine lv_iload hx hb dX3_surely_103 (lv_at hl 3 rfl) ?_
          refine lv_if_eq (tgt := 112) hx hb dX3_surely_105 (by decide) (fun c_105 => ?_) (fun c_105 => ?_)
          · have f_105 : (anyN (fun jj => !decide (surT cso cki cfa cfb cfc cva csn cn won (jj + 1) k &&& x = 0)) w) = false := bI_0.mp c_105
            exfalso; rw [f_93] at f_105; cases f_105
          have f_105 : (anyN (fun jj => !decide (surT cso cki cfa cfb cfc cva csn cn won (jj + 1) k &&& x = 0)) w) = true := bI_n0.mp c_105
          refine lv_iconst (v := nI 1) hx hb dX3_surely_108 (by decide) ?_
          refine lv_goto (tgt := 113) hx hb dX3_surely_109 (by decide) ?_
          have e_3 : surT cso cki cfa cfb cfc cva csn cn won w = surT cso cki cfa cfb cfc cva csn cn won (2 ^ ct (opP cso cva false) cn) := by first | rfl | (rw [e_w])
          exact hri () _ H locs 113 ls .int rfl rfl trivial (by rw [← e_w]; simp only [f_93, f_98, f_105]; rfl) (fx_Pe (w' := (wA q cI cJ xro xtk xli cn ci cs cso cki cfa cfb cfc cva csn csd csl csb csr csc (surT cso cki cfa cfb cfc cva csn cn won (2 ^ ct (opP cso cva false) cn)) wle pte pho nwa nti)) hP (congrArg (fun w9 : Nat → Int64 => (wA q cI cJ xro xtk xli cn ci cs cso cki cfa cfb cfc cva csn csd csl csb csr csc w9 wle pte pho nwa nti)) e_3)) (fx_D hD rfl) hS dX3_surely_113
        have f_98 : (anyN (fun jj => !decide ((surT cso cki cfa cfb cfc cva csn cn won (jj + 1) k ^^^ (-1)) &&& x = 0)) w) = true := bI_n0.mp c_98
        refine lv_iconst (v := nI 2) hx hb dX3_surely_101 (by decide) ?_
        have e_4 : surT cso cki cfa cfb cfc cva csn cn won w = surT cso cki cfa cfb cfc cva csn cn won (2 ^ ct (opP cso cva false) cn) := by first | rfl | (rw [e_w])
        exact hri () _ H locs 102 ls .int rfl rfl trivial (by rw [← e_w]; simp only [f_93, f_98]; rfl) (fx_Pe (w' := (wA q cI cJ xro xtk xli cn ci cs cso cki cfa cfb cfc cva csn csd csl csb csr csc (surT cso cki cfa cfb cfc cva csn cn won (2 ^ ct (opP cso cva false) cn)) wle pte pho nwa nti)) hP (congrArg (fun w9 : Nat → Int64 => (wA q cI cJ xro xtk xli cn ci cs cso cki cfa cfb cfc cva csn csd csl csb csr csc w9 wle pte pho nwa nti)) e_4)) (fx_D hD rfl) hS dX3_surely_102
      have f_25 : ¬ 2 ^ ct (opP cso cva false) cn ≤ w := fun h => c_25 ((nI_leI (a := 2 ^ ct (opP cso cva false) cn) (b := w) (by first | omega | exact b_and1 _ | exact b_ct _ _ (by omega) | exact b_andr _ (by omega)) (by first | omega | exact b_and1 _ | exact b_ct _ _ (by omega) | exact b_andr _ (by omega))).mpr h)
      refine lv_aload_n hx hb dX3_surely_28 rfl (lv_at hl 0 rfl) ?_
      refine lv_iload hx hb dX3_surely_29 (lv_at hl 6 rfl) ?_
      refine lv_iconst (v := nI 0) hx hb dX3_surely_31 (by decide) ?_
      refine fx_callV (As := [.int (nI w), .int (bI false)]) (rest := []) ⟨hx, hb, hml, hown, hts⟩ (c_X3_evaluate l D cI cJ cZ q xro xtk xli cn ci cs cso cki cfa cfb cfc cva csn csd csl csb csr csc (surT cso cki cfa cfb cfc cva csn cn won w) wle pte pho nwa nti w false (by first | assumption | omega) (by first | assumption | omega) (by first | assumption | omega) (by first | assumption | omega) (by first | assumption | omega) (by first | assumption | omega) (by first | assumption | omega)) (cwV 2 hts gX3_surely_X3_evaluate rfl rfl rfl kv_X3_evaluate ⟨Nat.le_of_ble_eq_true rfl, Nat.le_of_ble_eq_true rfl⟩) hK hP hD hS hA hZ 14 rfl rfl rfl rfl hl.1 rfl (lv_room (Nat.le_of_ble_eq_true rfl)) dX3_surely_32 ⟨Nat.zero_le _, Nat.zero_le _⟩ (fun u_5 H locs hu_5 hP hD hS => ?_)
      have hP : va_P D vwCl (wA q cI cJ xro xtk xli cn ci cs cso cki cfa cfb cfc cva csn csd csl csb csr csc (evalT cso cki cfa cfb cfc cva csn false w (surT cso cki cfa cfb cfc cva csn cn won w) cn) wle pte pho nwa nti) H := hP
      have hD : va_D A (wA q cI cJ xro xtk xli cn ci cs cso cki cfa cfb cfc cva csn csd csl csb csr csc (evalT cso cki cfa cfb cfc cva csn false w (surT cso cki cfa cfb cfc cva csn cn won w) cn) wle pte pho nwa nti) := fx_D hD rfl
      refine lv_iload hx hb dX3_surely_35 (lv_at hl 3 rfl) ?_
      refine lv_aload_n hx hb dX3_surely_37 rfl (lv_at hl 0 rfl) ?_
      refine va_get (D := D) (ci := 3) (v := .ref (q 15)) (C := RX3) (T := TX3) (N := 3) hx hb hts (fun w h => List.mem_cons_of_mem _ (List.mem_append_left _ (List.mem_append_right _ h))) hown hK hP 14 rfl rfl 1 (by decide) (hts (.fieldLink RX3 9 "FirstStates$Walk" "ones" "[J") (List.mem_of_getElem? (i := 2) rfl)) (fun _ h9 => h9) rfl dX3_surely_38 ?_
      refine lv_iload_n hx hb dX3_surely_41 rfl (lv_at hl 1 rfl) ?_
      refine fx_lald hx hb hK hP 15 (f := (evalT cso cki cfa cfb cfc cva csn false w (surT cso cki cfa cfb cfc cva csn cn won w) cn)) (k := k) rfl (by omega) (by decide) dX3_surely_42 ?_
      refine lv_lload_n hx hb dX3_surely_43 rfl (lv_at hl 2 rfl) ?_
      refine lv_land hx hb dX3_surely_44 ?_
      refine lv_lconst (v := 0) hx hb dX3_surely_45 (by decide) ?_
      refine W.lcmp hx hb dX3_surely_46 ?_
      refine lv_if_eq (tgt := 54) hx hb dX3_surely_47 (by decide) (fun c_47 => ?_) (fun c_47 => ?_)
      · have f_47 : ((evalT cso cki cfa cfb cfc cva csn false w (surT cso cki cfa cfb cfc cva csn cn won w) cn) k) &&& x = 0 := (fx_cmp0 _ _).mp c_47
        refine lv_iconst (v := nI 0) hx hb dX3_surely_54 (by decide) ?_
        refine lv_ior hx hb dX3_surely_55 ?_
        refine fx_eqi (y := bI ((anyN (fun jj => !decide (surT cso cki cfa cfb cfc cva csn cn won (jj + 1) k &&& x = 0)) w) || false)) (fx_orB (anyN (fun jj => !decide (surT cso cki cfa cfb cfc cva csn cn won (jj + 1) k &&& x = 0)) w) false) ?_
        refine lv_istore (lv' := [(4, .int (bI ((anyN (fun jj => !decide (surT cso cki cfa cfb cfc cva csn cn won (jj + 1) k &&& x = 0)) w) || false))), (0, .ref (q 14)), (1, .int (nI k)), (2, .long x), (5, .int (bI (anyN (fun jj => !decide ((surT cso cki cfa cfb cfc cva csn cn won (jj + 1) k ^^^ (-1)) &&& x = 0)) w))), (6, .int (nI (2 ^ ct (opP cso cva false) cn))), (7, .int (nI w))]) hx hb dX3_surely_56 hl (by decide) rfl (fun ls hl => ?_)
        refine lv_iload hx hb dX3_surely_58 (lv_at hl 4 rfl) ?_
        refine lv_aload_n hx hb dX3_surely_60 rfl (lv_at hl 1 rfl) ?_
        refine va_get (D := D) (ci := 3) (v := .ref (q 15)) (C := RX3) (T := TX3) (N := 3) hx hb hts (fun w h => List.mem_cons_of_mem _ (List.mem_append_left _ (List.mem_append_right _ h))) hown hK hP 14 rfl rfl 1 (by decide) (hts (.fieldLink RX3 9 "FirstStates$Walk" "ones" "[J") (List.mem_of_getElem? (i := 2) rfl)) (fun _ h9 => h9) rfl dX3_surely_61 ?_
        refine lv_iload_n hx hb dX3_surely_64 rfl (lv_at hl 2 rfl) ?_
        refine fx_lald hx hb hK hP 15 (f := (evalT cso cki cfa cfb cfc cva csn false w (surT cso cki cfa cfb cfc cva csn cn won w) cn)) (k := k) rfl (by omega) (by decide) dX3_surely_65 ?_
        refine lv_ldc2 (v := (-1)) hx hb hown (hts (.constantLong RX3 28 (-1)) (List.mem_of_getElem? (i := 3) rfl)) dX3_surely_66 ?_
        refine lv_lxor hx hb dX3_surely_69 ?_
        refine lv_lload_n hx hb dX3_surely_70 rfl (lv_at hl 3 rfl) ?_
        refine lv_land hx hb dX3_surely_71 ?_
        refine lv_lconst (v := 0) hx hb dX3_surely_72 (by decide) ?_
        refine W.lcmp hx hb dX3_surely_73 ?_
        refine lv_if_eq (tgt := 81) hx hb dX3_surely_74 (by decide) (fun c_74 => ?_) (fun c_74 => ?_)
        · have f_74 : (((evalT cso cki cfa cfb cfc cva csn false w (surT cso cki cfa cfb cfc cva csn cn won w) cn) k) ^^^ (-1)) &&& x = 0 := (fx_cmp0 _ _).mp c_74
          refine lv_iconst (v := nI 0) hx hb dX3_surely_81 (by decide) ?_
          refine lv_ior hx hb dX3_surely_82 ?_
          refine fx_eqi (y := bI ((anyN (fun jj => !decide ((surT cso cki cfa cfb cfc cva csn cn won (jj + 1) k ^^^ (-1)) &&& x = 0)) w) || false)) (fx_orB (anyN (fun jj => !decide ((surT cso cki cfa cfb cfc cva csn cn won (jj + 1) k ^^^ (-1)) &&& x = 0)) w) false) ?_
          refine lv_istore (lv' := [(5, .int (bI ((anyN (fun jj => !decide ((surT cso cki cfa cfb cfc cva csn cn won (jj + 1) k ^^^ (-1)) &&& x = 0)) w) || false))), (4, .int (bI ((anyN (fun jj => !decide (surT cso cki cfa cfb cfc cva csn cn won (jj + 1) k &&& x = 0)) w) || false))), (0, .ref (q 14)), (1, .int (nI k)), (2, .long x), (6, .int (nI (2 ^ ct (opP cso cva false) cn))), (7, .int (nI w))]) hx hb dX3_surely_83 hl (by decide) rfl (fun ls hl => ?_)
          refine lv_iinc (v := nI (w + 1)) (lv' := [(7, .int (nI (w + 1))), (5, .int (bI ((anyN (fun jj => !decide ((surT cso cki cfa cfb cfc cva csn cn won (jj + 1) k ^^^ (-1)) &&& x = 0)) w) || false))), (4, .int (bI ((anyN (fun jj => !decide (surT cso cki cfa cfb cfc cva csn cn won (jj + 1) k &&& x = 0)) w) || false))), (0, .ref (q 14)), (1, .int (nI k)), (2, .long x), (6, .int (nI (2 ^ ct (opP cso cva false) cn)))]) hx hb dX3_surely_85 hl (k := 6) rfl (by exact nI_1 _) (by decide) rfl (fun ls hl => ?_)
          refine lv_goto (tgt := 21) hx hb dX3_surely_88 (by decide) ?_
          have e_6 : bI ((anyN (fun jj => !decide (surT cso cki cfa cfb cfc cva csn cn won (jj + 1) k &&& x = 0)) w) || false) = bI (anyN (fun jj => !decide (surT cso cki cfa cfb cfc cva csn cn won (jj + 1) k &&& x = 0)) (w + 1)) := by first | rfl | (exact any_s (nd_t f_47))
          have e_7 : bI ((anyN (fun jj => !decide ((surT cso cki cfa cfb cfc cva csn cn won (jj + 1) k ^^^ (-1)) &&& x = 0)) w) || false) = bI (anyN (fun jj => !decide ((surT cso cki cfa cfb cfc cva csn cn won (jj + 1) k ^^^ (-1)) &&& x = 0)) (w + 1)) := by first | rfl | (exact any_s (nd_t f_74))
          exact ih_21 (w + 1) (by first | assumption | omega) (by omega) H locs hP (fx_D hD rfl) hS ls (lv_sub (fx_hl (l' := [(7, .int (nI (w + 1))), (5, .int (bI (anyN (fun jj => !decide ((surT cso cki cfa cfb cfc cva csn cn won (jj + 1) k ^^^ (-1)) &&& x = 0)) (w + 1)))), (4, .int (bI (anyN (fun jj => !decide (surT cso cki cfa cfb cfc cva csn cn won (jj + 1) k &&& x = 0)) (w + 1)))), (0, .ref (q 14)), (1, .int (nI k)), (2, .long x), (6, .int (nI (2 ^ ct (opP cso cva false) cn)))]) (fx_hl (l' := [(7, .int (nI (w + 1))), (5, .int (bI ((anyN (fun jj => !decide ((surT cso cki cfa cfb cfc cva csn cn won (jj + 1) k ^^^ (-1)) &&& x = 0)) w) || false))), (4, .int (bI (anyN (fun jj => !decide (surT cso cki cfa cfb cfc cva csn cn won (jj + 1) k &&& x = 0)) (w + 1)))), (0, .ref (q 14)), (1, .int (nI k)), (2, .long x), (6, .int (nI (2 ^ ct (opP cso cva false) cn)))]) hl (congrArg (fun w9 : Int32 => ([(7, .int (nI (w + 1))), (5, .int (bI ((anyN (fun jj => !decide ((surT cso cki cfa cfb cfc cva csn cn won (jj + 1) k ^^^ (-1)) &&& x = 0)) w) || false))), (4, .int w9), (0, .ref (q 14)), (1, .int (nI k)), (2, .long x), (6, .int (nI (2 ^ ct (opP cso cva false) cn)))] : List (Nat × Value))) e_6)) (congrArg (fun w9 : Int32 => ([(7, .int (nI (w + 1))), (5, .int w9), (4, .int (bI (anyN (fun jj => !decide (surT cso cki cfa cfb cfc cva csn cn won (jj + 1) k &&& x = 0)) (w + 1)))), (0, .ref (q 14)), (1, .int (nI k)), (2, .long x), (6, .int (nI (2 ^ ct (opP cso cva false) cn)))] : List (Nat × Value))) e_7)) [3, 4, 5, 2, 1, 6, 0] rfl)
        have f_74 : ¬ (((evalT cso cki cfa cfb cfc cva csn false w (surT cso cki cfa cfb cfc cva csn cn won w) cn) k) ^^^ (-1)) &&& x = 0 := fun h => c_74 ((fx_cmp0 _ _).mpr h)
        refine lv_iconst (v := nI 1) hx hb dX3_surely_77 (by decide) ?_
        refine lv_goto (tgt := 82) hx hb dX3_surely_78 (by decide) ?_
        refine lv_ior hx hb dX3_surely_82 ?_
        refine fx_eqi (y := bI ((anyN (fun jj => !decide ((surT cso cki cfa cfb cfc cva csn cn won (jj + 1) k ^^^ (-1)) &&& x = 0)) w) || true)) (fx_orB (anyN (fun jj => !decide ((surT cso cki cfa cfb cfc cva csn cn won (jj + 1) k ^^^ (-1)) &&& x = 0)) w) true) ?_
        refine lv_istore (lv' := [(5, .int (bI ((anyN (fun jj => !decide ((surT cso cki cfa cfb cfc cva csn cn won (jj + 1) k ^^^ (-1)) &&& x = 0)) w) || true))), (4, .int (bI ((anyN (fun jj => !decide (surT cso cki cfa cfb cfc cva csn cn won (jj + 1) k &&& x = 0)) w) || false))), (0, .ref (q 14)), (1, .int (nI k)), (2, .long x), (6, .int (nI (2 ^ ct (opP cso cva false) cn))), (7, .int (nI w))]) hx hb dX3_surely_83 hl (by decide) rfl (fun ls hl => ?_)
        refine lv_iinc (v := nI (w + 1)) (lv' := [(7, .int (nI (w + 1))), (5, .int (bI ((anyN (fun jj => !decide ((surT cso cki cfa cfb cfc cva csn cn won (jj + 1) k ^^^ (-1)) &&& x = 0)) w) || true))), (4, .int (bI ((anyN (fun jj => !decide (surT cso cki cfa cfb cfc cva csn cn won (jj + 1) k &&& x = 0)) w) || false))), (0, .ref (q 14)), (1, .int (nI k)), (2, .long x), (6, .int (nI (2 ^ ct (opP cso cva false) cn)))]) hx hb dX3_surely_85 hl (k := 6) rfl (by exact nI_1 _) (by decide) rfl (fun ls hl => ?_)
        refine lv_goto (tgt := 21) hx hb dX3_surely_88 (by decide) ?_
        have e_8 : bI ((anyN (fun jj => !decide (surT cso cki cfa cfb cfc cva csn cn won (jj + 1) k &&& x = 0)) w) || false) = bI (anyN (fun jj => !decide (surT cso cki cfa cfb cfc cva csn cn won (jj + 1) k &&& x = 0)) (w + 1)) := by first | rfl | (exact any_s (nd_t f_47))
        have e_9 : bI ((anyN (fun jj => !decide ((surT cso cki cfa cfb cfc cva csn cn won (jj + 1) k ^^^ (-1)) &&& x = 0)) w) || true) = bI (anyN (fun jj => !decide ((surT cso cki cfa cfb cfc cva csn cn won (jj + 1) k ^^^ (-1)) &&& x = 0)) (w + 1)) := by first | rfl | (exact any_s (nd_f f_74))
        exact ih_21 (w + 1) (by first | assumption | omega) (by omega) H locs hP (fx_D hD rfl) hS ls (lv_sub (fx_hl (l' := [(7, .int (nI (w + 1))), (5, .int (bI (anyN (fun jj => !decide ((surT cso cki cfa cfb cfc cva csn cn won (jj + 1) k ^^^ (-1)) &&& x = 0)) (w + 1)))), (4, .int (bI (anyN (fun jj => !decide (surT cso cki cfa cfb cfc cva csn cn won (jj + 1) k &&& x = 0)) (w + 1)))), (0, .ref (q 14)), (1, .int (nI k)), (2, .long x), (6, .int (nI (2 ^ ct (opP cso cva false) cn)))]) (fx_hl (l' := [(7, .int (nI (w + 1))), (5, .int (bI ((anyN (fun jj => !decide ((surT cso cki cfa cfb cfc cva csn cn won (jj + 1) k ^^^ (-1)) &&& x = 0)) w) || true))), (4, .int (bI (anyN (fun jj => !decide (surT cso cki cfa cfb cfc cva csn cn won (jj + 1) k &&& x = 0)) (w + 1)))), (0, .ref (q 14)), (1, .int (nI k)), (2, .long x), (6, .int (nI (2 ^ ct (opP cso cva false) cn)))]) hl (congrArg (fun w9 : Int32 => ([(7, .int (nI (w + 1))), (5, .int (bI ((anyN (fun jj => !decide ((surT cso cki cfa cfb cfc cva csn cn won (jj + 1) k ^^^ (-1)) &&& x = 0)) w) || true))), (4, .int w9), (0, .ref (q 14)), (1, .int (nI k)), (2, .long x), (6, .int (nI (2 ^ ct (opP cso cva false) cn)))] : List (Nat × Value))) e_8)) (congrArg (fun w9 : Int32 => ([(7, .int (nI (w + 1))), (5, .int w9), (4, .int (bI (anyN (fun jj => !decide (surT cso cki cfa cfb cfc cva csn cn won (jj + 1) k &&& x = 0)) (w + 1)))), (0, .ref (q 14)), (1, .int (nI k)), (2, .long x), (6, .int (nI (2 ^ ct (opP cso cva false) cn)))] : List (Nat × Value))) e_9)) [3, 4, 5, 2, 1, 6, 0] rfl)
      have f_47 : ¬ ((evalT cso cki cfa cfb cfc cva csn false w (surT cso cki cfa cfb cfc cva csn cn won w) cn) k) &&& x = 0 := fun h => c_47 ((fx_cmp0 _ _).mpr h)
      refine lv_iconst (v := nI 1) hx hb dX3_surely_50 (by decide) ?_
      refine lv_goto (tgt := 55) hx hb dX3_surely_51 (by decide) ?_
      refine lv_ior hx hb dX3_surely_55 ?_
      refine fx_eqi (y := bI ((anyN (fun jj => !decide (surT cso cki cfa cfb cfc cva csn cn won (jj + 1) k &&& x = 0)) w) || true)) (fx_orB (anyN (fun jj => !decide (surT cso cki cfa cfb cfc cva csn cn won (jj + 1) k &&& x = 0)) w) true) ?_
      refine lv_istore (lv' := [(4, .int (bI ((anyN (fun jj => !decide (surT cso cki cfa cfb cfc cva csn cn won (jj + 1) k &&& x = 0)) w) || true))), (0, .ref (q 14)), (1, .int (nI k)), (2, .long x), (5, .int (bI (anyN (fun jj => !decide ((surT cso cki cfa cfb cfc cva csn cn won (jj + 1) k ^^^ (-1)) &&& x = 0)) w))), (6, .int (nI (2 ^ ct (opP cso cva false) cn))), (7, .int (nI w))]) hx hb dX3_surely_56 hl (by decide) rfl (fun ls hl => ?_)
      refine lv_iload hx hb dX3_surely_58 (lv_at hl 4 rfl) ?_
      refine lv_aload_n hx hb dX3_surely_60 rfl (lv_at hl 1 rfl) ?_
      refine va_get (D := D) (ci := 3) (v := .ref (q 15)) (C := RX3) (T := TX3) (N := 3) hx hb hts (fun w h => List.mem_cons_of_mem _ (List.mem_append_left _ (List.mem_append_right _ h))) hown hK hP 14 rfl rfl 1 (by decide) (hts (.fieldLink RX3 9 "FirstStates$Walk" "ones" "[J") (List.mem_of_getElem? (i := 2) rfl)) (fun _ h9 => h9) rfl dX3_surely_61 ?_
      refine lv_iload_n hx hb dX3_surely_64 rfl (lv_at hl 2 rfl) ?_
      refine fx_lald hx hb hK hP 15 (f := (evalT cso cki cfa cfb cfc cva csn false w (surT cso cki cfa cfb cfc cva csn cn won w) cn)) (k := k) rfl (by omega) (by decide) dX3_surely_65 ?_
      refine lv_ldc2 (v := (-1)) hx hb hown (hts (.constantLong RX3 28 (-1)) (List.mem_of_getElem? (i := 3) rfl)) dX3_surely_66 ?_
      refine lv_lxor hx hb dX3_surely_69 ?_
      refine lv_lload_n hx hb dX3_surely_70 rfl (lv_at hl 3 rfl) ?_
      refine lv_land hx hb dX3_surely_71 ?_
      refine lv_lconst (v := 0) hx hb dX3_surely_72 (by decide) ?_
      refine W.lcmp hx hb dX3_surely_73 ?_
      refine lv_if_eq (tgt := 81) hx hb dX3_surely_74 (by decide) (fun c_74 => ?_) (fun c_74 => ?_)
      · have f_74 : (((evalT cso cki cfa cfb cfc cva csn false w (surT cso cki cfa cfb cfc cva csn cn won w) cn) k) ^^^ (-1)) &&& x = 0 := (fx_cmp0 _ _).mp c_74
        refine lv_iconst (v := nI 0) hx hb dX3_surely_81 (by decide) ?_
        refine lv_ior hx hb dX3_surely_82 ?_
        refine fx_eqi (y := bI ((anyN (fun jj => !decide ((surT cso cki cfa cfb cfc cva csn cn won (jj + 1) k ^^^ (-1)) &&& x = 0)) w) || false)) (fx_orB (anyN (fun jj => !decide ((surT cso cki cfa cfb cfc cva csn cn won (jj + 1) k ^^^ (-1)) &&& x = 0)) w) false) ?_
        refine lv_istore (lv' := [(5, .int (bI ((anyN (fun jj => !decide ((surT cso cki cfa cfb cfc cva csn cn won (jj + 1) k ^^^ (-1)) &&& x = 0)) w) || false))), (4, .int (bI ((anyN (fun jj => !decide (surT cso cki cfa cfb cfc cva csn cn won (jj + 1) k &&& x = 0)) w) || true))), (0, .ref (q 14)), (1, .int (nI k)), (2, .long x), (6, .int (nI (2 ^ ct (opP cso cva false) cn))), (7, .int (nI w))]) hx hb dX3_surely_83 hl (by decide) rfl (fun ls hl => ?_)
        refine lv_iinc (v := nI (w + 1)) (lv' := [(7, .int (nI (w + 1))), (5, .int (bI ((anyN (fun jj => !decide ((surT cso cki cfa cfb cfc cva csn cn won (jj + 1) k ^^^ (-1)) &&& x = 0)) w) || false))), (4, .int (bI ((anyN (fun jj => !decide (surT cso cki cfa cfb cfc cva csn cn won (jj + 1) k &&& x = 0)) w) || true))), (0, .ref (q 14)), (1, .int (nI k)), (2, .long x), (6, .int (nI (2 ^ ct (opP cso cva false) cn)))]) hx hb dX3_surely_85 hl (k := 6) rfl (by exact nI_1 _) (by decide) rfl (fun ls hl => ?_)
        refine lv_goto (tgt := 21) hx hb dX3_surely_88 (by decide) ?_
        have e_10 : bI ((anyN (fun jj => !decide (surT cso cki cfa cfb cfc cva csn cn won (jj + 1) k &&& x = 0)) w) || true) = bI (anyN (fun jj => !decide (surT cso cki cfa cfb cfc cva csn cn won (jj + 1) k &&& x = 0)) (w + 1)) := by first | rfl | (exact any_s (nd_f f_47))
        have e_11 : bI ((anyN (fun jj => !decide ((surT cso cki cfa cfb cfc cva csn cn won (jj + 1) k ^^^ (-1)) &&& x = 0)) w) || false) = bI (anyN (fun jj => !decide ((surT cso cki cfa cfb cfc cva csn cn won (jj + 1) k ^^^ (-1)) &&& x = 0)) (w + 1)) := by first | rfl | (exact any_s (nd_t f_74))
        exact ih_21 (w + 1) (by first | assumption | omega) (by omega) H locs hP (fx_D hD rfl) hS ls (lv_sub (fx_hl (l' := [(7, .int (nI (w + 1))), (5, .int (bI (anyN (fun jj => !decide ((surT cso cki cfa cfb cfc cva csn cn won (jj + 1) k ^^^ (-1)) &&& x = 0)) (w + 1)))), (4, .int (bI (anyN (fun jj => !decide (surT cso cki cfa cfb cfc cva csn cn won (jj + 1) k &&& x = 0)) (w + 1)))), (0, .ref (q 14)), (1, .int (nI k)), (2, .long x), (6, .int (nI (2 ^ ct (opP cso cva false) cn)))]) (fx_hl (l' := [(7, .int (nI (w + 1))), (5, .int (bI ((anyN (fun jj => !decide ((surT cso cki cfa cfb cfc cva csn cn won (jj + 1) k ^^^ (-1)) &&& x = 0)) w) || false))), (4, .int (bI (anyN (fun jj => !decide (surT cso cki cfa cfb cfc cva csn cn won (jj + 1) k &&& x = 0)) (w + 1)))), (0, .ref (q 14)), (1, .int (nI k)), (2, .long x), (6, .int (nI (2 ^ ct (opP cso cva false) cn)))]) hl (congrArg (fun w9 : Int32 => ([(7, .int (nI (w + 1))), (5, .int (bI ((anyN (fun jj => !decide ((surT cso cki cfa cfb cfc cva csn cn won (jj + 1) k ^^^ (-1)) &&& x = 0)) w) || false))), (4, .int w9), (0, .ref (q 14)), (1, .int (nI k)), (2, .long x), (6, .int (nI (2 ^ ct (opP cso cva false) cn)))] : List (Nat × Value))) e_10)) (congrArg (fun w9 : Int32 => ([(7, .int (nI (w + 1))), (5, .int w9), (4, .int (bI (anyN (fun jj => !decide (surT cso cki cfa cfb cfc cva csn cn won (jj + 1) k &&& x = 0)) (w + 1)))), (0, .ref (q 14)), (1, .int (nI k)), (2, .long x), (6, .int (nI (2 ^ ct (opP cso cva false) cn)))] : List (Nat × Value))) e_11)) [3, 4, 5, 2, 1, 6, 0] rfl)
      have f_74 : ¬ (((evalT cso cki cfa cfb cfc cva csn false w (surT cso cki cfa cfb cfc cva csn cn won w) cn) k) ^^^ (-1)) &&& x = 0 := fun h => c_74 ((fx_cmp0 _ _).mpr h)
      refine lv_iconst (v := nI 1) hx hb dX3_surely_77 (by decide) ?_
      refine lv_goto (tgt := 82) hx hb dX3_surely_78 (by decide) ?_
      refine lv_ior hx hb dX3_surely_82 ?_
      refine fx_eqi (y := bI ((anyN (fun jj => !decide ((surT cso cki cfa cfb cfc cva csn cn won (jj + 1) k ^^^ (-1)) &&& x = 0)) w) || true)) (fx_orB (anyN (fun jj => !decide ((surT cso cki cfa cfb cfc cva csn cn won (jj + 1) k ^^^ (-1)) &&& x = 0)) w) true) ?_
      refine lv_istore (lv' := [(5, .int (bI ((anyN (fun jj => !decide ((surT cso cki cfa cfb cfc cva csn cn won (jj + 1) k ^^^ (-1)) &&& x = 0)) w) || true))), (4, .int (bI ((anyN (fun jj => !decide (surT cso cki cfa cfb cfc cva csn cn won (jj + 1) k &&& x = 0)) w) || true))), (0, .ref (q 14)), (1, .int (nI k)), (2, .long x), (6, .int (nI (2 ^ ct (opP cso cva false) cn))), (7, .int (nI w))]) hx hb dX3_surely_83 hl (by decide) rfl (fun ls hl => ?_)
      refine lv_iinc (v := nI (w + 1)) (lv' := [(7, .int (nI (w + 1))), (5, .int (bI ((anyN (fun jj => !decide ((surT cso cki cfa cfb cfc cva csn cn won (jj + 1) k ^^^ (-1)) &&& x = 0)) w) || true))), (4, .int (bI ((anyN (fun jj => !decide (surT cso cki cfa cfb cfc cva csn cn won (jj + 1) k &&& x = 0)) w) || true))), (0, .ref (q 14)), (1, .int (nI k)), (2, .long x), (6, .int (nI (2 ^ ct (opP cso cva false) cn)))]) hx hb dX3_surely_85 hl (k := 6) rfl (by exact nI_1 _) (by decide) rfl (fun ls hl => ?_)
      refine lv_goto (tgt := 21) hx hb dX3_surely_88 (by decide) ?_
      have e_12 : bI ((anyN (fun jj => !decide (surT cso cki cfa cfb cfc cva csn cn won (jj + 1) k &&& x = 0)) w) || true) = bI (anyN (fun jj => !decide (surT cso cki cfa cfb cfc cva csn cn won (jj + 1) k &&& x = 0)) (w + 1)) := by first | rfl | (exact any_s (nd_f f_47))
      have e_13 : bI ((anyN (fun jj => !decide ((surT cso cki cfa cfb cfc cva csn cn won (jj + 1) k ^^^ (-1)) &&& x = 0)) w) || true) = bI (anyN (fun jj => !decide ((surT cso cki cfa cfb cfc cva csn cn won (jj + 1) k ^^^ (-1)) &&& x = 0)) (w + 1)) := by first | rfl | (exact any_s (nd_f f_74))
      exact ih_21 (w + 1) (by first | assumption | omega) (by omega) H locs hP (fx_D hD rfl) hS ls (lv_sub (fx_hl (l' := [(7, .int (nI (w + 1))), (5, .int (bI (anyN (fun jj => !decide ((surT cso cki cfa cfb cfc cva csn cn won (jj + 1) k ^^^ (-1)) &&& x = 0)) (w + 1)))), (4, .int (bI (anyN (fun jj => !decide (surT cso cki cfa cfb cfc cva csn cn won (jj + 1) k &&& x = 0)) (w + 1)))), (0, .ref (q 14)), (1, .int (nI k)), (2, .long x), (6, .int (nI (2 ^ ct (opP cso cva false) cn)))]) (fx_hl (l' := [(7, .int (nI (w + 1))), (5, .int (bI ((anyN (fun jj => !decide ((surT cso cki cfa cfb cfc cva csn cn won (jj + 1) k ^^^ (-1)) &&& x = 0)) w) || true))), (4, .int (bI (anyN (fun jj => !decide (surT cso cki cfa cfb cfc cva csn cn won (jj + 1) k &&& x = 0)) (w + 1)))), (0, .ref (q 14)), (1, .int (nI k)), (2, .long x), (6, .int (nI (2 ^ ct (opP cso cva false) cn)))]) hl (congrArg (fun w9 : Int32 => ([(7, .int (nI (w + 1))), (5, .int (bI ((anyN (fun jj => !decide ((surT cso cki cfa cfb cfc cva csn cn won (jj + 1) k ^^^ (-1)) &&& x = 0)) w) || true))), (4, .int w9), (0, .ref (q 14)), (1, .int (nI k)), (2, .long x), (6, .int (nI (2 ^ ct (opP cso cva false) cn)))] : List (Nat × Value))) e_12)) (congrArg (fun w9 : Int32 => ([(7, .int (nI (w + 1))), (5, .int w9), (4, .int (bI (anyN (fun jj => !decide (surT cso cki cfa cfb cfc cva csn cn won (jj + 1) k &&& x = 0)) (w + 1)))), (0, .ref (q 14)), (1, .int (nI k)), (2, .long x), (6, .int (nI (2 ^ ct (opP cso cva false) cn)))] : List (Nat × Value))) e_13)) [3, 4, 5, 2, 1, 6, 0] rfl)
  have e_14 : nI (2 ^ (ct (opP cso cva false) cn)) = nI (2 ^ ct (opP cso cva false) cn) := by first | rfl | (first | rfl | (simp; done))
  exact L_21 (2 ^ ct (opP cso cva false) cn - 0 + 1) 0 (Nat.zero_le _) (Nat.lt_succ_self _) H locs hP (fx_D hD rfl) hS ls (lv_sub (fx_hl (l' := [(7, .int (nI 0)), (6, .int (nI (2 ^ ct (opP cso cva false) cn))), (5, .int (nI 0)), (4, .int (nI 0)), (0, .ref (q 14)), (1, .int (nI k)), (2, .long x)]) hl (congrArg (fun w9 : Int32 => ([(7, .int (nI 0)), (6, .int w9), (5, .int (nI 0)), (4, .int (nI 0)), (0, .ref (q 14)), (1, .int (nI k)), (2, .long x)] : List (Nat × Value))) e_14)) [4, 5, 6, 3, 2, 1, 0] rfl)
set_option maxHeartbeats 4000000 in
set_option maxRecDepth 100000 in
theorem c_X3_sureStores (l : Launch) (D : va_G) (cI cJ cZ : ClassId) (q : Nat → Nat) (xro : Int64) (xtk : Nat) (xli : Nat) (cn : Nat) (ci : Nat) (cs : Nat) (cso : Nat → Nat) (cki : Nat → Nat) (cfa : Nat → Nat) (cfb : Nat → Nat) (cfc : Nat → Nat) (cva : Nat → Nat) (csn : Nat → Nat) (csd : Nat → Nat) (csl : Nat → Nat) (csb : Nat → Nat) (csr : Nat → Nat) (csc : Nat → Nat) (won : Nat → Int64) (wle : Nat → Int64) (pte : Nat → Nat) (pho : Nat → Nat) (nwa : Nat → Int32) (nti : Nat → Int32) (x : Int64) (hcs : cs ≤ 6) : Ct l D cI cJ cZ yX3_sureStores wsX3_sureStores ({ frames := 0, cells := 0, slots := 0, locals := 0 } : Room) 0 0 [.ref (q 14), .long x] (wA q cI cJ xro xtk xli cn ci cs cso cki cfa cfb cfc cva csn csd csl csb csr csc won wle pte pho nwa nti) (S := Unit) (fun u => True) (fun u => some (.int (nI (ct (surS x) cs)))) (fun u => (wA q cI cJ xro xtk xli cn ci cs cso cki cfa cfb cfc cva csn csd csl csb csr csc won wle pte pho nwa nti)) := by
  refine Ct.ofW (cc := cX3_sureStores) (maxL := 7) (ret := (some .int)) (R_C := RX3) (by decide +kernel) rfl rfl (Nat.le_of_ble_eq_true rfl) rfl ?_
  intro p e s m args below meth c A Q ls H locs hx hb hml hown hts hK hA hP hD hS hZ hl hri hrl hrv
  refine lv_iconst (v := nI 0) hx hb dX3_sureStores_0 (by decide) ?_
  refine lv_istore_n (lv' := [(3, .int (nI 0)), (0, .ref (q 14)), (1, .long x)]) hx hb dX3_sureStores_1 rfl hl (by decide) rfl (fun ls hl => ?_)
  refine lv_iconst (v := nI 0) hx hb dX3_sureStores_2 (by decide) ?_
  refine lv_istore (lv' := [(4, .int (nI 0)), (3, .int (nI 0)), (0, .ref (q 14)), (1, .long x)]) hx hb dX3_sureStores_3 hl (by decide) rfl (fun ls hl => ?_)
  have L_5 : ∀ (fuel : Nat) (i : Nat) (hi : i ≤ cs) (hfu : cs - i < fuel) (H : Heap) (locs : List Loc), va_P D vwCl (wA q cI cJ xro xtk xli cn ci cs cso cki cfa cfb cfc cva csn csd csl csb csr csc won wle pte pho nwa nti) H → va_D A (wA q cI cJ xro xtk xli cn ci cs cso cki cfa cfb cfc cva csn csd csl csb csr csc won wle pte pho nwa nti) → va_S A s.heap H locs → ∀ ls : Array Slot, lv_has ls 7 [(0, .ref (q 14)), (1, .long x), (3, .int (nI (ct (surS x) i))), (4, .int (nI i))] → W p l e ({ frames := 0, cells := 0, slots := 0, locals := 0 } : Room) s m args below meth c H locs 0 0 Q (F0 m 5 ls []) := by
    intro fuel
    induction fuel with
    | zero => intro i hi hfu; exact absurd hfu (Nat.not_lt_zero _)
    | succ fuel ih_5 =>
      intro i hi hfu H locs hP hD hS ls hl
      refine lv_iload hx hb dX3_sureStores_5 (lv_at hl 3 rfl) ?_
      refine lv_aload_n hx hb dX3_sureStores_7 rfl (lv_at hl 0 rfl) ?_
      refine va_get (D := D) (ci := 3) (v := .ref (q 1)) (C := RX3) (T := TX3) (N := 3) hx hb hts (fun w h => List.mem_cons_of_mem _ (List.mem_append_left _ (List.mem_append_right _ h))) hown hK hP 14 rfl rfl 0 (by decide) (hts (.fieldLink RX3 18 "FirstStates$Walk" "circuit" "LFirstStates$Circuit;") (List.mem_of_getElem? (i := 1) rfl)) (fun _ h9 => h9) rfl dX3_sureStores_8 ?_
      refine va_get (D := D) (ci := 0) (v := .int (nI cs)) (C := RX0) (T := TX0) (N := 15) hx hb hts (fun w h => List.mem_cons_of_mem _ (List.mem_append_right _ h)) hown hK hP 1 rfl rfl 2 (by decide) (hts (.fieldLink RX3 78 "FirstStates$Circuit" "stores" "I") (List.mem_of_getElem? (i := 2) rfl)) (fun _ h9 => h9) rfl dX3_sureStores_11 ?_
      refine lv_icmp_ge (tgt := 50) hx hb dX3_sureStores_14 (by decide) (fun c_14 => ?_) (fun c_14 => ?_)
      · have f_14 : cs ≤ i := (nI_leI (a := cs) (b := i) (by first | omega | exact b_and1 _ | exact b_ct _ _ (by omega) | exact b_andr _ (by omega)) (by first | omega | exact b_and1 _ | exact b_ct _ _ (by omega) | exact b_andr _ (by omega))).mp c_14
        refine lv_iload_n hx hb dX3_sureStores_50 rfl (lv_at hl 2 rfl) ?_
        exact hri () _ H locs 51 ls .int rfl rfl trivial (by rw [show cs = i by omega]) hP hD hS dX3_sureStores_51
      have f_14 : ¬ cs ≤ i := fun h => c_14 ((nI_leI (a := cs) (b := i) (by first | omega | exact b_and1 _ | exact b_ct _ _ (by omega) | exact b_andr _ (by omega)) (by first | omega | exact b_and1 _ | exact b_ct _ _ (by omega) | exact b_andr _ (by omega))).mpr h)
      obtain ⟨th, hZ1, hT1⟩ := id hZ
      refine va_gets hx hb hZ1 hS hown (hts (.fieldLink RX3 60 "FirstStates$Walk" "HOLDING" "[J") (List.mem_of_getElem? (i := 3) rfl)) (fun _ h9 => h9) dX3_sureStores_17 ?_
      refine lv_iload hx hb dX3_sureStores_20 (lv_at hl 3 rfl) ?_
      refine fx_hold hx hb hT1 hS (by omega) dX3_sureStores_22 ?_
      refine lv_lload_n hx hb dX3_sureStores_23 rfl (lv_at hl 1 rfl) ?_
      refine lv_land hx hb dX3_sureStores_24 ?_
      refine lv_lstore (lv' := [(5, .long ((holdL i) &&& x)), (0, .ref (q 14)), (1, .long x), (3, .int (nI (ct (surS x) i))), (4, .int (nI i))]) hx hb dX3_sureStores_25 hl (by decide) rfl (fun ls hl => ?_)
      refine lv_lload hx hb dX3_sureStores_27 (lv_at hl 0 rfl) ?_
      refine lv_lconst (v := 0) hx hb dX3_sureStores_29 (by decide) ?_
      refine W.lcmp hx hb dX3_sureStores_30 ?_
      refine lv_if_eq (tgt := 41) hx hb dX3_sureStores_31 (by decide) (fun c_31 => ?_) (fun c_31 => ?_)
      · have f_31 : (holdL i) &&& x = 0 := (fx_cmp0 _ _).mp c_31
        refine lv_iinc (v := nI ((ct (surS x) i) + 1)) (lv' := [(3, .int (nI ((ct (surS x) i) + 1))), (5, .long ((holdL i) &&& x)), (0, .ref (q 14)), (1, .long x), (4, .int (nI i))]) hx hb dX3_sureStores_41 hl (k := 3) rfl (by exact nI_1 _) (by decide) rfl (fun ls hl => ?_)
        refine lv_iinc (v := nI (i + 1)) (lv' := [(4, .int (nI (i + 1))), (3, .int (nI ((ct (surS x) i) + 1))), (5, .long ((holdL i) &&& x)), (0, .ref (q 14)), (1, .long x)]) hx hb dX3_sureStores_44 hl (k := 4) rfl (by exact nI_1 _) (by decide) rfl (fun ls hl => ?_)
        refine lv_goto (tgt := 5) hx hb dX3_sureStores_47 (by decide) ?_
        have e_1 : nI ((ct (surS x) i) + 1) = nI (ct (surS x) (i + 1)) := by first | rfl | (simp [ct, surS, f_31])
        exact ih_5 (i + 1) (by first | assumption | omega) (by omega) H locs hP hD hS ls (lv_sub (fx_hl (l' := [(4, .int (nI (i + 1))), (3, .int (nI (ct (surS x) (i + 1)))), (5, .long ((holdL i) &&& x)), (0, .ref (q 14)), (1, .long x)]) hl (congrArg (fun w9 : Int32 => ([(4, .int (nI (i + 1))), (3, .int w9), (5, .long ((holdL i) &&& x)), (0, .ref (q 14)), (1, .long x)] : List (Nat × Value))) e_1)) [3, 4, 1, 0] rfl)
      have f_31 : ¬ (holdL i) &&& x = 0 := fun h => c_31 ((fx_cmp0 _ _).mpr h)
      refine lv_lload hx hb dX3_sureStores_34 (lv_at hl 0 rfl) ?_
      refine lv_lload_n hx hb dX3_sureStores_36 rfl (lv_at hl 2 rfl) ?_
      refine W.lcmp hx hb dX3_sureStores_37 ?_
      refine lv_if_ne (tgt := 44) hx hb dX3_sureStores_38 (by decide) (fun c_38 => ?_) (fun c_38 => ?_)
      · have f_38 : ¬ (holdL i) &&& x = x := fun h => c_38 ((fx_cmp0 _ _).mpr h)
        refine lv_iinc (v := nI (i + 1)) (lv' := [(4, .int (nI (i + 1))), (5, .long ((holdL i) &&& x)), (0, .ref (q 14)), (1, .long x), (3, .int (nI (ct (surS x) i)))]) hx hb dX3_sureStores_44 hl (k := 4) rfl (by exact nI_1 _) (by decide) rfl (fun ls hl => ?_)
        refine lv_goto (tgt := 5) hx hb dX3_sureStores_47 (by decide) ?_
        have e_2 : nI (ct (surS x) i) = nI (ct (surS x) (i + 1)) := by first | rfl | (simp [ct, surS, f_31, f_38])
        exact ih_5 (i + 1) (by first | assumption | omega) (by omega) H locs hP hD hS ls (lv_sub (fx_hl (l' := [(4, .int (nI (i + 1))), (5, .long ((holdL i) &&& x)), (0, .ref (q 14)), (1, .long x), (3, .int (nI (ct (surS x) (i + 1))))]) hl (congrArg (fun w9 : Int32 => ([(4, .int (nI (i + 1))), (5, .long ((holdL i) &&& x)), (0, .ref (q 14)), (1, .long x), (3, .int w9)] : List (Nat × Value))) e_2)) [2, 3, 4, 0] rfl)
      have f_38 : (holdL i) &&& x = x := (fx_cmp0 _ _).mp c_38
      refine lv_iinc (v := nI ((ct (surS x) i) + 1)) (lv' := [(3, .int (nI ((ct (surS x) i) + 1))), (5, .long ((holdL i) &&& x)), (0, .ref (q 14)), (1, .long x), (4, .int (nI i))]) hx hb dX3_sureStores_41 hl (k := 3) rfl (by exact nI_1 _) (by decide) rfl (fun ls hl => ?_)
      refine lv_iinc (v := nI (i + 1)) (lv' := [(4, .int (nI (i + 1))), (3, .int (nI ((ct (surS x) i) + 1))), (5, .long ((holdL i) &&& x)), (0, .ref (q 14)), (1, .long x)]) hx hb dX3_sureStores_44 hl (k := 4) rfl (by exact nI_1 _) (by decide) rfl (fun ls hl => ?_)
      refine lv_goto (tgt := 5) hx hb dX3_sureStores_47 (by decide) ?_
      have e_3 : nI ((ct (surS x) i) + 1) = nI (ct (surS x) (i + 1)) := by first | rfl | (simp [ct, surS, f_31, f_38])
      exact ih_5 (i + 1) (by first | assumption | omega) (by omega) H locs hP hD hS ls (lv_sub (fx_hl (l' := [(4, .int (nI (i + 1))), (3, .int (nI (ct (surS x) (i + 1)))), (5, .long ((holdL i) &&& x)), (0, .ref (q 14)), (1, .long x)]) hl (congrArg (fun w9 : Int32 => ([(4, .int (nI (i + 1))), (3, .int w9), (5, .long ((holdL i) &&& x)), (0, .ref (q 14)), (1, .long x)] : List (Nat × Value))) e_3)) [3, 4, 1, 0] rfl)
  have e_4 : nI 0 = nI (ct (surS x) 0) := by first | rfl | (simp [ct, surS, Nat.add_zero])
  exact L_5 (cs - 0 + 1) 0 (Nat.zero_le _) (Nat.lt_succ_self _) H locs hP hD hS ls (lv_sub (fx_hl (l' := [(4, .int (nI 0)), (3, .int (nI (ct (surS x) 0))), (0, .ref (q 14)), (1, .long x)]) hl (congrArg (fun w9 : Int32 => ([(4, .int (nI 0)), (3, .int w9), (0, .ref (q 14)), (1, .long x)] : List (Nat × Value))) e_4)) [2, 3, 1, 0] rfl)
