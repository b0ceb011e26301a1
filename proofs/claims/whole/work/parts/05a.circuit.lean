/-! Contracts of Circuit. -/
set_option maxHeartbeats 4000000 in
set_option maxRecDepth 100000 in
theorem c_X0_isFull (l : Launch) (D : va_G) (cI cJ cZ : ClassId) (q : Nat → Nat) (xro : Int64) (xtk : Nat) (xli : Nat) (cn : Nat) (ci : Nat) (cs : Nat) (cso : Nat → Nat) (cki : Nat → Nat) (cfa : Nat → Nat) (cfb : Nat → Nat) (cfc : Nat → Nat) (cva : Nat → Nat) (csn : Nat → Nat) (csd : Nat → Nat) (csl : Nat → Nat) (csb : Nat → Nat) (csr : Nat → Nat) (csc : Nat → Nat) (won : Nat → Int64) (wle : Nat → Int64) (pte : Nat → Nat) (pho : Nat → Nat) (nwa : Nat → Int32) (nti : Nat → Int32) (hcn : cn ≤ 32) : Ct l D cI cJ cZ yX0_isFull wsX0_isFull ({ frames := 0, cells := 0, slots := 0, locals := 0 } : Room) 0 0 [.ref (q 1)] (wA q cI cJ xro xtk xli cn ci cs cso cki cfa cfb cfc cva csn csd csl csb csr csc won wle pte pho nwa nti) (S := Unit) (fun u => True) (fun u => some (.int (bI (decide (32 ≤ cn))))) (fun u => (wA q cI cJ xro xtk xli cn ci cs cso cki cfa cfb cfc cva csn csd csl csb csr csc won wle pte pho nwa nti)) := by
  refine Ct.ofW (cc := cX0_isFull) (maxL := 1) (ret := (some .boolean)) (R_C := RX0) (by decide +kernel) rfl rfl (Nat.le_of_ble_eq_true rfl) rfl ?_
  intro p e s m args below meth c A Q ls H locs hx hb hml hown hts hK hA hP hD hS hZ hl hri hrl hrv
  refine lv_aload_n hx hb dX0_isFull_0 rfl (lv_at hl 0 rfl) ?_
  refine va_get (D := D) (ci := 0) (v := .int (nI cn)) (C := RX0) (T := TX0) (N := 15) hx hb hts (fun w h => List.mem_cons_of_mem _ (List.mem_append_right _ h)) hown hK hP 1 rfl rfl 0 (by decide) (hts (.fieldLink RX0 48 "FirstStates$Circuit" "nodes" "I") (List.mem_of_getElem? (i := 1) rfl)) (fun _ h9 => h9) rfl dX0_isFull_1 ?_
  refine lv_bipush (v := nI 32) hx hb dX0_isFull_4 (by decide) ?_
  refine lv_icmp_lt (tgt := 13) hx hb dX0_isFull_6 (by decide) (fun c_6 => ?_) (fun c_6 => ?_)
  · have f_6 : cn < 32 := (nI_ltI (a := cn) (b := 32) (by first | omega | exact b_and1 _ | exact b_ct _ _ (by omega) | exact b_andr _ (by omega)) (by first | omega | exact b_and1 _ | exact b_ct _ _ (by omega) | exact b_andr _ (by omega))).mp c_6
    refine lv_iconst (v := nI 0) hx hb dX0_isFull_13 (by decide) ?_
    exact hri () _ H locs 14 ls .boolean rfl rfl trivial (by exact bI_s0 (by first | exact decide_eq_false (by omega) | simp [f_6])) hP hD hS dX0_isFull_14
  have f_6 : ¬ cn < 32 := fun h => c_6 ((nI_ltI (a := cn) (b := 32) (by first | omega | exact b_and1 _ | exact b_ct _ _ (by omega) | exact b_andr _ (by omega)) (by first | omega | exact b_and1 _ | exact b_ct _ _ (by omega) | exact b_andr _ (by omega))).mpr h)
  refine lv_iconst (v := nI 1) hx hb dX0_isFull_9 (by decide) ?_
  refine lv_goto (tgt := 14) hx hb dX0_isFull_10 (by decide) ?_
  exact hri () _ H locs 14 ls .boolean rfl rfl trivial (by exact bI_s1 (by first | exact decide_eq_true (by omega) | simp [f_6])) hP hD hS dX0_isFull_14
set_option maxHeartbeats 4000000 in
set_option maxRecDepth 100000 in
theorem c_X0_isNode (l : Launch) (D : va_G) (cI cJ cZ : ClassId) (q : Nat → Nat) (xro : Int64) (xtk : Nat) (xli : Nat) (cn : Nat) (ci : Nat) (cs : Nat) (cso : Nat → Nat) (cki : Nat → Nat) (cfa : Nat → Nat) (cfb : Nat → Nat) (cfc : Nat → Nat) (cva : Nat → Nat) (csn : Nat → Nat) (csd : Nat → Nat) (csl : Nat → Nat) (csb : Nat → Nat) (csr : Nat → Nat) (csc : Nat → Nat) (won : Nat → Int64) (wle : Nat → Int64) (pte : Nat → Nat) (pho : Nat → Nat) (nwa : Nat → Int32) (nti : Nat → Int32) (x : Int32) : Ct l D cI cJ cZ yX0_isNode wsX0_isNode ({ frames := 0, cells := 0, slots := 0, locals := 0 } : Room) 0 0 [.ref (q 1), .int x] (wA q cI cJ xro xtk xli cn ci cs cso cki cfa cfb cfc cva csn csd csl csb csr csc won wle pte pho nwa nti) (S := Unit) (fun u => True) (fun u => some (.int (bI (isN cn x)))) (fun u => (wA q cI cJ xro xtk xli cn ci cs cso cki cfa cfb cfc cva csn csd csl csb csr csc won wle pte pho nwa nti)) := by
  refine Ct.ofW (cc := cX0_isNode) (maxL := 2) (ret := (some .boolean)) (R_C := RX0) (by decide +kernel) rfl rfl (Nat.le_of_ble_eq_true rfl) rfl ?_
  intro p e s m args below meth c A Q ls H locs hx hb hml hown hts hK hA hP hD hS hZ hl hri hrl hrv
  refine lv_iload_n hx hb dX0_isNode_0 rfl (lv_at hl 1 rfl) ?_
  refine lv_if_lt (tgt := 16) hx hb dX0_isNode_1 (by decide) (fun c_1 => ?_) (fun c_1 => ?_)
  · refine lv_iconst (v := nI 0) hx hb dX0_isNode_16 (by decide) ?_
    exact hri () _ H locs 17 ls .boolean rfl rfl trivial (by exact bI_s0 (by simp [isN, c_1])) hP hD hS dX0_isNode_17
  refine lv_iload_n hx hb dX0_isNode_4 rfl (lv_at hl 1 rfl) ?_
  refine lv_aload_n hx hb dX0_isNode_5 rfl (lv_at hl 0 rfl) ?_
  refine va_get (D := D) (ci := 0) (v := .int (nI cn)) (C := RX0) (T := TX0) (N := 15) hx hb hts (fun w h => List.mem_cons_of_mem _ (List.mem_append_right _ h)) hown hK hP 1 rfl rfl 0 (by decide) (hts (.fieldLink RX0 48 "FirstStates$Circuit" "nodes" "I") (List.mem_of_getElem? (i := 1) rfl)) (fun _ h9 => h9) rfl dX0_isNode_6 ?_
  refine lv_icmp_ge (tgt := 16) hx hb dX0_isNode_9 (by decide) (fun c_9 => ?_) (fun c_9 => ?_)
  · refine lv_iconst (v := nI 0) hx hb dX0_isNode_16 (by decide) ?_
    exact hri () _ H locs 17 ls .boolean rfl rfl trivial (by exact bI_s0 (by simp [isN, c_1, c_9])) hP hD hS dX0_isNode_17
  refine lv_iconst (v := nI 1) hx hb dX0_isNode_12 (by decide) ?_
  refine lv_goto (tgt := 17) hx hb dX0_isNode_13 (by decide) ?_
  exact hri () _ H locs 17 ls .boolean rfl rfl trivial (by exact bI_s1 (by simp [isN, c_1, c_9])) hP hD hS dX0_isNode_17
set_option maxHeartbeats 4000000 in
set_option maxRecDepth 100000 in
theorem c_X0_isSort (l : Launch) (D : va_G) (cI cJ cZ : ClassId) (q : Nat → Nat) (xro : Int64) (xtk : Nat) (xli : Nat) (cn : Nat) (ci : Nat) (cs : Nat) (cso : Nat → Nat) (cki : Nat → Nat) (cfa : Nat → Nat) (cfb : Nat → Nat) (cfc : Nat → Nat) (cva : Nat → Nat) (csn : Nat → Nat) (csd : Nat → Nat) (csl : Nat → Nat) (csb : Nat → Nat) (csr : Nat → Nat) (csc : Nat → Nat) (won : Nat → Int64) (wle : Nat → Int64) (pte : Nat → Nat) (pho : Nat → Nat) (nwa : Nat → Int32) (nti : Nat → Int32) (k : Nat) (sv : Nat) (hcn : cn ≤ 32) (hk : k < cn) (hso : cso k ≤ 3) (hsv : sv ≤ 3) : Ct l D cI cJ cZ yX0_isSort wsX0_isSort ({ frames := 1, cells := 0, slots := 0, locals := 21 } : Room) 0 0 [.ref (q 1), .int (nI k), .int (nI sv)] (wA q cI cJ xro xtk xli cn ci cs cso cki cfa cfb cfc cva csn csd csl csb csr csc won wle pte pho nwa nti) (S := Unit) (fun u => True) (fun u => some (.int (bI (decide (cso k = sv))))) (fun u => (wA q cI cJ xro xtk xli cn ci cs cso cki cfa cfb cfc cva csn csd csl csb csr csc won wle pte pho nwa nti)) := by
  refine Ct.ofW (cc := cX0_isSort) (maxL := 3) (ret := (some .boolean)) (R_C := RX0) (by decide +kernel) rfl rfl (Nat.le_of_ble_eq_true rfl) rfl ?_
  intro p e s m args below meth c A Q ls H locs hx hb hml hown hts hK hA hP hD hS hZ hl hri hrl hrv
  refine lv_aload_n hx hb dX0_isSort_0 rfl (lv_at hl 0 rfl) ?_
  refine lv_iload_n hx hb dX0_isSort_1 rfl (lv_at hl 1 rfl) ?_
  refine fx_callV (As := [.int (nI k)]) (rest := []) ⟨hx, hb, hml, hown, hts⟩ (c_X0_isNode l D cI cJ cZ q xro xtk xli cn ci cs cso cki cfa cfb cfc cva csn csd csl csb csr csc won wle pte pho nwa nti (nI k)) (cwV 1 hts gX0_isSort_X0_isNode rfl rfl rfl kv_X0_isNode ⟨Nat.le_of_ble_eq_true rfl, Nat.le_of_ble_eq_true rfl⟩) hK hP hD hS hA hZ 1 rfl rfl rfl rfl hl.1 rfl (lv_room (Nat.le_of_ble_eq_true rfl)) dX0_isSort_2 ⟨Nat.zero_le _, Nat.zero_le _⟩ (fun u_1 H locs hu_1 hP hD hS => ?_)
  refine lv_if_eq (tgt := 22) hx hb dX0_isSort_5 (by decide) (fun c_5 => ?_) (fun c_5 => ?_)
  · have f_5 : (isN cn (nI k)) = false := bI_0.mp c_5
    exfalso; rw [isN_nI (by omega) (by omega)] at f_5; simp [hk] at f_5
  have f_5 : (isN cn (nI k)) = true := bI_n0.mp c_5
  refine lv_aload_n hx hb dX0_isSort_8 rfl (lv_at hl 0 rfl) ?_
  refine va_get (D := D) (ci := 0) (v := .ref (q 2)) (C := RX0) (T := TX0) (N := 15) hx hb hts (fun w h => List.mem_cons_of_mem _ (List.mem_append_right _ h)) hown hK hP 1 rfl rfl 3 (by decide) (hts (.fieldLink RX0 9 "FirstStates$Circuit" "sorts" "[I") (List.mem_of_getElem? (i := 1) rfl)) (fun _ h9 => h9) rfl dX0_isSort_9 ?_
  refine lv_iload_n hx hb dX0_isSort_12 rfl (lv_at hl 1 rfl) ?_
  refine fx_iald (ar := nI) hx hb hK hP 2 (f := cso) (k := k) rfl (by omega) (by decide) dX0_isSort_13 ?_
  refine lv_iload_n hx hb dX0_isSort_14 rfl (lv_at hl 2 rfl) ?_
  refine lv_icmp_ne (tgt := 22) hx hb dX0_isSort_15 (by decide) (fun c_15 => ?_) (fun c_15 => ?_)
  · have f_15 : ¬ cso k = sv := fun h => c_15 ((nI_eq (a := cso k) (b := sv) (by first | omega | exact b_and1 _ | exact b_ct _ _ (by omega) | exact b_andr _ (by omega)) (by first | omega | exact b_and1 _ | exact b_ct _ _ (by omega) | exact b_andr _ (by omega))).mpr h)
    refine lv_iconst (v := nI 0) hx hb dX0_isSort_22 (by decide) ?_
    exact hri () _ H locs 23 ls .boolean rfl rfl trivial (by exact bI_s0 (by first | exact decide_eq_false (by omega) | simp [f_5, f_15])) hP hD hS dX0_isSort_23
  have f_15 : cso k = sv := (nI_eq (a := cso k) (b := sv) (by first | omega | exact b_and1 _ | exact b_ct _ _ (by omega) | exact b_andr _ (by omega)) (by first | omega | exact b_and1 _ | exact b_ct _ _ (by omega) | exact b_andr _ (by omega))).mp c_15
  refine lv_iconst (v := nI 1) hx hb dX0_isSort_18 (by decide) ?_
  refine lv_goto (tgt := 23) hx hb dX0_isSort_19 (by decide) ?_
  exact hri () _ H locs 23 ls .boolean rfl rfl trivial (by exact bI_s1 (by first | exact decide_eq_true (by omega) | simp [f_5, f_15])) hP hD hS dX0_isSort_23
set_option maxHeartbeats 4000000 in
set_option maxRecDepth 100000 in
theorem c_X0_rowCount (l : Launch) (D : va_G) (cI cJ cZ : ClassId) (q : Nat → Nat) (xro : Int64) (xtk : Nat) (xli : Nat) (cn : Nat) (ci : Nat) (cs : Nat) (cso : Nat → Nat) (cki : Nat → Nat) (cfa : Nat → Nat) (cfb : Nat → Nat) (cfc : Nat → Nat) (cva : Nat → Nat) (csn : Nat → Nat) (csd : Nat → Nat) (csl : Nat → Nat) (csb : Nat → Nat) (csr : Nat → Nat) (csc : Nat → Nat) (won : Nat → Int64) (wle : Nat → Int64) (pte : Nat → Nat) (pho : Nat → Nat) (nwa : Nat → Int32) (nti : Nat → Int32) (hcs : cs ≤ 6) : Ct l D cI cJ cZ yX0_rowCount wsX0_rowCount ({ frames := 0, cells := 0, slots := 0, locals := 0 } : Room) 0 0 [.ref (q 1)] (wA q cI cJ xro xtk xli cn ci cs cso cki cfa cfb cfc cva csn csd csl csb csr csc won wle pte pho nwa nti) (S := Unit) (fun u => True) (fun u => some (.int (nI (2 ^ cs)))) (fun u => (wA q cI cJ xro xtk xli cn ci cs cso cki cfa cfb cfc cva csn csd csl csb csr csc won wle pte pho nwa nti)) := by
  refine Ct.ofW (cc := cX0_rowCount) (maxL := 1) (ret := (some .int)) (R_C := RX0) (by decide +kernel) rfl rfl (Nat.le_of_ble_eq_true rfl) rfl ?_
  intro p e s m args below meth c A Q ls H locs hx hb hml hown hts hK hA hP hD hS hZ hl hri hrl hrv
  refine lv_iconst (v := nI 1) hx hb dX0_rowCount_0 (by decide) ?_
  refine lv_aload_n hx hb dX0_rowCount_1 rfl (lv_at hl 0 rfl) ?_
  refine va_get (D := D) (ci := 0) (v := .int (nI cs)) (C := RX0) (T := TX0) (N := 15) hx hb hts (fun w h => List.mem_cons_of_mem _ (List.mem_append_right _ h)) hown hK hP 1 rfl rfl 2 (by decide) (hts (.fieldLink RX0 56 "FirstStates$Circuit" "stores" "I") (List.mem_of_getElem? (i := 1) rfl)) (fun _ h9 => h9) rfl dX0_rowCount_2 ?_
  refine lv_ishl hx hb dX0_rowCount_5 ?_
  refine fx_eqi (y := nI (2 ^ cs)) (fx_shl1 (by first | omega | exact b_and1 _ | exact b_ct _ _ (by omega) | exact b_andr _ (by omega))) ?_
  exact hri () _ H locs 6 ls .int rfl rfl trivial rfl hP hD hS dX0_rowCount_6
set_option maxHeartbeats 4000000 in
set_option maxRecDepth 100000 in
theorem c_X0_addNode (l : Launch) (D : va_G) (cI cJ cZ : ClassId) (q : Nat → Nat) (xro : Int64) (xtk : Nat) (xli : Nat) (cn : Nat) (ci : Nat) (cs : Nat) (cso : Nat → Nat) (cki : Nat → Nat) (cfa : Nat → Nat) (cfb : Nat → Nat) (cfc : Nat → Nat) (cva : Nat → Nat) (csn : Nat → Nat) (csd : Nat → Nat) (csl : Nat → Nat) (csb : Nat → Nat) (csr : Nat → Nat) (csc : Nat → Nat) (won : Nat → Int64) (wle : Nat → Int64) (pte : Nat → Nat) (pho : Nat → Nat) (nwa : Nat → Int32) (nti : Nat → Int32) (sv : Nat) (hcn : cn < 32) : Ct l D cI cJ cZ yX0_addNode wsX0_addNode ({ frames := 0, cells := 0, slots := 0, locals := 0 } : Room) 0 0 [.ref (q 1), .int (nI sv)] (wA q cI cJ xro xtk xli cn ci cs cso cki cfa cfb cfc cva csn csd csl csb csr csc won wle pte pho nwa nti) (S := Unit) (fun u => True) (fun u => some (.int (nI cn))) (fun u => (wA q cI cJ xro xtk xli (cn + 1) ci cs (va_up cso cn sv) cki cfa cfb cfc cva csn csd csl csb csr csc won wle pte pho nwa nti)) := by
  refine Ct.ofW (cc := cX0_addNode) (maxL := 3) (ret := (some .int)) (R_C := RX0) (by decide +kernel) rfl rfl (Nat.le_of_ble_eq_true rfl) rfl ?_
  intro p e s m args below meth c A Q ls H locs hx hb hml hown hts hK hA hP hD hS hZ hl hri hrl hrv
  refine lv_aload_n hx hb dX0_addNode_0 rfl (lv_at hl 0 rfl) ?_
  refine va_get (D := D) (ci := 0) (v := .int (nI cn)) (C := RX0) (T := TX0) (N := 15) hx hb hts (fun w h => List.mem_cons_of_mem _ (List.mem_append_right _ h)) hown hK hP 1 rfl rfl 0 (by decide) (hts (.fieldLink RX0 48 "FirstStates$Circuit" "nodes" "I") (List.mem_of_getElem? (i := 1) rfl)) (fun _ h9 => h9) rfl dX0_addNode_1 ?_
  refine lv_istore_n (lv' := [(2, .int (nI cn)), (0, .ref (q 1)), (1, .int (nI sv))]) hx hb dX0_addNode_4 rfl hl (by decide) rfl (fun ls hl => ?_)
  refine lv_aload_n hx hb dX0_addNode_5 rfl (lv_at hl 1 rfl) ?_
  refine va_get (D := D) (ci := 0) (v := .ref (q 2)) (C := RX0) (T := TX0) (N := 15) hx hb hts (fun w h => List.mem_cons_of_mem _ (List.mem_append_right _ h)) hown hK hP 1 rfl rfl 3 (by decide) (hts (.fieldLink RX0 9 "FirstStates$Circuit" "sorts" "[I") (List.mem_of_getElem? (i := 2) rfl)) (fun _ h9 => h9) rfl dX0_addNode_6 ?_
  refine lv_iload_n hx hb dX0_addNode_9 rfl (lv_at hl 0 rfl) ?_
  refine lv_iload_n hx hb dX0_addNode_10 rfl (lv_at hl 2 rfl) ?_
  refine fx_iast (ar := nI) hx hb hK hP hD hS 2 (f := cso) (k := cn) (v := sv) rfl (by omega) (by decide) rfl dX0_addNode_11 (fun H locs hP hD hS => ?_)
  have hP : va_P D vwCl (wA q cI cJ xro xtk xli cn ci cs (va_up cso cn sv) cki cfa cfb cfc cva csn csd csl csb csr csc won wle pte pho nwa nti) H := hP
  have hD : va_D A (wA q cI cJ xro xtk xli cn ci cs (va_up cso cn sv) cki cfa cfb cfc cva csn csd csl csb csr csc won wle pte pho nwa nti) := fx_D hD rfl
  refine lv_aload_n hx hb dX0_addNode_12 rfl (lv_at hl 1 rfl) ?_
  refine lv_dup hx hb dX0_addNode_13 rfl ?_
  refine va_get (D := D) (ci := 0) (v := .int (nI cn)) (C := RX0) (T := TX0) (N := 15) hx hb hts (fun w h => List.mem_cons_of_mem _ (List.mem_append_right _ h)) hown hK hP 1 rfl rfl 0 (by decide) (hts (.fieldLink RX0 48 "FirstStates$Circuit" "nodes" "I") (List.mem_of_getElem? (i := 1) rfl)) (fun _ h9 => h9) rfl dX0_addNode_14 ?_
  refine lv_iconst (v := nI 1) hx hb dX0_addNode_17 (by decide) ?_
  refine lv_iadd hx hb dX0_addNode_18 ?_
  refine fx_eqi (nI_add _ _) ?_
  refine va_put (D := D) (ci := 0) (v := .int (nI (cn + 1))) (ty := .int) (C := RX0) (T := TX0) (N := 15) hx hb hts (fun w h => List.mem_cons_of_mem _ (List.mem_append_right _ h)) tyX0 tyX0_ok nmX0 hown hK hP hD hS 1 rfl rfl 0 (by decide) (hts (.fieldLink RX0 48 "FirstStates$Circuit" "nodes" "I") (List.mem_of_getElem? (i := 1) rfl)) (fun _ h9 => h9) rfl (by decide +kernel) rfl rfl (Nat.le_of_ble_eq_true rfl) dX0_addNode_19 (fun H locs hP hD hS => ?_)
  have hP : va_P D vwCl (wA q cI cJ xro xtk xli (cn + 1) ci cs (va_up cso cn sv) cki cfa cfb cfc cva csn csd csl csb csr csc won wle pte pho nwa nti) H := hP
  have hD : va_D A (wA q cI cJ xro xtk xli (cn + 1) ci cs (va_up cso cn sv) cki cfa cfb cfc cva csn csd csl csb csr csc won wle pte pho nwa nti) := fx_D hD rfl
  refine lv_iload_n hx hb dX0_addNode_22 rfl (lv_at hl 0 rfl) ?_
  exact hri () _ H locs 23 ls .int rfl rfl trivial rfl hP hD hS dX0_addNode_23
set_option maxHeartbeats 4000000 in
set_option maxRecDepth 100000 in
theorem c_X0_addInput (l : Launch) (D : va_G) (cI cJ cZ : ClassId) (q : Nat → Nat) (xro : Int64) (xtk : Nat) (xli : Nat) (cn : Nat) (ci : Nat) (cs : Nat) (cso : Nat → Nat) (cki : Nat → Nat) (cfa : Nat → Nat) (cfb : Nat → Nat) (cfc : Nat → Nat) (cva : Nat → Nat) (csn : Nat → Nat) (csd : Nat → Nat) (csl : Nat → Nat) (csb : Nat → Nat) (csr : Nat → Nat) (csc : Nat → Nat) (won : Nat → Int64) (wle : Nat → Int64) (pte : Nat → Nat) (pho : Nat → Nat) (nwa : Nat → Int32) (nti : Nat → Int32) (hcn : cn < 32) : Ct l D cI cJ cZ yX0_addInput wsX0_addInput ({ frames := 1, cells := 0, slots := 0, locals := 22 } : Room) 0 0 [.ref (q 1)] (wA q cI cJ xro xtk xli cn ci cs cso cki cfa cfb cfc cva csn csd csl csb csr csc won wle pte pho nwa nti) (S := Unit) (fun u => True) (fun u => some (.int (nI cn))) (fun u => (wA q cI cJ xro xtk xli (cn + 1) (ci + 1) cs (va_up cso cn 0) cki cfa cfb cfc (va_up cva cn 2) csn csd csl csb csr csc won wle pte pho nwa nti)) := by
  refine Ct.ofW (cc := cX0_addInput) (maxL := 2) (ret := (some .int)) (R_C := RX0) (by decide +kernel) rfl rfl (Nat.le_of_ble_eq_true rfl) rfl ?_
  intro p e s m args below meth c A Q ls H locs hx hb hml hown hts hK hA hP hD hS hZ hl hri hrl hrv
  refine lv_aload_n hx hb dX0_addInput_0 rfl (lv_at hl 0 rfl) ?_
  refine lv_iconst (v := nI 0) hx hb dX0_addInput_1 (by decide) ?_
  refine fx_callV (As := [.int (nI 0)]) (rest := []) ⟨hx, hb, hml, hown, hts⟩ (c_X0_addNode l D cI cJ cZ q xro xtk xli cn ci cs cso cki cfa cfb cfc cva csn csd csl csb csr csc won wle pte pho nwa nti 0 (by first | assumption | omega)) (cwV 1 hts gX0_addInput_X0_addNode rfl rfl rfl kv_X0_addNode ⟨Nat.le_of_ble_eq_true rfl, Nat.le_of_ble_eq_true rfl⟩) hK hP hD hS hA hZ 1 rfl rfl rfl rfl hl.1 rfl (lv_room (Nat.le_of_ble_eq_true rfl)) dX0_addInput_2 ⟨Nat.zero_le _, Nat.zero_le _⟩ (fun u_1 H locs hu_1 hP hD hS => ?_)
  have hP : va_P D vwCl (wA q cI cJ xro xtk xli (cn + 1) ci cs (va_up cso cn 0) cki cfa cfb cfc cva csn csd csl csb csr csc won wle pte pho nwa nti) H := hP
  have hD : va_D A (wA q cI cJ xro xtk xli (cn + 1) ci cs (va_up cso cn 0) cki cfa cfb cfc cva csn csd csl csb csr csc won wle pte pho nwa nti) := fx_D hD rfl
  refine lv_istore_n (lv' := [(1, .int (nI cn)), (0, .ref (q 1))]) hx hb dX0_addInput_5 rfl hl (by decide) rfl (fun ls hl => ?_)
  refine lv_aload_n hx hb dX0_addInput_6 rfl (lv_at hl 1 rfl) ?_
  refine va_get (D := D) (ci := 0) (v := .ref (q 7)) (C := RX0) (T := TX0) (N := 15) hx hb hts (fun w h => List.mem_cons_of_mem _ (List.mem_append_right _ h)) hown hK hP 1 rfl rfl 8 (by decide) (hts (.fieldLink RX0 27 "FirstStates$Circuit" "values" "[I") (List.mem_of_getElem? (i := 1) rfl)) (fun _ h9 => h9) rfl dX0_addInput_7 ?_
  refine lv_iload_n hx hb dX0_addInput_10 rfl (lv_at hl 0 rfl) ?_
  refine lv_iconst (v := nI 2) hx hb dX0_addInput_11 (by decide) ?_
  refine fx_iast (ar := nI) hx hb hK hP hD hS 7 (f := cva) (k := cn) (v := 2) rfl (by omega) (by decide) rfl dX0_addInput_12 (fun H locs hP hD hS => ?_)
  have hP : va_P D vwCl (wA q cI cJ xro xtk xli (cn + 1) ci cs (va_up cso cn 0) cki cfa cfb cfc (va_up cva cn 2) csn csd csl csb csr csc won wle pte pho nwa nti) H := hP
  have hD : va_D A (wA q cI cJ xro xtk xli (cn + 1) ci cs (va_up cso cn 0) cki cfa cfb cfc (va_up cva cn 2) csn csd csl csb csr csc won wle pte pho nwa nti) := fx_D hD rfl
  refine lv_aload_n hx hb dX0_addInput_13 rfl (lv_at hl 1 rfl) ?_
  refine lv_dup hx hb dX0_addInput_14 rfl ?_
  refine va_get (D := D) (ci := 0) (v := .int (nI ci)) (C := RX0) (T := TX0) (N := 15) hx hb hts (fun w h => List.mem_cons_of_mem _ (List.mem_append_right _ h)) hown hK hP 1 rfl rfl 1 (by decide) (hts (.fieldLink RX0 63 "FirstStates$Circuit" "inputs" "I") (List.mem_of_getElem? (i := 2) rfl)) (fun _ h9 => h9) rfl dX0_addInput_15 ?_
  refine lv_iconst (v := nI 1) hx hb dX0_addInput_18 (by decide) ?_
  refine lv_iadd hx hb dX0_addInput_19 ?_
  refine fx_eqi (nI_add _ _) ?_
  refine va_put (D := D) (ci := 0) (v := .int (nI (ci + 1))) (ty := .int) (C := RX0) (T := TX0) (N := 15) hx hb hts (fun w h => List.mem_cons_of_mem _ (List.mem_append_right _ h)) tyX0 tyX0_ok nmX0 hown hK hP hD hS 1 rfl rfl 1 (by decide) (hts (.fieldLink RX0 63 "FirstStates$Circuit" "inputs" "I") (List.mem_of_getElem? (i := 2) rfl)) (fun _ h9 => h9) rfl (by decide +kernel) rfl rfl (Nat.le_of_ble_eq_true rfl) dX0_addInput_20 (fun H locs hP hD hS => ?_)
  have hP : va_P D vwCl (wA q cI cJ xro xtk xli (cn + 1) (ci + 1) cs (va_up cso cn 0) cki cfa cfb cfc (va_up cva cn 2) csn csd csl csb csr csc won wle pte pho nwa nti) H := hP
  have hD : va_D A (wA q cI cJ xro xtk xli (cn + 1) (ci + 1) cs (va_up cso cn 0) cki cfa cfb cfc (va_up cva cn 2) csn csd csl csb csr csc won wle pte pho nwa nti) := fx_D hD rfl
  refine lv_iload_n hx hb dX0_addInput_23 rfl (lv_at hl 0 rfl) ?_
  exact hri () _ H locs 24 ls .int rfl rfl trivial rfl hP hD hS dX0_addInput_24
set_option maxHeartbeats 4000000 in
set_option maxRecDepth 100000 in
theorem c_X0_addFixed (l : Launch) (D : va_G) (cI cJ cZ : ClassId) (q : Nat → Nat) (xro : Int64) (xtk : Nat) (xli : Nat) (cn : Nat) (ci : Nat) (cs : Nat) (cso : Nat → Nat) (cki : Nat → Nat) (cfa : Nat → Nat) (cfb : Nat → Nat) (cfc : Nat → Nat) (cva : Nat → Nat) (csn : Nat → Nat) (csd : Nat → Nat) (csl : Nat → Nat) (csb : Nat → Nat) (csr : Nat → Nat) (csc : Nat → Nat) (won : Nat → Int64) (wle : Nat → Int64) (pte : Nat → Nat) (pho : Nat → Nat) (nwa : Nat → Int32) (nti : Nat → Int32) (v : Nat) (hcn : cn < 32) : Ct l D cI cJ cZ yX0_addFixed wsX0_addFixed ({ frames := 1, cells := 0, slots := 0, locals := 22 } : Room) 0 0 [.ref (q 1), .int (nI v)] (wA q cI cJ xro xtk xli cn ci cs cso cki cfa cfb cfc cva csn csd csl csb csr csc won wle pte pho nwa nti) (S := Unit) (fun u => True) (fun u => some (.int (nI cn))) (fun u => (wA q cI cJ xro xtk xli (cn + 1) ci cs (va_up cso cn 1) cki cfa cfb cfc (va_up cva cn v) csn csd csl csb csr csc won wle pte pho nwa nti)) := by
  refine Ct.ofW (cc := cX0_addFixed) (maxL := 3) (ret := (some .int)) (R_C := RX0) (by decide +kernel) rfl rfl (Nat.le_of_ble_eq_true rfl) rfl ?_
  intro p e s m args below meth c A Q ls H locs hx hb hml hown hts hK hA hP hD hS hZ hl hri hrl hrv
  refine lv_aload_n hx hb dX0_addFixed_0 rfl (lv_at hl 0 rfl) ?_
  refine lv_iconst (v := nI 1) hx hb dX0_addFixed_1 (by decide) ?_
  refine fx_callV (As := [.int (nI 1)]) (rest := []) ⟨hx, hb, hml, hown, hts⟩ (c_X0_addNode l D cI cJ cZ q xro xtk xli cn ci cs cso cki cfa cfb cfc cva csn csd csl csb csr csc won wle pte pho nwa nti 1 (by first | assumption | omega)) (cwV 1 hts gX0_addFixed_X0_addNode rfl rfl rfl kv_X0_addNode ⟨Nat.le_of_ble_eq_true rfl, Nat.le_of_ble_eq_true rfl⟩) hK hP hD hS hA hZ 1 rfl rfl rfl rfl hl.1 rfl (lv_room (Nat.le_of_ble_eq_true rfl)) dX0_addFixed_2 ⟨Nat.zero_le _, Nat.zero_le _⟩ (fun u_1 H locs hu_1 hP hD hS => ?_)
  have hP : va_P D vwCl (wA q cI cJ xro xtk xli (cn + 1) ci cs (va_up cso cn 1) cki cfa cfb cfc cva csn csd csl csb csr csc won wle pte pho nwa nti) H := hP
  have hD : va_D A (wA q cI cJ xro xtk xli (cn + 1) ci cs (va_up cso cn 1) cki cfa cfb cfc cva csn csd csl csb csr csc won wle pte pho nwa nti) := fx_D hD rfl
  refine lv_istore_n (lv' := [(2, .int (nI cn)), (0, .ref (q 1)), (1, .int (nI v))]) hx hb dX0_addFixed_5 rfl hl (by decide) rfl (fun ls hl => ?_)
  refine lv_aload_n hx hb dX0_addFixed_6 rfl (lv_at hl 1 rfl) ?_
  refine va_get (D := D) (ci := 0) (v := .ref (q 7)) (C := RX0) (T := TX0) (N := 15) hx hb hts (fun w h => List.mem_cons_of_mem _ (List.mem_append_right _ h)) hown hK hP 1 rfl rfl 8 (by decide) (hts (.fieldLink RX0 27 "FirstStates$Circuit" "values" "[I") (List.mem_of_getElem? (i := 1) rfl)) (fun _ h9 => h9) rfl dX0_addFixed_7 ?_
  refine lv_iload_n hx hb dX0_addFixed_10 rfl (lv_at hl 0 rfl) ?_
  refine lv_iload_n hx hb dX0_addFixed_11 rfl (lv_at hl 2 rfl) ?_
  refine fx_iast (ar := nI) hx hb hK hP hD hS 7 (f := cva) (k := cn) (v := v) rfl (by omega) (by decide) rfl dX0_addFixed_12 (fun H locs hP hD hS => ?_)
  have hP : va_P D vwCl (wA q cI cJ xro xtk xli (cn + 1) ci cs (va_up cso cn 1) cki cfa cfb cfc (va_up cva cn v) csn csd csl csb csr csc won wle pte pho nwa nti) H := hP
  have hD : va_D A (wA q cI cJ xro xtk xli (cn + 1) ci cs (va_up cso cn 1) cki cfa cfb cfc (va_up cva cn v) csn csd csl csb csr csc won wle pte pho nwa nti) := fx_D hD rfl
  refine lv_iload_n hx hb dX0_addFixed_13 rfl (lv_at hl 0 rfl) ?_
  exact hri () _ H locs 14 ls .int rfl rfl trivial rfl hP hD hS dX0_addFixed_14
set_option maxHeartbeats 4000000 in
set_option maxRecDepth 100000 in
theorem c_X0_addGate (l : Launch) (D : va_G) (cI cJ cZ : ClassId) (q : Nat → Nat) (xro : Int64) (xtk : Nat) (xli : Nat) (cn : Nat) (ci : Nat) (cs : Nat) (cso : Nat → Nat) (cki : Nat → Nat) (cfa : Nat → Nat) (cfb : Nat → Nat) (cfc : Nat → Nat) (cva : Nat → Nat) (csn : Nat → Nat) (csd : Nat → Nat) (csl : Nat → Nat) (csb : Nat → Nat) (csr : Nat → Nat) (csc : Nat → Nat) (won : Nat → Int64) (wle : Nat → Int64) (pte : Nat → Nat) (pho : Nat → Nat) (nwa : Nat → Int32) (nti : Nat → Int32) (k : Nat) (x : Nat) (y : Nat) (zz : Nat) (hcn : cn < 32) : Ct l D cI cJ cZ yX0_addGate wsX0_addGate ({ frames := 1, cells := 0, slots := 0, locals := 22 } : Room) 0 0 [.ref (q 1), .int (nI k), .int (nI x), .int (nI y), .int (nI zz)] (wA q cI cJ xro xtk xli cn ci cs cso cki cfa cfb cfc cva csn csd csl csb csr csc won wle pte pho nwa nti) (S := Unit) (fun u => True) (fun u => some (.int (nI cn))) (fun u => (wA q cI cJ xro xtk xli (cn + 1) ci cs (va_up cso cn 2) (va_up cki cn k) (va_up cfa cn x) (va_up cfb cn y) (va_up cfc cn zz) cva csn csd csl csb csr csc won wle pte pho nwa nti)) := by
  refine Ct.ofW (cc := cX0_addGate) (maxL := 6) (ret := (some .int)) (R_C := RX0) (by decide +kernel) rfl rfl (Nat.le_of_ble_eq_true rfl) rfl ?_
  intro p e s m args below meth c A Q ls H locs hx hb hml hown hts hK hA hP hD hS hZ hl hri hrl hrv
  refine lv_aload_n hx hb dX0_addGate_0 rfl (lv_at hl 0 rfl) ?_
  refine lv_iconst (v := nI 2) hx hb dX0_addGate_1 (by decide) ?_
  refine fx_callV (As := [.int (nI 2)]) (rest := []) ⟨hx, hb, hml, hown, hts⟩ (c_X0_addNode l D cI cJ cZ q xro xtk xli cn ci cs cso cki cfa cfb cfc cva csn csd csl csb csr csc won wle pte pho nwa nti 2 (by first | assumption | omega)) (cwV 1 hts gX0_addGate_X0_addNode rfl rfl rfl kv_X0_addNode ⟨Nat.le_of_ble_eq_true rfl, Nat.le_of_ble_eq_true rfl⟩) hK hP hD hS hA hZ 1 rfl rfl rfl rfl hl.1 rfl (lv_room (Nat.le_of_ble_eq_true rfl)) dX0_addGate_2 ⟨Nat.zero_le _, Nat.zero_le _⟩ (fun u_1 H locs hu_1 hP hD hS => ?_)
  have hP : va_P D vwCl (wA q cI cJ xro xtk xli (cn + 1) ci cs (va_up cso cn 2) cki cfa cfb cfc cva csn csd csl csb csr csc won wle pte pho nwa nti) H := hP
  have hD : va_D A (wA q cI cJ xro xtk xli (cn + 1) ci cs (va_up cso cn 2) cki cfa cfb cfc cva csn csd csl csb csr csc won wle pte pho nwa nti) := fx_D hD rfl
  refine lv_istore (lv' := [(5, .int (nI cn)), (0, .ref (q 1)), (1, .int (nI k)), (2, .int (nI x)), (3, .int (nI y)), (4, .int (nI zz))]) hx hb dX0_addGate_5 hl (by decide) rfl (fun ls hl => ?_)
  refine lv_aload_n hx hb dX0_addGate_7 rfl (lv_at hl 1 rfl) ?_
  refine va_get (D := D) (ci := 0) (v := .ref (q 3)) (C := RX0) (T := TX0) (N := 15) hx hb hts (fun w h => List.mem_cons_of_mem _ (List.mem_append_right _ h)) hown hK hP 1 rfl rfl 4 (by decide) (hts (.fieldLink RX0 15 "FirstStates$Circuit" "kinds" "[I") (List.mem_of_getElem? (i := 1) rfl)) (fun _ h9 => h9) rfl dX0_addGate_8 ?_
  refine lv_iload hx hb dX0_addGate_11 (lv_at hl 0 rfl) ?_
  refine lv_iload_n hx hb dX0_addGate_13 rfl (lv_at hl 2 rfl) ?_
  refine fx_iast (ar := nI) hx hb hK hP hD hS 3 (f := cki) (k := cn) (v := k) rfl (by omega) (by decide) rfl dX0_addGate_14 (fun H locs hP hD hS => ?_)
  have hP : va_P D vwCl (wA q cI cJ xro xtk xli (cn + 1) ci cs (va_up cso cn 2) (va_up cki cn k) cfa cfb cfc cva csn csd csl csb csr csc won wle pte pho nwa nti) H := hP
  have hD : va_D A (wA q cI cJ xro xtk xli (cn + 1) ci cs (va_up cso cn 2) (va_up cki cn k) cfa cfb cfc cva csn csd csl csb csr csc won wle pte pho nwa nti) := fx_D hD rfl
  refine lv_aload_n hx hb dX0_addGate_15 rfl (lv_at hl 1 rfl) ?_
  refine va_get (D := D) (ci := 0) (v := .ref (q 4)) (C := RX0) (T := TX0) (N := 15) hx hb hts (fun w h => List.mem_cons_of_mem _ (List.mem_append_right _ h)) hown hK hP 1 rfl rfl 5 (by decide) (hts (.fieldLink RX0 18 "FirstStates$Circuit" "firsts" "[I") (List.mem_of_getElem? (i := 2) rfl)) (fun _ h9 => h9) rfl dX0_addGate_16 ?_
  refine lv_iload hx hb dX0_addGate_19 (lv_at hl 0 rfl) ?_
  refine lv_iload_n hx hb dX0_addGate_21 rfl (lv_at hl 3 rfl) ?_
  refine fx_iast (ar := nI) hx hb hK hP hD hS 4 (f := cfa) (k := cn) (v := x) rfl (by omega) (by decide) rfl dX0_addGate_22 (fun H locs hP hD hS => ?_)
  have hP : va_P D vwCl (wA q cI cJ xro xtk xli (cn + 1) ci cs (va_up cso cn 2) (va_up cki cn k) (va_up cfa cn x) cfb cfc cva csn csd csl csb csr csc won wle pte pho nwa nti) H := hP
  have hD : va_D A (wA q cI cJ xro xtk xli (cn + 1) ci cs (va_up cso cn 2) (va_up cki cn k) (va_up cfa cn x) cfb cfc cva csn csd csl csb csr csc won wle pte pho nwa nti) := fx_D hD rfl
  refine lv_aload_n hx hb dX0_addGate_23 rfl (lv_at hl 1 rfl) ?_
  refine va_get (D := D) (ci := 0) (v := .ref (q 5)) (C := RX0) (T := TX0) (N := 15) hx hb hts (fun w h => List.mem_cons_of_mem _ (List.mem_append_right _ h)) hown hK hP 1 rfl rfl 6 (by decide) (hts (.fieldLink RX0 21 "FirstStates$Circuit" "seconds" "[I") (List.mem_of_getElem? (i := 3) rfl)) (fun _ h9 => h9) rfl dX0_addGate_24 ?_
  refine lv_iload hx hb dX0_addGate_27 (lv_at hl 0 rfl) ?_
  refine lv_iload_n hx hb dX0_addGate_29 rfl (lv_at hl 4 rfl) ?_
  refine fx_iast (ar := nI) hx hb hK hP hD hS 5 (f := cfb) (k := cn) (v := y) rfl (by omega) (by decide) rfl dX0_addGate_30 (fun H locs hP hD hS => ?_)
  have hP : va_P D vwCl (wA q cI cJ xro xtk xli (cn + 1) ci cs (va_up cso cn 2) (va_up cki cn k) (va_up cfa cn x) (va_up cfb cn y) cfc cva csn csd csl csb csr csc won wle pte pho nwa nti) H := hP
  have hD : va_D A (wA q cI cJ xro xtk xli (cn + 1) ci cs (va_up cso cn 2) (va_up cki cn k) (va_up cfa cn x) (va_up cfb cn y) cfc cva csn csd csl csb csr csc won wle pte pho nwa nti) := fx_D hD rfl
  refine lv_aload_n hx hb dX0_addGate_31 rfl (lv_at hl 1 rfl) ?_
  refine va_get (D := D) (ci := 0) (v := .ref (q 6)) (C := RX0) (T := TX0) (N := 15) hx hb hts (fun w h => List.mem_cons_of_mem _ (List.mem_append_right _ h)) hown hK hP 1 rfl rfl 7 (by decide) (hts (.fieldLink RX0 24 "FirstStates$Circuit" "thirds" "[I") (List.mem_of_getElem? (i := 4) rfl)) (fun _ h9 => h9) rfl dX0_addGate_32 ?_
  refine lv_iload hx hb dX0_addGate_35 (lv_at hl 0 rfl) ?_
  refine lv_iload hx hb dX0_addGate_37 (lv_at hl 5 rfl) ?_
  refine fx_iast (ar := nI) hx hb hK hP hD hS 6 (f := cfc) (k := cn) (v := zz) rfl (by omega) (by decide) rfl dX0_addGate_39 (fun H locs hP hD hS => ?_)
  have hP : va_P D vwCl (wA q cI cJ xro xtk xli (cn + 1) ci cs (va_up cso cn 2) (va_up cki cn k) (va_up cfa cn x) (va_up cfb cn y) (va_up cfc cn zz) cva csn csd csl csb csr csc won wle pte pho nwa nti) H := hP
  have hD : va_D A (wA q cI cJ xro xtk xli (cn + 1) ci cs (va_up cso cn 2) (va_up cki cn k) (va_up cfa cn x) (va_up cfb cn y) (va_up cfc cn zz) cva csn csd csl csb csr csc won wle pte pho nwa nti) := fx_D hD rfl
  refine lv_iload hx hb dX0_addGate_40 (lv_at hl 0 rfl) ?_
  exact hri () _ H locs 42 ls .int rfl rfl trivial rfl hP hD hS dX0_addGate_42
set_option maxHeartbeats 4000000 in
set_option maxRecDepth 100000 in
theorem c_X0_addStore (l : Launch) (D : va_G) (cI cJ cZ : ClassId) (q : Nat → Nat) (xro : Int64) (xtk : Nat) (xli : Nat) (cn : Nat) (ci : Nat) (cs : Nat) (cso : Nat → Nat) (cki : Nat → Nat) (cfa : Nat → Nat) (cfb : Nat → Nat) (cfc : Nat → Nat) (cva : Nat → Nat) (csn : Nat → Nat) (csd : Nat → Nat) (csl : Nat → Nat) (csb : Nat → Nat) (csr : Nat → Nat) (csc : Nat → Nat) (won : Nat → Int64) (wle : Nat → Int64) (pte : Nat → Nat) (pho : Nat → Nat) (nwa : Nat → Int32) (nti : Nat → Int32) (ln : Nat) (v : Nat) (hcn : cn < 32) (hcs : cs < 6) : Ct l D cI cJ cZ yX0_addStore wsX0_addStore ({ frames := 1, cells := 0, slots := 0, locals := 22 } : Room) 0 0 [.ref (q 1), .int (lI ln), .int (nI v)] (wA q cI cJ xro xtk xli cn ci cs cso cki cfa cfb cfc cva csn csd csl csb csr csc won wle pte pho nwa nti) (S := Unit) (fun u => True) (fun u => some (.int (nI cn))) (fun u => (wA q cI cJ xro xtk xli (cn + 1) ci (cs + 1) (va_up cso cn 3) cki cfa cfb cfc cva (va_up csn cn cs) (va_up csd cs cn) (va_up csl cs ln) (va_up csb cs v) (va_up csr cs cn) csc won wle pte pho nwa nti)) := by
  refine Ct.ofW (cc := cX0_addStore) (maxL := 4) (ret := (some .int)) (R_C := RX0) (by decide +kernel) rfl rfl (Nat.le_of_ble_eq_true rfl) rfl ?_
  intro p e s m args below meth c A Q ls H locs hx hb hml hown hts hK hA hP hD hS hZ hl hri hrl hrv
  refine lv_aload_n hx hb dX0_addStore_0 rfl (lv_at hl 0 rfl) ?_
  refine lv_iconst (v := nI 3) hx hb dX0_addStore_1 (by decide) ?_
  refine fx_callV (As := [.int (nI 3)]) (rest := []) ⟨hx, hb, hml, hown, hts⟩ (c_X0_addNode l D cI cJ cZ q xro xtk xli cn ci cs cso cki cfa cfb cfc cva csn csd csl csb csr csc won wle pte pho nwa nti 3 (by first | assumption | omega)) (cwV 1 hts gX0_addStore_X0_addNode rfl rfl rfl kv_X0_addNode ⟨Nat.le_of_ble_eq_true rfl, Nat.le_of_ble_eq_true rfl⟩) hK hP hD hS hA hZ 1 rfl rfl rfl rfl hl.1 rfl (lv_room (Nat.le_of_ble_eq_true rfl)) dX0_addStore_2 ⟨Nat.zero_le _, Nat.zero_le _⟩ (fun u_1 H locs hu_1 hP hD hS => ?_)
  have hP : va_P D vwCl (wA q cI cJ xro xtk xli (cn + 1) ci cs (va_up cso cn 3) cki cfa cfb cfc cva csn csd csl csb csr csc won wle pte pho nwa nti) H := hP
  have hD : va_D A (wA q cI cJ xro xtk xli (cn + 1) ci cs (va_up cso cn 3) cki cfa cfb cfc cva csn csd csl csb csr csc won wle pte pho nwa nti) := fx_D hD rfl
  refine lv_istore_n (lv' := [(3, .int (nI cn)), (0, .ref (q 1)), (1, .int (lI ln)), (2, .int (nI v))]) hx hb dX0_addStore_5 rfl hl (by decide) rfl (fun ls hl => ?_)
  refine lv_aload_n hx hb dX0_addStore_6 rfl (lv_at hl 1 rfl) ?_
  refine va_get (D := D) (ci := 0) (v := .ref (q 8)) (C := RX0) (T := TX0) (N := 15) hx hb hts (fun w h => List.mem_cons_of_mem _ (List.mem_append_right _ h)) hown hK hP 1 rfl rfl 9 (by decide) (hts (.fieldLink RX0 30 "FirstStates$Circuit" "storeNumbers" "[I") (List.mem_of_getElem? (i := 1) rfl)) (fun _ h9 => h9) rfl dX0_addStore_7 ?_
  refine lv_iload_n hx hb dX0_addStore_10 rfl (lv_at hl 0 rfl) ?_
  refine lv_aload_n hx hb dX0_addStore_11 rfl (lv_at hl 1 rfl) ?_
  refine va_get (D := D) (ci := 0) (v := .int (nI cs)) (C := RX0) (T := TX0) (N := 15) hx hb hts (fun w h => List.mem_cons_of_mem _ (List.mem_append_right _ h)) hown hK hP 1 rfl rfl 2 (by decide) (hts (.fieldLink RX0 56 "FirstStates$Circuit" "stores" "I") (List.mem_of_getElem? (i := 2) rfl)) (fun _ h9 => h9) rfl dX0_addStore_12 ?_
  refine fx_iast (ar := nI) hx hb hK hP hD hS 8 (f := csn) (k := cn) (v := cs) rfl (by omega) (by decide) rfl dX0_addStore_15 (fun H locs hP hD hS => ?_)
  have hP : va_P D vwCl (wA q cI cJ xro xtk xli (cn + 1) ci cs (va_up cso cn 3) cki cfa cfb cfc cva (va_up csn cn cs) csd csl csb csr csc won wle pte pho nwa nti) H := hP
  have hD : va_D A (wA q cI cJ xro xtk xli (cn + 1) ci cs (va_up cso cn 3) cki cfa cfb cfc cva (va_up csn cn cs) csd csl csb csr csc won wle pte pho nwa nti) := fx_D hD rfl
  refine lv_aload_n hx hb dX0_addStore_16 rfl (lv_at hl 1 rfl) ?_
  refine va_get (D := D) (ci := 0) (v := .ref (q 9)) (C := RX0) (T := TX0) (N := 15) hx hb hts (fun w h => List.mem_cons_of_mem _ (List.mem_append_right _ h)) hown hK hP 1 rfl rfl 10 (by decide) (hts (.fieldLink RX0 33 "FirstStates$Circuit" "storeNodes" "[I") (List.mem_of_getElem? (i := 3) rfl)) (fun _ h9 => h9) rfl dX0_addStore_17 ?_
  refine lv_aload_n hx hb dX0_addStore_20 rfl (lv_at hl 1 rfl) ?_
  refine va_get (D := D) (ci := 0) (v := .int (nI cs)) (C := RX0) (T := TX0) (N := 15) hx hb hts (fun w h => List.mem_cons_of_mem _ (List.mem_append_right _ h)) hown hK hP 1 rfl rfl 2 (by decide) (hts (.fieldLink RX0 56 "FirstStates$Circuit" "stores" "I") (List.mem_of_getElem? (i := 2) rfl)) (fun _ h9 => h9) rfl dX0_addStore_21 ?_
  refine lv_iload_n hx hb dX0_addStore_24 rfl (lv_at hl 0 rfl) ?_
  refine fx_iast (ar := nI) hx hb hK hP hD hS 9 (f := csd) (k := cs) (v := cn) rfl (by omega) (by decide) rfl dX0_addStore_25 (fun H locs hP hD hS => ?_)
  have hP : va_P D vwCl (wA q cI cJ xro xtk xli (cn + 1) ci cs (va_up cso cn 3) cki cfa cfb cfc cva (va_up csn cn cs) (va_up csd cs cn) csl csb csr csc won wle pte pho nwa nti) H := hP
  have hD : va_D A (wA q cI cJ xro xtk xli (cn + 1) ci cs (va_up cso cn 3) cki cfa cfb cfc cva (va_up csn cn cs) (va_up csd cs cn) csl csb csr csc won wle pte pho nwa nti) := fx_D hD rfl
  refine lv_aload_n hx hb dX0_addStore_26 rfl (lv_at hl 1 rfl) ?_
  refine va_get (D := D) (ci := 0) (v := .ref (q 10)) (C := RX0) (T := TX0) (N := 15) hx hb hts (fun w h => List.mem_cons_of_mem _ (List.mem_append_right _ h)) hown hK hP 1 rfl rfl 11 (by decide) (hts (.fieldLink RX0 36 "FirstStates$Circuit" "storeLines" "[I") (List.mem_of_getElem? (i := 4) rfl)) (fun _ h9 => h9) rfl dX0_addStore_27 ?_
  refine lv_aload_n hx hb dX0_addStore_30 rfl (lv_at hl 1 rfl) ?_
  refine va_get (D := D) (ci := 0) (v := .int (nI cs)) (C := RX0) (T := TX0) (N := 15) hx hb hts (fun w h => List.mem_cons_of_mem _ (List.mem_append_right _ h)) hown hK hP 1 rfl rfl 2 (by decide) (hts (.fieldLink RX0 56 "FirstStates$Circuit" "stores" "I") (List.mem_of_getElem? (i := 2) rfl)) (fun _ h9 => h9) rfl dX0_addStore_31 ?_
  refine lv_iload_n hx hb dX0_addStore_34 rfl (lv_at hl 2 rfl) ?_
  refine fx_iast (ar := lI) hx hb hK hP hD hS 10 (f := csl) (k := cs) (v := ln) rfl (by omega) (by decide) rfl dX0_addStore_35 (fun H locs hP hD hS => ?_)
  have hP : va_P D vwCl (wA q cI cJ xro xtk xli (cn + 1) ci cs (va_up cso cn 3) cki cfa cfb cfc cva (va_up csn cn cs) (va_up csd cs cn) (va_up csl cs ln) csb csr csc won wle pte pho nwa nti) H := hP
  have hD : va_D A (wA q cI cJ xro xtk xli (cn + 1) ci cs (va_up cso cn 3) cki cfa cfb cfc cva (va_up csn cn cs) (va_up csd cs cn) (va_up csl cs ln) csb csr csc won wle pte pho nwa nti) := fx_D hD rfl
  refine lv_aload_n hx hb dX0_addStore_36 rfl (lv_at hl 1 rfl) ?_
  refine va_get (D := D) (ci := 0) (v := .ref (q 11)) (C := RX0) (T := TX0) (N := 15) hx hb hts (fun w h => List.mem_cons_of_mem _ (List.mem_append_right _ h)) hown hK hP 1 rfl rfl 12 (by decide) (hts (.fieldLink RX0 39 "FirstStates$Circuit" "storeBegins" "[I") (List.mem_of_getElem? (i := 5) rfl)) (fun _ h9 => h9) rfl dX0_addStore_37 ?_
  refine lv_aload_n hx hb dX0_addStore_40 rfl (lv_at hl 1 rfl) ?_
  refine va_get (D := D) (ci := 0) (v := .int (nI cs)) (C := RX0) (T := TX0) (N := 15) hx hb hts (fun w h => List.mem_cons_of_mem _ (List.mem_append_right _ h)) hown hK hP 1 rfl rfl 2 (by decide) (hts (.fieldLink RX0 56 "FirstStates$Circuit" "stores" "I") (List.mem_of_getElem? (i := 2) rfl)) (fun _ h9 => h9) rfl dX0_addStore_41 ?_
  refine lv_iload_n hx hb dX0_addStore_44 rfl (lv_at hl 3 rfl) ?_
  refine fx_iast (ar := nI) hx hb hK hP hD hS 11 (f := csb) (k := cs) (v := v) rfl (by omega) (by decide) rfl dX0_addStore_45 (fun H locs hP hD hS => ?_)
  have hP : va_P D vwCl (wA q cI cJ xro xtk xli (cn + 1) ci cs (va_up cso cn 3) cki cfa cfb cfc cva (va_up csn cn cs) (va_up csd cs cn) (va_up csl cs ln) (va_up csb cs v) csr csc won wle pte pho nwa nti) H := hP
  have hD : va_D A (wA q cI cJ xro xtk xli (cn + 1) ci cs (va_up cso cn 3) cki cfa cfb cfc cva (va_up csn cn cs) (va_up csd cs cn) (va_up csl cs ln) (va_up csb cs v) csr csc won wle pte pho nwa nti) := fx_D hD rfl
  refine lv_aload_n hx hb dX0_addStore_46 rfl (lv_at hl 1 rfl) ?_
  refine va_get (D := D) (ci := 0) (v := .ref (q 12)) (C := RX0) (T := TX0) (N := 15) hx hb hts (fun w h => List.mem_cons_of_mem _ (List.mem_append_right _ h)) hown hK hP 1 rfl rfl 13 (by decide) (hts (.fieldLink RX0 42 "FirstStates$Circuit" "storeReads" "[I") (List.mem_of_getElem? (i := 6) rfl)) (fun _ h9 => h9) rfl dX0_addStore_47 ?_
  refine lv_aload_n hx hb dX0_addStore_50 rfl (lv_at hl 1 rfl) ?_
  refine va_get (D := D) (ci := 0) (v := .int (nI cs)) (C := RX0) (T := TX0) (N := 15) hx hb hts (fun w h => List.mem_cons_of_mem _ (List.mem_append_right _ h)) hown hK hP 1 rfl rfl 2 (by decide) (hts (.fieldLink RX0 56 "FirstStates$Circuit" "stores" "I") (List.mem_of_getElem? (i := 2) rfl)) (fun _ h9 => h9) rfl dX0_addStore_51 ?_
  refine lv_iload_n hx hb dX0_addStore_54 rfl (lv_at hl 0 rfl) ?_
  refine fx_iast (ar := nI) hx hb hK hP hD hS 12 (f := csr) (k := cs) (v := cn) rfl (by omega) (by decide) rfl dX0_addStore_55 (fun H locs hP hD hS => ?_)
  have hP : va_P D vwCl (wA q cI cJ xro xtk xli (cn + 1) ci cs (va_up cso cn 3) cki cfa cfb cfc cva (va_up csn cn cs) (va_up csd cs cn) (va_up csl cs ln) (va_up csb cs v) (va_up csr cs cn) csc won wle pte pho nwa nti) H := hP
  have hD : va_D A (wA q cI cJ xro xtk xli (cn + 1) ci cs (va_up cso cn 3) cki cfa cfb cfc cva (va_up csn cn cs) (va_up csd cs cn) (va_up csl cs ln) (va_up csb cs v) (va_up csr cs cn) csc won wle pte pho nwa nti) := fx_D hD rfl
  refine lv_aload_n hx hb dX0_addStore_56 rfl (lv_at hl 1 rfl) ?_
  refine lv_dup hx hb dX0_addStore_57 rfl ?_
  refine va_get (D := D) (ci := 0) (v := .int (nI cs)) (C := RX0) (T := TX0) (N := 15) hx hb hts (fun w h => List.mem_cons_of_mem _ (List.mem_append_right _ h)) hown hK hP 1 rfl rfl 2 (by decide) (hts (.fieldLink RX0 56 "FirstStates$Circuit" "stores" "I") (List.mem_of_getElem? (i := 2) rfl)) (fun _ h9 => h9) rfl dX0_addStore_58 ?_
  refine lv_iconst (v := nI 1) hx hb dX0_addStore_61 (by decide) ?_
  refine lv_iadd hx hb dX0_addStore_62 ?_
  refine fx_eqi (nI_add _ _) ?_
  refine va_put (D := D) (ci := 0) (v := .int (nI (cs + 1))) (ty := .int) (C := RX0) (T := TX0) (N := 15) hx hb hts (fun w h => List.mem_cons_of_mem _ (List.mem_append_right _ h)) tyX0 tyX0_ok nmX0 hown hK hP hD hS 1 rfl rfl 2 (by decide) (hts (.fieldLink RX0 56 "FirstStates$Circuit" "stores" "I") (List.mem_of_getElem? (i := 2) rfl)) (fun _ h9 => h9) rfl (by decide +kernel) rfl rfl (Nat.le_of_ble_eq_true rfl) dX0_addStore_63 (fun H locs hP hD hS => ?_)
  have hP : va_P D vwCl (wA q cI cJ xro xtk xli (cn + 1) ci (cs + 1) (va_up cso cn 3) cki cfa cfb cfc cva (va_up csn cn cs) (va_up csd cs cn) (va_up csl cs ln) (va_up csb cs v) (va_up csr cs cn) csc won wle pte pho nwa nti) H := hP
  have hD : va_D A (wA q cI cJ xro xtk xli (cn + 1) ci (cs + 1) (va_up cso cn 3) cki cfa cfb cfc cva (va_up csn cn cs) (va_up csd cs cn) (va_up csl cs ln) (va_up csb cs v) (va_up csr cs cn) csc won wle pte pho nwa nti) := fx_D hD rfl
  refine lv_iload_n hx hb dX0_addStore_66 rfl (lv_at hl 0 rfl) ?_
  exact hri () _ H locs 67 ls .int rfl rfl trivial rfl hP hD hS dX0_addStore_67
set_option maxHeartbeats 4000000 in
set_option maxRecDepth 100000 in
theorem c_X0_aboutStore (l : Launch) (D : va_G) (cI cJ cZ : ClassId) (q : Nat → Nat) (xro : Int64) (xtk : Nat) (xli : Nat) (cn : Nat) (ci : Nat) (cs : Nat) (cso : Nat → Nat) (cki : Nat → Nat) (cfa : Nat → Nat) (cfb : Nat → Nat) (cfc : Nat → Nat) (cva : Nat → Nat) (csn : Nat → Nat) (csd : Nat → Nat) (csl : Nat → Nat) (csb : Nat → Nat) (csr : Nat → Nat) (csc : Nat → Nat) (won : Nat → Int64) (wle : Nat → Int64) (pte : Nat → Nat) (pho : Nat → Nat) (nwa : Nat → Int32) (nti : Nat → Int32) (i : Nat) (wt : Nat) (hi : i < 6) (hwt : 2 ≤ wt ∧ wt ≤ 4) : Ct l D cI cJ cZ yX0_aboutStore wsX0_aboutStore ({ frames := 0, cells := 0, slots := 0, locals := 0 } : Room) 0 0 [.ref (q 1), .int (nI i), .int (nI wt)] (wA q cI cJ xro xtk xli cn ci cs cso cki cfa cfb cfc cva csn csd csl csb csr csc won wle pte pho nwa nti) (S := Unit) (fun u => True) (fun u => some (.int (if wt = 2 then lI (csl i) else if wt = 3 then nI (csb i) else nI (csr i)))) (fun u => (wA q cI cJ xro xtk xli cn ci cs cso cki cfa cfb cfc cva csn csd csl csb csr csc won wle pte pho nwa nti)) := by
  refine Ct.ofW (cc := cX0_aboutStore) (maxL := 3) (ret := (some .int)) (R_C := RX0) (by decide +kernel) rfl rfl (Nat.le_of_ble_eq_true rfl) rfl ?_
  intro p e s m args below meth c A Q ls H locs hx hb hml hown hts hK hA hP hD hS hZ hl hri hrl hrv
  refine lv_iload_n hx hb dX0_aboutStore_0 rfl (lv_at hl 2 rfl) ?_
  have h_1 : wt = 2 ∨ wt = 3 ∨ wt = 4 := by omega
  rcases h_1 with h_1 | h_1 | h_1
  · refine lv_lookup (off := 27) (tgt := 28) hx hb dX0_aboutStore_1 (by decide) (by rw [h_1]; decide) (by decide) ?_
    refine lv_aload_n hx hb dX0_aboutStore_28 rfl (lv_at hl 0 rfl) ?_
    refine va_get (D := D) (ci := 0) (v := .ref (q 10)) (C := RX0) (T := TX0) (N := 15) hx hb hts (fun w h => List.mem_cons_of_mem _ (List.mem_append_right _ h)) hown hK hP 1 rfl rfl 11 (by decide) (hts (.fieldLink RX0 36 "FirstStates$Circuit" "storeLines" "[I") (List.mem_of_getElem? (i := 1) rfl)) (fun _ h9 => h9) rfl dX0_aboutStore_29 ?_
    refine lv_iload_n hx hb dX0_aboutStore_32 rfl (lv_at hl 1 rfl) ?_
    refine fx_iald (ar := lI) hx hb hK hP 10 (f := csl) (k := i) rfl (by omega) (by decide) dX0_aboutStore_33 ?_
    exact hri () _ H locs 34 ls .int rfl rfl trivial (by simp [h_1]) hP hD hS dX0_aboutStore_34
  · refine lv_lookup (off := 34) (tgt := 35) hx hb dX0_aboutStore_1 (by decide) (by rw [h_1]; decide) (by decide) ?_
    refine lv_aload_n hx hb dX0_aboutStore_35 rfl (lv_at hl 0 rfl) ?_
    refine va_get (D := D) (ci := 0) (v := .ref (q 11)) (C := RX0) (T := TX0) (N := 15) hx hb hts (fun w h => List.mem_cons_of_mem _ (List.mem_append_right _ h)) hown hK hP 1 rfl rfl 12 (by decide) (hts (.fieldLink RX0 39 "FirstStates$Circuit" "storeBegins" "[I") (List.mem_of_getElem? (i := 2) rfl)) (fun _ h9 => h9) rfl dX0_aboutStore_36 ?_
    refine lv_iload_n hx hb dX0_aboutStore_39 rfl (lv_at hl 1 rfl) ?_
    refine fx_iald (ar := nI) hx hb hK hP 11 (f := csb) (k := i) rfl (by omega) (by decide) dX0_aboutStore_40 ?_
    exact hri () _ H locs 41 ls .int rfl rfl trivial (by simp [h_1]) hP hD hS dX0_aboutStore_41
  refine lv_lookup (off := 41) (tgt := 42) hx hb dX0_aboutStore_1 (by decide) (by rw [h_1]; decide) (by decide) ?_
  refine lv_aload_n hx hb dX0_aboutStore_42 rfl (lv_at hl 0 rfl) ?_
  refine va_get (D := D) (ci := 0) (v := .ref (q 12)) (C := RX0) (T := TX0) (N := 15) hx hb hts (fun w h => List.mem_cons_of_mem _ (List.mem_append_right _ h)) hown hK hP 1 rfl rfl 13 (by decide) (hts (.fieldLink RX0 42 "FirstStates$Circuit" "storeReads" "[I") (List.mem_of_getElem? (i := 3) rfl)) (fun _ h9 => h9) rfl dX0_aboutStore_43 ?_
  refine lv_iload_n hx hb dX0_aboutStore_46 rfl (lv_at hl 1 rfl) ?_
  refine fx_iald (ar := nI) hx hb hK hP 12 (f := csr) (k := i) rfl (by omega) (by decide) dX0_aboutStore_47 ?_
  exact hri () _ H locs 48 ls .int rfl rfl trivial (by simp [h_1]) hP hD hS dX0_aboutStore_48
set_option maxHeartbeats 4000000 in
set_option maxRecDepth 100000 in
theorem c_X0_storesOf (l : Launch) (D : va_G) (cI cJ cZ : ClassId) (q : Nat → Nat) (xro : Int64) (xtk : Nat) (xli : Nat) (cn : Nat) (ci : Nat) (cs : Nat) (cso : Nat → Nat) (cki : Nat → Nat) (cfa : Nat → Nat) (cfb : Nat → Nat) (cfc : Nat → Nat) (cva : Nat → Nat) (csn : Nat → Nat) (csd : Nat → Nat) (csl : Nat → Nat) (csb : Nat → Nat) (csr : Nat → Nat) (csc : Nat → Nat) (won : Nat → Int64) (wle : Nat → Int64) (pte : Nat → Nat) (pho : Nat → Nat) (nwa : Nat → Int32) (nti : Nat → Int32) (li : Nat) (hcs : cs ≤ 6) (hli : li < 16) (hsl : ∀ i, i < cs → csl i ≤ 4) : Ct l D cI cJ cZ yX0_storesOf wsX0_storesOf ({ frames := 0, cells := 0, slots := 0, locals := 0 } : Room) 0 0 [.ref (q 1), .int (nI li)] (wA q cI cJ xro xtk xli cn ci cs cso cki cfa cfb cfc cva csn csd csl csb csr csc won wle pte pho nwa nti) (S := Unit) (fun u => True) (fun u => some (.int (nI (bN (stP csl li) cs)))) (fun u => (wA q cI cJ xro xtk xli cn ci cs cso cki cfa cfb cfc cva csn csd csl csb csr csc won wle pte pho nwa nti)) := by
  refine Ct.ofW (cc := cX0_storesOf) (maxL := 4) (ret := (some .int)) (R_C := RX0) (by decide +kernel) rfl rfl (Nat.le_of_ble_eq_true rfl) rfl ?_
  intro p e s m args below meth c A Q ls H locs hx hb hml hown hts hK hA hP hD hS hZ hl hri hrl hrv
  refine lv_iconst (v := nI 0) hx hb dX0_storesOf_0 (by decide) ?_
  refine lv_istore_n (lv' := [(2, .int (nI 0)), (0, .ref (q 1)), (1, .int (nI li))]) hx hb dX0_storesOf_1 rfl hl (by decide) rfl (fun ls hl => ?_)
  refine lv_iconst (v := nI 0) hx hb dX0_storesOf_2 (by decide) ?_
  refine lv_istore_n (lv' := [(3, .int (nI 0)), (2, .int (nI 0)), (0, .ref (q 1)), (1, .int (nI li))]) hx hb dX0_storesOf_3 rfl hl (by decide) rfl (fun ls hl => ?_)
  have L_4 : ∀ (fuel : Nat) (i : Nat) (hi : i ≤ cs) (hfu : cs - i < fuel) (H : Heap) (locs : List Loc), va_P D vwCl (wA q cI cJ xro xtk xli cn ci cs cso cki cfa cfb cfc cva csn csd csl csb csr csc won wle pte pho nwa nti) H → va_D A (wA q cI cJ xro xtk xli cn ci cs cso cki cfa cfb cfc cva csn csd csl csb csr csc won wle pte pho nwa nti) → va_S A s.heap H locs → ∀ ls : Array Slot, lv_has ls 4 [(0, .ref (q 1)), (1, .int (nI li)), (2, .int (nI (bN (stP csl li) i))), (3, .int (nI i))] → W p l e ({ frames := 0, cells := 0, slots := 0, locals := 0 } : Room) s m args below meth c H locs 0 0 Q (F0 m 4 ls []) := by
    intro fuel
    induction fuel with
    | zero => intro i hi hfu; exact absurd hfu (Nat.not_lt_zero _)
    | succ fuel ih_4 =>
      intro i hi hfu H locs hP hD hS ls hl
      refine lv_iload_n hx hb dX0_storesOf_4 rfl (lv_at hl 3 rfl) ?_
      refine lv_aload_n hx hb dX0_storesOf_5 rfl (lv_at hl 0 rfl) ?_
      refine va_get (D := D) (ci := 0) (v := .int (nI cs)) (C := RX0) (T := TX0) (N := 15) hx hb hts (fun w h => List.mem_cons_of_mem _ (List.mem_append_right _ h)) hown hK hP 1 rfl rfl 2 (by decide) (hts (.fieldLink RX0 56 "FirstStates$Circuit" "stores" "I") (List.mem_of_getElem? (i := 1) rfl)) (fun _ h9 => h9) rfl dX0_storesOf_6 ?_
      refine lv_icmp_ge (tgt := 48) hx hb dX0_storesOf_9 (by decide) (fun c_9 => ?_) (fun c_9 => ?_)
      · have f_9 : cs ≤ i := (nI_leI (a := cs) (b := i) (by first | omega | exact b_and1 _ | exact b_ct _ _ (by omega) | exact b_andr _ (by omega)) (by first | omega | exact b_and1 _ | exact b_ct _ _ (by omega) | exact b_andr _ (by omega))).mp c_9
        have e_i : i = cs := by omega
        subst e_i
        refine lv_iload_n hx hb dX0_storesOf_48 rfl (lv_at hl 2 rfl) ?_
        exact hri () _ H locs 49 ls .int rfl rfl trivial rfl hP hD hS dX0_storesOf_49
      have f_9 : ¬ cs ≤ i := fun h => c_9 ((nI_leI (a := cs) (b := i) (by first | omega | exact b_and1 _ | exact b_ct _ _ (by omega) | exact b_andr _ (by omega)) (by first | omega | exact b_and1 _ | exact b_ct _ _ (by omega) | exact b_andr _ (by omega))).mpr h)
      have hsl1 := hsl i (by omega)
      refine lv_aload_n hx hb dX0_storesOf_12 rfl (lv_at hl 0 rfl) ?_
      refine va_get (D := D) (ci := 0) (v := .ref (q 10)) (C := RX0) (T := TX0) (N := 15) hx hb hts (fun w h => List.mem_cons_of_mem _ (List.mem_append_right _ h)) hown hK hP 1 rfl rfl 11 (by decide) (hts (.fieldLink RX0 36 "FirstStates$Circuit" "storeLines" "[I") (List.mem_of_getElem? (i := 2) rfl)) (fun _ h9 => h9) rfl dX0_storesOf_13 ?_
      refine lv_iload_n hx hb dX0_storesOf_16 rfl (lv_at hl 3 rfl) ?_
      refine fx_iald (ar := lI) hx hb hK hP 10 (f := csl) (k := i) rfl (by omega) (by decide) dX0_storesOf_17 ?_
      refine lv_bipush (v := (-9)) hx hb dX0_storesOf_18 (by decide) ?_
      refine lv_icmp_eq (tgt := 42) hx hb dX0_storesOf_20 (by decide) (fun c_20 => ?_) (fun c_20 => ?_)
      · have f_20 : (csl i) = 4 := (lI_9 (by first | omega | exact b_and1 _ | exact b_ct _ _ (by omega) | exact b_andr _ (by omega))).mp c_20
        refine lv_iinc (v := nI (i + 1)) (lv' := [(3, .int (nI (i + 1))), (0, .ref (q 1)), (1, .int (nI li)), (2, .int (nI (bN (stP csl li) i)))]) hx hb dX0_storesOf_42 hl (k := 3) rfl (by exact nI_1 _) (by decide) rfl (fun ls hl => ?_)
        refine lv_goto (tgt := 4) hx hb dX0_storesOf_45 (by decide) ?_
        have e_1 : nI (bN (stP csl li) i) = nI (bN (stP csl li) (i + 1)) := by first | rfl | (simp [bN, stP, f_20, Nat.add_zero])
        exact ih_4 (i + 1) (by first | assumption | omega) (by omega) H locs hP hD hS ls (lv_sub (fx_hl (l' := [(3, .int (nI (i + 1))), (0, .ref (q 1)), (1, .int (nI li)), (2, .int (nI (bN (stP csl li) (i + 1))))]) hl (congrArg (fun w9 : Int32 => ([(3, .int (nI (i + 1))), (0, .ref (q 1)), (1, .int (nI li)), (2, .int w9)] : List (Nat × Value))) e_1)) [1, 2, 3, 0] rfl)
      have f_20 : ¬ (csl i) = 4 := fun h => c_20 ((lI_9 (by first | omega | exact b_and1 _ | exact b_ct _ _ (by omega) | exact b_andr _ (by omega))).mpr h)
      refine lv_iload_n hx hb dX0_storesOf_23 rfl (lv_at hl 1 rfl) ?_
      refine lv_aload_n hx hb dX0_storesOf_24 rfl (lv_at hl 0 rfl) ?_
      refine va_get (D := D) (ci := 0) (v := .ref (q 10)) (C := RX0) (T := TX0) (N := 15) hx hb hts (fun w h => List.mem_cons_of_mem _ (List.mem_append_right _ h)) hown hK hP 1 rfl rfl 11 (by decide) (hts (.fieldLink RX0 36 "FirstStates$Circuit" "storeLines" "[I") (List.mem_of_getElem? (i := 2) rfl)) (fun _ h9 => h9) rfl dX0_storesOf_25 ?_
      refine lv_iload_n hx hb dX0_storesOf_28 rfl (lv_at hl 3 rfl) ?_
      refine fx_iald (ar := lI) hx hb hK hP 10 (f := csl) (k := i) rfl (by omega) (by decide) dX0_storesOf_29 ?_
      refine fx_eqi (x := lI (csl i)) (y := nI (csl i)) (lI_lt (by omega)) ?_
      refine lv_ishr hx hb dX0_storesOf_30 ?_
      refine fx_eqi (y := nI (li >>> (csl i))) (fx_shr (by first | omega | exact b_and1 _ | exact b_ct _ _ (by omega) | exact b_andr _ (by omega)) (by first | omega | exact b_and1 _ | exact b_ct _ _ (by omega) | exact b_andr _ (by omega))) ?_
      refine lv_iconst (v := nI 1) hx hb dX0_storesOf_31 (by decide) ?_
      refine lv_iand hx hb dX0_storesOf_32 ?_
      refine fx_eqi (fx_andI _ _) ?_
      refine lv_if_eq (tgt := 42) hx hb dX0_storesOf_33 (by decide) (fun c_33 => ?_) (fun c_33 => ?_)
      · have f_33 : (li >>> (csl i)) &&& 1 = 0 := (nI_eq (a := (li >>> (csl i)) &&& 1) (b := 0) (by first | omega | exact b_and1 _ | exact b_ct _ _ (by omega) | exact b_andr _ (by omega)) (by first | omega | exact b_and1 _ | exact b_ct _ _ (by omega) | exact b_andr _ (by omega))).mp c_33
        refine lv_iinc (v := nI (i + 1)) (lv' := [(3, .int (nI (i + 1))), (0, .ref (q 1)), (1, .int (nI li)), (2, .int (nI (bN (stP csl li) i)))]) hx hb dX0_storesOf_42 hl (k := 3) rfl (by exact nI_1 _) (by decide) rfl (fun ls hl => ?_)
        refine lv_goto (tgt := 4) hx hb dX0_storesOf_45 (by decide) ?_
        have e_2 : nI (bN (stP csl li) i) = nI (bN (stP csl li) (i + 1)) := by first | rfl | (simp [bN, stP, f_20, tb_0.mp f_33])
        exact ih_4 (i + 1) (by first | assumption | omega) (by omega) H locs hP hD hS ls (lv_sub (fx_hl (l' := [(3, .int (nI (i + 1))), (0, .ref (q 1)), (1, .int (nI li)), (2, .int (nI (bN (stP csl li) (i + 1))))]) hl (congrArg (fun w9 : Int32 => ([(3, .int (nI (i + 1))), (0, .ref (q 1)), (1, .int (nI li)), (2, .int w9)] : List (Nat × Value))) e_2)) [1, 2, 3, 0] rfl)
      have f_33 : ¬ (li >>> (csl i)) &&& 1 = 0 := fun h => c_33 ((nI_eq (a := (li >>> (csl i)) &&& 1) (b := 0) (by first | omega | exact b_and1 _ | exact b_ct _ _ (by omega) | exact b_andr _ (by omega)) (by first | omega | exact b_and1 _ | exact b_ct _ _ (by omega) | exact b_andr _ (by omega))).mpr h)
      refine lv_iload_n hx hb dX0_storesOf_36 rfl (lv_at hl 2 rfl) ?_
      refine lv_iconst (v := nI 1) hx hb dX0_storesOf_37 (by decide) ?_
      refine lv_iload_n hx hb dX0_storesOf_38 rfl (lv_at hl 3 rfl) ?_
      refine lv_ishl hx hb dX0_storesOf_39 ?_
      refine fx_eqi (y := nI (2 ^ i)) (fx_shl1 (by first | omega | exact b_and1 _ | exact b_ct _ _ (by omega) | exact b_andr _ (by omega))) ?_
      refine lv_ior hx hb dX0_storesOf_40 ?_
      refine fx_eqi (fx_orI _ _) ?_
      refine lv_istore_n (lv' := [(2, .int (nI ((bN (stP csl li) i) ||| (2 ^ i)))), (0, .ref (q 1)), (1, .int (nI li)), (3, .int (nI i))]) hx hb dX0_storesOf_41 rfl hl (by decide) rfl (fun ls hl => ?_)
      refine lv_iinc (v := nI (i + 1)) (lv' := [(3, .int (nI (i + 1))), (2, .int (nI ((bN (stP csl li) i) ||| (2 ^ i)))), (0, .ref (q 1)), (1, .int (nI li))]) hx hb dX0_storesOf_42 hl (k := 3) rfl (by exact nI_1 _) (by decide) rfl (fun ls hl => ?_)
      refine lv_goto (tgt := 4) hx hb dX0_storesOf_45 (by decide) ?_
      have e_3 : nI ((bN (stP csl li) i) ||| (2 ^ i)) = nI (bN (stP csl li) (i + 1)) := by first | rfl | (simp [bN, stP, f_20, tb_n0.mp f_33])
      exact ih_4 (i + 1) (by first | assumption | omega) (by omega) H locs hP hD hS ls (lv_sub (fx_hl (l' := [(3, .int (nI (i + 1))), (2, .int (nI (bN (stP csl li) (i + 1)))), (0, .ref (q 1)), (1, .int (nI li))]) hl (congrArg (fun w9 : Int32 => ([(3, .int (nI (i + 1))), (2, .int w9), (0, .ref (q 1)), (1, .int (nI li))] : List (Nat × Value))) e_3)) [2, 3, 1, 0] rfl)
  have e_4 : nI 0 = nI (bN (stP csl li) 0) := by first | rfl | (simp [bN, stP, Nat.add_zero, Nat.add_zero])
  exact L_4 (cs - 0 + 1) 0 (Nat.zero_le _) (Nat.lt_succ_self _) H locs hP hD hS ls (lv_sub (fx_hl (l' := [(3, .int (nI 0)), (2, .int (nI (bN (stP csl li) 0))), (0, .ref (q 1)), (1, .int (nI li))]) hl (congrArg (fun w9 : Int32 => ([(3, .int (nI 0)), (2, .int w9), (0, .ref (q 1)), (1, .int (nI li))] : List (Nat × Value))) e_4)) [2, 3, 1, 0] rfl)
set_option maxHeartbeats 4000000 in
set_option maxRecDepth 100000 in
theorem c_X0_beginBits (l : Launch) (D : va_G) (cI cJ cZ : ClassId) (q : Nat → Nat) (xro : Int64) (xtk : Nat) (xli : Nat) (cn : Nat) (ci : Nat) (cs : Nat) (cso : Nat → Nat) (cki : Nat → Nat) (cfa : Nat → Nat) (cfb : Nat → Nat) (cfc : Nat → Nat) (cva : Nat → Nat) (csn : Nat → Nat) (csd : Nat → Nat) (csl : Nat → Nat) (csb : Nat → Nat) (csr : Nat → Nat) (csc : Nat → Nat) (won : Nat → Int64) (wle : Nat → Int64) (pte : Nat → Nat) (pho : Nat → Nat) (nwa : Nat → Int32) (nti : Nat → Int32) (hcs : cs ≤ 6) (hsb : ∀ i, i < cs → csb i ≤ 1) : Ct l D cI cJ cZ yX0_beginBits wsX0_beginBits ({ frames := 0, cells := 0, slots := 0, locals := 0 } : Room) 0 0 [.ref (q 1)] (wA q cI cJ xro xtk xli cn ci cs cso cki cfa cfb cfc cva csn csd csl csb csr csc won wle pte pho nwa nti) (S := Unit) (fun u => True) (fun u => some (.int (nI (bN (fun jj => decide (csb jj = 1)) cs)))) (fun u => (wA q cI cJ xro xtk xli cn ci cs cso cki cfa cfb cfc cva csn csd csl csb csr csc won wle pte pho nwa nti)) := by
  refine Ct.ofW (cc := cX0_beginBits) (maxL := 3) (ret := (some .int)) (R_C := RX0) (by decide +kernel) rfl rfl (Nat.le_of_ble_eq_true rfl) rfl ?_
  intro p e s m args below meth c A Q ls H locs hx hb hml hown hts hK hA hP hD hS hZ hl hri hrl hrv
  refine lv_iconst (v := nI 0) hx hb dX0_beginBits_0 (by decide) ?_
  refine lv_istore_n (lv' := [(1, .int (nI 0)), (0, .ref (q 1))]) hx hb dX0_beginBits_1 rfl hl (by decide) rfl (fun ls hl => ?_)
  refine lv_iconst (v := nI 0) hx hb dX0_beginBits_2 (by decide) ?_
  refine lv_istore_n (lv' := [(2, .int (nI 0)), (1, .int (nI 0)), (0, .ref (q 1))]) hx hb dX0_beginBits_3 rfl hl (by decide) rfl (fun ls hl => ?_)
  have L_4 : ∀ (fuel : Nat) (i : Nat) (hi : i ≤ cs) (hfu : cs - i < fuel) (H : Heap) (locs : List Loc), va_P D vwCl (wA q cI cJ xro xtk xli cn ci cs cso cki cfa cfb cfc cva csn csd csl csb csr csc won wle pte pho nwa nti) H → va_D A (wA q cI cJ xro xtk xli cn ci cs cso cki cfa cfb cfc cva csn csd csl csb csr csc won wle pte pho nwa nti) → va_S A s.heap H locs → ∀ ls : Array Slot, lv_has ls 3 [(0, .ref (q 1)), (1, .int (nI (bN (fun jj => decide (csb jj = 1)) i))), (2, .int (nI i))] → W p l e ({ frames := 0, cells := 0, slots := 0, locals := 0 } : Room) s m args below meth c H locs 0 0 Q (F0 m 4 ls []) := by
    intro fuel
    induction fuel with
    | zero => intro i hi hfu; exact absurd hfu (Nat.not_lt_zero _)
    | succ fuel ih_4 =>
      intro i hi hfu H locs hP hD hS ls hl
      refine lv_iload_n hx hb dX0_beginBits_4 rfl (lv_at hl 2 rfl) ?_
      refine lv_aload_n hx hb dX0_beginBits_5 rfl (lv_at hl 0 rfl) ?_
      refine va_get (D := D) (ci := 0) (v := .int (nI cs)) (C := RX0) (T := TX0) (N := 15) hx hb hts (fun w h => List.mem_cons_of_mem _ (List.mem_append_right _ h)) hown hK hP 1 rfl rfl 2 (by decide) (hts (.fieldLink RX0 56 "FirstStates$Circuit" "stores" "I") (List.mem_of_getElem? (i := 1) rfl)) (fun _ h9 => h9) rfl dX0_beginBits_6 ?_
      refine lv_icmp_ge (tgt := 29) hx hb dX0_beginBits_9 (by decide) (fun c_9 => ?_) (fun c_9 => ?_)
      · have f_9 : cs ≤ i := (nI_leI (a := cs) (b := i) (by first | omega | exact b_and1 _ | exact b_ct _ _ (by omega) | exact b_andr _ (by omega)) (by first | omega | exact b_and1 _ | exact b_ct _ _ (by omega) | exact b_andr _ (by omega))).mp c_9
        have e_i : i = cs := by omega
        subst e_i
        refine lv_iload_n hx hb dX0_beginBits_29 rfl (lv_at hl 1 rfl) ?_
        exact hri () _ H locs 30 ls .int rfl rfl trivial rfl hP hD hS dX0_beginBits_30
      have f_9 : ¬ cs ≤ i := fun h => c_9 ((nI_leI (a := cs) (b := i) (by first | omega | exact b_and1 _ | exact b_ct _ _ (by omega) | exact b_andr _ (by omega)) (by first | omega | exact b_and1 _ | exact b_ct _ _ (by omega) | exact b_andr _ (by omega))).mpr h)
      have hsb1 := hsb i (by omega)
      refine lv_iload_n hx hb dX0_beginBits_12 rfl (lv_at hl 1 rfl) ?_
      refine lv_aload_n hx hb dX0_beginBits_13 rfl (lv_at hl 0 rfl) ?_
      refine va_get (D := D) (ci := 0) (v := .ref (q 11)) (C := RX0) (T := TX0) (N := 15) hx hb hts (fun w h => List.mem_cons_of_mem _ (List.mem_append_right _ h)) hown hK hP 1 rfl rfl 12 (by decide) (hts (.fieldLink RX0 39 "FirstStates$Circuit" "storeBegins" "[I") (List.mem_of_getElem? (i := 2) rfl)) (fun _ h9 => h9) rfl dX0_beginBits_14 ?_
      refine lv_iload_n hx hb dX0_beginBits_17 rfl (lv_at hl 2 rfl) ?_
      refine fx_iald (ar := nI) hx hb hK hP 11 (f := csb) (k := i) rfl (by omega) (by decide) dX0_beginBits_18 ?_
      refine lv_iload_n hx hb dX0_beginBits_19 rfl (lv_at hl 2 rfl) ?_
      refine lv_ishl hx hb dX0_beginBits_20 ?_
      refine fx_eqi (y := nI ((csb i) <<< i)) (fx_shl (by first | omega | exact b_and1 _ | exact b_ct _ _ (by omega) | exact b_andr _ (by omega))) ?_
      refine lv_ior hx hb dX0_beginBits_21 ?_
      refine fx_eqi (fx_orI _ _) ?_
      refine lv_istore_n (lv' := [(1, .int (nI ((bN (fun jj => decide (csb jj = 1)) i) ||| ((csb i) <<< i)))), (0, .ref (q 1)), (2, .int (nI i))]) hx hb dX0_beginBits_22 rfl hl (by decide) rfl (fun ls hl => ?_)
      refine lv_iinc (v := nI (i + 1)) (lv' := [(2, .int (nI (i + 1))), (1, .int (nI ((bN (fun jj => decide (csb jj = 1)) i) ||| ((csb i) <<< i)))), (0, .ref (q 1))]) hx hb dX0_beginBits_23 hl (k := 2) rfl (by exact nI_1 _) (by decide) rfl (fun ls hl => ?_)
      refine lv_goto (tgt := 4) hx hb dX0_beginBits_26 (by decide) ?_
      have e_1 : nI ((bN (fun jj => decide (csb jj = 1)) i) ||| ((csb i) <<< i)) = nI (bN (fun jj => decide (csb jj = 1)) (i + 1)) := by first | rfl | (rcases (show csb i = 0 ∨ csb i = 1 by omega) with h | h <;> simp [bN, h, Nat.one_shiftLeft])
      exact ih_4 (i + 1) (by first | assumption | omega) (by omega) H locs hP hD hS ls (lv_sub (fx_hl (l' := [(2, .int (nI (i + 1))), (1, .int (nI (bN (fun jj => decide (csb jj = 1)) (i + 1)))), (0, .ref (q 1))]) hl (congrArg (fun w9 : Int32 => ([(2, .int (nI (i + 1))), (1, .int w9), (0, .ref (q 1))] : List (Nat × Value))) e_1)) [2, 1, 0] rfl)
  have e_2 : nI 0 = nI (bN (fun jj => decide (csb jj = 1)) 0) := by first | rfl | (rcases (show csb i = 0 ∨ csb i = 1 by omega) with h | h <;> simp [bN, h, Nat.one_shiftLeft])
  exact L_4 (cs - 0 + 1) 0 (Nat.zero_le _) (Nat.lt_succ_self _) H locs hP hD hS ls (lv_sub (fx_hl (l' := [(2, .int (nI 0)), (1, .int (nI (bN (fun jj => decide (csb jj = 1)) 0))), (0, .ref (q 1))]) hl (congrArg (fun w9 : Int32 => ([(2, .int (nI 0)), (1, .int w9), (0, .ref (q 1))] : List (Nat × Value))) e_2)) [2, 1, 0] rfl)
set_option maxHeartbeats 4000000 in
set_option maxRecDepth 100000 in
theorem c_X0_openInputs (l : Launch) (D : va_G) (cI cJ cZ : ClassId) (q : Nat → Nat) (xro : Int64) (xtk : Nat) (xli : Nat) (cn : Nat) (ci : Nat) (cs : Nat) (cso : Nat → Nat) (cki : Nat → Nat) (cfa : Nat → Nat) (cfb : Nat → Nat) (cfc : Nat → Nat) (cva : Nat → Nat) (csn : Nat → Nat) (csd : Nat → Nat) (csl : Nat → Nat) (csb : Nat → Nat) (csr : Nat → Nat) (csc : Nat → Nat) (won : Nat → Int64) (wle : Nat → Int64) (pte : Nat → Nat) (pho : Nat → Nat) (nwa : Nat → Int32) (nti : Nat → Int32) (ao : Bool) (hcn : cn ≤ 32) (hso : ∀ j, j < cn → cso j ≤ 3 ∧ cva j ≤ 2) : Ct l D cI cJ cZ yX0_openInputs wsX0_openInputs ({ frames := 0, cells := 0, slots := 0, locals := 0 } : Room) 0 0 [.ref (q 1), .int (bI ao)] (wA q cI cJ xro xtk xli cn ci cs cso cki cfa cfb cfc cva csn csd csl csb csr csc won wle pte pho nwa nti) (S := Unit) (fun u => True) (fun u => some (.int (nI (ct (opP cso cva ao) cn)))) (fun u => (wA q cI cJ xro xtk xli cn ci cs cso cki cfa cfb cfc cva csn csd csl csb csr csc won wle pte pho nwa nti)) := by
  refine Ct.ofW (cc := cX0_openInputs) (maxL := 4) (ret := (some .int)) (R_C := RX0) (by decide +kernel) rfl rfl (Nat.le_of_ble_eq_true rfl) rfl ?_
  intro p e s m args below meth c A Q ls H locs hx hb hml hown hts hK hA hP hD hS hZ hl hri hrl hrv
  refine lv_iconst (v := nI 0) hx hb dX0_openInputs_0 (by decide) ?_
  refine lv_istore_n (lv' := [(2, .int (nI 0)), (0, .ref (q 1)), (1, .int (bI ao))]) hx hb dX0_openInputs_1 rfl hl (by decide) rfl (fun ls hl => ?_)
  refine lv_iconst (v := nI 0) hx hb dX0_openInputs_2 (by decide) ?_
  refine lv_istore_n (lv' := [(3, .int (nI 0)), (2, .int (nI 0)), (0, .ref (q 1)), (1, .int (bI ao))]) hx hb dX0_openInputs_3 rfl hl (by decide) rfl (fun ls hl => ?_)
  have L_4 : ∀ (fuel : Nat) (i : Nat) (hi : i ≤ cn) (hfu : cn - i < fuel) (H : Heap) (locs : List Loc), va_P D vwCl (wA q cI cJ xro xtk xli cn ci cs cso cki cfa cfb cfc cva csn csd csl csb csr csc won wle pte pho nwa nti) H → va_D A (wA q cI cJ xro xtk xli cn ci cs cso cki cfa cfb cfc cva csn csd csl csb csr csc won wle pte pho nwa nti) → va_S A s.heap H locs → ∀ ls : Array Slot, lv_has ls 4 [(0, .ref (q 1)), (1, .int (bI ao)), (2, .int (nI (ct (opP cso cva ao) i))), (3, .int (nI i))] → W p l e ({ frames := 0, cells := 0, slots := 0, locals := 0 } : Room) s m args below meth c H locs 0 0 Q (F0 m 4 ls []) := by
    intro fuel
    induction fuel with
    | zero => intro i hi hfu; exact absurd hfu (Nat.not_lt_zero _)
    | succ fuel ih_4 =>
      intro i hi hfu H locs hP hD hS ls hl
      refine lv_iload_n hx hb dX0_openInputs_4 rfl (lv_at hl 3 rfl) ?_
      refine lv_aload_n hx hb dX0_openInputs_5 rfl (lv_at hl 0 rfl) ?_
      refine va_get (D := D) (ci := 0) (v := .int (nI cn)) (C := RX0) (T := TX0) (N := 15) hx hb hts (fun w h => List.mem_cons_of_mem _ (List.mem_append_right _ h)) hown hK hP 1 rfl rfl 0 (by decide) (hts (.fieldLink RX0 48 "FirstStates$Circuit" "nodes" "I") (List.mem_of_getElem? (i := 1) rfl)) (fun _ h9 => h9) rfl dX0_openInputs_6 ?_
      refine lv_icmp_ge (tgt := 44) hx hb dX0_openInputs_9 (by decide) (fun c_9 => ?_) (fun c_9 => ?_)
      · have f_9 : cn ≤ i := (nI_leI (a := cn) (b := i) (by first | omega | exact b_and1 _ | exact b_ct _ _ (by omega) | exact b_andr _ (by omega)) (by first | omega | exact b_and1 _ | exact b_ct _ _ (by omega) | exact b_andr _ (by omega))).mp c_9
        have e_i : i = cn := by omega
        subst e_i
        refine lv_iload_n hx hb dX0_openInputs_44 rfl (lv_at hl 2 rfl) ?_
        exact hri () _ H locs 45 ls .int rfl rfl trivial rfl hP hD hS dX0_openInputs_45
      have f_9 : ¬ cn ≤ i := fun h => c_9 ((nI_leI (a := cn) (b := i) (by first | omega | exact b_and1 _ | exact b_ct _ _ (by omega) | exact b_andr _ (by omega)) (by first | omega | exact b_and1 _ | exact b_ct _ _ (by omega) | exact b_andr _ (by omega))).mpr h)
      have hso1 := hso i (by omega)
      refine lv_aload_n hx hb dX0_openInputs_12 rfl (lv_at hl 0 rfl) ?_
      refine va_get (D := D) (ci := 0) (v := .ref (q 2)) (C := RX0) (T := TX0) (N := 15) hx hb hts (fun w h => List.mem_cons_of_mem _ (List.mem_append_right _ h)) hown hK hP 1 rfl rfl 3 (by decide) (hts (.fieldLink RX0 9 "FirstStates$Circuit" "sorts" "[I") (List.mem_of_getElem? (i := 2) rfl)) (fun _ h9 => h9) rfl dX0_openInputs_13 ?_
      refine lv_iload_n hx hb dX0_openInputs_16 rfl (lv_at hl 3 rfl) ?_
      refine fx_iald (ar := nI) hx hb hK hP 2 (f := cso) (k := i) rfl (by omega) (by decide) dX0_openInputs_17 ?_
      refine lv_if_ne (tgt := 38) hx hb dX0_openInputs_18 (by decide) (fun c_18 => ?_) (fun c_18 => ?_)
      · have f_18 : ¬ cso i = 0 := fun h => c_18 ((nI_eq (a := cso i) (b := 0) (by first | omega | exact b_and1 _ | exact b_ct _ _ (by omega) | exact b_andr _ (by omega)) (by first | omega | exact b_and1 _ | exact b_ct _ _ (by omega) | exact b_andr _ (by omega))).mpr h)
        refine lv_iinc (v := nI (i + 1)) (lv' := [(3, .int (nI (i + 1))), (0, .ref (q 1)), (1, .int (bI ao)), (2, .int (nI (ct (opP cso cva ao) i)))]) hx hb dX0_openInputs_38 hl (k := 3) rfl (by exact nI_1 _) (by decide) rfl (fun ls hl => ?_)
        refine lv_goto (tgt := 4) hx hb dX0_openInputs_41 (by decide) ?_
        have e_1 : nI (ct (opP cso cva ao) i) = nI (ct (opP cso cva ao) (i + 1)) := by first | rfl | (simp [ct, opP, f_9, f_18])
        exact ih_4 (i + 1) (by first | assumption | omega) (by omega) H locs hP hD hS ls (lv_sub (fx_hl (l' := [(3, .int (nI (i + 1))), (0, .ref (q 1)), (1, .int (bI ao)), (2, .int (nI (ct (opP cso cva ao) (i + 1))))]) hl (congrArg (fun w9 : Int32 => ([(3, .int (nI (i + 1))), (0, .ref (q 1)), (1, .int (bI ao)), (2, .int w9)] : List (Nat × Value))) e_1)) [1, 2, 3, 0] rfl)
      have f_18 : cso i = 0 := (nI_eq (a := cso i) (b := 0) (by first | omega | exact b_and1 _ | exact b_ct _ _ (by omega) | exact b_andr _ (by omega)) (by first | omega | exact b_and1 _ | exact b_ct _ _ (by omega) | exact b_andr _ (by omega))).mp c_18
      refine lv_iload_n hx hb dX0_openInputs_21 rfl (lv_at hl 1 rfl) ?_
      refine lv_if_ne (tgt := 35) hx hb dX0_openInputs_22 (by decide) (fun c_22 => ?_) (fun c_22 => ?_)
      · have f_22 : ao = true := bI_n0.mp c_22
        refine lv_iinc (v := nI ((ct (opP cso cva ao) i) + 1)) (lv' := [(2, .int (nI ((ct (opP cso cva ao) i) + 1))), (0, .ref (q 1)), (1, .int (bI ao)), (3, .int (nI i))]) hx hb dX0_openInputs_35 hl (k := 2) rfl (by exact nI_1 _) (by decide) rfl (fun ls hl => ?_)
        refine lv_iinc (v := nI (i + 1)) (lv' := [(3, .int (nI (i + 1))), (2, .int (nI ((ct (opP cso cva ao) i) + 1))), (0, .ref (q 1)), (1, .int (bI ao))]) hx hb dX0_openInputs_38 hl (k := 3) rfl (by exact nI_1 _) (by decide) rfl (fun ls hl => ?_)
        refine lv_goto (tgt := 4) hx hb dX0_openInputs_41 (by decide) ?_
        have e_2 : nI ((ct (opP cso cva ao) i) + 1) = nI (ct (opP cso cva ao) (i + 1)) := by first | rfl | (simp [ct, opP, f_9, f_18, f_22])
        exact ih_4 (i + 1) (by first | assumption | omega) (by omega) H locs hP hD hS ls (lv_sub (fx_hl (l' := [(3, .int (nI (i + 1))), (2, .int (nI (ct (opP cso cva ao) (i + 1)))), (0, .ref (q 1)), (1, .int (bI ao))]) hl (congrArg (fun w9 : Int32 => ([(3, .int (nI (i + 1))), (2, .int w9), (0, .ref (q 1)), (1, .int (bI ao))] : List (Nat × Value))) e_2)) [2, 3, 1, 0] rfl)
      have f_22 : ao = false := bI_0.mp c_22
      refine lv_aload_n hx hb dX0_openInputs_25 rfl (lv_at hl 0 rfl) ?_
      refine va_get (D := D) (ci := 0) (v := .ref (q 7)) (C := RX0) (T := TX0) (N := 15) hx hb hts (fun w h => List.mem_cons_of_mem _ (List.mem_append_right _ h)) hown hK hP 1 rfl rfl 8 (by decide) (hts (.fieldLink RX0 27 "FirstStates$Circuit" "values" "[I") (List.mem_of_getElem? (i := 3) rfl)) (fun _ h9 => h9) rfl dX0_openInputs_26 ?_
      refine lv_iload_n hx hb dX0_openInputs_29 rfl (lv_at hl 3 rfl) ?_
      refine fx_iald (ar := nI) hx hb hK hP 7 (f := cva) (k := i) rfl (by omega) (by decide) dX0_openInputs_30 ?_
      refine lv_iconst (v := nI 2) hx hb dX0_openInputs_31 (by decide) ?_
      refine lv_icmp_ne (tgt := 38) hx hb dX0_openInputs_32 (by decide) (fun c_32 => ?_) (fun c_32 => ?_)
      · have f_32 : ¬ cva i = 2 := fun h => c_32 ((nI_eq (a := cva i) (b := 2) (by first | omega | exact b_and1 _ | exact b_ct _ _ (by omega) | exact b_andr _ (by omega)) (by first | omega | exact b_and1 _ | exact b_ct _ _ (by omega) | exact b_andr _ (by omega))).mpr h)
        refine lv_iinc (v := nI (i + 1)) (lv' := [(3, .int (nI (i + 1))), (0, .ref (q 1)), (1, .int (bI ao)), (2, .int (nI (ct (opP cso cva ao) i)))]) hx hb dX0_openInputs_38 hl (k := 3) rfl (by exact nI_1 _) (by decide) rfl (fun ls hl => ?_)
        refine lv_goto (tgt := 4) hx hb dX0_openInputs_41 (by decide) ?_
        have e_3 : nI (ct (opP cso cva ao) i) = nI (ct (opP cso cva ao) (i + 1)) := by first | rfl | (simp [ct, opP, f_9, f_18, f_22, f_32])
        exact ih_4 (i + 1) (by first | assumption | omega) (by omega) H locs hP hD hS ls (lv_sub (fx_hl (l' := [(3, .int (nI (i + 1))), (0, .ref (q 1)), (1, .int (bI ao)), (2, .int (nI (ct (opP cso cva ao) (i + 1))))]) hl (congrArg (fun w9 : Int32 => ([(3, .int (nI (i + 1))), (0, .ref (q 1)), (1, .int (bI ao)), (2, .int w9)] : List (Nat × Value))) e_3)) [1, 2, 3, 0] rfl)
      have f_32 : cva i = 2 := (nI_eq (a := cva i) (b := 2) (by first | omega | exact b_and1 _ | exact b_ct _ _ (by omega) | exact b_andr _ (by omega)) (by first | omega | exact b_and1 _ | exact b_ct _ _ (by omega) | exact b_andr _ (by omega))).mp c_32
      refine lv_iinc (v := nI ((ct (opP cso cva ao) i) + 1)) (lv' := [(2, .int (nI ((ct (opP cso cva ao) i) + 1))), (0, .ref (q 1)), (1, .int (bI ao)), (3, .int (nI i))]) hx hb dX0_openInputs_35 hl (k := 2) rfl (by exact nI_1 _) (by decide) rfl (fun ls hl => ?_)
      refine lv_iinc (v := nI (i + 1)) (lv' := [(3, .int (nI (i + 1))), (2, .int (nI ((ct (opP cso cva ao) i) + 1))), (0, .ref (q 1)), (1, .int (bI ao))]) hx hb dX0_openInputs_38 hl (k := 3) rfl (by exact nI_1 _) (by decide) rfl (fun ls hl => ?_)
      refine lv_goto (tgt := 4) hx hb dX0_openInputs_41 (by decide) ?_
      have e_4 : nI ((ct (opP cso cva ao) i) + 1) = nI (ct (opP cso cva ao) (i + 1)) := by first | rfl | (simp [ct, opP, f_9, f_18, f_22, f_32])
      exact ih_4 (i + 1) (by first | assumption | omega) (by omega) H locs hP hD hS ls (lv_sub (fx_hl (l' := [(3, .int (nI (i + 1))), (2, .int (nI (ct (opP cso cva ao) (i + 1)))), (0, .ref (q 1)), (1, .int (bI ao))]) hl (congrArg (fun w9 : Int32 => ([(3, .int (nI (i + 1))), (2, .int w9), (0, .ref (q 1)), (1, .int (bI ao))] : List (Nat × Value))) e_4)) [2, 3, 1, 0] rfl)
  have e_5 : nI 0 = nI (ct (opP cso cva ao) 0) := by first | rfl | (simp [ct, opP, Nat.add_zero])
  exact L_4 (cn - 0 + 1) 0 (Nat.zero_le _) (Nat.lt_succ_self _) H locs hP hD hS ls (lv_sub (fx_hl (l' := [(3, .int (nI 0)), (2, .int (nI (ct (opP cso cva ao) 0))), (0, .ref (q 1)), (1, .int (bI ao))]) hl (congrArg (fun w9 : Int32 => ([(3, .int (nI 0)), (2, .int w9), (0, .ref (q 1)), (1, .int (bI ao))] : List (Nat × Value))) e_5)) [2, 3, 1, 0] rfl)
set_option maxHeartbeats 4000000 in
set_option maxRecDepth 100000 in
theorem c_X0_traceSources (l : Launch) (D : va_G) (cI cJ cZ : ClassId) (q : Nat → Nat) (xro : Int64) (xtk : Nat) (xli : Nat) (cn : Nat) (ci : Nat) (cs : Nat) (cso : Nat → Nat) (cki : Nat → Nat) (cfa : Nat → Nat) (cfb : Nat → Nat) (cfc : Nat → Nat) (cva : Nat → Nat) (csn : Nat → Nat) (csd : Nat → Nat) (csl : Nat → Nat) (csb : Nat → Nat) (csr : Nat → Nat) (csc : Nat → Nat) (won : Nat → Int64) (wle : Nat → Int64) (pte : Nat → Nat) (pho : Nat → Nat) (nwa : Nat → Int32) (nti : Nat → Int32) (hcn : cn ≤ 32) (hso : ∀ j, j < cn → cso j ≤ 3) (hg : ∀ j, j < cn → cso j = 2 → cfa j < j ∧ cfb j < j ∧ cfc j < j) (hs : ∀ j, j < cn → cso j = 3 → csn j < 6) : Ct l D cI cJ cZ yX0_traceSources wsX0_traceSources ({ frames := 0, cells := 0, slots := 0, locals := 0 } : Room) 0 0 [.ref (q 1)] (wA q cI cJ xro xtk xli cn ci cs cso cki cfa cfb cfc cva csn csd csl csb csr csc won wle pte pho nwa nti) (S := Unit) (fun u => True) (fun u => none) (fun u => (wA q cI cJ xro xtk xli cn ci cs cso cki cfa cfb cfc cva csn csd csl csb csr (srcT cso cfa cfb cfc csn csc cn) won wle pte pho nwa nti)) := by
  refine Ct.ofW (cc := cX0_traceSources) (maxL := 2) (ret := none) (R_C := RX0) (by decide +kernel) rfl rfl (Nat.le_of_ble_eq_true rfl) rfl ?_
  intro p e s m args below meth c A Q ls H locs hx hb hml hown hts hK hA hP hD hS hZ hl hri hrl hrv
  refine lv_iconst (v := nI 0) hx hb dX0_traceSources_0 (by decide) ?_
  refine lv_istore_n (lv' := [(1, .int (nI 0)), (0, .ref (q 1))]) hx hb dX0_traceSources_1 rfl hl (by decide) rfl (fun ls hl => ?_)
  have L_2 : ∀ (fuel : Nat) (i : Nat) (hi : i ≤ cn) (hfu : cn - i < fuel) (H : Heap) (locs : List Loc), va_P D vwCl (wA q cI cJ xro xtk xli cn ci cs cso cki cfa cfb cfc cva csn csd csl csb csr (srcT cso cfa cfb cfc csn csc i) won wle pte pho nwa nti) H → va_D A (wA q cI cJ xro xtk xli cn ci cs cso cki cfa cfb cfc cva csn csd csl csb csr (srcT cso cfa cfb cfc csn csc i) won wle pte pho nwa nti) → va_S A s.heap H locs → ∀ ls : Array Slot, lv_has ls 2 [(0, .ref (q 1)), (1, .int (nI i))] → W p l e ({ frames := 0, cells := 0, slots := 0, locals := 0 } : Room) s m args below meth c H locs 0 0 Q (F0 m 2 ls []) := by
    intro fuel
    induction fuel with
    | zero => intro i hi hfu; exact absurd hfu (Nat.not_lt_zero _)
    | succ fuel ih_2 =>
      intro i hi hfu H locs hP hD hS ls hl
      refine lv_iload_n hx hb dX0_traceSources_2 rfl (lv_at hl 1 rfl) ?_
      refine lv_aload_n hx hb dX0_traceSources_3 rfl (lv_at hl 0 rfl) ?_
      refine va_get (D := D) (ci := 0) (v := .int (nI cn)) (C := RX0) (T := TX0) (N := 15) hx hb hts (fun w h => List.mem_cons_of_mem _ (List.mem_append_right _ h)) hown hK hP 1 rfl rfl 0 (by decide) (hts (.fieldLink RX0 48 "FirstStates$Circuit" "nodes" "I") (List.mem_of_getElem? (i := 1) rfl)) (fun _ h9 => h9) rfl dX0_traceSources_4 ?_
      refine lv_icmp_ge (tgt := 104) hx hb dX0_traceSources_7 (by decide) (fun c_7 => ?_) (fun c_7 => ?_)
      · have f_7 : cn ≤ i := (nI_leI (a := cn) (b := i) (by first | omega | exact b_and1 _ | exact b_ct _ _ (by omega) | exact b_andr _ (by omega)) (by first | omega | exact b_and1 _ | exact b_ct _ _ (by omega) | exact b_andr _ (by omega))).mp c_7
        have e_i : i = cn := by omega
        subst e_i
        exact hrv () H locs 104 ls rfl trivial rfl hP (fx_D hD rfl) hS dX0_traceSources_104
      have f_7 : ¬ cn ≤ i := fun h => c_7 ((nI_leI (a := cn) (b := i) (by first | omega | exact b_and1 _ | exact b_ct _ _ (by omega) | exact b_andr _ (by omega)) (by first | omega | exact b_and1 _ | exact b_ct _ _ (by omega) | exact b_andr _ (by omega))).mpr h)
      have hso1 := hso i (by omega)
      refine lv_aload_n hx hb dX0_traceSources_10 rfl (lv_at hl 0 rfl) ?_
      refine va_get (D := D) (ci := 0) (v := .ref (q 2)) (C := RX0) (T := TX0) (N := 15) hx hb hts (fun w h => List.mem_cons_of_mem _ (List.mem_append_right _ h)) hown hK hP 1 rfl rfl 3 (by decide) (hts (.fieldLink RX0 9 "FirstStates$Circuit" "sorts" "[I") (List.mem_of_getElem? (i := 2) rfl)) (fun _ h9 => h9) rfl dX0_traceSources_11 ?_
      refine lv_iload_n hx hb dX0_traceSources_14 rfl (lv_at hl 1 rfl) ?_
      refine fx_iald (ar := nI) hx hb hK hP 2 (f := cso) (k := i) rfl (by omega) (by decide) dX0_traceSources_15 ?_
      refine lv_iconst (v := nI 3) hx hb dX0_traceSources_16 (by decide) ?_
      refine lv_icmp_ne (tgt := 37) hx hb dX0_traceSources_17 (by decide) (fun c_17 => ?_) (fun c_17 => ?_)
      · have f_17 : ¬ cso i = 3 := fun h => c_17 ((nI_eq (a := cso i) (b := 3) (by first | omega | exact b_and1 _ | exact b_ct _ _ (by omega) | exact b_andr _ (by omega)) (by first | omega | exact b_and1 _ | exact b_ct _ _ (by omega) | exact b_andr _ (by omega))).mpr h)
        refine lv_aload_n hx hb dX0_traceSources_37 rfl (lv_at hl 0 rfl) ?_
        refine va_get (D := D) (ci := 0) (v := .ref (q 2)) (C := RX0) (T := TX0) (N := 15) hx hb hts (fun w h => List.mem_cons_of_mem _ (List.mem_append_right _ h)) hown hK hP 1 rfl rfl 3 (by decide) (hts (.fieldLink RX0 9 "FirstStates$Circuit" "sorts" "[I") (List.mem_of_getElem? (i := 2) rfl)) (fun _ h9 => h9) rfl dX0_traceSources_38 ?_
        refine lv_iload_n hx hb dX0_traceSources_41 rfl (lv_at hl 1 rfl) ?_
        refine fx_iald (ar := nI) hx hb hK hP 2 (f := cso) (k := i) rfl (by omega) (by decide) dX0_traceSources_42 ?_
        refine lv_iconst (v := nI 2) hx hb dX0_traceSources_43 (by decide) ?_
        refine lv_icmp_ne (tgt := 91) hx hb dX0_traceSources_44 (by decide) (fun c_44 => ?_) (fun c_44 => ?_)
        · have f_44 : ¬ cso i = 2 := fun h => c_44 ((nI_eq (a := cso i) (b := 2) (by first | omega | exact b_and1 _ | exact b_ct _ _ (by omega) | exact b_andr _ (by omega)) (by first | omega | exact b_and1 _ | exact b_ct _ _ (by omega) | exact b_andr _ (by omega))).mpr h)
          refine lv_aload_n hx hb dX0_traceSources_91 rfl (lv_at hl 0 rfl) ?_
          refine va_get (D := D) (ci := 0) (v := .ref (q 13)) (C := RX0) (T := TX0) (N := 15) hx hb hts (fun w h => List.mem_cons_of_mem _ (List.mem_append_right _ h)) hown hK hP 1 rfl rfl 14 (by decide) (hts (.fieldLink RX0 45 "FirstStates$Circuit" "sources" "[I") (List.mem_of_getElem? (i := 3) rfl)) (fun _ h9 => h9) rfl dX0_traceSources_92 ?_
          refine lv_iload_n hx hb dX0_traceSources_95 rfl (lv_at hl 1 rfl) ?_
          refine lv_iconst (v := nI 0) hx hb dX0_traceSources_96 (by decide) ?_
          refine fx_iast (ar := nI) hx hb hK hP hD hS 13 (f := (srcT cso cfa cfb cfc csn csc i)) (k := i) (v := 0) rfl (by omega) (by decide) rfl dX0_traceSources_97 (fun H locs hP hD hS => ?_)
          have hP : va_P D vwCl (wA q cI cJ xro xtk xli cn ci cs cso cki cfa cfb cfc cva csn csd csl csb csr (va_up (srcT cso cfa cfb cfc csn csc i) i 0) won wle pte pho nwa nti) H := hP
          have hD : va_D A (wA q cI cJ xro xtk xli cn ci cs cso cki cfa cfb cfc cva csn csd csl csb csr (va_up (srcT cso cfa cfb cfc csn csc i) i 0) won wle pte pho nwa nti) := fx_D hD rfl
          refine lv_iinc (v := nI (i + 1)) (lv' := [(1, .int (nI (i + 1))), (0, .ref (q 1))]) hx hb dX0_traceSources_98 hl (k := 1) rfl (by exact nI_1 _) (by decide) rfl (fun ls hl => ?_)
          refine lv_goto (tgt := 2) hx hb dX0_traceSources_101 (by decide) ?_
          have e_1 : va_up (srcT cso cfa cfb cfc csn csc i) i 0 = srcT cso cfa cfb cfc csn csc (i + 1) := by first | rfl | (simp [srcT, f_7, f_17, f_44])
          exact ih_2 (i + 1) (by first | assumption | omega) (by omega) H locs (fx_Pe (w' := (wA q cI cJ xro xtk xli cn ci cs cso cki cfa cfb cfc cva csn csd csl csb csr (srcT cso cfa cfb cfc csn csc (i + 1)) won wle pte pho nwa nti)) hP (congrArg (fun w9 : Nat → Nat => (wA q cI cJ xro xtk xli cn ci cs cso cki cfa cfb cfc cva csn csd csl csb csr w9 won wle pte pho nwa nti)) e_1)) (fx_D hD rfl) hS ls (lv_sub hl [1, 0] rfl)
        have f_44 : cso i = 2 := (nI_eq (a := cso i) (b := 2) (by first | omega | exact b_and1 _ | exact b_ct _ _ (by omega) | exact b_andr _ (by omega)) (by first | omega | exact b_and1 _ | exact b_ct _ _ (by omega) | exact b_andr _ (by omega))).mp c_44
        have hg1 := hg i (by omega) f_44
        refine lv_aload_n hx hb dX0_traceSources_47 rfl (lv_at hl 0 rfl) ?_
        refine va_get (D := D) (ci := 0) (v := .ref (q 13)) (C := RX0) (T := TX0) (N := 15) hx hb hts (fun w h => List.mem_cons_of_mem _ (List.mem_append_right _ h)) hown hK hP 1 rfl rfl 14 (by decide) (hts (.fieldLink RX0 45 "FirstStates$Circuit" "sources" "[I") (List.mem_of_getElem? (i := 3) rfl)) (fun _ h9 => h9) rfl dX0_traceSources_48 ?_
        refine lv_iload_n hx hb dX0_traceSources_51 rfl (lv_at hl 1 rfl) ?_
        refine lv_aload_n hx hb dX0_traceSources_52 rfl (lv_at hl 0 rfl) ?_
        refine va_get (D := D) (ci := 0) (v := .ref (q 13)) (C := RX0) (T := TX0) (N := 15) hx hb hts (fun w h => List.mem_cons_of_mem _ (List.mem_append_right _ h)) hown hK hP 1 rfl rfl 14 (by decide) (hts (.fieldLink RX0 45 "FirstStates$Circuit" "sources" "[I") (List.mem_of_getElem? (i := 3) rfl)) (fun _ h9 => h9) rfl dX0_traceSources_53 ?_
        refine lv_aload_n hx hb dX0_traceSources_56 rfl (lv_at hl 0 rfl) ?_
        refine va_get (D := D) (ci := 0) (v := .ref (q 4)) (C := RX0) (T := TX0) (N := 15) hx hb hts (fun w h => List.mem_cons_of_mem _ (List.mem_append_right _ h)) hown hK hP 1 rfl rfl 5 (by decide) (hts (.fieldLink RX0 18 "FirstStates$Circuit" "firsts" "[I") (List.mem_of_getElem? (i := 5) rfl)) (fun _ h9 => h9) rfl dX0_traceSources_57 ?_
        refine lv_iload_n hx hb dX0_traceSources_60 rfl (lv_at hl 1 rfl) ?_
        refine fx_iald (ar := nI) hx hb hK hP 4 (f := cfa) (k := i) rfl (by omega) (by decide) dX0_traceSources_61 ?_
        refine fx_iald (ar := nI) hx hb hK hP 13 (f := (srcT cso cfa cfb cfc csn csc i)) (k := (cfa i)) rfl (by omega) (by decide) dX0_traceSources_62 ?_
        refine lv_aload_n hx hb dX0_traceSources_63 rfl (lv_at hl 0 rfl) ?_
        refine va_get (D := D) (ci := 0) (v := .ref (q 13)) (C := RX0) (T := TX0) (N := 15) hx hb hts (fun w h => List.mem_cons_of_mem _ (List.mem_append_right _ h)) hown hK hP 1 rfl rfl 14 (by decide) (hts (.fieldLink RX0 45 "FirstStates$Circuit" "sources" "[I") (List.mem_of_getElem? (i := 3) rfl)) (fun _ h9 => h9) rfl dX0_traceSources_64 ?_
        refine lv_aload_n hx hb dX0_traceSources_67 rfl (lv_at hl 0 rfl) ?_
        refine va_get (D := D) (ci := 0) (v := .ref (q 5)) (C := RX0) (T := TX0) (N := 15) hx hb hts (fun w h => List.mem_cons_of_mem _ (List.mem_append_right _ h)) hown hK hP 1 rfl rfl 6 (by decide) (hts (.fieldLink RX0 21 "FirstStates$Circuit" "seconds" "[I") (List.mem_of_getElem? (i := 6) rfl)) (fun _ h9 => h9) rfl dX0_traceSources_68 ?_
        refine lv_iload_n hx hb dX0_traceSources_71 rfl (lv_at hl 1 rfl) ?_
        refine fx_iald (ar := nI) hx hb hK hP 5 (f := cfb) (k := i) rfl (by omega) (by decide) dX0_traceSources_72 ?_
        refine fx_iald (ar := nI) hx hb hK hP 13 (f := (srcT cso cfa cfb cfc csn csc i)) (k := (cfb i)) rfl (by omega) (by decide) dX0_traceSources_73 ?_
        refine lv_ior hx hb dX0_traceSources_74 ?_
        refine fx_eqi (fx_orI _ _) ?_
        refine lv_aload_n hx hb dX0_traceSources_75 rfl (lv_at hl 0 rfl) ?_
        refine va_get (D := D) (ci := 0) (v := .ref (q 13)) (C := RX0) (T := TX0) (N := 15) hx hb hts (fun w h => List.mem_cons_of_mem _ (List.mem_append_right _ h)) hown hK hP 1 rfl rfl 14 (by decide) (hts (.fieldLink RX0 45 "FirstStates$Circuit" "sources" "[I") (List.mem_of_getElem? (i := 3) rfl)) (fun _ h9 => h9) rfl dX0_traceSources_76 ?_
        refine lv_aload_n hx hb dX0_traceSources_79 rfl (lv_at hl 0 rfl) ?_
        refine va_get (D := D) (ci := 0) (v := .ref (q 6)) (C := RX0) (T := TX0) (N := 15) hx hb hts (fun w h => List.mem_cons_of_mem _ (List.mem_append_right _ h)) hown hK hP 1 rfl rfl 7 (by decide) (hts (.fieldLink RX0 24 "FirstStates$Circuit" "thirds" "[I") (List.mem_of_getElem? (i := 7) rfl)) (fun _ h9 => h9) rfl dX0_traceSources_80 ?_
        refine lv_iload_n hx hb dX0_traceSources_83 rfl (lv_at hl 1 rfl) ?_
        refine fx_iald (ar := nI) hx hb hK hP 6 (f := cfc) (k := i) rfl (by omega) (by decide) dX0_traceSources_84 ?_
        refine fx_iald (ar := nI) hx hb hK hP 13 (f := (srcT cso cfa cfb cfc csn csc i)) (k := (cfc i)) rfl (by omega) (by decide) dX0_traceSources_85 ?_
        refine lv_ior hx hb dX0_traceSources_86 ?_
        refine fx_eqi (fx_orI _ _) ?_
        refine fx_iast (ar := nI) hx hb hK hP hD hS 13 (f := (srcT cso cfa cfb cfc csn csc i)) (k := i) (v := ((((srcT cso cfa cfb cfc csn csc i) (cfa i)) ||| ((srcT cso cfa cfb cfc csn csc i) (cfb i))) ||| ((srcT cso cfa cfb cfc csn csc i) (cfc i)))) rfl (by omega) (by decide) rfl dX0_traceSources_87 (fun H locs hP hD hS => ?_)
        have hP : va_P D vwCl (wA q cI cJ xro xtk xli cn ci cs cso cki cfa cfb cfc cva csn csd csl csb csr (va_up (srcT cso cfa cfb cfc csn csc i) i ((((srcT cso cfa cfb cfc csn csc i) (cfa i)) ||| ((srcT cso cfa cfb cfc csn csc i) (cfb i))) ||| ((srcT cso cfa cfb cfc csn csc i) (cfc i)))) won wle pte pho nwa nti) H := hP
        have hD : va_D A (wA q cI cJ xro xtk xli cn ci cs cso cki cfa cfb cfc cva csn csd csl csb csr (va_up (srcT cso cfa cfb cfc csn csc i) i ((((srcT cso cfa cfb cfc csn csc i) (cfa i)) ||| ((srcT cso cfa cfb cfc csn csc i) (cfb i))) ||| ((srcT cso cfa cfb cfc csn csc i) (cfc i)))) won wle pte pho nwa nti) := fx_D hD rfl
        refine lv_goto (tgt := 98) hx hb dX0_traceSources_88 (by decide) ?_
        refine lv_iinc (v := nI (i + 1)) (lv' := [(1, .int (nI (i + 1))), (0, .ref (q 1))]) hx hb dX0_traceSources_98 hl (k := 1) rfl (by exact nI_1 _) (by decide) rfl (fun ls hl => ?_)
        refine lv_goto (tgt := 2) hx hb dX0_traceSources_101 (by decide) ?_
        have e_2 : va_up (srcT cso cfa cfb cfc csn csc i) i ((((srcT cso cfa cfb cfc csn csc i) (cfa i)) ||| ((srcT cso cfa cfb cfc csn csc i) (cfb i))) ||| ((srcT cso cfa cfb cfc csn csc i) (cfc i))) = srcT cso cfa cfb cfc csn csc (i + 1) := by first | rfl | (simp [srcT, f_7, f_17, f_44])
        exact ih_2 (i + 1) (by first | assumption | omega) (by omega) H locs (fx_Pe (w' := (wA q cI cJ xro xtk xli cn ci cs cso cki cfa cfb cfc cva csn csd csl csb csr (srcT cso cfa cfb cfc csn csc (i + 1)) won wle pte pho nwa nti)) hP (congrArg (fun w9 : Nat → Nat => (wA q cI cJ xro xtk xli cn ci cs cso cki cfa cfb cfc cva csn csd csl csb csr w9 won wle pte pho nwa nti)) e_2)) (fx_D hD rfl) hS ls (lv_sub hl [1, 0] rfl)
      have f_17 : cso i = 3 := (nI_eq (a := cso i) (b := 3) (by first | omega | exact b_and1 _ | exact b_ct _ _ (by omega) | exact b_andr _ (by omega)) (by first | omega | exact b_and1 _ | exact b_ct _ _ (by omega) | exact b_andr _ (by omega))).mp c_17
      have hs1 := hs i (by omega) f_17
      refine lv_aload_n hx hb dX0_traceSources_20 rfl (lv_at hl 0 rfl) ?_
      refine va_get (D := D) (ci := 0) (v := .ref (q 13)) (C := RX0) (T := TX0) (N := 15) hx hb hts (fun w h => List.mem_cons_of_mem _ (List.mem_append_right _ h)) hown hK hP 1 rfl rfl 14 (by decide) (hts (.fieldLink RX0 45 "FirstStates$Circuit" "sources" "[I") (List.mem_of_getElem? (i := 3) rfl)) (fun _ h9 => h9) rfl dX0_traceSources_21 ?_
      refine lv_iload_n hx hb dX0_traceSources_24 rfl (lv_at hl 1 rfl) ?_
      refine lv_iconst (v := nI 1) hx hb dX0_traceSources_25 (by decide) ?_
      refine lv_aload_n hx hb dX0_traceSources_26 rfl (lv_at hl 0 rfl) ?_
      refine va_get (D := D) (ci := 0) (v := .ref (q 8)) (C := RX0) (T := TX0) (N := 15) hx hb hts (fun w h => List.mem_cons_of_mem _ (List.mem_append_right _ h)) hown hK hP 1 rfl rfl 9 (by decide) (hts (.fieldLink RX0 30 "FirstStates$Circuit" "storeNumbers" "[I") (List.mem_of_getElem? (i := 4) rfl)) (fun _ h9 => h9) rfl dX0_traceSources_27 ?_
      refine lv_iload_n hx hb dX0_traceSources_30 rfl (lv_at hl 1 rfl) ?_
      refine fx_iald (ar := nI) hx hb hK hP 8 (f := csn) (k := i) rfl (by omega) (by decide) dX0_traceSources_31 ?_
      refine lv_ishl hx hb dX0_traceSources_32 ?_
      refine fx_eqi (y := nI (2 ^ (csn i))) (fx_shl1 (by first | omega | exact b_and1 _ | exact b_ct _ _ (by omega) | exact b_andr _ (by omega))) ?_
      refine fx_iast (ar := nI) hx hb hK hP hD hS 13 (f := (srcT cso cfa cfb cfc csn csc i)) (k := i) (v := (2 ^ (csn i))) rfl (by omega) (by decide) rfl dX0_traceSources_33 (fun H locs hP hD hS => ?_)
      have hP : va_P D vwCl (wA q cI cJ xro xtk xli cn ci cs cso cki cfa cfb cfc cva csn csd csl csb csr (va_up (srcT cso cfa cfb cfc csn csc i) i (2 ^ (csn i))) won wle pte pho nwa nti) H := hP
      have hD : va_D A (wA q cI cJ xro xtk xli cn ci cs cso cki cfa cfb cfc cva csn csd csl csb csr (va_up (srcT cso cfa cfb cfc csn csc i) i (2 ^ (csn i))) won wle pte pho nwa nti) := fx_D hD rfl
      refine lv_goto (tgt := 98) hx hb dX0_traceSources_34 (by decide) ?_
      refine lv_iinc (v := nI (i + 1)) (lv' := [(1, .int (nI (i + 1))), (0, .ref (q 1))]) hx hb dX0_traceSources_98 hl (k := 1) rfl (by exact nI_1 _) (by decide) rfl (fun ls hl => ?_)
      refine lv_goto (tgt := 2) hx hb dX0_traceSources_101 (by decide) ?_
      have e_3 : va_up (srcT cso cfa cfb cfc csn csc i) i (2 ^ (csn i)) = srcT cso cfa cfb cfc csn csc (i + 1) := by first | rfl | (simp [srcT, f_7, f_17])
      exact ih_2 (i + 1) (by first | assumption | omega) (by omega) H locs (fx_Pe (w' := (wA q cI cJ xro xtk xli cn ci cs cso cki cfa cfb cfc cva csn csd csl csb csr (srcT cso cfa cfb cfc csn csc (i + 1)) won wle pte pho nwa nti)) hP (congrArg (fun w9 : Nat → Nat => (wA q cI cJ xro xtk xli cn ci cs cso cki cfa cfb cfc cva csn csd csl csb csr w9 won wle pte pho nwa nti)) e_3)) (fx_D hD rfl) hS ls (lv_sub hl [1, 0] rfl)
  exact L_2 (cn - 0 + 1) 0 (Nat.zero_le _) (Nat.lt_succ_self _) H locs hP (fx_D hD rfl) hS ls (lv_sub hl [1, 0] rfl)
set_option maxHeartbeats 4000000 in
set_option maxRecDepth 100000 in
theorem c_X0_leans (l : Launch) (D : va_G) (cI cJ cZ : ClassId) (q : Nat → Nat) (xro : Int64) (xtk : Nat) (xli : Nat) (cn : Nat) (ci : Nat) (cs : Nat) (cso : Nat → Nat) (cki : Nat → Nat) (cfa : Nat → Nat) (cfb : Nat → Nat) (cfc : Nat → Nat) (cva : Nat → Nat) (csn : Nat → Nat) (csd : Nat → Nat) (csl : Nat → Nat) (csb : Nat → Nat) (csr : Nat → Nat) (csc : Nat → Nat) (won : Nat → Int64) (wle : Nat → Int64) (pte : Nat → Nat) (pho : Nat → Nat) (nwa : Nat → Int32) (nti : Nat → Int32) (i : Nat) (k : Nat) (hcn : cn ≤ 32) (hi : i < 6) (hk : k < 6) (hr : csr i < cn) (hsc : csc (csr i) < 64) : Ct l D cI cJ cZ yX0_leans wsX0_leans ({ frames := 0, cells := 0, slots := 0, locals := 0 } : Room) 0 0 [.ref (q 1), .int (nI i), .int (nI k)] (wA q cI cJ xro xtk xli cn ci cs cso cki cfa cfb cfc cva csn csd csl csb csr csc won wle pte pho nwa nti) (S := Unit) (fun u => True) (fun u => some (.int (bI ((csc (csr i)).testBit k)))) (fun u => (wA q cI cJ xro xtk xli cn ci cs cso cki cfa cfb cfc cva csn csd csl csb csr csc won wle pte pho nwa nti)) := by
  refine Ct.ofW (cc := cX0_leans) (maxL := 3) (ret := (some .boolean)) (R_C := RX0) (by decide +kernel) rfl rfl (Nat.le_of_ble_eq_true rfl) rfl ?_
  intro p e s m args below meth c A Q ls H locs hx hb hml hown hts hK hA hP hD hS hZ hl hri hrl hrv
  refine lv_aload_n hx hb dX0_leans_0 rfl (lv_at hl 0 rfl) ?_
  refine va_get (D := D) (ci := 0) (v := .ref (q 13)) (C := RX0) (T := TX0) (N := 15) hx hb hts (fun w h => List.mem_cons_of_mem _ (List.mem_append_right _ h)) hown hK hP 1 rfl rfl 14 (by decide) (hts (.fieldLink RX0 45 "FirstStates$Circuit" "sources" "[I") (List.mem_of_getElem? (i := 1) rfl)) (fun _ h9 => h9) rfl dX0_leans_1 ?_
  refine lv_aload_n hx hb dX0_leans_4 rfl (lv_at hl 0 rfl) ?_
  refine va_get (D := D) (ci := 0) (v := .ref (q 12)) (C := RX0) (T := TX0) (N := 15) hx hb hts (fun w h => List.mem_cons_of_mem _ (List.mem_append_right _ h)) hown hK hP 1 rfl rfl 13 (by decide) (hts (.fieldLink RX0 42 "FirstStates$Circuit" "storeReads" "[I") (List.mem_of_getElem? (i := 2) rfl)) (fun _ h9 => h9) rfl dX0_leans_5 ?_
  refine lv_iload_n hx hb dX0_leans_8 rfl (lv_at hl 1 rfl) ?_
  refine fx_iald (ar := nI) hx hb hK hP 12 (f := csr) (k := i) rfl (by omega) (by decide) dX0_leans_9 ?_
  refine fx_iald (ar := nI) hx hb hK hP 13 (f := csc) (k := (csr i)) rfl (by omega) (by decide) dX0_leans_10 ?_
  refine lv_iload_n hx hb dX0_leans_11 rfl (lv_at hl 2 rfl) ?_
  refine lv_ishr hx hb dX0_leans_12 ?_
  refine fx_eqi (y := nI ((csc (csr i)) >>> k)) (fx_shr (by first | omega | exact b_and1 _ | exact b_ct _ _ (by omega) | exact b_andr _ (by omega)) (by first | omega | exact b_and1 _ | exact b_ct _ _ (by omega) | exact b_andr _ (by omega))) ?_
  refine lv_iconst (v := nI 1) hx hb dX0_leans_13 (by decide) ?_
  refine lv_iand hx hb dX0_leans_14 ?_
  refine fx_eqi (fx_andI _ _) ?_
  refine lv_if_eq (tgt := 22) hx hb dX0_leans_15 (by decide) (fun c_15 => ?_) (fun c_15 => ?_)
  · have f_15 : ((csc (csr i)) >>> k) &&& 1 = 0 := (nI_eq (a := ((csc (csr i)) >>> k) &&& 1) (b := 0) (by first | omega | exact b_and1 _ | exact b_ct _ _ (by omega) | exact b_andr _ (by omega)) (by first | omega | exact b_and1 _ | exact b_ct _ _ (by omega) | exact b_andr _ (by omega))).mp c_15
    refine lv_iconst (v := nI 0) hx hb dX0_leans_22 (by decide) ?_
    exact hri () _ H locs 23 ls .boolean rfl rfl trivial (by exact bI_s0 (tb_0.mp f_15)) hP hD hS dX0_leans_23
  have f_15 : ¬ ((csc (csr i)) >>> k) &&& 1 = 0 := fun h => c_15 ((nI_eq (a := ((csc (csr i)) >>> k) &&& 1) (b := 0) (by first | omega | exact b_and1 _ | exact b_ct _ _ (by omega) | exact b_andr _ (by omega)) (by first | omega | exact b_and1 _ | exact b_ct _ _ (by omega) | exact b_andr _ (by omega))).mpr h)
  refine lv_iconst (v := nI 1) hx hb dX0_leans_18 (by decide) ?_
  refine lv_goto (tgt := 23) hx hb dX0_leans_19 (by decide) ?_
  exact hri () _ H locs 23 ls .boolean rfl rfl trivial (by exact bI_s1 (tb_n0.mp f_15)) hP hD hS dX0_leans_23
set_option maxHeartbeats 4000000 in
set_option maxRecDepth 100000 in
theorem c_X0_crosses (l : Launch) (D : va_G) (cI cJ cZ : ClassId) (q : Nat → Nat) (xro : Int64) (xtk : Nat) (xli : Nat) (cn : Nat) (ci : Nat) (cs : Nat) (cso : Nat → Nat) (cki : Nat → Nat) (cfa : Nat → Nat) (cfb : Nat → Nat) (cfc : Nat → Nat) (cva : Nat → Nat) (csn : Nat → Nat) (csd : Nat → Nat) (csl : Nat → Nat) (csb : Nat → Nat) (csr : Nat → Nat) (csc : Nat → Nat) (won : Nat → Int64) (wle : Nat → Int64) (pte : Nat → Nat) (pho : Nat → Nat) (nwa : Nat → Int32) (nti : Nat → Int32) (i : Nat) (k : Nat) (hcn : cn ≤ 32) (hi : i < 6) (hk : k < 6) (hl1 : csl i ≤ 4) (hl2 : csl k ≤ 4) (hr : csr k < cn) (hsc : csc (csr k) < 64) : Ct l D cI cJ cZ yX0_crosses wsX0_crosses ({ frames := 1, cells := 0, slots := 0, locals := 22 } : Room) 0 0 [.ref (q 1), .int (nI i), .int (nI k)] (wA q cI cJ xro xtk xli cn ci cs cso cki cfa cfb cfc cva csn csd csl csb csr csc won wle pte pho nwa nti) (S := Unit) (fun u => True) (fun u => some (.int (bI (!decide (csl i = csl k) && (csc (csr k)).testBit i)))) (fun u => (wA q cI cJ xro xtk xli cn ci cs cso cki cfa cfb cfc cva csn csd csl csb csr csc won wle pte pho nwa nti)) := by
  refine Ct.ofW (cc := cX0_crosses) (maxL := 3) (ret := (some .boolean)) (R_C := RX0) (by decide +kernel) rfl rfl (Nat.le_of_ble_eq_true rfl) rfl ?_
  intro p e s m args below meth c A Q ls H locs hx hb hml hown hts hK hA hP hD hS hZ hl hri hrl hrv
  refine lv_aload_n hx hb dX0_crosses_0 rfl (lv_at hl 0 rfl) ?_
  refine va_get (D := D) (ci := 0) (v := .ref (q 10)) (C := RX0) (T := TX0) (N := 15) hx hb hts (fun w h => List.mem_cons_of_mem _ (List.mem_append_right _ h)) hown hK hP 1 rfl rfl 11 (by decide) (hts (.fieldLink RX0 36 "FirstStates$Circuit" "storeLines" "[I") (List.mem_of_getElem? (i := 1) rfl)) (fun _ h9 => h9) rfl dX0_crosses_1 ?_
  refine lv_iload_n hx hb dX0_crosses_4 rfl (lv_at hl 1 rfl) ?_
  refine fx_iald (ar := lI) hx hb hK hP 10 (f := csl) (k := i) rfl (by omega) (by decide) dX0_crosses_5 ?_
  refine lv_aload_n hx hb dX0_crosses_6 rfl (lv_at hl 0 rfl) ?_
  refine va_get (D := D) (ci := 0) (v := .ref (q 10)) (C := RX0) (T := TX0) (N := 15) hx hb hts (fun w h => List.mem_cons_of_mem _ (List.mem_append_right _ h)) hown hK hP 1 rfl rfl 11 (by decide) (hts (.fieldLink RX0 36 "FirstStates$Circuit" "storeLines" "[I") (List.mem_of_getElem? (i := 1) rfl)) (fun _ h9 => h9) rfl dX0_crosses_7 ?_
  refine lv_iload_n hx hb dX0_crosses_10 rfl (lv_at hl 2 rfl) ?_
  refine fx_iald (ar := lI) hx hb hK hP 10 (f := csl) (k := k) rfl (by omega) (by decide) dX0_crosses_11 ?_
  refine lv_icmp_eq (tgt := 28) hx hb dX0_crosses_12 (by decide) (fun c_12 => ?_) (fun c_12 => ?_)
  · have f_12 : (csl i) = (csl k) := (lI_eq (by first | omega | exact b_and1 _ | exact b_ct _ _ (by omega) | exact b_andr _ (by omega)) (by first | omega | exact b_and1 _ | exact b_ct _ _ (by omega) | exact b_andr _ (by omega))).mp c_12
    refine lv_iconst (v := nI 0) hx hb dX0_crosses_28 (by decide) ?_
    exact hri () _ H locs 29 ls .boolean rfl rfl trivial (by exact bI_s0 (by first | exact decide_eq_false (by omega) | simp [f_12])) hP hD hS dX0_crosses_29
  have f_12 : ¬ (csl i) = (csl k) := fun h => c_12 ((lI_eq (by first | omega | exact b_and1 _ | exact b_ct _ _ (by omega) | exact b_andr _ (by omega)) (by first | omega | exact b_and1 _ | exact b_ct _ _ (by omega) | exact b_andr _ (by omega))).mpr h)
  refine lv_aload_n hx hb dX0_crosses_15 rfl (lv_at hl 0 rfl) ?_
  refine lv_iload_n hx hb dX0_crosses_16 rfl (lv_at hl 2 rfl) ?_
  refine lv_iload_n hx hb dX0_crosses_17 rfl (lv_at hl 1 rfl) ?_
  refine fx_callV (As := [.int (nI k), .int (nI i)]) (rest := []) ⟨hx, hb, hml, hown, hts⟩ (c_X0_leans l D cI cJ cZ q xro xtk xli cn ci cs cso cki cfa cfb cfc cva csn csd csl csb csr csc won wle pte pho nwa nti k i (by first | assumption | omega) (by first | assumption | omega) (by first | assumption | omega) (by first | assumption | omega) (by first | assumption | omega)) (cwV 2 hts gX0_crosses_X0_leans rfl rfl rfl kv_X0_leans ⟨Nat.le_of_ble_eq_true rfl, Nat.le_of_ble_eq_true rfl⟩) hK hP hD hS hA hZ 1 rfl rfl rfl rfl hl.1 rfl (lv_room (Nat.le_of_ble_eq_true rfl)) dX0_crosses_18 ⟨Nat.zero_le _, Nat.zero_le _⟩ (fun u_1 H locs hu_1 hP hD hS => ?_)
  refine lv_if_eq (tgt := 28) hx hb dX0_crosses_21 (by decide) (fun c_21 => ?_) (fun c_21 => ?_)
  · have f_21 : ((csc (csr k)).testBit i) = false := bI_0.mp c_21
    refine lv_iconst (v := nI 0) hx hb dX0_crosses_28 (by decide) ?_
    exact hri () _ H locs 29 ls .boolean rfl rfl trivial (by exact bI_s0 (by first | exact decide_eq_false (by omega) | simp [f_12, f_21])) hP hD hS dX0_crosses_29
  have f_21 : ((csc (csr k)).testBit i) = true := bI_n0.mp c_21
  refine lv_iconst (v := nI 1) hx hb dX0_crosses_24 (by decide) ?_
  refine lv_goto (tgt := 29) hx hb dX0_crosses_25 (by decide) ?_
  exact hri () _ H locs 29 ls .boolean rfl rfl trivial (by exact bI_s1 (by first | exact decide_eq_true (by omega) | simp [f_12, f_21])) hP hD hS dX0_crosses_29
