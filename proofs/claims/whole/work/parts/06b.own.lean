/-! Contracts of FirstStates: the circuit, lines. -/
set_option maxHeartbeats 4000000 in
set_option maxRecDepth 100000 in
theorem c_X4_isBit (l : Launch) (D : va_G) (cI cJ cZ : ClassId) (w : va_W) (x : Int32) : Ct l D cI cJ cZ yX4_isBit wsX4_isBit ({ frames := 0, cells := 0, slots := 0, locals := 0 } : Room) 0 0 [.int x] w (S := Unit) (fun u => True) (fun u => some (.int (bI (bitB x)))) (fun u => w) := by
  refine Ct.ofW (cc := cX4_isBit) (maxL := 1) (ret := (some .boolean)) (R_C := RX4) (by decide +kernel) rfl rfl (Nat.le_of_ble_eq_true rfl) rfl ?_
  intro p e s m args below meth c A Q ls H locs hx hb hml hown hts hK hA hP hD hS hZ hl hri hrl hrv
  refine lv_iload_n hx hb dX4_isBit_0 rfl (lv_at hl 0 rfl) ?_
  refine lv_if_eq (tgt := 9) hx hb dX4_isBit_1 (by decide) (fun c_1 => ?_) (fun c_1 => ?_)
  · refine lv_iconst (v := nI 1) hx hb dX4_isBit_9 (by decide) ?_
    refine lv_goto (tgt := 14) hx hb dX4_isBit_10 (by decide) ?_
    exact hri () _ H locs 14 ls .boolean rfl rfl trivial (by exact bI_s1 (by simp [bitB, c_1])) hP hD hS dX4_isBit_14
  refine lv_iload_n hx hb dX4_isBit_4 rfl (lv_at hl 0 rfl) ?_
  refine lv_iconst (v := nI 1) hx hb dX4_isBit_5 (by decide) ?_
  refine lv_icmp_ne (tgt := 13) hx hb dX4_isBit_6 (by decide) (fun c_6 => ?_) (fun c_6 => ?_)
  · refine lv_iconst (v := nI 0) hx hb dX4_isBit_13 (by decide) ?_
    exact hri () _ H locs 14 ls .boolean rfl rfl trivial (by exact bI_s0 (by simp [bitB, c_1, c_6])) hP hD hS dX4_isBit_14
  refine lv_iconst (v := nI 1) hx hb dX4_isBit_9 (by decide) ?_
  refine lv_goto (tgt := 14) hx hb dX4_isBit_10 (by decide) ?_
  exact hri () _ H locs 14 ls .boolean rfl rfl trivial (by exact bI_s1 (by simp [bitB, c_1, c_6])) hP hD hS dX4_isBit_14
set_option maxHeartbeats 4000000 in
set_option maxRecDepth 100000 in
theorem c_X4_isLine (l : Launch) (D : va_G) (cI cJ cZ : ClassId) (w : va_W) (x : Int32) : Ct l D cI cJ cZ yX4_isLine wsX4_isLine ({ frames := 0, cells := 0, slots := 0, locals := 0 } : Room) 0 0 [.int x] w (S := Unit) (fun u => True) (fun u => some (.int (bI (isN 4 x)))) (fun u => w) := by
  refine Ct.ofW (cc := cX4_isLine) (maxL := 1) (ret := (some .boolean)) (R_C := RX4) (by decide +kernel) rfl rfl (Nat.le_of_ble_eq_true rfl) rfl ?_
  intro p e s m args below meth c A Q ls H locs hx hb hml hown hts hK hA hP hD hS hZ hl hri hrl hrv
  refine lv_iload_n hx hb dX4_isLine_0 rfl (lv_at hl 0 rfl) ?_
  refine lv_if_lt (tgt := 13) hx hb dX4_isLine_1 (by decide) (fun c_1 => ?_) (fun c_1 => ?_)
  · refine lv_iconst (v := nI 0) hx hb dX4_isLine_13 (by decide) ?_
    exact hri () _ H locs 14 ls .boolean rfl rfl trivial (by exact bI_s0 (by simp [isN, c_1])) hP hD hS dX4_isLine_14
  refine lv_iload_n hx hb dX4_isLine_4 rfl (lv_at hl 0 rfl) ?_
  refine lv_iconst (v := nI 4) hx hb dX4_isLine_5 (by decide) ?_
  refine lv_icmp_ge (tgt := 13) hx hb dX4_isLine_6 (by decide) (fun c_6 => ?_) (fun c_6 => ?_)
  · refine lv_iconst (v := nI 0) hx hb dX4_isLine_13 (by decide) ?_
    exact hri () _ H locs 14 ls .boolean rfl rfl trivial (by exact bI_s0 (by simp [isN, c_1, c_6])) hP hD hS dX4_isLine_14
  refine lv_iconst (v := nI 1) hx hb dX4_isLine_9 (by decide) ?_
  refine lv_goto (tgt := 14) hx hb dX4_isLine_10 (by decide) ?_
  exact hri () _ H locs 14 ls .boolean rfl rfl trivial (by exact bI_s1 (by simp [isN, c_1, c_6])) hP hD hS dX4_isLine_14
set_option maxHeartbeats 4000000 in
set_option maxRecDepth 100000 in
theorem c_X4_isTickCount (l : Launch) (D : va_G) (cI cJ cZ : ClassId) (w : va_W) (x : Int32) : Ct l D cI cJ cZ yX4_isTickCount wsX4_isTickCount ({ frames := 0, cells := 0, slots := 0, locals := 0 } : Room) 0 0 [.int x] w (S := Unit) (fun u => True) (fun u => some (.int (bI (tickB x)))) (fun u => w) := by
  refine Ct.ofW (cc := cX4_isTickCount) (maxL := 1) (ret := (some .boolean)) (R_C := RX4) (by decide +kernel) rfl rfl (Nat.le_of_ble_eq_true rfl) rfl ?_
  intro p e s m args below meth c A Q ls H locs hx hb hml hown hts hK hA hP hD hS hZ hl hri hrl hrv
  refine lv_iload_n hx hb dX4_isTickCount_0 rfl (lv_at hl 0 rfl) ?_
  refine lv_iconst (v := nI 1) hx hb dX4_isTickCount_1 (by decide) ?_
  refine lv_icmp_lt (tgt := 15) hx hb dX4_isTickCount_2 (by decide) (fun c_2 => ?_) (fun c_2 => ?_)
  · refine lv_iconst (v := nI 0) hx hb dX4_isTickCount_15 (by decide) ?_
    exact hri () _ H locs 16 ls .boolean rfl rfl trivial (by exact bI_s0 (by simp [tickB, c_2])) hP hD hS dX4_isTickCount_16
  refine lv_iload_n hx hb dX4_isTickCount_5 rfl (lv_at hl 0 rfl) ?_
  refine lv_bipush (v := nI 64) hx hb dX4_isTickCount_6 (by decide) ?_
  refine lv_icmp_gt (tgt := 15) hx hb dX4_isTickCount_8 (by decide) (fun c_8 => ?_) (fun c_8 => ?_)
  · refine lv_iconst (v := nI 0) hx hb dX4_isTickCount_15 (by decide) ?_
    exact hri () _ H locs 16 ls .boolean rfl rfl trivial (by exact bI_s0 (by simp [tickB, c_2, c_8])) hP hD hS dX4_isTickCount_16
  refine lv_iconst (v := nI 1) hx hb dX4_isTickCount_11 (by decide) ?_
  refine lv_goto (tgt := 16) hx hb dX4_isTickCount_12 (by decide) ?_
  exact hri () _ H locs 16 ls .boolean rfl rfl trivial (by exact bI_s1 (by simp [tickB, c_2, c_8])) hP hD hS dX4_isTickCount_16
set_option maxHeartbeats 4000000 in
set_option maxRecDepth 100000 in
theorem c_X4_beginAgain (l : Launch) (D : va_G) (cI cJ cZ : ClassId) (q : Nat → Nat) (xro : Int64) (xtk : Nat) (xli : Nat) (cn : Nat) (ci : Nat) (cs : Nat) (cso : Nat → Nat) (cki : Nat → Nat) (cfa : Nat → Nat) (cfb : Nat → Nat) (cfc : Nat → Nat) (cva : Nat → Nat) (csn : Nat → Nat) (csd : Nat → Nat) (csl : Nat → Nat) (csb : Nat → Nat) (csr : Nat → Nat) (csc : Nat → Nat) (won : Nat → Int64) (wle : Nat → Int64) (pte : Nat → Nat) (pho : Nat → Nat) (nwa : Nat → Int32) (nti : Nat → Int32) (hcs : cs ≤ 6) : Ct l D cI cJ cZ yX4_beginAgain wsX4_beginAgain ({ frames := 2, cells := 0, slots := 0, locals := 41 } : Room) 0 0 [.ref (q 0)] (wA q cI cJ xro xtk xli cn ci cs cso cki cfa cfb cfc cva csn csd csl csb csr csc won wle pte pho nwa nti) (S := Unit) (fun u => True) (fun u => none) (fun u => (wA q cI cJ (alR cs) 0 xli cn ci cs cso cki cfa cfb cfc cva csn csd csl csb csr csc won wle pte (mixF (fun _ => 2) pho 6) nwa nti)) := by
  refine Ct.ofW (cc := cX4_beginAgain) (maxL := 1) (ret := none) (R_C := RX4) (by decide +kernel) rfl rfl (Nat.le_of_ble_eq_true rfl) rfl ?_
  intro p e s m args below meth c A Q ls H locs hx hb hml hown hts hK hA hP hD hS hZ hl hri hrl hrv
  refine lv_aload_n hx hb dX4_beginAgain_0 rfl (lv_at hl 0 rfl) ?_
  refine lv_aload_n hx hb dX4_beginAgain_1 rfl (lv_at hl 0 rfl) ?_
  refine va_get (D := D) (ci := 4) (v := .ref (q 14)) (C := RX4) (T := TX4) (N := 7) hx hb hts (fun w h => List.mem_cons_of_mem _ (List.mem_append_left _ (List.mem_append_left _ (List.mem_append_left _ (List.mem_append_right _ h))))) hown hK hP 0 rfl rfl 1 (by decide) (hts (.fieldLink RX4 21 "FirstStates" "walk" "LFirstStates$Walk;") (List.mem_of_getElem? (i := 1) rfl)) (fun _ h9 => h9) rfl dX4_beginAgain_2 ?_
  refine fx_callV (As := []) (rest := [.ref (q 0)]) ⟨hx, hb, hml, hown, hts⟩ (c_X3_allRows l D cI cJ cZ q xro xtk xli cn ci cs cso cki cfa cfb cfc cva csn csd csl csb csr csc won wle pte pho nwa nti (by first | assumption | omega)) (cwV 0 hts gX4_beginAgain_X3_allRows rfl rfl rfl kv_X3_allRows ⟨Nat.le_of_ble_eq_true rfl, Nat.le_of_ble_eq_true rfl⟩) hK hP hD hS hA hZ 14 rfl rfl rfl rfl hl.1 rfl (lv_room (Nat.le_of_ble_eq_true rfl)) dX4_beginAgain_5 ⟨Nat.zero_le _, Nat.zero_le _⟩ (fun u_1 H locs hu_1 hP hD hS => ?_)
  refine va_put (D := D) (ci := 4) (v := .long (alR cs)) (ty := .long) (C := RX4) (T := TX4) (N := 7) hx hb hts (fun w h => List.mem_cons_of_mem _ (List.mem_append_left _ (List.mem_append_left _ (List.mem_append_left _ (List.mem_append_right _ h))))) tyX4 tyX4_ok nmX4 hown hK hP hD hS 0 rfl rfl 4 (by decide) (hts (.fieldLink RX4 39 "FirstStates" "rows" "J") (List.mem_of_getElem? (i := 2) rfl)) (fun _ h9 => h9) rfl (by decide +kernel) rfl rfl (Nat.le_of_ble_eq_true rfl) dX4_beginAgain_8 (fun H locs hP hD hS => ?_)
  have hP : va_P D vwCl (wA q cI cJ (alR cs) xtk xli cn ci cs cso cki cfa cfb cfc cva csn csd csl csb csr csc won wle pte pho nwa nti) H := hP
  have hD : va_D A (wA q cI cJ (alR cs) xtk xli cn ci cs cso cki cfa cfb cfc cva csn csd csl csb csr csc won wle pte pho nwa nti) := fx_D hD rfl
  refine lv_aload_n hx hb dX4_beginAgain_11 rfl (lv_at hl 0 rfl) ?_
  refine lv_iconst (v := nI 0) hx hb dX4_beginAgain_12 (by decide) ?_
  refine va_put (D := D) (ci := 4) (v := .int (nI 0)) (ty := .int) (C := RX4) (T := TX4) (N := 7) hx hb hts (fun w h => List.mem_cons_of_mem _ (List.mem_append_left _ (List.mem_append_left _ (List.mem_append_left _ (List.mem_append_right _ h))))) tyX4 tyX4_ok nmX4 hown hK hP hD hS 0 rfl rfl 5 (by decide) (hts (.fieldLink RX4 43 "FirstStates" "ticks" "I") (List.mem_of_getElem? (i := 3) rfl)) (fun _ h9 => h9) rfl (by decide +kernel) rfl rfl (Nat.le_of_ble_eq_true rfl) dX4_beginAgain_13 (fun H locs hP hD hS => ?_)
  have hP : va_P D vwCl (wA q cI cJ (alR cs) 0 xli cn ci cs cso cki cfa cfb cfc cva csn csd csl csb csr csc won wle pte pho nwa nti) H := hP
  have hD : va_D A (wA q cI cJ (alR cs) 0 xli cn ci cs cso cki cfa cfb cfc cva csn csd csl csb csr csc won wle pte pho nwa nti) := fx_D hD rfl
  refine lv_aload_n hx hb dX4_beginAgain_16 rfl (lv_at hl 0 rfl) ?_
  refine va_get (D := D) (ci := 4) (v := .ref (q 17)) (C := RX4) (T := TX4) (N := 7) hx hb hts (fun w h => List.mem_cons_of_mem _ (List.mem_append_left _ (List.mem_append_left _ (List.mem_append_left _ (List.mem_append_right _ h))))) hown hK hP 0 rfl rfl 2 (by decide) (hts (.fieldLink RX4 28 "FirstStates" "parts" "LFirstStates$Parts;") (List.mem_of_getElem? (i := 4) rfl)) (fun _ h9 => h9) rfl dX4_beginAgain_17 ?_
  refine fx_callV (As := []) (rest := []) ⟨hx, hb, hml, hown, hts⟩ (c_X2_forget l D cI cJ cZ q (alR cs) 0 xli cn ci cs cso cki cfa cfb cfc cva csn csd csl csb csr csc won wle pte pho nwa nti) (cwV 0 hts gX4_beginAgain_X2_forget rfl rfl rfl kv_X2_forget ⟨Nat.le_of_ble_eq_true rfl, Nat.le_of_ble_eq_true rfl⟩) hK hP hD hS hA hZ 17 rfl rfl rfl rfl hl.1 rfl (lv_room (Nat.le_of_ble_eq_true rfl)) dX4_beginAgain_20 ⟨Nat.zero_le _, Nat.zero_le _⟩ (fun u_2 H locs hu_2 hP hD hS => ?_)
  have hP : va_P D vwCl (wA q cI cJ (alR cs) 0 xli cn ci cs cso cki cfa cfb cfc cva csn csd csl csb csr csc won wle pte (mixF (fun _ => 2) pho 6) nwa nti) H := hP
  have hD : va_D A (wA q cI cJ (alR cs) 0 xli cn ci cs cso cki cfa cfb cfc cva csn csd csl csb csr csc won wle pte (mixF (fun _ => 2) pho 6) nwa nti) := fx_D hD rfl
  exact hrv () H locs 23 ls rfl trivial rfl hP hD hS dX4_beginAgain_23
set_option maxHeartbeats 4000000 in
set_option maxRecDepth 100000 in
theorem c_X4_input_f (l : Launch) (D : va_G) (cI cJ cZ : ClassId) (q : Nat → Nat) (xro : Int64) (xtk : Nat) (xli : Nat) (cn : Nat) (ci : Nat) (cs : Nat) (cso : Nat → Nat) (cki : Nat → Nat) (cfa : Nat → Nat) (cfb : Nat → Nat) (cfc : Nat → Nat) (cva : Nat → Nat) (csn : Nat → Nat) (csd : Nat → Nat) (csl : Nat → Nat) (csb : Nat → Nat) (csr : Nat → Nat) (csc : Nat → Nat) (won : Nat → Int64) (wle : Nat → Int64) (pte : Nat → Nat) (pho : Nat → Nat) (nwa : Nat → Int32) (nti : Nat → Int32) (hcn : cn ≤ 32) (hci : ci ≤ 4) (hf : 4 ≤ ci ∨ cn = 32) : Ct l D cI cJ cZ yX4_input wsX4_input ({ frames := 1, cells := 0, slots := 0, locals := 20 } : Room) 0 0 [.ref (q 0)] (wA q cI cJ xro xtk xli cn ci cs cso cki cfa cfb cfc cva csn csd csl csb csr csc won wle pte pho nwa nti) (S := Unit) (fun u => True) (fun u => some (.int (-4))) (fun u => (wA q cI cJ xro xtk xli cn ci cs cso cki cfa cfb cfc cva csn csd csl csb csr csc won wle pte pho nwa nti)) := by
  refine Ct.ofW (cc := cX4_input) (maxL := 2) (ret := (some .int)) (R_C := RX4) (by decide +kernel) rfl rfl (Nat.le_of_ble_eq_true rfl) rfl ?_
  intro p e s m args below meth c A Q ls H locs hx hb hml hown hts hK hA hP hD hS hZ hl hri hrl hrv
  refine lv_aload_n hx hb dX4_input_0 rfl (lv_at hl 0 rfl) ?_
  refine va_get (D := D) (ci := 4) (v := .ref (q 1)) (C := RX4) (T := TX4) (N := 7) hx hb hts (fun w h => List.mem_cons_of_mem _ (List.mem_append_left _ (List.mem_append_left _ (List.mem_append_left _ (List.mem_append_right _ h))))) hown hK hP 0 rfl rfl 0 (by decide) (hts (.fieldLink RX4 10 "FirstStates" "circuit" "LFirstStates$Circuit;") (List.mem_of_getElem? (i := 1) rfl)) (fun _ h9 => h9) rfl dX4_input_1 ?_
  refine va_get (D := D) (ci := 0) (v := .int (nI ci)) (C := RX0) (T := TX0) (N := 15) hx hb hts (fun w h => List.mem_cons_of_mem _ (List.mem_append_left _ (List.mem_append_left _ (List.mem_append_right _ h)))) hown hK hP 1 rfl rfl 1 (by decide) (hts (.fieldLink RX4 50 "FirstStates$Circuit" "inputs" "I") (List.mem_of_getElem? (i := 2) rfl)) (fun _ h9 => h9) rfl dX4_input_4 ?_
  refine lv_iconst (v := nI 4) hx hb dX4_input_7 (by decide) ?_
  refine lv_icmp_ge (tgt := 21) hx hb dX4_input_8 (by decide) (fun c_8 => ?_) (fun c_8 => ?_)
  · have f_8 : 4 ≤ ci := (nI_leI (a := 4) (b := ci) (by first | omega | exact b_and1 _ | exact b_ct _ _ (by omega) | exact b_andr _ (by omega)) (by first | omega | exact b_and1 _ | exact b_ct _ _ (by omega) | exact b_andr _ (by omega))).mp c_8
    refine lv_bipush (v := (-4)) hx hb dX4_input_21 (by decide) ?_
    exact hri () _ H locs 23 ls .int rfl rfl trivial rfl hP hD hS dX4_input_23
  have f_8 : ¬ 4 ≤ ci := fun h => c_8 ((nI_leI (a := 4) (b := ci) (by first | omega | exact b_and1 _ | exact b_ct _ _ (by omega) | exact b_andr _ (by omega)) (by first | omega | exact b_and1 _ | exact b_ct _ _ (by omega) | exact b_andr _ (by omega))).mpr h)
  refine lv_aload_n hx hb dX4_input_11 rfl (lv_at hl 0 rfl) ?_
  refine va_get (D := D) (ci := 4) (v := .ref (q 1)) (C := RX4) (T := TX4) (N := 7) hx hb hts (fun w h => List.mem_cons_of_mem _ (List.mem_append_left _ (List.mem_append_left _ (List.mem_append_left _ (List.mem_append_right _ h))))) hown hK hP 0 rfl rfl 0 (by decide) (hts (.fieldLink RX4 10 "FirstStates" "circuit" "LFirstStates$Circuit;") (List.mem_of_getElem? (i := 1) rfl)) (fun _ h9 => h9) rfl dX4_input_12 ?_
  refine fx_callV (As := []) (rest := []) ⟨hx, hb, hml, hown, hts⟩ (c_X0_isFull l D cI cJ cZ q xro xtk xli cn ci cs cso cki cfa cfb cfc cva csn csd csl csb csr csc won wle pte pho nwa nti (by first | assumption | omega)) (cwV 0 hts gX4_input_X0_isFull rfl rfl rfl kv_X0_isFull ⟨Nat.le_of_ble_eq_true rfl, Nat.le_of_ble_eq_true rfl⟩) hK hP hD hS hA hZ 1 rfl rfl rfl rfl hl.1 rfl (lv_room (Nat.le_of_ble_eq_true rfl)) dX4_input_15 ⟨Nat.zero_le _, Nat.zero_le _⟩ (fun u_1 H locs hu_1 hP hD hS => ?_)
  refine lv_if_eq (tgt := 24) hx hb dX4_input_18 (by decide) (fun c_18 => ?_) (fun c_18 => ?_)
  · have f_18 : (decide (32 ≤ cn)) = false := bI_0.mp c_18
    exfalso; simp at f_18; omega
  have f_18 : (decide (32 ≤ cn)) = true := bI_n0.mp c_18
  refine lv_bipush (v := (-4)) hx hb dX4_input_21 (by decide) ?_
  exact hri () _ H locs 23 ls .int rfl rfl trivial rfl hP hD hS dX4_input_23
set_option maxHeartbeats 4000000 in
set_option maxRecDepth 100000 in
theorem c_X4_input (l : Launch) (D : va_G) (cI cJ cZ : ClassId) (q : Nat → Nat) (xro : Int64) (xtk : Nat) (xli : Nat) (cn : Nat) (ci : Nat) (cs : Nat) (cso : Nat → Nat) (cki : Nat → Nat) (cfa : Nat → Nat) (cfb : Nat → Nat) (cfc : Nat → Nat) (cva : Nat → Nat) (csn : Nat → Nat) (csd : Nat → Nat) (csl : Nat → Nat) (csb : Nat → Nat) (csr : Nat → Nat) (csc : Nat → Nat) (won : Nat → Int64) (wle : Nat → Int64) (pte : Nat → Nat) (pho : Nat → Nat) (nwa : Nat → Int32) (nti : Nat → Int32) (hcn : cn < 32) (hci : ci < 4) (hcs : cs ≤ 6) : Ct l D cI cJ cZ yX4_input wsX4_input ({ frames := 3, cells := 0, slots := 0, locals := 61 } : Room) 0 0 [.ref (q 0)] (wA q cI cJ xro xtk xli cn ci cs cso cki cfa cfb cfc cva csn csd csl csb csr csc won wle pte pho nwa nti) (S := Unit) (fun u => True) (fun u => some (.int (nI cn))) (fun u => (wA q cI cJ (alR cs) 0 xli (cn + 1) (ci + 1) cs (va_up cso cn 0) cki cfa cfb cfc (va_up cva cn 2) csn csd csl csb csr csc won wle pte (mixF (fun _ => 2) pho 6) nwa nti)) := by
  refine Ct.ofW (cc := cX4_input) (maxL := 2) (ret := (some .int)) (R_C := RX4) (by decide +kernel) rfl rfl (Nat.le_of_ble_eq_true rfl) rfl ?_
  intro p e s m args below meth c A Q ls H locs hx hb hml hown hts hK hA hP hD hS hZ hl hri hrl hrv
  refine lv_aload_n hx hb dX4_input_0 rfl (lv_at hl 0 rfl) ?_
  refine va_get (D := D) (ci := 4) (v := .ref (q 1)) (C := RX4) (T := TX4) (N := 7) hx hb hts (fun w h => List.mem_cons_of_mem _ (List.mem_append_left _ (List.mem_append_left _ (List.mem_append_left _ (List.mem_append_right _ h))))) hown hK hP 0 rfl rfl 0 (by decide) (hts (.fieldLink RX4 10 "FirstStates" "circuit" "LFirstStates$Circuit;") (List.mem_of_getElem? (i := 1) rfl)) (fun _ h9 => h9) rfl dX4_input_1 ?_
  refine va_get (D := D) (ci := 0) (v := .int (nI ci)) (C := RX0) (T := TX0) (N := 15) hx hb hts (fun w h => List.mem_cons_of_mem _ (List.mem_append_left _ (List.mem_append_left _ (List.mem_append_right _ h)))) hown hK hP 1 rfl rfl 1 (by decide) (hts (.fieldLink RX4 50 "FirstStates$Circuit" "inputs" "I") (List.mem_of_getElem? (i := 2) rfl)) (fun _ h9 => h9) rfl dX4_input_4 ?_
  refine lv_iconst (v := nI 4) hx hb dX4_input_7 (by decide) ?_
  refine lv_icmp_ge (tgt := 21) hx hb dX4_input_8 (by decide) (fun c_8 => ?_) (fun c_8 => ?_)
  · have f_8 : 4 ≤ ci := (nI_leI (a := 4) (b := ci) (by first | omega | exact b_and1 _ | exact b_ct _ _ (by omega) | exact b_andr _ (by omega)) (by first | omega | exact b_and1 _ | exact b_ct _ _ (by omega) | exact b_andr _ (by omega))).mp c_8
    exfalso; omega
  have f_8 : ¬ 4 ≤ ci := fun h => c_8 ((nI_leI (a := 4) (b := ci) (by first | omega | exact b_and1 _ | exact b_ct _ _ (by omega) | exact b_andr _ (by omega)) (by first | omega | exact b_and1 _ | exact b_ct _ _ (by omega) | exact b_andr _ (by omega))).mpr h)
  refine lv_aload_n hx hb dX4_input_11 rfl (lv_at hl 0 rfl) ?_
  refine va_get (D := D) (ci := 4) (v := .ref (q 1)) (C := RX4) (T := TX4) (N := 7) hx hb hts (fun w h => List.mem_cons_of_mem _ (List.mem_append_left _ (List.mem_append_left _ (List.mem_append_left _ (List.mem_append_right _ h))))) hown hK hP 0 rfl rfl 0 (by decide) (hts (.fieldLink RX4 10 "FirstStates" "circuit" "LFirstStates$Circuit;") (List.mem_of_getElem? (i := 1) rfl)) (fun _ h9 => h9) rfl dX4_input_12 ?_
  refine fx_callV (As := []) (rest := []) ⟨hx, hb, hml, hown, hts⟩ (c_X0_isFull l D cI cJ cZ q xro xtk xli cn ci cs cso cki cfa cfb cfc cva csn csd csl csb csr csc won wle pte pho nwa nti (by first | assumption | omega)) (cwV 0 hts gX4_input_X0_isFull rfl rfl rfl kv_X0_isFull ⟨Nat.le_of_ble_eq_true rfl, Nat.le_of_ble_eq_true rfl⟩) hK hP hD hS hA hZ 1 rfl rfl rfl rfl hl.1 rfl (lv_room (Nat.le_of_ble_eq_true rfl)) dX4_input_15 ⟨Nat.zero_le _, Nat.zero_le _⟩ (fun u_1 H locs hu_1 hP hD hS => ?_)
  refine lv_if_eq (tgt := 24) hx hb dX4_input_18 (by decide) (fun c_18 => ?_) (fun c_18 => ?_)
  · have f_18 : (decide (32 ≤ cn)) = false := bI_0.mp c_18
    refine lv_aload_n hx hb dX4_input_24 rfl (lv_at hl 0 rfl) ?_
    refine va_get (D := D) (ci := 4) (v := .ref (q 1)) (C := RX4) (T := TX4) (N := 7) hx hb hts (fun w h => List.mem_cons_of_mem _ (List.mem_append_left _ (List.mem_append_left _ (List.mem_append_left _ (List.mem_append_right _ h))))) hown hK hP 0 rfl rfl 0 (by decide) (hts (.fieldLink RX4 10 "FirstStates" "circuit" "LFirstStates$Circuit;") (List.mem_of_getElem? (i := 1) rfl)) (fun _ h9 => h9) rfl dX4_input_25 ?_
    refine fx_callV (As := []) (rest := []) ⟨hx, hb, hml, hown, hts⟩ (c_X0_addInput l D cI cJ cZ q xro xtk xli cn ci cs cso cki cfa cfb cfc cva csn csd csl csb csr csc won wle pte pho nwa nti (by first | assumption | omega)) (cwV 0 hts gX4_input_X0_addInput rfl rfl rfl kv_X0_addInput ⟨Nat.le_of_ble_eq_true rfl, Nat.le_of_ble_eq_true rfl⟩) hK hP hD hS hA hZ 1 rfl rfl rfl rfl hl.1 rfl (lv_room (Nat.le_of_ble_eq_true rfl)) dX4_input_28 ⟨Nat.zero_le _, Nat.zero_le _⟩ (fun u_2 H locs hu_2 hP hD hS => ?_)
    have hP : va_P D vwCl (wA q cI cJ xro xtk xli (cn + 1) (ci + 1) cs (va_up cso cn 0) cki cfa cfb cfc (va_up cva cn 2) csn csd csl csb csr csc won wle pte pho nwa nti) H := hP
    have hD : va_D A (wA q cI cJ xro xtk xli (cn + 1) (ci + 1) cs (va_up cso cn 0) cki cfa cfb cfc (va_up cva cn 2) csn csd csl csb csr csc won wle pte pho nwa nti) := fx_D hD rfl
    refine lv_istore_n (lv' := [(1, .int (nI cn)), (0, .ref (q 0))]) hx hb dX4_input_31 rfl hl (by decide) rfl (fun ls hl => ?_)
    refine lv_aload_n hx hb dX4_input_32 rfl (lv_at hl 1 rfl) ?_
    refine fx_callV (As := []) (rest := []) ⟨hx, hb, hml, hown, hts⟩ (c_X4_beginAgain l D cI cJ cZ q xro xtk xli (cn + 1) (ci + 1) cs (va_up cso cn 0) cki cfa cfb cfc (va_up cva cn 2) csn csd csl csb csr csc won wle pte pho nwa nti (by first | assumption | omega)) (cwV 0 hts gX4_input_X4_beginAgain rfl rfl rfl kv_X4_beginAgain ⟨Nat.le_of_ble_eq_true rfl, Nat.le_of_ble_eq_true rfl⟩) hK hP hD hS hA hZ 0 rfl rfl rfl rfl hl.1 rfl (lv_room (Nat.le_of_ble_eq_true rfl)) dX4_input_33 ⟨Nat.zero_le _, Nat.zero_le _⟩ (fun u_3 H locs hu_3 hP hD hS => ?_)
    have hP : va_P D vwCl (wA q cI cJ (alR cs) 0 xli (cn + 1) (ci + 1) cs (va_up cso cn 0) cki cfa cfb cfc (va_up cva cn 2) csn csd csl csb csr csc won wle pte (mixF (fun _ => 2) pho 6) nwa nti) H := hP
    have hD : va_D A (wA q cI cJ (alR cs) 0 xli (cn + 1) (ci + 1) cs (va_up cso cn 0) cki cfa cfb cfc (va_up cva cn 2) csn csd csl csb csr csc won wle pte (mixF (fun _ => 2) pho 6) nwa nti) := fx_D hD rfl
    refine lv_iload_n hx hb dX4_input_36 rfl (lv_at hl 0 rfl) ?_
    exact hri () _ H locs 37 ls .int rfl rfl trivial rfl hP hD hS dX4_input_37
  have f_18 : (decide (32 ≤ cn)) = true := bI_n0.mp c_18
  exfalso; simp at f_18; omega
set_option maxHeartbeats 4000000 in
set_option maxRecDepth 100000 in
theorem c_X4_fixed_o (l : Launch) (D : va_G) (cI cJ cZ : ClassId) (q : Nat → Nat) (xro : Int64) (xtk : Nat) (xli : Nat) (cn : Nat) (ci : Nat) (cs : Nat) (cso : Nat → Nat) (cki : Nat → Nat) (cfa : Nat → Nat) (cfb : Nat → Nat) (cfc : Nat → Nat) (cva : Nat → Nat) (csn : Nat → Nat) (csd : Nat → Nat) (csl : Nat → Nat) (csb : Nat → Nat) (csr : Nat → Nat) (csc : Nat → Nat) (won : Nat → Int64) (wle : Nat → Int64) (pte : Nat → Nat) (pho : Nat → Nat) (nwa : Nat → Int32) (nti : Nat → Int32) (x : Int32) (hx0 : bitB x = false) : Ct l D cI cJ cZ yX4_fixed wsX4_fixed ({ frames := 1, cells := 0, slots := 0, locals := 20 } : Room) 0 0 [.ref (q 0), .int x] (wA q cI cJ xro xtk xli cn ci cs cso cki cfa cfb cfc cva csn csd csl csb csr csc won wle pte pho nwa nti) (S := Unit) (fun u => True) (fun u => some (.int (-2))) (fun u => (wA q cI cJ xro xtk xli cn ci cs cso cki cfa cfb cfc cva csn csd csl csb csr csc won wle pte pho nwa nti)) := by
  refine Ct.ofW (cc := cX4_fixed) (maxL := 3) (ret := (some .int)) (R_C := RX4) (by decide +kernel) rfl rfl (Nat.le_of_ble_eq_true rfl) rfl ?_
  intro p e s m args below meth c A Q ls H locs hx hb hml hown hts hK hA hP hD hS hZ hl hri hrl hrv
  refine lv_iload_n hx hb dX4_fixed_0 rfl (lv_at hl 1 rfl) ?_
  refine fx_callS (As := [.int x]) (rest := []) ⟨hx, hb, hml, hown, hts⟩ (c_X4_isBit l D cI cJ cZ (wA q cI cJ xro xtk xli cn ci cs cso cki cfa cfb cfc cva csn csd csl csb csr csc won wle pte pho nwa nti) x) (va_cwS 1 hts gX4_fixed_X4_isBit rfl rfl rfl ks_X4_isBit ⟨Nat.le_of_ble_eq_true rfl, Nat.le_of_ble_eq_true rfl⟩) hK hP hD hS hA hZ rfl hl.1 rfl (lv_room (Nat.le_of_ble_eq_true rfl)) dX4_fixed_1 ⟨Nat.zero_le _, Nat.zero_le _⟩ (fun u_1 H locs hu_1 hP hD hS => ?_)
  refine lv_if_ne (tgt := 10) hx hb dX4_fixed_4 (by decide) (fun c_4 => ?_) (fun c_4 => ?_)
  · have f_4 : (bitB x) = true := bI_n0.mp c_4
    exfalso; rw [hx0] at f_4; cases f_4
  have f_4 : (bitB x) = false := bI_0.mp c_4
  refine lv_bipush (v := (-2)) hx hb dX4_fixed_7 (by decide) ?_
  exact hri () _ H locs 9 ls .int rfl rfl trivial rfl hP hD hS dX4_fixed_9
set_option maxHeartbeats 4000000 in
set_option maxRecDepth 100000 in
theorem c_X4_fixed_f (l : Launch) (D : va_G) (cI cJ cZ : ClassId) (q : Nat → Nat) (xro : Int64) (xtk : Nat) (xli : Nat) (cn : Nat) (ci : Nat) (cs : Nat) (cso : Nat → Nat) (cki : Nat → Nat) (cfa : Nat → Nat) (cfb : Nat → Nat) (cfc : Nat → Nat) (cva : Nat → Nat) (csn : Nat → Nat) (csd : Nat → Nat) (csl : Nat → Nat) (csb : Nat → Nat) (csr : Nat → Nat) (csc : Nat → Nat) (won : Nat → Int64) (wle : Nat → Int64) (pte : Nat → Nat) (pho : Nat → Nat) (nwa : Nat → Int32) (nti : Nat → Int32) (v : Nat) (hv : v ≤ 1) (hcn : cn = 32) : Ct l D cI cJ cZ yX4_fixed wsX4_fixed ({ frames := 1, cells := 0, slots := 0, locals := 20 } : Room) 0 0 [.ref (q 0), .int (nI v)] (wA q cI cJ xro xtk xli cn ci cs cso cki cfa cfb cfc cva csn csd csl csb csr csc won wle pte pho nwa nti) (S := Unit) (fun u => True) (fun u => some (.int (-4))) (fun u => (wA q cI cJ xro xtk xli cn ci cs cso cki cfa cfb cfc cva csn csd csl csb csr csc won wle pte pho nwa nti)) := by
  refine Ct.ofW (cc := cX4_fixed) (maxL := 3) (ret := (some .int)) (R_C := RX4) (by decide +kernel) rfl rfl (Nat.le_of_ble_eq_true rfl) rfl ?_
  intro p e s m args below meth c A Q ls H locs hx hb hml hown hts hK hA hP hD hS hZ hl hri hrl hrv
  refine lv_iload_n hx hb dX4_fixed_0 rfl (lv_at hl 1 rfl) ?_
  refine fx_callS (As := [.int (nI v)]) (rest := []) ⟨hx, hb, hml, hown, hts⟩ (c_X4_isBit l D cI cJ cZ (wA q cI cJ xro xtk xli cn ci cs cso cki cfa cfb cfc cva csn csd csl csb csr csc won wle pte pho nwa nti) (nI v)) (va_cwS 1 hts gX4_fixed_X4_isBit rfl rfl rfl ks_X4_isBit ⟨Nat.le_of_ble_eq_true rfl, Nat.le_of_ble_eq_true rfl⟩) hK hP hD hS hA hZ rfl hl.1 rfl (lv_room (Nat.le_of_ble_eq_true rfl)) dX4_fixed_1 ⟨Nat.zero_le _, Nat.zero_le _⟩ (fun u_1 H locs hu_1 hP hD hS => ?_)
  refine lv_if_ne (tgt := 10) hx hb dX4_fixed_4 (by decide) (fun c_4 => ?_) (fun c_4 => ?_)
  · have f_4 : (bitB (nI v)) = true := bI_n0.mp c_4
    refine lv_aload_n hx hb dX4_fixed_10 rfl (lv_at hl 0 rfl) ?_
    refine va_get (D := D) (ci := 4) (v := .ref (q 1)) (C := RX4) (T := TX4) (N := 7) hx hb hts (fun w h => List.mem_cons_of_mem _ (List.mem_append_left _ (List.mem_append_left _ (List.mem_append_left _ (List.mem_append_right _ h))))) hown hK hP 0 rfl rfl 0 (by decide) (hts (.fieldLink RX4 10 "FirstStates" "circuit" "LFirstStates$Circuit;") (List.mem_of_getElem? (i := 1) rfl)) (fun _ h9 => h9) rfl dX4_fixed_11 ?_
    refine fx_callV (As := []) (rest := []) ⟨hx, hb, hml, hown, hts⟩ (c_X0_isFull l D cI cJ cZ q xro xtk xli cn ci cs cso cki cfa cfb cfc cva csn csd csl csb csr csc won wle pte pho nwa nti (by omega)) (cwV 0 hts gX4_fixed_X0_isFull rfl rfl rfl kv_X0_isFull ⟨Nat.le_of_ble_eq_true rfl, Nat.le_of_ble_eq_true rfl⟩) hK hP hD hS hA hZ 1 rfl rfl rfl rfl hl.1 rfl (lv_room (Nat.le_of_ble_eq_true rfl)) dX4_fixed_14 ⟨Nat.zero_le _, Nat.zero_le _⟩ (fun u_2 H locs hu_2 hP hD hS => ?_)
    refine lv_if_eq (tgt := 23) hx hb dX4_fixed_17 (by decide) (fun c_17 => ?_) (fun c_17 => ?_)
    · have f_17 : (decide (32 ≤ cn)) = false := bI_0.mp c_17
      exfalso; simp at f_17; omega
    have f_17 : (decide (32 ≤ cn)) = true := bI_n0.mp c_17
    refine lv_bipush (v := (-4)) hx hb dX4_fixed_20 (by decide) ?_
    exact hri () _ H locs 22 ls .int rfl rfl trivial rfl hP hD hS dX4_fixed_22
  have f_4 : (bitB (nI v)) = false := bI_0.mp c_4
  exfalso; rw [bitB_nI hv] at f_4; cases f_4
set_option maxHeartbeats 4000000 in
set_option maxRecDepth 100000 in
theorem c_X4_fixed (l : Launch) (D : va_G) (cI cJ cZ : ClassId) (q : Nat → Nat) (xro : Int64) (xtk : Nat) (xli : Nat) (cn : Nat) (ci : Nat) (cs : Nat) (cso : Nat → Nat) (cki : Nat → Nat) (cfa : Nat → Nat) (cfb : Nat → Nat) (cfc : Nat → Nat) (cva : Nat → Nat) (csn : Nat → Nat) (csd : Nat → Nat) (csl : Nat → Nat) (csb : Nat → Nat) (csr : Nat → Nat) (csc : Nat → Nat) (won : Nat → Int64) (wle : Nat → Int64) (pte : Nat → Nat) (pho : Nat → Nat) (nwa : Nat → Int32) (nti : Nat → Int32) (v : Nat) (hv : v ≤ 1) (hcn : cn < 32) (hcs : cs ≤ 6) : Ct l D cI cJ cZ yX4_fixed wsX4_fixed ({ frames := 3, cells := 0, slots := 0, locals := 61 } : Room) 0 0 [.ref (q 0), .int (nI v)] (wA q cI cJ xro xtk xli cn ci cs cso cki cfa cfb cfc cva csn csd csl csb csr csc won wle pte pho nwa nti) (S := Unit) (fun u => True) (fun u => some (.int (nI cn))) (fun u => (wA q cI cJ (alR cs) 0 xli (cn + 1) ci cs (va_up cso cn 1) cki cfa cfb cfc (va_up cva cn v) csn csd csl csb csr csc won wle pte (mixF (fun _ => 2) pho 6) nwa nti)) := by
  refine Ct.ofW (cc := cX4_fixed) (maxL := 3) (ret := (some .int)) (R_C := RX4) (by decide +kernel) rfl rfl (Nat.le_of_ble_eq_true rfl) rfl ?_
  intro p e s m args below meth c A Q ls H locs hx hb hml hown hts hK hA hP hD hS hZ hl hri hrl hrv
  refine lv_iload_n hx hb dX4_fixed_0 rfl (lv_at hl 1 rfl) ?_
  refine fx_callS (As := [.int (nI v)]) (rest := []) ⟨hx, hb, hml, hown, hts⟩ (c_X4_isBit l D cI cJ cZ (wA q cI cJ xro xtk xli cn ci cs cso cki cfa cfb cfc cva csn csd csl csb csr csc won wle pte pho nwa nti) (nI v)) (va_cwS 1 hts gX4_fixed_X4_isBit rfl rfl rfl ks_X4_isBit ⟨Nat.le_of_ble_eq_true rfl, Nat.le_of_ble_eq_true rfl⟩) hK hP hD hS hA hZ rfl hl.1 rfl (lv_room (Nat.le_of_ble_eq_true rfl)) dX4_fixed_1 ⟨Nat.zero_le _, Nat.zero_le _⟩ (fun u_1 H locs hu_1 hP hD hS => ?_)
  refine lv_if_ne (tgt := 10) hx hb dX4_fixed_4 (by decide) (fun c_4 => ?_) (fun c_4 => ?_)
  · have f_4 : (bitB (nI v)) = true := bI_n0.mp c_4
    refine lv_aload_n hx hb dX4_fixed_10 rfl (lv_at hl 0 rfl) ?_
    refine va_get (D := D) (ci := 4) (v := .ref (q 1)) (C := RX4) (T := TX4) (N := 7) hx hb hts (fun w h => List.mem_cons_of_mem _ (List.mem_append_left _ (List.mem_append_left _ (List.mem_append_left _ (List.mem_append_right _ h))))) hown hK hP 0 rfl rfl 0 (by decide) (hts (.fieldLink RX4 10 "FirstStates" "circuit" "LFirstStates$Circuit;") (List.mem_of_getElem? (i := 1) rfl)) (fun _ h9 => h9) rfl dX4_fixed_11 ?_
    refine fx_callV (As := []) (rest := []) ⟨hx, hb, hml, hown, hts⟩ (c_X0_isFull l D cI cJ cZ q xro xtk xli cn ci cs cso cki cfa cfb cfc cva csn csd csl csb csr csc won wle pte pho nwa nti (by omega)) (cwV 0 hts gX4_fixed_X0_isFull rfl rfl rfl kv_X0_isFull ⟨Nat.le_of_ble_eq_true rfl, Nat.le_of_ble_eq_true rfl⟩) hK hP hD hS hA hZ 1 rfl rfl rfl rfl hl.1 rfl (lv_room (Nat.le_of_ble_eq_true rfl)) dX4_fixed_14 ⟨Nat.zero_le _, Nat.zero_le _⟩ (fun u_2 H locs hu_2 hP hD hS => ?_)
    refine lv_if_eq (tgt := 23) hx hb dX4_fixed_17 (by decide) (fun c_17 => ?_) (fun c_17 => ?_)
    · have f_17 : (decide (32 ≤ cn)) = false := bI_0.mp c_17
      refine lv_aload_n hx hb dX4_fixed_23 rfl (lv_at hl 0 rfl) ?_
      refine va_get (D := D) (ci := 4) (v := .ref (q 1)) (C := RX4) (T := TX4) (N := 7) hx hb hts (fun w h => List.mem_cons_of_mem _ (List.mem_append_left _ (List.mem_append_left _ (List.mem_append_left _ (List.mem_append_right _ h))))) hown hK hP 0 rfl rfl 0 (by decide) (hts (.fieldLink RX4 10 "FirstStates" "circuit" "LFirstStates$Circuit;") (List.mem_of_getElem? (i := 1) rfl)) (fun _ h9 => h9) rfl dX4_fixed_24 ?_
      refine lv_iload_n hx hb dX4_fixed_27 rfl (lv_at hl 1 rfl) ?_
      refine fx_callV (As := [.int (nI v)]) (rest := []) ⟨hx, hb, hml, hown, hts⟩ (c_X0_addFixed l D cI cJ cZ q xro xtk xli cn ci cs cso cki cfa cfb cfc cva csn csd csl csb csr csc won wle pte pho nwa nti v (by first | assumption | omega)) (cwV 1 hts gX4_fixed_X0_addFixed rfl rfl rfl kv_X0_addFixed ⟨Nat.le_of_ble_eq_true rfl, Nat.le_of_ble_eq_true rfl⟩) hK hP hD hS hA hZ 1 rfl rfl rfl rfl hl.1 rfl (lv_room (Nat.le_of_ble_eq_true rfl)) dX4_fixed_28 ⟨Nat.zero_le _, Nat.zero_le _⟩ (fun u_3 H locs hu_3 hP hD hS => ?_)
      have hP : va_P D vwCl (wA q cI cJ xro xtk xli (cn + 1) ci cs (va_up cso cn 1) cki cfa cfb cfc (va_up cva cn v) csn csd csl csb csr csc won wle pte pho nwa nti) H := hP
      have hD : va_D A (wA q cI cJ xro xtk xli (cn + 1) ci cs (va_up cso cn 1) cki cfa cfb cfc (va_up cva cn v) csn csd csl csb csr csc won wle pte pho nwa nti) := fx_D hD rfl
      refine lv_istore_n (lv' := [(2, .int (nI cn)), (0, .ref (q 0)), (1, .int (nI v))]) hx hb dX4_fixed_31 rfl hl (by decide) rfl (fun ls hl => ?_)
      refine lv_aload_n hx hb dX4_fixed_32 rfl (lv_at hl 1 rfl) ?_
      refine fx_callV (As := []) (rest := []) ⟨hx, hb, hml, hown, hts⟩ (c_X4_beginAgain l D cI cJ cZ q xro xtk xli (cn + 1) ci cs (va_up cso cn 1) cki cfa cfb cfc (va_up cva cn v) csn csd csl csb csr csc won wle pte pho nwa nti (by first | assumption | omega)) (cwV 0 hts gX4_fixed_X4_beginAgain rfl rfl rfl kv_X4_beginAgain ⟨Nat.le_of_ble_eq_true rfl, Nat.le_of_ble_eq_true rfl⟩) hK hP hD hS hA hZ 0 rfl rfl rfl rfl hl.1 rfl (lv_room (Nat.le_of_ble_eq_true rfl)) dX4_fixed_33 ⟨Nat.zero_le _, Nat.zero_le _⟩ (fun u_4 H locs hu_4 hP hD hS => ?_)
      have hP : va_P D vwCl (wA q cI cJ (alR cs) 0 xli (cn + 1) ci cs (va_up cso cn 1) cki cfa cfb cfc (va_up cva cn v) csn csd csl csb csr csc won wle pte (mixF (fun _ => 2) pho 6) nwa nti) H := hP
      have hD : va_D A (wA q cI cJ (alR cs) 0 xli (cn + 1) ci cs (va_up cso cn 1) cki cfa cfb cfc (va_up cva cn v) csn csd csl csb csr csc won wle pte (mixF (fun _ => 2) pho 6) nwa nti) := fx_D hD rfl
      refine lv_iload_n hx hb dX4_fixed_36 rfl (lv_at hl 0 rfl) ?_
      exact hri () _ H locs 37 ls .int rfl rfl trivial rfl hP hD hS dX4_fixed_37
    have f_17 : (decide (32 ≤ cn)) = true := bI_n0.mp c_17
    exfalso; simp at f_17; omega
  have f_4 : (bitB (nI v)) = false := bI_0.mp c_4
  exfalso; rw [bitB_nI hv] at f_4; cases f_4
set_option maxHeartbeats 4000000 in
set_option maxRecDepth 100000 in
theorem c_X4_gate_o (l : Launch) (D : va_G) (cI cJ cZ : ClassId) (q : Nat → Nat) (xro : Int64) (xtk : Nat) (xli : Nat) (cn : Nat) (ci : Nat) (cs : Nat) (cso : Nat → Nat) (cki : Nat → Nat) (cfa : Nat → Nat) (cfb : Nat → Nat) (cfc : Nat → Nat) (cva : Nat → Nat) (csn : Nat → Nat) (csd : Nat → Nat) (csl : Nat → Nat) (csb : Nat → Nat) (csr : Nat → Nat) (csc : Nat → Nat) (won : Nat → Int64) (wle : Nat → Int64) (pte : Nat → Nat) (pho : Nat → Nat) (nwa : Nat → Int32) (nti : Nat → Int32) (k : Int32) (x : Int32) (y : Int32) (zz : Int32) (hk : k < 0 ∨ ¬ k ≤ nI 4) : Ct l D cI cJ cZ yX4_gate wsX4_gate ({ frames := 0, cells := 0, slots := 0, locals := 0 } : Room) 0 0 [.ref (q 0), .int k, .int x, .int y, .int zz] (wA q cI cJ xro xtk xli cn ci cs cso cki cfa cfb cfc cva csn csd csl csb csr csc won wle pte pho nwa nti) (S := Unit) (fun u => True) (fun u => some (.int (-2))) (fun u => (wA q cI cJ xro xtk xli cn ci cs cso cki cfa cfb cfc cva csn csd csl csb csr csc won wle pte pho nwa nti)) := by
  refine Ct.ofW (cc := cX4_gate) (maxL := 8) (ret := (some .int)) (R_C := RX4) (by decide +kernel) rfl rfl (Nat.le_of_ble_eq_true rfl) rfl ?_
  intro p e s m args below meth c A Q ls H locs hx hb hml hown hts hK hA hP hD hS hZ hl hri hrl hrv
  refine lv_iload_n hx hb dX4_gate_0 rfl (lv_at hl 1 rfl) ?_
  refine lv_if_lt (tgt := 9) hx hb dX4_gate_1 (by decide) (fun c_1 => ?_) (fun c_1 => ?_)
  · refine lv_bipush (v := (-2)) hx hb dX4_gate_9 (by decide) ?_
    exact hri () _ H locs 11 ls .int rfl rfl trivial rfl hP hD hS dX4_gate_11
  refine lv_iload_n hx hb dX4_gate_4 rfl (lv_at hl 1 rfl) ?_
  refine lv_iconst (v := nI 4) hx hb dX4_gate_5 (by decide) ?_
  refine lv_icmp_le (tgt := 12) hx hb dX4_gate_6 (by decide) (fun c_6 => ?_) (fun c_6 => ?_)
  · exfalso; rcases hk with h | h; exact c_1 h; exact h c_6
  refine lv_bipush (v := (-2)) hx hb dX4_gate_9 (by decide) ?_
  exact hri () _ H locs 11 ls .int rfl rfl trivial rfl hP hD hS dX4_gate_11
set_option maxHeartbeats 4000000 in
set_option maxRecDepth 100000 in
theorem c_X4_gate_u (l : Launch) (D : va_G) (cI cJ cZ : ClassId) (q : Nat → Nat) (xro : Int64) (xtk : Nat) (xli : Nat) (cn : Nat) (ci : Nat) (cs : Nat) (cso : Nat → Nat) (cki : Nat → Nat) (cfa : Nat → Nat) (cfb : Nat → Nat) (cfc : Nat → Nat) (cva : Nat → Nat) (csn : Nat → Nat) (csd : Nat → Nat) (csl : Nat → Nat) (csb : Nat → Nat) (csr : Nat → Nat) (csc : Nat → Nat) (won : Nat → Int64) (wle : Nat → Int64) (pte : Nat → Nat) (pho : Nat → Nat) (nwa : Nat → Int32) (nti : Nat → Int32) (k : Nat) (x : Int32) (y : Int32) (zz : Int32) (hcn : cn ≤ 32) (hk : k ≤ 4) (hu : (!isN cn x || (!decide (k = 0) && !isN cn y) || (decide (k = 4) && !isN cn zz)) = true) : Ct l D cI cJ cZ yX4_gate wsX4_gate ({ frames := 1, cells := 0, slots := 0, locals := 21 } : Room) 0 0 [.ref (q 0), .int (nI k), .int x, .int y, .int zz] (wA q cI cJ xro xtk xli cn ci cs cso cki cfa cfb cfc cva csn csd csl csb csr csc won wle pte pho nwa nti) (S := Unit) (fun u => True) (fun u => some (.int (-1))) (fun u => (wA q cI cJ xro xtk xli cn ci cs cso cki cfa cfb cfc cva csn csd csl csb csr csc won wle pte pho nwa nti)) := by
  refine Ct.ofW (cc := cX4_gate) (maxL := 8) (ret := (some .int)) (R_C := RX4) (by decide +kernel) rfl rfl (Nat.le_of_ble_eq_true rfl) rfl ?_
  intro p e s m args below meth c A Q ls H locs hx hb hml hown hts hK hA hP hD hS hZ hl hri hrl hrv
  refine lv_iload_n hx hb dX4_gate_0 rfl (lv_at hl 1 rfl) ?_
  refine lv_if_lt (tgt := 9) hx hb dX4_gate_1 (by decide) (fun c_1 => ?_) (fun c_1 => ?_)
  · have f_1 : k < 0 := (nI_ltI (a := k) (b := 0) (by first | omega | exact b_and1 _ | exact b_ct _ _ (by omega) | exact b_andr _ (by omega)) (by first | omega | exact b_and1 _ | exact b_ct _ _ (by omega) | exact b_andr _ (by omega))).mp c_1
    exfalso; omega
  have f_1 : ¬ k < 0 := fun h => c_1 ((nI_ltI (a := k) (b := 0) (by first | omega | exact b_and1 _ | exact b_ct _ _ (by omega) | exact b_andr _ (by omega)) (by first | omega | exact b_and1 _ | exact b_ct _ _ (by omega) | exact b_andr _ (by omega))).mpr h)
  refine lv_iload_n hx hb dX4_gate_4 rfl (lv_at hl 1 rfl) ?_
  refine lv_iconst (v := nI 4) hx hb dX4_gate_5 (by decide) ?_
  refine lv_icmp_le (tgt := 12) hx hb dX4_gate_6 (by decide) (fun c_6 => ?_) (fun c_6 => ?_)
  · have f_6 : k ≤ 4 := (nI_leI (a := k) (b := 4) (by first | omega | exact b_and1 _ | exact b_ct _ _ (by omega) | exact b_andr _ (by omega)) (by first | omega | exact b_and1 _ | exact b_ct _ _ (by omega) | exact b_andr _ (by omega))).mp c_6
    refine lv_iload_n hx hb dX4_gate_12 rfl (lv_at hl 1 rfl) ?_
    refine lv_if_eq (tgt := 20) hx hb dX4_gate_13 (by decide) (fun c_13 => ?_) (fun c_13 => ?_)
    · have f_13 : k = 0 := (nI_eq (a := k) (b := 0) (by first | omega | exact b_and1 _ | exact b_ct _ _ (by omega) | exact b_andr _ (by omega)) (by first | omega | exact b_and1 _ | exact b_ct _ _ (by omega) | exact b_andr _ (by omega))).mp c_13
      refine lv_iconst (v := nI 0) hx hb dX4_gate_20 (by decide) ?_
      refine lv_istore (lv' := [(5, .int (nI 0)), (0, .ref (q 0)), (1, .int (nI k)), (2, .int x), (3, .int y), (4, .int zz)]) hx hb dX4_gate_21 hl (by decide) rfl (fun ls hl => ?_)
      refine lv_iload_n hx hb dX4_gate_23 rfl (lv_at hl 2 rfl) ?_
      refine lv_iconst (v := nI 4) hx hb dX4_gate_24 (by decide) ?_
      refine lv_icmp_ne (tgt := 32) hx hb dX4_gate_25 (by decide) (fun c_25 => ?_) (fun c_25 => ?_)
      · have f_25 : ¬ k = 4 := fun h => c_25 ((nI_eq (a := k) (b := 4) (by first | omega | exact b_and1 _ | exact b_ct _ _ (by omega) | exact b_andr _ (by omega)) (by first | omega | exact b_and1 _ | exact b_ct _ _ (by omega) | exact b_andr _ (by omega))).mpr h)
        refine lv_iconst (v := nI 0) hx hb dX4_gate_32 (by decide) ?_
        refine lv_istore (lv' := [(6, .int (nI 0)), (5, .int (nI 0)), (0, .ref (q 0)), (1, .int (nI k)), (2, .int x), (3, .int y), (4, .int zz)]) hx hb dX4_gate_33 hl (by decide) rfl (fun ls hl => ?_)
        refine lv_aload_n hx hb dX4_gate_35 rfl (lv_at hl 2 rfl) ?_
        refine va_get (D := D) (ci := 4) (v := .ref (q 1)) (C := RX4) (T := TX4) (N := 7) hx hb hts (fun w h => List.mem_cons_of_mem _ (List.mem_append_left _ (List.mem_append_left _ (List.mem_append_left _ (List.mem_append_right _ h))))) hown hK hP 0 rfl rfl 0 (by decide) (hts (.fieldLink RX4 10 "FirstStates" "circuit" "LFirstStates$Circuit;") (List.mem_of_getElem? (i := 1) rfl)) (fun _ h9 => h9) rfl dX4_gate_36 ?_
        refine lv_iload_n hx hb dX4_gate_39 rfl (lv_at hl 4 rfl) ?_
        refine fx_callV (As := [.int x]) (rest := []) ⟨hx, hb, hml, hown, hts⟩ (c_X0_isNode l D cI cJ cZ q xro xtk xli cn ci cs cso cki cfa cfb cfc cva csn csd csl csb csr csc won wle pte pho nwa nti x) (cwV 1 hts gX4_gate_X0_isNode rfl rfl rfl kv_X0_isNode ⟨Nat.le_of_ble_eq_true rfl, Nat.le_of_ble_eq_true rfl⟩) hK hP hD hS hA hZ 1 rfl rfl rfl rfl hl.1 rfl (lv_room (Nat.le_of_ble_eq_true rfl)) dX4_gate_40 ⟨Nat.zero_le _, Nat.zero_le _⟩ (fun u_1 H locs hu_1 hP hD hS => ?_)
        refine lv_if_eq (tgt := 79) hx hb dX4_gate_43 (by decide) (fun c_43 => ?_) (fun c_43 => ?_)
        · have f_43 : (isN cn x) = false := bI_0.mp c_43
          refine lv_iconst (v := (-1)) hx hb dX4_gate_79 (by decide) ?_
          exact hri () _ H locs 80 ls .int rfl rfl trivial rfl hP hD hS dX4_gate_80
        have f_43 : (isN cn x) = true := bI_n0.mp c_43
        refine lv_iload hx hb dX4_gate_46 (lv_at hl 1 rfl) ?_
        refine lv_if_eq (tgt := 62) hx hb dX4_gate_48 (by decide) (fun c_48 => ?_) (fun c_48 => ?_)
        · have f_48 : 0 = 0 := (nI_eq (a := 0) (b := 0) (by first | omega | exact b_and1 _ | exact b_ct _ _ (by omega) | exact b_andr _ (by omega)) (by first | omega | exact b_and1 _ | exact b_ct _ _ (by omega) | exact b_andr _ (by omega))).mp c_48
          refine lv_iload hx hb dX4_gate_62 (lv_at hl 0 rfl) ?_
          refine lv_if_eq (tgt := 81) hx hb dX4_gate_64 (by decide) (fun c_64 => ?_) (fun c_64 => ?_)
          · have f_64 : 0 = 0 := (nI_eq (a := 0) (b := 0) (by first | omega | exact b_and1 _ | exact b_ct _ _ (by omega) | exact b_andr _ (by omega)) (by first | omega | exact b_and1 _ | exact b_ct _ _ (by omega) | exact b_andr _ (by omega))).mp c_64
            exfalso; simp [f_13, f_25, f_43] at hu
          have f_64 : ¬ 0 = 0 := fun h => c_64 ((nI_eq (a := 0) (b := 0) (by first | omega | exact b_and1 _ | exact b_ct _ _ (by omega) | exact b_andr _ (by omega)) (by first | omega | exact b_and1 _ | exact b_ct _ _ (by omega) | exact b_andr _ (by omega))).mpr h)
          exfalso; omega
        have f_48 : ¬ 0 = 0 := fun h => c_48 ((nI_eq (a := 0) (b := 0) (by first | omega | exact b_and1 _ | exact b_ct _ _ (by omega) | exact b_andr _ (by omega)) (by first | omega | exact b_and1 _ | exact b_ct _ _ (by omega) | exact b_andr _ (by omega))).mpr h)
        exfalso; omega
      have f_25 : k = 4 := (nI_eq (a := k) (b := 4) (by first | omega | exact b_and1 _ | exact b_ct _ _ (by omega) | exact b_andr _ (by omega)) (by first | omega | exact b_and1 _ | exact b_ct _ _ (by omega) | exact b_andr _ (by omega))).mp c_25
      exfalso; omega
    have f_13 : ¬ k = 0 := fun h => c_13 ((nI_eq (a := k) (b := 0) (by first | omega | exact b_and1 _ | exact b_ct _ _ (by omega) | exact b_andr _ (by omega)) (by first | omega | exact b_and1 _ | exact b_ct _ _ (by omega) | exact b_andr _ (by omega))).mpr h)
    refine lv_iconst (v := nI 1) hx hb dX4_gate_16 (by decide) ?_
    refine lv_goto (tgt := 21) hx hb dX4_gate_17 (by decide) ?_
    refine lv_istore (lv' := [(5, .int (nI 1)), (0, .ref (q 0)), (1, .int (nI k)), (2, .int x), (3, .int y), (4, .int zz)]) hx hb dX4_gate_21 hl (by decide) rfl (fun ls hl => ?_)
    refine lv_iload_n hx hb dX4_gate_23 rfl (lv_at hl 2 rfl) ?_
    refine lv_iconst (v := nI 4) hx hb dX4_gate_24 (by decide) ?_
    refine lv_icmp_ne (tgt := 32) hx hb dX4_gate_25 (by decide) (fun c_25 => ?_) (fun c_25 => ?_)
    · have f_25 : ¬ k = 4 := fun h => c_25 ((nI_eq (a := k) (b := 4) (by first | omega | exact b_and1 _ | exact b_ct _ _ (by omega) | exact b_andr _ (by omega)) (by first | omega | exact b_and1 _ | exact b_ct _ _ (by omega) | exact b_andr _ (by omega))).mpr h)
      refine lv_iconst (v := nI 0) hx hb dX4_gate_32 (by decide) ?_
      refine lv_istore (lv' := [(6, .int (nI 0)), (5, .int (nI 1)), (0, .ref (q 0)), (1, .int (nI k)), (2, .int x), (3, .int y), (4, .int zz)]) hx hb dX4_gate_33 hl (by decide) rfl (fun ls hl => ?_)
      refine lv_aload_n hx hb dX4_gate_35 rfl (lv_at hl 2 rfl) ?_
      refine va_get (D := D) (ci := 4) (v := .ref (q 1)) (C := RX4) (T := TX4) (N := 7) hx hb hts (fun w h => List.mem_cons_of_mem _ (List.mem_append_left _ (List.mem_append_left _ (List.mem_append_left _ (List.mem_append_right _ h))))) hown hK hP 0 rfl rfl 0 (by decide) (hts (.fieldLink RX4 10 "FirstStates" "circuit" "LFirstStates$Circuit;") (List.mem_of_getElem? (i := 1) rfl)) (fun _ h9 => h9) rfl dX4_gate_36 ?_
      refine lv_iload_n hx hb dX4_gate_39 rfl (lv_at hl 4 rfl) ?_
      refine fx_callV (As := [.int x]) (rest := []) ⟨hx, hb, hml, hown, hts⟩ (c_X0_isNode l D cI cJ cZ q xro xtk xli cn ci cs cso cki cfa cfb cfc cva csn csd csl csb csr csc won wle pte pho nwa nti x) (cwV 1 hts gX4_gate_X0_isNode rfl rfl rfl kv_X0_isNode ⟨Nat.le_of_ble_eq_true rfl, Nat.le_of_ble_eq_true rfl⟩) hK hP hD hS hA hZ 1 rfl rfl rfl rfl hl.1 rfl (lv_room (Nat.le_of_ble_eq_true rfl)) dX4_gate_40 ⟨Nat.zero_le _, Nat.zero_le _⟩ (fun u_2 H locs hu_2 hP hD hS => ?_)
      refine lv_if_eq (tgt := 79) hx hb dX4_gate_43 (by decide) (fun c_43 => ?_) (fun c_43 => ?_)
      · have f_43 : (isN cn x) = false := bI_0.mp c_43
        refine lv_iconst (v := (-1)) hx hb dX4_gate_79 (by decide) ?_
        exact hri () _ H locs 80 ls .int rfl rfl trivial rfl hP hD hS dX4_gate_80
      have f_43 : (isN cn x) = true := bI_n0.mp c_43
      refine lv_iload hx hb dX4_gate_46 (lv_at hl 1 rfl) ?_
      refine lv_if_eq (tgt := 62) hx hb dX4_gate_48 (by decide) (fun c_48 => ?_) (fun c_48 => ?_)
      · have f_48 : 1 = 0 := (nI_eq (a := 1) (b := 0) (by first | omega | exact b_and1 _ | exact b_ct _ _ (by omega) | exact b_andr _ (by omega)) (by first | omega | exact b_and1 _ | exact b_ct _ _ (by omega) | exact b_andr _ (by omega))).mp c_48
        exfalso; omega
      have f_48 : ¬ 1 = 0 := fun h => c_48 ((nI_eq (a := 1) (b := 0) (by first | omega | exact b_and1 _ | exact b_ct _ _ (by omega) | exact b_andr _ (by omega)) (by first | omega | exact b_and1 _ | exact b_ct _ _ (by omega) | exact b_andr _ (by omega))).mpr h)
      refine lv_aload_n hx hb dX4_gate_51 rfl (lv_at hl 2 rfl) ?_
      refine va_get (D := D) (ci := 4) (v := .ref (q 1)) (C := RX4) (T := TX4) (N := 7) hx hb hts (fun w h => List.mem_cons_of_mem _ (List.mem_append_left _ (List.mem_append_left _ (List.mem_append_left _ (List.mem_append_right _ h))))) hown hK hP 0 rfl rfl 0 (by decide) (hts (.fieldLink RX4 10 "FirstStates" "circuit" "LFirstStates$Circuit;") (List.mem_of_getElem? (i := 1) rfl)) (fun _ h9 => h9) rfl dX4_gate_52 ?_
      refine lv_iload_n hx hb dX4_gate_55 rfl (lv_at hl 5 rfl) ?_
      refine fx_callV (As := [.int y]) (rest := []) ⟨hx, hb, hml, hown, hts⟩ (c_X0_isNode l D cI cJ cZ q xro xtk xli cn ci cs cso cki cfa cfb cfc cva csn csd csl csb csr csc won wle pte pho nwa nti y) (cwV 1 hts gX4_gate_X0_isNode rfl rfl rfl kv_X0_isNode ⟨Nat.le_of_ble_eq_true rfl, Nat.le_of_ble_eq_true rfl⟩) hK hP hD hS hA hZ 1 rfl rfl rfl rfl hl.1 rfl (lv_room (Nat.le_of_ble_eq_true rfl)) dX4_gate_56 ⟨Nat.zero_le _, Nat.zero_le _⟩ (fun u_3 H locs hu_3 hP hD hS => ?_)
      refine lv_if_eq (tgt := 79) hx hb dX4_gate_59 (by decide) (fun c_59 => ?_) (fun c_59 => ?_)
      · have f_59 : (isN cn y) = false := bI_0.mp c_59
        refine lv_iconst (v := (-1)) hx hb dX4_gate_79 (by decide) ?_
        exact hri () _ H locs 80 ls .int rfl rfl trivial rfl hP hD hS dX4_gate_80
      have f_59 : (isN cn y) = true := bI_n0.mp c_59
      refine lv_iload hx hb dX4_gate_62 (lv_at hl 0 rfl) ?_
      refine lv_if_eq (tgt := 81) hx hb dX4_gate_64 (by decide) (fun c_64 => ?_) (fun c_64 => ?_)
      · have f_64 : 0 = 0 := (nI_eq (a := 0) (b := 0) (by first | omega | exact b_and1 _ | exact b_ct _ _ (by omega) | exact b_andr _ (by omega)) (by first | omega | exact b_and1 _ | exact b_ct _ _ (by omega) | exact b_andr _ (by omega))).mp c_64
        exfalso; simp [f_13, f_25, f_43, f_59] at hu
      have f_64 : ¬ 0 = 0 := fun h => c_64 ((nI_eq (a := 0) (b := 0) (by first | omega | exact b_and1 _ | exact b_ct _ _ (by omega) | exact b_andr _ (by omega)) (by first | omega | exact b_and1 _ | exact b_ct _ _ (by omega) | exact b_andr _ (by omega))).mpr h)
      exfalso; omega
    have f_25 : k = 4 := (nI_eq (a := k) (b := 4) (by first | omega | exact b_and1 _ | exact b_ct _ _ (by omega) | exact b_andr _ (by omega)) (by first | omega | exact b_and1 _ | exact b_ct _ _ (by omega) | exact b_andr _ (by omega))).mp c_25
    refine lv_iconst (v := nI 1) hx hb dX4_gate_28 (by decide) ?_
    refine lv_goto (tgt := 33) hx hb dX4_gate_29 (by decide) ?_
    refine lv_istore (lv' := [(6, .int (nI 1)), (5, .int (nI 1)), (0, .ref (q 0)), (1, .int (nI k)), (2, .int x), (3, .int y), (4, .int zz)]) hx hb dX4_gate_33 hl (by decide) rfl (fun ls hl => ?_)
    refine lv_aload_n hx hb dX4_gate_35 rfl (lv_at hl 2 rfl) ?_
    refine va_get (D := D) (ci := 4) (v := .ref (q 1)) (C := RX4) (T := TX4) (N := 7) hx hb hts (fun w h => List.mem_cons_of_mem _ (List.mem_append_left _ (List.mem_append_left _ (List.mem_append_left _ (List.mem_append_right _ h))))) hown hK hP 0 rfl rfl 0 (by decide) (hts (.fieldLink RX4 10 "FirstStates" "circuit" "LFirstStates$Circuit;") (List.mem_of_getElem? (i := 1) rfl)) (fun _ h9 => h9) rfl dX4_gate_36 ?_
    refine lv_iload_n hx hb dX4_gate_39 rfl (lv_at hl 4 rfl) ?_
    refine fx_callV (As := [.int x]) (rest := []) ⟨hx, hb, hml, hown, hts⟩ (c_X0_isNode l D cI cJ cZ q xro xtk xli cn ci cs cso cki cfa cfb cfc cva csn csd csl csb csr csc won wle pte pho nwa nti x) (cwV 1 hts gX4_gate_X0_isNode rfl rfl rfl kv_X0_isNode ⟨Nat.le_of_ble_eq_true rfl, Nat.le_of_ble_eq_true rfl⟩) hK hP hD hS hA hZ 1 rfl rfl rfl rfl hl.1 rfl (lv_room (Nat.le_of_ble_eq_true rfl)) dX4_gate_40 ⟨Nat.zero_le _, Nat.zero_le _⟩ (fun u_4 H locs hu_4 hP hD hS => ?_)
    refine lv_if_eq (tgt := 79) hx hb dX4_gate_43 (by decide) (fun c_43 => ?_) (fun c_43 => ?_)
    · have f_43 : (isN cn x) = false := bI_0.mp c_43
      refine lv_iconst (v := (-1)) hx hb dX4_gate_79 (by decide) ?_
      exact hri () _ H locs 80 ls .int rfl rfl trivial rfl hP hD hS dX4_gate_80
    have f_43 : (isN cn x) = true := bI_n0.mp c_43
    refine lv_iload hx hb dX4_gate_46 (lv_at hl 1 rfl) ?_
    refine lv_if_eq (tgt := 62) hx hb dX4_gate_48 (by decide) (fun c_48 => ?_) (fun c_48 => ?_)
    · have f_48 : 1 = 0 := (nI_eq (a := 1) (b := 0) (by first | omega | exact b_and1 _ | exact b_ct _ _ (by omega) | exact b_andr _ (by omega)) (by first | omega | exact b_and1 _ | exact b_ct _ _ (by omega) | exact b_andr _ (by omega))).mp c_48
      exfalso; omega
    have f_48 : ¬ 1 = 0 := fun h => c_48 ((nI_eq (a := 1) (b := 0) (by first | omega | exact b_and1 _ | exact b_ct _ _ (by omega) | exact b_andr _ (by omega)) (by first | omega | exact b_and1 _ | exact b_ct _ _ (by omega) | exact b_andr _ (by omega))).mpr h)
    refine lv_aload_n hx hb dX4_gate_51 rfl (lv_at hl 2 rfl) ?_
    refine va_get (D := D) (ci := 4) (v := .ref (q 1)) (C := RX4) (T := TX4) (N := 7) hx hb hts (fun w h => List.mem_cons_of_mem _ (List.mem_append_left _ (List.mem_append_left _ (List.mem_append_left _ (List.mem_append_right _ h))))) hown hK hP 0 rfl rfl 0 (by decide) (hts (.fieldLink RX4 10 "FirstStates" "circuit" "LFirstStates$Circuit;") (List.mem_of_getElem? (i := 1) rfl)) (fun _ h9 => h9) rfl dX4_gate_52 ?_
    refine lv_iload_n hx hb dX4_gate_55 rfl (lv_at hl 5 rfl) ?_
    refine fx_callV (As := [.int y]) (rest := []) ⟨hx, hb, hml, hown, hts⟩ (c_X0_isNode l D cI cJ cZ q xro xtk xli cn ci cs cso cki cfa cfb cfc cva csn csd csl csb csr csc won wle pte pho nwa nti y) (cwV 1 hts gX4_gate_X0_isNode rfl rfl rfl kv_X0_isNode ⟨Nat.le_of_ble_eq_true rfl, Nat.le_of_ble_eq_true rfl⟩) hK hP hD hS hA hZ 1 rfl rfl rfl rfl hl.1 rfl (lv_room (Nat.le_of_ble_eq_true rfl)) dX4_gate_56 ⟨Nat.zero_le _, Nat.zero_le _⟩ (fun u_5 H locs hu_5 hP hD hS => ?_)
    refine lv_if_eq (tgt := 79) hx hb dX4_gate_59 (by decide) (fun c_59 => ?_) (fun c_59 => ?_)
    · have f_59 : (isN cn y) = false := bI_0.mp c_59
      refine lv_iconst (v := (-1)) hx hb dX4_gate_79 (by decide) ?_
      exact hri () _ H locs 80 ls .int rfl rfl trivial rfl hP hD hS dX4_gate_80
    have f_59 : (isN cn y) = true := bI_n0.mp c_59
    refine lv_iload hx hb dX4_gate_62 (lv_at hl 0 rfl) ?_
    refine lv_if_eq (tgt := 81) hx hb dX4_gate_64 (by decide) (fun c_64 => ?_) (fun c_64 => ?_)
    · have f_64 : 1 = 0 := (nI_eq (a := 1) (b := 0) (by first | omega | exact b_and1 _ | exact b_ct _ _ (by omega) | exact b_andr _ (by omega)) (by first | omega | exact b_and1 _ | exact b_ct _ _ (by omega) | exact b_andr _ (by omega))).mp c_64
      exfalso; omega
    have f_64 : ¬ 1 = 0 := fun h => c_64 ((nI_eq (a := 1) (b := 0) (by first | omega | exact b_and1 _ | exact b_ct _ _ (by omega) | exact b_andr _ (by omega)) (by first | omega | exact b_and1 _ | exact b_ct _ _ (by omega) | exact b_andr _ (by omega))).mpr h)
    refine lv_aload_n hx hb dX4_gate_67 rfl (lv_at hl 2 rfl) ?_
    refine va_get (D := D) (ci := 4) (v := .ref (q 1)) (C := RX4) (T := TX4) (N := 7) hx hb hts (fun w h => List.mem_cons_of_mem _ (List.mem_append_left _ (List.mem_append_left _ (List.mem_append_left _ (List.mem_append_right _ h))))) hown hK hP 0 rfl rfl 0 (by decide) (hts (.fieldLink RX4 10 "FirstStates" "circuit" "LFirstStates$Circuit;") (List.mem_of_getElem? (i := 1) rfl)) (fun _ h9 => h9) rfl dX4_gate_68 ?_
    refine lv_iload hx hb dX4_gate_71 (lv_at hl 6 rfl) ?_
    refine fx_callV (As := [.int zz]) (rest := []) ⟨hx, hb, hml, hown, hts⟩ (c_X0_isNode l D cI cJ cZ q xro xtk xli cn ci cs cso cki cfa cfb cfc cva csn csd csl csb csr csc won wle pte pho nwa nti zz) (cwV 1 hts gX4_gate_X0_isNode rfl rfl rfl kv_X0_isNode ⟨Nat.le_of_ble_eq_true rfl, Nat.le_of_ble_eq_true rfl⟩) hK hP hD hS hA hZ 1 rfl rfl rfl rfl hl.1 rfl (lv_room (Nat.le_of_ble_eq_true rfl)) dX4_gate_73 ⟨Nat.zero_le _, Nat.zero_le _⟩ (fun u_6 H locs hu_6 hP hD hS => ?_)
    refine lv_if_ne (tgt := 81) hx hb dX4_gate_76 (by decide) (fun c_76 => ?_) (fun c_76 => ?_)
    · have f_76 : (isN cn zz) = true := bI_n0.mp c_76
      exfalso; simp [f_13, f_25, f_43, f_59, f_76] at hu
    have f_76 : (isN cn zz) = false := bI_0.mp c_76
    refine lv_iconst (v := (-1)) hx hb dX4_gate_79 (by decide) ?_
    exact hri () _ H locs 80 ls .int rfl rfl trivial rfl hP hD hS dX4_gate_80
  have f_6 : ¬ k ≤ 4 := fun h => c_6 ((nI_leI (a := k) (b := 4) (by first | omega | exact b_and1 _ | exact b_ct _ _ (by omega) | exact b_andr _ (by omega)) (by first | omega | exact b_and1 _ | exact b_ct _ _ (by omega) | exact b_andr _ (by omega))).mpr h)
  exfalso; omega
set_option maxHeartbeats 4000000 in
set_option maxRecDepth 100000 in
theorem c_X4_gate_f (l : Launch) (D : va_G) (cI cJ cZ : ClassId) (q : Nat → Nat) (xro : Int64) (xtk : Nat) (xli : Nat) (cn : Nat) (ci : Nat) (cs : Nat) (cso : Nat → Nat) (cki : Nat → Nat) (cfa : Nat → Nat) (cfb : Nat → Nat) (cfc : Nat → Nat) (cva : Nat → Nat) (csn : Nat → Nat) (csd : Nat → Nat) (csl : Nat → Nat) (csb : Nat → Nat) (csr : Nat → Nat) (csc : Nat → Nat) (won : Nat → Int64) (wle : Nat → Int64) (pte : Nat → Nat) (pho : Nat → Nat) (nwa : Nat → Int32) (nti : Nat → Int32) (k : Nat) (x : Int32) (y : Int32) (zz : Int32) (hcn : cn = 32) (hk : k ≤ 4) (hu : (!isN cn x || (!decide (k = 0) && !isN cn y) || (decide (k = 4) && !isN cn zz)) = false) : Ct l D cI cJ cZ yX4_gate wsX4_gate ({ frames := 1, cells := 0, slots := 0, locals := 21 } : Room) 0 0 [.ref (q 0), .int (nI k), .int x, .int y, .int zz] (wA q cI cJ xro xtk xli cn ci cs cso cki cfa cfb cfc cva csn csd csl csb csr csc won wle pte pho nwa nti) (S := Unit) (fun u => True) (fun u => some (.int (-4))) (fun u => (wA q cI cJ xro xtk xli cn ci cs cso cki cfa cfb cfc cva csn csd csl csb csr csc won wle pte pho nwa nti)) := by
  refine Ct.ofW (cc := cX4_gate) (maxL := 8) (ret := (some .int)) (R_C := RX4) (by decide +kernel) rfl rfl (Nat.le_of_ble_eq_true rfl) rfl ?_
  intro p e s m args below meth c A Q ls H locs hx hb hml hown hts hK hA hP hD hS hZ hl hri hrl hrv
  refine lv_iload_n hx hb dX4_gate_0 rfl (lv_at hl 1 rfl) ?_
  refine lv_if_lt (tgt := 9) hx hb dX4_gate_1 (by decide) (fun c_1 => ?_) (fun c_1 => ?_)
  · have f_1 : k < 0 := (nI_ltI (a := k) (b := 0) (by first | omega | exact b_and1 _ | exact b_ct _ _ (by omega) | exact b_andr _ (by omega)) (by first | omega | exact b_and1 _ | exact b_ct _ _ (by omega) | exact b_andr _ (by omega))).mp c_1
    exfalso; omega
  have f_1 : ¬ k < 0 := fun h => c_1 ((nI_ltI (a := k) (b := 0) (by first | omega | exact b_and1 _ | exact b_ct _ _ (by omega) | exact b_andr _ (by omega)) (by first | omega | exact b_and1 _ | exact b_ct _ _ (by omega) | exact b_andr _ (by omega))).mpr h)
  refine lv_iload_n hx hb dX4_gate_4 rfl (lv_at hl 1 rfl) ?_
  refine lv_iconst (v := nI 4) hx hb dX4_gate_5 (by decide) ?_
  refine lv_icmp_le (tgt := 12) hx hb dX4_gate_6 (by decide) (fun c_6 => ?_) (fun c_6 => ?_)
  · have f_6 : k ≤ 4 := (nI_leI (a := k) (b := 4) (by first | omega | exact b_and1 _ | exact b_ct _ _ (by omega) | exact b_andr _ (by omega)) (by first | omega | exact b_and1 _ | exact b_ct _ _ (by omega) | exact b_andr _ (by omega))).mp c_6
    refine lv_iload_n hx hb dX4_gate_12 rfl (lv_at hl 1 rfl) ?_
    refine lv_if_eq (tgt := 20) hx hb dX4_gate_13 (by decide) (fun c_13 => ?_) (fun c_13 => ?_)
    · have f_13 : k = 0 := (nI_eq (a := k) (b := 0) (by first | omega | exact b_and1 _ | exact b_ct _ _ (by omega) | exact b_andr _ (by omega)) (by first | omega | exact b_and1 _ | exact b_ct _ _ (by omega) | exact b_andr _ (by omega))).mp c_13
      refine lv_iconst (v := nI 0) hx hb dX4_gate_20 (by decide) ?_
      refine lv_istore (lv' := [(5, .int (nI 0)), (0, .ref (q 0)), (1, .int (nI k)), (2, .int x), (3, .int y), (4, .int zz)]) hx hb dX4_gate_21 hl (by decide) rfl (fun ls hl => ?_)
      refine lv_iload_n hx hb dX4_gate_23 rfl (lv_at hl 2 rfl) ?_
      refine lv_iconst (v := nI 4) hx hb dX4_gate_24 (by decide) ?_
      refine lv_icmp_ne (tgt := 32) hx hb dX4_gate_25 (by decide) (fun c_25 => ?_) (fun c_25 => ?_)
      · have f_25 : ¬ k = 4 := fun h => c_25 ((nI_eq (a := k) (b := 4) (by first | omega | exact b_and1 _ | exact b_ct _ _ (by omega) | exact b_andr _ (by omega)) (by first | omega | exact b_and1 _ | exact b_ct _ _ (by omega) | exact b_andr _ (by omega))).mpr h)
        refine lv_iconst (v := nI 0) hx hb dX4_gate_32 (by decide) ?_
        refine lv_istore (lv' := [(6, .int (nI 0)), (5, .int (nI 0)), (0, .ref (q 0)), (1, .int (nI k)), (2, .int x), (3, .int y), (4, .int zz)]) hx hb dX4_gate_33 hl (by decide) rfl (fun ls hl => ?_)
        refine lv_aload_n hx hb dX4_gate_35 rfl (lv_at hl 2 rfl) ?_
        refine va_get (D := D) (ci := 4) (v := .ref (q 1)) (C := RX4) (T := TX4) (N := 7) hx hb hts (fun w h => List.mem_cons_of_mem _ (List.mem_append_left _ (List.mem_append_left _ (List.mem_append_left _ (List.mem_append_right _ h))))) hown hK hP 0 rfl rfl 0 (by decide) (hts (.fieldLink RX4 10 "FirstStates" "circuit" "LFirstStates$Circuit;") (List.mem_of_getElem? (i := 1) rfl)) (fun _ h9 => h9) rfl dX4_gate_36 ?_
        refine lv_iload_n hx hb dX4_gate_39 rfl (lv_at hl 4 rfl) ?_
        refine fx_callV (As := [.int x]) (rest := []) ⟨hx, hb, hml, hown, hts⟩ (c_X0_isNode l D cI cJ cZ q xro xtk xli cn ci cs cso cki cfa cfb cfc cva csn csd csl csb csr csc won wle pte pho nwa nti x) (cwV 1 hts gX4_gate_X0_isNode rfl rfl rfl kv_X0_isNode ⟨Nat.le_of_ble_eq_true rfl, Nat.le_of_ble_eq_true rfl⟩) hK hP hD hS hA hZ 1 rfl rfl rfl rfl hl.1 rfl (lv_room (Nat.le_of_ble_eq_true rfl)) dX4_gate_40 ⟨Nat.zero_le _, Nat.zero_le _⟩ (fun u_1 H locs hu_1 hP hD hS => ?_)
        refine lv_if_eq (tgt := 79) hx hb dX4_gate_43 (by decide) (fun c_43 => ?_) (fun c_43 => ?_)
        · have f_43 : (isN cn x) = false := bI_0.mp c_43
          exfalso; simp [f_43] at hu
        have f_43 : (isN cn x) = true := bI_n0.mp c_43
        refine lv_iload hx hb dX4_gate_46 (lv_at hl 1 rfl) ?_
        refine lv_if_eq (tgt := 62) hx hb dX4_gate_48 (by decide) (fun c_48 => ?_) (fun c_48 => ?_)
        · have f_48 : 0 = 0 := (nI_eq (a := 0) (b := 0) (by first | omega | exact b_and1 _ | exact b_ct _ _ (by omega) | exact b_andr _ (by omega)) (by first | omega | exact b_and1 _ | exact b_ct _ _ (by omega) | exact b_andr _ (by omega))).mp c_48
          refine lv_iload hx hb dX4_gate_62 (lv_at hl 0 rfl) ?_
          refine lv_if_eq (tgt := 81) hx hb dX4_gate_64 (by decide) (fun c_64 => ?_) (fun c_64 => ?_)
          · have f_64 : 0 = 0 := (nI_eq (a := 0) (b := 0) (by first | omega | exact b_and1 _ | exact b_ct _ _ (by omega) | exact b_andr _ (by omega)) (by first | omega | exact b_and1 _ | exact b_ct _ _ (by omega) | exact b_andr _ (by omega))).mp c_64
            refine lv_aload_n hx hb dX4_gate_81 rfl (lv_at hl 2 rfl) ?_
            refine va_get (D := D) (ci := 4) (v := .ref (q 1)) (C := RX4) (T := TX4) (N := 7) hx hb hts (fun w h => List.mem_cons_of_mem _ (List.mem_append_left _ (List.mem_append_left _ (List.mem_append_left _ (List.mem_append_right _ h))))) hown hK hP 0 rfl rfl 0 (by decide) (hts (.fieldLink RX4 10 "FirstStates" "circuit" "LFirstStates$Circuit;") (List.mem_of_getElem? (i := 1) rfl)) (fun _ h9 => h9) rfl dX4_gate_82 ?_
            refine fx_callV (As := []) (rest := []) ⟨hx, hb, hml, hown, hts⟩ (c_X0_isFull l D cI cJ cZ q xro xtk xli cn ci cs cso cki cfa cfb cfc cva csn csd csl csb csr csc won wle pte pho nwa nti (by first | assumption | omega)) (cwV 0 hts gX4_gate_X0_isFull rfl rfl rfl kv_X0_isFull ⟨Nat.le_of_ble_eq_true rfl, Nat.le_of_ble_eq_true rfl⟩) hK hP hD hS hA hZ 1 rfl rfl rfl rfl hl.1 rfl (lv_room (Nat.le_of_ble_eq_true rfl)) dX4_gate_85 ⟨Nat.zero_le _, Nat.zero_le _⟩ (fun u_2 H locs hu_2 hP hD hS => ?_)
            refine lv_if_eq (tgt := 94) hx hb dX4_gate_88 (by decide) (fun c_88 => ?_) (fun c_88 => ?_)
            · have f_88 : (decide (32 ≤ cn)) = false := bI_0.mp c_88
              exfalso; simp at f_88; omega
            have f_88 : (decide (32 ≤ cn)) = true := bI_n0.mp c_88
            refine lv_bipush (v := (-4)) hx hb dX4_gate_91 (by decide) ?_
            exact hri () _ H locs 93 ls .int rfl rfl trivial rfl hP hD hS dX4_gate_93
          have f_64 : ¬ 0 = 0 := fun h => c_64 ((nI_eq (a := 0) (b := 0) (by first | omega | exact b_and1 _ | exact b_ct _ _ (by omega) | exact b_andr _ (by omega)) (by first | omega | exact b_and1 _ | exact b_ct _ _ (by omega) | exact b_andr _ (by omega))).mpr h)
          exfalso; omega
        have f_48 : ¬ 0 = 0 := fun h => c_48 ((nI_eq (a := 0) (b := 0) (by first | omega | exact b_and1 _ | exact b_ct _ _ (by omega) | exact b_andr _ (by omega)) (by first | omega | exact b_and1 _ | exact b_ct _ _ (by omega) | exact b_andr _ (by omega))).mpr h)
        exfalso; omega
      have f_25 : k = 4 := (nI_eq (a := k) (b := 4) (by first | omega | exact b_and1 _ | exact b_ct _ _ (by omega) | exact b_andr _ (by omega)) (by first | omega | exact b_and1 _ | exact b_ct _ _ (by omega) | exact b_andr _ (by omega))).mp c_25
      exfalso; omega
    have f_13 : ¬ k = 0 := fun h => c_13 ((nI_eq (a := k) (b := 0) (by first | omega | exact b_and1 _ | exact b_ct _ _ (by omega) | exact b_andr _ (by omega)) (by first | omega | exact b_and1 _ | exact b_ct _ _ (by omega) | exact b_andr _ (by omega))).mpr h)
    refine lv_iconst (v := nI 1) hx hb dX4_gate_16 (by decide) ?_
    refine lv_goto (tgt := 21) hx hb dX4_gate_17 (by decide) ?_
    refine lv_istore (lv' := [(5, .int (nI 1)), (0, .ref (q 0)), (1, .int (nI k)), (2, .int x), (3, .int y), (4, .int zz)]) hx hb dX4_gate_21 hl (by decide) rfl (fun ls hl => ?_)
    refine lv_iload_n hx hb dX4_gate_23 rfl (lv_at hl 2 rfl) ?_
    refine lv_iconst (v := nI 4) hx hb dX4_gate_24 (by decide) ?_
    refine lv_icmp_ne (tgt := 32) hx hb dX4_gate_25 (by decide) (fun c_25 => ?_) (fun c_25 => ?_)
    · have f_25 : ¬ k = 4 := fun h => c_25 ((nI_eq (a := k) (b := 4) (by first | omega | exact b_and1 _ | exact b_ct _ _ (by omega) | exact b_andr _ (by omega)) (by first | omega | exact b_and1 _ | exact b_ct _ _ (by omega) | exact b_andr _ (by omega))).mpr h)
      refine lv_iconst (v := nI 0) hx hb dX4_gate_32 (by decide) ?_
      refine lv_istore (lv' := [(6, .int (nI 0)), (5, .int (nI 1)), (0, .ref (q 0)), (1, .int (nI k)), (2, .int x), (3, .int y), (4, .int zz)]) hx hb dX4_gate_33 hl (by decide) rfl (fun ls hl => ?_)
      refine lv_aload_n hx hb dX4_gate_35 rfl (lv_at hl 2 rfl) ?_
      refine va_get (D := D) (ci := 4) (v := .ref (q 1)) (C := RX4) (T := TX4) (N := 7) hx hb hts (fun w h => List.mem_cons_of_mem _ (List.mem_append_left _ (List.mem_append_left _ (List.mem_append_left _ (List.mem_append_right _ h))))) hown hK hP 0 rfl rfl 0 (by decide) (hts (.fieldLink RX4 10 "FirstStates" "circuit" "LFirstStates$Circuit;") (List.mem_of_getElem? (i := 1) rfl)) (fun _ h9 => h9) rfl dX4_gate_36 ?_
      refine lv_iload_n hx hb dX4_gate_39 rfl (lv_at hl 4 rfl) ?_
      refine fx_callV (As := [.int x]) (rest := []) ⟨hx, hb, hml, hown, hts⟩ (c_X0_isNode l D cI cJ cZ q xro xtk xli cn ci cs cso cki cfa cfb cfc cva csn csd csl csb csr csc won wle pte pho nwa nti x) (cwV 1 hts gX4_gate_X0_isNode rfl rfl rfl kv_X0_isNode ⟨Nat.le_of_ble_eq_true rfl, Nat.le_of_ble_eq_true rfl⟩) hK hP hD hS hA hZ 1 rfl rfl rfl rfl hl.1 rfl (lv_room (Nat.le_of_ble_eq_true rfl)) dX4_gate_40 ⟨Nat.zero_le _, Nat.zero_le _⟩ (fun u_3 H locs hu_3 hP hD hS => ?_)
      refine lv_if_eq (tgt := 79) hx hb dX4_gate_43 (by decide) (fun c_43 => ?_) (fun c_43 => ?_)
      · have f_43 : (isN cn x) = false := bI_0.mp c_43
        exfalso; simp [f_43] at hu
      have f_43 : (isN cn x) = true := bI_n0.mp c_43
      refine lv_iload hx hb dX4_gate_46 (lv_at hl 1 rfl) ?_
      refine lv_if_eq (tgt := 62) hx hb dX4_gate_48 (by decide) (fun c_48 => ?_) (fun c_48 => ?_)
      · have f_48 : 1 = 0 := (nI_eq (a := 1) (b := 0) (by first | omega | exact b_and1 _ | exact b_ct _ _ (by omega) | exact b_andr _ (by omega)) (by first | omega | exact b_and1 _ | exact b_ct _ _ (by omega) | exact b_andr _ (by omega))).mp c_48
        exfalso; omega
      have f_48 : ¬ 1 = 0 := fun h => c_48 ((nI_eq (a := 1) (b := 0) (by first | omega | exact b_and1 _ | exact b_ct _ _ (by omega) | exact b_andr _ (by omega)) (by first | omega | exact b_and1 _ | exact b_ct _ _ (by omega) | exact b_andr _ (by omega))).mpr h)
      refine lv_aload_n hx hb dX4_gate_51 rfl (lv_at hl 2 rfl) ?_
      refine va_get (D := D) (ci := 4) (v := .ref (q 1)) (C := RX4) (T := TX4) (N := 7) hx hb hts (fun w h => List.mem_cons_of_mem _ (List.mem_append_left _ (List.mem_append_left _ (List.mem_append_left _ (List.mem_append_right _ h))))) hown hK hP 0 rfl rfl 0 (by decide) (hts (.fieldLink RX4 10 "FirstStates" "circuit" "LFirstStates$Circuit;") (List.mem_of_getElem? (i := 1) rfl)) (fun _ h9 => h9) rfl dX4_gate_52 ?_
      refine lv_iload_n hx hb dX4_gate_55 rfl (lv_at hl 5 rfl) ?_
      refine fx_callV (As := [.int y]) (rest := []) ⟨hx, hb, hml, hown, hts⟩ (c_X0_isNode l D cI cJ cZ q xro xtk xli cn ci cs cso cki cfa cfb cfc cva csn csd csl csb csr csc won wle pte pho nwa nti y) (cwV 1 hts gX4_gate_X0_isNode rfl rfl rfl kv_X0_isNode ⟨Nat.le_of_ble_eq_true rfl, Nat.le_of_ble_eq_true rfl⟩) hK hP hD hS hA hZ 1 rfl rfl rfl rfl hl.1 rfl (lv_room (Nat.le_of_ble_eq_true rfl)) dX4_gate_56 ⟨Nat.zero_le _, Nat.zero_le _⟩ (fun u_4 H locs hu_4 hP hD hS => ?_)
      refine lv_if_eq (tgt := 79) hx hb dX4_gate_59 (by decide) (fun c_59 => ?_) (fun c_59 => ?_)
      · have f_59 : (isN cn y) = false := bI_0.mp c_59
        exfalso; simp [f_59, f_13] at hu
      have f_59 : (isN cn y) = true := bI_n0.mp c_59
      refine lv_iload hx hb dX4_gate_62 (lv_at hl 0 rfl) ?_
      refine lv_if_eq (tgt := 81) hx hb dX4_gate_64 (by decide) (fun c_64 => ?_) (fun c_64 => ?_)
      · have f_64 : 0 = 0 := (nI_eq (a := 0) (b := 0) (by first | omega | exact b_and1 _ | exact b_ct _ _ (by omega) | exact b_andr _ (by omega)) (by first | omega | exact b_and1 _ | exact b_ct _ _ (by omega) | exact b_andr _ (by omega))).mp c_64
        refine lv_aload_n hx hb dX4_gate_81 rfl (lv_at hl 2 rfl) ?_
        refine va_get (D := D) (ci := 4) (v := .ref (q 1)) (C := RX4) (T := TX4) (N := 7) hx hb hts (fun w h => List.mem_cons_of_mem _ (List.mem_append_left _ (List.mem_append_left _ (List.mem_append_left _ (List.mem_append_right _ h))))) hown hK hP 0 rfl rfl 0 (by decide) (hts (.fieldLink RX4 10 "FirstStates" "circuit" "LFirstStates$Circuit;") (List.mem_of_getElem? (i := 1) rfl)) (fun _ h9 => h9) rfl dX4_gate_82 ?_
        refine fx_callV (As := []) (rest := []) ⟨hx, hb, hml, hown, hts⟩ (c_X0_isFull l D cI cJ cZ q xro xtk xli cn ci cs cso cki cfa cfb cfc cva csn csd csl csb csr csc won wle pte pho nwa nti (by first | assumption | omega)) (cwV 0 hts gX4_gate_X0_isFull rfl rfl rfl kv_X0_isFull ⟨Nat.le_of_ble_eq_true rfl, Nat.le_of_ble_eq_true rfl⟩) hK hP hD hS hA hZ 1 rfl rfl rfl rfl hl.1 rfl (lv_room (Nat.le_of_ble_eq_true rfl)) dX4_gate_85 ⟨Nat.zero_le _, Nat.zero_le _⟩ (fun u_5 H locs hu_5 hP hD hS => ?_)
        refine lv_if_eq (tgt := 94) hx hb dX4_gate_88 (by decide) (fun c_88 => ?_) (fun c_88 => ?_)
        · have f_88 : (decide (32 ≤ cn)) = false := bI_0.mp c_88
          exfalso; simp at f_88; omega
        have f_88 : (decide (32 ≤ cn)) = true := bI_n0.mp c_88
        refine lv_bipush (v := (-4)) hx hb dX4_gate_91 (by decide) ?_
        exact hri () _ H locs 93 ls .int rfl rfl trivial rfl hP hD hS dX4_gate_93
      have f_64 : ¬ 0 = 0 := fun h => c_64 ((nI_eq (a := 0) (b := 0) (by first | omega | exact b_and1 _ | exact b_ct _ _ (by omega) | exact b_andr _ (by omega)) (by first | omega | exact b_and1 _ | exact b_ct _ _ (by omega) | exact b_andr _ (by omega))).mpr h)
      exfalso; omega
    have f_25 : k = 4 := (nI_eq (a := k) (b := 4) (by first | omega | exact b_and1 _ | exact b_ct _ _ (by omega) | exact b_andr _ (by omega)) (by first | omega | exact b_and1 _ | exact b_ct _ _ (by omega) | exact b_andr _ (by omega))).mp c_25
    refine lv_iconst (v := nI 1) hx hb dX4_gate_28 (by decide) ?_
    refine lv_goto (tgt := 33) hx hb dX4_gate_29 (by decide) ?_
    refine lv_istore (lv' := [(6, .int (nI 1)), (5, .int (nI 1)), (0, .ref (q 0)), (1, .int (nI k)), (2, .int x), (3, .int y), (4, .int zz)]) hx hb dX4_gate_33 hl (by decide) rfl (fun ls hl => ?_)
    refine lv_aload_n hx hb dX4_gate_35 rfl (lv_at hl 2 rfl) ?_
    refine va_get (D := D) (ci := 4) (v := .ref (q 1)) (C := RX4) (T := TX4) (N := 7) hx hb hts (fun w h => List.mem_cons_of_mem _ (List.mem_append_left _ (List.mem_append_left _ (List.mem_append_left _ (List.mem_append_right _ h))))) hown hK hP 0 rfl rfl 0 (by decide) (hts (.fieldLink RX4 10 "FirstStates" "circuit" "LFirstStates$Circuit;") (List.mem_of_getElem? (i := 1) rfl)) (fun _ h9 => h9) rfl dX4_gate_36 ?_
    refine lv_iload_n hx hb dX4_gate_39 rfl (lv_at hl 4 rfl) ?_
    refine fx_callV (As := [.int x]) (rest := []) ⟨hx, hb, hml, hown, hts⟩ (c_X0_isNode l D cI cJ cZ q xro xtk xli cn ci cs cso cki cfa cfb cfc cva csn csd csl csb csr csc won wle pte pho nwa nti x) (cwV 1 hts gX4_gate_X0_isNode rfl rfl rfl kv_X0_isNode ⟨Nat.le_of_ble_eq_true rfl, Nat.le_of_ble_eq_true rfl⟩) hK hP hD hS hA hZ 1 rfl rfl rfl rfl hl.1 rfl (lv_room (Nat.le_of_ble_eq_true rfl)) dX4_gate_40 ⟨Nat.zero_le _, Nat.zero_le _⟩ (fun u_6 H locs hu_6 hP hD hS => ?_)
    refine lv_if_eq (tgt := 79) hx hb dX4_gate_43 (by decide) (fun c_43 => ?_) (fun c_43 => ?_)
    · have f_43 : (isN cn x) = false := bI_0.mp c_43
      exfalso; simp [f_43] at hu
    have f_43 : (isN cn x) = true := bI_n0.mp c_43
    refine lv_iload hx hb dX4_gate_46 (lv_at hl 1 rfl) ?_
    refine lv_if_eq (tgt := 62) hx hb dX4_gate_48 (by decide) (fun c_48 => ?_) (fun c_48 => ?_)
    · have f_48 : 1 = 0 := (nI_eq (a := 1) (b := 0) (by first | omega | exact b_and1 _ | exact b_ct _ _ (by omega) | exact b_andr _ (by omega)) (by first | omega | exact b_and1 _ | exact b_ct _ _ (by omega) | exact b_andr _ (by omega))).mp c_48
      exfalso; omega
    have f_48 : ¬ 1 = 0 := fun h => c_48 ((nI_eq (a := 1) (b := 0) (by first | omega | exact b_and1 _ | exact b_ct _ _ (by omega) | exact b_andr _ (by omega)) (by first | omega | exact b_and1 _ | exact b_ct _ _ (by omega) | exact b_andr _ (by omega))).mpr h)
    refine lv_aload_n hx hb dX4_gate_51 rfl (lv_at hl 2 rfl) ?_
    refine va_get (D := D) (ci := 4) (v := .ref (q 1)) (C := RX4) (T := TX4) (N := 7) hx hb hts (fun w h => List.mem_cons_of_mem _ (List.mem_append_left _ (List.mem_append_left _ (List.mem_append_left _ (List.mem_append_right _ h))))) hown hK hP 0 rfl rfl 0 (by decide) (hts (.fieldLink RX4 10 "FirstStates" "circuit" "LFirstStates$Circuit;") (List.mem_of_getElem? (i := 1) rfl)) (fun _ h9 => h9) rfl dX4_gate_52 ?_
    refine lv_iload_n hx hb dX4_gate_55 rfl (lv_at hl 5 rfl) ?_
    refine fx_callV (As := [.int y]) (rest := []) ⟨hx, hb, hml, hown, hts⟩ (c_X0_isNode l D cI cJ cZ q xro xtk xli cn ci cs cso cki cfa cfb cfc cva csn csd csl csb csr csc won wle pte pho nwa nti y) (cwV 1 hts gX4_gate_X0_isNode rfl rfl rfl kv_X0_isNode ⟨Nat.le_of_ble_eq_true rfl, Nat.le_of_ble_eq_true rfl⟩) hK hP hD hS hA hZ 1 rfl rfl rfl rfl hl.1 rfl (lv_room (Nat.le_of_ble_eq_true rfl)) dX4_gate_56 ⟨Nat.zero_le _, Nat.zero_le _⟩ (fun u_7 H locs hu_7 hP hD hS => ?_)
    refine lv_if_eq (tgt := 79) hx hb dX4_gate_59 (by decide) (fun c_59 => ?_) (fun c_59 => ?_)
    · have f_59 : (isN cn y) = false := bI_0.mp c_59
      exfalso; simp [f_59, f_13] at hu
    have f_59 : (isN cn y) = true := bI_n0.mp c_59
    refine lv_iload hx hb dX4_gate_62 (lv_at hl 0 rfl) ?_
    refine lv_if_eq (tgt := 81) hx hb dX4_gate_64 (by decide) (fun c_64 => ?_) (fun c_64 => ?_)
    · have f_64 : 1 = 0 := (nI_eq (a := 1) (b := 0) (by first | omega | exact b_and1 _ | exact b_ct _ _ (by omega) | exact b_andr _ (by omega)) (by first | omega | exact b_and1 _ | exact b_ct _ _ (by omega) | exact b_andr _ (by omega))).mp c_64
      exfalso; omega
    have f_64 : ¬ 1 = 0 := fun h => c_64 ((nI_eq (a := 1) (b := 0) (by first | omega | exact b_and1 _ | exact b_ct _ _ (by omega) | exact b_andr _ (by omega)) (by first | omega | exact b_and1 _ | exact b_ct _ _ (by omega) | exact b_andr _ (by omega))).mpr h)
    refine lv_aload_n hx hb dX4_gate_67 rfl (lv_at hl 2 rfl) ?_
    refine va_get (D := D) (ci := 4) (v := .ref (q 1)) (C := RX4) (T := TX4) (N := 7) hx hb hts (fun w h => List.mem_cons_of_mem _ (List.mem_append_left _ (List.mem_append_left _ (List.mem_append_left _ (List.mem_append_right _ h))))) hown hK hP 0 rfl rfl 0 (by decide) (hts (.fieldLink RX4 10 "FirstStates" "circuit" "LFirstStates$Circuit;") (List.mem_of_getElem? (i := 1) rfl)) (fun _ h9 => h9) rfl dX4_gate_68 ?_
    refine lv_iload hx hb dX4_gate_71 (lv_at hl 6 rfl) ?_
    refine fx_callV (As := [.int zz]) (rest := []) ⟨hx, hb, hml, hown, hts⟩ (c_X0_isNode l D cI cJ cZ q xro xtk xli cn ci cs cso cki cfa cfb cfc cva csn csd csl csb csr csc won wle pte pho nwa nti zz) (cwV 1 hts gX4_gate_X0_isNode rfl rfl rfl kv_X0_isNode ⟨Nat.le_of_ble_eq_true rfl, Nat.le_of_ble_eq_true rfl⟩) hK hP hD hS hA hZ 1 rfl rfl rfl rfl hl.1 rfl (lv_room (Nat.le_of_ble_eq_true rfl)) dX4_gate_73 ⟨Nat.zero_le _, Nat.zero_le _⟩ (fun u_8 H locs hu_8 hP hD hS => ?_)
    refine lv_if_ne (tgt := 81) hx hb dX4_gate_76 (by decide) (fun c_76 => ?_) (fun c_76 => ?_)
    · have f_76 : (isN cn zz) = true := bI_n0.mp c_76
      refine lv_aload_n hx hb dX4_gate_81 rfl (lv_at hl 2 rfl) ?_
      refine va_get (D := D) (ci := 4) (v := .ref (q 1)) (C := RX4) (T := TX4) (N := 7) hx hb hts (fun w h => List.mem_cons_of_mem _ (List.mem_append_left _ (List.mem_append_left _ (List.mem_append_left _ (List.mem_append_right _ h))))) hown hK hP 0 rfl rfl 0 (by decide) (hts (.fieldLink RX4 10 "FirstStates" "circuit" "LFirstStates$Circuit;") (List.mem_of_getElem? (i := 1) rfl)) (fun _ h9 => h9) rfl dX4_gate_82 ?_
      refine fx_callV (As := []) (rest := []) ⟨hx, hb, hml, hown, hts⟩ (c_X0_isFull l D cI cJ cZ q xro xtk xli cn ci cs cso cki cfa cfb cfc cva csn csd csl csb csr csc won wle pte pho nwa nti (by first | assumption | omega)) (cwV 0 hts gX4_gate_X0_isFull rfl rfl rfl kv_X0_isFull ⟨Nat.le_of_ble_eq_true rfl, Nat.le_of_ble_eq_true rfl⟩) hK hP hD hS hA hZ 1 rfl rfl rfl rfl hl.1 rfl (lv_room (Nat.le_of_ble_eq_true rfl)) dX4_gate_85 ⟨Nat.zero_le _, Nat.zero_le _⟩ (fun u_9 H locs hu_9 hP hD hS => ?_)
      refine lv_if_eq (tgt := 94) hx hb dX4_gate_88 (by decide) (fun c_88 => ?_) (fun c_88 => ?_)
      · have f_88 : (decide (32 ≤ cn)) = false := bI_0.mp c_88
        exfalso; simp at f_88; omega
      have f_88 : (decide (32 ≤ cn)) = true := bI_n0.mp c_88
      refine lv_bipush (v := (-4)) hx hb dX4_gate_91 (by decide) ?_
      exact hri () _ H locs 93 ls .int rfl rfl trivial rfl hP hD hS dX4_gate_93
    have f_76 : (isN cn zz) = false := bI_0.mp c_76
    exfalso; simp [f_76, f_25] at hu
  have f_6 : ¬ k ≤ 4 := fun h => c_6 ((nI_leI (a := k) (b := 4) (by first | omega | exact b_and1 _ | exact b_ct _ _ (by omega) | exact b_andr _ (by omega)) (by first | omega | exact b_and1 _ | exact b_ct _ _ (by omega) | exact b_andr _ (by omega))).mpr h)
  exfalso; omega
set_option maxHeartbeats 4000000 in
set_option maxRecDepth 100000 in
theorem c_X4_gate_0 (l : Launch) (D : va_G) (cI cJ cZ : ClassId) (q : Nat → Nat) (xro : Int64) (xtk : Nat) (xli : Nat) (cn : Nat) (ci : Nat) (cs : Nat) (cso : Nat → Nat) (cki : Nat → Nat) (cfa : Nat → Nat) (cfb : Nat → Nat) (cfc : Nat → Nat) (cva : Nat → Nat) (csn : Nat → Nat) (csd : Nat → Nat) (csl : Nat → Nat) (csb : Nat → Nat) (csr : Nat → Nat) (csc : Nat → Nat) (won : Nat → Int64) (wle : Nat → Int64) (pte : Nat → Nat) (pho : Nat → Nat) (nwa : Nat → Int32) (nti : Nat → Int32) (k : Nat) (x : Nat) (y : Int32) (zz : Int32) (hcn : cn < 32) (hcs : cs ≤ 6) (hk : k = 0) (hx0 : x < cn) : Ct l D cI cJ cZ yX4_gate wsX4_gate ({ frames := 3, cells := 0, slots := 0, locals := 61 } : Room) 0 0 [.ref (q 0), .int (nI k), .int (nI x), .int y, .int zz] (wA q cI cJ xro xtk xli cn ci cs cso cki cfa cfb cfc cva csn csd csl csb csr csc won wle pte pho nwa nti) (S := Unit) (fun u => True) (fun u => some (.int (nI cn))) (fun u => (wA q cI cJ (alR cs) 0 xli (cn + 1) ci cs (va_up cso cn 2) (va_up cki cn k) (va_up cfa cn x) (va_up cfb cn x) (va_up cfc cn x) cva csn csd csl csb csr csc won wle pte (mixF (fun _ => 2) pho 6) nwa nti)) := by
  refine Ct.ofW (cc := cX4_gate) (maxL := 8) (ret := (some .int)) (R_C := RX4) (by decide +kernel) rfl rfl (Nat.le_of_ble_eq_true rfl) rfl ?_
  intro p e s m args below meth c A Q ls H locs hx hb hml hown hts hK hA hP hD hS hZ hl hri hrl hrv
  refine lv_iload_n hx hb dX4_gate_0 rfl (lv_at hl 1 rfl) ?_
  refine lv_if_lt (tgt := 9) hx hb dX4_gate_1 (by decide) (fun c_1 => ?_) (fun c_1 => ?_)
  · have f_1 : k < 0 := (nI_ltI (a := k) (b := 0) (by first | omega | exact b_and1 _ | exact b_ct _ _ (by omega) | exact b_andr _ (by omega)) (by first | omega | exact b_and1 _ | exact b_ct _ _ (by omega) | exact b_andr _ (by omega))).mp c_1
    exfalso; omega
  have f_1 : ¬ k < 0 := fun h => c_1 ((nI_ltI (a := k) (b := 0) (by first | omega | exact b_and1 _ | exact b_ct _ _ (by omega) | exact b_andr _ (by omega)) (by first | omega | exact b_and1 _ | exact b_ct _ _ (by omega) | exact b_andr _ (by omega))).mpr h)
  refine lv_iload_n hx hb dX4_gate_4 rfl (lv_at hl 1 rfl) ?_
  refine lv_iconst (v := nI 4) hx hb dX4_gate_5 (by decide) ?_
  refine lv_icmp_le (tgt := 12) hx hb dX4_gate_6 (by decide) (fun c_6 => ?_) (fun c_6 => ?_)
  · have f_6 : k ≤ 4 := (nI_leI (a := k) (b := 4) (by first | omega | exact b_and1 _ | exact b_ct _ _ (by omega) | exact b_andr _ (by omega)) (by first | omega | exact b_and1 _ | exact b_ct _ _ (by omega) | exact b_andr _ (by omega))).mp c_6
    refine lv_iload_n hx hb dX4_gate_12 rfl (lv_at hl 1 rfl) ?_
    refine lv_if_eq (tgt := 20) hx hb dX4_gate_13 (by decide) (fun c_13 => ?_) (fun c_13 => ?_)
    · have f_13 : k = 0 := (nI_eq (a := k) (b := 0) (by first | omega | exact b_and1 _ | exact b_ct _ _ (by omega) | exact b_andr _ (by omega)) (by first | omega | exact b_and1 _ | exact b_ct _ _ (by omega) | exact b_andr _ (by omega))).mp c_13
      refine lv_iconst (v := nI 0) hx hb dX4_gate_20 (by decide) ?_
      refine lv_istore (lv' := [(5, .int (nI 0)), (0, .ref (q 0)), (1, .int (nI k)), (2, .int (nI x)), (3, .int y), (4, .int zz)]) hx hb dX4_gate_21 hl (by decide) rfl (fun ls hl => ?_)
      refine lv_iload_n hx hb dX4_gate_23 rfl (lv_at hl 2 rfl) ?_
      refine lv_iconst (v := nI 4) hx hb dX4_gate_24 (by decide) ?_
      refine lv_icmp_ne (tgt := 32) hx hb dX4_gate_25 (by decide) (fun c_25 => ?_) (fun c_25 => ?_)
      · have f_25 : ¬ k = 4 := fun h => c_25 ((nI_eq (a := k) (b := 4) (by first | omega | exact b_and1 _ | exact b_ct _ _ (by omega) | exact b_andr _ (by omega)) (by first | omega | exact b_and1 _ | exact b_ct _ _ (by omega) | exact b_andr _ (by omega))).mpr h)
        refine lv_iconst (v := nI 0) hx hb dX4_gate_32 (by decide) ?_
        refine lv_istore (lv' := [(6, .int (nI 0)), (5, .int (nI 0)), (0, .ref (q 0)), (1, .int (nI k)), (2, .int (nI x)), (3, .int y), (4, .int zz)]) hx hb dX4_gate_33 hl (by decide) rfl (fun ls hl => ?_)
        refine lv_aload_n hx hb dX4_gate_35 rfl (lv_at hl 2 rfl) ?_
        refine va_get (D := D) (ci := 4) (v := .ref (q 1)) (C := RX4) (T := TX4) (N := 7) hx hb hts (fun w h => List.mem_cons_of_mem _ (List.mem_append_left _ (List.mem_append_left _ (List.mem_append_left _ (List.mem_append_right _ h))))) hown hK hP 0 rfl rfl 0 (by decide) (hts (.fieldLink RX4 10 "FirstStates" "circuit" "LFirstStates$Circuit;") (List.mem_of_getElem? (i := 1) rfl)) (fun _ h9 => h9) rfl dX4_gate_36 ?_
        refine lv_iload_n hx hb dX4_gate_39 rfl (lv_at hl 4 rfl) ?_
        refine fx_callV (As := [.int (nI x)]) (rest := []) ⟨hx, hb, hml, hown, hts⟩ (c_X0_isNode l D cI cJ cZ q xro xtk xli cn ci cs cso cki cfa cfb cfc cva csn csd csl csb csr csc won wle pte pho nwa nti (nI x)) (cwV 1 hts gX4_gate_X0_isNode rfl rfl rfl kv_X0_isNode ⟨Nat.le_of_ble_eq_true rfl, Nat.le_of_ble_eq_true rfl⟩) hK hP hD hS hA hZ 1 rfl rfl rfl rfl hl.1 rfl (lv_room (Nat.le_of_ble_eq_true rfl)) dX4_gate_40 ⟨Nat.zero_le _, Nat.zero_le _⟩ (fun u_1 H locs hu_1 hP hD hS => ?_)
        refine lv_if_eq (tgt := 79) hx hb dX4_gate_43 (by decide) (fun c_43 => ?_) (fun c_43 => ?_)
        · have f_43 : (isN cn (nI x)) = false := bI_0.mp c_43
          exfalso; rw [isN_nI (by omega) (by omega)] at f_43; simp at f_43; omega
        have f_43 : (isN cn (nI x)) = true := bI_n0.mp c_43
        refine lv_iload hx hb dX4_gate_46 (lv_at hl 1 rfl) ?_
        refine lv_if_eq (tgt := 62) hx hb dX4_gate_48 (by decide) (fun c_48 => ?_) (fun c_48 => ?_)
        · have f_48 : 0 = 0 := (nI_eq (a := 0) (b := 0) (by first | omega | exact b_and1 _ | exact b_ct _ _ (by omega) | exact b_andr _ (by omega)) (by first | omega | exact b_and1 _ | exact b_ct _ _ (by omega) | exact b_andr _ (by omega))).mp c_48
          refine lv_iload hx hb dX4_gate_62 (lv_at hl 0 rfl) ?_
          refine lv_if_eq (tgt := 81) hx hb dX4_gate_64 (by decide) (fun c_64 => ?_) (fun c_64 => ?_)
          · have f_64 : 0 = 0 := (nI_eq (a := 0) (b := 0) (by first | omega | exact b_and1 _ | exact b_ct _ _ (by omega) | exact b_andr _ (by omega)) (by first | omega | exact b_and1 _ | exact b_ct _ _ (by omega) | exact b_andr _ (by omega))).mp c_64
            refine lv_aload_n hx hb dX4_gate_81 rfl (lv_at hl 2 rfl) ?_
            refine va_get (D := D) (ci := 4) (v := .ref (q 1)) (C := RX4) (T := TX4) (N := 7) hx hb hts (fun w h => List.mem_cons_of_mem _ (List.mem_append_left _ (List.mem_append_left _ (List.mem_append_left _ (List.mem_append_right _ h))))) hown hK hP 0 rfl rfl 0 (by decide) (hts (.fieldLink RX4 10 "FirstStates" "circuit" "LFirstStates$Circuit;") (List.mem_of_getElem? (i := 1) rfl)) (fun _ h9 => h9) rfl dX4_gate_82 ?_
            refine fx_callV (As := []) (rest := []) ⟨hx, hb, hml, hown, hts⟩ (c_X0_isFull l D cI cJ cZ q xro xtk xli cn ci cs cso cki cfa cfb cfc cva csn csd csl csb csr csc won wle pte pho nwa nti (by first | assumption | omega)) (cwV 0 hts gX4_gate_X0_isFull rfl rfl rfl kv_X0_isFull ⟨Nat.le_of_ble_eq_true rfl, Nat.le_of_ble_eq_true rfl⟩) hK hP hD hS hA hZ 1 rfl rfl rfl rfl hl.1 rfl (lv_room (Nat.le_of_ble_eq_true rfl)) dX4_gate_85 ⟨Nat.zero_le _, Nat.zero_le _⟩ (fun u_2 H locs hu_2 hP hD hS => ?_)
            refine lv_if_eq (tgt := 94) hx hb dX4_gate_88 (by decide) (fun c_88 => ?_) (fun c_88 => ?_)
            · have f_88 : (decide (32 ≤ cn)) = false := bI_0.mp c_88
              refine lv_aload_n hx hb dX4_gate_94 rfl (lv_at hl 2 rfl) ?_
              refine va_get (D := D) (ci := 4) (v := .ref (q 1)) (C := RX4) (T := TX4) (N := 7) hx hb hts (fun w h => List.mem_cons_of_mem _ (List.mem_append_left _ (List.mem_append_left _ (List.mem_append_left _ (List.mem_append_right _ h))))) hown hK hP 0 rfl rfl 0 (by decide) (hts (.fieldLink RX4 10 "FirstStates" "circuit" "LFirstStates$Circuit;") (List.mem_of_getElem? (i := 1) rfl)) (fun _ h9 => h9) rfl dX4_gate_95 ?_
              refine lv_iload_n hx hb dX4_gate_98 rfl (lv_at hl 3 rfl) ?_
              refine lv_iload_n hx hb dX4_gate_99 rfl (lv_at hl 4 rfl) ?_
              refine lv_iload hx hb dX4_gate_100 (lv_at hl 1 rfl) ?_
              refine lv_if_eq (tgt := 109) hx hb dX4_gate_102 (by decide) (fun c_102 => ?_) (fun c_102 => ?_)
              · have f_102 : 0 = 0 := (nI_eq (a := 0) (b := 0) (by first | omega | exact b_and1 _ | exact b_ct _ _ (by omega) | exact b_andr _ (by omega)) (by first | omega | exact b_and1 _ | exact b_ct _ _ (by omega) | exact b_andr _ (by omega))).mp c_102
                refine lv_iload_n hx hb dX4_gate_109 rfl (lv_at hl 4 rfl) ?_
                refine lv_iload hx hb dX4_gate_110 (lv_at hl 0 rfl) ?_
                refine lv_if_eq (tgt := 120) hx hb dX4_gate_112 (by decide) (fun c_112 => ?_) (fun c_112 => ?_)
                · have f_112 : 0 = 0 := (nI_eq (a := 0) (b := 0) (by first | omega | exact b_and1 _ | exact b_ct _ _ (by omega) | exact b_andr _ (by omega)) (by first | omega | exact b_and1 _ | exact b_ct _ _ (by omega) | exact b_andr _ (by omega))).mp c_112
                  refine lv_iload_n hx hb dX4_gate_120 rfl (lv_at hl 4 rfl) ?_
                  refine fx_callV (As := [.int (nI k), .int (nI x), .int (nI x), .int (nI x)]) (rest := []) ⟨hx, hb, hml, hown, hts⟩ (c_X0_addGate l D cI cJ cZ q xro xtk xli cn ci cs cso cki cfa cfb cfc cva csn csd csl csb csr csc won wle pte pho nwa nti k x x x (by first | assumption | omega)) (cwV 4 hts gX4_gate_X0_addGate rfl rfl rfl kv_X0_addGate ⟨Nat.le_of_ble_eq_true rfl, Nat.le_of_ble_eq_true rfl⟩) hK hP hD hS hA hZ 1 rfl rfl rfl rfl hl.1 rfl (lv_room (Nat.le_of_ble_eq_true rfl)) dX4_gate_121 ⟨Nat.zero_le _, Nat.zero_le _⟩ (fun u_3 H locs hu_3 hP hD hS => ?_)
                  have hP : va_P D vwCl (wA q cI cJ xro xtk xli (cn + 1) ci cs (va_up cso cn 2) (va_up cki cn k) (va_up cfa cn x) (va_up cfb cn x) (va_up cfc cn x) cva csn csd csl csb csr csc won wle pte pho nwa nti) H := hP
                  have hD : va_D A (wA q cI cJ xro xtk xli (cn + 1) ci cs (va_up cso cn 2) (va_up cki cn k) (va_up cfa cn x) (va_up cfb cn x) (va_up cfc cn x) cva csn csd csl csb csr csc won wle pte pho nwa nti) := fx_D hD rfl
                  refine lv_istore (lv' := [(7, .int (nI cn)), (6, .int (nI 0)), (5, .int (nI 0)), (0, .ref (q 0)), (1, .int (nI k)), (2, .int (nI x)), (3, .int y), (4, .int zz)]) hx hb dX4_gate_124 hl (by decide) rfl (fun ls hl => ?_)
                  refine lv_aload_n hx hb dX4_gate_126 rfl (lv_at hl 3 rfl) ?_
                  refine fx_callV (As := []) (rest := []) ⟨hx, hb, hml, hown, hts⟩ (c_X4_beginAgain l D cI cJ cZ q xro xtk xli (cn + 1) ci cs (va_up cso cn 2) (va_up cki cn k) (va_up cfa cn x) (va_up cfb cn x) (va_up cfc cn x) cva csn csd csl csb csr csc won wle pte pho nwa nti (by first | assumption | omega)) (cwV 0 hts gX4_gate_X4_beginAgain rfl rfl rfl kv_X4_beginAgain ⟨Nat.le_of_ble_eq_true rfl, Nat.le_of_ble_eq_true rfl⟩) hK hP hD hS hA hZ 0 rfl rfl rfl rfl hl.1 rfl (lv_room (Nat.le_of_ble_eq_true rfl)) dX4_gate_127 ⟨Nat.zero_le _, Nat.zero_le _⟩ (fun u_4 H locs hu_4 hP hD hS => ?_)
                  have hP : va_P D vwCl (wA q cI cJ (alR cs) 0 xli (cn + 1) ci cs (va_up cso cn 2) (va_up cki cn k) (va_up cfa cn x) (va_up cfb cn x) (va_up cfc cn x) cva csn csd csl csb csr csc won wle pte (mixF (fun _ => 2) pho 6) nwa nti) H := hP
                  have hD : va_D A (wA q cI cJ (alR cs) 0 xli (cn + 1) ci cs (va_up cso cn 2) (va_up cki cn k) (va_up cfa cn x) (va_up cfb cn x) (va_up cfc cn x) cva csn csd csl csb csr csc won wle pte (mixF (fun _ => 2) pho 6) nwa nti) := fx_D hD rfl
                  refine lv_iload hx hb dX4_gate_130 (lv_at hl 0 rfl) ?_
                  exact hri () _ H locs 132 ls .int rfl rfl trivial rfl hP hD hS dX4_gate_132
                have f_112 : ¬ 0 = 0 := fun h => c_112 ((nI_eq (a := 0) (b := 0) (by first | omega | exact b_and1 _ | exact b_ct _ _ (by omega) | exact b_andr _ (by omega)) (by first | omega | exact b_and1 _ | exact b_ct _ _ (by omega) | exact b_andr _ (by omega))).mpr h)
                exfalso; omega
              have f_102 : ¬ 0 = 0 := fun h => c_102 ((nI_eq (a := 0) (b := 0) (by first | omega | exact b_and1 _ | exact b_ct _ _ (by omega) | exact b_andr _ (by omega)) (by first | omega | exact b_and1 _ | exact b_ct _ _ (by omega) | exact b_andr _ (by omega))).mpr h)
              exfalso; omega
            have f_88 : (decide (32 ≤ cn)) = true := bI_n0.mp c_88
            exfalso; simp at f_88; omega
          have f_64 : ¬ 0 = 0 := fun h => c_64 ((nI_eq (a := 0) (b := 0) (by first | omega | exact b_and1 _ | exact b_ct _ _ (by omega) | exact b_andr _ (by omega)) (by first | omega | exact b_and1 _ | exact b_ct _ _ (by omega) | exact b_andr _ (by omega))).mpr h)
          exfalso; omega
        have f_48 : ¬ 0 = 0 := fun h => c_48 ((nI_eq (a := 0) (b := 0) (by first | omega | exact b_and1 _ | exact b_ct _ _ (by omega) | exact b_andr _ (by omega)) (by first | omega | exact b_and1 _ | exact b_ct _ _ (by omega) | exact b_andr _ (by omega))).mpr h)
        exfalso; omega
      have f_25 : k = 4 := (nI_eq (a := k) (b := 4) (by first | omega | exact b_and1 _ | exact b_ct _ _ (by omega) | exact b_andr _ (by omega)) (by first | omega | exact b_and1 _ | exact b_ct _ _ (by omega) | exact b_andr _ (by omega))).mp c_25
      exfalso; omega
    have f_13 : ¬ k = 0 := fun h => c_13 ((nI_eq (a := k) (b := 0) (by first | omega | exact b_and1 _ | exact b_ct _ _ (by omega) | exact b_andr _ (by omega)) (by first | omega | exact b_and1 _ | exact b_ct _ _ (by omega) | exact b_andr _ (by omega))).mpr h)
    exfalso; omega
  have f_6 : ¬ k ≤ 4 := fun h => c_6 ((nI_leI (a := k) (b := 4) (by first | omega | exact b_and1 _ | exact b_ct _ _ (by omega) | exact b_andr _ (by omega)) (by first | omega | exact b_and1 _ | exact b_ct _ _ (by omega) | exact b_andr _ (by omega))).mpr h)
  exfalso; omega
set_option maxHeartbeats 4000000 in
set_option maxRecDepth 100000 in
theorem c_X4_gate_1 (l : Launch) (D : va_G) (cI cJ cZ : ClassId) (q : Nat → Nat) (xro : Int64) (xtk : Nat) (xli : Nat) (cn : Nat) (ci : Nat) (cs : Nat) (cso : Nat → Nat) (cki : Nat → Nat) (cfa : Nat → Nat) (cfb : Nat → Nat) (cfc : Nat → Nat) (cva : Nat → Nat) (csn : Nat → Nat) (csd : Nat → Nat) (csl : Nat → Nat) (csb : Nat → Nat) (csr : Nat → Nat) (csc : Nat → Nat) (won : Nat → Int64) (wle : Nat → Int64) (pte : Nat → Nat) (pho : Nat → Nat) (nwa : Nat → Int32) (nti : Nat → Int32) (k : Nat) (x : Nat) (y : Nat) (zz : Int32) (hcn : cn < 32) (hcs : cs ≤ 6) (hk : 1 ≤ k ∧ k ≤ 3) (hx0 : x < cn) (hy : y < cn) : Ct l D cI cJ cZ yX4_gate wsX4_gate ({ frames := 3, cells := 0, slots := 0, locals := 61 } : Room) 0 0 [.ref (q 0), .int (nI k), .int (nI x), .int (nI y), .int zz] (wA q cI cJ xro xtk xli cn ci cs cso cki cfa cfb cfc cva csn csd csl csb csr csc won wle pte pho nwa nti) (S := Unit) (fun u => True) (fun u => some (.int (nI cn))) (fun u => (wA q cI cJ (alR cs) 0 xli (cn + 1) ci cs (va_up cso cn 2) (va_up cki cn k) (va_up cfa cn x) (va_up cfb cn y) (va_up cfc cn x) cva csn csd csl csb csr csc won wle pte (mixF (fun _ => 2) pho 6) nwa nti)) := by
  refine Ct.ofW (cc := cX4_gate) (maxL := 8) (ret := (some .int)) (R_C := RX4) (by decide +kernel) rfl rfl (Nat.le_of_ble_eq_true rfl) rfl ?_
  intro p e s m args below meth c A Q ls H locs hx hb hml hown hts hK hA hP hD hS hZ hl hri hrl hrv
  refine lv_iload_n hx hb dX4_gate_0 rfl (lv_at hl 1 rfl) ?_
  refine lv_if_lt (tgt := 9) hx hb dX4_gate_1 (by decide) (fun c_1 => ?_) (fun c_1 => ?_)
  · have f_1 : k < 0 := (nI_ltI (a := k) (b := 0) (by first | omega | exact b_and1 _ | exact b_ct _ _ (by omega) | exact b_andr _ (by omega)) (by first | omega | exact b_and1 _ | exact b_ct _ _ (by omega) | exact b_andr _ (by omega))).mp c_1
    exfalso; omega
  have f_1 : ¬ k < 0 := fun h => c_1 ((nI_ltI (a := k) (b := 0) (by first | omega | exact b_and1 _ | exact b_ct _ _ (by omega) | exact b_andr _ (by omega)) (by first | omega | exact b_and1 _ | exact b_ct _ _ (by omega) | exact b_andr _ (by omega))).mpr h)
  refine lv_iload_n hx hb dX4_gate_4 rfl (lv_at hl 1 rfl) ?_
  refine lv_iconst (v := nI 4) hx hb dX4_gate_5 (by decide) ?_
  refine lv_icmp_le (tgt := 12) hx hb dX4_gate_6 (by decide) (fun c_6 => ?_) (fun c_6 => ?_)
  · have f_6 : k ≤ 4 := (nI_leI (a := k) (b := 4) (by first | omega | exact b_and1 _ | exact b_ct _ _ (by omega) | exact b_andr _ (by omega)) (by first | omega | exact b_and1 _ | exact b_ct _ _ (by omega) | exact b_andr _ (by omega))).mp c_6
    refine lv_iload_n hx hb dX4_gate_12 rfl (lv_at hl 1 rfl) ?_
    refine lv_if_eq (tgt := 20) hx hb dX4_gate_13 (by decide) (fun c_13 => ?_) (fun c_13 => ?_)
    · have f_13 : k = 0 := (nI_eq (a := k) (b := 0) (by first | omega | exact b_and1 _ | exact b_ct _ _ (by omega) | exact b_andr _ (by omega)) (by first | omega | exact b_and1 _ | exact b_ct _ _ (by omega) | exact b_andr _ (by omega))).mp c_13
      exfalso; omega
    have f_13 : ¬ k = 0 := fun h => c_13 ((nI_eq (a := k) (b := 0) (by first | omega | exact b_and1 _ | exact b_ct _ _ (by omega) | exact b_andr _ (by omega)) (by first | omega | exact b_and1 _ | exact b_ct _ _ (by omega) | exact b_andr _ (by omega))).mpr h)
    refine lv_iconst (v := nI 1) hx hb dX4_gate_16 (by decide) ?_
    refine lv_goto (tgt := 21) hx hb dX4_gate_17 (by decide) ?_
    refine lv_istore (lv' := [(5, .int (nI 1)), (0, .ref (q 0)), (1, .int (nI k)), (2, .int (nI x)), (3, .int (nI y)), (4, .int zz)]) hx hb dX4_gate_21 hl (by decide) rfl (fun ls hl => ?_)
    refine lv_iload_n hx hb dX4_gate_23 rfl (lv_at hl 2 rfl) ?_
    refine lv_iconst (v := nI 4) hx hb dX4_gate_24 (by decide) ?_
    refine lv_icmp_ne (tgt := 32) hx hb dX4_gate_25 (by decide) (fun c_25 => ?_) (fun c_25 => ?_)
    · have f_25 : ¬ k = 4 := fun h => c_25 ((nI_eq (a := k) (b := 4) (by first | omega | exact b_and1 _ | exact b_ct _ _ (by omega) | exact b_andr _ (by omega)) (by first | omega | exact b_and1 _ | exact b_ct _ _ (by omega) | exact b_andr _ (by omega))).mpr h)
      refine lv_iconst (v := nI 0) hx hb dX4_gate_32 (by decide) ?_
      refine lv_istore (lv' := [(6, .int (nI 0)), (5, .int (nI 1)), (0, .ref (q 0)), (1, .int (nI k)), (2, .int (nI x)), (3, .int (nI y)), (4, .int zz)]) hx hb dX4_gate_33 hl (by decide) rfl (fun ls hl => ?_)
      refine lv_aload_n hx hb dX4_gate_35 rfl (lv_at hl 2 rfl) ?_
      refine va_get (D := D) (ci := 4) (v := .ref (q 1)) (C := RX4) (T := TX4) (N := 7) hx hb hts (fun w h => List.mem_cons_of_mem _ (List.mem_append_left _ (List.mem_append_left _ (List.mem_append_left _ (List.mem_append_right _ h))))) hown hK hP 0 rfl rfl 0 (by decide) (hts (.fieldLink RX4 10 "FirstStates" "circuit" "LFirstStates$Circuit;") (List.mem_of_getElem? (i := 1) rfl)) (fun _ h9 => h9) rfl dX4_gate_36 ?_
      refine lv_iload_n hx hb dX4_gate_39 rfl (lv_at hl 4 rfl) ?_
      refine fx_callV (As := [.int (nI x)]) (rest := []) ⟨hx, hb, hml, hown, hts⟩ (c_X0_isNode l D cI cJ cZ q xro xtk xli cn ci cs cso cki cfa cfb cfc cva csn csd csl csb csr csc won wle pte pho nwa nti (nI x)) (cwV 1 hts gX4_gate_X0_isNode rfl rfl rfl kv_X0_isNode ⟨Nat.le_of_ble_eq_true rfl, Nat.le_of_ble_eq_true rfl⟩) hK hP hD hS hA hZ 1 rfl rfl rfl rfl hl.1 rfl (lv_room (Nat.le_of_ble_eq_true rfl)) dX4_gate_40 ⟨Nat.zero_le _, Nat.zero_le _⟩ (fun u_1 H locs hu_1 hP hD hS => ?_)
      refine lv_if_eq (tgt := 79) hx hb dX4_gate_43 (by decide) (fun c_43 => ?_) (fun c_43 => ?_)
      · have f_43 : (isN cn (nI x)) = false := bI_0.mp c_43
        exfalso; rw [isN_nI (by omega) (by omega)] at f_43; simp at f_43; omega
      have f_43 : (isN cn (nI x)) = true := bI_n0.mp c_43
      refine lv_iload hx hb dX4_gate_46 (lv_at hl 1 rfl) ?_
      refine lv_if_eq (tgt := 62) hx hb dX4_gate_48 (by decide) (fun c_48 => ?_) (fun c_48 => ?_)
      · have f_48 : 1 = 0 := (nI_eq (a := 1) (b := 0) (by first | omega | exact b_and1 _ | exact b_ct _ _ (by omega) | exact b_andr _ (by omega)) (by first | omega | exact b_and1 _ | exact b_ct _ _ (by omega) | exact b_andr _ (by omega))).mp c_48
        exfalso; omega
      have f_48 : ¬ 1 = 0 := fun h => c_48 ((nI_eq (a := 1) (b := 0) (by first | omega | exact b_and1 _ | exact b_ct _ _ (by omega) | exact b_andr _ (by omega)) (by first | omega | exact b_and1 _ | exact b_ct _ _ (by omega) | exact b_andr _ (by omega))).mpr h)
      refine lv_aload_n hx hb dX4_gate_51 rfl (lv_at hl 2 rfl) ?_
      refine va_get (D := D) (ci := 4) (v := .ref (q 1)) (C := RX4) (T := TX4) (N := 7) hx hb hts (fun w h => List.mem_cons_of_mem _ (List.mem_append_left _ (List.mem_append_left _ (List.mem_append_left _ (List.mem_append_right _ h))))) hown hK hP 0 rfl rfl 0 (by decide) (hts (.fieldLink RX4 10 "FirstStates" "circuit" "LFirstStates$Circuit;") (List.mem_of_getElem? (i := 1) rfl)) (fun _ h9 => h9) rfl dX4_gate_52 ?_
      refine lv_iload_n hx hb dX4_gate_55 rfl (lv_at hl 5 rfl) ?_
      refine fx_callV (As := [.int (nI y)]) (rest := []) ⟨hx, hb, hml, hown, hts⟩ (c_X0_isNode l D cI cJ cZ q xro xtk xli cn ci cs cso cki cfa cfb cfc cva csn csd csl csb csr csc won wle pte pho nwa nti (nI y)) (cwV 1 hts gX4_gate_X0_isNode rfl rfl rfl kv_X0_isNode ⟨Nat.le_of_ble_eq_true rfl, Nat.le_of_ble_eq_true rfl⟩) hK hP hD hS hA hZ 1 rfl rfl rfl rfl hl.1 rfl (lv_room (Nat.le_of_ble_eq_true rfl)) dX4_gate_56 ⟨Nat.zero_le _, Nat.zero_le _⟩ (fun u_2 H locs hu_2 hP hD hS => ?_)
      refine lv_if_eq (tgt := 79) hx hb dX4_gate_59 (by decide) (fun c_59 => ?_) (fun c_59 => ?_)
      · have f_59 : (isN cn (nI y)) = false := bI_0.mp c_59
        exfalso; rw [isN_nI (by omega) (by omega)] at f_59; simp at f_59; omega
      have f_59 : (isN cn (nI y)) = true := bI_n0.mp c_59
      refine lv_iload hx hb dX4_gate_62 (lv_at hl 0 rfl) ?_
      refine lv_if_eq (tgt := 81) hx hb dX4_gate_64 (by decide) (fun c_64 => ?_) (fun c_64 => ?_)
      · have f_64 : 0 = 0 := (nI_eq (a := 0) (b := 0) (by first | omega | exact b_and1 _ | exact b_ct _ _ (by omega) | exact b_andr _ (by omega)) (by first | omega | exact b_and1 _ | exact b_ct _ _ (by omega) | exact b_andr _ (by omega))).mp c_64
        refine lv_aload_n hx hb dX4_gate_81 rfl (lv_at hl 2 rfl) ?_
        refine va_get (D := D) (ci := 4) (v := .ref (q 1)) (C := RX4) (T := TX4) (N := 7) hx hb hts (fun w h => List.mem_cons_of_mem _ (List.mem_append_left _ (List.mem_append_left _ (List.mem_append_left _ (List.mem_append_right _ h))))) hown hK hP 0 rfl rfl 0 (by decide) (hts (.fieldLink RX4 10 "FirstStates" "circuit" "LFirstStates$Circuit;") (List.mem_of_getElem? (i := 1) rfl)) (fun _ h9 => h9) rfl dX4_gate_82 ?_
        refine fx_callV (As := []) (rest := []) ⟨hx, hb, hml, hown, hts⟩ (c_X0_isFull l D cI cJ cZ q xro xtk xli cn ci cs cso cki cfa cfb cfc cva csn csd csl csb csr csc won wle pte pho nwa nti (by first | assumption | omega)) (cwV 0 hts gX4_gate_X0_isFull rfl rfl rfl kv_X0_isFull ⟨Nat.le_of_ble_eq_true rfl, Nat.le_of_ble_eq_true rfl⟩) hK hP hD hS hA hZ 1 rfl rfl rfl rfl hl.1 rfl (lv_room (Nat.le_of_ble_eq_true rfl)) dX4_gate_85 ⟨Nat.zero_le _, Nat.zero_le _⟩ (fun u_3 H locs hu_3 hP hD hS => ?_)
        refine lv_if_eq (tgt := 94) hx hb dX4_gate_88 (by decide) (fun c_88 => ?_) (fun c_88 => ?_)
        · have f_88 : (decide (32 ≤ cn)) = false := bI_0.mp c_88
          refine lv_aload_n hx hb dX4_gate_94 rfl (lv_at hl 2 rfl) ?_
          refine va_get (D := D) (ci := 4) (v := .ref (q 1)) (C := RX4) (T := TX4) (N := 7) hx hb hts (fun w h => List.mem_cons_of_mem _ (List.mem_append_left _ (List.mem_append_left _ (List.mem_append_left _ (List.mem_append_right _ h))))) hown hK hP 0 rfl rfl 0 (by decide) (hts (.fieldLink RX4 10 "FirstStates" "circuit" "LFirstStates$Circuit;") (List.mem_of_getElem? (i := 1) rfl)) (fun _ h9 => h9) rfl dX4_gate_95 ?_
          refine lv_iload_n hx hb dX4_gate_98 rfl (lv_at hl 3 rfl) ?_
          refine lv_iload_n hx hb dX4_gate_99 rfl (lv_at hl 4 rfl) ?_
          refine lv_iload hx hb dX4_gate_100 (lv_at hl 1 rfl) ?_
          refine lv_if_eq (tgt := 109) hx hb dX4_gate_102 (by decide) (fun c_102 => ?_) (fun c_102 => ?_)
          · have f_102 : 1 = 0 := (nI_eq (a := 1) (b := 0) (by first | omega | exact b_and1 _ | exact b_ct _ _ (by omega) | exact b_andr _ (by omega)) (by first | omega | exact b_and1 _ | exact b_ct _ _ (by omega) | exact b_andr _ (by omega))).mp c_102
            exfalso; omega
          have f_102 : ¬ 1 = 0 := fun h => c_102 ((nI_eq (a := 1) (b := 0) (by first | omega | exact b_and1 _ | exact b_ct _ _ (by omega) | exact b_andr _ (by omega)) (by first | omega | exact b_and1 _ | exact b_ct _ _ (by omega) | exact b_andr _ (by omega))).mpr h)
          refine lv_iload_n hx hb dX4_gate_105 rfl (lv_at hl 5 rfl) ?_
          refine lv_goto (tgt := 110) hx hb dX4_gate_106 (by decide) ?_
          refine lv_iload hx hb dX4_gate_110 (lv_at hl 0 rfl) ?_
          refine lv_if_eq (tgt := 120) hx hb dX4_gate_112 (by decide) (fun c_112 => ?_) (fun c_112 => ?_)
          · have f_112 : 0 = 0 := (nI_eq (a := 0) (b := 0) (by first | omega | exact b_and1 _ | exact b_ct _ _ (by omega) | exact b_andr _ (by omega)) (by first | omega | exact b_and1 _ | exact b_ct _ _ (by omega) | exact b_andr _ (by omega))).mp c_112
            refine lv_iload_n hx hb dX4_gate_120 rfl (lv_at hl 4 rfl) ?_
            refine fx_callV (As := [.int (nI k), .int (nI x), .int (nI y), .int (nI x)]) (rest := []) ⟨hx, hb, hml, hown, hts⟩ (c_X0_addGate l D cI cJ cZ q xro xtk xli cn ci cs cso cki cfa cfb cfc cva csn csd csl csb csr csc won wle pte pho nwa nti k x y x (by first | assumption | omega)) (cwV 4 hts gX4_gate_X0_addGate rfl rfl rfl kv_X0_addGate ⟨Nat.le_of_ble_eq_true rfl, Nat.le_of_ble_eq_true rfl⟩) hK hP hD hS hA hZ 1 rfl rfl rfl rfl hl.1 rfl (lv_room (Nat.le_of_ble_eq_true rfl)) dX4_gate_121 ⟨Nat.zero_le _, Nat.zero_le _⟩ (fun u_4 H locs hu_4 hP hD hS => ?_)
            have hP : va_P D vwCl (wA q cI cJ xro xtk xli (cn + 1) ci cs (va_up cso cn 2) (va_up cki cn k) (va_up cfa cn x) (va_up cfb cn y) (va_up cfc cn x) cva csn csd csl csb csr csc won wle pte pho nwa nti) H := hP
            have hD : va_D A (wA q cI cJ xro xtk xli (cn + 1) ci cs (va_up cso cn 2) (va_up cki cn k) (va_up cfa cn x) (va_up cfb cn y) (va_up cfc cn x) cva csn csd csl csb csr csc won wle pte pho nwa nti) := fx_D hD rfl
            refine lv_istore (lv' := [(7, .int (nI cn)), (6, .int (nI 0)), (5, .int (nI 1)), (0, .ref (q 0)), (1, .int (nI k)), (2, .int (nI x)), (3, .int (nI y)), (4, .int zz)]) hx hb dX4_gate_124 hl (by decide) rfl (fun ls hl => ?_)
            refine lv_aload_n hx hb dX4_gate_126 rfl (lv_at hl 3 rfl) ?_
            refine fx_callV (As := []) (rest := []) ⟨hx, hb, hml, hown, hts⟩ (c_X4_beginAgain l D cI cJ cZ q xro xtk xli (cn + 1) ci cs (va_up cso cn 2) (va_up cki cn k) (va_up cfa cn x) (va_up cfb cn y) (va_up cfc cn x) cva csn csd csl csb csr csc won wle pte pho nwa nti (by first | assumption | omega)) (cwV 0 hts gX4_gate_X4_beginAgain rfl rfl rfl kv_X4_beginAgain ⟨Nat.le_of_ble_eq_true rfl, Nat.le_of_ble_eq_true rfl⟩) hK hP hD hS hA hZ 0 rfl rfl rfl rfl hl.1 rfl (lv_room (Nat.le_of_ble_eq_true rfl)) dX4_gate_127 ⟨Nat.zero_le _, Nat.zero_le _⟩ (fun u_5 H locs hu_5 hP hD hS => ?_)
            have hP : va_P D vwCl (wA q cI cJ (alR cs) 0 xli (cn + 1) ci cs (va_up cso cn 2) (va_up cki cn k) (va_up cfa cn x) (va_up cfb cn y) (va_up cfc cn x) cva csn csd csl csb csr csc won wle pte (mixF (fun _ => 2) pho 6) nwa nti) H := hP
            have hD : va_D A (wA q cI cJ (alR cs) 0 xli (cn + 1) ci cs (va_up cso cn 2) (va_up cki cn k) (va_up cfa cn x) (va_up cfb cn y) (va_up cfc cn x) cva csn csd csl csb csr csc won wle pte (mixF (fun _ => 2) pho 6) nwa nti) := fx_D hD rfl
            refine lv_iload hx hb dX4_gate_130 (lv_at hl 0 rfl) ?_
            exact hri () _ H locs 132 ls .int rfl rfl trivial rfl hP hD hS dX4_gate_132
          have f_112 : ¬ 0 = 0 := fun h => c_112 ((nI_eq (a := 0) (b := 0) (by first | omega | exact b_and1 _ | exact b_ct _ _ (by omega) | exact b_andr _ (by omega)) (by first | omega | exact b_and1 _ | exact b_ct _ _ (by omega) | exact b_andr _ (by omega))).mpr h)
          exfalso; omega
        have f_88 : (decide (32 ≤ cn)) = true := bI_n0.mp c_88
        exfalso; simp at f_88; omega
      have f_64 : ¬ 0 = 0 := fun h => c_64 ((nI_eq (a := 0) (b := 0) (by first | omega | exact b_and1 _ | exact b_ct _ _ (by omega) | exact b_andr _ (by omega)) (by first | omega | exact b_and1 _ | exact b_ct _ _ (by omega) | exact b_andr _ (by omega))).mpr h)
      exfalso; omega
    have f_25 : k = 4 := (nI_eq (a := k) (b := 4) (by first | omega | exact b_and1 _ | exact b_ct _ _ (by omega) | exact b_andr _ (by omega)) (by first | omega | exact b_and1 _ | exact b_ct _ _ (by omega) | exact b_andr _ (by omega))).mp c_25
    exfalso; omega
  have f_6 : ¬ k ≤ 4 := fun h => c_6 ((nI_leI (a := k) (b := 4) (by first | omega | exact b_and1 _ | exact b_ct _ _ (by omega) | exact b_andr _ (by omega)) (by first | omega | exact b_and1 _ | exact b_ct _ _ (by omega) | exact b_andr _ (by omega))).mpr h)
  exfalso; omega
set_option maxHeartbeats 4000000 in
set_option maxRecDepth 100000 in
theorem c_X4_gate_4 (l : Launch) (D : va_G) (cI cJ cZ : ClassId) (q : Nat → Nat) (xro : Int64) (xtk : Nat) (xli : Nat) (cn : Nat) (ci : Nat) (cs : Nat) (cso : Nat → Nat) (cki : Nat → Nat) (cfa : Nat → Nat) (cfb : Nat → Nat) (cfc : Nat → Nat) (cva : Nat → Nat) (csn : Nat → Nat) (csd : Nat → Nat) (csl : Nat → Nat) (csb : Nat → Nat) (csr : Nat → Nat) (csc : Nat → Nat) (won : Nat → Int64) (wle : Nat → Int64) (pte : Nat → Nat) (pho : Nat → Nat) (nwa : Nat → Int32) (nti : Nat → Int32) (k : Nat) (x : Nat) (y : Nat) (zz : Nat) (hcn : cn < 32) (hcs : cs ≤ 6) (hk : k = 4) (hx0 : x < cn) (hy : y < cn) (hz : zz < cn) : Ct l D cI cJ cZ yX4_gate wsX4_gate ({ frames := 3, cells := 0, slots := 0, locals := 61 } : Room) 0 0 [.ref (q 0), .int (nI k), .int (nI x), .int (nI y), .int (nI zz)] (wA q cI cJ xro xtk xli cn ci cs cso cki cfa cfb cfc cva csn csd csl csb csr csc won wle pte pho nwa nti) (S := Unit) (fun u => True) (fun u => some (.int (nI cn))) (fun u => (wA q cI cJ (alR cs) 0 xli (cn + 1) ci cs (va_up cso cn 2) (va_up cki cn k) (va_up cfa cn x) (va_up cfb cn y) (va_up cfc cn zz) cva csn csd csl csb csr csc won wle pte (mixF (fun _ => 2) pho 6) nwa nti)) := by
  refine Ct.ofW (cc := cX4_gate) (maxL := 8) (ret := (some .int)) (R_C := RX4) (by decide +kernel) rfl rfl (Nat.le_of_ble_eq_true rfl) rfl ?_
  intro p e s m args below meth c A Q ls H locs hx hb hml hown hts hK hA hP hD hS hZ hl hri hrl hrv
  refine lv_iload_n hx hb dX4_gate_0 rfl (lv_at hl 1 rfl) ?_
  refine lv_if_lt (tgt := 9) hx hb dX4_gate_1 (by decide) (fun c_1 => ?_) (fun c_1 => ?_)
  · have f_1 : k < 0 := (nI_ltI (a := k) (b := 0) (by first | omega | exact b_and1 _ | exact b_ct _ _ (by omega) | exact b_andr _ (by omega)) (by first | omega | exact b_and1 _ | exact b_ct _ _ (by omega) | exact b_andr _ (by omega))).mp c_1
    exfalso; omega
  have f_1 : ¬ k < 0 := fun h => c_1 ((nI_ltI (a := k) (b := 0) (by first | omega | exact b_and1 _ | exact b_ct _ _ (by omega) | exact b_andr _ (by omega)) (by first | omega | exact b_and1 _ | exact b_ct _ _ (by omega) | exact b_andr _ (by omega))).mpr h)
  refine lv_iload_n hx hb dX4_gate_4 rfl (lv_at hl 1 rfl) ?_
  refine lv_iconst (v := nI 4) hx hb dX4_gate_5 (by decide) ?_
  refine lv_icmp_le (tgt := 12) hx hb dX4_gate_6 (by decide) (fun c_6 => ?_) (fun c_6 => ?_)
  · have f_6 : k ≤ 4 := (nI_leI (a := k) (b := 4) (by first | omega | exact b_and1 _ | exact b_ct _ _ (by omega) | exact b_andr _ (by omega)) (by first | omega | exact b_and1 _ | exact b_ct _ _ (by omega) | exact b_andr _ (by omega))).mp c_6
    refine lv_iload_n hx hb dX4_gate_12 rfl (lv_at hl 1 rfl) ?_
    refine lv_if_eq (tgt := 20) hx hb dX4_gate_13 (by decide) (fun c_13 => ?_) (fun c_13 => ?_)
    · have f_13 : k = 0 := (nI_eq (a := k) (b := 0) (by first | omega | exact b_and1 _ | exact b_ct _ _ (by omega) | exact b_andr _ (by omega)) (by first | omega | exact b_and1 _ | exact b_ct _ _ (by omega) | exact b_andr _ (by omega))).mp c_13
      exfalso; omega
    have f_13 : ¬ k = 0 := fun h => c_13 ((nI_eq (a := k) (b := 0) (by first | omega | exact b_and1 _ | exact b_ct _ _ (by omega) | exact b_andr _ (by omega)) (by first | omega | exact b_and1 _ | exact b_ct _ _ (by omega) | exact b_andr _ (by omega))).mpr h)
    refine lv_iconst (v := nI 1) hx hb dX4_gate_16 (by decide) ?_
    refine lv_goto (tgt := 21) hx hb dX4_gate_17 (by decide) ?_
    refine lv_istore (lv' := [(5, .int (nI 1)), (0, .ref (q 0)), (1, .int (nI k)), (2, .int (nI x)), (3, .int (nI y)), (4, .int (nI zz))]) hx hb dX4_gate_21 hl (by decide) rfl (fun ls hl => ?_)
    refine lv_iload_n hx hb dX4_gate_23 rfl (lv_at hl 2 rfl) ?_
    refine lv_iconst (v := nI 4) hx hb dX4_gate_24 (by decide) ?_
    refine lv_icmp_ne (tgt := 32) hx hb dX4_gate_25 (by decide) (fun c_25 => ?_) (fun c_25 => ?_)
    · have f_25 : ¬ k = 4 := fun h => c_25 ((nI_eq (a := k) (b := 4) (by first | omega | exact b_and1 _ | exact b_ct _ _ (by omega) | exact b_andr _ (by omega)) (by first | omega | exact b_and1 _ | exact b_ct _ _ (by omega) | exact b_andr _ (by omega))).mpr h)
      exfalso; omega
    have f_25 : k = 4 := (nI_eq (a := k) (b := 4) (by first | omega | exact b_and1 _ | exact b_ct _ _ (by omega) | exact b_andr _ (by omega)) (by first | omega | exact b_and1 _ | exact b_ct _ _ (by omega) | exact b_andr _ (by omega))).mp c_25
    refine lv_iconst (v := nI 1) hx hb dX4_gate_28 (by decide) ?_
    refine lv_goto (tgt := 33) hx hb dX4_gate_29 (by decide) ?_
    refine lv_istore (lv' := [(6, .int (nI 1)), (5, .int (nI 1)), (0, .ref (q 0)), (1, .int (nI k)), (2, .int (nI x)), (3, .int (nI y)), (4, .int (nI zz))]) hx hb dX4_gate_33 hl (by decide) rfl (fun ls hl => ?_)
    refine lv_aload_n hx hb dX4_gate_35 rfl (lv_at hl 2 rfl) ?_
    refine va_get (D := D) (ci := 4) (v := .ref (q 1)) (C := RX4) (T := TX4) (N := 7) hx hb hts (fun w h => List.mem_cons_of_mem _ (List.mem_append_left _ (List.mem_append_left _ (List.mem_append_left _ (List.mem_append_right _ h))))) hown hK hP 0 rfl rfl 0 (by decide) (hts (.fieldLink RX4 10 "FirstStates" "circuit" "LFirstStates$Circuit;") (List.mem_of_getElem? (i := 1) rfl)) (fun _ h9 => h9) rfl dX4_gate_36 ?_
    refine lv_iload_n hx hb dX4_gate_39 rfl (lv_at hl 4 rfl) ?_
    refine fx_callV (As := [.int (nI x)]) (rest := []) ⟨hx, hb, hml, hown, hts⟩ (c_X0_isNode l D cI cJ cZ q xro xtk xli cn ci cs cso cki cfa cfb cfc cva csn csd csl csb csr csc won wle pte pho nwa nti (nI x)) (cwV 1 hts gX4_gate_X0_isNode rfl rfl rfl kv_X0_isNode ⟨Nat.le_of_ble_eq_true rfl, Nat.le_of_ble_eq_true rfl⟩) hK hP hD hS hA hZ 1 rfl rfl rfl rfl hl.1 rfl (lv_room (Nat.le_of_ble_eq_true rfl)) dX4_gate_40 ⟨Nat.zero_le _, Nat.zero_le _⟩ (fun u_1 H locs hu_1 hP hD hS => ?_)
    refine lv_if_eq (tgt := 79) hx hb dX4_gate_43 (by decide) (fun c_43 => ?_) (fun c_43 => ?_)
    · have f_43 : (isN cn (nI x)) = false := bI_0.mp c_43
      exfalso; rw [isN_nI (by omega) (by omega)] at f_43; simp at f_43; omega
    have f_43 : (isN cn (nI x)) = true := bI_n0.mp c_43
    refine lv_iload hx hb dX4_gate_46 (lv_at hl 1 rfl) ?_
    refine lv_if_eq (tgt := 62) hx hb dX4_gate_48 (by decide) (fun c_48 => ?_) (fun c_48 => ?_)
    · have f_48 : 1 = 0 := (nI_eq (a := 1) (b := 0) (by first | omega | exact b_and1 _ | exact b_ct _ _ (by omega) | exact b_andr _ (by omega)) (by first | omega | exact b_and1 _ | exact b_ct _ _ (by omega) | exact b_andr _ (by omega))).mp c_48
      exfalso; omega
    have f_48 : ¬ 1 = 0 := fun h => c_48 ((nI_eq (a := 1) (b := 0) (by first | omega | exact b_and1 _ | exact b_ct _ _ (by omega) | exact b_andr _ (by omega)) (by first | omega | exact b_and1 _ | exact b_ct _ _ (by omega) | exact b_andr _ (by omega))).mpr h)
    refine lv_aload_n hx hb dX4_gate_51 rfl (lv_at hl 2 rfl) ?_
    refine va_get (D := D) (ci := 4) (v := .ref (q 1)) (C := RX4) (T := TX4) (N := 7) hx hb hts (fun w h => List.mem_cons_of_mem _ (List.mem_append_left _ (List.mem_append_left _ (List.mem_append_left _ (List.mem_append_right _ h))))) hown hK hP 0 rfl rfl 0 (by decide) (hts (.fieldLink RX4 10 "FirstStates" "circuit" "LFirstStates$Circuit;") (List.mem_of_getElem? (i := 1) rfl)) (fun _ h9 => h9) rfl dX4_gate_52 ?_
    refine lv_iload_n hx hb dX4_gate_55 rfl (lv_at hl 5 rfl) ?_
    refine fx_callV (As := [.int (nI y)]) (rest := []) ⟨hx, hb, hml, hown, hts⟩ (c_X0_isNode l D cI cJ cZ q xro xtk xli cn ci cs cso cki cfa cfb cfc cva csn csd csl csb csr csc won wle pte pho nwa nti (nI y)) (cwV 1 hts gX4_gate_X0_isNode rfl rfl rfl kv_X0_isNode ⟨Nat.le_of_ble_eq_true rfl, Nat.le_of_ble_eq_true rfl⟩) hK hP hD hS hA hZ 1 rfl rfl rfl rfl hl.1 rfl (lv_room (Nat.le_of_ble_eq_true rfl)) dX4_gate_56 ⟨Nat.zero_le _, Nat.zero_le _⟩ (fun u_2 H locs hu_2 hP hD hS => ?_)
    refine lv_if_eq (tgt := 79) hx hb dX4_gate_59 (by decide) (fun c_59 => ?_) (fun c_59 => ?_)
    · have f_59 : (isN cn (nI y)) = false := bI_0.mp c_59
      exfalso; rw [isN_nI (by omega) (by omega)] at f_59; simp at f_59; omega
    have f_59 : (isN cn (nI y)) = true := bI_n0.mp c_59
    refine lv_iload hx hb dX4_gate_62 (lv_at hl 0 rfl) ?_
    refine lv_if_eq (tgt := 81) hx hb dX4_gate_64 (by decide) (fun c_64 => ?_) (fun c_64 => ?_)
    · have f_64 : 1 = 0 := (nI_eq (a := 1) (b := 0) (by first | omega | exact b_and1 _ | exact b_ct _ _ (by omega) | exact b_andr _ (by omega)) (by first | omega | exact b_and1 _ | exact b_ct _ _ (by omega) | exact b_andr _ (by omega))).mp c_64
      exfalso; omega
    have f_64 : ¬ 1 = 0 := fun h => c_64 ((nI_eq (a := 1) (b := 0) (by first | omega | exact b_and1 _ | exact b_ct _ _ (by omega) | exact b_andr _ (by omega)) (by first | omega | exact b_and1 _ | exact b_ct _ _ (by omega) | exact b_andr _ (by omega))).mpr h)
    refine lv_aload_n hx hb dX4_gate_67 rfl (lv_at hl 2 rfl) ?_
    refine va_get (D := D) (ci := 4) (v := .ref (q 1)) (C := RX4) (T := TX4) (N := 7) hx hb hts (fun w h => List.mem_cons_of_mem _ (List.mem_append_left _ (List.mem_append_left _ (List.mem_append_left _ (List.mem_append_right _ h))))) hown hK hP 0 rfl rfl 0 (by decide) (hts (.fieldLink RX4 10 "FirstStates" "circuit" "LFirstStates$Circuit;") (List.mem_of_getElem? (i := 1) rfl)) (fun _ h9 => h9) rfl dX4_gate_68 ?_
    refine lv_iload hx hb dX4_gate_71 (lv_at hl 6 rfl) ?_
    refine fx_callV (As := [.int (nI zz)]) (rest := []) ⟨hx, hb, hml, hown, hts⟩ (c_X0_isNode l D cI cJ cZ q xro xtk xli cn ci cs cso cki cfa cfb cfc cva csn csd csl csb csr csc won wle pte pho nwa nti (nI zz)) (cwV 1 hts gX4_gate_X0_isNode rfl rfl rfl kv_X0_isNode ⟨Nat.le_of_ble_eq_true rfl, Nat.le_of_ble_eq_true rfl⟩) hK hP hD hS hA hZ 1 rfl rfl rfl rfl hl.1 rfl (lv_room (Nat.le_of_ble_eq_true rfl)) dX4_gate_73 ⟨Nat.zero_le _, Nat.zero_le _⟩ (fun u_3 H locs hu_3 hP hD hS => ?_)
    refine lv_if_ne (tgt := 81) hx hb dX4_gate_76 (by decide) (fun c_76 => ?_) (fun c_76 => ?_)
    · have f_76 : (isN cn (nI zz)) = true := bI_n0.mp c_76
      refine lv_aload_n hx hb dX4_gate_81 rfl (lv_at hl 2 rfl) ?_
      refine va_get (D := D) (ci := 4) (v := .ref (q 1)) (C := RX4) (T := TX4) (N := 7) hx hb hts (fun w h => List.mem_cons_of_mem _ (List.mem_append_left _ (List.mem_append_left _ (List.mem_append_left _ (List.mem_append_right _ h))))) hown hK hP 0 rfl rfl 0 (by decide) (hts (.fieldLink RX4 10 "FirstStates" "circuit" "LFirstStates$Circuit;") (List.mem_of_getElem? (i := 1) rfl)) (fun _ h9 => h9) rfl dX4_gate_82 ?_
      refine fx_callV (As := []) (rest := []) ⟨hx, hb, hml, hown, hts⟩ (c_X0_isFull l D cI cJ cZ q xro xtk xli cn ci cs cso cki cfa cfb cfc cva csn csd csl csb csr csc won wle pte pho nwa nti (by first | assumption | omega)) (cwV 0 hts gX4_gate_X0_isFull rfl rfl rfl kv_X0_isFull ⟨Nat.le_of_ble_eq_true rfl, Nat.le_of_ble_eq_true rfl⟩) hK hP hD hS hA hZ 1 rfl rfl rfl rfl hl.1 rfl (lv_room (Nat.le_of_ble_eq_true rfl)) dX4_gate_85 ⟨Nat.zero_le _, Nat.zero_le _⟩ (fun u_4 H locs hu_4 hP hD hS => ?_)
      refine lv_if_eq (tgt := 94) hx hb dX4_gate_88 (by decide) (fun c_88 => ?_) (fun c_88 => ?_)
      · have f_88 : (decide (32 ≤ cn)) = false := bI_0.mp c_88
        refine lv_aload_n hx hb dX4_gate_94 rfl (lv_at hl 2 rfl) ?_
        refine va_get (D := D) (ci := 4) (v := .ref (q 1)) (C := RX4) (T := TX4) (N := 7) hx hb hts (fun w h => List.mem_cons_of_mem _ (List.mem_append_left _ (List.mem_append_left _ (List.mem_append_left _ (List.mem_append_right _ h))))) hown hK hP 0 rfl rfl 0 (by decide) (hts (.fieldLink RX4 10 "FirstStates" "circuit" "LFirstStates$Circuit;") (List.mem_of_getElem? (i := 1) rfl)) (fun _ h9 => h9) rfl dX4_gate_95 ?_
        refine lv_iload_n hx hb dX4_gate_98 rfl (lv_at hl 3 rfl) ?_
        refine lv_iload_n hx hb dX4_gate_99 rfl (lv_at hl 4 rfl) ?_
        refine lv_iload hx hb dX4_gate_100 (lv_at hl 1 rfl) ?_
        refine lv_if_eq (tgt := 109) hx hb dX4_gate_102 (by decide) (fun c_102 => ?_) (fun c_102 => ?_)
        · have f_102 : 1 = 0 := (nI_eq (a := 1) (b := 0) (by first | omega | exact b_and1 _ | exact b_ct _ _ (by omega) | exact b_andr _ (by omega)) (by first | omega | exact b_and1 _ | exact b_ct _ _ (by omega) | exact b_andr _ (by omega))).mp c_102
          exfalso; omega
        have f_102 : ¬ 1 = 0 := fun h => c_102 ((nI_eq (a := 1) (b := 0) (by first | omega | exact b_and1 _ | exact b_ct _ _ (by omega) | exact b_andr _ (by omega)) (by first | omega | exact b_and1 _ | exact b_ct _ _ (by omega) | exact b_andr _ (by omega))).mpr h)
        refine lv_iload_n hx hb dX4_gate_105 rfl (lv_at hl 5 rfl) ?_
        refine lv_goto (tgt := 110) hx hb dX4_gate_106 (by decide) ?_
        refine lv_iload hx hb dX4_gate_110 (lv_at hl 0 rfl) ?_
        refine lv_if_eq (tgt := 120) hx hb dX4_gate_112 (by decide) (fun c_112 => ?_) (fun c_112 => ?_)
        · have f_112 : 1 = 0 := (nI_eq (a := 1) (b := 0) (by first | omega | exact b_and1 _ | exact b_ct _ _ (by omega) | exact b_andr _ (by omega)) (by first | omega | exact b_and1 _ | exact b_ct _ _ (by omega) | exact b_andr _ (by omega))).mp c_112
          exfalso; omega
        have f_112 : ¬ 1 = 0 := fun h => c_112 ((nI_eq (a := 1) (b := 0) (by first | omega | exact b_and1 _ | exact b_ct _ _ (by omega) | exact b_andr _ (by omega)) (by first | omega | exact b_and1 _ | exact b_ct _ _ (by omega) | exact b_andr _ (by omega))).mpr h)
        refine lv_iload hx hb dX4_gate_115 (lv_at hl 6 rfl) ?_
        refine lv_goto (tgt := 121) hx hb dX4_gate_117 (by decide) ?_
        refine fx_callV (As := [.int (nI k), .int (nI x), .int (nI y), .int (nI zz)]) (rest := []) ⟨hx, hb, hml, hown, hts⟩ (c_X0_addGate l D cI cJ cZ q xro xtk xli cn ci cs cso cki cfa cfb cfc cva csn csd csl csb csr csc won wle pte pho nwa nti k x y zz (by first | assumption | omega)) (cwV 4 hts gX4_gate_X0_addGate rfl rfl rfl kv_X0_addGate ⟨Nat.le_of_ble_eq_true rfl, Nat.le_of_ble_eq_true rfl⟩) hK hP hD hS hA hZ 1 rfl rfl rfl rfl hl.1 rfl (lv_room (Nat.le_of_ble_eq_true rfl)) dX4_gate_121 ⟨Nat.zero_le _, Nat.zero_le _⟩ (fun u_5 H locs hu_5 hP hD hS => ?_)
        have hP : va_P D vwCl (wA q cI cJ xro xtk xli (cn + 1) ci cs (va_up cso cn 2) (va_up cki cn k) (va_up cfa cn x) (va_up cfb cn y) (va_up cfc cn zz) cva csn csd csl csb csr csc won wle pte pho nwa nti) H := hP
        have hD : va_D A (wA q cI cJ xro xtk xli (cn + 1) ci cs (va_up cso cn 2) (va_up cki cn k) (va_up cfa cn x) (va_up cfb cn y) (va_up cfc cn zz) cva csn csd csl csb csr csc won wle pte pho nwa nti) := fx_D hD rfl
        refine lv_istore (lv' := [(7, .int (nI cn)), (6, .int (nI 1)), (5, .int (nI 1)), (0, .ref (q 0)), (1, .int (nI k)), (2, .int (nI x)), (3, .int (nI y)), (4, .int (nI zz))]) hx hb dX4_gate_124 hl (by decide) rfl (fun ls hl => ?_)
        refine lv_aload_n hx hb dX4_gate_126 rfl (lv_at hl 3 rfl) ?_
        refine fx_callV (As := []) (rest := []) ⟨hx, hb, hml, hown, hts⟩ (c_X4_beginAgain l D cI cJ cZ q xro xtk xli (cn + 1) ci cs (va_up cso cn 2) (va_up cki cn k) (va_up cfa cn x) (va_up cfb cn y) (va_up cfc cn zz) cva csn csd csl csb csr csc won wle pte pho nwa nti (by first | assumption | omega)) (cwV 0 hts gX4_gate_X4_beginAgain rfl rfl rfl kv_X4_beginAgain ⟨Nat.le_of_ble_eq_true rfl, Nat.le_of_ble_eq_true rfl⟩) hK hP hD hS hA hZ 0 rfl rfl rfl rfl hl.1 rfl (lv_room (Nat.le_of_ble_eq_true rfl)) dX4_gate_127 ⟨Nat.zero_le _, Nat.zero_le _⟩ (fun u_6 H locs hu_6 hP hD hS => ?_)
        have hP : va_P D vwCl (wA q cI cJ (alR cs) 0 xli (cn + 1) ci cs (va_up cso cn 2) (va_up cki cn k) (va_up cfa cn x) (va_up cfb cn y) (va_up cfc cn zz) cva csn csd csl csb csr csc won wle pte (mixF (fun _ => 2) pho 6) nwa nti) H := hP
        have hD : va_D A (wA q cI cJ (alR cs) 0 xli (cn + 1) ci cs (va_up cso cn 2) (va_up cki cn k) (va_up cfa cn x) (va_up cfb cn y) (va_up cfc cn zz) cva csn csd csl csb csr csc won wle pte (mixF (fun _ => 2) pho 6) nwa nti) := fx_D hD rfl
        refine lv_iload hx hb dX4_gate_130 (lv_at hl 0 rfl) ?_
        exact hri () _ H locs 132 ls .int rfl rfl trivial rfl hP hD hS dX4_gate_132
      have f_88 : (decide (32 ≤ cn)) = true := bI_n0.mp c_88
      exfalso; simp at f_88; omega
    have f_76 : (isN cn (nI zz)) = false := bI_0.mp c_76
    exfalso; rw [isN_nI (by omega) (by omega)] at f_76; simp at f_76; omega
  have f_6 : ¬ k ≤ 4 := fun h => c_6 ((nI_leI (a := k) (b := 4) (by first | omega | exact b_and1 _ | exact b_ct _ _ (by omega) | exact b_andr _ (by omega)) (by first | omega | exact b_and1 _ | exact b_ct _ _ (by omega) | exact b_andr _ (by omega))).mpr h)
  exfalso; omega
set_option maxHeartbeats 4000000 in
set_option maxRecDepth 100000 in
theorem c_X4_store_u (l : Launch) (D : va_G) (cI cJ cZ : ClassId) (q : Nat → Nat) (xro : Int64) (xtk : Nat) (xli : Nat) (cn : Nat) (ci : Nat) (cs : Nat) (cso : Nat → Nat) (cki : Nat → Nat) (cfa : Nat → Nat) (cfb : Nat → Nat) (cfc : Nat → Nat) (cva : Nat → Nat) (csn : Nat → Nat) (csd : Nat → Nat) (csl : Nat → Nat) (csb : Nat → Nat) (csr : Nat → Nat) (csc : Nat → Nat) (won : Nat → Int64) (wle : Nat → Int64) (pte : Nat → Nat) (pho : Nat → Nat) (nwa : Nat → Int32) (nti : Nat → Int32) (x : Int32) (y : Int32) (hx0 : ¬ x = (-9)) (hl4 : isN 4 x = false) : Ct l D cI cJ cZ yX4_store wsX4_store ({ frames := 1, cells := 0, slots := 0, locals := 20 } : Room) 0 0 [.ref (q 0), .int x, .int y] (wA q cI cJ xro xtk xli cn ci cs cso cki cfa cfb cfc cva csn csd csl csb csr csc won wle pte pho nwa nti) (S := Unit) (fun u => True) (fun u => some (.int (-1))) (fun u => (wA q cI cJ xro xtk xli cn ci cs cso cki cfa cfb cfc cva csn csd csl csb csr csc won wle pte pho nwa nti)) := by
  refine Ct.ofW (cc := cX4_store) (maxL := 4) (ret := (some .int)) (R_C := RX4) (by decide +kernel) rfl rfl (Nat.le_of_ble_eq_true rfl) rfl ?_
  intro p e s m args below meth c A Q ls H locs hx hb hml hown hts hK hA hP hD hS hZ hl hri hrl hrv
  refine lv_iload_n hx hb dX4_store_0 rfl (lv_at hl 1 rfl) ?_
  refine lv_bipush (v := (-9)) hx hb dX4_store_1 (by decide) ?_
  refine lv_icmp_eq (tgt := 15) hx hb dX4_store_3 (by decide) (fun c_3 => ?_) (fun c_3 => ?_)
  · exfalso; exact hx0 c_3
  refine lv_iload_n hx hb dX4_store_6 rfl (lv_at hl 1 rfl) ?_
  refine fx_callS (As := [.int x]) (rest := []) ⟨hx, hb, hml, hown, hts⟩ (c_X4_isLine l D cI cJ cZ (wA q cI cJ xro xtk xli cn ci cs cso cki cfa cfb cfc cva csn csd csl csb csr csc won wle pte pho nwa nti) x) (va_cwS 1 hts gX4_store_X4_isLine rfl rfl rfl ks_X4_isLine ⟨Nat.le_of_ble_eq_true rfl, Nat.le_of_ble_eq_true rfl⟩) hK hP hD hS hA hZ rfl hl.1 rfl (lv_room (Nat.le_of_ble_eq_true rfl)) dX4_store_7 ⟨Nat.zero_le _, Nat.zero_le _⟩ (fun u_1 H locs hu_1 hP hD hS => ?_)
  refine lv_if_ne (tgt := 15) hx hb dX4_store_10 (by decide) (fun c_10 => ?_) (fun c_10 => ?_)
  · have f_10 : (isN 4 x) = true := bI_n0.mp c_10
    exfalso; rw [hl4] at f_10; cases f_10
  have f_10 : (isN 4 x) = false := bI_0.mp c_10
  refine lv_iconst (v := (-1)) hx hb dX4_store_13 (by decide) ?_
  exact hri () _ H locs 14 ls .int rfl rfl trivial rfl hP hD hS dX4_store_14
set_option maxHeartbeats 4000000 in
set_option maxRecDepth 100000 in
theorem c_X4_store_o (l : Launch) (D : va_G) (cI cJ cZ : ClassId) (q : Nat → Nat) (xro : Int64) (xtk : Nat) (xli : Nat) (cn : Nat) (ci : Nat) (cs : Nat) (cso : Nat → Nat) (cki : Nat → Nat) (cfa : Nat → Nat) (cfb : Nat → Nat) (cfc : Nat → Nat) (cva : Nat → Nat) (csn : Nat → Nat) (csd : Nat → Nat) (csl : Nat → Nat) (csb : Nat → Nat) (csr : Nat → Nat) (csc : Nat → Nat) (won : Nat → Int64) (wle : Nat → Int64) (pte : Nat → Nat) (pho : Nat → Nat) (nwa : Nat → Int32) (nti : Nat → Int32) (ln : Nat) (y : Int32) (hl4 : ln ≤ 4) (hy : bitB y = false) : Ct l D cI cJ cZ yX4_store wsX4_store ({ frames := 1, cells := 0, slots := 0, locals := 20 } : Room) 0 0 [.ref (q 0), .int (lI ln), .int y] (wA q cI cJ xro xtk xli cn ci cs cso cki cfa cfb cfc cva csn csd csl csb csr csc won wle pte pho nwa nti) (S := Unit) (fun u => True) (fun u => some (.int (-2))) (fun u => (wA q cI cJ xro xtk xli cn ci cs cso cki cfa cfb cfc cva csn csd csl csb csr csc won wle pte pho nwa nti)) := by
  refine Ct.ofW (cc := cX4_store) (maxL := 4) (ret := (some .int)) (R_C := RX4) (by decide +kernel) rfl rfl (Nat.le_of_ble_eq_true rfl) rfl ?_
  intro p e s m args below meth c A Q ls H locs hx hb hml hown hts hK hA hP hD hS hZ hl hri hrl hrv
  refine lv_iload_n hx hb dX4_store_0 rfl (lv_at hl 1 rfl) ?_
  refine lv_bipush (v := (-9)) hx hb dX4_store_1 (by decide) ?_
  refine lv_icmp_eq (tgt := 15) hx hb dX4_store_3 (by decide) (fun c_3 => ?_) (fun c_3 => ?_)
  · have f_3 : ln = 4 := (lI_9 (by first | omega | exact b_and1 _ | exact b_ct _ _ (by omega) | exact b_andr _ (by omega))).mp c_3
    refine lv_iload_n hx hb dX4_store_15 rfl (lv_at hl 2 rfl) ?_
    refine fx_callS (As := [.int y]) (rest := []) ⟨hx, hb, hml, hown, hts⟩ (c_X4_isBit l D cI cJ cZ (wA q cI cJ xro xtk xli cn ci cs cso cki cfa cfb cfc cva csn csd csl csb csr csc won wle pte pho nwa nti) y) (va_cwS 1 hts gX4_store_X4_isBit rfl rfl rfl ks_X4_isBit ⟨Nat.le_of_ble_eq_true rfl, Nat.le_of_ble_eq_true rfl⟩) hK hP hD hS hA hZ rfl hl.1 rfl (lv_room (Nat.le_of_ble_eq_true rfl)) dX4_store_16 ⟨Nat.zero_le _, Nat.zero_le _⟩ (fun u_1 H locs hu_1 hP hD hS => ?_)
    refine lv_if_ne (tgt := 25) hx hb dX4_store_19 (by decide) (fun c_19 => ?_) (fun c_19 => ?_)
    · have f_19 : (bitB y) = true := bI_n0.mp c_19
      exfalso; rw [hy] at f_19; cases f_19
    have f_19 : (bitB y) = false := bI_0.mp c_19
    refine lv_bipush (v := (-2)) hx hb dX4_store_22 (by decide) ?_
    exact hri () _ H locs 24 ls .int rfl rfl trivial rfl hP hD hS dX4_store_24
  have f_3 : ¬ ln = 4 := fun h => c_3 ((lI_9 (by first | omega | exact b_and1 _ | exact b_ct _ _ (by omega) | exact b_andr _ (by omega))).mpr h)
  refine lv_iload_n hx hb dX4_store_6 rfl (lv_at hl 1 rfl) ?_
  refine fx_callS (As := [.int (lI ln)]) (rest := []) ⟨hx, hb, hml, hown, hts⟩ (c_X4_isLine l D cI cJ cZ (wA q cI cJ xro xtk xli cn ci cs cso cki cfa cfb cfc cva csn csd csl csb csr csc won wle pte pho nwa nti) (lI ln)) (va_cwS 1 hts gX4_store_X4_isLine rfl rfl rfl ks_X4_isLine ⟨Nat.le_of_ble_eq_true rfl, Nat.le_of_ble_eq_true rfl⟩) hK hP hD hS hA hZ rfl hl.1 rfl (lv_room (Nat.le_of_ble_eq_true rfl)) dX4_store_7 ⟨Nat.zero_le _, Nat.zero_le _⟩ (fun u_2 H locs hu_2 hP hD hS => ?_)
  refine lv_if_ne (tgt := 15) hx hb dX4_store_10 (by decide) (fun c_10 => ?_) (fun c_10 => ?_)
  · have f_10 : (isN 4 (lI ln)) = true := bI_n0.mp c_10
    refine lv_iload_n hx hb dX4_store_15 rfl (lv_at hl 2 rfl) ?_
    refine fx_callS (As := [.int y]) (rest := []) ⟨hx, hb, hml, hown, hts⟩ (c_X4_isBit l D cI cJ cZ (wA q cI cJ xro xtk xli cn ci cs cso cki cfa cfb cfc cva csn csd csl csb csr csc won wle pte pho nwa nti) y) (va_cwS 1 hts gX4_store_X4_isBit rfl rfl rfl ks_X4_isBit ⟨Nat.le_of_ble_eq_true rfl, Nat.le_of_ble_eq_true rfl⟩) hK hP hD hS hA hZ rfl hl.1 rfl (lv_room (Nat.le_of_ble_eq_true rfl)) dX4_store_16 ⟨Nat.zero_le _, Nat.zero_le _⟩ (fun u_3 H locs hu_3 hP hD hS => ?_)
    refine lv_if_ne (tgt := 25) hx hb dX4_store_19 (by decide) (fun c_19 => ?_) (fun c_19 => ?_)
    · have f_19 : (bitB y) = true := bI_n0.mp c_19
      exfalso; rw [hy] at f_19; cases f_19
    have f_19 : (bitB y) = false := bI_0.mp c_19
    refine lv_bipush (v := (-2)) hx hb dX4_store_22 (by decide) ?_
    exact hri () _ H locs 24 ls .int rfl rfl trivial rfl hP hD hS dX4_store_24
  have f_10 : (isN 4 (lI ln)) = false := bI_0.mp c_10
  exfalso; rw [isN_lI (by omega)] at f_10; cases f_10
set_option maxHeartbeats 4000000 in
set_option maxRecDepth 100000 in
theorem c_X4_store_f (l : Launch) (D : va_G) (cI cJ cZ : ClassId) (q : Nat → Nat) (xro : Int64) (xtk : Nat) (xli : Nat) (cn : Nat) (ci : Nat) (cs : Nat) (cso : Nat → Nat) (cki : Nat → Nat) (cfa : Nat → Nat) (cfb : Nat → Nat) (cfc : Nat → Nat) (cva : Nat → Nat) (csn : Nat → Nat) (csd : Nat → Nat) (csl : Nat → Nat) (csb : Nat → Nat) (csr : Nat → Nat) (csc : Nat → Nat) (won : Nat → Int64) (wle : Nat → Int64) (pte : Nat → Nat) (pho : Nat → Nat) (nwa : Nat → Int32) (nti : Nat → Int32) (ln : Nat) (v : Nat) (hl4 : ln ≤ 4) (hv : v ≤ 1) (hcn : cn ≤ 32) (hcs : cs ≤ 6) (hf : 6 ≤ cs ∨ cn = 32) : Ct l D cI cJ cZ yX4_store wsX4_store ({ frames := 1, cells := 0, slots := 0, locals := 20 } : Room) 0 0 [.ref (q 0), .int (lI ln), .int (nI v)] (wA q cI cJ xro xtk xli cn ci cs cso cki cfa cfb cfc cva csn csd csl csb csr csc won wle pte pho nwa nti) (S := Unit) (fun u => True) (fun u => some (.int (-4))) (fun u => (wA q cI cJ xro xtk xli cn ci cs cso cki cfa cfb cfc cva csn csd csl csb csr csc won wle pte pho nwa nti)) := by
  refine Ct.ofW (cc := cX4_store) (maxL := 4) (ret := (some .int)) (R_C := RX4) (by decide +kernel) rfl rfl (Nat.le_of_ble_eq_true rfl) rfl ?_
  intro p e s m args below meth c A Q ls H locs hx hb hml hown hts hK hA hP hD hS hZ hl hri hrl hrv
  refine lv_iload_n hx hb dX4_store_0 rfl (lv_at hl 1 rfl) ?_
  refine lv_bipush (v := (-9)) hx hb dX4_store_1 (by decide) ?_
  refine lv_icmp_eq (tgt := 15) hx hb dX4_store_3 (by decide) (fun c_3 => ?_) (fun c_3 => ?_)
  · have f_3 : ln = 4 := (lI_9 (by first | omega | exact b_and1 _ | exact b_ct _ _ (by omega) | exact b_andr _ (by omega))).mp c_3
    refine lv_iload_n hx hb dX4_store_15 rfl (lv_at hl 2 rfl) ?_
    refine fx_callS (As := [.int (nI v)]) (rest := []) ⟨hx, hb, hml, hown, hts⟩ (c_X4_isBit l D cI cJ cZ (wA q cI cJ xro xtk xli cn ci cs cso cki cfa cfb cfc cva csn csd csl csb csr csc won wle pte pho nwa nti) (nI v)) (va_cwS 1 hts gX4_store_X4_isBit rfl rfl rfl ks_X4_isBit ⟨Nat.le_of_ble_eq_true rfl, Nat.le_of_ble_eq_true rfl⟩) hK hP hD hS hA hZ rfl hl.1 rfl (lv_room (Nat.le_of_ble_eq_true rfl)) dX4_store_16 ⟨Nat.zero_le _, Nat.zero_le _⟩ (fun u_1 H locs hu_1 hP hD hS => ?_)
    refine lv_if_ne (tgt := 25) hx hb dX4_store_19 (by decide) (fun c_19 => ?_) (fun c_19 => ?_)
    · have f_19 : (bitB (nI v)) = true := bI_n0.mp c_19
      refine lv_aload_n hx hb dX4_store_25 rfl (lv_at hl 0 rfl) ?_
      refine va_get (D := D) (ci := 4) (v := .ref (q 1)) (C := RX4) (T := TX4) (N := 7) hx hb hts (fun w h => List.mem_cons_of_mem _ (List.mem_append_left _ (List.mem_append_left _ (List.mem_append_left _ (List.mem_append_right _ h))))) hown hK hP 0 rfl rfl 0 (by decide) (hts (.fieldLink RX4 10 "FirstStates" "circuit" "LFirstStates$Circuit;") (List.mem_of_getElem? (i := 1) rfl)) (fun _ h9 => h9) rfl dX4_store_26 ?_
      refine va_get (D := D) (ci := 0) (v := .int (nI cs)) (C := RX0) (T := TX0) (N := 15) hx hb hts (fun w h => List.mem_cons_of_mem _ (List.mem_append_left _ (List.mem_append_left _ (List.mem_append_right _ h)))) hown hK hP 1 rfl rfl 2 (by decide) (hts (.fieldLink RX4 82 "FirstStates$Circuit" "stores" "I") (List.mem_of_getElem? (i := 2) rfl)) (fun _ h9 => h9) rfl dX4_store_29 ?_
      refine lv_bipush (v := nI 6) hx hb dX4_store_32 (by decide) ?_
      refine lv_icmp_ge (tgt := 47) hx hb dX4_store_34 (by decide) (fun c_34 => ?_) (fun c_34 => ?_)
      · have f_34 : 6 ≤ cs := (nI_leI (a := 6) (b := cs) (by first | omega | exact b_and1 _ | exact b_ct _ _ (by omega) | exact b_andr _ (by omega)) (by first | omega | exact b_and1 _ | exact b_ct _ _ (by omega) | exact b_andr _ (by omega))).mp c_34
        refine lv_bipush (v := (-4)) hx hb dX4_store_47 (by decide) ?_
        exact hri () _ H locs 49 ls .int rfl rfl trivial rfl hP hD hS dX4_store_49
      have f_34 : ¬ 6 ≤ cs := fun h => c_34 ((nI_leI (a := 6) (b := cs) (by first | omega | exact b_and1 _ | exact b_ct _ _ (by omega) | exact b_andr _ (by omega)) (by first | omega | exact b_and1 _ | exact b_ct _ _ (by omega) | exact b_andr _ (by omega))).mpr h)
      refine lv_aload_n hx hb dX4_store_37 rfl (lv_at hl 0 rfl) ?_
      refine va_get (D := D) (ci := 4) (v := .ref (q 1)) (C := RX4) (T := TX4) (N := 7) hx hb hts (fun w h => List.mem_cons_of_mem _ (List.mem_append_left _ (List.mem_append_left _ (List.mem_append_left _ (List.mem_append_right _ h))))) hown hK hP 0 rfl rfl 0 (by decide) (hts (.fieldLink RX4 10 "FirstStates" "circuit" "LFirstStates$Circuit;") (List.mem_of_getElem? (i := 1) rfl)) (fun _ h9 => h9) rfl dX4_store_38 ?_
      refine fx_callV (As := []) (rest := []) ⟨hx, hb, hml, hown, hts⟩ (c_X0_isFull l D cI cJ cZ q xro xtk xli cn ci cs cso cki cfa cfb cfc cva csn csd csl csb csr csc won wle pte pho nwa nti (by first | assumption | omega)) (cwV 0 hts gX4_store_X0_isFull rfl rfl rfl kv_X0_isFull ⟨Nat.le_of_ble_eq_true rfl, Nat.le_of_ble_eq_true rfl⟩) hK hP hD hS hA hZ 1 rfl rfl rfl rfl hl.1 rfl (lv_room (Nat.le_of_ble_eq_true rfl)) dX4_store_41 ⟨Nat.zero_le _, Nat.zero_le _⟩ (fun u_2 H locs hu_2 hP hD hS => ?_)
      refine lv_if_eq (tgt := 50) hx hb dX4_store_44 (by decide) (fun c_44 => ?_) (fun c_44 => ?_)
      · have f_44 : (decide (32 ≤ cn)) = false := bI_0.mp c_44
        exfalso; simp at f_44; omega
      have f_44 : (decide (32 ≤ cn)) = true := bI_n0.mp c_44
      refine lv_bipush (v := (-4)) hx hb dX4_store_47 (by decide) ?_
      exact hri () _ H locs 49 ls .int rfl rfl trivial rfl hP hD hS dX4_store_49
    have f_19 : (bitB (nI v)) = false := bI_0.mp c_19
    exfalso; rw [bitB_nI hv] at f_19; cases f_19
  have f_3 : ¬ ln = 4 := fun h => c_3 ((lI_9 (by first | omega | exact b_and1 _ | exact b_ct _ _ (by omega) | exact b_andr _ (by omega))).mpr h)
  refine lv_iload_n hx hb dX4_store_6 rfl (lv_at hl 1 rfl) ?_
  refine fx_callS (As := [.int (lI ln)]) (rest := []) ⟨hx, hb, hml, hown, hts⟩ (c_X4_isLine l D cI cJ cZ (wA q cI cJ xro xtk xli cn ci cs cso cki cfa cfb cfc cva csn csd csl csb csr csc won wle pte pho nwa nti) (lI ln)) (va_cwS 1 hts gX4_store_X4_isLine rfl rfl rfl ks_X4_isLine ⟨Nat.le_of_ble_eq_true rfl, Nat.le_of_ble_eq_true rfl⟩) hK hP hD hS hA hZ rfl hl.1 rfl (lv_room (Nat.le_of_ble_eq_true rfl)) dX4_store_7 ⟨Nat.zero_le _, Nat.zero_le _⟩ (fun u_3 H locs hu_3 hP hD hS => ?_)
  refine lv_if_ne (tgt := 15) hx hb dX4_store_10 (by decide) (fun c_10 => ?_) (fun c_10 => ?_)
  · have f_10 : (isN 4 (lI ln)) = true := bI_n0.mp c_10
    refine lv_iload_n hx hb dX4_store_15 rfl (lv_at hl 2 rfl) ?_
    refine fx_callS (As := [.int (nI v)]) (rest := []) ⟨hx, hb, hml, hown, hts⟩ (c_X4_isBit l D cI cJ cZ (wA q cI cJ xro xtk xli cn ci cs cso cki cfa cfb cfc cva csn csd csl csb csr csc won wle pte pho nwa nti) (nI v)) (va_cwS 1 hts gX4_store_X4_isBit rfl rfl rfl ks_X4_isBit ⟨Nat.le_of_ble_eq_true rfl, Nat.le_of_ble_eq_true rfl⟩) hK hP hD hS hA hZ rfl hl.1 rfl (lv_room (Nat.le_of_ble_eq_true rfl)) dX4_store_16 ⟨Nat.zero_le _, Nat.zero_le _⟩ (fun u_4 H locs hu_4 hP hD hS => ?_)
    refine lv_if_ne (tgt := 25) hx hb dX4_store_19 (by decide) (fun c_19 => ?_) (fun c_19 => ?_)
    · have f_19 : (bitB (nI v)) = true := bI_n0.mp c_19
      refine lv_aload_n hx hb dX4_store_25 rfl (lv_at hl 0 rfl) ?_
      refine va_get (D := D) (ci := 4) (v := .ref (q 1)) (C := RX4) (T := TX4) (N := 7) hx hb hts (fun w h => List.mem_cons_of_mem _ (List.mem_append_left _ (List.mem_append_left _ (List.mem_append_left _ (List.mem_append_right _ h))))) hown hK hP 0 rfl rfl 0 (by decide) (hts (.fieldLink RX4 10 "FirstStates" "circuit" "LFirstStates$Circuit;") (List.mem_of_getElem? (i := 1) rfl)) (fun _ h9 => h9) rfl dX4_store_26 ?_
      refine va_get (D := D) (ci := 0) (v := .int (nI cs)) (C := RX0) (T := TX0) (N := 15) hx hb hts (fun w h => List.mem_cons_of_mem _ (List.mem_append_left _ (List.mem_append_left _ (List.mem_append_right _ h)))) hown hK hP 1 rfl rfl 2 (by decide) (hts (.fieldLink RX4 82 "FirstStates$Circuit" "stores" "I") (List.mem_of_getElem? (i := 2) rfl)) (fun _ h9 => h9) rfl dX4_store_29 ?_
      refine lv_bipush (v := nI 6) hx hb dX4_store_32 (by decide) ?_
      refine lv_icmp_ge (tgt := 47) hx hb dX4_store_34 (by decide) (fun c_34 => ?_) (fun c_34 => ?_)
      · have f_34 : 6 ≤ cs := (nI_leI (a := 6) (b := cs) (by first | omega | exact b_and1 _ | exact b_ct _ _ (by omega) | exact b_andr _ (by omega)) (by first | omega | exact b_and1 _ | exact b_ct _ _ (by omega) | exact b_andr _ (by omega))).mp c_34
        refine lv_bipush (v := (-4)) hx hb dX4_store_47 (by decide) ?_
        exact hri () _ H locs 49 ls .int rfl rfl trivial rfl hP hD hS dX4_store_49
      have f_34 : ¬ 6 ≤ cs := fun h => c_34 ((nI_leI (a := 6) (b := cs) (by first | omega | exact b_and1 _ | exact b_ct _ _ (by omega) | exact b_andr _ (by omega)) (by first | omega | exact b_and1 _ | exact b_ct _ _ (by omega) | exact b_andr _ (by omega))).mpr h)
      refine lv_aload_n hx hb dX4_store_37 rfl (lv_at hl 0 rfl) ?_
      refine va_get (D := D) (ci := 4) (v := .ref (q 1)) (C := RX4) (T := TX4) (N := 7) hx hb hts (fun w h => List.mem_cons_of_mem _ (List.mem_append_left _ (List.mem_append_left _ (List.mem_append_left _ (List.mem_append_right _ h))))) hown hK hP 0 rfl rfl 0 (by decide) (hts (.fieldLink RX4 10 "FirstStates" "circuit" "LFirstStates$Circuit;") (List.mem_of_getElem? (i := 1) rfl)) (fun _ h9 => h9) rfl dX4_store_38 ?_
      refine fx_callV (As := []) (rest := []) ⟨hx, hb, hml, hown, hts⟩ (c_X0_isFull l D cI cJ cZ q xro xtk xli cn ci cs cso cki cfa cfb cfc cva csn csd csl csb csr csc won wle pte pho nwa nti (by first | assumption | omega)) (cwV 0 hts gX4_store_X0_isFull rfl rfl rfl kv_X0_isFull ⟨Nat.le_of_ble_eq_true rfl, Nat.le_of_ble_eq_true rfl⟩) hK hP hD hS hA hZ 1 rfl rfl rfl rfl hl.1 rfl (lv_room (Nat.le_of_ble_eq_true rfl)) dX4_store_41 ⟨Nat.zero_le _, Nat.zero_le _⟩ (fun u_5 H locs hu_5 hP hD hS => ?_)
      refine lv_if_eq (tgt := 50) hx hb dX4_store_44 (by decide) (fun c_44 => ?_) (fun c_44 => ?_)
      · have f_44 : (decide (32 ≤ cn)) = false := bI_0.mp c_44
        exfalso; simp at f_44; omega
      have f_44 : (decide (32 ≤ cn)) = true := bI_n0.mp c_44
      refine lv_bipush (v := (-4)) hx hb dX4_store_47 (by decide) ?_
      exact hri () _ H locs 49 ls .int rfl rfl trivial rfl hP hD hS dX4_store_49
    have f_19 : (bitB (nI v)) = false := bI_0.mp c_19
    exfalso; rw [bitB_nI hv] at f_19; cases f_19
  have f_10 : (isN 4 (lI ln)) = false := bI_0.mp c_10
  exfalso; rw [isN_lI (by omega)] at f_10; cases f_10
set_option maxHeartbeats 4000000 in
set_option maxRecDepth 100000 in
theorem c_X4_store (l : Launch) (D : va_G) (cI cJ cZ : ClassId) (q : Nat → Nat) (xro : Int64) (xtk : Nat) (xli : Nat) (cn : Nat) (ci : Nat) (cs : Nat) (cso : Nat → Nat) (cki : Nat → Nat) (cfa : Nat → Nat) (cfb : Nat → Nat) (cfc : Nat → Nat) (cva : Nat → Nat) (csn : Nat → Nat) (csd : Nat → Nat) (csl : Nat → Nat) (csb : Nat → Nat) (csr : Nat → Nat) (csc : Nat → Nat) (won : Nat → Int64) (wle : Nat → Int64) (pte : Nat → Nat) (pho : Nat → Nat) (nwa : Nat → Int32) (nti : Nat → Int32) (ln : Nat) (v : Nat) (hl4 : ln ≤ 4) (hv : v ≤ 1) (hcn : cn < 32) (hcs : cs < 6) : Ct l D cI cJ cZ yX4_store wsX4_store ({ frames := 3, cells := 0, slots := 0, locals := 61 } : Room) 0 0 [.ref (q 0), .int (lI ln), .int (nI v)] (wA q cI cJ xro xtk xli cn ci cs cso cki cfa cfb cfc cva csn csd csl csb csr csc won wle pte pho nwa nti) (S := Unit) (fun u => True) (fun u => some (.int (nI cn))) (fun u => (wA q cI cJ (alR (cs + 1)) 0 xli (cn + 1) ci (cs + 1) (va_up cso cn 3) cki cfa cfb cfc cva (va_up csn cn cs) (va_up csd cs cn) (va_up csl cs ln) (va_up csb cs v) (va_up csr cs cn) csc won wle pte (mixF (fun _ => 2) pho 6) nwa nti)) := by
  refine Ct.ofW (cc := cX4_store) (maxL := 4) (ret := (some .int)) (R_C := RX4) (by decide +kernel) rfl rfl (Nat.le_of_ble_eq_true rfl) rfl ?_
  intro p e s m args below meth c A Q ls H locs hx hb hml hown hts hK hA hP hD hS hZ hl hri hrl hrv
  refine lv_iload_n hx hb dX4_store_0 rfl (lv_at hl 1 rfl) ?_
  refine lv_bipush (v := (-9)) hx hb dX4_store_1 (by decide) ?_
  refine lv_icmp_eq (tgt := 15) hx hb dX4_store_3 (by decide) (fun c_3 => ?_) (fun c_3 => ?_)
  · have f_3 : ln = 4 := (lI_9 (by first | omega | exact b_and1 _ | exact b_ct _ _ (by omega) | exact b_andr _ (by omega))).mp c_3
    refine lv_iload_n hx hb dX4_store_15 rfl (lv_at hl 2 rfl) ?_
    refine fx_callS (As := [.int (nI v)]) (rest := []) ⟨hx, hb, hml, hown, hts⟩ (c_X4_isBit l D cI cJ cZ (wA q cI cJ xro xtk xli cn ci cs cso cki cfa cfb cfc cva csn csd csl csb csr csc won wle pte pho nwa nti) (nI v)) (va_cwS 1 hts gX4_store_X4_isBit rfl rfl rfl ks_X4_isBit ⟨Nat.le_of_ble_eq_true rfl, Nat.le_of_ble_eq_true rfl⟩) hK hP hD hS hA hZ rfl hl.1 rfl (lv_room (Nat.le_of_ble_eq_true rfl)) dX4_store_16 ⟨Nat.zero_le _, Nat.zero_le _⟩ (fun u_1 H locs hu_1 hP hD hS => ?_)
    refine lv_if_ne (tgt := 25) hx hb dX4_store_19 (by decide) (fun c_19 => ?_) (fun c_19 => ?_)
    · have f_19 : (bitB (nI v)) = true := bI_n0.mp c_19
      refine lv_aload_n hx hb dX4_store_25 rfl (lv_at hl 0 rfl) ?_
      refine va_get (D := D) (ci := 4) (v := .ref (q 1)) (C := RX4) (T := TX4) (N := 7) hx hb hts (fun w h => List.mem_cons_of_mem _ (List.mem_append_left _ (List.mem_append_left _ (List.mem_append_left _ (List.mem_append_right _ h))))) hown hK hP 0 rfl rfl 0 (by decide) (hts (.fieldLink RX4 10 "FirstStates" "circuit" "LFirstStates$Circuit;") (List.mem_of_getElem? (i := 1) rfl)) (fun _ h9 => h9) rfl dX4_store_26 ?_
      refine va_get (D := D) (ci := 0) (v := .int (nI cs)) (C := RX0) (T := TX0) (N := 15) hx hb hts (fun w h => List.mem_cons_of_mem _ (List.mem_append_left _ (List.mem_append_left _ (List.mem_append_right _ h)))) hown hK hP 1 rfl rfl 2 (by decide) (hts (.fieldLink RX4 82 "FirstStates$Circuit" "stores" "I") (List.mem_of_getElem? (i := 2) rfl)) (fun _ h9 => h9) rfl dX4_store_29 ?_
      refine lv_bipush (v := nI 6) hx hb dX4_store_32 (by decide) ?_
      refine lv_icmp_ge (tgt := 47) hx hb dX4_store_34 (by decide) (fun c_34 => ?_) (fun c_34 => ?_)
      · have f_34 : 6 ≤ cs := (nI_leI (a := 6) (b := cs) (by first | omega | exact b_and1 _ | exact b_ct _ _ (by omega) | exact b_andr _ (by omega)) (by first | omega | exact b_and1 _ | exact b_ct _ _ (by omega) | exact b_andr _ (by omega))).mp c_34
        exfalso; omega
      have f_34 : ¬ 6 ≤ cs := fun h => c_34 ((nI_leI (a := 6) (b := cs) (by first | omega | exact b_and1 _ | exact b_ct _ _ (by omega) | exact b_andr _ (by omega)) (by first | omega | exact b_and1 _ | exact b_ct _ _ (by omega) | exact b_andr _ (by omega))).mpr h)
      refine lv_aload_n hx hb dX4_store_37 rfl (lv_at hl 0 rfl) ?_
      refine va_get (D := D) (ci := 4) (v := .ref (q 1)) (C := RX4) (T := TX4) (N := 7) hx hb hts (fun w h => List.mem_cons_of_mem _ (List.mem_append_left _ (List.mem_append_left _ (List.mem_append_left _ (List.mem_append_right _ h))))) hown hK hP 0 rfl rfl 0 (by decide) (hts (.fieldLink RX4 10 "FirstStates" "circuit" "LFirstStates$Circuit;") (List.mem_of_getElem? (i := 1) rfl)) (fun _ h9 => h9) rfl dX4_store_38 ?_
      refine fx_callV (As := []) (rest := []) ⟨hx, hb, hml, hown, hts⟩ (c_X0_isFull l D cI cJ cZ q xro xtk xli cn ci cs cso cki cfa cfb cfc cva csn csd csl csb csr csc won wle pte pho nwa nti (by first | assumption | omega)) (cwV 0 hts gX4_store_X0_isFull rfl rfl rfl kv_X0_isFull ⟨Nat.le_of_ble_eq_true rfl, Nat.le_of_ble_eq_true rfl⟩) hK hP hD hS hA hZ 1 rfl rfl rfl rfl hl.1 rfl (lv_room (Nat.le_of_ble_eq_true rfl)) dX4_store_41 ⟨Nat.zero_le _, Nat.zero_le _⟩ (fun u_2 H locs hu_2 hP hD hS => ?_)
      refine lv_if_eq (tgt := 50) hx hb dX4_store_44 (by decide) (fun c_44 => ?_) (fun c_44 => ?_)
      · have f_44 : (decide (32 ≤ cn)) = false := bI_0.mp c_44
        refine lv_aload_n hx hb dX4_store_50 rfl (lv_at hl 0 rfl) ?_
        refine va_get (D := D) (ci := 4) (v := .ref (q 1)) (C := RX4) (T := TX4) (N := 7) hx hb hts (fun w h => List.mem_cons_of_mem _ (List.mem_append_left _ (List.mem_append_left _ (List.mem_append_left _ (List.mem_append_right _ h))))) hown hK hP 0 rfl rfl 0 (by decide) (hts (.fieldLink RX4 10 "FirstStates" "circuit" "LFirstStates$Circuit;") (List.mem_of_getElem? (i := 1) rfl)) (fun _ h9 => h9) rfl dX4_store_51 ?_
        refine lv_iload_n hx hb dX4_store_54 rfl (lv_at hl 1 rfl) ?_
        refine lv_iload_n hx hb dX4_store_55 rfl (lv_at hl 2 rfl) ?_
        refine fx_callV (As := [.int (lI ln), .int (nI v)]) (rest := []) ⟨hx, hb, hml, hown, hts⟩ (c_X0_addStore l D cI cJ cZ q xro xtk xli cn ci cs cso cki cfa cfb cfc cva csn csd csl csb csr csc won wle pte pho nwa nti ln v (by first | assumption | omega) (by first | assumption | omega)) (cwV 2 hts gX4_store_X0_addStore rfl rfl rfl kv_X0_addStore ⟨Nat.le_of_ble_eq_true rfl, Nat.le_of_ble_eq_true rfl⟩) hK hP hD hS hA hZ 1 rfl rfl rfl rfl hl.1 rfl (lv_room (Nat.le_of_ble_eq_true rfl)) dX4_store_56 ⟨Nat.zero_le _, Nat.zero_le _⟩ (fun u_3 H locs hu_3 hP hD hS => ?_)
        have hP : va_P D vwCl (wA q cI cJ xro xtk xli (cn + 1) ci (cs + 1) (va_up cso cn 3) cki cfa cfb cfc cva (va_up csn cn cs) (va_up csd cs cn) (va_up csl cs ln) (va_up csb cs v) (va_up csr cs cn) csc won wle pte pho nwa nti) H := hP
        have hD : va_D A (wA q cI cJ xro xtk xli (cn + 1) ci (cs + 1) (va_up cso cn 3) cki cfa cfb cfc cva (va_up csn cn cs) (va_up csd cs cn) (va_up csl cs ln) (va_up csb cs v) (va_up csr cs cn) csc won wle pte pho nwa nti) := fx_D hD rfl
        refine lv_istore_n (lv' := [(3, .int (nI cn)), (0, .ref (q 0)), (1, .int (lI ln)), (2, .int (nI v))]) hx hb dX4_store_59 rfl hl (by decide) rfl (fun ls hl => ?_)
        refine lv_aload_n hx hb dX4_store_60 rfl (lv_at hl 1 rfl) ?_
        refine fx_callV (As := []) (rest := []) ⟨hx, hb, hml, hown, hts⟩ (c_X4_beginAgain l D cI cJ cZ q xro xtk xli (cn + 1) ci (cs + 1) (va_up cso cn 3) cki cfa cfb cfc cva (va_up csn cn cs) (va_up csd cs cn) (va_up csl cs ln) (va_up csb cs v) (va_up csr cs cn) csc won wle pte pho nwa nti (by first | assumption | omega)) (cwV 0 hts gX4_store_X4_beginAgain rfl rfl rfl kv_X4_beginAgain ⟨Nat.le_of_ble_eq_true rfl, Nat.le_of_ble_eq_true rfl⟩) hK hP hD hS hA hZ 0 rfl rfl rfl rfl hl.1 rfl (lv_room (Nat.le_of_ble_eq_true rfl)) dX4_store_61 ⟨Nat.zero_le _, Nat.zero_le _⟩ (fun u_4 H locs hu_4 hP hD hS => ?_)
        have hP : va_P D vwCl (wA q cI cJ (alR (cs + 1)) 0 xli (cn + 1) ci (cs + 1) (va_up cso cn 3) cki cfa cfb cfc cva (va_up csn cn cs) (va_up csd cs cn) (va_up csl cs ln) (va_up csb cs v) (va_up csr cs cn) csc won wle pte (mixF (fun _ => 2) pho 6) nwa nti) H := hP
        have hD : va_D A (wA q cI cJ (alR (cs + 1)) 0 xli (cn + 1) ci (cs + 1) (va_up cso cn 3) cki cfa cfb cfc cva (va_up csn cn cs) (va_up csd cs cn) (va_up csl cs ln) (va_up csb cs v) (va_up csr cs cn) csc won wle pte (mixF (fun _ => 2) pho 6) nwa nti) := fx_D hD rfl
        refine lv_iload_n hx hb dX4_store_64 rfl (lv_at hl 0 rfl) ?_
        exact hri () _ H locs 65 ls .int rfl rfl trivial rfl hP hD hS dX4_store_65
      have f_44 : (decide (32 ≤ cn)) = true := bI_n0.mp c_44
      exfalso; simp at f_44; omega
    have f_19 : (bitB (nI v)) = false := bI_0.mp c_19
    exfalso; rw [bitB_nI hv] at f_19; cases f_19
  have f_3 : ¬ ln = 4 := fun h => c_3 ((lI_9 (by first | omega | exact b_and1 _ | exact b_ct _ _ (by omega) | exact b_andr _ (by omega))).mpr h)
  refine lv_iload_n hx hb dX4_store_6 rfl (lv_at hl 1 rfl) ?_
  refine fx_callS (As := [.int (lI ln)]) (rest := []) ⟨hx, hb, hml, hown, hts⟩ (c_X4_isLine l D cI cJ cZ (wA q cI cJ xro xtk xli cn ci cs cso cki cfa cfb cfc cva csn csd csl csb csr csc won wle pte pho nwa nti) (lI ln)) (va_cwS 1 hts gX4_store_X4_isLine rfl rfl rfl ks_X4_isLine ⟨Nat.le_of_ble_eq_true rfl, Nat.le_of_ble_eq_true rfl⟩) hK hP hD hS hA hZ rfl hl.1 rfl (lv_room (Nat.le_of_ble_eq_true rfl)) dX4_store_7 ⟨Nat.zero_le _, Nat.zero_le _⟩ (fun u_5 H locs hu_5 hP hD hS => ?_)
  refine lv_if_ne (tgt := 15) hx hb dX4_store_10 (by decide) (fun c_10 => ?_) (fun c_10 => ?_)
  · have f_10 : (isN 4 (lI ln)) = true := bI_n0.mp c_10
    refine lv_iload_n hx hb dX4_store_15 rfl (lv_at hl 2 rfl) ?_
    refine fx_callS (As := [.int (nI v)]) (rest := []) ⟨hx, hb, hml, hown, hts⟩ (c_X4_isBit l D cI cJ cZ (wA q cI cJ xro xtk xli cn ci cs cso cki cfa cfb cfc cva csn csd csl csb csr csc won wle pte pho nwa nti) (nI v)) (va_cwS 1 hts gX4_store_X4_isBit rfl rfl rfl ks_X4_isBit ⟨Nat.le_of_ble_eq_true rfl, Nat.le_of_ble_eq_true rfl⟩) hK hP hD hS hA hZ rfl hl.1 rfl (lv_room (Nat.le_of_ble_eq_true rfl)) dX4_store_16 ⟨Nat.zero_le _, Nat.zero_le _⟩ (fun u_6 H locs hu_6 hP hD hS => ?_)
    refine lv_if_ne (tgt := 25) hx hb dX4_store_19 (by decide) (fun c_19 => ?_) (fun c_19 => ?_)
    · have f_19 : (bitB (nI v)) = true := bI_n0.mp c_19
      refine lv_aload_n hx hb dX4_store_25 rfl (lv_at hl 0 rfl) ?_
      refine va_get (D := D) (ci := 4) (v := .ref (q 1)) (C := RX4) (T := TX4) (N := 7) hx hb hts (fun w h => List.mem_cons_of_mem _ (List.mem_append_left _ (List.mem_append_left _ (List.mem_append_left _ (List.mem_append_right _ h))))) hown hK hP 0 rfl rfl 0 (by decide) (hts (.fieldLink RX4 10 "FirstStates" "circuit" "LFirstStates$Circuit;") (List.mem_of_getElem? (i := 1) rfl)) (fun _ h9 => h9) rfl dX4_store_26 ?_
      refine va_get (D := D) (ci := 0) (v := .int (nI cs)) (C := RX0) (T := TX0) (N := 15) hx hb hts (fun w h => List.mem_cons_of_mem _ (List.mem_append_left _ (List.mem_append_left _ (List.mem_append_right _ h)))) hown hK hP 1 rfl rfl 2 (by decide) (hts (.fieldLink RX4 82 "FirstStates$Circuit" "stores" "I") (List.mem_of_getElem? (i := 2) rfl)) (fun _ h9 => h9) rfl dX4_store_29 ?_
      refine lv_bipush (v := nI 6) hx hb dX4_store_32 (by decide) ?_
      refine lv_icmp_ge (tgt := 47) hx hb dX4_store_34 (by decide) (fun c_34 => ?_) (fun c_34 => ?_)
      · have f_34 : 6 ≤ cs := (nI_leI (a := 6) (b := cs) (by first | omega | exact b_and1 _ | exact b_ct _ _ (by omega) | exact b_andr _ (by omega)) (by first | omega | exact b_and1 _ | exact b_ct _ _ (by omega) | exact b_andr _ (by omega))).mp c_34
        exfalso; omega
      have f_34 : ¬ 6 ≤ cs := fun h => c_34 ((nI_leI (a := 6) (b := cs) (by first | omega | exact b_and1 _ | exact b_ct _ _ (by omega) | exact b_andr _ (by omega)) (by first | omega | exact b_and1 _ | exact b_ct _ _ (by omega) | exact b_andr _ (by omega))).mpr h)
      refine lv_aload_n hx hb dX4_store_37 rfl (lv_at hl 0 rfl) ?_
      refine va_get (D := D) (ci := 4) (v := .ref (q 1)) (C := RX4) (T := TX4) (N := 7) hx hb hts (fun w h => List.mem_cons_of_mem _ (List.mem_append_left _ (List.mem_append_left _ (List.mem_append_left _ (List.mem_append_right _ h))))) hown hK hP 0 rfl rfl 0 (by decide) (hts (.fieldLink RX4 10 "FirstStates" "circuit" "LFirstStates$Circuit;") (List.mem_of_getElem? (i := 1) rfl)) (fun _ h9 => h9) rfl dX4_store_38 ?_
      refine fx_callV (As := []) (rest := []) ⟨hx, hb, hml, hown, hts⟩ (c_X0_isFull l D cI cJ cZ q xro xtk xli cn ci cs cso cki cfa cfb cfc cva csn csd csl csb csr csc won wle pte pho nwa nti (by first | assumption | omega)) (cwV 0 hts gX4_store_X0_isFull rfl rfl rfl kv_X0_isFull ⟨Nat.le_of_ble_eq_true rfl, Nat.le_of_ble_eq_true rfl⟩) hK hP hD hS hA hZ 1 rfl rfl rfl rfl hl.1 rfl (lv_room (Nat.le_of_ble_eq_true rfl)) dX4_store_41 ⟨Nat.zero_le _, Nat.zero_le _⟩ (fun u_7 H locs hu_7 hP hD hS => ?_)
      refine lv_if_eq (tgt := 50) hx hb dX4_store_44 (by decide) (fun c_44 => ?_) (fun c_44 => ?_)
      · have f_44 : (decide (32 ≤ cn)) = false := bI_0.mp c_44
        refine lv_aload_n hx hb dX4_store_50 rfl (lv_at hl 0 rfl) ?_
        refine va_get (D := D) (ci := 4) (v := .ref (q 1)) (C := RX4) (T := TX4) (N := 7) hx hb hts (fun w h => List.mem_cons_of_mem _ (List.mem_append_left _ (List.mem_append_left _ (List.mem_append_left _ (List.mem_append_right _ h))))) hown hK hP 0 rfl rfl 0 (by decide) (hts (.fieldLink RX4 10 "FirstStates" "circuit" "LFirstStates$Circuit;") (List.mem_of_getElem? (i := 1) rfl)) (fun _ h9 => h9) rfl dX4_store_51 ?_
        refine lv_iload_n hx hb dX4_store_54 rfl (lv_at hl 1 rfl) ?_
        refine lv_iload_n hx hb dX4_store_55 rfl (lv_at hl 2 rfl) ?_
        refine fx_callV (As := [.int (lI ln), .int (nI v)]) (rest := []) ⟨hx, hb, hml, hown, hts⟩ (c_X0_addStore l D cI cJ cZ q xro xtk xli cn ci cs cso cki cfa cfb cfc cva csn csd csl csb csr csc won wle pte pho nwa nti ln v (by first | assumption | omega) (by first | assumption | omega)) (cwV 2 hts gX4_store_X0_addStore rfl rfl rfl kv_X0_addStore ⟨Nat.le_of_ble_eq_true rfl, Nat.le_of_ble_eq_true rfl⟩) hK hP hD hS hA hZ 1 rfl rfl rfl rfl hl.1 rfl (lv_room (Nat.le_of_ble_eq_true rfl)) dX4_store_56 ⟨Nat.zero_le _, Nat.zero_le _⟩ (fun u_8 H locs hu_8 hP hD hS => ?_)
        have hP : va_P D vwCl (wA q cI cJ xro xtk xli (cn + 1) ci (cs + 1) (va_up cso cn 3) cki cfa cfb cfc cva (va_up csn cn cs) (va_up csd cs cn) (va_up csl cs ln) (va_up csb cs v) (va_up csr cs cn) csc won wle pte pho nwa nti) H := hP
        have hD : va_D A (wA q cI cJ xro xtk xli (cn + 1) ci (cs + 1) (va_up cso cn 3) cki cfa cfb cfc cva (va_up csn cn cs) (va_up csd cs cn) (va_up csl cs ln) (va_up csb cs v) (va_up csr cs cn) csc won wle pte pho nwa nti) := fx_D hD rfl
        refine lv_istore_n (lv' := [(3, .int (nI cn)), (0, .ref (q 0)), (1, .int (lI ln)), (2, .int (nI v))]) hx hb dX4_store_59 rfl hl (by decide) rfl (fun ls hl => ?_)
        refine lv_aload_n hx hb dX4_store_60 rfl (lv_at hl 1 rfl) ?_
        refine fx_callV (As := []) (rest := []) ⟨hx, hb, hml, hown, hts⟩ (c_X4_beginAgain l D cI cJ cZ q xro xtk xli (cn + 1) ci (cs + 1) (va_up cso cn 3) cki cfa cfb cfc cva (va_up csn cn cs) (va_up csd cs cn) (va_up csl cs ln) (va_up csb cs v) (va_up csr cs cn) csc won wle pte pho nwa nti (by first | assumption | omega)) (cwV 0 hts gX4_store_X4_beginAgain rfl rfl rfl kv_X4_beginAgain ⟨Nat.le_of_ble_eq_true rfl, Nat.le_of_ble_eq_true rfl⟩) hK hP hD hS hA hZ 0 rfl rfl rfl rfl hl.1 rfl (lv_room (Nat.le_of_ble_eq_true rfl)) dX4_store_61 ⟨Nat.zero_le _, Nat.zero_le _⟩ (fun u_9 H locs hu_9 hP hD hS => ?_)
        have hP : va_P D vwCl (wA q cI cJ (alR (cs + 1)) 0 xli (cn + 1) ci (cs + 1) (va_up cso cn 3) cki cfa cfb cfc cva (va_up csn cn cs) (va_up csd cs cn) (va_up csl cs ln) (va_up csb cs v) (va_up csr cs cn) csc won wle pte (mixF (fun _ => 2) pho 6) nwa nti) H := hP
        have hD : va_D A (wA q cI cJ (alR (cs + 1)) 0 xli (cn + 1) ci (cs + 1) (va_up cso cn 3) cki cfa cfb cfc cva (va_up csn cn cs) (va_up csd cs cn) (va_up csl cs ln) (va_up csb cs v) (va_up csr cs cn) csc won wle pte (mixF (fun _ => 2) pho 6) nwa nti) := fx_D hD rfl
        refine lv_iload_n hx hb dX4_store_64 rfl (lv_at hl 0 rfl) ?_
        exact hri () _ H locs 65 ls .int rfl rfl trivial rfl hP hD hS dX4_store_65
      have f_44 : (decide (32 ≤ cn)) = true := bI_n0.mp c_44
      exfalso; simp at f_44; omega
    have f_19 : (bitB (nI v)) = false := bI_0.mp c_19
    exfalso; rw [bitB_nI hv] at f_19; cases f_19
  have f_10 : (isN 4 (lI ln)) = false := bI_0.mp c_10
  exfalso; rw [isN_lI (by omega)] at f_10; cases f_10
set_option maxHeartbeats 4000000 in
set_option maxRecDepth 100000 in
theorem c_X4_reads_u (l : Launch) (D : va_G) (cI cJ cZ : ClassId) (q : Nat → Nat) (xro : Int64) (xtk : Nat) (xli : Nat) (cn : Nat) (ci : Nat) (cs : Nat) (cso : Nat → Nat) (cki : Nat → Nat) (cfa : Nat → Nat) (cfb : Nat → Nat) (cfc : Nat → Nat) (cva : Nat → Nat) (csn : Nat → Nat) (csd : Nat → Nat) (csl : Nat → Nat) (csb : Nat → Nat) (csr : Nat → Nat) (csc : Nat → Nat) (won : Nat → Int64) (wle : Nat → Int64) (pte : Nat → Nat) (pho : Nat → Nat) (nwa : Nat → Int32) (nti : Nat → Int32) (x : Int32) (y : Int32) (hcn : cn ≤ 32) (hu : (isN cn x && isN cn y) = false) : Ct l D cI cJ cZ yX4_reads wsX4_reads ({ frames := 1, cells := 0, slots := 0, locals := 21 } : Room) 0 0 [.ref (q 0), .int x, .int y] (wA q cI cJ xro xtk xli cn ci cs cso cki cfa cfb cfc cva csn csd csl csb csr csc won wle pte pho nwa nti) (S := Unit) (fun u => True) (fun u => some (.int (-1))) (fun u => (wA q cI cJ xro xtk xli cn ci cs cso cki cfa cfb cfc cva csn csd csl csb csr csc won wle pte pho nwa nti)) := by
  refine Ct.ofW (cc := cX4_reads) (maxL := 5) (ret := (some .int)) (R_C := RX4) (by decide +kernel) rfl rfl (Nat.le_of_ble_eq_true rfl) rfl ?_
  intro p e s m args below meth c A Q ls H locs hx hb hml hown hts hK hA hP hD hS hZ hl hri hrl hrv
  refine lv_aload_n hx hb dX4_reads_0 rfl (lv_at hl 0 rfl) ?_
  refine va_get (D := D) (ci := 4) (v := .ref (q 1)) (C := RX4) (T := TX4) (N := 7) hx hb hts (fun w h => List.mem_cons_of_mem _ (List.mem_append_left _ (List.mem_append_left _ (List.mem_append_left _ (List.mem_append_right _ h))))) hown hK hP 0 rfl rfl 0 (by decide) (hts (.fieldLink RX4 10 "FirstStates" "circuit" "LFirstStates$Circuit;") (List.mem_of_getElem? (i := 1) rfl)) (fun _ h9 => h9) rfl dX4_reads_1 ?_
  refine lv_iload_n hx hb dX4_reads_4 rfl (lv_at hl 1 rfl) ?_
  refine fx_callV (As := [.int x]) (rest := []) ⟨hx, hb, hml, hown, hts⟩ (c_X0_isNode l D cI cJ cZ q xro xtk xli cn ci cs cso cki cfa cfb cfc cva csn csd csl csb csr csc won wle pte pho nwa nti x) (cwV 1 hts gX4_reads_X0_isNode rfl rfl rfl kv_X0_isNode ⟨Nat.le_of_ble_eq_true rfl, Nat.le_of_ble_eq_true rfl⟩) hK hP hD hS hA hZ 1 rfl rfl rfl rfl hl.1 rfl (lv_room (Nat.le_of_ble_eq_true rfl)) dX4_reads_5 ⟨Nat.zero_le _, Nat.zero_le _⟩ (fun u_1 H locs hu_1 hP hD hS => ?_)
  refine lv_if_eq (tgt := 22) hx hb dX4_reads_8 (by decide) (fun c_8 => ?_) (fun c_8 => ?_)
  · have f_8 : (isN cn x) = false := bI_0.mp c_8
    refine lv_iconst (v := (-1)) hx hb dX4_reads_22 (by decide) ?_
    exact hri () _ H locs 23 ls .int rfl rfl trivial rfl hP hD hS dX4_reads_23
  have f_8 : (isN cn x) = true := bI_n0.mp c_8
  refine lv_aload_n hx hb dX4_reads_11 rfl (lv_at hl 0 rfl) ?_
  refine va_get (D := D) (ci := 4) (v := .ref (q 1)) (C := RX4) (T := TX4) (N := 7) hx hb hts (fun w h => List.mem_cons_of_mem _ (List.mem_append_left _ (List.mem_append_left _ (List.mem_append_left _ (List.mem_append_right _ h))))) hown hK hP 0 rfl rfl 0 (by decide) (hts (.fieldLink RX4 10 "FirstStates" "circuit" "LFirstStates$Circuit;") (List.mem_of_getElem? (i := 1) rfl)) (fun _ h9 => h9) rfl dX4_reads_12 ?_
  refine lv_iload_n hx hb dX4_reads_15 rfl (lv_at hl 2 rfl) ?_
  refine fx_callV (As := [.int y]) (rest := []) ⟨hx, hb, hml, hown, hts⟩ (c_X0_isNode l D cI cJ cZ q xro xtk xli cn ci cs cso cki cfa cfb cfc cva csn csd csl csb csr csc won wle pte pho nwa nti y) (cwV 1 hts gX4_reads_X0_isNode rfl rfl rfl kv_X0_isNode ⟨Nat.le_of_ble_eq_true rfl, Nat.le_of_ble_eq_true rfl⟩) hK hP hD hS hA hZ 1 rfl rfl rfl rfl hl.1 rfl (lv_room (Nat.le_of_ble_eq_true rfl)) dX4_reads_16 ⟨Nat.zero_le _, Nat.zero_le _⟩ (fun u_2 H locs hu_2 hP hD hS => ?_)
  refine lv_if_ne (tgt := 24) hx hb dX4_reads_19 (by decide) (fun c_19 => ?_) (fun c_19 => ?_)
  · have f_19 : (isN cn y) = true := bI_n0.mp c_19
    exfalso; simp [f_8, f_19] at hu
  have f_19 : (isN cn y) = false := bI_0.mp c_19
  refine lv_iconst (v := (-1)) hx hb dX4_reads_22 (by decide) ?_
  exact hri () _ H locs 23 ls .int rfl rfl trivial rfl hP hD hS dX4_reads_23
set_option maxHeartbeats 4000000 in
set_option maxRecDepth 100000 in
theorem c_X4_reads_s (l : Launch) (D : va_G) (cI cJ cZ : ClassId) (q : Nat → Nat) (xro : Int64) (xtk : Nat) (xli : Nat) (cn : Nat) (ci : Nat) (cs : Nat) (cso : Nat → Nat) (cki : Nat → Nat) (cfa : Nat → Nat) (cfb : Nat → Nat) (cfc : Nat → Nat) (cva : Nat → Nat) (csn : Nat → Nat) (csd : Nat → Nat) (csl : Nat → Nat) (csb : Nat → Nat) (csr : Nat → Nat) (csc : Nat → Nat) (won : Nat → Int64) (wle : Nat → Int64) (pte : Nat → Nat) (pho : Nat → Nat) (nwa : Nat → Int32) (nti : Nat → Int32) (k : Nat) (n : Nat) (hcn : cn ≤ 32) (hk : k < cn) (hn : n < cn) (hso : cso k ≤ 3) (h3 : ¬ cso k = 3) : Ct l D cI cJ cZ yX4_reads wsX4_reads ({ frames := 2, cells := 0, slots := 0, locals := 43 } : Room) 0 0 [.ref (q 0), .int (nI k), .int (nI n)] (wA q cI cJ xro xtk xli cn ci cs cso cki cfa cfb cfc cva csn csd csl csb csr csc won wle pte pho nwa nti) (S := Unit) (fun u => True) (fun u => some (.int (-3))) (fun u => (wA q cI cJ xro xtk xli cn ci cs cso cki cfa cfb cfc cva csn csd csl csb csr csc won wle pte pho nwa nti)) := by
  refine Ct.ofW (cc := cX4_reads) (maxL := 5) (ret := (some .int)) (R_C := RX4) (by decide +kernel) rfl rfl (Nat.le_of_ble_eq_true rfl) rfl ?_
  intro p e s m args below meth c A Q ls H locs hx hb hml hown hts hK hA hP hD hS hZ hl hri hrl hrv
  refine lv_aload_n hx hb dX4_reads_0 rfl (lv_at hl 0 rfl) ?_
  refine va_get (D := D) (ci := 4) (v := .ref (q 1)) (C := RX4) (T := TX4) (N := 7) hx hb hts (fun w h => List.mem_cons_of_mem _ (List.mem_append_left _ (List.mem_append_left _ (List.mem_append_left _ (List.mem_append_right _ h))))) hown hK hP 0 rfl rfl 0 (by decide) (hts (.fieldLink RX4 10 "FirstStates" "circuit" "LFirstStates$Circuit;") (List.mem_of_getElem? (i := 1) rfl)) (fun _ h9 => h9) rfl dX4_reads_1 ?_
  refine lv_iload_n hx hb dX4_reads_4 rfl (lv_at hl 1 rfl) ?_
  refine fx_callV (As := [.int (nI k)]) (rest := []) ⟨hx, hb, hml, hown, hts⟩ (c_X0_isNode l D cI cJ cZ q xro xtk xli cn ci cs cso cki cfa cfb cfc cva csn csd csl csb csr csc won wle pte pho nwa nti (nI k)) (cwV 1 hts gX4_reads_X0_isNode rfl rfl rfl kv_X0_isNode ⟨Nat.le_of_ble_eq_true rfl, Nat.le_of_ble_eq_true rfl⟩) hK hP hD hS hA hZ 1 rfl rfl rfl rfl hl.1 rfl (lv_room (Nat.le_of_ble_eq_true rfl)) dX4_reads_5 ⟨Nat.zero_le _, Nat.zero_le _⟩ (fun u_1 H locs hu_1 hP hD hS => ?_)
  refine lv_if_eq (tgt := 22) hx hb dX4_reads_8 (by decide) (fun c_8 => ?_) (fun c_8 => ?_)
  · have f_8 : (isN cn (nI k)) = false := bI_0.mp c_8
    exfalso; rw [isN_nI (by omega) (by omega)] at f_8; simp at f_8; omega
  have f_8 : (isN cn (nI k)) = true := bI_n0.mp c_8
  refine lv_aload_n hx hb dX4_reads_11 rfl (lv_at hl 0 rfl) ?_
  refine va_get (D := D) (ci := 4) (v := .ref (q 1)) (C := RX4) (T := TX4) (N := 7) hx hb hts (fun w h => List.mem_cons_of_mem _ (List.mem_append_left _ (List.mem_append_left _ (List.mem_append_left _ (List.mem_append_right _ h))))) hown hK hP 0 rfl rfl 0 (by decide) (hts (.fieldLink RX4 10 "FirstStates" "circuit" "LFirstStates$Circuit;") (List.mem_of_getElem? (i := 1) rfl)) (fun _ h9 => h9) rfl dX4_reads_12 ?_
  refine lv_iload_n hx hb dX4_reads_15 rfl (lv_at hl 2 rfl) ?_
  refine fx_callV (As := [.int (nI n)]) (rest := []) ⟨hx, hb, hml, hown, hts⟩ (c_X0_isNode l D cI cJ cZ q xro xtk xli cn ci cs cso cki cfa cfb cfc cva csn csd csl csb csr csc won wle pte pho nwa nti (nI n)) (cwV 1 hts gX4_reads_X0_isNode rfl rfl rfl kv_X0_isNode ⟨Nat.le_of_ble_eq_true rfl, Nat.le_of_ble_eq_true rfl⟩) hK hP hD hS hA hZ 1 rfl rfl rfl rfl hl.1 rfl (lv_room (Nat.le_of_ble_eq_true rfl)) dX4_reads_16 ⟨Nat.zero_le _, Nat.zero_le _⟩ (fun u_2 H locs hu_2 hP hD hS => ?_)
  refine lv_if_ne (tgt := 24) hx hb dX4_reads_19 (by decide) (fun c_19 => ?_) (fun c_19 => ?_)
  · have f_19 : (isN cn (nI n)) = true := bI_n0.mp c_19
    refine lv_aload_n hx hb dX4_reads_24 rfl (lv_at hl 0 rfl) ?_
    refine va_get (D := D) (ci := 4) (v := .ref (q 1)) (C := RX4) (T := TX4) (N := 7) hx hb hts (fun w h => List.mem_cons_of_mem _ (List.mem_append_left _ (List.mem_append_left _ (List.mem_append_left _ (List.mem_append_right _ h))))) hown hK hP 0 rfl rfl 0 (by decide) (hts (.fieldLink RX4 10 "FirstStates" "circuit" "LFirstStates$Circuit;") (List.mem_of_getElem? (i := 1) rfl)) (fun _ h9 => h9) rfl dX4_reads_25 ?_
    refine lv_iload_n hx hb dX4_reads_28 rfl (lv_at hl 1 rfl) ?_
    refine lv_iconst (v := nI 3) hx hb dX4_reads_29 (by decide) ?_
    refine fx_callV (As := [.int (nI k), .int (nI 3)]) (rest := []) ⟨hx, hb, hml, hown, hts⟩ (c_X0_isSort l D cI cJ cZ q xro xtk xli cn ci cs cso cki cfa cfb cfc cva csn csd csl csb csr csc won wle pte pho nwa nti k 3 (by first | assumption | omega) (by first | assumption | omega) (by first | assumption | omega) (by first | assumption | omega)) (cwV 2 hts gX4_reads_X0_isSort rfl rfl rfl kv_X0_isSort ⟨Nat.le_of_ble_eq_true rfl, Nat.le_of_ble_eq_true rfl⟩) hK hP hD hS hA hZ 1 rfl rfl rfl rfl hl.1 rfl (lv_room (Nat.le_of_ble_eq_true rfl)) dX4_reads_30 ⟨Nat.zero_le _, Nat.zero_le _⟩ (fun u_3 H locs hu_3 hP hD hS => ?_)
    refine lv_if_ne (tgt := 39) hx hb dX4_reads_33 (by decide) (fun c_33 => ?_) (fun c_33 => ?_)
    · have f_33 : (decide (cso k = 3)) = true := bI_n0.mp c_33
      exfalso; simp at f_33; omega
    have f_33 : (decide (cso k = 3)) = false := bI_0.mp c_33
    refine lv_bipush (v := (-3)) hx hb dX4_reads_36 (by decide) ?_
    exact hri () _ H locs 38 ls .int rfl rfl trivial rfl hP hD hS dX4_reads_38
  have f_19 : (isN cn (nI n)) = false := bI_0.mp c_19
  exfalso; rw [isN_nI (by omega) (by omega)] at f_19; simp at f_19; omega
set_option maxHeartbeats 4000000 in
set_option maxRecDepth 100000 in
theorem c_X4_reads_e (l : Launch) (D : va_G) (cI cJ cZ : ClassId) (q : Nat → Nat) (xro : Int64) (xtk : Nat) (xli : Nat) (cn : Nat) (ci : Nat) (cs : Nat) (cso : Nat → Nat) (cki : Nat → Nat) (cfa : Nat → Nat) (cfb : Nat → Nat) (cfc : Nat → Nat) (cva : Nat → Nat) (csn : Nat → Nat) (csd : Nat → Nat) (csl : Nat → Nat) (csb : Nat → Nat) (csr : Nat → Nat) (csc : Nat → Nat) (won : Nat → Int64) (wle : Nat → Int64) (pte : Nat → Nat) (pho : Nat → Nat) (nwa : Nat → Int32) (nti : Nat → Int32) (k : Nat) (n : Nat) (hcn : cn ≤ 32) (hcs : cs ≤ 6) (hk : k < cn) (hn : n < cn) (h3 : cso k = 3) (hs : csn k < cs) (hr : csr (csn k) = n) : Ct l D cI cJ cZ yX4_reads wsX4_reads ({ frames := 2, cells := 0, slots := 0, locals := 43 } : Room) 0 0 [.ref (q 0), .int (nI k), .int (nI n)] (wA q cI cJ xro xtk xli cn ci cs cso cki cfa cfb cfc cva csn csd csl csb csr csc won wle pte pho nwa nti) (S := Unit) (fun u => True) (fun u => some (.int (nI (csr (csn k))))) (fun u => (wA q cI cJ xro xtk xli cn ci cs cso cki cfa cfb cfc cva csn csd csl csb csr csc won wle pte pho nwa nti)) := by
  refine Ct.ofW (cc := cX4_reads) (maxL := 5) (ret := (some .int)) (R_C := RX4) (by decide +kernel) rfl rfl (Nat.le_of_ble_eq_true rfl) rfl ?_
  intro p e s m args below meth c A Q ls H locs hx hb hml hown hts hK hA hP hD hS hZ hl hri hrl hrv
  refine lv_aload_n hx hb dX4_reads_0 rfl (lv_at hl 0 rfl) ?_
  refine va_get (D := D) (ci := 4) (v := .ref (q 1)) (C := RX4) (T := TX4) (N := 7) hx hb hts (fun w h => List.mem_cons_of_mem _ (List.mem_append_left _ (List.mem_append_left _ (List.mem_append_left _ (List.mem_append_right _ h))))) hown hK hP 0 rfl rfl 0 (by decide) (hts (.fieldLink RX4 10 "FirstStates" "circuit" "LFirstStates$Circuit;") (List.mem_of_getElem? (i := 1) rfl)) (fun _ h9 => h9) rfl dX4_reads_1 ?_
  refine lv_iload_n hx hb dX4_reads_4 rfl (lv_at hl 1 rfl) ?_
  refine fx_callV (As := [.int (nI k)]) (rest := []) ⟨hx, hb, hml, hown, hts⟩ (c_X0_isNode l D cI cJ cZ q xro xtk xli cn ci cs cso cki cfa cfb cfc cva csn csd csl csb csr csc won wle pte pho nwa nti (nI k)) (cwV 1 hts gX4_reads_X0_isNode rfl rfl rfl kv_X0_isNode ⟨Nat.le_of_ble_eq_true rfl, Nat.le_of_ble_eq_true rfl⟩) hK hP hD hS hA hZ 1 rfl rfl rfl rfl hl.1 rfl (lv_room (Nat.le_of_ble_eq_true rfl)) dX4_reads_5 ⟨Nat.zero_le _, Nat.zero_le _⟩ (fun u_1 H locs hu_1 hP hD hS => ?_)
  refine lv_if_eq (tgt := 22) hx hb dX4_reads_8 (by decide) (fun c_8 => ?_) (fun c_8 => ?_)
  · have f_8 : (isN cn (nI k)) = false := bI_0.mp c_8
    exfalso; rw [isN_nI (by omega) (by omega)] at f_8; simp at f_8; omega
  have f_8 : (isN cn (nI k)) = true := bI_n0.mp c_8
  refine lv_aload_n hx hb dX4_reads_11 rfl (lv_at hl 0 rfl) ?_
  refine va_get (D := D) (ci := 4) (v := .ref (q 1)) (C := RX4) (T := TX4) (N := 7) hx hb hts (fun w h => List.mem_cons_of_mem _ (List.mem_append_left _ (List.mem_append_left _ (List.mem_append_left _ (List.mem_append_right _ h))))) hown hK hP 0 rfl rfl 0 (by decide) (hts (.fieldLink RX4 10 "FirstStates" "circuit" "LFirstStates$Circuit;") (List.mem_of_getElem? (i := 1) rfl)) (fun _ h9 => h9) rfl dX4_reads_12 ?_
  refine lv_iload_n hx hb dX4_reads_15 rfl (lv_at hl 2 rfl) ?_
  refine fx_callV (As := [.int (nI n)]) (rest := []) ⟨hx, hb, hml, hown, hts⟩ (c_X0_isNode l D cI cJ cZ q xro xtk xli cn ci cs cso cki cfa cfb cfc cva csn csd csl csb csr csc won wle pte pho nwa nti (nI n)) (cwV 1 hts gX4_reads_X0_isNode rfl rfl rfl kv_X0_isNode ⟨Nat.le_of_ble_eq_true rfl, Nat.le_of_ble_eq_true rfl⟩) hK hP hD hS hA hZ 1 rfl rfl rfl rfl hl.1 rfl (lv_room (Nat.le_of_ble_eq_true rfl)) dX4_reads_16 ⟨Nat.zero_le _, Nat.zero_le _⟩ (fun u_2 H locs hu_2 hP hD hS => ?_)
  refine lv_if_ne (tgt := 24) hx hb dX4_reads_19 (by decide) (fun c_19 => ?_) (fun c_19 => ?_)
  · have f_19 : (isN cn (nI n)) = true := bI_n0.mp c_19
    refine lv_aload_n hx hb dX4_reads_24 rfl (lv_at hl 0 rfl) ?_
    refine va_get (D := D) (ci := 4) (v := .ref (q 1)) (C := RX4) (T := TX4) (N := 7) hx hb hts (fun w h => List.mem_cons_of_mem _ (List.mem_append_left _ (List.mem_append_left _ (List.mem_append_left _ (List.mem_append_right _ h))))) hown hK hP 0 rfl rfl 0 (by decide) (hts (.fieldLink RX4 10 "FirstStates" "circuit" "LFirstStates$Circuit;") (List.mem_of_getElem? (i := 1) rfl)) (fun _ h9 => h9) rfl dX4_reads_25 ?_
    refine lv_iload_n hx hb dX4_reads_28 rfl (lv_at hl 1 rfl) ?_
    refine lv_iconst (v := nI 3) hx hb dX4_reads_29 (by decide) ?_
    refine fx_callV (As := [.int (nI k), .int (nI 3)]) (rest := []) ⟨hx, hb, hml, hown, hts⟩ (c_X0_isSort l D cI cJ cZ q xro xtk xli cn ci cs cso cki cfa cfb cfc cva csn csd csl csb csr csc won wle pte pho nwa nti k 3 (by first | assumption | omega) (by first | assumption | omega) (by omega) (by first | assumption | omega)) (cwV 2 hts gX4_reads_X0_isSort rfl rfl rfl kv_X0_isSort ⟨Nat.le_of_ble_eq_true rfl, Nat.le_of_ble_eq_true rfl⟩) hK hP hD hS hA hZ 1 rfl rfl rfl rfl hl.1 rfl (lv_room (Nat.le_of_ble_eq_true rfl)) dX4_reads_30 ⟨Nat.zero_le _, Nat.zero_le _⟩ (fun u_3 H locs hu_3 hP hD hS => ?_)
    refine lv_if_ne (tgt := 39) hx hb dX4_reads_33 (by decide) (fun c_33 => ?_) (fun c_33 => ?_)
    · have f_33 : (decide (cso k = 3)) = true := bI_n0.mp c_33
      refine lv_aload_n hx hb dX4_reads_39 rfl (lv_at hl 0 rfl) ?_
      refine va_get (D := D) (ci := 4) (v := .ref (q 1)) (C := RX4) (T := TX4) (N := 7) hx hb hts (fun w h => List.mem_cons_of_mem _ (List.mem_append_left _ (List.mem_append_left _ (List.mem_append_left _ (List.mem_append_right _ h))))) hown hK hP 0 rfl rfl 0 (by decide) (hts (.fieldLink RX4 10 "FirstStates" "circuit" "LFirstStates$Circuit;") (List.mem_of_getElem? (i := 1) rfl)) (fun _ h9 => h9) rfl dX4_reads_40 ?_
      refine va_get (D := D) (ci := 0) (v := .ref (q 8)) (C := RX0) (T := TX0) (N := 15) hx hb hts (fun w h => List.mem_cons_of_mem _ (List.mem_append_left _ (List.mem_append_left _ (List.mem_append_right _ h)))) hown hK hP 1 rfl rfl 9 (by decide) (hts (.fieldLink RX4 93 "FirstStates$Circuit" "storeNumbers" "[I") (List.mem_of_getElem? (i := 2) rfl)) (fun _ h9 => h9) rfl dX4_reads_43 ?_
      refine lv_iload_n hx hb dX4_reads_46 rfl (lv_at hl 1 rfl) ?_
      refine fx_iald (ar := nI) hx hb hK hP 8 (f := csn) (k := k) rfl (by omega) (by decide) dX4_reads_47 ?_
      refine lv_istore_n (lv' := [(3, .int (nI (csn k))), (0, .ref (q 0)), (1, .int (nI k)), (2, .int (nI n))]) hx hb dX4_reads_48 rfl hl (by decide) rfl (fun ls hl => ?_)
      refine lv_aload_n hx hb dX4_reads_49 rfl (lv_at hl 1 rfl) ?_
      refine va_get (D := D) (ci := 4) (v := .ref (q 1)) (C := RX4) (T := TX4) (N := 7) hx hb hts (fun w h => List.mem_cons_of_mem _ (List.mem_append_left _ (List.mem_append_left _ (List.mem_append_left _ (List.mem_append_right _ h))))) hown hK hP 0 rfl rfl 0 (by decide) (hts (.fieldLink RX4 10 "FirstStates" "circuit" "LFirstStates$Circuit;") (List.mem_of_getElem? (i := 1) rfl)) (fun _ h9 => h9) rfl dX4_reads_50 ?_
      refine va_get (D := D) (ci := 0) (v := .ref (q 12)) (C := RX0) (T := TX0) (N := 15) hx hb hts (fun w h => List.mem_cons_of_mem _ (List.mem_append_left _ (List.mem_append_left _ (List.mem_append_right _ h)))) hown hK hP 1 rfl rfl 13 (by decide) (hts (.fieldLink RX4 97 "FirstStates$Circuit" "storeReads" "[I") (List.mem_of_getElem? (i := 3) rfl)) (fun _ h9 => h9) rfl dX4_reads_53 ?_
      refine lv_iload_n hx hb dX4_reads_56 rfl (lv_at hl 0 rfl) ?_
      refine fx_iald (ar := nI) hx hb hK hP 12 (f := csr) (k := (csn k)) rfl (by omega) (by decide) dX4_reads_57 ?_
      refine lv_istore (lv' := [(4, .int (nI (csr (csn k)))), (3, .int (nI (csn k))), (0, .ref (q 0)), (1, .int (nI k)), (2, .int (nI n))]) hx hb dX4_reads_58 hl (by decide) rfl (fun ls hl => ?_)
      refine lv_iload hx hb dX4_reads_60 (lv_at hl 0 rfl) ?_
      refine lv_iload_n hx hb dX4_reads_62 rfl (lv_at hl 4 rfl) ?_
      refine lv_icmp_eq (tgt := 80) hx hb dX4_reads_63 (by decide) (fun c_63 => ?_) (fun c_63 => ?_)
      · have f_63 : csr (csn k) = n := (nI_eq (a := csr (csn k)) (b := n) (by first | omega | exact b_and1 _ | exact b_ct _ _ (by omega) | exact b_andr _ (by omega)) (by first | omega | exact b_and1 _ | exact b_ct _ _ (by omega) | exact b_andr _ (by omega))).mp c_63
        refine lv_iload hx hb dX4_reads_80 (lv_at hl 0 rfl) ?_
        exact hri () _ H locs 82 ls .int rfl rfl trivial rfl hP hD hS dX4_reads_82
      have f_63 : ¬ csr (csn k) = n := fun h => c_63 ((nI_eq (a := csr (csn k)) (b := n) (by first | omega | exact b_and1 _ | exact b_ct _ _ (by omega) | exact b_andr _ (by omega)) (by first | omega | exact b_and1 _ | exact b_ct _ _ (by omega) | exact b_andr _ (by omega))).mpr h)
      exfalso; omega
    have f_33 : (decide (cso k = 3)) = false := bI_0.mp c_33
    exfalso; simp at f_33; omega
  have f_19 : (isN cn (nI n)) = false := bI_0.mp c_19
  exfalso; rw [isN_nI (by omega) (by omega)] at f_19; simp at f_19; omega
set_option maxHeartbeats 4000000 in
set_option maxRecDepth 100000 in
theorem c_X4_reads (l : Launch) (D : va_G) (cI cJ cZ : ClassId) (q : Nat → Nat) (xro : Int64) (xtk : Nat) (xli : Nat) (cn : Nat) (ci : Nat) (cs : Nat) (cso : Nat → Nat) (cki : Nat → Nat) (cfa : Nat → Nat) (cfb : Nat → Nat) (cfc : Nat → Nat) (cva : Nat → Nat) (csn : Nat → Nat) (csd : Nat → Nat) (csl : Nat → Nat) (csb : Nat → Nat) (csr : Nat → Nat) (csc : Nat → Nat) (won : Nat → Int64) (wle : Nat → Int64) (pte : Nat → Nat) (pho : Nat → Nat) (nwa : Nat → Int32) (nti : Nat → Int32) (k : Nat) (n : Nat) (hcn : cn ≤ 32) (hcs : cs ≤ 6) (hk : k < cn) (hn : n < cn) (h3 : cso k = 3) (hs : csn k < cs) (hr1 : csr (csn k) < cn) (hr : ¬ csr (csn k) = n) : Ct l D cI cJ cZ yX4_reads wsX4_reads ({ frames := 3, cells := 0, slots := 0, locals := 61 } : Room) 0 0 [.ref (q 0), .int (nI k), .int (nI n)] (wA q cI cJ xro xtk xli cn ci cs cso cki cfa cfb cfc cva csn csd csl csb csr csc won wle pte pho nwa nti) (S := Unit) (fun u => True) (fun u => some (.int (nI (csr (csn k))))) (fun u => (wA q cI cJ (alR cs) 0 xli cn ci cs cso cki cfa cfb cfc cva csn csd csl csb (va_up csr (csn k) n) csc won wle pte (mixF (fun _ => 2) pho 6) nwa nti)) := by
  refine Ct.ofW (cc := cX4_reads) (maxL := 5) (ret := (some .int)) (R_C := RX4) (by decide +kernel) rfl rfl (Nat.le_of_ble_eq_true rfl) rfl ?_
  intro p e s m args below meth c A Q ls H locs hx hb hml hown hts hK hA hP hD hS hZ hl hri hrl hrv
  refine lv_aload_n hx hb dX4_reads_0 rfl (lv_at hl 0 rfl) ?_
  refine va_get (D := D) (ci := 4) (v := .ref (q 1)) (C := RX4) (T := TX4) (N := 7) hx hb hts (fun w h => List.mem_cons_of_mem _ (List.mem_append_left _ (List.mem_append_left _ (List.mem_append_left _ (List.mem_append_right _ h))))) hown hK hP 0 rfl rfl 0 (by decide) (hts (.fieldLink RX4 10 "FirstStates" "circuit" "LFirstStates$Circuit;") (List.mem_of_getElem? (i := 1) rfl)) (fun _ h9 => h9) rfl dX4_reads_1 ?_
  refine lv_iload_n hx hb dX4_reads_4 rfl (lv_at hl 1 rfl) ?_
  refine fx_callV (As := [.int (nI k)]) (rest := []) ⟨hx, hb, hml, hown, hts⟩ (c_X0_isNode l D cI cJ cZ q xro xtk xli cn ci cs cso cki cfa cfb cfc cva csn csd csl csb csr csc won wle pte pho nwa nti (nI k)) (cwV 1 hts gX4_reads_X0_isNode rfl rfl rfl kv_X0_isNode ⟨Nat.le_of_ble_eq_true rfl, Nat.le_of_ble_eq_true rfl⟩) hK hP hD hS hA hZ 1 rfl rfl rfl rfl hl.1 rfl (lv_room (Nat.le_of_ble_eq_true rfl)) dX4_reads_5 ⟨Nat.zero_le _, Nat.zero_le _⟩ (fun u_1 H locs hu_1 hP hD hS => ?_)
  refine lv_if_eq (tgt := 22) hx hb dX4_reads_8 (by decide) (fun c_8 => ?_) (fun c_8 => ?_)
  · have f_8 : (isN cn (nI k)) = false := bI_0.mp c_8
    exfalso; rw [isN_nI (by omega) (by omega)] at f_8; simp at f_8; omega
  have f_8 : (isN cn (nI k)) = true := bI_n0.mp c_8
  refine lv_aload_n hx hb dX4_reads_11 rfl (lv_at hl 0 rfl) ?_
  refine va_get (D := D) (ci := 4) (v := .ref (q 1)) (C := RX4) (T := TX4) (N := 7) hx hb hts (fun w h => List.mem_cons_of_mem _ (List.mem_append_left _ (List.mem_append_left _ (List.mem_append_left _ (List.mem_append_right _ h))))) hown hK hP 0 rfl rfl 0 (by decide) (hts (.fieldLink RX4 10 "FirstStates" "circuit" "LFirstStates$Circuit;") (List.mem_of_getElem? (i := 1) rfl)) (fun _ h9 => h9) rfl dX4_reads_12 ?_
  refine lv_iload_n hx hb dX4_reads_15 rfl (lv_at hl 2 rfl) ?_
  refine fx_callV (As := [.int (nI n)]) (rest := []) ⟨hx, hb, hml, hown, hts⟩ (c_X0_isNode l D cI cJ cZ q xro xtk xli cn ci cs cso cki cfa cfb cfc cva csn csd csl csb csr csc won wle pte pho nwa nti (nI n)) (cwV 1 hts gX4_reads_X0_isNode rfl rfl rfl kv_X0_isNode ⟨Nat.le_of_ble_eq_true rfl, Nat.le_of_ble_eq_true rfl⟩) hK hP hD hS hA hZ 1 rfl rfl rfl rfl hl.1 rfl (lv_room (Nat.le_of_ble_eq_true rfl)) dX4_reads_16 ⟨Nat.zero_le _, Nat.zero_le _⟩ (fun u_2 H locs hu_2 hP hD hS => ?_)
  refine lv_if_ne (tgt := 24) hx hb dX4_reads_19 (by decide) (fun c_19 => ?_) (fun c_19 => ?_)
  · have f_19 : (isN cn (nI n)) = true := bI_n0.mp c_19
    refine lv_aload_n hx hb dX4_reads_24 rfl (lv_at hl 0 rfl) ?_
    refine va_get (D := D) (ci := 4) (v := .ref (q 1)) (C := RX4) (T := TX4) (N := 7) hx hb hts (fun w h => List.mem_cons_of_mem _ (List.mem_append_left _ (List.mem_append_left _ (List.mem_append_left _ (List.mem_append_right _ h))))) hown hK hP 0 rfl rfl 0 (by decide) (hts (.fieldLink RX4 10 "FirstStates" "circuit" "LFirstStates$Circuit;") (List.mem_of_getElem? (i := 1) rfl)) (fun _ h9 => h9) rfl dX4_reads_25 ?_
    refine lv_iload_n hx hb dX4_reads_28 rfl (lv_at hl 1 rfl) ?_
    refine lv_iconst (v := nI 3) hx hb dX4_reads_29 (by decide) ?_
    refine fx_callV (As := [.int (nI k), .int (nI 3)]) (rest := []) ⟨hx, hb, hml, hown, hts⟩ (c_X0_isSort l D cI cJ cZ q xro xtk xli cn ci cs cso cki cfa cfb cfc cva csn csd csl csb csr csc won wle pte pho nwa nti k 3 (by first | assumption | omega) (by first | assumption | omega) (by omega) (by first | assumption | omega)) (cwV 2 hts gX4_reads_X0_isSort rfl rfl rfl kv_X0_isSort ⟨Nat.le_of_ble_eq_true rfl, Nat.le_of_ble_eq_true rfl⟩) hK hP hD hS hA hZ 1 rfl rfl rfl rfl hl.1 rfl (lv_room (Nat.le_of_ble_eq_true rfl)) dX4_reads_30 ⟨Nat.zero_le _, Nat.zero_le _⟩ (fun u_3 H locs hu_3 hP hD hS => ?_)
    refine lv_if_ne (tgt := 39) hx hb dX4_reads_33 (by decide) (fun c_33 => ?_) (fun c_33 => ?_)
    · have f_33 : (decide (cso k = 3)) = true := bI_n0.mp c_33
      refine lv_aload_n hx hb dX4_reads_39 rfl (lv_at hl 0 rfl) ?_
      refine va_get (D := D) (ci := 4) (v := .ref (q 1)) (C := RX4) (T := TX4) (N := 7) hx hb hts (fun w h => List.mem_cons_of_mem _ (List.mem_append_left _ (List.mem_append_left _ (List.mem_append_left _ (List.mem_append_right _ h))))) hown hK hP 0 rfl rfl 0 (by decide) (hts (.fieldLink RX4 10 "FirstStates" "circuit" "LFirstStates$Circuit;") (List.mem_of_getElem? (i := 1) rfl)) (fun _ h9 => h9) rfl dX4_reads_40 ?_
      refine va_get (D := D) (ci := 0) (v := .ref (q 8)) (C := RX0) (T := TX0) (N := 15) hx hb hts (fun w h => List.mem_cons_of_mem _ (List.mem_append_left _ (List.mem_append_left _ (List.mem_append_right _ h)))) hown hK hP 1 rfl rfl 9 (by decide) (hts (.fieldLink RX4 93 "FirstStates$Circuit" "storeNumbers" "[I") (List.mem_of_getElem? (i := 2) rfl)) (fun _ h9 => h9) rfl dX4_reads_43 ?_
      refine lv_iload_n hx hb dX4_reads_46 rfl (lv_at hl 1 rfl) ?_
      refine fx_iald (ar := nI) hx hb hK hP 8 (f := csn) (k := k) rfl (by omega) (by decide) dX4_reads_47 ?_
      refine lv_istore_n (lv' := [(3, .int (nI (csn k))), (0, .ref (q 0)), (1, .int (nI k)), (2, .int (nI n))]) hx hb dX4_reads_48 rfl hl (by decide) rfl (fun ls hl => ?_)
      refine lv_aload_n hx hb dX4_reads_49 rfl (lv_at hl 1 rfl) ?_
      refine va_get (D := D) (ci := 4) (v := .ref (q 1)) (C := RX4) (T := TX4) (N := 7) hx hb hts (fun w h => List.mem_cons_of_mem _ (List.mem_append_left _ (List.mem_append_left _ (List.mem_append_left _ (List.mem_append_right _ h))))) hown hK hP 0 rfl rfl 0 (by decide) (hts (.fieldLink RX4 10 "FirstStates" "circuit" "LFirstStates$Circuit;") (List.mem_of_getElem? (i := 1) rfl)) (fun _ h9 => h9) rfl dX4_reads_50 ?_
      refine va_get (D := D) (ci := 0) (v := .ref (q 12)) (C := RX0) (T := TX0) (N := 15) hx hb hts (fun w h => List.mem_cons_of_mem _ (List.mem_append_left _ (List.mem_append_left _ (List.mem_append_right _ h)))) hown hK hP 1 rfl rfl 13 (by decide) (hts (.fieldLink RX4 97 "FirstStates$Circuit" "storeReads" "[I") (List.mem_of_getElem? (i := 3) rfl)) (fun _ h9 => h9) rfl dX4_reads_53 ?_
      refine lv_iload_n hx hb dX4_reads_56 rfl (lv_at hl 0 rfl) ?_
      refine fx_iald (ar := nI) hx hb hK hP 12 (f := csr) (k := (csn k)) rfl (by omega) (by decide) dX4_reads_57 ?_
      refine lv_istore (lv' := [(4, .int (nI (csr (csn k)))), (3, .int (nI (csn k))), (0, .ref (q 0)), (1, .int (nI k)), (2, .int (nI n))]) hx hb dX4_reads_58 hl (by decide) rfl (fun ls hl => ?_)
      refine lv_iload hx hb dX4_reads_60 (lv_at hl 0 rfl) ?_
      refine lv_iload_n hx hb dX4_reads_62 rfl (lv_at hl 4 rfl) ?_
      refine lv_icmp_eq (tgt := 80) hx hb dX4_reads_63 (by decide) (fun c_63 => ?_) (fun c_63 => ?_)
      · have f_63 : csr (csn k) = n := (nI_eq (a := csr (csn k)) (b := n) (by first | omega | exact b_and1 _ | exact b_ct _ _ (by omega) | exact b_andr _ (by omega)) (by first | omega | exact b_and1 _ | exact b_ct _ _ (by omega) | exact b_andr _ (by omega))).mp c_63
        exfalso; omega
      have f_63 : ¬ csr (csn k) = n := fun h => c_63 ((nI_eq (a := csr (csn k)) (b := n) (by first | omega | exact b_and1 _ | exact b_ct _ _ (by omega) | exact b_andr _ (by omega)) (by first | omega | exact b_and1 _ | exact b_ct _ _ (by omega) | exact b_andr _ (by omega))).mpr h)
      refine lv_aload_n hx hb dX4_reads_66 rfl (lv_at hl 2 rfl) ?_
      refine va_get (D := D) (ci := 4) (v := .ref (q 1)) (C := RX4) (T := TX4) (N := 7) hx hb hts (fun w h => List.mem_cons_of_mem _ (List.mem_append_left _ (List.mem_append_left _ (List.mem_append_left _ (List.mem_append_right _ h))))) hown hK hP 0 rfl rfl 0 (by decide) (hts (.fieldLink RX4 10 "FirstStates" "circuit" "LFirstStates$Circuit;") (List.mem_of_getElem? (i := 1) rfl)) (fun _ h9 => h9) rfl dX4_reads_67 ?_
      refine va_get (D := D) (ci := 0) (v := .ref (q 12)) (C := RX0) (T := TX0) (N := 15) hx hb hts (fun w h => List.mem_cons_of_mem _ (List.mem_append_left _ (List.mem_append_left _ (List.mem_append_right _ h)))) hown hK hP 1 rfl rfl 13 (by decide) (hts (.fieldLink RX4 97 "FirstStates$Circuit" "storeReads" "[I") (List.mem_of_getElem? (i := 3) rfl)) (fun _ h9 => h9) rfl dX4_reads_70 ?_
      refine lv_iload_n hx hb dX4_reads_73 rfl (lv_at hl 1 rfl) ?_
      refine lv_iload_n hx hb dX4_reads_74 rfl (lv_at hl 4 rfl) ?_
      refine fx_iast (ar := nI) hx hb hK hP hD hS 12 (f := csr) (k := (csn k)) (v := n) rfl (by omega) (by decide) rfl dX4_reads_75 (fun H locs hP hD hS => ?_)
      have hP : va_P D vwCl (wA q cI cJ xro xtk xli cn ci cs cso cki cfa cfb cfc cva csn csd csl csb (va_up csr (csn k) n) csc won wle pte pho nwa nti) H := hP
      have hD : va_D A (wA q cI cJ xro xtk xli cn ci cs cso cki cfa cfb cfc cva csn csd csl csb (va_up csr (csn k) n) csc won wle pte pho nwa nti) := fx_D hD rfl
      refine lv_aload_n hx hb dX4_reads_76 rfl (lv_at hl 2 rfl) ?_
      refine fx_callV (As := []) (rest := []) ⟨hx, hb, hml, hown, hts⟩ (c_X4_beginAgain l D cI cJ cZ q xro xtk xli cn ci cs cso cki cfa cfb cfc cva csn csd csl csb (va_up csr (csn k) n) csc won wle pte pho nwa nti (by first | assumption | omega)) (cwV 0 hts gX4_reads_X4_beginAgain rfl rfl rfl kv_X4_beginAgain ⟨Nat.le_of_ble_eq_true rfl, Nat.le_of_ble_eq_true rfl⟩) hK hP hD hS hA hZ 0 rfl rfl rfl rfl hl.1 rfl (lv_room (Nat.le_of_ble_eq_true rfl)) dX4_reads_77 ⟨Nat.zero_le _, Nat.zero_le _⟩ (fun u_4 H locs hu_4 hP hD hS => ?_)
      have hP : va_P D vwCl (wA q cI cJ (alR cs) 0 xli cn ci cs cso cki cfa cfb cfc cva csn csd csl csb (va_up csr (csn k) n) csc won wle pte (mixF (fun _ => 2) pho 6) nwa nti) H := hP
      have hD : va_D A (wA q cI cJ (alR cs) 0 xli cn ci cs cso cki cfa cfb cfc cva csn csd csl csb (va_up csr (csn k) n) csc won wle pte (mixF (fun _ => 2) pho 6) nwa nti) := fx_D hD rfl
      refine lv_iload hx hb dX4_reads_80 (lv_at hl 0 rfl) ?_
      exact hri () _ H locs 82 ls .int rfl rfl trivial rfl hP hD hS dX4_reads_82
    have f_33 : (decide (cso k = 3)) = false := bI_0.mp c_33
    exfalso; simp at f_33; omega
  have f_19 : (isN cn (nI n)) = false := bI_0.mp c_19
  exfalso; rw [isN_nI (by omega) (by omega)] at f_19; simp at f_19; omega
set_option maxHeartbeats 4000000 in
set_option maxRecDepth 100000 in
theorem c_X4_about_u (l : Launch) (D : va_G) (cI cJ cZ : ClassId) (q : Nat → Nat) (xro : Int64) (xtk : Nat) (xli : Nat) (cn : Nat) (ci : Nat) (cs : Nat) (cso : Nat → Nat) (cki : Nat → Nat) (cfa : Nat → Nat) (cfb : Nat → Nat) (cfc : Nat → Nat) (cva : Nat → Nat) (csn : Nat → Nat) (csd : Nat → Nat) (csl : Nat → Nat) (csb : Nat → Nat) (csr : Nat → Nat) (csc : Nat → Nat) (won : Nat → Int64) (wle : Nat → Int64) (pte : Nat → Nat) (pho : Nat → Nat) (nwa : Nat → Int32) (nti : Nat → Int32) (x : Int32) (y : Int32) (hcn : cn ≤ 32) (hu : isN cn x = false) : Ct l D cI cJ cZ yX4_about wsX4_about ({ frames := 1, cells := 0, slots := 0, locals := 21 } : Room) 0 0 [.ref (q 0), .int x, .int y] (wA q cI cJ xro xtk xli cn ci cs cso cki cfa cfb cfc cva csn csd csl csb csr csc won wle pte pho nwa nti) (S := Unit) (fun u => True) (fun u => some (.int (-1))) (fun u => (wA q cI cJ xro xtk xli cn ci cs cso cki cfa cfb cfc cva csn csd csl csb csr csc won wle pte pho nwa nti)) := by
  refine Ct.ofW (cc := cX4_about) (maxL := 3) (ret := (some .int)) (R_C := RX4) (by decide +kernel) rfl rfl (Nat.le_of_ble_eq_true rfl) rfl ?_
  intro p e s m args below meth c A Q ls H locs hx hb hml hown hts hK hA hP hD hS hZ hl hri hrl hrv
  refine lv_aload_n hx hb dX4_about_0 rfl (lv_at hl 0 rfl) ?_
  refine va_get (D := D) (ci := 4) (v := .ref (q 1)) (C := RX4) (T := TX4) (N := 7) hx hb hts (fun w h => List.mem_cons_of_mem _ (List.mem_append_left _ (List.mem_append_right _ h))) hown hK hP 0 rfl rfl 0 (by decide) (hts (.fieldLink RX4 10 "FirstStates" "circuit" "LFirstStates$Circuit;") (List.mem_of_getElem? (i := 1) rfl)) (fun _ h9 => h9) rfl dX4_about_1 ?_
  refine lv_iload_n hx hb dX4_about_4 rfl (lv_at hl 1 rfl) ?_
  refine fx_callV (As := [.int x]) (rest := []) ⟨hx, hb, hml, hown, hts⟩ (c_X0_isNode l D cI cJ cZ q xro xtk xli cn ci cs cso cki cfa cfb cfc cva csn csd csl csb csr csc won wle pte pho nwa nti x) (cwV 1 hts gX4_about_X0_isNode rfl rfl rfl kv_X0_isNode ⟨Nat.le_of_ble_eq_true rfl, Nat.le_of_ble_eq_true rfl⟩) hK hP hD hS hA hZ 1 rfl rfl rfl rfl hl.1 rfl (lv_room (Nat.le_of_ble_eq_true rfl)) dX4_about_5 ⟨Nat.zero_le _, Nat.zero_le _⟩ (fun u_1 H locs hu_1 hP hD hS => ?_)
  refine lv_if_ne (tgt := 13) hx hb dX4_about_8 (by decide) (fun c_8 => ?_) (fun c_8 => ?_)
  · have f_8 : (isN cn x) = true := bI_n0.mp c_8
    exfalso; rw [hu] at f_8; cases f_8
  have f_8 : (isN cn x) = false := bI_0.mp c_8
  refine lv_iconst (v := (-1)) hx hb dX4_about_11 (by decide) ?_
  exact hri () _ H locs 12 ls .int rfl rfl trivial rfl hP hD hS dX4_about_12
set_option maxHeartbeats 4000000 in
set_option maxRecDepth 100000 in
theorem c_X4_about_o (l : Launch) (D : va_G) (cI cJ cZ : ClassId) (q : Nat → Nat) (xro : Int64) (xtk : Nat) (xli : Nat) (cn : Nat) (ci : Nat) (cs : Nat) (cso : Nat → Nat) (cki : Nat → Nat) (cfa : Nat → Nat) (cfb : Nat → Nat) (cfc : Nat → Nat) (cva : Nat → Nat) (csn : Nat → Nat) (csd : Nat → Nat) (csl : Nat → Nat) (csb : Nat → Nat) (csr : Nat → Nat) (csc : Nat → Nat) (won : Nat → Int64) (wle : Nat → Int64) (pte : Nat → Nat) (pho : Nat → Nat) (nwa : Nat → Int32) (nti : Nat → Int32) (k : Nat) (y : Int32) (hcn : cn ≤ 32) (hk : k < cn) (hy : y < 0 ∨ ¬ y ≤ nI 4) : Ct l D cI cJ cZ yX4_about wsX4_about ({ frames := 1, cells := 0, slots := 0, locals := 21 } : Room) 0 0 [.ref (q 0), .int (nI k), .int y] (wA q cI cJ xro xtk xli cn ci cs cso cki cfa cfb cfc cva csn csd csl csb csr csc won wle pte pho nwa nti) (S := Unit) (fun u => True) (fun u => some (.int (-2))) (fun u => (wA q cI cJ xro xtk xli cn ci cs cso cki cfa cfb cfc cva csn csd csl csb csr csc won wle pte pho nwa nti)) := by
  refine Ct.ofW (cc := cX4_about) (maxL := 3) (ret := (some .int)) (R_C := RX4) (by decide +kernel) rfl rfl (Nat.le_of_ble_eq_true rfl) rfl ?_
  intro p e s m args below meth c A Q ls H locs hx hb hml hown hts hK hA hP hD hS hZ hl hri hrl hrv
  refine lv_aload_n hx hb dX4_about_0 rfl (lv_at hl 0 rfl) ?_
  refine va_get (D := D) (ci := 4) (v := .ref (q 1)) (C := RX4) (T := TX4) (N := 7) hx hb hts (fun w h => List.mem_cons_of_mem _ (List.mem_append_left _ (List.mem_append_right _ h))) hown hK hP 0 rfl rfl 0 (by decide) (hts (.fieldLink RX4 10 "FirstStates" "circuit" "LFirstStates$Circuit;") (List.mem_of_getElem? (i := 1) rfl)) (fun _ h9 => h9) rfl dX4_about_1 ?_
  refine lv_iload_n hx hb dX4_about_4 rfl (lv_at hl 1 rfl) ?_
  refine fx_callV (As := [.int (nI k)]) (rest := []) ⟨hx, hb, hml, hown, hts⟩ (c_X0_isNode l D cI cJ cZ q xro xtk xli cn ci cs cso cki cfa cfb cfc cva csn csd csl csb csr csc won wle pte pho nwa nti (nI k)) (cwV 1 hts gX4_about_X0_isNode rfl rfl rfl kv_X0_isNode ⟨Nat.le_of_ble_eq_true rfl, Nat.le_of_ble_eq_true rfl⟩) hK hP hD hS hA hZ 1 rfl rfl rfl rfl hl.1 rfl (lv_room (Nat.le_of_ble_eq_true rfl)) dX4_about_5 ⟨Nat.zero_le _, Nat.zero_le _⟩ (fun u_1 H locs hu_1 hP hD hS => ?_)
  refine lv_if_ne (tgt := 13) hx hb dX4_about_8 (by decide) (fun c_8 => ?_) (fun c_8 => ?_)
  · have f_8 : (isN cn (nI k)) = true := bI_n0.mp c_8
    refine lv_iload_n hx hb dX4_about_13 rfl (lv_at hl 2 rfl) ?_
    refine lv_if_lt (tgt := 22) hx hb dX4_about_14 (by decide) (fun c_14 => ?_) (fun c_14 => ?_)
    · refine lv_bipush (v := (-2)) hx hb dX4_about_22 (by decide) ?_
      exact hri () _ H locs 24 ls .int rfl rfl trivial rfl hP hD hS dX4_about_24
    refine lv_iload_n hx hb dX4_about_17 rfl (lv_at hl 2 rfl) ?_
    refine lv_iconst (v := nI 4) hx hb dX4_about_18 (by decide) ?_
    refine lv_icmp_le (tgt := 25) hx hb dX4_about_19 (by decide) (fun c_19 => ?_) (fun c_19 => ?_)
    · exfalso; rcases hy with h | h; exact c_14 h; exact h c_19
    refine lv_bipush (v := (-2)) hx hb dX4_about_22 (by decide) ?_
    exact hri () _ H locs 24 ls .int rfl rfl trivial rfl hP hD hS dX4_about_24
  have f_8 : (isN cn (nI k)) = false := bI_0.mp c_8
  exfalso; rw [isN_nI (by omega) (by omega)] at f_8; simp at f_8; omega
set_option maxHeartbeats 4000000 in
set_option maxRecDepth 100000 in
theorem c_X4_about (l : Launch) (D : va_G) (cI cJ cZ : ClassId) (q : Nat → Nat) (xro : Int64) (xtk : Nat) (xli : Nat) (cn : Nat) (ci : Nat) (cs : Nat) (cso : Nat → Nat) (cki : Nat → Nat) (cfa : Nat → Nat) (cfb : Nat → Nat) (cfc : Nat → Nat) (cva : Nat → Nat) (csn : Nat → Nat) (csd : Nat → Nat) (csl : Nat → Nat) (csb : Nat → Nat) (csr : Nat → Nat) (csc : Nat → Nat) (won : Nat → Int64) (wle : Nat → Int64) (pte : Nat → Nat) (pho : Nat → Nat) (nwa : Nat → Int32) (nti : Nat → Int32) (k : Nat) (wt : Nat) (hcn : cn ≤ 32) (hk : k < cn) (hcs : cs ≤ 6) (hw : wt ≤ 4) (hso : cso k ≤ 3) (hki : cki k ≤ 4) (hs : cso k = 3 → csn k < cs) : Ct l D cI cJ cZ yX4_about wsX4_about ({ frames := 2, cells := 0, slots := 0, locals := 43 } : Room) 0 0 [.ref (q 0), .int (nI k), .int (nI wt)] (wA q cI cJ xro xtk xli cn ci cs cso cki cfa cfb cfc cva csn csd csl csb csr csc won wle pte pho nwa nti) (S := Unit) (fun u => True) (fun u => some (.int (abA cso cki csn csl csb csr k wt))) (fun u => (wA q cI cJ xro xtk xli cn ci cs cso cki cfa cfb cfc cva csn csd csl csb csr csc won wle pte pho nwa nti)) := by
  refine Ct.ofW (cc := cX4_about) (maxL := 3) (ret := (some .int)) (R_C := RX4) (by decide +kernel) rfl rfl (Nat.le_of_ble_eq_true rfl) rfl ?_
  intro p e s m args below meth c A Q ls H locs hx hb hml hown hts hK hA hP hD hS hZ hl hri hrl hrv
  refine lv_aload_n hx hb dX4_about_0 rfl (lv_at hl 0 rfl) ?_
  refine va_get (D := D) (ci := 4) (v := .ref (q 1)) (C := RX4) (T := TX4) (N := 7) hx hb hts (fun w h => List.mem_cons_of_mem _ (List.mem_append_left _ (List.mem_append_right _ h))) hown hK hP 0 rfl rfl 0 (by decide) (hts (.fieldLink RX4 10 "FirstStates" "circuit" "LFirstStates$Circuit;") (List.mem_of_getElem? (i := 1) rfl)) (fun _ h9 => h9) rfl dX4_about_1 ?_
  refine lv_iload_n hx hb dX4_about_4 rfl (lv_at hl 1 rfl) ?_
  refine fx_callV (As := [.int (nI k)]) (rest := []) ⟨hx, hb, hml, hown, hts⟩ (c_X0_isNode l D cI cJ cZ q xro xtk xli cn ci cs cso cki cfa cfb cfc cva csn csd csl csb csr csc won wle pte pho nwa nti (nI k)) (cwV 1 hts gX4_about_X0_isNode rfl rfl rfl kv_X0_isNode ⟨Nat.le_of_ble_eq_true rfl, Nat.le_of_ble_eq_true rfl⟩) hK hP hD hS hA hZ 1 rfl rfl rfl rfl hl.1 rfl (lv_room (Nat.le_of_ble_eq_true rfl)) dX4_about_5 ⟨Nat.zero_le _, Nat.zero_le _⟩ (fun u_1 H locs hu_1 hP hD hS => ?_)
  refine lv_if_ne (tgt := 13) hx hb dX4_about_8 (by decide) (fun c_8 => ?_) (fun c_8 => ?_)
  · have f_8 : (isN cn (nI k)) = true := bI_n0.mp c_8
    refine lv_iload_n hx hb dX4_about_13 rfl (lv_at hl 2 rfl) ?_
    refine lv_if_lt (tgt := 22) hx hb dX4_about_14 (by decide) (fun c_14 => ?_) (fun c_14 => ?_)
    · have f_14 : wt < 0 := (nI_ltI (a := wt) (b := 0) (by first | omega | exact b_and1 _ | exact b_ct _ _ (by omega) | exact b_andr _ (by omega)) (by first | omega | exact b_and1 _ | exact b_ct _ _ (by omega) | exact b_andr _ (by omega))).mp c_14
      exfalso; omega
    have f_14 : ¬ wt < 0 := fun h => c_14 ((nI_ltI (a := wt) (b := 0) (by first | omega | exact b_and1 _ | exact b_ct _ _ (by omega) | exact b_andr _ (by omega)) (by first | omega | exact b_and1 _ | exact b_ct _ _ (by omega) | exact b_andr _ (by omega))).mpr h)
    refine lv_iload_n hx hb dX4_about_17 rfl (lv_at hl 2 rfl) ?_
    refine lv_iconst (v := nI 4) hx hb dX4_about_18 (by decide) ?_
    refine lv_icmp_le (tgt := 25) hx hb dX4_about_19 (by decide) (fun c_19 => ?_) (fun c_19 => ?_)
    · have f_19 : wt ≤ 4 := (nI_leI (a := wt) (b := 4) (by first | omega | exact b_and1 _ | exact b_ct _ _ (by omega) | exact b_andr _ (by omega)) (by first | omega | exact b_and1 _ | exact b_ct _ _ (by omega) | exact b_andr _ (by omega))).mp c_19
      refine lv_iload_n hx hb dX4_about_25 rfl (lv_at hl 2 rfl) ?_
      refine lv_if_ne (tgt := 39) hx hb dX4_about_26 (by decide) (fun c_26 => ?_) (fun c_26 => ?_)
      · have f_26 : ¬ wt = 0 := fun h => c_26 ((nI_eq (a := wt) (b := 0) (by first | omega | exact b_and1 _ | exact b_ct _ _ (by omega) | exact b_andr _ (by omega)) (by first | omega | exact b_and1 _ | exact b_ct _ _ (by omega) | exact b_andr _ (by omega))).mpr h)
        refine lv_iload_n hx hb dX4_about_39 rfl (lv_at hl 2 rfl) ?_
        refine lv_iconst (v := nI 1) hx hb dX4_about_40 (by decide) ?_
        refine lv_icmp_ne (tgt := 71) hx hb dX4_about_41 (by decide) (fun c_41 => ?_) (fun c_41 => ?_)
        · have f_41 : ¬ wt = 1 := fun h => c_41 ((nI_eq (a := wt) (b := 1) (by first | omega | exact b_and1 _ | exact b_ct _ _ (by omega) | exact b_andr _ (by omega)) (by first | omega | exact b_and1 _ | exact b_ct _ _ (by omega) | exact b_andr _ (by omega))).mpr h)
          refine lv_aload_n hx hb dX4_about_71 rfl (lv_at hl 0 rfl) ?_
          refine va_get (D := D) (ci := 4) (v := .ref (q 1)) (C := RX4) (T := TX4) (N := 7) hx hb hts (fun w h => List.mem_cons_of_mem _ (List.mem_append_left _ (List.mem_append_right _ h))) hown hK hP 0 rfl rfl 0 (by decide) (hts (.fieldLink RX4 10 "FirstStates" "circuit" "LFirstStates$Circuit;") (List.mem_of_getElem? (i := 1) rfl)) (fun _ h9 => h9) rfl dX4_about_72 ?_
          refine lv_iload_n hx hb dX4_about_75 rfl (lv_at hl 1 rfl) ?_
          refine lv_iconst (v := nI 3) hx hb dX4_about_76 (by decide) ?_
          refine fx_callV (As := [.int (nI k), .int (nI 3)]) (rest := []) ⟨hx, hb, hml, hown, hts⟩ (c_X0_isSort l D cI cJ cZ q xro xtk xli cn ci cs cso cki cfa cfb cfc cva csn csd csl csb csr csc won wle pte pho nwa nti k 3 (by first | assumption | omega) (by first | assumption | omega) (by first | assumption | omega) (by first | assumption | omega)) (cwV 2 hts gX4_about_X0_isSort rfl rfl rfl kv_X0_isSort ⟨Nat.le_of_ble_eq_true rfl, Nat.le_of_ble_eq_true rfl⟩) hK hP hD hS hA hZ 1 rfl rfl rfl rfl hl.1 rfl (lv_room (Nat.le_of_ble_eq_true rfl)) dX4_about_77 ⟨Nat.zero_le _, Nat.zero_le _⟩ (fun u_2 H locs hu_2 hP hD hS => ?_)
          refine lv_if_eq (tgt := 103) hx hb dX4_about_80 (by decide) (fun c_80 => ?_) (fun c_80 => ?_)
          · have f_80 : (decide (cso k = 3)) = false := bI_0.mp c_80
            refine lv_bipush (v := (-9)) hx hb dX4_about_103 (by decide) ?_
            exact hri () _ H locs 105 ls .int rfl rfl trivial (by have q := And.intro trivial trivial; first | (simp [abA, f_26]; done) | (simp at f_53; simp [abA, f_26, f_41]; done) | (simp at f_80; simp [abA, f_26, f_41, f_80]; done) | (rw [h3] ; rfl)) hP hD hS dX4_about_105
          have f_80 : (decide (cso k = 3)) = true := bI_n0.mp c_80
          have h3 : cso k = 3 := of_decide_eq_true f_80
          have hs1 := hs h3
          refine lv_aload_n hx hb dX4_about_83 rfl (lv_at hl 0 rfl) ?_
          refine va_get (D := D) (ci := 4) (v := .ref (q 1)) (C := RX4) (T := TX4) (N := 7) hx hb hts (fun w h => List.mem_cons_of_mem _ (List.mem_append_left _ (List.mem_append_right _ h))) hown hK hP 0 rfl rfl 0 (by decide) (hts (.fieldLink RX4 10 "FirstStates" "circuit" "LFirstStates$Circuit;") (List.mem_of_getElem? (i := 1) rfl)) (fun _ h9 => h9) rfl dX4_about_84 ?_
          refine lv_aload_n hx hb dX4_about_87 rfl (lv_at hl 0 rfl) ?_
          refine va_get (D := D) (ci := 4) (v := .ref (q 1)) (C := RX4) (T := TX4) (N := 7) hx hb hts (fun w h => List.mem_cons_of_mem _ (List.mem_append_left _ (List.mem_append_right _ h))) hown hK hP 0 rfl rfl 0 (by decide) (hts (.fieldLink RX4 10 "FirstStates" "circuit" "LFirstStates$Circuit;") (List.mem_of_getElem? (i := 1) rfl)) (fun _ h9 => h9) rfl dX4_about_88 ?_
          refine va_get (D := D) (ci := 0) (v := .ref (q 8)) (C := RX0) (T := TX0) (N := 15) hx hb hts (fun w h => List.mem_cons_of_mem _ (List.mem_append_right _ h)) hown hK hP 1 rfl rfl 9 (by decide) (hts (.fieldLink RX4 93 "FirstStates$Circuit" "storeNumbers" "[I") (List.mem_of_getElem? (i := 4) rfl)) (fun _ h9 => h9) rfl dX4_about_91 ?_
          refine lv_iload_n hx hb dX4_about_94 rfl (lv_at hl 1 rfl) ?_
          refine fx_iald (ar := nI) hx hb hK hP 8 (f := csn) (k := k) rfl (by omega) (by decide) dX4_about_95 ?_
          refine lv_iload_n hx hb dX4_about_96 rfl (lv_at hl 2 rfl) ?_
          refine fx_callV (As := [.int (nI (csn k)), .int (nI wt)]) (rest := []) ⟨hx, hb, hml, hown, hts⟩ (c_X0_aboutStore l D cI cJ cZ q xro xtk xli cn ci cs cso cki cfa cfb cfc cva csn csd csl csb csr csc won wle pte pho nwa nti (csn k) wt (by first | assumption | omega) (by first | assumption | omega)) (cwV 2 hts gX4_about_X0_aboutStore rfl rfl rfl kv_X0_aboutStore ⟨Nat.le_of_ble_eq_true rfl, Nat.le_of_ble_eq_true rfl⟩) hK hP hD hS hA hZ 1 rfl rfl rfl rfl hl.1 rfl (lv_room (Nat.le_of_ble_eq_true rfl)) dX4_about_97 ⟨Nat.zero_le _, Nat.zero_le _⟩ (fun u_3 H locs hu_3 hP hD hS => ?_)
          refine lv_goto (tgt := 105) hx hb dX4_about_100 (by decide) ?_
          exact hri () _ H locs 105 ls .int rfl rfl trivial (by have q := And.intro trivial trivial; first | (simp [abA, f_26]; done) | (simp at f_53; simp [abA, f_26, f_41]; done) | (simp at f_80; simp [abA, f_26, f_41, f_80]; done) | (rw [h3] ; rfl)) hP hD hS dX4_about_105
        have f_41 : wt = 1 := (nI_eq (a := wt) (b := 1) (by first | omega | exact b_and1 _ | exact b_ct _ _ (by omega) | exact b_andr _ (by omega)) (by first | omega | exact b_and1 _ | exact b_ct _ _ (by omega) | exact b_andr _ (by omega))).mp c_41
        refine lv_aload_n hx hb dX4_about_44 rfl (lv_at hl 0 rfl) ?_
        refine va_get (D := D) (ci := 4) (v := .ref (q 1)) (C := RX4) (T := TX4) (N := 7) hx hb hts (fun w h => List.mem_cons_of_mem _ (List.mem_append_left _ (List.mem_append_right _ h))) hown hK hP 0 rfl rfl 0 (by decide) (hts (.fieldLink RX4 10 "FirstStates" "circuit" "LFirstStates$Circuit;") (List.mem_of_getElem? (i := 1) rfl)) (fun _ h9 => h9) rfl dX4_about_45 ?_
        refine lv_iload_n hx hb dX4_about_48 rfl (lv_at hl 1 rfl) ?_
        refine lv_iconst (v := nI 2) hx hb dX4_about_49 (by decide) ?_
        refine fx_callV (As := [.int (nI k), .int (nI 2)]) (rest := []) ⟨hx, hb, hml, hown, hts⟩ (c_X0_isSort l D cI cJ cZ q xro xtk xli cn ci cs cso cki cfa cfb cfc cva csn csd csl csb csr csc won wle pte pho nwa nti k 2 (by first | assumption | omega) (by first | assumption | omega) (by first | assumption | omega) (by first | assumption | omega)) (cwV 2 hts gX4_about_X0_isSort rfl rfl rfl kv_X0_isSort ⟨Nat.le_of_ble_eq_true rfl, Nat.le_of_ble_eq_true rfl⟩) hK hP hD hS hA hZ 1 rfl rfl rfl rfl hl.1 rfl (lv_room (Nat.le_of_ble_eq_true rfl)) dX4_about_50 ⟨Nat.zero_le _, Nat.zero_le _⟩ (fun u_4 H locs hu_4 hP hD hS => ?_)
        refine lv_if_eq (tgt := 68) hx hb dX4_about_53 (by decide) (fun c_53 => ?_) (fun c_53 => ?_)
        · have f_53 : (decide (cso k = 2)) = false := bI_0.mp c_53
          refine lv_bipush (v := (-9)) hx hb dX4_about_68 (by decide) ?_
          exact hri () _ H locs 70 ls .int rfl rfl trivial (by have q := And.intro trivial trivial; first | (simp [abA, f_26]; done) | (simp at f_53; simp [abA, f_26, f_41, f_53]; done) | (simp at f_80; simp [abA, f_26, f_41, f_80]; done) | (rw [h3] ; rfl)) hP hD hS dX4_about_70
        have f_53 : (decide (cso k = 2)) = true := bI_n0.mp c_53
        refine lv_aload_n hx hb dX4_about_56 rfl (lv_at hl 0 rfl) ?_
        refine va_get (D := D) (ci := 4) (v := .ref (q 1)) (C := RX4) (T := TX4) (N := 7) hx hb hts (fun w h => List.mem_cons_of_mem _ (List.mem_append_left _ (List.mem_append_right _ h))) hown hK hP 0 rfl rfl 0 (by decide) (hts (.fieldLink RX4 10 "FirstStates" "circuit" "LFirstStates$Circuit;") (List.mem_of_getElem? (i := 1) rfl)) (fun _ h9 => h9) rfl dX4_about_57 ?_
        refine va_get (D := D) (ci := 0) (v := .ref (q 3)) (C := RX0) (T := TX0) (N := 15) hx hb hts (fun w h => List.mem_cons_of_mem _ (List.mem_append_right _ h)) hown hK hP 1 rfl rfl 4 (by decide) (hts (.fieldLink RX4 103 "FirstStates$Circuit" "kinds" "[I") (List.mem_of_getElem? (i := 3) rfl)) (fun _ h9 => h9) rfl dX4_about_60 ?_
        refine lv_iload_n hx hb dX4_about_63 rfl (lv_at hl 1 rfl) ?_
        refine fx_iald (ar := nI) hx hb hK hP 3 (f := cki) (k := k) rfl (by omega) (by decide) dX4_about_64 ?_
        refine lv_goto (tgt := 70) hx hb dX4_about_65 (by decide) ?_
        exact hri () _ H locs 70 ls .int rfl rfl trivial (by have q := And.intro trivial trivial; first | (simp [abA, f_26]; done) | (simp at f_53; simp [abA, f_26, f_41, f_53]; done) | (simp at f_80; simp [abA, f_26, f_41, f_80]; done) | (rw [h3] ; rfl)) hP hD hS dX4_about_70
      have f_26 : wt = 0 := (nI_eq (a := wt) (b := 0) (by first | omega | exact b_and1 _ | exact b_ct _ _ (by omega) | exact b_andr _ (by omega)) (by first | omega | exact b_and1 _ | exact b_ct _ _ (by omega) | exact b_andr _ (by omega))).mp c_26
      refine lv_aload_n hx hb dX4_about_29 rfl (lv_at hl 0 rfl) ?_
      refine va_get (D := D) (ci := 4) (v := .ref (q 1)) (C := RX4) (T := TX4) (N := 7) hx hb hts (fun w h => List.mem_cons_of_mem _ (List.mem_append_left _ (List.mem_append_right _ h))) hown hK hP 0 rfl rfl 0 (by decide) (hts (.fieldLink RX4 10 "FirstStates" "circuit" "LFirstStates$Circuit;") (List.mem_of_getElem? (i := 1) rfl)) (fun _ h9 => h9) rfl dX4_about_30 ?_
      refine va_get (D := D) (ci := 0) (v := .ref (q 2)) (C := RX0) (T := TX0) (N := 15) hx hb hts (fun w h => List.mem_cons_of_mem _ (List.mem_append_right _ h)) hown hK hP 1 rfl rfl 3 (by decide) (hts (.fieldLink RX4 100 "FirstStates$Circuit" "sorts" "[I") (List.mem_of_getElem? (i := 2) rfl)) (fun _ h9 => h9) rfl dX4_about_33 ?_
      refine lv_iload_n hx hb dX4_about_36 rfl (lv_at hl 1 rfl) ?_
      refine fx_iald (ar := nI) hx hb hK hP 2 (f := cso) (k := k) rfl (by omega) (by decide) dX4_about_37 ?_
      exact hri () _ H locs 38 ls .int rfl rfl trivial (by have q := And.intro trivial trivial; first | (simp [abA, f_26]; done) | (simp at f_53; simp [abA, f_26]; done) | (simp at f_80; simp [abA, f_26, f_80]; done) | (rw [h3] ; rfl)) hP hD hS dX4_about_38
    have f_19 : ¬ wt ≤ 4 := fun h => c_19 ((nI_leI (a := wt) (b := 4) (by first | omega | exact b_and1 _ | exact b_ct _ _ (by omega) | exact b_andr _ (by omega)) (by first | omega | exact b_and1 _ | exact b_ct _ _ (by omega) | exact b_andr _ (by omega))).mpr h)
    exfalso; omega
  have f_8 : (isN cn (nI k)) = false := bI_0.mp c_8
  exfalso; rw [isN_nI (by omega) (by omega)] at f_8; simp at f_8; omega
set_option maxHeartbeats 4000000 in
set_option maxRecDepth 100000 in
theorem c_X4_line_u (l : Launch) (D : va_G) (cI cJ cZ : ClassId) (q : Nat → Nat) (xro : Int64) (xtk : Nat) (xli : Nat) (cn : Nat) (ci : Nat) (cs : Nat) (cso : Nat → Nat) (cki : Nat → Nat) (cfa : Nat → Nat) (cfb : Nat → Nat) (cfc : Nat → Nat) (cva : Nat → Nat) (csn : Nat → Nat) (csd : Nat → Nat) (csl : Nat → Nat) (csb : Nat → Nat) (csr : Nat → Nat) (csc : Nat → Nat) (won : Nat → Int64) (wle : Nat → Int64) (pte : Nat → Nat) (pho : Nat → Nat) (nwa : Nat → Int32) (nti : Nat → Int32) (x : Int32) (on : Bool) (hl4 : isN 4 x = false) : Ct l D cI cJ cZ yX4_line wsX4_line ({ frames := 1, cells := 0, slots := 0, locals := 20 } : Room) 0 0 [.ref (q 0), .int x, .int (bI on)] (wA q cI cJ xro xtk xli cn ci cs cso cki cfa cfb cfc cva csn csd csl csb csr csc won wle pte pho nwa nti) (S := Unit) (fun u => True) (fun u => some (.int (-1))) (fun u => (wA q cI cJ xro xtk xli cn ci cs cso cki cfa cfb cfc cva csn csd csl csb csr csc won wle pte pho nwa nti)) := by
  refine Ct.ofW (cc := cX4_line) (maxL := 5) (ret := (some .int)) (R_C := RX4) (by decide +kernel) rfl rfl (Nat.le_of_ble_eq_true rfl) rfl ?_
  intro p e s m args below meth c A Q ls H locs hx hb hml hown hts hK hA hP hD hS hZ hl hri hrl hrv
  refine lv_iload_n hx hb dX4_line_0 rfl (lv_at hl 1 rfl) ?_
  refine fx_callS (As := [.int x]) (rest := []) ⟨hx, hb, hml, hown, hts⟩ (c_X4_isLine l D cI cJ cZ (wA q cI cJ xro xtk xli cn ci cs cso cki cfa cfb cfc cva csn csd csl csb csr csc won wle pte pho nwa nti) x) (va_cwS 1 hts gX4_line_X4_isLine rfl rfl rfl ks_X4_isLine ⟨Nat.le_of_ble_eq_true rfl, Nat.le_of_ble_eq_true rfl⟩) hK hP hD hS hA hZ rfl hl.1 rfl (lv_room (Nat.le_of_ble_eq_true rfl)) dX4_line_1 ⟨Nat.zero_le _, Nat.zero_le _⟩ (fun u_1 H locs hu_1 hP hD hS => ?_)
  refine lv_if_ne (tgt := 9) hx hb dX4_line_4 (by decide) (fun c_4 => ?_) (fun c_4 => ?_)
  · have f_4 : (isN 4 x) = true := bI_n0.mp c_4
    exfalso; rw [hl4] at f_4; cases f_4
  have f_4 : (isN 4 x) = false := bI_0.mp c_4
  refine lv_iconst (v := (-1)) hx hb dX4_line_7 (by decide) ?_
  exact hri () _ H locs 8 ls .int rfl rfl trivial rfl hP hD hS dX4_line_8
set_option maxHeartbeats 4000000 in
set_option maxRecDepth 100000 in
theorem c_X4_line (l : Launch) (D : va_G) (cI cJ cZ : ClassId) (q : Nat → Nat) (xro : Int64) (xtk : Nat) (xli : Nat) (cn : Nat) (ci : Nat) (cs : Nat) (cso : Nat → Nat) (cki : Nat → Nat) (cfa : Nat → Nat) (cfb : Nat → Nat) (cfc : Nat → Nat) (cva : Nat → Nat) (csn : Nat → Nat) (csd : Nat → Nat) (csl : Nat → Nat) (csb : Nat → Nat) (csr : Nat → Nat) (csc : Nat → Nat) (won : Nat → Int64) (wle : Nat → Int64) (pte : Nat → Nat) (pho : Nat → Nat) (nwa : Nat → Int32) (nti : Nat → Int32) (k : Nat) (on : Bool) (hk : k < 4) (hli : xli < 16) : Ct l D cI cJ cZ yX4_line wsX4_line ({ frames := 1, cells := 0, slots := 0, locals := 20 } : Room) 0 0 [.ref (q 0), .int (nI k), .int (bI on)] (wA q cI cJ xro xtk xli cn ci cs cso cki cfa cfb cfc cva csn csd csl csb csr csc won wle pte pho nwa nti) (S := Unit) (fun u => True) (fun u => some (.int (bI (xli.testBit k)))) (fun u => (wA q cI cJ xro xtk (if on = true then xli ||| 2 ^ k else clr xli k) cn ci cs cso cki cfa cfb cfc cva csn csd csl csb csr csc won wle pte pho nwa nti)) := by
  refine Ct.ofW (cc := cX4_line) (maxL := 5) (ret := (some .int)) (R_C := RX4) (by decide +kernel) rfl rfl (Nat.le_of_ble_eq_true rfl) rfl ?_
  intro p e s m args below meth c A Q ls H locs hx hb hml hown hts hK hA hP hD hS hZ hl hri hrl hrv
  refine lv_iload_n hx hb dX4_line_0 rfl (lv_at hl 1 rfl) ?_
  refine fx_callS (As := [.int (nI k)]) (rest := []) ⟨hx, hb, hml, hown, hts⟩ (c_X4_isLine l D cI cJ cZ (wA q cI cJ xro xtk xli cn ci cs cso cki cfa cfb cfc cva csn csd csl csb csr csc won wle pte pho nwa nti) (nI k)) (va_cwS 1 hts gX4_line_X4_isLine rfl rfl rfl ks_X4_isLine ⟨Nat.le_of_ble_eq_true rfl, Nat.le_of_ble_eq_true rfl⟩) hK hP hD hS hA hZ rfl hl.1 rfl (lv_room (Nat.le_of_ble_eq_true rfl)) dX4_line_1 ⟨Nat.zero_le _, Nat.zero_le _⟩ (fun u_1 H locs hu_1 hP hD hS => ?_)
  refine lv_if_ne (tgt := 9) hx hb dX4_line_4 (by decide) (fun c_4 => ?_) (fun c_4 => ?_)
  · have f_4 : (isN 4 (nI k)) = true := bI_n0.mp c_4
    refine lv_iconst (v := nI 1) hx hb dX4_line_9 (by decide) ?_
    refine lv_iload_n hx hb dX4_line_10 rfl (lv_at hl 1 rfl) ?_
    have h2k : 2 ^ k ≤ 8 := Nat.pow_le_pow_right (n := 2) (by omega) (show k ≤ 3 by omega)
    have hal := Nat.and_le_left (n := xli) (m := 2 ^ k)
    refine lv_ishl hx hb dX4_line_11 ?_
    refine fx_eqi (y := nI (2 ^ k)) (fx_shl1 (by first | omega | exact b_and1 _ | exact b_ct _ _ (by omega) | exact b_andr _ (by omega))) ?_
    refine lv_istore_n (lv' := [(3, .int (nI (2 ^ k))), (0, .ref (q 0)), (1, .int (nI k)), (2, .int (bI on))]) hx hb dX4_line_12 rfl hl (by decide) rfl (fun ls hl => ?_)
    refine lv_aload_n hx hb dX4_line_13 rfl (lv_at hl 1 rfl) ?_
    refine va_get (D := D) (ci := 4) (v := .int (nI xli)) (C := RX4) (T := TX4) (N := 7) hx hb hts (fun w h => List.mem_cons_of_mem _ (List.mem_append_right _ h)) hown hK hP 0 rfl rfl 6 (by decide) (hts (.fieldLink RX4 47 "FirstStates" "linesOn" "I") (List.mem_of_getElem? (i := 1) rfl)) (fun _ h9 => h9) rfl dX4_line_14 ?_
    refine lv_iload_n hx hb dX4_line_17 rfl (lv_at hl 0 rfl) ?_
    refine lv_iand hx hb dX4_line_18 ?_
    refine fx_eqi (fx_andI _ _) ?_
    refine lv_if_eq (tgt := 26) hx hb dX4_line_19 (by decide) (fun c_19 => ?_) (fun c_19 => ?_)
    · have f_19 : xli &&& (2 ^ k) = 0 := (nI_eq (a := xli &&& (2 ^ k)) (b := 0) (by first | omega | exact b_and1 _ | exact b_ct _ _ (by omega) | exact b_andr _ (by omega)) (by first | omega | exact b_and1 _ | exact b_ct _ _ (by omega) | exact b_andr _ (by omega))).mp c_19
      refine lv_iconst (v := nI 0) hx hb dX4_line_26 (by decide) ?_
      refine lv_istore (lv' := [(4, .int (nI 0)), (3, .int (nI (2 ^ k))), (0, .ref (q 0)), (1, .int (nI k)), (2, .int (bI on))]) hx hb dX4_line_27 hl (by decide) rfl (fun ls hl => ?_)
      refine lv_aload_n hx hb dX4_line_29 rfl (lv_at hl 2 rfl) ?_
      refine lv_iload_n hx hb dX4_line_30 rfl (lv_at hl 4 rfl) ?_
      refine lv_if_eq (tgt := 43) hx hb dX4_line_31 (by decide) (fun c_31 => ?_) (fun c_31 => ?_)
      · have f_31 : on = false := bI_0.mp c_31
        refine lv_aload_n hx hb dX4_line_43 rfl (lv_at hl 2 rfl) ?_
        refine va_get (D := D) (ci := 4) (v := .int (nI xli)) (C := RX4) (T := TX4) (N := 7) hx hb hts (fun w h => List.mem_cons_of_mem _ (List.mem_append_right _ h)) hown hK hP 0 rfl rfl 6 (by decide) (hts (.fieldLink RX4 47 "FirstStates" "linesOn" "I") (List.mem_of_getElem? (i := 1) rfl)) (fun _ h9 => h9) rfl dX4_line_44 ?_
        refine lv_iload_n hx hb dX4_line_47 rfl (lv_at hl 1 rfl) ?_
        refine lv_iconst (v := (-1)) hx hb dX4_line_48 (by decide) ?_
        refine lv_ixor hx hb dX4_line_49 ?_
        refine lv_iand hx hb dX4_line_50 ?_
        refine fx_eqi (x := (nI xli) &&& ((nI (2 ^ k)) ^^^ (-1))) (y := nI (clr xli k)) (clr_ok xli hli k hk) ?_
        refine va_put (D := D) (ci := 4) (v := .int (nI (clr xli k))) (ty := .int) (C := RX4) (T := TX4) (N := 7) hx hb hts (fun w h => List.mem_cons_of_mem _ (List.mem_append_right _ h)) tyX4 tyX4_ok nmX4 hown hK hP hD hS 0 rfl rfl 6 (by decide) (hts (.fieldLink RX4 47 "FirstStates" "linesOn" "I") (List.mem_of_getElem? (i := 1) rfl)) (fun _ h9 => h9) rfl (by decide +kernel) rfl rfl (Nat.le_of_ble_eq_true rfl) dX4_line_51 (fun H locs hP hD hS => ?_)
        have hP : va_P D vwCl (wA q cI cJ xro xtk (clr xli k) cn ci cs cso cki cfa cfb cfc cva csn csd csl csb csr csc won wle pte pho nwa nti) H := hP
        have hD : va_D A (wA q cI cJ xro xtk (clr xli k) cn ci cs cso cki cfa cfb cfc cva csn csd csl csb csr csc won wle pte pho nwa nti) := fx_D hD rfl
        refine lv_iload hx hb dX4_line_54 (lv_at hl 0 rfl) ?_
        have e_2 : clr xli k = if on = true then xli ||| 2 ^ k else clr xli k := by first | rfl | (simp [f_31])
        exact hri () _ H locs 56 ls .int rfl rfl trivial (by exact bI_s0 (by exact and_tp.mp f_19)) (fx_Pe (w' := (wA q cI cJ xro xtk (if on = true then xli ||| 2 ^ k else clr xli k) cn ci cs cso cki cfa cfb cfc cva csn csd csl csb csr csc won wle pte pho nwa nti)) hP (congrArg (fun w9 : Nat => (wA q cI cJ xro xtk w9 cn ci cs cso cki cfa cfb cfc cva csn csd csl csb csr csc won wle pte pho nwa nti)) e_2)) (fx_D hD rfl) hS dX4_line_56
      have f_31 : on = true := bI_n0.mp c_31
      refine lv_aload_n hx hb dX4_line_34 rfl (lv_at hl 2 rfl) ?_
      refine va_get (D := D) (ci := 4) (v := .int (nI xli)) (C := RX4) (T := TX4) (N := 7) hx hb hts (fun w h => List.mem_cons_of_mem _ (List.mem_append_right _ h)) hown hK hP 0 rfl rfl 6 (by decide) (hts (.fieldLink RX4 47 "FirstStates" "linesOn" "I") (List.mem_of_getElem? (i := 1) rfl)) (fun _ h9 => h9) rfl dX4_line_35 ?_
      refine lv_iload_n hx hb dX4_line_38 rfl (lv_at hl 1 rfl) ?_
      refine lv_ior hx hb dX4_line_39 ?_
      refine fx_eqi (fx_orI _ _) ?_
      refine lv_goto (tgt := 51) hx hb dX4_line_40 (by decide) ?_
      refine va_put (D := D) (ci := 4) (v := .int (nI (xli ||| (2 ^ k)))) (ty := .int) (C := RX4) (T := TX4) (N := 7) hx hb hts (fun w h => List.mem_cons_of_mem _ (List.mem_append_right _ h)) tyX4 tyX4_ok nmX4 hown hK hP hD hS 0 rfl rfl 6 (by decide) (hts (.fieldLink RX4 47 "FirstStates" "linesOn" "I") (List.mem_of_getElem? (i := 1) rfl)) (fun _ h9 => h9) rfl (by decide +kernel) rfl rfl (Nat.le_of_ble_eq_true rfl) dX4_line_51 (fun H locs hP hD hS => ?_)
      have hP : va_P D vwCl (wA q cI cJ xro xtk (xli ||| (2 ^ k)) cn ci cs cso cki cfa cfb cfc cva csn csd csl csb csr csc won wle pte pho nwa nti) H := hP
      have hD : va_D A (wA q cI cJ xro xtk (xli ||| (2 ^ k)) cn ci cs cso cki cfa cfb cfc cva csn csd csl csb csr csc won wle pte pho nwa nti) := fx_D hD rfl
      refine lv_iload hx hb dX4_line_54 (lv_at hl 0 rfl) ?_
      have e_3 : xli ||| (2 ^ k) = if on = true then xli ||| 2 ^ k else clr xli k := by first | rfl | (simp [f_31])
      exact hri () _ H locs 56 ls .int rfl rfl trivial (by exact bI_s0 (by exact and_tp.mp f_19)) (fx_Pe (w' := (wA q cI cJ xro xtk (if on = true then xli ||| 2 ^ k else clr xli k) cn ci cs cso cki cfa cfb cfc cva csn csd csl csb csr csc won wle pte pho nwa nti)) hP (congrArg (fun w9 : Nat => (wA q cI cJ xro xtk w9 cn ci cs cso cki cfa cfb cfc cva csn csd csl csb csr csc won wle pte pho nwa nti)) e_3)) (fx_D hD rfl) hS dX4_line_56
    have f_19 : ¬ xli &&& (2 ^ k) = 0 := fun h => c_19 ((nI_eq (a := xli &&& (2 ^ k)) (b := 0) (by first | omega | exact b_and1 _ | exact b_ct _ _ (by omega) | exact b_andr _ (by omega)) (by first | omega | exact b_and1 _ | exact b_ct _ _ (by omega) | exact b_andr _ (by omega))).mpr h)
    refine lv_iconst (v := nI 1) hx hb dX4_line_22 (by decide) ?_
    refine lv_goto (tgt := 27) hx hb dX4_line_23 (by decide) ?_
    refine lv_istore (lv' := [(4, .int (nI 1)), (3, .int (nI (2 ^ k))), (0, .ref (q 0)), (1, .int (nI k)), (2, .int (bI on))]) hx hb dX4_line_27 hl (by decide) rfl (fun ls hl => ?_)
    refine lv_aload_n hx hb dX4_line_29 rfl (lv_at hl 2 rfl) ?_
    refine lv_iload_n hx hb dX4_line_30 rfl (lv_at hl 4 rfl) ?_
    refine lv_if_eq (tgt := 43) hx hb dX4_line_31 (by decide) (fun c_31 => ?_) (fun c_31 => ?_)
    · have f_31 : on = false := bI_0.mp c_31
      refine lv_aload_n hx hb dX4_line_43 rfl (lv_at hl 2 rfl) ?_
      refine va_get (D := D) (ci := 4) (v := .int (nI xli)) (C := RX4) (T := TX4) (N := 7) hx hb hts (fun w h => List.mem_cons_of_mem _ (List.mem_append_right _ h)) hown hK hP 0 rfl rfl 6 (by decide) (hts (.fieldLink RX4 47 "FirstStates" "linesOn" "I") (List.mem_of_getElem? (i := 1) rfl)) (fun _ h9 => h9) rfl dX4_line_44 ?_
      refine lv_iload_n hx hb dX4_line_47 rfl (lv_at hl 1 rfl) ?_
      refine lv_iconst (v := (-1)) hx hb dX4_line_48 (by decide) ?_
      refine lv_ixor hx hb dX4_line_49 ?_
      refine lv_iand hx hb dX4_line_50 ?_
      refine fx_eqi (x := (nI xli) &&& ((nI (2 ^ k)) ^^^ (-1))) (y := nI (clr xli k)) (clr_ok xli hli k hk) ?_
      refine va_put (D := D) (ci := 4) (v := .int (nI (clr xli k))) (ty := .int) (C := RX4) (T := TX4) (N := 7) hx hb hts (fun w h => List.mem_cons_of_mem _ (List.mem_append_right _ h)) tyX4 tyX4_ok nmX4 hown hK hP hD hS 0 rfl rfl 6 (by decide) (hts (.fieldLink RX4 47 "FirstStates" "linesOn" "I") (List.mem_of_getElem? (i := 1) rfl)) (fun _ h9 => h9) rfl (by decide +kernel) rfl rfl (Nat.le_of_ble_eq_true rfl) dX4_line_51 (fun H locs hP hD hS => ?_)
      have hP : va_P D vwCl (wA q cI cJ xro xtk (clr xli k) cn ci cs cso cki cfa cfb cfc cva csn csd csl csb csr csc won wle pte pho nwa nti) H := hP
      have hD : va_D A (wA q cI cJ xro xtk (clr xli k) cn ci cs cso cki cfa cfb cfc cva csn csd csl csb csr csc won wle pte pho nwa nti) := fx_D hD rfl
      refine lv_iload hx hb dX4_line_54 (lv_at hl 0 rfl) ?_
      have e_4 : clr xli k = if on = true then xli ||| 2 ^ k else clr xli k := by first | rfl | (simp [f_31])
      exact hri () _ H locs 56 ls .int rfl rfl trivial (by exact bI_s1 (by simpa using (not_congr and_tp).mp f_19)) (fx_Pe (w' := (wA q cI cJ xro xtk (if on = true then xli ||| 2 ^ k else clr xli k) cn ci cs cso cki cfa cfb cfc cva csn csd csl csb csr csc won wle pte pho nwa nti)) hP (congrArg (fun w9 : Nat => (wA q cI cJ xro xtk w9 cn ci cs cso cki cfa cfb cfc cva csn csd csl csb csr csc won wle pte pho nwa nti)) e_4)) (fx_D hD rfl) hS dX4_line_56
    have f_31 : on = true := bI_n0.mp c_31
    refine lv_aload_n hx hb dX4_line_34 rfl (lv_at hl 2 rfl) ?_
    refine va_get (D := D) (ci := 4) (v := .int (nI xli)) (C := RX4) (T := TX4) (N := 7) hx hb hts (fun w h => List.mem_cons_of_mem _ (List.mem_append_right _ h)) hown hK hP 0 rfl rfl 6 (by decide) (hts (.fieldLink RX4 47 "FirstStates" "linesOn" "I") (List.mem_of_getElem? (i := 1) rfl)) (fun _ h9 => h9) rfl dX4_line_35 ?_
    refine lv_iload_n hx hb dX4_line_38 rfl (lv_at hl 1 rfl) ?_
    refine lv_ior hx hb dX4_line_39 ?_
    refine fx_eqi (fx_orI _ _) ?_
    refine lv_goto (tgt := 51) hx hb dX4_line_40 (by decide) ?_
    refine va_put (D := D) (ci := 4) (v := .int (nI (xli ||| (2 ^ k)))) (ty := .int) (C := RX4) (T := TX4) (N := 7) hx hb hts (fun w h => List.mem_cons_of_mem _ (List.mem_append_right _ h)) tyX4 tyX4_ok nmX4 hown hK hP hD hS 0 rfl rfl 6 (by decide) (hts (.fieldLink RX4 47 "FirstStates" "linesOn" "I") (List.mem_of_getElem? (i := 1) rfl)) (fun _ h9 => h9) rfl (by decide +kernel) rfl rfl (Nat.le_of_ble_eq_true rfl) dX4_line_51 (fun H locs hP hD hS => ?_)
    have hP : va_P D vwCl (wA q cI cJ xro xtk (xli ||| (2 ^ k)) cn ci cs cso cki cfa cfb cfc cva csn csd csl csb csr csc won wle pte pho nwa nti) H := hP
    have hD : va_D A (wA q cI cJ xro xtk (xli ||| (2 ^ k)) cn ci cs cso cki cfa cfb cfc cva csn csd csl csb csr csc won wle pte pho nwa nti) := fx_D hD rfl
    refine lv_iload hx hb dX4_line_54 (lv_at hl 0 rfl) ?_
    have e_5 : xli ||| (2 ^ k) = if on = true then xli ||| 2 ^ k else clr xli k := by first | rfl | (simp [f_31])
    exact hri () _ H locs 56 ls .int rfl rfl trivial (by exact bI_s1 (by simpa using (not_congr and_tp).mp f_19)) (fx_Pe (w' := (wA q cI cJ xro xtk (if on = true then xli ||| 2 ^ k else clr xli k) cn ci cs cso cki cfa cfb cfc cva csn csd csl csb csr csc won wle pte pho nwa nti)) hP (congrArg (fun w9 : Nat => (wA q cI cJ xro xtk w9 cn ci cs cso cki cfa cfb cfc cva csn csd csl csb csr csc won wle pte pho nwa nti)) e_5)) (fx_D hD rfl) hS dX4_line_56
  have f_4 : (isN 4 (nI k)) = false := bI_0.mp c_4
  exfalso; rw [isN_nI (by omega) (by omega)] at f_4; simp at f_4; omega
set_option maxHeartbeats 4000000 in
set_option maxRecDepth 100000 in
theorem c_X4_set_u (l : Launch) (D : va_G) (cI cJ cZ : ClassId) (q : Nat → Nat) (xro : Int64) (xtk : Nat) (xli : Nat) (cn : Nat) (ci : Nat) (cs : Nat) (cso : Nat → Nat) (cki : Nat → Nat) (cfa : Nat → Nat) (cfb : Nat → Nat) (cfc : Nat → Nat) (cva : Nat → Nat) (csn : Nat → Nat) (csd : Nat → Nat) (csl : Nat → Nat) (csb : Nat → Nat) (csr : Nat → Nat) (csc : Nat → Nat) (won : Nat → Int64) (wle : Nat → Int64) (pte : Nat → Nat) (pho : Nat → Nat) (nwa : Nat → Int32) (nti : Nat → Int32) (x : Int32) (y : Int32) (hcn : cn ≤ 32) (hu : isN cn x = false) : Ct l D cI cJ cZ yX4_set wsX4_set ({ frames := 1, cells := 0, slots := 0, locals := 21 } : Room) 0 0 [.ref (q 0), .int x, .int y] (wA q cI cJ xro xtk xli cn ci cs cso cki cfa cfb cfc cva csn csd csl csb csr csc won wle pte pho nwa nti) (S := Unit) (fun u => True) (fun u => some (.int (-1))) (fun u => (wA q cI cJ xro xtk xli cn ci cs cso cki cfa cfb cfc cva csn csd csl csb csr csc won wle pte pho nwa nti)) := by
  refine Ct.ofW (cc := cX4_set) (maxL := 4) (ret := (some .int)) (R_C := RX4) (by decide +kernel) rfl rfl (Nat.le_of_ble_eq_true rfl) rfl ?_
  intro p e s m args below meth c A Q ls H locs hx hb hml hown hts hK hA hP hD hS hZ hl hri hrl hrv
  refine lv_aload_n hx hb dX4_set_0 rfl (lv_at hl 0 rfl) ?_
  refine va_get (D := D) (ci := 4) (v := .ref (q 1)) (C := RX4) (T := TX4) (N := 7) hx hb hts (fun w h => List.mem_cons_of_mem _ (List.mem_append_left _ (List.mem_append_right _ h))) hown hK hP 0 rfl rfl 0 (by decide) (hts (.fieldLink RX4 10 "FirstStates" "circuit" "LFirstStates$Circuit;") (List.mem_of_getElem? (i := 1) rfl)) (fun _ h9 => h9) rfl dX4_set_1 ?_
  refine lv_iload_n hx hb dX4_set_4 rfl (lv_at hl 1 rfl) ?_
  refine fx_callV (As := [.int x]) (rest := []) ⟨hx, hb, hml, hown, hts⟩ (c_X0_isNode l D cI cJ cZ q xro xtk xli cn ci cs cso cki cfa cfb cfc cva csn csd csl csb csr csc won wle pte pho nwa nti x) (cwV 1 hts gX4_set_X0_isNode rfl rfl rfl kv_X0_isNode ⟨Nat.le_of_ble_eq_true rfl, Nat.le_of_ble_eq_true rfl⟩) hK hP hD hS hA hZ 1 rfl rfl rfl rfl hl.1 rfl (lv_room (Nat.le_of_ble_eq_true rfl)) dX4_set_5 ⟨Nat.zero_le _, Nat.zero_le _⟩ (fun u_1 H locs hu_1 hP hD hS => ?_)
  refine lv_if_ne (tgt := 13) hx hb dX4_set_8 (by decide) (fun c_8 => ?_) (fun c_8 => ?_)
  · have f_8 : (isN cn x) = true := bI_n0.mp c_8
    exfalso; rw [hu] at f_8; cases f_8
  have f_8 : (isN cn x) = false := bI_0.mp c_8
  refine lv_iconst (v := (-1)) hx hb dX4_set_11 (by decide) ?_
  exact hri () _ H locs 12 ls .int rfl rfl trivial rfl hP hD hS dX4_set_12
set_option maxHeartbeats 4000000 in
set_option maxRecDepth 100000 in
theorem c_X4_set_s (l : Launch) (D : va_G) (cI cJ cZ : ClassId) (q : Nat → Nat) (xro : Int64) (xtk : Nat) (xli : Nat) (cn : Nat) (ci : Nat) (cs : Nat) (cso : Nat → Nat) (cki : Nat → Nat) (cfa : Nat → Nat) (cfb : Nat → Nat) (cfc : Nat → Nat) (cva : Nat → Nat) (csn : Nat → Nat) (csd : Nat → Nat) (csl : Nat → Nat) (csb : Nat → Nat) (csr : Nat → Nat) (csc : Nat → Nat) (won : Nat → Int64) (wle : Nat → Int64) (pte : Nat → Nat) (pho : Nat → Nat) (nwa : Nat → Int32) (nti : Nat → Int32) (k : Nat) (y : Int32) (hcn : cn ≤ 32) (hk : k < cn) (hso : cso k ≤ 3) (h3 : ¬ cso k = 0) : Ct l D cI cJ cZ yX4_set wsX4_set ({ frames := 2, cells := 0, slots := 0, locals := 43 } : Room) 0 0 [.ref (q 0), .int (nI k), .int y] (wA q cI cJ xro xtk xli cn ci cs cso cki cfa cfb cfc cva csn csd csl csb csr csc won wle pte pho nwa nti) (S := Unit) (fun u => True) (fun u => some (.int (-3))) (fun u => (wA q cI cJ xro xtk xli cn ci cs cso cki cfa cfb cfc cva csn csd csl csb csr csc won wle pte pho nwa nti)) := by
  refine Ct.ofW (cc := cX4_set) (maxL := 4) (ret := (some .int)) (R_C := RX4) (by decide +kernel) rfl rfl (Nat.le_of_ble_eq_true rfl) rfl ?_
  intro p e s m args below meth c A Q ls H locs hx hb hml hown hts hK hA hP hD hS hZ hl hri hrl hrv
  refine lv_aload_n hx hb dX4_set_0 rfl (lv_at hl 0 rfl) ?_
  refine va_get (D := D) (ci := 4) (v := .ref (q 1)) (C := RX4) (T := TX4) (N := 7) hx hb hts (fun w h => List.mem_cons_of_mem _ (List.mem_append_left _ (List.mem_append_right _ h))) hown hK hP 0 rfl rfl 0 (by decide) (hts (.fieldLink RX4 10 "FirstStates" "circuit" "LFirstStates$Circuit;") (List.mem_of_getElem? (i := 1) rfl)) (fun _ h9 => h9) rfl dX4_set_1 ?_
  refine lv_iload_n hx hb dX4_set_4 rfl (lv_at hl 1 rfl) ?_
  refine fx_callV (As := [.int (nI k)]) (rest := []) ⟨hx, hb, hml, hown, hts⟩ (c_X0_isNode l D cI cJ cZ q xro xtk xli cn ci cs cso cki cfa cfb cfc cva csn csd csl csb csr csc won wle pte pho nwa nti (nI k)) (cwV 1 hts gX4_set_X0_isNode rfl rfl rfl kv_X0_isNode ⟨Nat.le_of_ble_eq_true rfl, Nat.le_of_ble_eq_true rfl⟩) hK hP hD hS hA hZ 1 rfl rfl rfl rfl hl.1 rfl (lv_room (Nat.le_of_ble_eq_true rfl)) dX4_set_5 ⟨Nat.zero_le _, Nat.zero_le _⟩ (fun u_1 H locs hu_1 hP hD hS => ?_)
  refine lv_if_ne (tgt := 13) hx hb dX4_set_8 (by decide) (fun c_8 => ?_) (fun c_8 => ?_)
  · have f_8 : (isN cn (nI k)) = true := bI_n0.mp c_8
    refine lv_aload_n hx hb dX4_set_13 rfl (lv_at hl 0 rfl) ?_
    refine va_get (D := D) (ci := 4) (v := .ref (q 1)) (C := RX4) (T := TX4) (N := 7) hx hb hts (fun w h => List.mem_cons_of_mem _ (List.mem_append_left _ (List.mem_append_right _ h))) hown hK hP 0 rfl rfl 0 (by decide) (hts (.fieldLink RX4 10 "FirstStates" "circuit" "LFirstStates$Circuit;") (List.mem_of_getElem? (i := 1) rfl)) (fun _ h9 => h9) rfl dX4_set_14 ?_
    refine lv_iload_n hx hb dX4_set_17 rfl (lv_at hl 1 rfl) ?_
    refine lv_iconst (v := nI 0) hx hb dX4_set_18 (by decide) ?_
    refine fx_callV (As := [.int (nI k), .int (nI 0)]) (rest := []) ⟨hx, hb, hml, hown, hts⟩ (c_X0_isSort l D cI cJ cZ q xro xtk xli cn ci cs cso cki cfa cfb cfc cva csn csd csl csb csr csc won wle pte pho nwa nti k 0 (by first | assumption | omega) (by first | assumption | omega) (by first | assumption | omega) (by first | assumption | omega)) (cwV 2 hts gX4_set_X0_isSort rfl rfl rfl kv_X0_isSort ⟨Nat.le_of_ble_eq_true rfl, Nat.le_of_ble_eq_true rfl⟩) hK hP hD hS hA hZ 1 rfl rfl rfl rfl hl.1 rfl (lv_room (Nat.le_of_ble_eq_true rfl)) dX4_set_19 ⟨Nat.zero_le _, Nat.zero_le _⟩ (fun u_2 H locs hu_2 hP hD hS => ?_)
    refine lv_if_ne (tgt := 28) hx hb dX4_set_22 (by decide) (fun c_22 => ?_) (fun c_22 => ?_)
    · have f_22 : (decide (cso k = 0)) = true := bI_n0.mp c_22
      exfalso; simp at f_22; omega
    have f_22 : (decide (cso k = 0)) = false := bI_0.mp c_22
    refine lv_bipush (v := (-3)) hx hb dX4_set_25 (by decide) ?_
    exact hri () _ H locs 27 ls .int rfl rfl trivial rfl hP hD hS dX4_set_27
  have f_8 : (isN cn (nI k)) = false := bI_0.mp c_8
  exfalso; rw [isN_nI (by omega) (by omega)] at f_8; simp at f_8; omega
set_option maxHeartbeats 4000000 in
set_option maxRecDepth 100000 in
theorem c_X4_set_o (l : Launch) (D : va_G) (cI cJ cZ : ClassId) (q : Nat → Nat) (xro : Int64) (xtk : Nat) (xli : Nat) (cn : Nat) (ci : Nat) (cs : Nat) (cso : Nat → Nat) (cki : Nat → Nat) (cfa : Nat → Nat) (cfb : Nat → Nat) (cfc : Nat → Nat) (cva : Nat → Nat) (csn : Nat → Nat) (csd : Nat → Nat) (csl : Nat → Nat) (csb : Nat → Nat) (csr : Nat → Nat) (csc : Nat → Nat) (won : Nat → Int64) (wle : Nat → Int64) (pte : Nat → Nat) (pho : Nat → Nat) (nwa : Nat → Int32) (nti : Nat → Int32) (k : Nat) (y : Int32) (hcn : cn ≤ 32) (hk : k < cn) (h3 : cso k = 0) (hy : bitB y = false) (hy2 : ¬ y = nI 2) : Ct l D cI cJ cZ yX4_set wsX4_set ({ frames := 2, cells := 0, slots := 0, locals := 43 } : Room) 0 0 [.ref (q 0), .int (nI k), .int y] (wA q cI cJ xro xtk xli cn ci cs cso cki cfa cfb cfc cva csn csd csl csb csr csc won wle pte pho nwa nti) (S := Unit) (fun u => True) (fun u => some (.int (-2))) (fun u => (wA q cI cJ xro xtk xli cn ci cs cso cki cfa cfb cfc cva csn csd csl csb csr csc won wle pte pho nwa nti)) := by
  refine Ct.ofW (cc := cX4_set) (maxL := 4) (ret := (some .int)) (R_C := RX4) (by decide +kernel) rfl rfl (Nat.le_of_ble_eq_true rfl) rfl ?_
  intro p e s m args below meth c A Q ls H locs hx hb hml hown hts hK hA hP hD hS hZ hl hri hrl hrv
  refine lv_aload_n hx hb dX4_set_0 rfl (lv_at hl 0 rfl) ?_
  refine va_get (D := D) (ci := 4) (v := .ref (q 1)) (C := RX4) (T := TX4) (N := 7) hx hb hts (fun w h => List.mem_cons_of_mem _ (List.mem_append_left _ (List.mem_append_right _ h))) hown hK hP 0 rfl rfl 0 (by decide) (hts (.fieldLink RX4 10 "FirstStates" "circuit" "LFirstStates$Circuit;") (List.mem_of_getElem? (i := 1) rfl)) (fun _ h9 => h9) rfl dX4_set_1 ?_
  refine lv_iload_n hx hb dX4_set_4 rfl (lv_at hl 1 rfl) ?_
  refine fx_callV (As := [.int (nI k)]) (rest := []) ⟨hx, hb, hml, hown, hts⟩ (c_X0_isNode l D cI cJ cZ q xro xtk xli cn ci cs cso cki cfa cfb cfc cva csn csd csl csb csr csc won wle pte pho nwa nti (nI k)) (cwV 1 hts gX4_set_X0_isNode rfl rfl rfl kv_X0_isNode ⟨Nat.le_of_ble_eq_true rfl, Nat.le_of_ble_eq_true rfl⟩) hK hP hD hS hA hZ 1 rfl rfl rfl rfl hl.1 rfl (lv_room (Nat.le_of_ble_eq_true rfl)) dX4_set_5 ⟨Nat.zero_le _, Nat.zero_le _⟩ (fun u_1 H locs hu_1 hP hD hS => ?_)
  refine lv_if_ne (tgt := 13) hx hb dX4_set_8 (by decide) (fun c_8 => ?_) (fun c_8 => ?_)
  · have f_8 : (isN cn (nI k)) = true := bI_n0.mp c_8
    refine lv_aload_n hx hb dX4_set_13 rfl (lv_at hl 0 rfl) ?_
    refine va_get (D := D) (ci := 4) (v := .ref (q 1)) (C := RX4) (T := TX4) (N := 7) hx hb hts (fun w h => List.mem_cons_of_mem _ (List.mem_append_left _ (List.mem_append_right _ h))) hown hK hP 0 rfl rfl 0 (by decide) (hts (.fieldLink RX4 10 "FirstStates" "circuit" "LFirstStates$Circuit;") (List.mem_of_getElem? (i := 1) rfl)) (fun _ h9 => h9) rfl dX4_set_14 ?_
    refine lv_iload_n hx hb dX4_set_17 rfl (lv_at hl 1 rfl) ?_
    refine lv_iconst (v := nI 0) hx hb dX4_set_18 (by decide) ?_
    refine fx_callV (As := [.int (nI k), .int (nI 0)]) (rest := []) ⟨hx, hb, hml, hown, hts⟩ (c_X0_isSort l D cI cJ cZ q xro xtk xli cn ci cs cso cki cfa cfb cfc cva csn csd csl csb csr csc won wle pte pho nwa nti k 0 (by first | assumption | omega) (by first | assumption | omega) (by omega) (by first | assumption | omega)) (cwV 2 hts gX4_set_X0_isSort rfl rfl rfl kv_X0_isSort ⟨Nat.le_of_ble_eq_true rfl, Nat.le_of_ble_eq_true rfl⟩) hK hP hD hS hA hZ 1 rfl rfl rfl rfl hl.1 rfl (lv_room (Nat.le_of_ble_eq_true rfl)) dX4_set_19 ⟨Nat.zero_le _, Nat.zero_le _⟩ (fun u_2 H locs hu_2 hP hD hS => ?_)
    refine lv_if_ne (tgt := 28) hx hb dX4_set_22 (by decide) (fun c_22 => ?_) (fun c_22 => ?_)
    · have f_22 : (decide (cso k = 0)) = true := bI_n0.mp c_22
      refine lv_iload_n hx hb dX4_set_28 rfl (lv_at hl 2 rfl) ?_
      refine fx_callS (As := [.int y]) (rest := []) ⟨hx, hb, hml, hown, hts⟩ (c_X4_isBit l D cI cJ cZ (wA q cI cJ xro xtk xli cn ci cs cso cki cfa cfb cfc cva csn csd csl csb csr csc won wle pte pho nwa nti) y) (va_cwS 1 hts gX4_set_X4_isBit rfl rfl rfl ks_X4_isBit ⟨Nat.le_of_ble_eq_true rfl, Nat.le_of_ble_eq_true rfl⟩) hK hP hD hS hA hZ rfl hl.1 rfl (lv_room (Nat.le_of_ble_eq_true rfl)) dX4_set_29 ⟨Nat.zero_le _, Nat.zero_le _⟩ (fun u_3 H locs hu_3 hP hD hS => ?_)
      refine lv_if_ne (tgt := 43) hx hb dX4_set_32 (by decide) (fun c_32 => ?_) (fun c_32 => ?_)
      · have f_32 : (bitB y) = true := bI_n0.mp c_32
        exfalso; rw [hy] at f_32; cases f_32
      have f_32 : (bitB y) = false := bI_0.mp c_32
      refine lv_iload_n hx hb dX4_set_35 rfl (lv_at hl 2 rfl) ?_
      refine lv_iconst (v := nI 2) hx hb dX4_set_36 (by decide) ?_
      refine lv_icmp_eq (tgt := 43) hx hb dX4_set_37 (by decide) (fun c_37 => ?_) (fun c_37 => ?_)
      · exfalso; exact hy2 c_37
      refine lv_bipush (v := (-2)) hx hb dX4_set_40 (by decide) ?_
      exact hri () _ H locs 42 ls .int rfl rfl trivial rfl hP hD hS dX4_set_42
    have f_22 : (decide (cso k = 0)) = false := bI_0.mp c_22
    exfalso; simp at f_22; omega
  have f_8 : (isN cn (nI k)) = false := bI_0.mp c_8
  exfalso; rw [isN_nI (by omega) (by omega)] at f_8; simp at f_8; omega
set_option maxHeartbeats 4000000 in
set_option maxRecDepth 100000 in
theorem c_X4_set (l : Launch) (D : va_G) (cI cJ cZ : ClassId) (q : Nat → Nat) (xro : Int64) (xtk : Nat) (xli : Nat) (cn : Nat) (ci : Nat) (cs : Nat) (cso : Nat → Nat) (cki : Nat → Nat) (cfa : Nat → Nat) (cfb : Nat → Nat) (cfc : Nat → Nat) (cva : Nat → Nat) (csn : Nat → Nat) (csd : Nat → Nat) (csl : Nat → Nat) (csb : Nat → Nat) (csr : Nat → Nat) (csc : Nat → Nat) (won : Nat → Int64) (wle : Nat → Int64) (pte : Nat → Nat) (pho : Nat → Nat) (nwa : Nat → Int32) (nti : Nat → Int32) (k : Nat) (v : Nat) (hcn : cn ≤ 32) (hk : k < cn) (h3 : cso k = 0) (hv : v ≤ 2) : Ct l D cI cJ cZ yX4_set wsX4_set ({ frames := 2, cells := 0, slots := 0, locals := 43 } : Room) 0 0 [.ref (q 0), .int (nI k), .int (nI v)] (wA q cI cJ xro xtk xli cn ci cs cso cki cfa cfb cfc cva csn csd csl csb csr csc won wle pte pho nwa nti) (S := Unit) (fun u => True) (fun u => some (.int (nI (cva k)))) (fun u => (wA q cI cJ xro xtk xli cn ci cs cso cki cfa cfb cfc (va_up cva k v) csn csd csl csb csr csc won wle pte pho nwa nti)) := by
  refine Ct.ofW (cc := cX4_set) (maxL := 4) (ret := (some .int)) (R_C := RX4) (by decide +kernel) rfl rfl (Nat.le_of_ble_eq_true rfl) rfl ?_
  intro p e s m args below meth c A Q ls H locs hx hb hml hown hts hK hA hP hD hS hZ hl hri hrl hrv
  refine lv_aload_n hx hb dX4_set_0 rfl (lv_at hl 0 rfl) ?_
  refine va_get (D := D) (ci := 4) (v := .ref (q 1)) (C := RX4) (T := TX4) (N := 7) hx hb hts (fun w h => List.mem_cons_of_mem _ (List.mem_append_left _ (List.mem_append_right _ h))) hown hK hP 0 rfl rfl 0 (by decide) (hts (.fieldLink RX4 10 "FirstStates" "circuit" "LFirstStates$Circuit;") (List.mem_of_getElem? (i := 1) rfl)) (fun _ h9 => h9) rfl dX4_set_1 ?_
  refine lv_iload_n hx hb dX4_set_4 rfl (lv_at hl 1 rfl) ?_
  refine fx_callV (As := [.int (nI k)]) (rest := []) ⟨hx, hb, hml, hown, hts⟩ (c_X0_isNode l D cI cJ cZ q xro xtk xli cn ci cs cso cki cfa cfb cfc cva csn csd csl csb csr csc won wle pte pho nwa nti (nI k)) (cwV 1 hts gX4_set_X0_isNode rfl rfl rfl kv_X0_isNode ⟨Nat.le_of_ble_eq_true rfl, Nat.le_of_ble_eq_true rfl⟩) hK hP hD hS hA hZ 1 rfl rfl rfl rfl hl.1 rfl (lv_room (Nat.le_of_ble_eq_true rfl)) dX4_set_5 ⟨Nat.zero_le _, Nat.zero_le _⟩ (fun u_1 H locs hu_1 hP hD hS => ?_)
  refine lv_if_ne (tgt := 13) hx hb dX4_set_8 (by decide) (fun c_8 => ?_) (fun c_8 => ?_)
  · have f_8 : (isN cn (nI k)) = true := bI_n0.mp c_8
    refine lv_aload_n hx hb dX4_set_13 rfl (lv_at hl 0 rfl) ?_
    refine va_get (D := D) (ci := 4) (v := .ref (q 1)) (C := RX4) (T := TX4) (N := 7) hx hb hts (fun w h => List.mem_cons_of_mem _ (List.mem_append_left _ (List.mem_append_right _ h))) hown hK hP 0 rfl rfl 0 (by decide) (hts (.fieldLink RX4 10 "FirstStates" "circuit" "LFirstStates$Circuit;") (List.mem_of_getElem? (i := 1) rfl)) (fun _ h9 => h9) rfl dX4_set_14 ?_
    refine lv_iload_n hx hb dX4_set_17 rfl (lv_at hl 1 rfl) ?_
    refine lv_iconst (v := nI 0) hx hb dX4_set_18 (by decide) ?_
    refine fx_callV (As := [.int (nI k), .int (nI 0)]) (rest := []) ⟨hx, hb, hml, hown, hts⟩ (c_X0_isSort l D cI cJ cZ q xro xtk xli cn ci cs cso cki cfa cfb cfc cva csn csd csl csb csr csc won wle pte pho nwa nti k 0 (by first | assumption | omega) (by first | assumption | omega) (by omega) (by first | assumption | omega)) (cwV 2 hts gX4_set_X0_isSort rfl rfl rfl kv_X0_isSort ⟨Nat.le_of_ble_eq_true rfl, Nat.le_of_ble_eq_true rfl⟩) hK hP hD hS hA hZ 1 rfl rfl rfl rfl hl.1 rfl (lv_room (Nat.le_of_ble_eq_true rfl)) dX4_set_19 ⟨Nat.zero_le _, Nat.zero_le _⟩ (fun u_2 H locs hu_2 hP hD hS => ?_)
    refine lv_if_ne (tgt := 28) hx hb dX4_set_22 (by decide) (fun c_22 => ?_) (fun c_22 => ?_)
    · have f_22 : (decide (cso k = 0)) = true := bI_n0.mp c_22
      refine lv_iload_n hx hb dX4_set_28 rfl (lv_at hl 2 rfl) ?_
      refine fx_callS (As := [.int (nI v)]) (rest := []) ⟨hx, hb, hml, hown, hts⟩ (c_X4_isBit l D cI cJ cZ (wA q cI cJ xro xtk xli cn ci cs cso cki cfa cfb cfc cva csn csd csl csb csr csc won wle pte pho nwa nti) (nI v)) (va_cwS 1 hts gX4_set_X4_isBit rfl rfl rfl ks_X4_isBit ⟨Nat.le_of_ble_eq_true rfl, Nat.le_of_ble_eq_true rfl⟩) hK hP hD hS hA hZ rfl hl.1 rfl (lv_room (Nat.le_of_ble_eq_true rfl)) dX4_set_29 ⟨Nat.zero_le _, Nat.zero_le _⟩ (fun u_3 H locs hu_3 hP hD hS => ?_)
      refine lv_if_ne (tgt := 43) hx hb dX4_set_32 (by decide) (fun c_32 => ?_) (fun c_32 => ?_)
      · have f_32 : (bitB (nI v)) = true := bI_n0.mp c_32
        refine lv_aload_n hx hb dX4_set_43 rfl (lv_at hl 0 rfl) ?_
        refine va_get (D := D) (ci := 4) (v := .ref (q 1)) (C := RX4) (T := TX4) (N := 7) hx hb hts (fun w h => List.mem_cons_of_mem _ (List.mem_append_left _ (List.mem_append_right _ h))) hown hK hP 0 rfl rfl 0 (by decide) (hts (.fieldLink RX4 10 "FirstStates" "circuit" "LFirstStates$Circuit;") (List.mem_of_getElem? (i := 1) rfl)) (fun _ h9 => h9) rfl dX4_set_44 ?_
        refine va_get (D := D) (ci := 0) (v := .ref (q 7)) (C := RX0) (T := TX0) (N := 15) hx hb hts (fun w h => List.mem_cons_of_mem _ (List.mem_append_right _ h)) hown hK hP 1 rfl rfl 8 (by decide) (hts (.fieldLink RX4 109 "FirstStates$Circuit" "values" "[I") (List.mem_of_getElem? (i := 2) rfl)) (fun _ h9 => h9) rfl dX4_set_47 ?_
        refine lv_iload_n hx hb dX4_set_50 rfl (lv_at hl 1 rfl) ?_
        refine fx_iald (ar := nI) hx hb hK hP 7 (f := cva) (k := k) rfl (by omega) (by decide) dX4_set_51 ?_
        refine lv_istore_n (lv' := [(3, .int (nI (cva k))), (0, .ref (q 0)), (1, .int (nI k)), (2, .int (nI v))]) hx hb dX4_set_52 rfl hl (by decide) rfl (fun ls hl => ?_)
        refine lv_aload_n hx hb dX4_set_53 rfl (lv_at hl 1 rfl) ?_
        refine va_get (D := D) (ci := 4) (v := .ref (q 1)) (C := RX4) (T := TX4) (N := 7) hx hb hts (fun w h => List.mem_cons_of_mem _ (List.mem_append_left _ (List.mem_append_right _ h))) hown hK hP 0 rfl rfl 0 (by decide) (hts (.fieldLink RX4 10 "FirstStates" "circuit" "LFirstStates$Circuit;") (List.mem_of_getElem? (i := 1) rfl)) (fun _ h9 => h9) rfl dX4_set_54 ?_
        refine va_get (D := D) (ci := 0) (v := .ref (q 7)) (C := RX0) (T := TX0) (N := 15) hx hb hts (fun w h => List.mem_cons_of_mem _ (List.mem_append_right _ h)) hown hK hP 1 rfl rfl 8 (by decide) (hts (.fieldLink RX4 109 "FirstStates$Circuit" "values" "[I") (List.mem_of_getElem? (i := 2) rfl)) (fun _ h9 => h9) rfl dX4_set_57 ?_
        refine lv_iload_n hx hb dX4_set_60 rfl (lv_at hl 2 rfl) ?_
        refine lv_iload_n hx hb dX4_set_61 rfl (lv_at hl 3 rfl) ?_
        refine fx_iast (ar := nI) hx hb hK hP hD hS 7 (f := cva) (k := k) (v := v) rfl (by omega) (by decide) rfl dX4_set_62 (fun H locs hP hD hS => ?_)
        have hP : va_P D vwCl (wA q cI cJ xro xtk xli cn ci cs cso cki cfa cfb cfc (va_up cva k v) csn csd csl csb csr csc won wle pte pho nwa nti) H := hP
        have hD : va_D A (wA q cI cJ xro xtk xli cn ci cs cso cki cfa cfb cfc (va_up cva k v) csn csd csl csb csr csc won wle pte pho nwa nti) := fx_D hD rfl
        refine lv_iload_n hx hb dX4_set_63 rfl (lv_at hl 0 rfl) ?_
        exact hri () _ H locs 64 ls .int rfl rfl trivial rfl hP hD hS dX4_set_64
      have f_32 : (bitB (nI v)) = false := bI_0.mp c_32
      refine lv_iload_n hx hb dX4_set_35 rfl (lv_at hl 2 rfl) ?_
      refine lv_iconst (v := nI 2) hx hb dX4_set_36 (by decide) ?_
      refine lv_icmp_eq (tgt := 43) hx hb dX4_set_37 (by decide) (fun c_37 => ?_) (fun c_37 => ?_)
      · have f_37 : v = 2 := (nI_eq (a := v) (b := 2) (by first | omega | exact b_and1 _ | exact b_ct _ _ (by omega) | exact b_andr _ (by omega)) (by first | omega | exact b_and1 _ | exact b_ct _ _ (by omega) | exact b_andr _ (by omega))).mp c_37
        refine lv_aload_n hx hb dX4_set_43 rfl (lv_at hl 0 rfl) ?_
        refine va_get (D := D) (ci := 4) (v := .ref (q 1)) (C := RX4) (T := TX4) (N := 7) hx hb hts (fun w h => List.mem_cons_of_mem _ (List.mem_append_left _ (List.mem_append_right _ h))) hown hK hP 0 rfl rfl 0 (by decide) (hts (.fieldLink RX4 10 "FirstStates" "circuit" "LFirstStates$Circuit;") (List.mem_of_getElem? (i := 1) rfl)) (fun _ h9 => h9) rfl dX4_set_44 ?_
        refine va_get (D := D) (ci := 0) (v := .ref (q 7)) (C := RX0) (T := TX0) (N := 15) hx hb hts (fun w h => List.mem_cons_of_mem _ (List.mem_append_right _ h)) hown hK hP 1 rfl rfl 8 (by decide) (hts (.fieldLink RX4 109 "FirstStates$Circuit" "values" "[I") (List.mem_of_getElem? (i := 2) rfl)) (fun _ h9 => h9) rfl dX4_set_47 ?_
        refine lv_iload_n hx hb dX4_set_50 rfl (lv_at hl 1 rfl) ?_
        refine fx_iald (ar := nI) hx hb hK hP 7 (f := cva) (k := k) rfl (by omega) (by decide) dX4_set_51 ?_
        refine lv_istore_n (lv' := [(3, .int (nI (cva k))), (0, .ref (q 0)), (1, .int (nI k)), (2, .int (nI v))]) hx hb dX4_set_52 rfl hl (by decide) rfl (fun ls hl => ?_)
        refine lv_aload_n hx hb dX4_set_53 rfl (lv_at hl 1 rfl) ?_
        refine va_get (D := D) (ci := 4) (v := .ref (q 1)) (C := RX4) (T := TX4) (N := 7) hx hb hts (fun w h => List.mem_cons_of_mem _ (List.mem_append_left _ (List.mem_append_right _ h))) hown hK hP 0 rfl rfl 0 (by decide) (hts (.fieldLink RX4 10 "FirstStates" "circuit" "LFirstStates$Circuit;") (List.mem_of_getElem? (i := 1) rfl)) (fun _ h9 => h9) rfl dX4_set_54 ?_
        refine va_get (D := D) (ci := 0) (v := .ref (q 7)) (C := RX0) (T := TX0) (N := 15) hx hb hts (fun w h => List.mem_cons_of_mem _ (List.mem_append_right _ h)) hown hK hP 1 rfl rfl 8 (by decide) (hts (.fieldLink RX4 109 "FirstStates$Circuit" "values" "[I") (List.mem_of_getElem? (i := 2) rfl)) (fun _ h9 => h9) rfl dX4_set_57 ?_
        refine lv_iload_n hx hb dX4_set_60 rfl (lv_at hl 2 rfl) ?_
        refine lv_iload_n hx hb dX4_set_61 rfl (lv_at hl 3 rfl) ?_
        refine fx_iast (ar := nI) hx hb hK hP hD hS 7 (f := cva) (k := k) (v := v) rfl (by omega) (by decide) rfl dX4_set_62 (fun H locs hP hD hS => ?_)
        have hP : va_P D vwCl (wA q cI cJ xro xtk xli cn ci cs cso cki cfa cfb cfc (va_up cva k v) csn csd csl csb csr csc won wle pte pho nwa nti) H := hP
        have hD : va_D A (wA q cI cJ xro xtk xli cn ci cs cso cki cfa cfb cfc (va_up cva k v) csn csd csl csb csr csc won wle pte pho nwa nti) := fx_D hD rfl
        refine lv_iload_n hx hb dX4_set_63 rfl (lv_at hl 0 rfl) ?_
        exact hri () _ H locs 64 ls .int rfl rfl trivial rfl hP hD hS dX4_set_64
      have f_37 : ¬ v = 2 := fun h => c_37 ((nI_eq (a := v) (b := 2) (by first | omega | exact b_and1 _ | exact b_ct _ _ (by omega) | exact b_andr _ (by omega)) (by first | omega | exact b_and1 _ | exact b_ct _ _ (by omega) | exact b_andr _ (by omega))).mpr h)
      exfalso; rw [bitB_nI (by omega)] at f_32; cases f_32
    have f_22 : (decide (cso k = 0)) = false := bI_0.mp c_22
    exfalso; simp at f_22; omega
  have f_8 : (isN cn (nI k)) = false := bI_0.mp c_8
  exfalso; rw [isN_nI (by omega) (by omega)] at f_8; simp at f_8; omega
