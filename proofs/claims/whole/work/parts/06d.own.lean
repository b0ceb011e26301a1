/-! Contracts of FirstStates: what leans on what, lines let go. -/
set_option maxHeartbeats 4000000 in
set_option maxRecDepth 100000 in
theorem c_X4_depends_u (l : Launch) (D : va_G) (cI cJ cZ : ClassId) (q : Nat → Nat) (xro : Int64) (xtk : Nat) (xli : Nat) (cn : Nat) (ci : Nat) (cs : Nat) (cso : Nat → Nat) (cki : Nat → Nat) (cfa : Nat → Nat) (cfb : Nat → Nat) (cfc : Nat → Nat) (cva : Nat → Nat) (csn : Nat → Nat) (csd : Nat → Nat) (csl : Nat → Nat) (csb : Nat → Nat) (csr : Nat → Nat) (csc : Nat → Nat) (won : Nat → Int64) (wle : Nat → Int64) (pte : Nat → Nat) (pho : Nat → Nat) (nwa : Nat → Int32) (nti : Nat → Int32) (x : Int32) (y : Int32) (hcn : cn ≤ 32) (hu : (isN cn x && isN cn y) = false) : Ct l D cI cJ cZ yX4_depends wsX4_depends ({ frames := 1, cells := 0, slots := 0, locals := 21 } : Room) 0 0 [.ref (q 0), .int x, .int y] (wA q cI cJ xro xtk xli cn ci cs cso cki cfa cfb cfc cva csn csd csl csb csr csc won wle pte pho nwa nti) (S := Unit) (fun u => True) (fun u => some (.int (-1))) (fun u => (wA q cI cJ xro xtk xli cn ci cs cso cki cfa cfb cfc cva csn csd csl csb csr csc won wle pte pho nwa nti)) := by
  refine Ct.ofW (cc := cX4_depends) (maxL := 3) (ret := (some .int)) (R_C := RX4) (by decide +kernel) rfl rfl (Nat.le_of_ble_eq_true rfl) rfl ?_
  intro p e s m args below meth c A Q ls H locs hx hb hml hown hts hK hA hP hD hS hZ hl hri hrl hrv
  refine lv_aload_n hx hb dX4_depends_0 rfl (lv_at hl 0 rfl) ?_
  refine va_get (D := D) (ci := 4) (v := .ref (q 1)) (C := RX4) (T := TX4) (N := 7) hx hb hts (fun w h => List.mem_cons_of_mem _ (List.mem_append_left _ (List.mem_append_right _ h))) hown hK hP 0 rfl rfl 0 (by decide) (hts (.fieldLink RX4 10 "FirstStates" "circuit" "LFirstStates$Circuit;") (List.mem_of_getElem? (i := 1) rfl)) (fun _ h9 => h9) rfl dX4_depends_1 ?_
  refine lv_iload_n hx hb dX4_depends_4 rfl (lv_at hl 1 rfl) ?_
  refine fx_callV (As := [.int x]) (rest := []) ⟨hx, hb, hml, hown, hts⟩ (c_X0_isNode l D cI cJ cZ q xro xtk xli cn ci cs cso cki cfa cfb cfc cva csn csd csl csb csr csc won wle pte pho nwa nti x) (cwV 1 hts gX4_depends_X0_isNode rfl rfl rfl kv_X0_isNode ⟨Nat.le_of_ble_eq_true rfl, Nat.le_of_ble_eq_true rfl⟩) hK hP hD hS hA hZ 1 rfl rfl rfl rfl hl.1 rfl (lv_room (Nat.le_of_ble_eq_true rfl)) dX4_depends_5 ⟨Nat.zero_le _, Nat.zero_le _⟩ (fun u_1 H locs hu_1 hP hD hS => ?_)
  refine lv_if_eq (tgt := 22) hx hb dX4_depends_8 (by decide) (fun c_8 => ?_) (fun c_8 => ?_)
  · have f_8 : (isN cn x) = false := bI_0.mp c_8
    refine lv_iconst (v := (-1)) hx hb dX4_depends_22 (by decide) ?_
    exact hri () _ H locs 23 ls .int rfl rfl trivial rfl hP hD hS dX4_depends_23
  have f_8 : (isN cn x) = true := bI_n0.mp c_8
  refine lv_aload_n hx hb dX4_depends_11 rfl (lv_at hl 0 rfl) ?_
  refine va_get (D := D) (ci := 4) (v := .ref (q 1)) (C := RX4) (T := TX4) (N := 7) hx hb hts (fun w h => List.mem_cons_of_mem _ (List.mem_append_left _ (List.mem_append_right _ h))) hown hK hP 0 rfl rfl 0 (by decide) (hts (.fieldLink RX4 10 "FirstStates" "circuit" "LFirstStates$Circuit;") (List.mem_of_getElem? (i := 1) rfl)) (fun _ h9 => h9) rfl dX4_depends_12 ?_
  refine lv_iload_n hx hb dX4_depends_15 rfl (lv_at hl 2 rfl) ?_
  refine fx_callV (As := [.int y]) (rest := []) ⟨hx, hb, hml, hown, hts⟩ (c_X0_isNode l D cI cJ cZ q xro xtk xli cn ci cs cso cki cfa cfb cfc cva csn csd csl csb csr csc won wle pte pho nwa nti y) (cwV 1 hts gX4_depends_X0_isNode rfl rfl rfl kv_X0_isNode ⟨Nat.le_of_ble_eq_true rfl, Nat.le_of_ble_eq_true rfl⟩) hK hP hD hS hA hZ 1 rfl rfl rfl rfl hl.1 rfl (lv_room (Nat.le_of_ble_eq_true rfl)) dX4_depends_16 ⟨Nat.zero_le _, Nat.zero_le _⟩ (fun u_2 H locs hu_2 hP hD hS => ?_)
  refine lv_if_ne (tgt := 24) hx hb dX4_depends_19 (by decide) (fun c_19 => ?_) (fun c_19 => ?_)
  · have f_19 : (isN cn y) = true := bI_n0.mp c_19
    exfalso; simp [f_8, f_19] at hu
  have f_19 : (isN cn y) = false := bI_0.mp c_19
  refine lv_iconst (v := (-1)) hx hb dX4_depends_22 (by decide) ?_
  exact hri () _ H locs 23 ls .int rfl rfl trivial rfl hP hD hS dX4_depends_23
set_option maxHeartbeats 4000000 in
set_option maxRecDepth 100000 in
theorem c_X4_depends_s (l : Launch) (D : va_G) (cI cJ cZ : ClassId) (q : Nat → Nat) (xro : Int64) (xtk : Nat) (xli : Nat) (cn : Nat) (ci : Nat) (cs : Nat) (cso : Nat → Nat) (cki : Nat → Nat) (cfa : Nat → Nat) (cfb : Nat → Nat) (cfc : Nat → Nat) (cva : Nat → Nat) (csn : Nat → Nat) (csd : Nat → Nat) (csl : Nat → Nat) (csb : Nat → Nat) (csr : Nat → Nat) (csc : Nat → Nat) (won : Nat → Int64) (wle : Nat → Int64) (pte : Nat → Nat) (pho : Nat → Nat) (nwa : Nat → Int32) (nti : Nat → Int32) (k : Nat) (n : Nat) (hcn : cn ≤ 32) (hk : k < cn) (hn : n < cn) (hso1 : cso k ≤ 3) (hso2 : cso n ≤ 3) (h3 : ¬ (cso k = 3 ∧ cso n = 3)) : Ct l D cI cJ cZ yX4_depends wsX4_depends ({ frames := 2, cells := 0, slots := 0, locals := 43 } : Room) 0 0 [.ref (q 0), .int (nI k), .int (nI n)] (wA q cI cJ xro xtk xli cn ci cs cso cki cfa cfb cfc cva csn csd csl csb csr csc won wle pte pho nwa nti) (S := Unit) (fun u => True) (fun u => some (.int (-3))) (fun u => (wA q cI cJ xro xtk xli cn ci cs cso cki cfa cfb cfc cva csn csd csl csb csr csc won wle pte pho nwa nti)) := by
  refine Ct.ofW (cc := cX4_depends) (maxL := 3) (ret := (some .int)) (R_C := RX4) (by decide +kernel) rfl rfl (Nat.le_of_ble_eq_true rfl) rfl ?_
  intro p e s m args below meth c A Q ls H locs hx hb hml hown hts hK hA hP hD hS hZ hl hri hrl hrv
  refine lv_aload_n hx hb dX4_depends_0 rfl (lv_at hl 0 rfl) ?_
  refine va_get (D := D) (ci := 4) (v := .ref (q 1)) (C := RX4) (T := TX4) (N := 7) hx hb hts (fun w h => List.mem_cons_of_mem _ (List.mem_append_left _ (List.mem_append_right _ h))) hown hK hP 0 rfl rfl 0 (by decide) (hts (.fieldLink RX4 10 "FirstStates" "circuit" "LFirstStates$Circuit;") (List.mem_of_getElem? (i := 1) rfl)) (fun _ h9 => h9) rfl dX4_depends_1 ?_
  refine lv_iload_n hx hb dX4_depends_4 rfl (lv_at hl 1 rfl) ?_
  refine fx_callV (As := [.int (nI k)]) (rest := []) ⟨hx, hb, hml, hown, hts⟩ (c_X0_isNode l D cI cJ cZ q xro xtk xli cn ci cs cso cki cfa cfb cfc cva csn csd csl csb csr csc won wle pte pho nwa nti (nI k)) (cwV 1 hts gX4_depends_X0_isNode rfl rfl rfl kv_X0_isNode ⟨Nat.le_of_ble_eq_true rfl, Nat.le_of_ble_eq_true rfl⟩) hK hP hD hS hA hZ 1 rfl rfl rfl rfl hl.1 rfl (lv_room (Nat.le_of_ble_eq_true rfl)) dX4_depends_5 ⟨Nat.zero_le _, Nat.zero_le _⟩ (fun u_1 H locs hu_1 hP hD hS => ?_)
  refine lv_if_eq (tgt := 22) hx hb dX4_depends_8 (by decide) (fun c_8 => ?_) (fun c_8 => ?_)
  · have f_8 : (isN cn (nI k)) = false := bI_0.mp c_8
    exfalso; rw [isN_nI (by omega) (by omega)] at f_8; simp at f_8; omega
  have f_8 : (isN cn (nI k)) = true := bI_n0.mp c_8
  refine lv_aload_n hx hb dX4_depends_11 rfl (lv_at hl 0 rfl) ?_
  refine va_get (D := D) (ci := 4) (v := .ref (q 1)) (C := RX4) (T := TX4) (N := 7) hx hb hts (fun w h => List.mem_cons_of_mem _ (List.mem_append_left _ (List.mem_append_right _ h))) hown hK hP 0 rfl rfl 0 (by decide) (hts (.fieldLink RX4 10 "FirstStates" "circuit" "LFirstStates$Circuit;") (List.mem_of_getElem? (i := 1) rfl)) (fun _ h9 => h9) rfl dX4_depends_12 ?_
  refine lv_iload_n hx hb dX4_depends_15 rfl (lv_at hl 2 rfl) ?_
  refine fx_callV (As := [.int (nI n)]) (rest := []) ⟨hx, hb, hml, hown, hts⟩ (c_X0_isNode l D cI cJ cZ q xro xtk xli cn ci cs cso cki cfa cfb cfc cva csn csd csl csb csr csc won wle pte pho nwa nti (nI n)) (cwV 1 hts gX4_depends_X0_isNode rfl rfl rfl kv_X0_isNode ⟨Nat.le_of_ble_eq_true rfl, Nat.le_of_ble_eq_true rfl⟩) hK hP hD hS hA hZ 1 rfl rfl rfl rfl hl.1 rfl (lv_room (Nat.le_of_ble_eq_true rfl)) dX4_depends_16 ⟨Nat.zero_le _, Nat.zero_le _⟩ (fun u_2 H locs hu_2 hP hD hS => ?_)
  refine lv_if_ne (tgt := 24) hx hb dX4_depends_19 (by decide) (fun c_19 => ?_) (fun c_19 => ?_)
  · have f_19 : (isN cn (nI n)) = true := bI_n0.mp c_19
    refine lv_aload_n hx hb dX4_depends_24 rfl (lv_at hl 0 rfl) ?_
    refine va_get (D := D) (ci := 4) (v := .ref (q 1)) (C := RX4) (T := TX4) (N := 7) hx hb hts (fun w h => List.mem_cons_of_mem _ (List.mem_append_left _ (List.mem_append_right _ h))) hown hK hP 0 rfl rfl 0 (by decide) (hts (.fieldLink RX4 10 "FirstStates" "circuit" "LFirstStates$Circuit;") (List.mem_of_getElem? (i := 1) rfl)) (fun _ h9 => h9) rfl dX4_depends_25 ?_
    refine lv_iload_n hx hb dX4_depends_28 rfl (lv_at hl 1 rfl) ?_
    refine lv_iconst (v := nI 3) hx hb dX4_depends_29 (by decide) ?_
    refine fx_callV (As := [.int (nI k), .int (nI 3)]) (rest := []) ⟨hx, hb, hml, hown, hts⟩ (c_X0_isSort l D cI cJ cZ q xro xtk xli cn ci cs cso cki cfa cfb cfc cva csn csd csl csb csr csc won wle pte pho nwa nti k 3 (by first | assumption | omega) (by first | assumption | omega) (by first | assumption | omega) (by first | assumption | omega)) (cwV 2 hts gX4_depends_X0_isSort rfl rfl rfl kv_X0_isSort ⟨Nat.le_of_ble_eq_true rfl, Nat.le_of_ble_eq_true rfl⟩) hK hP hD hS hA hZ 1 rfl rfl rfl rfl hl.1 rfl (lv_room (Nat.le_of_ble_eq_true rfl)) dX4_depends_30 ⟨Nat.zero_le _, Nat.zero_le _⟩ (fun u_3 H locs hu_3 hP hD hS => ?_)
    refine lv_if_eq (tgt := 48) hx hb dX4_depends_33 (by decide) (fun c_33 => ?_) (fun c_33 => ?_)
    · have f_33 : (decide (cso k = 3)) = false := bI_0.mp c_33
      refine lv_bipush (v := (-3)) hx hb dX4_depends_48 (by decide) ?_
      exact hri () _ H locs 50 ls .int rfl rfl trivial rfl hP hD hS dX4_depends_50
    have f_33 : (decide (cso k = 3)) = true := bI_n0.mp c_33
    refine lv_aload_n hx hb dX4_depends_36 rfl (lv_at hl 0 rfl) ?_
    refine va_get (D := D) (ci := 4) (v := .ref (q 1)) (C := RX4) (T := TX4) (N := 7) hx hb hts (fun w h => List.mem_cons_of_mem _ (List.mem_append_left _ (List.mem_append_right _ h))) hown hK hP 0 rfl rfl 0 (by decide) (hts (.fieldLink RX4 10 "FirstStates" "circuit" "LFirstStates$Circuit;") (List.mem_of_getElem? (i := 1) rfl)) (fun _ h9 => h9) rfl dX4_depends_37 ?_
    refine lv_iload_n hx hb dX4_depends_40 rfl (lv_at hl 2 rfl) ?_
    refine lv_iconst (v := nI 3) hx hb dX4_depends_41 (by decide) ?_
    refine fx_callV (As := [.int (nI n), .int (nI 3)]) (rest := []) ⟨hx, hb, hml, hown, hts⟩ (c_X0_isSort l D cI cJ cZ q xro xtk xli cn ci cs cso cki cfa cfb cfc cva csn csd csl csb csr csc won wle pte pho nwa nti n 3 (by first | assumption | omega) (by first | assumption | omega) (by first | assumption | omega) (by first | assumption | omega)) (cwV 2 hts gX4_depends_X0_isSort rfl rfl rfl kv_X0_isSort ⟨Nat.le_of_ble_eq_true rfl, Nat.le_of_ble_eq_true rfl⟩) hK hP hD hS hA hZ 1 rfl rfl rfl rfl hl.1 rfl (lv_room (Nat.le_of_ble_eq_true rfl)) dX4_depends_42 ⟨Nat.zero_le _, Nat.zero_le _⟩ (fun u_4 H locs hu_4 hP hD hS => ?_)
    refine lv_if_ne (tgt := 51) hx hb dX4_depends_45 (by decide) (fun c_45 => ?_) (fun c_45 => ?_)
    · have f_45 : (decide (cso n = 3)) = true := bI_n0.mp c_45
      exfalso; simp at f_33 f_45; omega
    have f_45 : (decide (cso n = 3)) = false := bI_0.mp c_45
    refine lv_bipush (v := (-3)) hx hb dX4_depends_48 (by decide) ?_
    exact hri () _ H locs 50 ls .int rfl rfl trivial rfl hP hD hS dX4_depends_50
  have f_19 : (isN cn (nI n)) = false := bI_0.mp c_19
  exfalso; rw [isN_nI (by omega) (by omega)] at f_19; simp at f_19; omega
set_option maxHeartbeats 4000000 in
set_option maxRecDepth 100000 in
theorem c_X4_depends (l : Launch) (D : va_G) (cI cJ cZ : ClassId) (q : Nat → Nat) (xro : Int64) (xtk : Nat) (xli : Nat) (cn : Nat) (ci : Nat) (cs : Nat) (cso : Nat → Nat) (cki : Nat → Nat) (cfa : Nat → Nat) (cfb : Nat → Nat) (cfc : Nat → Nat) (cva : Nat → Nat) (csn : Nat → Nat) (csd : Nat → Nat) (csl : Nat → Nat) (csb : Nat → Nat) (csr : Nat → Nat) (csc : Nat → Nat) (won : Nat → Int64) (wle : Nat → Int64) (pte : Nat → Nat) (pho : Nat → Nat) (nwa : Nat → Int32) (nti : Nat → Int32) (k : Nat) (n : Nat) (hcn : cn ≤ 32) (hcs : cs ≤ 6) (hk : k < cn) (hn : n < cn) (h3 : cso k = 3) (h4 : cso n = 3) (hso : ∀ j, j < cn → cso j ≤ 3 ∧ cki j ≤ 4 ∧ cva j ≤ 2) (hg : ∀ j, j < cn → cso j = 2 → cfa j < j ∧ cfb j < j ∧ cfc j < j) (hs : ∀ j, j < cn → cso j = 3 → csn j < cs) (hsr : ∀ i, i < cs → csr i < cn) : Ct l D cI cJ cZ yX4_depends wsX4_depends ({ frames := 2, cells := 0, slots := 0, locals := 43 } : Room) 0 0 [.ref (q 0), .int (nI k), .int (nI n)] (wA q cI cJ xro xtk xli cn ci cs cso cki cfa cfb cfc cva csn csd csl csb csr csc won wle pte pho nwa nti) (S := Unit) (fun u => True) (fun u => some (.int (bI ((srcT cso cfa cfb cfc csn csc cn (csr (csn k))).testBit (csn n))))) (fun u => (wA q cI cJ xro xtk xli cn ci cs cso cki cfa cfb cfc cva csn csd csl csb csr (srcT cso cfa cfb cfc csn csc cn) won wle pte pho nwa nti)) := by
  refine Ct.ofW (cc := cX4_depends) (maxL := 3) (ret := (some .int)) (R_C := RX4) (by decide +kernel) rfl rfl (Nat.le_of_ble_eq_true rfl) rfl ?_
  intro p e s m args below meth c A Q ls H locs hx hb hml hown hts hK hA hP hD hS hZ hl hri hrl hrv
  refine lv_aload_n hx hb dX4_depends_0 rfl (lv_at hl 0 rfl) ?_
  refine va_get (D := D) (ci := 4) (v := .ref (q 1)) (C := RX4) (T := TX4) (N := 7) hx hb hts (fun w h => List.mem_cons_of_mem _ (List.mem_append_left _ (List.mem_append_right _ h))) hown hK hP 0 rfl rfl 0 (by decide) (hts (.fieldLink RX4 10 "FirstStates" "circuit" "LFirstStates$Circuit;") (List.mem_of_getElem? (i := 1) rfl)) (fun _ h9 => h9) rfl dX4_depends_1 ?_
  refine lv_iload_n hx hb dX4_depends_4 rfl (lv_at hl 1 rfl) ?_
  refine fx_callV (As := [.int (nI k)]) (rest := []) ⟨hx, hb, hml, hown, hts⟩ (c_X0_isNode l D cI cJ cZ q xro xtk xli cn ci cs cso cki cfa cfb cfc cva csn csd csl csb csr csc won wle pte pho nwa nti (nI k)) (cwV 1 hts gX4_depends_X0_isNode rfl rfl rfl kv_X0_isNode ⟨Nat.le_of_ble_eq_true rfl, Nat.le_of_ble_eq_true rfl⟩) hK hP hD hS hA hZ 1 rfl rfl rfl rfl hl.1 rfl (lv_room (Nat.le_of_ble_eq_true rfl)) dX4_depends_5 ⟨Nat.zero_le _, Nat.zero_le _⟩ (fun u_1 H locs hu_1 hP hD hS => ?_)
  refine lv_if_eq (tgt := 22) hx hb dX4_depends_8 (by decide) (fun c_8 => ?_) (fun c_8 => ?_)
  · have f_8 : (isN cn (nI k)) = false := bI_0.mp c_8
    exfalso; rw [isN_nI (by omega) (by omega)] at f_8; simp at f_8; omega
  have f_8 : (isN cn (nI k)) = true := bI_n0.mp c_8
  refine lv_aload_n hx hb dX4_depends_11 rfl (lv_at hl 0 rfl) ?_
  refine va_get (D := D) (ci := 4) (v := .ref (q 1)) (C := RX4) (T := TX4) (N := 7) hx hb hts (fun w h => List.mem_cons_of_mem _ (List.mem_append_left _ (List.mem_append_right _ h))) hown hK hP 0 rfl rfl 0 (by decide) (hts (.fieldLink RX4 10 "FirstStates" "circuit" "LFirstStates$Circuit;") (List.mem_of_getElem? (i := 1) rfl)) (fun _ h9 => h9) rfl dX4_depends_12 ?_
  refine lv_iload_n hx hb dX4_depends_15 rfl (lv_at hl 2 rfl) ?_
  refine fx_callV (As := [.int (nI n)]) (rest := []) ⟨hx, hb, hml, hown, hts⟩ (c_X0_isNode l D cI cJ cZ q xro xtk xli cn ci cs cso cki cfa cfb cfc cva csn csd csl csb csr csc won wle pte pho nwa nti (nI n)) (cwV 1 hts gX4_depends_X0_isNode rfl rfl rfl kv_X0_isNode ⟨Nat.le_of_ble_eq_true rfl, Nat.le_of_ble_eq_true rfl⟩) hK hP hD hS hA hZ 1 rfl rfl rfl rfl hl.1 rfl (lv_room (Nat.le_of_ble_eq_true rfl)) dX4_depends_16 ⟨Nat.zero_le _, Nat.zero_le _⟩ (fun u_2 H locs hu_2 hP hD hS => ?_)
  refine lv_if_ne (tgt := 24) hx hb dX4_depends_19 (by decide) (fun c_19 => ?_) (fun c_19 => ?_)
  · have f_19 : (isN cn (nI n)) = true := bI_n0.mp c_19
    refine lv_aload_n hx hb dX4_depends_24 rfl (lv_at hl 0 rfl) ?_
    refine va_get (D := D) (ci := 4) (v := .ref (q 1)) (C := RX4) (T := TX4) (N := 7) hx hb hts (fun w h => List.mem_cons_of_mem _ (List.mem_append_left _ (List.mem_append_right _ h))) hown hK hP 0 rfl rfl 0 (by decide) (hts (.fieldLink RX4 10 "FirstStates" "circuit" "LFirstStates$Circuit;") (List.mem_of_getElem? (i := 1) rfl)) (fun _ h9 => h9) rfl dX4_depends_25 ?_
    refine lv_iload_n hx hb dX4_depends_28 rfl (lv_at hl 1 rfl) ?_
    refine lv_iconst (v := nI 3) hx hb dX4_depends_29 (by decide) ?_
    refine fx_callV (As := [.int (nI k), .int (nI 3)]) (rest := []) ⟨hx, hb, hml, hown, hts⟩ (c_X0_isSort l D cI cJ cZ q xro xtk xli cn ci cs cso cki cfa cfb cfc cva csn csd csl csb csr csc won wle pte pho nwa nti k 3 (by first | assumption | omega) (by first | assumption | omega) (by omega) (by first | assumption | omega)) (cwV 2 hts gX4_depends_X0_isSort rfl rfl rfl kv_X0_isSort ⟨Nat.le_of_ble_eq_true rfl, Nat.le_of_ble_eq_true rfl⟩) hK hP hD hS hA hZ 1 rfl rfl rfl rfl hl.1 rfl (lv_room (Nat.le_of_ble_eq_true rfl)) dX4_depends_30 ⟨Nat.zero_le _, Nat.zero_le _⟩ (fun u_3 H locs hu_3 hP hD hS => ?_)
    refine lv_if_eq (tgt := 48) hx hb dX4_depends_33 (by decide) (fun c_33 => ?_) (fun c_33 => ?_)
    · have f_33 : (decide (cso k = 3)) = false := bI_0.mp c_33
      exfalso; simp at f_33; omega
    have f_33 : (decide (cso k = 3)) = true := bI_n0.mp c_33
    refine lv_aload_n hx hb dX4_depends_36 rfl (lv_at hl 0 rfl) ?_
    refine va_get (D := D) (ci := 4) (v := .ref (q 1)) (C := RX4) (T := TX4) (N := 7) hx hb hts (fun w h => List.mem_cons_of_mem _ (List.mem_append_left _ (List.mem_append_right _ h))) hown hK hP 0 rfl rfl 0 (by decide) (hts (.fieldLink RX4 10 "FirstStates" "circuit" "LFirstStates$Circuit;") (List.mem_of_getElem? (i := 1) rfl)) (fun _ h9 => h9) rfl dX4_depends_37 ?_
    refine lv_iload_n hx hb dX4_depends_40 rfl (lv_at hl 2 rfl) ?_
    refine lv_iconst (v := nI 3) hx hb dX4_depends_41 (by decide) ?_
    refine fx_callV (As := [.int (nI n), .int (nI 3)]) (rest := []) ⟨hx, hb, hml, hown, hts⟩ (c_X0_isSort l D cI cJ cZ q xro xtk xli cn ci cs cso cki cfa cfb cfc cva csn csd csl csb csr csc won wle pte pho nwa nti n 3 (by first | assumption | omega) (by first | assumption | omega) (by omega) (by first | assumption | omega)) (cwV 2 hts gX4_depends_X0_isSort rfl rfl rfl kv_X0_isSort ⟨Nat.le_of_ble_eq_true rfl, Nat.le_of_ble_eq_true rfl⟩) hK hP hD hS hA hZ 1 rfl rfl rfl rfl hl.1 rfl (lv_room (Nat.le_of_ble_eq_true rfl)) dX4_depends_42 ⟨Nat.zero_le _, Nat.zero_le _⟩ (fun u_4 H locs hu_4 hP hD hS => ?_)
    refine lv_if_ne (tgt := 51) hx hb dX4_depends_45 (by decide) (fun c_45 => ?_) (fun c_45 => ?_)
    · have f_45 : (decide (cso n = 3)) = true := bI_n0.mp c_45
      have hs1 := hs k hk h3
      have hs2 := hs n hn h4
      refine lv_aload_n hx hb dX4_depends_51 rfl (lv_at hl 0 rfl) ?_
      refine va_get (D := D) (ci := 4) (v := .ref (q 1)) (C := RX4) (T := TX4) (N := 7) hx hb hts (fun w h => List.mem_cons_of_mem _ (List.mem_append_left _ (List.mem_append_right _ h))) hown hK hP 0 rfl rfl 0 (by decide) (hts (.fieldLink RX4 10 "FirstStates" "circuit" "LFirstStates$Circuit;") (List.mem_of_getElem? (i := 1) rfl)) (fun _ h9 => h9) rfl dX4_depends_52 ?_
      refine fx_callV (As := []) (rest := []) ⟨hx, hb, hml, hown, hts⟩ (c_X0_traceSources l D cI cJ cZ q xro xtk xli cn ci cs cso cki cfa cfb cfc cva csn csd csl csb csr csc won wle pte pho nwa nti (by first | assumption | omega) (fun j hj => (hso j hj).1) (by first | assumption | omega) (fun j hj h => by have := hs j hj h; omega)) (cwV 0 hts gX4_depends_X0_traceSources rfl rfl rfl kv_X0_traceSources ⟨Nat.le_of_ble_eq_true rfl, Nat.le_of_ble_eq_true rfl⟩) hK hP hD hS hA hZ 1 rfl rfl rfl rfl hl.1 rfl (lv_room (Nat.le_of_ble_eq_true rfl)) dX4_depends_55 ⟨Nat.zero_le _, Nat.zero_le _⟩ (fun u_5 H locs hu_5 hP hD hS => ?_)
      have hP : va_P D vwCl (wA q cI cJ xro xtk xli cn ci cs cso cki cfa cfb cfc cva csn csd csl csb csr (srcT cso cfa cfb cfc csn csc cn) won wle pte pho nwa nti) H := hP
      have hD : va_D A (wA q cI cJ xro xtk xli cn ci cs cso cki cfa cfb cfc cva csn csd csl csb csr (srcT cso cfa cfb cfc csn csc cn) won wle pte pho nwa nti) := fx_D hD rfl
      refine lv_aload_n hx hb dX4_depends_58 rfl (lv_at hl 0 rfl) ?_
      refine va_get (D := D) (ci := 4) (v := .ref (q 1)) (C := RX4) (T := TX4) (N := 7) hx hb hts (fun w h => List.mem_cons_of_mem _ (List.mem_append_left _ (List.mem_append_right _ h))) hown hK hP 0 rfl rfl 0 (by decide) (hts (.fieldLink RX4 10 "FirstStates" "circuit" "LFirstStates$Circuit;") (List.mem_of_getElem? (i := 1) rfl)) (fun _ h9 => h9) rfl dX4_depends_59 ?_
      refine lv_aload_n hx hb dX4_depends_62 rfl (lv_at hl 0 rfl) ?_
      refine va_get (D := D) (ci := 4) (v := .ref (q 1)) (C := RX4) (T := TX4) (N := 7) hx hb hts (fun w h => List.mem_cons_of_mem _ (List.mem_append_left _ (List.mem_append_right _ h))) hown hK hP 0 rfl rfl 0 (by decide) (hts (.fieldLink RX4 10 "FirstStates" "circuit" "LFirstStates$Circuit;") (List.mem_of_getElem? (i := 1) rfl)) (fun _ h9 => h9) rfl dX4_depends_63 ?_
      refine va_get (D := D) (ci := 0) (v := .ref (q 8)) (C := RX0) (T := TX0) (N := 15) hx hb hts (fun w h => List.mem_cons_of_mem _ (List.mem_append_right _ h)) hown hK hP 1 rfl rfl 9 (by decide) (hts (.fieldLink RX4 93 "FirstStates$Circuit" "storeNumbers" "[I") (List.mem_of_getElem? (i := 2) rfl)) (fun _ h9 => h9) rfl dX4_depends_66 ?_
      refine lv_iload_n hx hb dX4_depends_69 rfl (lv_at hl 1 rfl) ?_
      refine fx_iald (ar := nI) hx hb hK hP 8 (f := csn) (k := k) rfl (by omega) (by decide) dX4_depends_70 ?_
      refine lv_aload_n hx hb dX4_depends_71 rfl (lv_at hl 0 rfl) ?_
      refine va_get (D := D) (ci := 4) (v := .ref (q 1)) (C := RX4) (T := TX4) (N := 7) hx hb hts (fun w h => List.mem_cons_of_mem _ (List.mem_append_left _ (List.mem_append_right _ h))) hown hK hP 0 rfl rfl 0 (by decide) (hts (.fieldLink RX4 10 "FirstStates" "circuit" "LFirstStates$Circuit;") (List.mem_of_getElem? (i := 1) rfl)) (fun _ h9 => h9) rfl dX4_depends_72 ?_
      refine va_get (D := D) (ci := 0) (v := .ref (q 8)) (C := RX0) (T := TX0) (N := 15) hx hb hts (fun w h => List.mem_cons_of_mem _ (List.mem_append_right _ h)) hown hK hP 1 rfl rfl 9 (by decide) (hts (.fieldLink RX4 93 "FirstStates$Circuit" "storeNumbers" "[I") (List.mem_of_getElem? (i := 2) rfl)) (fun _ h9 => h9) rfl dX4_depends_75 ?_
      refine lv_iload_n hx hb dX4_depends_78 rfl (lv_at hl 2 rfl) ?_
      refine fx_iald (ar := nI) hx hb hK hP 8 (f := csn) (k := n) rfl (by omega) (by decide) dX4_depends_79 ?_
      refine fx_callV (As := [.int (nI (csn k)), .int (nI (csn n))]) (rest := []) ⟨hx, hb, hml, hown, hts⟩ (c_X0_leans l D cI cJ cZ q xro xtk xli cn ci cs cso cki cfa cfb cfc cva csn csd csl csb csr (srcT cso cfa cfb cfc csn csc cn) won wle pte pho nwa nti (csn k) (csn n) (by first | assumption | omega) (by first | assumption | omega) (by first | assumption | omega) (hsr _ hs1) (srcT_lt hg (fun j hj h => by have := hs j hj h; omega) (Nat.le_refl _) _ (hsr _ hs1))) (cwV 2 hts gX4_depends_X0_leans rfl rfl rfl kv_X0_leans ⟨Nat.le_of_ble_eq_true rfl, Nat.le_of_ble_eq_true rfl⟩) hK hP hD hS hA hZ 1 rfl rfl rfl rfl hl.1 rfl (lv_room (Nat.le_of_ble_eq_true rfl)) dX4_depends_80 ⟨Nat.zero_le _, Nat.zero_le _⟩ (fun u_6 H locs hu_6 hP hD hS => ?_)
      refine lv_if_eq (tgt := 90) hx hb dX4_depends_83 (by decide) (fun c_83 => ?_) (fun c_83 => ?_)
      · have f_83 : (((srcT cso cfa cfb cfc csn csc cn) (csr (csn k))).testBit (csn n)) = false := bI_0.mp c_83
        refine lv_iconst (v := nI 0) hx hb dX4_depends_90 (by decide) ?_
        exact hri () _ H locs 91 ls .int rfl rfl trivial (by exact bI_s0 (by first | exact decide_eq_false (by omega) | simp [f_8, f_19, f_33, f_45, f_83])) hP hD hS dX4_depends_91
      have f_83 : (((srcT cso cfa cfb cfc csn csc cn) (csr (csn k))).testBit (csn n)) = true := bI_n0.mp c_83
      refine lv_iconst (v := nI 1) hx hb dX4_depends_86 (by decide) ?_
      refine lv_goto (tgt := 91) hx hb dX4_depends_87 (by decide) ?_
      exact hri () _ H locs 91 ls .int rfl rfl trivial (by exact bI_s1 (by first | exact decide_eq_true (by omega) | simp [f_8, f_19, f_33, f_45, f_83])) hP hD hS dX4_depends_91
    have f_45 : (decide (cso n = 3)) = false := bI_0.mp c_45
    exfalso; simp at f_45; omega
  have f_19 : (isN cn (nI n)) = false := bI_0.mp c_19
  exfalso; rw [isN_nI (by omega) (by omega)] at f_19; simp at f_19; omega
set_option maxHeartbeats 4000000 in
set_option maxRecDepth 100000 in
theorem c_X4_crossings (l : Launch) (D : va_G) (cI cJ cZ : ClassId) (q : Nat → Nat) (xro : Int64) (xtk : Nat) (xli : Nat) (cn : Nat) (ci : Nat) (cs : Nat) (cso : Nat → Nat) (cki : Nat → Nat) (cfa : Nat → Nat) (cfb : Nat → Nat) (cfc : Nat → Nat) (cva : Nat → Nat) (csn : Nat → Nat) (csd : Nat → Nat) (csl : Nat → Nat) (csb : Nat → Nat) (csr : Nat → Nat) (csc : Nat → Nat) (won : Nat → Int64) (wle : Nat → Int64) (pte : Nat → Nat) (pho : Nat → Nat) (nwa : Nat → Int32) (nti : Nat → Int32) (hcn : cn ≤ 32) (hcs : cs ≤ 6) (hso : ∀ j, j < cn → cso j ≤ 3 ∧ cki j ≤ 4 ∧ cva j ≤ 2) (hg : ∀ j, j < cn → cso j = 2 → cfa j < j ∧ cfb j < j ∧ cfc j < j) (hs : ∀ j, j < cn → cso j = 3 → csn j < cs) (hsr : ∀ i, i < cs → csr i < cn) (hsl : ∀ i, i < cs → csl i ≤ 4) : Ct l D cI cJ cZ yX4_crossings wsX4_crossings ({ frames := 2, cells := 0, slots := 0, locals := 44 } : Room) 0 0 [.ref (q 0)] (wA q cI cJ xro xtk xli cn ci cs cso cki cfa cfb cfc cva csn csd csl csb csr csc won wle pte pho nwa nti) (S := Unit) (fun u => True) (fun u => some (.int (nI (sm2 (crP csl csr (srcT cso cfa cfb cfc csn csc cn)) cs cs)))) (fun u => (wA q cI cJ xro xtk xli cn ci cs cso cki cfa cfb cfc cva csn csd csl csb csr (srcT cso cfa cfb cfc csn csc cn) won wle pte pho nwa nti)) := by
  refine Ct.ofW (cc := cX4_crossings) (maxL := 4) (ret := (some .int)) (R_C := RX4) (by decide +kernel) rfl rfl (Nat.le_of_ble_eq_true rfl) rfl ?_
  intro p e s m args below meth c A Q ls H locs hx hb hml hown hts hK hA hP hD hS hZ hl hri hrl hrv
  refine lv_aload_n hx hb dX4_crossings_0 rfl (lv_at hl 0 rfl) ?_
  refine va_get (D := D) (ci := 4) (v := .ref (q 1)) (C := RX4) (T := TX4) (N := 7) hx hb hts (fun w h => List.mem_cons_of_mem _ (List.mem_append_left _ (List.mem_append_right _ h))) hown hK hP 0 rfl rfl 0 (by decide) (hts (.fieldLink RX4 10 "FirstStates" "circuit" "LFirstStates$Circuit;") (List.mem_of_getElem? (i := 1) rfl)) (fun _ h9 => h9) rfl dX4_crossings_1 ?_
  refine fx_callV (As := []) (rest := []) ⟨hx, hb, hml, hown, hts⟩ (c_X0_traceSources l D cI cJ cZ q xro xtk xli cn ci cs cso cki cfa cfb cfc cva csn csd csl csb csr csc won wle pte pho nwa nti (by first | assumption | omega) (fun j hj => (hso j hj).1) (by first | assumption | omega) (fun j hj h => by have := hs j hj h; omega)) (cwV 0 hts gX4_crossings_X0_traceSources rfl rfl rfl kv_X0_traceSources ⟨Nat.le_of_ble_eq_true rfl, Nat.le_of_ble_eq_true rfl⟩) hK hP hD hS hA hZ 1 rfl rfl rfl rfl hl.1 rfl (lv_room (Nat.le_of_ble_eq_true rfl)) dX4_crossings_4 ⟨Nat.zero_le _, Nat.zero_le _⟩ (fun u_1 H locs hu_1 hP hD hS => ?_)
  have hP : va_P D vwCl (wA q cI cJ xro xtk xli cn ci cs cso cki cfa cfb cfc cva csn csd csl csb csr (srcT cso cfa cfb cfc csn csc cn) won wle pte pho nwa nti) H := hP
  have hD : va_D A (wA q cI cJ xro xtk xli cn ci cs cso cki cfa cfb cfc cva csn csd csl csb csr (srcT cso cfa cfb cfc csn csc cn) won wle pte pho nwa nti) := fx_D hD rfl
  refine lv_iconst (v := nI 0) hx hb dX4_crossings_7 (by decide) ?_
  refine lv_istore_n (lv' := [(1, .int (nI 0)), (0, .ref (q 0))]) hx hb dX4_crossings_8 rfl hl (by decide) rfl (fun ls hl => ?_)
  refine lv_iconst (v := nI 0) hx hb dX4_crossings_9 (by decide) ?_
  refine lv_istore_n (lv' := [(2, .int (nI 0)), (1, .int (nI 0)), (0, .ref (q 0))]) hx hb dX4_crossings_10 rfl hl (by decide) rfl (fun ls hl => ?_)
  have L_11 : ∀ (fuel : Nat) (a : Nat) (ha : a ≤ cs) (hfu : cs - a < fuel) (H : Heap) (locs : List Loc), va_P D vwCl (wA q cI cJ xro xtk xli cn ci cs cso cki cfa cfb cfc cva csn csd csl csb csr (srcT cso cfa cfb cfc csn csc cn) won wle pte pho nwa nti) H → va_D A (wA q cI cJ xro xtk xli cn ci cs cso cki cfa cfb cfc cva csn csd csl csb csr (srcT cso cfa cfb cfc csn csc cn) won wle pte pho nwa nti) → va_S A s.heap H locs → ∀ ls : Array Slot, lv_has ls 4 [(0, .ref (q 0)), (1, .int (nI (sm2 (crP csl csr (srcT cso cfa cfb cfc csn csc cn)) cs a))), (2, .int (nI a))] → W p l e ({ frames := 2, cells := 0, slots := 0, locals := 44 } : Room) s m args below meth c H locs 0 0 Q (F0 m 11 ls []) := by
    intro fuel
    induction fuel with
    | zero => intro a ha hfu; exact absurd hfu (Nat.not_lt_zero _)
    | succ fuel ih_11 =>
      intro a ha hfu H locs hP hD hS ls hl
      refine lv_iload_n hx hb dX4_crossings_11 rfl (lv_at hl 2 rfl) ?_
      refine lv_aload_n hx hb dX4_crossings_12 rfl (lv_at hl 0 rfl) ?_
      refine va_get (D := D) (ci := 4) (v := .ref (q 1)) (C := RX4) (T := TX4) (N := 7) hx hb hts (fun w h => List.mem_cons_of_mem _ (List.mem_append_left _ (List.mem_append_right _ h))) hown hK hP 0 rfl rfl 0 (by decide) (hts (.fieldLink RX4 10 "FirstStates" "circuit" "LFirstStates$Circuit;") (List.mem_of_getElem? (i := 1) rfl)) (fun _ h9 => h9) rfl dX4_crossings_13 ?_
      refine va_get (D := D) (ci := 0) (v := .int (nI cs)) (C := RX0) (T := TX0) (N := 15) hx hb hts (fun w h => List.mem_cons_of_mem _ (List.mem_append_right _ h)) hown hK hP 1 rfl rfl 2 (by decide) (hts (.fieldLink RX4 82 "FirstStates$Circuit" "stores" "I") (List.mem_of_getElem? (i := 2) rfl)) (fun _ h9 => h9) rfl dX4_crossings_16 ?_
      refine lv_icmp_ge (tgt := 62) hx hb dX4_crossings_19 (by decide) (fun c_19 => ?_) (fun c_19 => ?_)
      · have f_19 : cs ≤ a := (nI_leI (a := cs) (b := a) (by first | omega | exact b_and1 _ | exact b_ct _ _ (by omega) | exact b_andr _ (by omega)) (by first | omega | exact b_and1 _ | exact b_ct _ _ (by omega) | exact b_andr _ (by omega))).mp c_19
        refine lv_iload_n hx hb dX4_crossings_62 rfl (lv_at hl 1 rfl) ?_
        exact hri () _ H locs 63 ls .int rfl rfl trivial (by rw [show cs = a by omega]) hP hD hS dX4_crossings_63
      have f_19 : ¬ cs ≤ a := fun h => c_19 ((nI_leI (a := cs) (b := a) (by first | omega | exact b_and1 _ | exact b_ct _ _ (by omega) | exact b_andr _ (by omega)) (by first | omega | exact b_and1 _ | exact b_ct _ _ (by omega) | exact b_andr _ (by omega))).mpr h)
      refine lv_iconst (v := nI 0) hx hb dX4_crossings_22 (by decide) ?_
      refine lv_istore_n (lv' := [(3, .int (nI 0)), (0, .ref (q 0)), (1, .int (nI (sm2 (crP csl csr (srcT cso cfa cfb cfc csn csc cn)) cs a))), (2, .int (nI a))]) hx hb dX4_crossings_23 rfl hl (by decide) rfl (fun ls hl => ?_)
      have L_24 : ∀ (fuel : Nat) (b : Nat) (hb4 : b ≤ cs) (hfu : cs - b < fuel) (H : Heap) (locs : List Loc), va_P D vwCl (wA q cI cJ xro xtk xli cn ci cs cso cki cfa cfb cfc cva csn csd csl csb csr (srcT cso cfa cfb cfc csn csc cn) won wle pte pho nwa nti) H → va_D A (wA q cI cJ xro xtk xli cn ci cs cso cki cfa cfb cfc cva csn csd csl csb csr (srcT cso cfa cfb cfc csn csc cn) won wle pte pho nwa nti) → va_S A s.heap H locs → ∀ ls : Array Slot, lv_has ls 4 [(0, .ref (q 0)), (1, .int (nI (sm2 (crP csl csr (srcT cso cfa cfb cfc csn csc cn)) cs a + ct (crP csl csr (srcT cso cfa cfb cfc csn csc cn) a) b))), (2, .int (nI a)), (3, .int (nI b))] → W p l e ({ frames := 2, cells := 0, slots := 0, locals := 44 } : Room) s m args below meth c H locs 0 0 Q (F0 m 24 ls []) := by
        intro fuel
        induction fuel with
        | zero => intro b hb4 hfu; exact absurd hfu (Nat.not_lt_zero _)
        | succ fuel ih_24 =>
          intro b hb4 hfu H locs hP hD hS ls hl
          refine lv_iload_n hx hb dX4_crossings_24 rfl (lv_at hl 3 rfl) ?_
          refine lv_aload_n hx hb dX4_crossings_25 rfl (lv_at hl 0 rfl) ?_
          refine va_get (D := D) (ci := 4) (v := .ref (q 1)) (C := RX4) (T := TX4) (N := 7) hx hb hts (fun w h => List.mem_cons_of_mem _ (List.mem_append_left _ (List.mem_append_right _ h))) hown hK hP 0 rfl rfl 0 (by decide) (hts (.fieldLink RX4 10 "FirstStates" "circuit" "LFirstStates$Circuit;") (List.mem_of_getElem? (i := 1) rfl)) (fun _ h9 => h9) rfl dX4_crossings_26 ?_
          refine va_get (D := D) (ci := 0) (v := .int (nI cs)) (C := RX0) (T := TX0) (N := 15) hx hb hts (fun w h => List.mem_cons_of_mem _ (List.mem_append_right _ h)) hown hK hP 1 rfl rfl 2 (by decide) (hts (.fieldLink RX4 82 "FirstStates$Circuit" "stores" "I") (List.mem_of_getElem? (i := 2) rfl)) (fun _ h9 => h9) rfl dX4_crossings_29 ?_
          refine lv_icmp_ge (tgt := 56) hx hb dX4_crossings_32 (by decide) (fun c_32 => ?_) (fun c_32 => ?_)
          · have f_32 : cs ≤ b := (nI_leI (a := cs) (b := b) (by first | omega | exact b_and1 _ | exact b_ct _ _ (by omega) | exact b_andr _ (by omega)) (by first | omega | exact b_and1 _ | exact b_ct _ _ (by omega) | exact b_andr _ (by omega))).mp c_32
            have e_b : b = cs := by omega
            refine lv_iinc (v := nI (a + 1)) (lv' := [(2, .int (nI (a + 1))), (0, .ref (q 0)), (1, .int (nI (sm2 (crP csl csr (srcT cso cfa cfb cfc csn csc cn)) cs a + ct (crP csl csr (srcT cso cfa cfb cfc csn csc cn) a) b))), (3, .int (nI b))]) hx hb dX4_crossings_56 hl (k := 2) rfl (by exact nI_1 _) (by decide) rfl (fun ls hl => ?_)
            refine lv_goto (tgt := 11) hx hb dX4_crossings_59 (by decide) ?_
            have e_2 : nI (sm2 (crP csl csr (srcT cso cfa cfb cfc csn csc cn)) cs a + ct (crP csl csr (srcT cso cfa cfb cfc csn csc cn) a) b) = nI (sm2 (crP csl csr (srcT cso cfa cfb cfc csn csc cn)) cs (a + 1)) := by first | rfl | (rw [e_b]; rfl)
            exact ih_11 (a + 1) (by first | assumption | omega) (by omega) H locs hP hD hS ls (lv_sub (fx_hl (l' := [(2, .int (nI (a + 1))), (0, .ref (q 0)), (1, .int (nI (sm2 (crP csl csr (srcT cso cfa cfb cfc csn csc cn)) cs (a + 1)))), (3, .int (nI b))]) hl (congrArg (fun w9 : Int32 => ([(2, .int (nI (a + 1))), (0, .ref (q 0)), (1, .int w9), (3, .int (nI b))] : List (Nat × Value))) e_2)) [1, 2, 0] rfl)
          have f_32 : ¬ cs ≤ b := fun h => c_32 ((nI_leI (a := cs) (b := b) (by first | omega | exact b_and1 _ | exact b_ct _ _ (by omega) | exact b_andr _ (by omega)) (by first | omega | exact b_and1 _ | exact b_ct _ _ (by omega) | exact b_andr _ (by omega))).mpr h)
          refine lv_aload_n hx hb dX4_crossings_35 rfl (lv_at hl 0 rfl) ?_
          refine va_get (D := D) (ci := 4) (v := .ref (q 1)) (C := RX4) (T := TX4) (N := 7) hx hb hts (fun w h => List.mem_cons_of_mem _ (List.mem_append_left _ (List.mem_append_right _ h))) hown hK hP 0 rfl rfl 0 (by decide) (hts (.fieldLink RX4 10 "FirstStates" "circuit" "LFirstStates$Circuit;") (List.mem_of_getElem? (i := 1) rfl)) (fun _ h9 => h9) rfl dX4_crossings_36 ?_
          refine lv_iload_n hx hb dX4_crossings_39 rfl (lv_at hl 2 rfl) ?_
          refine lv_iload_n hx hb dX4_crossings_40 rfl (lv_at hl 3 rfl) ?_
          refine fx_callV (As := [.int (nI a), .int (nI b)]) (rest := []) ⟨hx, hb, hml, hown, hts⟩ (c_X0_crosses l D cI cJ cZ q xro xtk xli cn ci cs cso cki cfa cfb cfc cva csn csd csl csb csr (srcT cso cfa cfb cfc csn csc cn) won wle pte pho nwa nti a b (by first | assumption | omega) (by first | assumption | omega) (by first | assumption | omega) (hsl _ (by omega)) (hsl _ (by omega)) (hsr _ (by omega)) (srcT_lt hg (fun j hj h => by have := hs j hj h; omega) (Nat.le_refl _) _ (hsr _ (by omega)))) (cwV 2 hts gX4_crossings_X0_crosses rfl rfl rfl kv_X0_crosses ⟨Nat.le_of_ble_eq_true rfl, Nat.le_of_ble_eq_true rfl⟩) hK hP hD hS hA hZ 1 rfl rfl rfl rfl hl.1 rfl (lv_room (Nat.le_of_ble_eq_true rfl)) dX4_crossings_41 ⟨Nat.zero_le _, Nat.zero_le _⟩ (fun u_3 H locs hu_3 hP hD hS => ?_)
          refine lv_if_eq (tgt := 50) hx hb dX4_crossings_44 (by decide) (fun c_44 => ?_) (fun c_44 => ?_)
          · have f_44 : (!decide (csl a = csl b) && ((srcT cso cfa cfb cfc csn csc cn) (csr b)).testBit a) = false := bI_0.mp c_44
            refine lv_iinc (v := nI (b + 1)) (lv' := [(3, .int (nI (b + 1))), (0, .ref (q 0)), (1, .int (nI (sm2 (crP csl csr (srcT cso cfa cfb cfc csn csc cn)) cs a + ct (crP csl csr (srcT cso cfa cfb cfc csn csc cn) a) b))), (2, .int (nI a))]) hx hb dX4_crossings_50 hl (k := 3) rfl (by exact nI_1 _) (by decide) rfl (fun ls hl => ?_)
            refine lv_goto (tgt := 24) hx hb dX4_crossings_53 (by decide) ?_
            have e_4 : nI (sm2 (crP csl csr (srcT cso cfa cfb cfc csn csc cn)) cs a + ct (crP csl csr (srcT cso cfa cfb cfc csn csc cn) a) b) = nI (sm2 (crP csl csr (srcT cso cfa cfb cfc csn csc cn)) cs a + ct (crP csl csr (srcT cso cfa cfb cfc csn csc cn) a) (b + 1)) := by first | rfl | (simp [ct, crP, f_44, Nat.add_assoc])
            exact ih_24 (b + 1) (by first | assumption | omega) (by omega) H locs hP hD hS ls (lv_sub (fx_hl (l' := [(3, .int (nI (b + 1))), (0, .ref (q 0)), (1, .int (nI (sm2 (crP csl csr (srcT cso cfa cfb cfc csn csc cn)) cs a + ct (crP csl csr (srcT cso cfa cfb cfc csn csc cn) a) (b + 1)))), (2, .int (nI a))]) hl (congrArg (fun w9 : Int32 => ([(3, .int (nI (b + 1))), (0, .ref (q 0)), (1, .int w9), (2, .int (nI a))] : List (Nat × Value))) e_4)) [1, 2, 3, 0] rfl)
          have f_44 : (!decide (csl a = csl b) && ((srcT cso cfa cfb cfc csn csc cn) (csr b)).testBit a) = true := bI_n0.mp c_44
          refine lv_iinc (v := nI ((sm2 (crP csl csr (srcT cso cfa cfb cfc csn csc cn)) cs a + ct (crP csl csr (srcT cso cfa cfb cfc csn csc cn) a) b) + 1)) (lv' := [(1, .int (nI ((sm2 (crP csl csr (srcT cso cfa cfb cfc csn csc cn)) cs a + ct (crP csl csr (srcT cso cfa cfb cfc csn csc cn) a) b) + 1))), (0, .ref (q 0)), (2, .int (nI a)), (3, .int (nI b))]) hx hb dX4_crossings_47 hl (k := 1) rfl (by exact nI_1 _) (by decide) rfl (fun ls hl => ?_)
          refine lv_iinc (v := nI (b + 1)) (lv' := [(3, .int (nI (b + 1))), (1, .int (nI ((sm2 (crP csl csr (srcT cso cfa cfb cfc csn csc cn)) cs a + ct (crP csl csr (srcT cso cfa cfb cfc csn csc cn) a) b) + 1))), (0, .ref (q 0)), (2, .int (nI a))]) hx hb dX4_crossings_50 hl (k := 3) rfl (by exact nI_1 _) (by decide) rfl (fun ls hl => ?_)
          refine lv_goto (tgt := 24) hx hb dX4_crossings_53 (by decide) ?_
          have e_5 : nI ((sm2 (crP csl csr (srcT cso cfa cfb cfc csn csc cn)) cs a + ct (crP csl csr (srcT cso cfa cfb cfc csn csc cn) a) b) + 1) = nI (sm2 (crP csl csr (srcT cso cfa cfb cfc csn csc cn)) cs a + ct (crP csl csr (srcT cso cfa cfb cfc csn csc cn) a) (b + 1)) := by first | rfl | (simp [ct, crP, f_44, Nat.add_assoc])
          exact ih_24 (b + 1) (by first | assumption | omega) (by omega) H locs hP hD hS ls (lv_sub (fx_hl (l' := [(3, .int (nI (b + 1))), (1, .int (nI (sm2 (crP csl csr (srcT cso cfa cfb cfc csn csc cn)) cs a + ct (crP csl csr (srcT cso cfa cfb cfc csn csc cn) a) (b + 1)))), (0, .ref (q 0)), (2, .int (nI a))]) hl (congrArg (fun w9 : Int32 => ([(3, .int (nI (b + 1))), (1, .int w9), (0, .ref (q 0)), (2, .int (nI a))] : List (Nat × Value))) e_5)) [2, 1, 3, 0] rfl)
      exact L_24 (cs - 0 + 1) 0 (Nat.zero_le _) (Nat.lt_succ_self _) H locs hP hD hS ls (lv_sub hl [1, 2, 3, 0] rfl)
  exact L_11 (cs - 0 + 1) 0 (Nat.zero_le _) (Nat.lt_succ_self _) H locs hP hD hS ls (lv_sub hl [2, 1, 0] rfl)
set_option maxHeartbeats 4000000 in
set_option maxRecDepth 100000 in
theorem c_X4_crossing_n (l : Launch) (D : va_G) (cI cJ cZ : ClassId) (q : Nat → Nat) (xro : Int64) (xtk : Nat) (xli : Nat) (cn : Nat) (ci : Nat) (cs : Nat) (cso : Nat → Nat) (cki : Nat → Nat) (cfa : Nat → Nat) (cfb : Nat → Nat) (cfc : Nat → Nat) (cva : Nat → Nat) (csn : Nat → Nat) (csd : Nat → Nat) (csl : Nat → Nat) (csb : Nat → Nat) (csr : Nat → Nat) (csc : Nat → Nat) (won : Nat → Int64) (wle : Nat → Int64) (pte : Nat → Nat) (pho : Nat → Nat) (nwa : Nat → Int32) (nti : Nat → Int32) (x : Int32) (hx0 : x < 0) : Ct l D cI cJ cZ yX4_crossing wsX4_crossing ({ frames := 0, cells := 0, slots := 0, locals := 0 } : Room) 0 0 [.ref (q 0), .int x] (wA q cI cJ xro xtk xli cn ci cs cso cki cfa cfb cfc cva csn csd csl csb csr csc won wle pte pho nwa nti) (S := Unit) (fun u => True) (fun u => some (.int (-9))) (fun u => (wA q cI cJ xro xtk xli cn ci cs cso cki cfa cfb cfc cva csn csd csl csb csr csc won wle pte pho nwa nti)) := by
  refine Ct.ofW (cc := cX4_crossing) (maxL := 5) (ret := (some .int)) (R_C := RX4) (by decide +kernel) rfl rfl (Nat.le_of_ble_eq_true rfl) rfl ?_
  intro p e s m args below meth c A Q ls H locs hx hb hml hown hts hK hA hP hD hS hZ hl hri hrl hrv
  refine lv_iload_n hx hb dX4_crossing_0 rfl (lv_at hl 1 rfl) ?_
  refine lv_if_ge (tgt := 7) hx hb dX4_crossing_1 (by decide) (fun c_1 => ?_) (fun c_1 => ?_)
  · exfalso; exact absurd hx0 (Int32.not_lt.mpr c_1)
  refine lv_bipush (v := (-9)) hx hb dX4_crossing_4 (by decide) ?_
  exact hri () _ H locs 6 ls .int rfl rfl trivial rfl hP hD hS dX4_crossing_6
set_option maxHeartbeats 4000000 in
set_option maxRecDepth 100000 in
theorem c_X4_crossing (l : Launch) (D : va_G) (cI cJ cZ : ClassId) (q : Nat → Nat) (xro : Int64) (xtk : Nat) (xli : Nat) (cn : Nat) (ci : Nat) (cs : Nat) (cso : Nat → Nat) (cki : Nat → Nat) (cfa : Nat → Nat) (cfb : Nat → Nat) (cfc : Nat → Nat) (cva : Nat → Nat) (csn : Nat → Nat) (csd : Nat → Nat) (csl : Nat → Nat) (csb : Nat → Nat) (csr : Nat → Nat) (csc : Nat → Nat) (won : Nat → Int64) (wle : Nat → Int64) (pte : Nat → Nat) (pho : Nat → Nat) (nwa : Nat → Int32) (nti : Nat → Int32) (i : Nat) (hi : i < 2 ^ 31) (hcn : cn ≤ 32) (hcs : cs ≤ 6) (hso : ∀ j, j < cn → cso j ≤ 3 ∧ cki j ≤ 4 ∧ cva j ≤ 2) (hg : ∀ j, j < cn → cso j = 2 → cfa j < j ∧ cfb j < j ∧ cfc j < j) (hs : ∀ j, j < cn → cso j = 3 → csn j < cs) (hsr : ∀ i, i < cs → csr i < cn) (hsl : ∀ i, i < cs → csl i ≤ 4) : Ct l D cI cJ cZ yX4_crossing wsX4_crossing ({ frames := 2, cells := 0, slots := 0, locals := 44 } : Room) 0 0 [.ref (q 0), .int (nI i)] (wA q cI cJ xro xtk xli cn ci cs cso cki cfa cfb cfc cva csn csd csl csb csr csc won wle pte pho nwa nti) (S := Unit) (fun u => True) (fun u => some (.int (crO (crP csl csr (srcT cso cfa cfb cfc csn csc cn)) (fun ja jb => nI (100 * csd ja + csd jb)) cs cs 0 i))) (fun u => (wA q cI cJ xro xtk xli cn ci cs cso cki cfa cfb cfc cva csn csd csl csb csr (srcT cso cfa cfb cfc csn csc cn) won wle pte pho nwa nti)) := by
  refine Ct.ofW (cc := cX4_crossing) (maxL := 5) (ret := (some .int)) (R_C := RX4) (by decide +kernel) rfl rfl (Nat.le_of_ble_eq_true rfl) rfl ?_
  intro p e s m args below meth c A Q ls H locs hx hb hml hown hts hK hA hP hD hS hZ hl hri hrl hrv
  refine lv_iload_n hx hb dX4_crossing_0 rfl (lv_at hl 1 rfl) ?_
  refine lv_if_ge (tgt := 7) hx hb dX4_crossing_1 (by decide) (fun c_1 => ?_) (fun c_1 => ?_)
  · have f_1 : 0 ≤ i := (nI_leI (a := 0) (b := i) (by first | omega | exact b_and1 _ | exact b_ct _ _ (by omega) | exact b_andr _ (by omega)) (by first | omega | exact b_and1 _ | exact b_ct _ _ (by omega) | exact b_andr _ (by omega))).mp c_1
    refine lv_aload_n hx hb dX4_crossing_7 rfl (lv_at hl 0 rfl) ?_
    refine va_get (D := D) (ci := 4) (v := .ref (q 1)) (C := RX4) (T := TX4) (N := 7) hx hb hts (fun w h => List.mem_cons_of_mem _ (List.mem_append_left _ (List.mem_append_right _ h))) hown hK hP 0 rfl rfl 0 (by decide) (hts (.fieldLink RX4 10 "FirstStates" "circuit" "LFirstStates$Circuit;") (List.mem_of_getElem? (i := 1) rfl)) (fun _ h9 => h9) rfl dX4_crossing_8 ?_
    refine fx_callV (As := []) (rest := []) ⟨hx, hb, hml, hown, hts⟩ (c_X0_traceSources l D cI cJ cZ q xro xtk xli cn ci cs cso cki cfa cfb cfc cva csn csd csl csb csr csc won wle pte pho nwa nti (by first | assumption | omega) (fun j hj => (hso j hj).1) (by first | assumption | omega) (fun j hj h => by have := hs j hj h; omega)) (cwV 0 hts gX4_crossing_X0_traceSources rfl rfl rfl kv_X0_traceSources ⟨Nat.le_of_ble_eq_true rfl, Nat.le_of_ble_eq_true rfl⟩) hK hP hD hS hA hZ 1 rfl rfl rfl rfl hl.1 rfl (lv_room (Nat.le_of_ble_eq_true rfl)) dX4_crossing_11 ⟨Nat.zero_le _, Nat.zero_le _⟩ (fun u_1 H locs hu_1 hP hD hS => ?_)
    have hP : va_P D vwCl (wA q cI cJ xro xtk xli cn ci cs cso cki cfa cfb cfc cva csn csd csl csb csr (srcT cso cfa cfb cfc csn csc cn) won wle pte pho nwa nti) H := hP
    have hD : va_D A (wA q cI cJ xro xtk xli cn ci cs cso cki cfa cfb cfc cva csn csd csl csb csr (srcT cso cfa cfb cfc csn csc cn) won wle pte pho nwa nti) := fx_D hD rfl
    refine lv_iload_n hx hb dX4_crossing_14 rfl (lv_at hl 1 rfl) ?_
    refine lv_istore_n (lv' := [(2, .int (nI i)), (0, .ref (q 0)), (1, .int (nI i))]) hx hb dX4_crossing_15 rfl hl (by decide) rfl (fun ls hl => ?_)
    refine lv_iconst (v := nI 0) hx hb dX4_crossing_16 (by decide) ?_
    refine lv_istore_n (lv' := [(3, .int (nI 0)), (2, .int (nI i)), (0, .ref (q 0)), (1, .int (nI i))]) hx hb dX4_crossing_17 rfl hl (by decide) rfl (fun ls hl => ?_)
    have L_18 : ∀ (fuel : Nat) (n : Nat) (a : Nat) (k : Nat) (hn : a + n = cs) (hk : k < 2 ^ 31) (hr1 : crO (crP csl csr (srcT cso cfa cfb cfc csn csc cn)) (fun ja jb => nI (100 * csd ja + csd jb)) cs n a k = crO (crP csl csr (srcT cso cfa cfb cfc csn csc cn)) (fun ja jb => nI (100 * csd ja + csd jb)) cs cs 0 i) (hfu : n < fuel) (H : Heap) (locs : List Loc), va_P D vwCl (wA q cI cJ xro xtk xli cn ci cs cso cki cfa cfb cfc cva csn csd csl csb csr (srcT cso cfa cfb cfc csn csc cn) won wle pte pho nwa nti) H → va_D A (wA q cI cJ xro xtk xli cn ci cs cso cki cfa cfb cfc cva csn csd csl csb csr (srcT cso cfa cfb cfc csn csc cn) won wle pte pho nwa nti) → va_S A s.heap H locs → ∀ ls : Array Slot, lv_has ls 5 [(0, .ref (q 0)), (1, .int (nI i)), (2, .int (nI k)), (3, .int (nI a))] → W p l e ({ frames := 2, cells := 0, slots := 0, locals := 44 } : Room) s m args below meth c H locs 0 0 Q (F0 m 18 ls []) := by
      intro fuel
      induction fuel with
      | zero => intro n a k hn hk hr1 hfu; exact absurd hfu (Nat.not_lt_zero _)
      | succ fuel ih_18 =>
        intro n a k hn hk hr1 hfu H locs hP hD hS ls hl
        refine lv_iload_n hx hb dX4_crossing_18 rfl (lv_at hl 3 rfl) ?_
        refine lv_aload_n hx hb dX4_crossing_19 rfl (lv_at hl 0 rfl) ?_
        refine va_get (D := D) (ci := 4) (v := .ref (q 1)) (C := RX4) (T := TX4) (N := 7) hx hb hts (fun w h => List.mem_cons_of_mem _ (List.mem_append_left _ (List.mem_append_right _ h))) hown hK hP 0 rfl rfl 0 (by decide) (hts (.fieldLink RX4 10 "FirstStates" "circuit" "LFirstStates$Circuit;") (List.mem_of_getElem? (i := 1) rfl)) (fun _ h9 => h9) rfl dX4_crossing_20 ?_
        refine va_get (D := D) (ci := 0) (v := .int (nI cs)) (C := RX0) (T := TX0) (N := 15) hx hb hts (fun w h => List.mem_cons_of_mem _ (List.mem_append_right _ h)) hown hK hP 1 rfl rfl 2 (by decide) (hts (.fieldLink RX4 82 "FirstStates$Circuit" "stores" "I") (List.mem_of_getElem? (i := 2) rfl)) (fun _ h9 => h9) rfl dX4_crossing_23 ?_
        refine lv_icmp_ge (tgt := 100) hx hb dX4_crossing_26 (by decide) (fun c_26 => ?_) (fun c_26 => ?_)
        · have f_26 : cs ≤ a := (nI_leI (a := cs) (b := a) (by first | omega | exact b_and1 _ | exact b_ct _ _ (by omega) | exact b_andr _ (by omega)) (by first | omega | exact b_and1 _ | exact b_ct _ _ (by omega) | exact b_andr _ (by omega))).mp c_26
          refine lv_bipush (v := (-9)) hx hb dX4_crossing_100 (by decide) ?_
          exact hri () _ H locs 102 ls .int rfl rfl trivial (by rw [← hr1, show n = 0 by omega]; rfl) hP hD hS dX4_crossing_102
        have f_26 : ¬ cs ≤ a := fun h => c_26 ((nI_leI (a := cs) (b := a) (by first | omega | exact b_and1 _ | exact b_ct _ _ (by omega) | exact b_andr _ (by omega)) (by first | omega | exact b_and1 _ | exact b_ct _ _ (by omega) | exact b_andr _ (by omega))).mpr h)
        obtain ⟨n1, rfl⟩ : ∃ n1, n = n1 + 1 := ⟨n - 1, by omega⟩
        refine lv_iconst (v := nI 0) hx hb dX4_crossing_29 (by decide) ?_
        refine lv_istore (lv' := [(4, .int (nI 0)), (0, .ref (q 0)), (1, .int (nI i)), (2, .int (nI k)), (3, .int (nI a))]) hx hb dX4_crossing_30 hl (by decide) rfl (fun ls hl => ?_)
        have L_32 : ∀ (fuel : Nat) (m2 : Nat) (b : Nat) (k2 : Nat) (hm2 : b + m2 = cs) (hk2 : k2 < 2 ^ 31) (hin2 : crI (crP csl csr (srcT cso cfa cfb cfc csn csc cn) a) ((fun ja jb => nI (100 * csd ja + csd jb)) a) m2 b k2 = crI (crP csl csr (srcT cso cfa cfb cfc csn csc cn) a) ((fun ja jb => nI (100 * csd ja + csd jb)) a) cs 0 k) (hfu : m2 < fuel) (H : Heap) (locs : List Loc), va_P D vwCl (wA q cI cJ xro xtk xli cn ci cs cso cki cfa cfb cfc cva csn csd csl csb csr (srcT cso cfa cfb cfc csn csc cn) won wle pte pho nwa nti) H → va_D A (wA q cI cJ xro xtk xli cn ci cs cso cki cfa cfb cfc cva csn csd csl csb csr (srcT cso cfa cfb cfc csn csc cn) won wle pte pho nwa nti) → va_S A s.heap H locs → ∀ ls : Array Slot, lv_has ls 5 [(0, .ref (q 0)), (1, .int (nI i)), (2, .int (nI k2)), (3, .int (nI a)), (4, .int (nI b))] → W p l e ({ frames := 2, cells := 0, slots := 0, locals := 44 } : Room) s m args below meth c H locs 0 0 Q (F0 m 32 ls []) := by
          intro fuel
          induction fuel with
          | zero => intro m2 b k2 hm2 hk2 hin2 hfu; exact absurd hfu (Nat.not_lt_zero _)
          | succ fuel ih_32 =>
            intro m2 b k2 hm2 hk2 hin2 hfu H locs hP hD hS ls hl
            refine lv_iload hx hb dX4_crossing_32 (lv_at hl 4 rfl) ?_
            refine lv_aload_n hx hb dX4_crossing_34 rfl (lv_at hl 0 rfl) ?_
            refine va_get (D := D) (ci := 4) (v := .ref (q 1)) (C := RX4) (T := TX4) (N := 7) hx hb hts (fun w h => List.mem_cons_of_mem _ (List.mem_append_left _ (List.mem_append_right _ h))) hown hK hP 0 rfl rfl 0 (by decide) (hts (.fieldLink RX4 10 "FirstStates" "circuit" "LFirstStates$Circuit;") (List.mem_of_getElem? (i := 1) rfl)) (fun _ h9 => h9) rfl dX4_crossing_35 ?_
            refine va_get (D := D) (ci := 0) (v := .int (nI cs)) (C := RX0) (T := TX0) (N := 15) hx hb hts (fun w h => List.mem_cons_of_mem _ (List.mem_append_right _ h)) hown hK hP 1 rfl rfl 2 (by decide) (hts (.fieldLink RX4 82 "FirstStates$Circuit" "stores" "I") (List.mem_of_getElem? (i := 2) rfl)) (fun _ h9 => h9) rfl dX4_crossing_38 ?_
            refine lv_icmp_ge (tgt := 94) hx hb dX4_crossing_41 (by decide) (fun c_41 => ?_) (fun c_41 => ?_)
            · have f_41 : cs ≤ b := (nI_leI (a := cs) (b := b) (by first | omega | exact b_and1 _ | exact b_ct _ _ (by omega) | exact b_andr _ (by omega)) (by first | omega | exact b_and1 _ | exact b_ct _ _ (by omega) | exact b_andr _ (by omega))).mp c_41
              refine lv_iinc (v := nI (a + 1)) (lv' := [(3, .int (nI (a + 1))), (0, .ref (q 0)), (1, .int (nI i)), (2, .int (nI k2)), (4, .int (nI b))]) hx hb dX4_crossing_94 hl (k := 3) rfl (by exact nI_1 _) (by decide) rfl (fun ls hl => ?_)
              refine lv_goto (tgt := 18) hx hb dX4_crossing_97 (by decide) ?_
              exact ih_18 n1 (a + 1) k2 (by first | assumption | omega) (by first | assumption | omega) (by rw [← hr1]; show _ = (match crI _ _ cs 0 k with | .inl r => r | .inr zq => _); rw [← hin2, show m2 = 0 by omega]; rfl) (by omega) H locs hP hD hS ls (lv_sub hl [1, 2, 3, 0] rfl)
            have f_41 : ¬ cs ≤ b := fun h => c_41 ((nI_leI (a := cs) (b := b) (by first | omega | exact b_and1 _ | exact b_ct _ _ (by omega) | exact b_andr _ (by omega)) (by first | omega | exact b_and1 _ | exact b_ct _ _ (by omega) | exact b_andr _ (by omega))).mpr h)
            obtain ⟨m3, rfl⟩ : ∃ m3, m2 = m3 + 1 := ⟨m2 - 1, by omega⟩
            refine lv_aload_n hx hb dX4_crossing_44 rfl (lv_at hl 0 rfl) ?_
            refine va_get (D := D) (ci := 4) (v := .ref (q 1)) (C := RX4) (T := TX4) (N := 7) hx hb hts (fun w h => List.mem_cons_of_mem _ (List.mem_append_left _ (List.mem_append_right _ h))) hown hK hP 0 rfl rfl 0 (by decide) (hts (.fieldLink RX4 10 "FirstStates" "circuit" "LFirstStates$Circuit;") (List.mem_of_getElem? (i := 1) rfl)) (fun _ h9 => h9) rfl dX4_crossing_45 ?_
            refine lv_iload_n hx hb dX4_crossing_48 rfl (lv_at hl 3 rfl) ?_
            refine lv_iload hx hb dX4_crossing_49 (lv_at hl 4 rfl) ?_
            refine fx_callV (As := [.int (nI a), .int (nI b)]) (rest := []) ⟨hx, hb, hml, hown, hts⟩ (c_X0_crosses l D cI cJ cZ q xro xtk xli cn ci cs cso cki cfa cfb cfc cva csn csd csl csb csr (srcT cso cfa cfb cfc csn csc cn) won wle pte pho nwa nti a b (by first | assumption | omega) (by first | assumption | omega) (by first | assumption | omega) (hsl _ (by omega)) (hsl _ (by omega)) (hsr _ (by omega)) (srcT_lt hg (fun j hj h => by have := hs j hj h; omega) (Nat.le_refl _) _ (hsr _ (by omega)))) (cwV 2 hts gX4_crossing_X0_crosses rfl rfl rfl kv_X0_crosses ⟨Nat.le_of_ble_eq_true rfl, Nat.le_of_ble_eq_true rfl⟩) hK hP hD hS hA hZ 1 rfl rfl rfl rfl hl.1 rfl (lv_room (Nat.le_of_ble_eq_true rfl)) dX4_crossing_51 ⟨Nat.zero_le _, Nat.zero_le _⟩ (fun u_2 H locs hu_2 hP hD hS => ?_)
            refine lv_if_eq (tgt := 88) hx hb dX4_crossing_54 (by decide) (fun c_54 => ?_) (fun c_54 => ?_)
            · have f_54 : (!decide (csl a = csl b) && ((srcT cso cfa cfb cfc csn csc cn) (csr b)).testBit a) = false := bI_0.mp c_54
              refine lv_iinc (v := nI (b + 1)) (lv' := [(4, .int (nI (b + 1))), (0, .ref (q 0)), (1, .int (nI i)), (2, .int (nI k2)), (3, .int (nI a))]) hx hb dX4_crossing_88 hl (k := 4) rfl (by exact nI_1 _) (by decide) rfl (fun ls hl => ?_)
              refine lv_goto (tgt := 32) hx hb dX4_crossing_91 (by decide) ?_
              exact ih_32 m3 (b + 1) k2 (by first | assumption | omega) (by first | assumption | omega) (by rw [← hin2]; simp [crI, crP, f_54]) (by omega) H locs hP hD hS ls (lv_sub hl [1, 2, 3, 4, 0] rfl)
            have f_54 : (!decide (csl a = csl b) && ((srcT cso cfa cfb cfc csn csc cn) (csr b)).testBit a) = true := bI_n0.mp c_54
            refine lv_iload_n hx hb dX4_crossing_57 rfl (lv_at hl 2 rfl) ?_
            refine lv_if_ne (tgt := 85) hx hb dX4_crossing_58 (by decide) (fun c_58 => ?_) (fun c_58 => ?_)
            · have f_58 : ¬ k2 = 0 := fun h => c_58 ((nI_eq (a := k2) (b := 0) (by first | omega | exact b_and1 _ | exact b_ct _ _ (by omega) | exact b_andr _ (by omega)) (by first | omega | exact b_and1 _ | exact b_ct _ _ (by omega) | exact b_andr _ (by omega))).mpr h)
              refine lv_iinc (v := nI (k2 - 1)) (lv' := [(2, .int (nI (k2 - 1))), (0, .ref (q 0)), (1, .int (nI i)), (3, .int (nI a)), (4, .int (nI b))]) hx hb dX4_crossing_85 hl (k := 2) rfl (by have q := pk_m1 (k2 - 1); rw [show k2 - 1 + 1 = k2 by omega] at q; exact q) (by decide) rfl (fun ls hl => ?_)
              refine lv_iinc (v := nI (b + 1)) (lv' := [(4, .int (nI (b + 1))), (2, .int (nI (k2 - 1))), (0, .ref (q 0)), (1, .int (nI i)), (3, .int (nI a))]) hx hb dX4_crossing_88 hl (k := 4) rfl (by exact nI_1 _) (by decide) rfl (fun ls hl => ?_)
              refine lv_goto (tgt := 32) hx hb dX4_crossing_91 (by decide) ?_
              exact ih_32 m3 (b + 1) (k2 - 1) (by first | assumption | omega) (by first | assumption | omega) (by rw [← hin2]; simp [crI, crP, f_54, f_58]) (by omega) H locs hP hD hS ls (lv_sub hl [2, 3, 1, 4, 0] rfl)
            have f_58 : k2 = 0 := (nI_eq (a := k2) (b := 0) (by first | omega | exact b_and1 _ | exact b_ct _ _ (by omega) | exact b_andr _ (by omega)) (by first | omega | exact b_and1 _ | exact b_ct _ _ (by omega) | exact b_andr _ (by omega))).mp c_58
            refine lv_bipush (v := nI 100) hx hb dX4_crossing_61 (by decide) ?_
            refine lv_aload_n hx hb dX4_crossing_63 rfl (lv_at hl 0 rfl) ?_
            refine va_get (D := D) (ci := 4) (v := .ref (q 1)) (C := RX4) (T := TX4) (N := 7) hx hb hts (fun w h => List.mem_cons_of_mem _ (List.mem_append_left _ (List.mem_append_right _ h))) hown hK hP 0 rfl rfl 0 (by decide) (hts (.fieldLink RX4 10 "FirstStates" "circuit" "LFirstStates$Circuit;") (List.mem_of_getElem? (i := 1) rfl)) (fun _ h9 => h9) rfl dX4_crossing_64 ?_
            refine va_get (D := D) (ci := 0) (v := .ref (q 9)) (C := RX0) (T := TX0) (N := 15) hx hb hts (fun w h => List.mem_cons_of_mem _ (List.mem_append_right _ h)) hown hK hP 1 rfl rfl 10 (by decide) (hts (.fieldLink RX4 178 "FirstStates$Circuit" "storeNodes" "[I") (List.mem_of_getElem? (i := 3) rfl)) (fun _ h9 => h9) rfl dX4_crossing_67 ?_
            refine lv_iload_n hx hb dX4_crossing_70 rfl (lv_at hl 3 rfl) ?_
            refine fx_iald (ar := nI) hx hb hK hP 9 (f := csd) (k := a) rfl (by omega) (by decide) dX4_crossing_71 ?_
            refine lv_imul hx hb dX4_crossing_72 ?_
            refine fx_eqi (pk_mul _ _) ?_
            refine lv_aload_n hx hb dX4_crossing_73 rfl (lv_at hl 0 rfl) ?_
            refine va_get (D := D) (ci := 4) (v := .ref (q 1)) (C := RX4) (T := TX4) (N := 7) hx hb hts (fun w h => List.mem_cons_of_mem _ (List.mem_append_left _ (List.mem_append_right _ h))) hown hK hP 0 rfl rfl 0 (by decide) (hts (.fieldLink RX4 10 "FirstStates" "circuit" "LFirstStates$Circuit;") (List.mem_of_getElem? (i := 1) rfl)) (fun _ h9 => h9) rfl dX4_crossing_74 ?_
            refine va_get (D := D) (ci := 0) (v := .ref (q 9)) (C := RX0) (T := TX0) (N := 15) hx hb hts (fun w h => List.mem_cons_of_mem _ (List.mem_append_right _ h)) hown hK hP 1 rfl rfl 10 (by decide) (hts (.fieldLink RX4 178 "FirstStates$Circuit" "storeNodes" "[I") (List.mem_of_getElem? (i := 3) rfl)) (fun _ h9 => h9) rfl dX4_crossing_77 ?_
            refine lv_iload hx hb dX4_crossing_80 (lv_at hl 4 rfl) ?_
            refine fx_iald (ar := nI) hx hb hK hP 9 (f := csd) (k := b) rfl (by omega) (by decide) dX4_crossing_82 ?_
            refine lv_iadd hx hb dX4_crossing_83 ?_
            refine fx_eqi (nI_add _ _) ?_
            exact hri () _ H locs 84 ls .int rfl rfl trivial (by rw [← hr1]; show some (Value.int (match crI _ _ cs 0 k with | .inl r => r | .inr zq => _)) = _; rw [← hin2]; simp [crI, crP, f_54, f_58]) hP hD hS dX4_crossing_84
        exact L_32 (cs + 1) cs 0 k (by omega) (by first | assumption | omega) rfl (Nat.lt_succ_self _) H locs hP hD hS ls (lv_sub hl [1, 2, 3, 4, 0] rfl)
    exact L_18 (cs + 1) cs 0 i (by omega) (by first | assumption | omega) rfl (Nat.lt_succ_self _) H locs hP hD hS ls (lv_sub hl [2, 3, 1, 0] rfl)
  have f_1 : ¬ 0 ≤ i := fun h => c_1 ((nI_leI (a := 0) (b := i) (by first | omega | exact b_and1 _ | exact b_ct _ _ (by omega) | exact b_andr _ (by omega)) (by first | omega | exact b_and1 _ | exact b_ct _ _ (by omega) | exact b_andr _ (by omega))).mpr h)
  exfalso; exact c_1 (nI_pos' hi)
set_option maxHeartbeats 4000000 in
set_option maxRecDepth 100000 in
theorem c_X4_alone_u (l : Launch) (D : va_G) (cI cJ cZ : ClassId) (q : Nat → Nat) (xro : Int64) (xtk : Nat) (xli : Nat) (cn : Nat) (ci : Nat) (cs : Nat) (cso : Nat → Nat) (cki : Nat → Nat) (cfa : Nat → Nat) (cfb : Nat → Nat) (cfc : Nat → Nat) (cva : Nat → Nat) (csn : Nat → Nat) (csd : Nat → Nat) (csl : Nat → Nat) (csb : Nat → Nat) (csr : Nat → Nat) (csc : Nat → Nat) (won : Nat → Int64) (wle : Nat → Int64) (pte : Nat → Nat) (pho : Nat → Nat) (nwa : Nat → Int32) (nti : Nat → Int32) (x : Int32) (hl4 : isN 4 x = false) : Ct l D cI cJ cZ yX4_alone wsX4_alone ({ frames := 1, cells := 0, slots := 0, locals := 20 } : Room) 0 0 [.ref (q 0), .int x] (wA q cI cJ xro xtk xli cn ci cs cso cki cfa cfb cfc cva csn csd csl csb csr csc won wle pte pho nwa nti) (S := Unit) (fun u => True) (fun u => some (.int (-1))) (fun u => (wA q cI cJ xro xtk xli cn ci cs cso cki cfa cfb cfc cva csn csd csl csb csr csc won wle pte pho nwa nti)) := by
  refine Ct.ofW (cc := cX4_alone) (maxL := 2) (ret := (some .int)) (R_C := RX4) (by decide +kernel) rfl rfl (Nat.le_of_ble_eq_true rfl) rfl ?_
  intro p e s m args below meth c A Q ls H locs hx hb hml hown hts hK hA hP hD hS hZ hl hri hrl hrv
  refine lv_iload_n hx hb dX4_alone_0 rfl (lv_at hl 1 rfl) ?_
  refine fx_callS (As := [.int x]) (rest := []) ⟨hx, hb, hml, hown, hts⟩ (c_X4_isLine l D cI cJ cZ (wA q cI cJ xro xtk xli cn ci cs cso cki cfa cfb cfc cva csn csd csl csb csr csc won wle pte pho nwa nti) x) (va_cwS 1 hts gX4_alone_X4_isLine rfl rfl rfl ks_X4_isLine ⟨Nat.le_of_ble_eq_true rfl, Nat.le_of_ble_eq_true rfl⟩) hK hP hD hS hA hZ rfl hl.1 rfl (lv_room (Nat.le_of_ble_eq_true rfl)) dX4_alone_1 ⟨Nat.zero_le _, Nat.zero_le _⟩ (fun u_1 H locs hu_1 hP hD hS => ?_)
  refine lv_if_ne (tgt := 9) hx hb dX4_alone_4 (by decide) (fun c_4 => ?_) (fun c_4 => ?_)
  · have f_4 : (isN 4 x) = true := bI_n0.mp c_4
    exfalso; rw [hl4] at f_4; cases f_4
  have f_4 : (isN 4 x) = false := bI_0.mp c_4
  refine lv_iconst (v := (-1)) hx hb dX4_alone_7 (by decide) ?_
  exact hri () _ H locs 8 ls .int rfl rfl trivial rfl hP hD hS dX4_alone_8
set_option maxHeartbeats 4000000 in
set_option maxRecDepth 100000 in
theorem c_X4_alone (l : Launch) (D : va_G) (cI cJ cZ : ClassId) (q : Nat → Nat) (xro : Int64) (xtk : Nat) (xli : Nat) (cn : Nat) (ci : Nat) (cs : Nat) (cso : Nat → Nat) (cki : Nat → Nat) (cfa : Nat → Nat) (cfb : Nat → Nat) (cfc : Nat → Nat) (cva : Nat → Nat) (csn : Nat → Nat) (csd : Nat → Nat) (csl : Nat → Nat) (csb : Nat → Nat) (csr : Nat → Nat) (csc : Nat → Nat) (won : Nat → Int64) (wle : Nat → Int64) (pte : Nat → Nat) (pho : Nat → Nat) (nwa : Nat → Int32) (nti : Nat → Int32) (k : Nat) (hcn : cn ≤ 32) (hcs : cs ≤ 6) (hso : ∀ j, j < cn → cso j ≤ 3 ∧ cki j ≤ 4 ∧ cva j ≤ 2) (hg : ∀ j, j < cn → cso j = 2 → cfa j < j ∧ cfb j < j ∧ cfc j < j) (hs : ∀ j, j < cn → cso j = 3 → csn j < cs) (hin : ct (fun j => decide (cso j = 0)) cn ≤ 4) (hsr : ∀ i, i < cs → csr i < cn) (hsb : ∀ i, i < cs → csb i ≤ 1) (hsl : ∀ i, i < cs → csl i ≤ 4) (hho : ∀ j, j < 6 → pho j ≤ 2) (hli : xli < 16) (hk : k < 4) : Ct l D cI cJ cZ yX4_alone wsX4_alone ({ frames := 3, cells := 0, slots := 0, locals := 76 } : Room) 0 0 [.ref (q 0), .int (nI k)] (wA q cI cJ xro xtk xli cn ci cs cso cki cfa cfb cfc cva csn csd csl csb csr csc won wle pte pho nwa nti) (S := Unit) (fun u => True) (fun u => some (.int (ttoF (aftF csb cs (preT cso cki cfa cfb cfc cva csn csr cn cs true won wle (2 ^ ct (opP cso cva true) cn)).2 (bN (stP csl (2 ^ k)) cs)) 65 0 (alR cs)))) (fun u => (wA q cI cJ xro xtk xli cn ci cs cso cki cfa cfb cfc cva csn csd csl csb csr csc ((preT cso cki cfa cfb cfc cva csn csr cn cs true won wle (2 ^ ct (opP cso cva true) cn)).1) ((preT cso cki cfa cfb cfc cva csn csr cn cs true won wle (2 ^ ct (opP cso cva true) cn)).2) pte pho nwa nti)) := by
  refine Ct.ofW (cc := cX4_alone) (maxL := 2) (ret := (some .int)) (R_C := RX4) (by decide +kernel) rfl rfl (Nat.le_of_ble_eq_true rfl) rfl ?_
  intro p e s m args below meth c A Q ls H locs hx hb hml hown hts hK hA hP hD hS hZ hl hri hrl hrv
  refine lv_iload_n hx hb dX4_alone_0 rfl (lv_at hl 1 rfl) ?_
  refine fx_callS (As := [.int (nI k)]) (rest := []) ⟨hx, hb, hml, hown, hts⟩ (c_X4_isLine l D cI cJ cZ (wA q cI cJ xro xtk xli cn ci cs cso cki cfa cfb cfc cva csn csd csl csb csr csc won wle pte pho nwa nti) (nI k)) (va_cwS 1 hts gX4_alone_X4_isLine rfl rfl rfl ks_X4_isLine ⟨Nat.le_of_ble_eq_true rfl, Nat.le_of_ble_eq_true rfl⟩) hK hP hD hS hA hZ rfl hl.1 rfl (lv_room (Nat.le_of_ble_eq_true rfl)) dX4_alone_1 ⟨Nat.zero_le _, Nat.zero_le _⟩ (fun u_1 H locs hu_1 hP hD hS => ?_)
  refine lv_if_ne (tgt := 9) hx hb dX4_alone_4 (by decide) (fun c_4 => ?_) (fun c_4 => ?_)
  · have f_4 : (isN 4 (nI k)) = true := bI_n0.mp c_4
    have h2k : 2 ^ k ≤ 8 := Nat.pow_le_pow_right (n := 2) (by omega) (show k ≤ 3 by omega)
    have hrs : bN (stP csl (2 ^ k)) cs < 64 := Nat.lt_of_lt_of_le (bN_lt _ _) (Nat.pow_le_pow_right (n := 2) (by omega) hcs)
    refine lv_aload_n hx hb dX4_alone_9 rfl (lv_at hl 0 rfl) ?_
    refine va_get (D := D) (ci := 4) (v := .ref (q 14)) (C := RX4) (T := TX4) (N := 7) hx hb hts (fun w h => List.mem_cons_of_mem _ (List.mem_append_left _ (List.mem_append_left _ (List.mem_append_right _ h)))) hown hK hP 0 rfl rfl 1 (by decide) (hts (.fieldLink RX4 21 "FirstStates" "walk" "LFirstStates$Walk;") (List.mem_of_getElem? (i := 1) rfl)) (fun _ h9 => h9) rfl dX4_alone_10 ?_
    refine lv_iconst (v := nI 1) hx hb dX4_alone_13 (by decide) ?_
    refine fx_callV (As := [.int (bI true)]) (rest := []) ⟨hx, hb, hml, hown, hts⟩ (c_X3_prepare l D cI cJ cZ q xro xtk xli cn ci cs cso cki cfa cfb cfc cva csn csd csl csb csr csc won wle pte pho nwa nti true (by first | assumption | omega) (by first | assumption | omega) (by first | assumption | omega) (by first | assumption | omega) (by first | assumption | omega) (by first | assumption | omega) (by first | assumption | omega)) (cwV 1 hts gX4_alone_X3_prepare rfl rfl rfl kv_X3_prepare ⟨Nat.le_of_ble_eq_true rfl, Nat.le_of_ble_eq_true rfl⟩) hK hP hD hS hA hZ 14 rfl rfl rfl rfl hl.1 rfl (lv_room (Nat.le_of_ble_eq_true rfl)) dX4_alone_14 ⟨Nat.zero_le _, Nat.zero_le _⟩ (fun u_2 H locs hu_2 hP hD hS => ?_)
    have hP : va_P D vwCl (wA q cI cJ xro xtk xli cn ci cs cso cki cfa cfb cfc cva csn csd csl csb csr csc ((preT cso cki cfa cfb cfc cva csn csr cn cs true won wle (2 ^ ct (opP cso cva true) cn)).1) ((preT cso cki cfa cfb cfc cva csn csr cn cs true won wle (2 ^ ct (opP cso cva true) cn)).2) pte pho nwa nti) H := hP
    have hD : va_D A (wA q cI cJ xro xtk xli cn ci cs cso cki cfa cfb cfc cva csn csd csl csb csr csc ((preT cso cki cfa cfb cfc cva csn csr cn cs true won wle (2 ^ ct (opP cso cva true) cn)).1) ((preT cso cki cfa cfb cfc cva csn csr cn cs true won wle (2 ^ ct (opP cso cva true) cn)).2) pte pho nwa nti) := fx_D hD rfl
    refine lv_aload_n hx hb dX4_alone_17 rfl (lv_at hl 0 rfl) ?_
    refine va_get (D := D) (ci := 4) (v := .ref (q 14)) (C := RX4) (T := TX4) (N := 7) hx hb hts (fun w h => List.mem_cons_of_mem _ (List.mem_append_left _ (List.mem_append_left _ (List.mem_append_right _ h)))) hown hK hP 0 rfl rfl 1 (by decide) (hts (.fieldLink RX4 21 "FirstStates" "walk" "LFirstStates$Walk;") (List.mem_of_getElem? (i := 1) rfl)) (fun _ h9 => h9) rfl dX4_alone_18 ?_
    refine lv_aload_n hx hb dX4_alone_21 rfl (lv_at hl 0 rfl) ?_
    refine va_get (D := D) (ci := 4) (v := .ref (q 14)) (C := RX4) (T := TX4) (N := 7) hx hb hts (fun w h => List.mem_cons_of_mem _ (List.mem_append_left _ (List.mem_append_left _ (List.mem_append_right _ h)))) hown hK hP 0 rfl rfl 1 (by decide) (hts (.fieldLink RX4 21 "FirstStates" "walk" "LFirstStates$Walk;") (List.mem_of_getElem? (i := 1) rfl)) (fun _ h9 => h9) rfl dX4_alone_22 ?_
    refine fx_callV (As := []) (rest := [.ref (q 14)]) ⟨hx, hb, hml, hown, hts⟩ (c_X3_allRows l D cI cJ cZ q xro xtk xli cn ci cs cso cki cfa cfb cfc cva csn csd csl csb csr csc ((preT cso cki cfa cfb cfc cva csn csr cn cs true won wle (2 ^ ct (opP cso cva true) cn)).1) ((preT cso cki cfa cfb cfc cva csn csr cn cs true won wle (2 ^ ct (opP cso cva true) cn)).2) pte pho nwa nti (by first | assumption | omega)) (cwV 0 hts gX4_alone_X3_allRows rfl rfl rfl kv_X3_allRows ⟨Nat.le_of_ble_eq_true rfl, Nat.le_of_ble_eq_true rfl⟩) hK hP hD hS hA hZ 14 rfl rfl rfl rfl hl.1 rfl (lv_room (Nat.le_of_ble_eq_true rfl)) dX4_alone_25 ⟨Nat.zero_le _, Nat.zero_le _⟩ (fun u_3 H locs hu_3 hP hD hS => ?_)
    refine lv_aload_n hx hb dX4_alone_28 rfl (lv_at hl 0 rfl) ?_
    refine va_get (D := D) (ci := 4) (v := .ref (q 1)) (C := RX4) (T := TX4) (N := 7) hx hb hts (fun w h => List.mem_cons_of_mem _ (List.mem_append_left _ (List.mem_append_left _ (List.mem_append_right _ h)))) hown hK hP 0 rfl rfl 0 (by decide) (hts (.fieldLink RX4 10 "FirstStates" "circuit" "LFirstStates$Circuit;") (List.mem_of_getElem? (i := 2) rfl)) (fun _ h9 => h9) rfl dX4_alone_29 ?_
    refine lv_iconst (v := nI 1) hx hb dX4_alone_32 (by decide) ?_
    refine lv_iload_n hx hb dX4_alone_33 rfl (lv_at hl 1 rfl) ?_
    refine lv_ishl hx hb dX4_alone_34 ?_
    refine fx_eqi (y := nI (2 ^ k)) (fx_shl1 (by first | omega | exact b_and1 _ | exact b_ct _ _ (by omega) | exact b_andr _ (by omega))) ?_
    refine fx_callV (As := [.int (nI (2 ^ k))]) (rest := [.long (alR cs), .ref (q 14)]) ⟨hx, hb, hml, hown, hts⟩ (c_X0_storesOf l D cI cJ cZ q xro xtk xli cn ci cs cso cki cfa cfb cfc cva csn csd csl csb csr csc ((preT cso cki cfa cfb cfc cva csn csr cn cs true won wle (2 ^ ct (opP cso cva true) cn)).1) ((preT cso cki cfa cfb cfc cva csn csr cn cs true won wle (2 ^ ct (opP cso cva true) cn)).2) pte pho nwa nti (2 ^ k) (by first | assumption | omega) (by first | assumption | omega) (by first | assumption | omega)) (cwV 1 hts gX4_alone_X0_storesOf rfl rfl rfl kv_X0_storesOf ⟨Nat.le_of_ble_eq_true rfl, Nat.le_of_ble_eq_true rfl⟩) hK hP hD hS hA hZ 1 rfl rfl rfl rfl hl.1 rfl (lv_room (Nat.le_of_ble_eq_true rfl)) dX4_alone_35 ⟨Nat.zero_le _, Nat.zero_le _⟩ (fun u_4 H locs hu_4 hP hD hS => ?_)
    refine fx_callV (As := [.long (alR cs), .int (nI (bN (stP csl (2 ^ k)) cs))]) (rest := []) ⟨hx, hb, hml, hown, hts⟩ (c_X3_ticksTillOne l D cI cJ cZ q xro xtk xli cn ci cs cso cki cfa cfb cfc cva csn csd csl csb csr csc ((preT cso cki cfa cfb cfc cva csn csr cn cs true won wle (2 ^ ct (opP cso cva true) cn)).1) ((preT cso cki cfa cfb cfc cva csn csr cn cs true won wle (2 ^ ct (opP cso cva true) cn)).2) pte pho nwa nti (alR cs) (bN (stP csl (2 ^ k)) cs) (by first | assumption | omega) (by first | assumption | omega) (by first | assumption | omega)) (cwV 2 hts gX4_alone_X3_ticksTillOne rfl rfl rfl kv_X3_ticksTillOne ⟨Nat.le_of_ble_eq_true rfl, Nat.le_of_ble_eq_true rfl⟩) hK hP hD hS hA hZ 14 rfl rfl rfl rfl hl.1 rfl (lv_room (Nat.le_of_ble_eq_true rfl)) dX4_alone_38 ⟨Nat.zero_le _, Nat.zero_le _⟩ (fun u_5 H locs hu_5 hP hD hS => ?_)
    exact hri () _ H locs 41 ls .int rfl rfl trivial rfl hP hD hS dX4_alone_41
  have f_4 : (isN 4 (nI k)) = false := bI_0.mp c_4
  exfalso; rw [isN_nI (by omega) (by omega)] at f_4; simp at f_4; omega
set_option maxHeartbeats 4000000 in
set_option maxRecDepth 100000 in
theorem c_X4_mend_o (l : Launch) (D : va_G) (cI cJ cZ : ClassId) (q : Nat → Nat) (xro : Int64) (xtk : Nat) (xli : Nat) (cn : Nat) (ci : Nat) (cs : Nat) (cso : Nat → Nat) (cki : Nat → Nat) (cfa : Nat → Nat) (cfb : Nat → Nat) (cfc : Nat → Nat) (cva : Nat → Nat) (csn : Nat → Nat) (csd : Nat → Nat) (csl : Nat → Nat) (csb : Nat → Nat) (csr : Nat → Nat) (csc : Nat → Nat) (won : Nat → Int64) (wle : Nat → Int64) (pte : Nat → Nat) (pho : Nat → Nat) (nwa : Nat → Int32) (nti : Nat → Int32) (x : Int32) (hx0 : tickB x = false) : Ct l D cI cJ cZ yX4_mend wsX4_mend ({ frames := 1, cells := 0, slots := 0, locals := 20 } : Room) 0 0 [.ref (q 0), .int x] (wA q cI cJ xro xtk xli cn ci cs cso cki cfa cfb cfc cva csn csd csl csb csr csc won wle pte pho nwa nti) (S := Unit) (fun u => True) (fun u => some (.int (-2))) (fun u => (wA q cI cJ xro xtk xli cn ci cs cso cki cfa cfb cfc cva csn csd csl csb csr csc won wle pte pho nwa nti)) := by
  refine Ct.ofW (cc := cX4_mend) (maxL := 5) (ret := (some .int)) (R_C := RX4) (by decide +kernel) rfl rfl (Nat.le_of_ble_eq_true rfl) rfl ?_
  intro p e s m args below meth c A Q ls H locs hx hb hml hown hts hK hA hP hD hS hZ hl hri hrl hrv
  refine lv_iload_n hx hb dX4_mend_0 rfl (lv_at hl 1 rfl) ?_
  refine fx_callS (As := [.int x]) (rest := []) ⟨hx, hb, hml, hown, hts⟩ (c_X4_isTickCount l D cI cJ cZ (wA q cI cJ xro xtk xli cn ci cs cso cki cfa cfb cfc cva csn csd csl csb csr csc won wle pte pho nwa nti) x) (va_cwS 1 hts gX4_mend_X4_isTickCount rfl rfl rfl ks_X4_isTickCount ⟨Nat.le_of_ble_eq_true rfl, Nat.le_of_ble_eq_true rfl⟩) hK hP hD hS hA hZ rfl hl.1 rfl (lv_room (Nat.le_of_ble_eq_true rfl)) dX4_mend_1 ⟨Nat.zero_le _, Nat.zero_le _⟩ (fun u_1 H locs hu_1 hP hD hS => ?_)
  refine lv_if_ne (tgt := 10) hx hb dX4_mend_4 (by decide) (fun c_4 => ?_) (fun c_4 => ?_)
  · have f_4 : (tickB x) = true := bI_n0.mp c_4
    exfalso; rw [hx0] at f_4; cases f_4
  have f_4 : (tickB x) = false := bI_0.mp c_4
  refine lv_bipush (v := (-2)) hx hb dX4_mend_7 (by decide) ?_
  exact hri () _ H locs 9 ls .int rfl rfl trivial rfl hP hD hS dX4_mend_9
set_option maxHeartbeats 4000000 in
set_option maxRecDepth 100000 in
theorem c_X4_mend (l : Launch) (D : va_G) (cI cJ cZ : ClassId) (q : Nat → Nat) (xro : Int64) (xtk : Nat) (xli : Nat) (cn : Nat) (ci : Nat) (cs : Nat) (cso : Nat → Nat) (cki : Nat → Nat) (cfa : Nat → Nat) (cfb : Nat → Nat) (cfc : Nat → Nat) (cva : Nat → Nat) (csn : Nat → Nat) (csd : Nat → Nat) (csl : Nat → Nat) (csb : Nat → Nat) (csr : Nat → Nat) (csc : Nat → Nat) (won : Nat → Int64) (wle : Nat → Int64) (pte : Nat → Nat) (pho : Nat → Nat) (nwa : Nat → Int32) (nti : Nat → Int32) (n : Nat) (hcn : cn ≤ 32) (hcs : cs ≤ 6) (hso : ∀ j, j < cn → cso j ≤ 3 ∧ cki j ≤ 4 ∧ cva j ≤ 2) (hg : ∀ j, j < cn → cso j = 2 → cfa j < j ∧ cfb j < j ∧ cfc j < j) (hs : ∀ j, j < cn → cso j = 3 → csn j < cs) (hin : ct (fun j => decide (cso j = 0)) cn ≤ 4) (hsr : ∀ i, i < cs → csr i < cn) (hsb : ∀ i, i < cs → csb i ≤ 1) (hsl : ∀ i, i < cs → csl i ≤ 4) (hho : ∀ j, j < 6 → pho j ≤ 2) (hli : xli < 16) (hn1 : 1 ≤ n) (hn64 : n ≤ 64) : Ct l D cI cJ cZ yX4_mend wsX4_mend ({ frames := 3, cells := 0, slots := 0, locals := 77 } : Room) 0 0 [.ref (q 0), .int (nI n)] (wA q cI cJ xro xtk xli cn ci cs cso cki cfa cfb cfc cva csn csd csl csb csr csc won wle pte pho nwa nti) (S := Unit) (fun u => True) (fun u => some (.int (meO (fun zq kq => decide (kq &&& (bN (stP csl 15) cs) = 0) && (decide (ct (fun jj => kq.testBit jj) 6 = zq) && decide (bct (lvF (aftF csb cs (preT cso cki cfa cfb cfc cva csn csr cn cs false won wle (2 ^ ct (opP cso cva false) cn)).2 ((bN (stP csl 15) cs) ||| kq)) n (alR cs)) = 1))) (2 ^ cs) (cs + 1) 0))) (fun u => (wA q cI cJ xro xtk xli cn ci cs cso cki cfa cfb cfc cva csn csd csl csb csr csc ((preT cso cki cfa cfb cfc cva csn csr cn cs false won wle (2 ^ ct (opP cso cva false) cn)).1) ((preT cso cki cfa cfb cfc cva csn csr cn cs false won wle (2 ^ ct (opP cso cva false) cn)).2) pte pho nwa nti)) := by
  refine Ct.ofW (cc := cX4_mend) (maxL := 5) (ret := (some .int)) (R_C := RX4) (by decide +kernel) rfl rfl (Nat.le_of_ble_eq_true rfl) rfl ?_
  intro p e s m args below meth c A Q ls H locs hx hb hml hown hts hK hA hP hD hS hZ hl hri hrl hrv
  refine lv_iload_n hx hb dX4_mend_0 rfl (lv_at hl 1 rfl) ?_
  refine fx_callS (As := [.int (nI n)]) (rest := []) ⟨hx, hb, hml, hown, hts⟩ (c_X4_isTickCount l D cI cJ cZ (wA q cI cJ xro xtk xli cn ci cs cso cki cfa cfb cfc cva csn csd csl csb csr csc won wle pte pho nwa nti) (nI n)) (va_cwS 1 hts gX4_mend_X4_isTickCount rfl rfl rfl ks_X4_isTickCount ⟨Nat.le_of_ble_eq_true rfl, Nat.le_of_ble_eq_true rfl⟩) hK hP hD hS hA hZ rfl hl.1 rfl (lv_room (Nat.le_of_ble_eq_true rfl)) dX4_mend_1 ⟨Nat.zero_le _, Nat.zero_le _⟩ (fun u_1 H locs hu_1 hP hD hS => ?_)
  refine lv_if_ne (tgt := 10) hx hb dX4_mend_4 (by decide) (fun c_4 => ?_) (fun c_4 => ?_)
  · have f_4 : (tickB (nI n)) = true := bI_n0.mp c_4
    refine lv_aload_n hx hb dX4_mend_10 rfl (lv_at hl 0 rfl) ?_
    refine va_get (D := D) (ci := 4) (v := .ref (q 14)) (C := RX4) (T := TX4) (N := 7) hx hb hts (fun w h => List.mem_cons_of_mem _ (List.mem_append_left _ (List.mem_append_left _ (List.mem_append_right _ h)))) hown hK hP 0 rfl rfl 1 (by decide) (hts (.fieldLink RX4 21 "FirstStates" "walk" "LFirstStates$Walk;") (List.mem_of_getElem? (i := 1) rfl)) (fun _ h9 => h9) rfl dX4_mend_11 ?_
    refine lv_iconst (v := nI 0) hx hb dX4_mend_14 (by decide) ?_
    refine fx_callV (As := [.int (bI false)]) (rest := []) ⟨hx, hb, hml, hown, hts⟩ (c_X3_prepare l D cI cJ cZ q xro xtk xli cn ci cs cso cki cfa cfb cfc cva csn csd csl csb csr csc won wle pte pho nwa nti false (by first | assumption | omega) (by first | assumption | omega) (by first | assumption | omega) (by first | assumption | omega) (by first | assumption | omega) (by first | assumption | omega) (by first | assumption | omega)) (cwV 1 hts gX4_mend_X3_prepare rfl rfl rfl kv_X3_prepare ⟨Nat.le_of_ble_eq_true rfl, Nat.le_of_ble_eq_true rfl⟩) hK hP hD hS hA hZ 14 rfl rfl rfl rfl hl.1 rfl (lv_room (Nat.le_of_ble_eq_true rfl)) dX4_mend_15 ⟨Nat.zero_le _, Nat.zero_le _⟩ (fun u_2 H locs hu_2 hP hD hS => ?_)
    have hP : va_P D vwCl (wA q cI cJ xro xtk xli cn ci cs cso cki cfa cfb cfc cva csn csd csl csb csr csc ((preT cso cki cfa cfb cfc cva csn csr cn cs false won wle (2 ^ ct (opP cso cva false) cn)).1) ((preT cso cki cfa cfb cfc cva csn csr cn cs false won wle (2 ^ ct (opP cso cva false) cn)).2) pte pho nwa nti) H := hP
    have hD : va_D A (wA q cI cJ xro xtk xli cn ci cs cso cki cfa cfb cfc cva csn csd csl csb csr csc ((preT cso cki cfa cfb cfc cva csn csr cn cs false won wle (2 ^ ct (opP cso cva false) cn)).1) ((preT cso cki cfa cfb cfc cva csn csr cn cs false won wle (2 ^ ct (opP cso cva false) cn)).2) pte pho nwa nti) := fx_D hD rfl
    refine lv_aload_n hx hb dX4_mend_18 rfl (lv_at hl 0 rfl) ?_
    refine va_get (D := D) (ci := 4) (v := .ref (q 1)) (C := RX4) (T := TX4) (N := 7) hx hb hts (fun w h => List.mem_cons_of_mem _ (List.mem_append_left _ (List.mem_append_left _ (List.mem_append_right _ h)))) hown hK hP 0 rfl rfl 0 (by decide) (hts (.fieldLink RX4 10 "FirstStates" "circuit" "LFirstStates$Circuit;") (List.mem_of_getElem? (i := 2) rfl)) (fun _ h9 => h9) rfl dX4_mend_19 ?_
    refine lv_bipush (v := nI 15) hx hb dX4_mend_22 (by decide) ?_
    refine fx_callV (As := [.int (nI 15)]) (rest := []) ⟨hx, hb, hml, hown, hts⟩ (c_X0_storesOf l D cI cJ cZ q xro xtk xli cn ci cs cso cki cfa cfb cfc cva csn csd csl csb csr csc ((preT cso cki cfa cfb cfc cva csn csr cn cs false won wle (2 ^ ct (opP cso cva false) cn)).1) ((preT cso cki cfa cfb cfc cva csn csr cn cs false won wle (2 ^ ct (opP cso cva false) cn)).2) pte pho nwa nti 15 (by first | assumption | omega) (by first | assumption | omega) (by first | assumption | omega)) (cwV 1 hts gX4_mend_X0_storesOf rfl rfl rfl kv_X0_storesOf ⟨Nat.le_of_ble_eq_true rfl, Nat.le_of_ble_eq_true rfl⟩) hK hP hD hS hA hZ 1 rfl rfl rfl rfl hl.1 rfl (lv_room (Nat.le_of_ble_eq_true rfl)) dX4_mend_24 ⟨Nat.zero_le _, Nat.zero_le _⟩ (fun u_3 H locs hu_3 hP hD hS => ?_)
    refine lv_istore_n (lv' := [(2, .int (nI (bN (stP csl 15) cs))), (0, .ref (q 0)), (1, .int (nI n))]) hx hb dX4_mend_27 rfl hl (by decide) rfl (fun ls hl => ?_)
    have hln : bN (stP csl 15) cs < 64 := Nat.lt_of_lt_of_le (bN_lt _ _) (Nat.pow_le_pow_right (n := 2) (by omega) hcs)
    have hp6 : 2 ^ cs ≤ 64 := Nat.pow_le_pow_right (by omega) hcs
    refine lv_iconst (v := nI 0) hx hb dX4_mend_28 (by decide) ?_
    refine lv_istore_n (lv' := [(3, .int (nI 0)), (2, .int (nI (bN (stP csl 15) cs))), (0, .ref (q 0)), (1, .int (nI n))]) hx hb dX4_mend_29 rfl hl (by decide) rfl (fun ls hl => ?_)
    have L_30 : ∀ (fuel : Nat) (o : Nat) (s1 : Nat) (ho : s1 + o = cs + 1) (hr1 : meO (fun zq kq => decide (kq &&& (bN (stP csl 15) cs) = 0) && (decide (ct (fun jj => kq.testBit jj) 6 = zq) && decide (bct (lvF (aftF csb cs (preT cso cki cfa cfb cfc cva csn csr cn cs false won wle (2 ^ ct (opP cso cva false) cn)).2 ((bN (stP csl 15) cs) ||| kq)) n (alR cs)) = 1))) (2 ^ cs) o s1 = meO (fun zq kq => decide (kq &&& (bN (stP csl 15) cs) = 0) && (decide (ct (fun jj => kq.testBit jj) 6 = zq) && decide (bct (lvF (aftF csb cs (preT cso cki cfa cfb cfc cva csn csr cn cs false won wle (2 ^ ct (opP cso cva false) cn)).2 ((bN (stP csl 15) cs) ||| kq)) n (alR cs)) = 1))) (2 ^ cs) (cs + 1) 0) (hfu : o < fuel) (H : Heap) (locs : List Loc), va_P D vwCl (wA q cI cJ xro xtk xli cn ci cs cso cki cfa cfb cfc cva csn csd csl csb csr csc ((preT cso cki cfa cfb cfc cva csn csr cn cs false won wle (2 ^ ct (opP cso cva false) cn)).1) ((preT cso cki cfa cfb cfc cva csn csr cn cs false won wle (2 ^ ct (opP cso cva false) cn)).2) pte pho nwa nti) H → va_D A (wA q cI cJ xro xtk xli cn ci cs cso cki cfa cfb cfc cva csn csd csl csb csr csc ((preT cso cki cfa cfb cfc cva csn csr cn cs false won wle (2 ^ ct (opP cso cva false) cn)).1) ((preT cso cki cfa cfb cfc cva csn csr cn cs false won wle (2 ^ ct (opP cso cva false) cn)).2) pte pho nwa nti) → va_S A s.heap H locs → ∀ ls : Array Slot, lv_has ls 5 [(0, .ref (q 0)), (1, .int (nI n)), (2, .int (nI (bN (stP csl 15) cs))), (3, .int (nI s1))] → W p l e ({ frames := 3, cells := 0, slots := 0, locals := 77 } : Room) s m args below meth c H locs 0 0 Q (F0 m 30 ls []) := by
      intro fuel
      induction fuel with
      | zero => intro o s1 ho hr1 hfu; exact absurd hfu (Nat.not_lt_zero _)
      | succ fuel ih_30 =>
        intro o s1 ho hr1 hfu H locs hP hD hS ls hl
        refine lv_iload_n hx hb dX4_mend_30 rfl (lv_at hl 3 rfl) ?_
        refine lv_aload_n hx hb dX4_mend_31 rfl (lv_at hl 0 rfl) ?_
        refine va_get (D := D) (ci := 4) (v := .ref (q 1)) (C := RX4) (T := TX4) (N := 7) hx hb hts (fun w h => List.mem_cons_of_mem _ (List.mem_append_left _ (List.mem_append_left _ (List.mem_append_right _ h)))) hown hK hP 0 rfl rfl 0 (by decide) (hts (.fieldLink RX4 10 "FirstStates" "circuit" "LFirstStates$Circuit;") (List.mem_of_getElem? (i := 2) rfl)) (fun _ h9 => h9) rfl dX4_mend_32 ?_
        refine va_get (D := D) (ci := 0) (v := .int (nI cs)) (C := RX0) (T := TX0) (N := 15) hx hb hts (fun w h => List.mem_cons_of_mem _ (List.mem_append_left _ (List.mem_append_right _ h))) hown hK hP 1 rfl rfl 2 (by decide) (hts (.fieldLink RX4 82 "FirstStates$Circuit" "stores" "I") (List.mem_of_getElem? (i := 3) rfl)) (fun _ h9 => h9) rfl dX4_mend_35 ?_
        refine lv_icmp_gt (tgt := 102) hx hb dX4_mend_38 (by decide) (fun c_38 => ?_) (fun c_38 => ?_)
        · have f_38 : cs < s1 := (nI_ltI (a := cs) (b := s1) (by first | omega | exact b_and1 _ | exact b_ct _ _ (by omega) | exact b_andr _ (by omega)) (by first | omega | exact b_and1 _ | exact b_ct _ _ (by omega) | exact b_andr _ (by omega))).mp c_38
          refine lv_bipush (v := (-9)) hx hb dX4_mend_102 (by decide) ?_
          exact hri () _ H locs 104 ls .int rfl rfl trivial (by rw [← hr1, show o = 0 by omega]; rfl) hP hD hS dX4_mend_104
        have f_38 : ¬ cs < s1 := fun h => c_38 ((nI_ltI (a := cs) (b := s1) (by first | omega | exact b_and1 _ | exact b_ct _ _ (by omega) | exact b_andr _ (by omega)) (by first | omega | exact b_and1 _ | exact b_ct _ _ (by omega) | exact b_andr _ (by omega))).mpr h)
        obtain ⟨o1, rfl⟩ : ∃ o1, o = o1 + 1 := ⟨o - 1, by omega⟩
        refine lv_iconst (v := nI 0) hx hb dX4_mend_41 (by decide) ?_
        refine lv_istore (lv' := [(4, .int (nI 0)), (0, .ref (q 0)), (1, .int (nI n)), (2, .int (nI (bN (stP csl 15) cs))), (3, .int (nI s1))]) hx hb dX4_mend_42 hl (by decide) rfl (fun ls hl => ?_)
        have L_44 : ∀ (fuel : Nat) (m2 : Nat) (k : Nat) (hm2 : k + m2 = 2 ^ cs) (hin2 : meI ((fun zq kq => decide (kq &&& (bN (stP csl 15) cs) = 0) && (decide (ct (fun jj => kq.testBit jj) 6 = zq) && decide (bct (lvF (aftF csb cs (preT cso cki cfa cfb cfc cva csn csr cn cs false won wle (2 ^ ct (opP cso cva false) cn)).2 ((bN (stP csl 15) cs) ||| kq)) n (alR cs)) = 1))) s1) m2 k = meI ((fun zq kq => decide (kq &&& (bN (stP csl 15) cs) = 0) && (decide (ct (fun jj => kq.testBit jj) 6 = zq) && decide (bct (lvF (aftF csb cs (preT cso cki cfa cfb cfc cva csn csr cn cs false won wle (2 ^ ct (opP cso cva false) cn)).2 ((bN (stP csl 15) cs) ||| kq)) n (alR cs)) = 1))) s1) (2 ^ cs) 0) (hfu : m2 < fuel) (H : Heap) (locs : List Loc), va_P D vwCl (wA q cI cJ xro xtk xli cn ci cs cso cki cfa cfb cfc cva csn csd csl csb csr csc ((preT cso cki cfa cfb cfc cva csn csr cn cs false won wle (2 ^ ct (opP cso cva false) cn)).1) ((preT cso cki cfa cfb cfc cva csn csr cn cs false won wle (2 ^ ct (opP cso cva false) cn)).2) pte pho nwa nti) H → va_D A (wA q cI cJ xro xtk xli cn ci cs cso cki cfa cfb cfc cva csn csd csl csb csr csc ((preT cso cki cfa cfb cfc cva csn csr cn cs false won wle (2 ^ ct (opP cso cva false) cn)).1) ((preT cso cki cfa cfb cfc cva csn csr cn cs false won wle (2 ^ ct (opP cso cva false) cn)).2) pte pho nwa nti) → va_S A s.heap H locs → ∀ ls : Array Slot, lv_has ls 5 [(0, .ref (q 0)), (1, .int (nI n)), (2, .int (nI (bN (stP csl 15) cs))), (3, .int (nI s1)), (4, .int (nI k))] → W p l e ({ frames := 3, cells := 0, slots := 0, locals := 77 } : Room) s m args below meth c H locs 0 0 Q (F0 m 44 ls []) := by
          intro fuel
          induction fuel with
          | zero => intro m2 k hm2 hin2 hfu; exact absurd hfu (Nat.not_lt_zero _)
          | succ fuel ih_44 =>
            intro m2 k hm2 hin2 hfu H locs hP hD hS ls hl
            refine lv_iload hx hb dX4_mend_44 (lv_at hl 4 rfl) ?_
            refine lv_aload_n hx hb dX4_mend_46 rfl (lv_at hl 0 rfl) ?_
            refine va_get (D := D) (ci := 4) (v := .ref (q 1)) (C := RX4) (T := TX4) (N := 7) hx hb hts (fun w h => List.mem_cons_of_mem _ (List.mem_append_left _ (List.mem_append_left _ (List.mem_append_right _ h)))) hown hK hP 0 rfl rfl 0 (by decide) (hts (.fieldLink RX4 10 "FirstStates" "circuit" "LFirstStates$Circuit;") (List.mem_of_getElem? (i := 2) rfl)) (fun _ h9 => h9) rfl dX4_mend_47 ?_
            refine fx_callV (As := []) (rest := [.int (nI k)]) ⟨hx, hb, hml, hown, hts⟩ (c_X0_rowCount l D cI cJ cZ q xro xtk xli cn ci cs cso cki cfa cfb cfc cva csn csd csl csb csr csc ((preT cso cki cfa cfb cfc cva csn csr cn cs false won wle (2 ^ ct (opP cso cva false) cn)).1) ((preT cso cki cfa cfb cfc cva csn csr cn cs false won wle (2 ^ ct (opP cso cva false) cn)).2) pte pho nwa nti (by first | assumption | omega)) (cwV 0 hts gX4_mend_X0_rowCount rfl rfl rfl kv_X0_rowCount ⟨Nat.le_of_ble_eq_true rfl, Nat.le_of_ble_eq_true rfl⟩) hK hP hD hS hA hZ 1 rfl rfl rfl rfl hl.1 rfl (lv_room (Nat.le_of_ble_eq_true rfl)) dX4_mend_50 ⟨Nat.zero_le _, Nat.zero_le _⟩ (fun u_4 H locs hu_4 hP hD hS => ?_)
            refine lv_icmp_ge (tgt := 96) hx hb dX4_mend_53 (by decide) (fun c_53 => ?_) (fun c_53 => ?_)
            · have f_53 : 2 ^ cs ≤ k := (nI_leI (a := 2 ^ cs) (b := k) (by first | omega | exact b_and1 _ | exact b_ct _ _ (by omega) | exact b_andr _ (by omega)) (by first | omega | exact b_and1 _ | exact b_ct _ _ (by omega) | exact b_andr _ (by omega))).mp c_53
              refine lv_iinc (v := nI (s1 + 1)) (lv' := [(3, .int (nI (s1 + 1))), (0, .ref (q 0)), (1, .int (nI n)), (2, .int (nI (bN (stP csl 15) cs))), (4, .int (nI k))]) hx hb dX4_mend_96 hl (k := 3) rfl (by exact nI_1 _) (by decide) rfl (fun ls hl => ?_)
              refine lv_goto (tgt := 30) hx hb dX4_mend_99 (by decide) ?_
              exact ih_30 o1 (s1 + 1) (by first | assumption | omega) (by rw [← hr1]; show _ = (match meI _ (2 ^ cs) 0 with | some kq => nI kq | none => _); rw [← hin2, show m2 = 0 by omega]; rfl) (by omega) H locs hP hD hS ls (lv_sub hl [1, 2, 3, 0] rfl)
            have f_53 : ¬ 2 ^ cs ≤ k := fun h => c_53 ((nI_leI (a := 2 ^ cs) (b := k) (by first | omega | exact b_and1 _ | exact b_ct _ _ (by omega) | exact b_andr _ (by omega)) (by first | omega | exact b_and1 _ | exact b_ct _ _ (by omega) | exact b_andr _ (by omega))).mpr h)
            obtain ⟨m3, rfl⟩ : ∃ m3, m2 = m3 + 1 := ⟨m2 - 1, by omega⟩
            have hal := Nat.and_le_left (n := k) (m := bN (stP csl 15) cs)
            refine lv_iload hx hb dX4_mend_56 (lv_at hl 4 rfl) ?_
            refine lv_iload_n hx hb dX4_mend_58 rfl (lv_at hl 2 rfl) ?_
            refine lv_iand hx hb dX4_mend_59 ?_
            refine fx_eqi (fx_andI _ _) ?_
            refine lv_if_ne (tgt := 90) hx hb dX4_mend_60 (by decide) (fun c_60 => ?_) (fun c_60 => ?_)
            · have f_60 : ¬ k &&& (bN (stP csl 15) cs) = 0 := fun h => c_60 ((nI_eq (a := k &&& (bN (stP csl 15) cs)) (b := 0) (by first | omega | exact b_and1 _ | exact b_ct _ _ (by omega) | exact b_andr _ (by omega)) (by first | omega | exact b_and1 _ | exact b_ct _ _ (by omega) | exact b_andr _ (by omega))).mpr h)
              refine lv_iinc (v := nI (k + 1)) (lv' := [(4, .int (nI (k + 1))), (0, .ref (q 0)), (1, .int (nI n)), (2, .int (nI (bN (stP csl 15) cs))), (3, .int (nI s1))]) hx hb dX4_mend_90 hl (k := 4) rfl (by exact nI_1 _) (by decide) rfl (fun ls hl => ?_)
              refine lv_goto (tgt := 44) hx hb dX4_mend_93 (by decide) ?_
              exact ih_44 m3 (k + 1) (by first | assumption | omega) (by rw [← hin2]; simp [meI, f_60]) (by omega) H locs hP hD hS ls (lv_sub hl [1, 2, 3, 4, 0] rfl)
            have f_60 : k &&& (bN (stP csl 15) cs) = 0 := (nI_eq (a := k &&& (bN (stP csl 15) cs)) (b := 0) (by first | omega | exact b_and1 _ | exact b_ct _ _ (by omega) | exact b_andr _ (by omega)) (by first | omega | exact b_and1 _ | exact b_ct _ _ (by omega) | exact b_andr _ (by omega))).mp c_60
            refine lv_iload hx hb dX4_mend_63 (lv_at hl 4 rfl) ?_
            refine fx_callS (As := [.int (nI k)]) (rest := []) ⟨hx, hb, hml, hown, hts⟩ (c_J6_bitCount_0f7a4 l D cI cJ cZ (wA q cI cJ xro xtk xli cn ci cs cso cki cfa cfb cfc cva csn csd csl csb csr csc ((preT cso cki cfa cfb cfc cva csn csr cn cs false won wle (2 ^ ct (opP cso cva false) cn)).1) ((preT cso cki cfa cfb cfc cva csn csr cn cs false won wle (2 ^ ct (opP cso cva false) cn)).2) pte pho nwa nti) k (by first | assumption | omega)) (va_cwS 1 hts gX4_mend_J6_bitCount_0f7a4 rfl rfl rfl ks_J6_bitCount_0f7a4 ⟨Nat.le_of_ble_eq_true rfl, Nat.le_of_ble_eq_true rfl⟩) hK hP hD hS hA hZ rfl hl.1 rfl (lv_room (Nat.le_of_ble_eq_true rfl)) dX4_mend_65 ⟨Nat.zero_le _, Nat.zero_le _⟩ (fun u_5 H locs hu_5 hP hD hS => ?_)
            refine lv_iload_n hx hb dX4_mend_68 rfl (lv_at hl 3 rfl) ?_
            have hct := ct_le (fun jj => k.testBit jj) 6
            refine lv_icmp_ne (tgt := 90) hx hb dX4_mend_69 (by decide) (fun c_69 => ?_) (fun c_69 => ?_)
            · have f_69 : ¬ ct (fun jj => k.testBit jj) 6 = s1 := fun h => c_69 ((nI_eq (a := ct (fun jj => k.testBit jj) 6) (b := s1) (by first | omega | exact b_and1 _ | exact b_ct _ _ (by omega) | exact b_andr _ (by omega)) (by first | omega | exact b_and1 _ | exact b_ct _ _ (by omega) | exact b_andr _ (by omega))).mpr h)
              refine lv_iinc (v := nI (k + 1)) (lv' := [(4, .int (nI (k + 1))), (0, .ref (q 0)), (1, .int (nI n)), (2, .int (nI (bN (stP csl 15) cs))), (3, .int (nI s1))]) hx hb dX4_mend_90 hl (k := 4) rfl (by exact nI_1 _) (by decide) rfl (fun ls hl => ?_)
              refine lv_goto (tgt := 44) hx hb dX4_mend_93 (by decide) ?_
              exact ih_44 m3 (k + 1) (by first | assumption | omega) (by rw [← hin2]; simp [meI, f_60, f_69]) (by omega) H locs hP hD hS ls (lv_sub hl [1, 2, 3, 4, 0] rfl)
            have f_69 : ct (fun jj => k.testBit jj) 6 = s1 := (nI_eq (a := ct (fun jj => k.testBit jj) 6) (b := s1) (by first | omega | exact b_and1 _ | exact b_ct _ _ (by omega) | exact b_andr _ (by omega)) (by first | omega | exact b_and1 _ | exact b_ct _ _ (by omega) | exact b_andr _ (by omega))).mp c_69
            refine lv_aload_n hx hb dX4_mend_72 rfl (lv_at hl 0 rfl) ?_
            refine va_get (D := D) (ci := 4) (v := .ref (q 14)) (C := RX4) (T := TX4) (N := 7) hx hb hts (fun w h => List.mem_cons_of_mem _ (List.mem_append_left _ (List.mem_append_left _ (List.mem_append_right _ h)))) hown hK hP 0 rfl rfl 1 (by decide) (hts (.fieldLink RX4 21 "FirstStates" "walk" "LFirstStates$Walk;") (List.mem_of_getElem? (i := 1) rfl)) (fun _ h9 => h9) rfl dX4_mend_73 ?_
            refine lv_iload_n hx hb dX4_mend_76 rfl (lv_at hl 1 rfl) ?_
            refine lv_iload_n hx hb dX4_mend_77 rfl (lv_at hl 2 rfl) ?_
            refine lv_iload hx hb dX4_mend_78 (lv_at hl 4 rfl) ?_
            have hor : (bN (stP csl 15) cs) ||| k < 64 := Nat.or_lt_two_pow (n := 6) hln (by omega)
            refine lv_ior hx hb dX4_mend_80 ?_
            refine fx_eqi (fx_orI _ _) ?_
            refine fx_callV (As := [.int (nI n), .int (nI ((bN (stP csl 15) cs) ||| k))]) (rest := []) ⟨hx, hb, hml, hown, hts⟩ (c_X3_leavesOne l D cI cJ cZ q xro xtk xli cn ci cs cso cki cfa cfb cfc cva csn csd csl csb csr csc ((preT cso cki cfa cfb cfc cva csn csr cn cs false won wle (2 ^ ct (opP cso cva false) cn)).1) ((preT cso cki cfa cfb cfc cva csn csr cn cs false won wle (2 ^ ct (opP cso cva false) cn)).2) pte pho nwa nti n ((bN (stP csl 15) cs) ||| k) (by first | assumption | omega) (by first | assumption | omega) (by first | assumption | omega) (by first | assumption | omega)) (cwV 2 hts gX4_mend_X3_leavesOne rfl rfl rfl kv_X3_leavesOne ⟨Nat.le_of_ble_eq_true rfl, Nat.le_of_ble_eq_true rfl⟩) hK hP hD hS hA hZ 14 rfl rfl rfl rfl hl.1 rfl (lv_room (Nat.le_of_ble_eq_true rfl)) dX4_mend_81 ⟨Nat.zero_le _, Nat.zero_le _⟩ (fun u_6 H locs hu_6 hP hD hS => ?_)
            refine lv_if_eq (tgt := 90) hx hb dX4_mend_84 (by decide) (fun c_84 => ?_) (fun c_84 => ?_)
            · have f_84 : (decide (bct (lvF (aftF csb cs ((preT cso cki cfa cfb cfc cva csn csr cn cs false won wle (2 ^ ct (opP cso cva false) cn)).2) ((bN (stP csl 15) cs) ||| k)) n (alR cs)) = 1)) = false := bI_0.mp c_84
              refine lv_iinc (v := nI (k + 1)) (lv' := [(4, .int (nI (k + 1))), (0, .ref (q 0)), (1, .int (nI n)), (2, .int (nI (bN (stP csl 15) cs))), (3, .int (nI s1))]) hx hb dX4_mend_90 hl (k := 4) rfl (by exact nI_1 _) (by decide) rfl (fun ls hl => ?_)
              refine lv_goto (tgt := 44) hx hb dX4_mend_93 (by decide) ?_
              exact ih_44 m3 (k + 1) (by first | assumption | omega) (by rw [← hin2]; simp [meI, f_60, f_69, f_84]) (by omega) H locs hP hD hS ls (lv_sub hl [1, 2, 3, 4, 0] rfl)
            have f_84 : (decide (bct (lvF (aftF csb cs ((preT cso cki cfa cfb cfc cva csn csr cn cs false won wle (2 ^ ct (opP cso cva false) cn)).2) ((bN (stP csl 15) cs) ||| k)) n (alR cs)) = 1)) = true := bI_n0.mp c_84
            refine lv_iload hx hb dX4_mend_87 (lv_at hl 4 rfl) ?_
            exact hri () _ H locs 89 ls .int rfl rfl trivial (by rw [← hr1]; show some (Value.int (match meI _ (2 ^ cs) 0 with | some kq => nI kq | none => _)) = _; rw [← hin2]; simp [meI, f_60, f_69, f_84]) hP hD hS dX4_mend_89
        exact L_44 ((2 ^ cs) + 1) (2 ^ cs) 0 (by omega) rfl (Nat.lt_succ_self _) H locs hP hD hS ls (lv_sub hl [1, 2, 3, 4, 0] rfl)
    exact L_30 ((cs + 1) + 1) (cs + 1) 0 (by omega) rfl (Nat.lt_succ_self _) H locs hP hD hS ls (lv_sub hl [2, 3, 1, 0] rfl)
  have f_4 : (tickB (nI n)) = false := bI_0.mp c_4
  exfalso; rw [tickB_nI n hn64 hn1] at f_4; cases f_4
set_option maxHeartbeats 4000000 in
set_option maxRecDepth 100000 in
theorem c_X4_need_u (l : Launch) (D : va_G) (cI cJ cZ : ClassId) (q : Nat → Nat) (xro : Int64) (xtk : Nat) (xli : Nat) (cn : Nat) (ci : Nat) (cs : Nat) (cso : Nat → Nat) (cki : Nat → Nat) (cfa : Nat → Nat) (cfb : Nat → Nat) (cfc : Nat → Nat) (cva : Nat → Nat) (csn : Nat → Nat) (csd : Nat → Nat) (csl : Nat → Nat) (csb : Nat → Nat) (csr : Nat → Nat) (csc : Nat → Nat) (won : Nat → Int64) (wle : Nat → Int64) (pte : Nat → Nat) (pho : Nat → Nat) (nwa : Nat → Int32) (nti : Nat → Int32) (x : Int32) (y : Int32) (zz : Int32) (hu : (isN 4 x && isN 4 y) = false) : Ct l D cI cJ cZ yX4_need wsX4_need ({ frames := 1, cells := 0, slots := 0, locals := 20 } : Room) 0 0 [.ref (q 0), .int x, .int y, .int zz] (wA q cI cJ xro xtk xli cn ci cs cso cki cfa cfb cfc cva csn csd csl csb csr csc won wle pte pho nwa nti) (S := Unit) (fun u => True) (fun u => some (.int (-1))) (fun u => (wA q cI cJ xro xtk xli cn ci cs cso cki cfa cfb cfc cva csn csd csl csb csr csc won wle pte pho nwa nti)) := by
  refine Ct.ofW (cc := cX4_need) (maxL := 4) (ret := (some .int)) (R_C := RX4) (by decide +kernel) rfl rfl (Nat.le_of_ble_eq_true rfl) rfl ?_
  intro p e s m args below meth c A Q ls H locs hx hb hml hown hts hK hA hP hD hS hZ hl hri hrl hrv
  refine lv_iload_n hx hb dX4_need_0 rfl (lv_at hl 1 rfl) ?_
  refine fx_callS (As := [.int x]) (rest := []) ⟨hx, hb, hml, hown, hts⟩ (c_X4_isLine l D cI cJ cZ (wA q cI cJ xro xtk xli cn ci cs cso cki cfa cfb cfc cva csn csd csl csb csr csc won wle pte pho nwa nti) x) (va_cwS 1 hts gX4_need_X4_isLine rfl rfl rfl ks_X4_isLine ⟨Nat.le_of_ble_eq_true rfl, Nat.le_of_ble_eq_true rfl⟩) hK hP hD hS hA hZ rfl hl.1 rfl (lv_room (Nat.le_of_ble_eq_true rfl)) dX4_need_1 ⟨Nat.zero_le _, Nat.zero_le _⟩ (fun u_1 H locs hu_1 hP hD hS => ?_)
  refine lv_if_eq (tgt := 14) hx hb dX4_need_4 (by decide) (fun c_4 => ?_) (fun c_4 => ?_)
  · have f_4 : (isN 4 x) = false := bI_0.mp c_4
    refine lv_iconst (v := (-1)) hx hb dX4_need_14 (by decide) ?_
    exact hri () _ H locs 15 ls .int rfl rfl trivial rfl hP hD hS dX4_need_15
  have f_4 : (isN 4 x) = true := bI_n0.mp c_4
  refine lv_iload_n hx hb dX4_need_7 rfl (lv_at hl 2 rfl) ?_
  refine fx_callS (As := [.int y]) (rest := []) ⟨hx, hb, hml, hown, hts⟩ (c_X4_isLine l D cI cJ cZ (wA q cI cJ xro xtk xli cn ci cs cso cki cfa cfb cfc cva csn csd csl csb csr csc won wle pte pho nwa nti) y) (va_cwS 1 hts gX4_need_X4_isLine rfl rfl rfl ks_X4_isLine ⟨Nat.le_of_ble_eq_true rfl, Nat.le_of_ble_eq_true rfl⟩) hK hP hD hS hA hZ rfl hl.1 rfl (lv_room (Nat.le_of_ble_eq_true rfl)) dX4_need_8 ⟨Nat.zero_le _, Nat.zero_le _⟩ (fun u_2 H locs hu_2 hP hD hS => ?_)
  refine lv_if_ne (tgt := 16) hx hb dX4_need_11 (by decide) (fun c_11 => ?_) (fun c_11 => ?_)
  · have f_11 : (isN 4 y) = true := bI_n0.mp c_11
    exfalso; simp [f_4, f_11] at hu
  have f_11 : (isN 4 y) = false := bI_0.mp c_11
  refine lv_iconst (v := (-1)) hx hb dX4_need_14 (by decide) ?_
  exact hri () _ H locs 15 ls .int rfl rfl trivial rfl hP hD hS dX4_need_15
set_option maxHeartbeats 4000000 in
set_option maxRecDepth 100000 in
theorem c_X4_need_o (l : Launch) (D : va_G) (cI cJ cZ : ClassId) (q : Nat → Nat) (xro : Int64) (xtk : Nat) (xli : Nat) (cn : Nat) (ci : Nat) (cs : Nat) (cso : Nat → Nat) (cki : Nat → Nat) (cfa : Nat → Nat) (cfb : Nat → Nat) (cfc : Nat → Nat) (cva : Nat → Nat) (csn : Nat → Nat) (csd : Nat → Nat) (csl : Nat → Nat) (csb : Nat → Nat) (csr : Nat → Nat) (csc : Nat → Nat) (won : Nat → Int64) (wle : Nat → Int64) (pte : Nat → Nat) (pho : Nat → Nat) (nwa : Nat → Int32) (nti : Nat → Int32) (a : Nat) (b : Nat) (zz : Int32) (ha : a < 4) (hb4 : b < 4) (hz9 : ¬ zz = (-9)) (hz : zz < 0 ∨ ¬ zz ≤ nI 20) : Ct l D cI cJ cZ yX4_need wsX4_need ({ frames := 1, cells := 0, slots := 0, locals := 20 } : Room) 0 0 [.ref (q 0), .int (nI a), .int (nI b), .int zz] (wA q cI cJ xro xtk xli cn ci cs cso cki cfa cfb cfc cva csn csd csl csb csr csc won wle pte pho nwa nti) (S := Unit) (fun u => True) (fun u => some (.int (-2))) (fun u => (wA q cI cJ xro xtk xli cn ci cs cso cki cfa cfb cfc cva csn csd csl csb csr csc won wle pte pho nwa nti)) := by
  refine Ct.ofW (cc := cX4_need) (maxL := 4) (ret := (some .int)) (R_C := RX4) (by decide +kernel) rfl rfl (Nat.le_of_ble_eq_true rfl) rfl ?_
  intro p e s m args below meth c A Q ls H locs hx hb hml hown hts hK hA hP hD hS hZ hl hri hrl hrv
  refine lv_iload_n hx hb dX4_need_0 rfl (lv_at hl 1 rfl) ?_
  refine fx_callS (As := [.int (nI a)]) (rest := []) ⟨hx, hb, hml, hown, hts⟩ (c_X4_isLine l D cI cJ cZ (wA q cI cJ xro xtk xli cn ci cs cso cki cfa cfb cfc cva csn csd csl csb csr csc won wle pte pho nwa nti) (nI a)) (va_cwS 1 hts gX4_need_X4_isLine rfl rfl rfl ks_X4_isLine ⟨Nat.le_of_ble_eq_true rfl, Nat.le_of_ble_eq_true rfl⟩) hK hP hD hS hA hZ rfl hl.1 rfl (lv_room (Nat.le_of_ble_eq_true rfl)) dX4_need_1 ⟨Nat.zero_le _, Nat.zero_le _⟩ (fun u_1 H locs hu_1 hP hD hS => ?_)
  refine lv_if_eq (tgt := 14) hx hb dX4_need_4 (by decide) (fun c_4 => ?_) (fun c_4 => ?_)
  · have f_4 : (isN 4 (nI a)) = false := bI_0.mp c_4
    exfalso; rw [isN_nI (by omega) (by omega)] at f_4; simp at f_4; omega
  have f_4 : (isN 4 (nI a)) = true := bI_n0.mp c_4
  refine lv_iload_n hx hb dX4_need_7 rfl (lv_at hl 2 rfl) ?_
  refine fx_callS (As := [.int (nI b)]) (rest := []) ⟨hx, hb, hml, hown, hts⟩ (c_X4_isLine l D cI cJ cZ (wA q cI cJ xro xtk xli cn ci cs cso cki cfa cfb cfc cva csn csd csl csb csr csc won wle pte pho nwa nti) (nI b)) (va_cwS 1 hts gX4_need_X4_isLine rfl rfl rfl ks_X4_isLine ⟨Nat.le_of_ble_eq_true rfl, Nat.le_of_ble_eq_true rfl⟩) hK hP hD hS hA hZ rfl hl.1 rfl (lv_room (Nat.le_of_ble_eq_true rfl)) dX4_need_8 ⟨Nat.zero_le _, Nat.zero_le _⟩ (fun u_2 H locs hu_2 hP hD hS => ?_)
  refine lv_if_ne (tgt := 16) hx hb dX4_need_11 (by decide) (fun c_11 => ?_) (fun c_11 => ?_)
  · have f_11 : (isN 4 (nI b)) = true := bI_n0.mp c_11
    refine lv_iload_n hx hb dX4_need_16 rfl (lv_at hl 3 rfl) ?_
    refine lv_bipush (v := (-9)) hx hb dX4_need_17 (by decide) ?_
    refine lv_icmp_eq (tgt := 35) hx hb dX4_need_19 (by decide) (fun c_19 => ?_) (fun c_19 => ?_)
    · exfalso; exact hz9 c_19
    refine lv_iload_n hx hb dX4_need_22 rfl (lv_at hl 3 rfl) ?_
    refine lv_if_lt (tgt := 32) hx hb dX4_need_23 (by decide) (fun c_23 => ?_) (fun c_23 => ?_)
    · refine lv_bipush (v := (-2)) hx hb dX4_need_32 (by decide) ?_
      exact hri () _ H locs 34 ls .int rfl rfl trivial rfl hP hD hS dX4_need_34
    refine lv_iload_n hx hb dX4_need_26 rfl (lv_at hl 3 rfl) ?_
    refine lv_bipush (v := nI 20) hx hb dX4_need_27 (by decide) ?_
    refine lv_icmp_le (tgt := 35) hx hb dX4_need_29 (by decide) (fun c_29 => ?_) (fun c_29 => ?_)
    · exfalso; rcases hz with h | h; exact c_23 h; exact h c_29
    refine lv_bipush (v := (-2)) hx hb dX4_need_32 (by decide) ?_
    exact hri () _ H locs 34 ls .int rfl rfl trivial rfl hP hD hS dX4_need_34
  have f_11 : (isN 4 (nI b)) = false := bI_0.mp c_11
  exfalso; rw [isN_nI (by omega) (by omega)] at f_11; simp at f_11; omega
set_option maxHeartbeats 4000000 in
set_option maxRecDepth 100000 in
theorem c_X4_need (l : Launch) (D : va_G) (cI cJ cZ : ClassId) (q : Nat → Nat) (xro : Int64) (xtk : Nat) (xli : Nat) (cn : Nat) (ci : Nat) (cs : Nat) (cso : Nat → Nat) (cki : Nat → Nat) (cfa : Nat → Nat) (cfb : Nat → Nat) (cfc : Nat → Nat) (cva : Nat → Nat) (csn : Nat → Nat) (csd : Nat → Nat) (csl : Nat → Nat) (csb : Nat → Nat) (csr : Nat → Nat) (csc : Nat → Nat) (won : Nat → Int64) (wle : Nat → Int64) (pte : Nat → Nat) (pho : Nat → Nat) (nwa : Nat → Int32) (nti : Nat → Int32) (a : Nat) (b : Nat) (zz : Int32) (ha : a < 4) (hb4 : b < 4) (hz : zz = (-9) ∨ (¬ zz < 0 ∧ zz ≤ nI 20)) : Ct l D cI cJ cZ yX4_need wsX4_need ({ frames := 1, cells := 0, slots := 0, locals := 24 } : Room) 0 0 [.ref (q 0), .int (nI a), .int (nI b), .int zz] (wA q cI cJ xro xtk xli cn ci cs cso cki cfa cfb cfc cva csn csd csl csb csr csc won wle pte pho nwa nti) (S := Unit) (fun u => True) (fun u => some (.int (nwa (4 * a + b)))) (fun u => (wA q cI cJ xro xtk xli cn ci cs cso cki cfa cfb cfc cva csn csd csl csb csr csc won wle pte pho (va_up nwa (4 * a + b) zz) nti)) := by
  refine Ct.ofW (cc := cX4_need) (maxL := 4) (ret := (some .int)) (R_C := RX4) (by decide +kernel) rfl rfl (Nat.le_of_ble_eq_true rfl) rfl ?_
  intro p e s m args below meth c A Q ls H locs hx hb hml hown hts hK hA hP hD hS hZ hl hri hrl hrv
  refine lv_iload_n hx hb dX4_need_0 rfl (lv_at hl 1 rfl) ?_
  refine fx_callS (As := [.int (nI a)]) (rest := []) ⟨hx, hb, hml, hown, hts⟩ (c_X4_isLine l D cI cJ cZ (wA q cI cJ xro xtk xli cn ci cs cso cki cfa cfb cfc cva csn csd csl csb csr csc won wle pte pho nwa nti) (nI a)) (va_cwS 1 hts gX4_need_X4_isLine rfl rfl rfl ks_X4_isLine ⟨Nat.le_of_ble_eq_true rfl, Nat.le_of_ble_eq_true rfl⟩) hK hP hD hS hA hZ rfl hl.1 rfl (lv_room (Nat.le_of_ble_eq_true rfl)) dX4_need_1 ⟨Nat.zero_le _, Nat.zero_le _⟩ (fun u_1 H locs hu_1 hP hD hS => ?_)
  refine lv_if_eq (tgt := 14) hx hb dX4_need_4 (by decide) (fun c_4 => ?_) (fun c_4 => ?_)
  · have f_4 : (isN 4 (nI a)) = false := bI_0.mp c_4
    exfalso; rw [isN_nI (by omega) (by omega)] at f_4; simp at f_4; omega
  have f_4 : (isN 4 (nI a)) = true := bI_n0.mp c_4
  refine lv_iload_n hx hb dX4_need_7 rfl (lv_at hl 2 rfl) ?_
  refine fx_callS (As := [.int (nI b)]) (rest := []) ⟨hx, hb, hml, hown, hts⟩ (c_X4_isLine l D cI cJ cZ (wA q cI cJ xro xtk xli cn ci cs cso cki cfa cfb cfc cva csn csd csl csb csr csc won wle pte pho nwa nti) (nI b)) (va_cwS 1 hts gX4_need_X4_isLine rfl rfl rfl ks_X4_isLine ⟨Nat.le_of_ble_eq_true rfl, Nat.le_of_ble_eq_true rfl⟩) hK hP hD hS hA hZ rfl hl.1 rfl (lv_room (Nat.le_of_ble_eq_true rfl)) dX4_need_8 ⟨Nat.zero_le _, Nat.zero_le _⟩ (fun u_2 H locs hu_2 hP hD hS => ?_)
  refine lv_if_ne (tgt := 16) hx hb dX4_need_11 (by decide) (fun c_11 => ?_) (fun c_11 => ?_)
  · have f_11 : (isN 4 (nI b)) = true := bI_n0.mp c_11
    refine lv_iload_n hx hb dX4_need_16 rfl (lv_at hl 3 rfl) ?_
    refine lv_bipush (v := (-9)) hx hb dX4_need_17 (by decide) ?_
    refine lv_icmp_eq (tgt := 35) hx hb dX4_need_19 (by decide) (fun c_19 => ?_) (fun c_19 => ?_)
    · refine lv_aload_n hx hb dX4_need_35 rfl (lv_at hl 0 rfl) ?_
      refine va_get (D := D) (ci := 4) (v := .ref (q 20)) (C := RX4) (T := TX4) (N := 7) hx hb hts (fun w h => List.mem_cons_of_mem _ (List.mem_append_left _ (List.mem_append_right _ h))) hown hK hP 0 rfl rfl 3 (by decide) (hts (.fieldLink RX4 35 "FirstStates" "needs" "LFirstStates$Needs;") (List.mem_of_getElem? (i := 1) rfl)) (fun _ h9 => h9) rfl dX4_need_36 ?_
      refine lv_iload_n hx hb dX4_need_39 rfl (lv_at hl 1 rfl) ?_
      refine lv_iload_n hx hb dX4_need_40 rfl (lv_at hl 2 rfl) ?_
      refine lv_iload_n hx hb dX4_need_41 rfl (lv_at hl 3 rfl) ?_
      refine fx_callV (As := [.int (nI a), .int (nI b), .int zz]) (rest := []) ⟨hx, hb, hml, hown, hts⟩ (c_X1_change l D cI cJ cZ q xro xtk xli cn ci cs cso cki cfa cfb cfc cva csn csd csl csb csr csc won wle pte pho nwa nti a b zz (by first | assumption | omega) (by first | assumption | omega)) (cwV 3 hts gX4_need_X1_change rfl rfl rfl kv_X1_change ⟨Nat.le_of_ble_eq_true rfl, Nat.le_of_ble_eq_true rfl⟩) hK hP hD hS hA hZ 20 rfl rfl rfl rfl hl.1 rfl (lv_room (Nat.le_of_ble_eq_true rfl)) dX4_need_42 ⟨Nat.zero_le _, Nat.zero_le _⟩ (fun u_3 H locs hu_3 hP hD hS => ?_)
      have hP : va_P D vwCl (wA q cI cJ xro xtk xli cn ci cs cso cki cfa cfb cfc cva csn csd csl csb csr csc won wle pte pho (va_up nwa (4 * a + b) zz) nti) H := hP
      have hD : va_D A (wA q cI cJ xro xtk xli cn ci cs cso cki cfa cfb cfc cva csn csd csl csb csr csc won wle pte pho (va_up nwa (4 * a + b) zz) nti) := fx_D hD rfl
      exact hri () _ H locs 45 ls .int rfl rfl trivial rfl hP hD hS dX4_need_45
    refine lv_iload_n hx hb dX4_need_22 rfl (lv_at hl 3 rfl) ?_
    refine lv_if_lt (tgt := 32) hx hb dX4_need_23 (by decide) (fun c_23 => ?_) (fun c_23 => ?_)
    · exfalso; rcases hz with h | h; exact c_19 h; exact h.1 c_23
    refine lv_iload_n hx hb dX4_need_26 rfl (lv_at hl 3 rfl) ?_
    refine lv_bipush (v := nI 20) hx hb dX4_need_27 (by decide) ?_
    refine lv_icmp_le (tgt := 35) hx hb dX4_need_29 (by decide) (fun c_29 => ?_) (fun c_29 => ?_)
    · refine lv_aload_n hx hb dX4_need_35 rfl (lv_at hl 0 rfl) ?_
      refine va_get (D := D) (ci := 4) (v := .ref (q 20)) (C := RX4) (T := TX4) (N := 7) hx hb hts (fun w h => List.mem_cons_of_mem _ (List.mem_append_left _ (List.mem_append_right _ h))) hown hK hP 0 rfl rfl 3 (by decide) (hts (.fieldLink RX4 35 "FirstStates" "needs" "LFirstStates$Needs;") (List.mem_of_getElem? (i := 1) rfl)) (fun _ h9 => h9) rfl dX4_need_36 ?_
      refine lv_iload_n hx hb dX4_need_39 rfl (lv_at hl 1 rfl) ?_
      refine lv_iload_n hx hb dX4_need_40 rfl (lv_at hl 2 rfl) ?_
      refine lv_iload_n hx hb dX4_need_41 rfl (lv_at hl 3 rfl) ?_
      refine fx_callV (As := [.int (nI a), .int (nI b), .int zz]) (rest := []) ⟨hx, hb, hml, hown, hts⟩ (c_X1_change l D cI cJ cZ q xro xtk xli cn ci cs cso cki cfa cfb cfc cva csn csd csl csb csr csc won wle pte pho nwa nti a b zz (by first | assumption | omega) (by first | assumption | omega)) (cwV 3 hts gX4_need_X1_change rfl rfl rfl kv_X1_change ⟨Nat.le_of_ble_eq_true rfl, Nat.le_of_ble_eq_true rfl⟩) hK hP hD hS hA hZ 20 rfl rfl rfl rfl hl.1 rfl (lv_room (Nat.le_of_ble_eq_true rfl)) dX4_need_42 ⟨Nat.zero_le _, Nat.zero_le _⟩ (fun u_4 H locs hu_4 hP hD hS => ?_)
      have hP : va_P D vwCl (wA q cI cJ xro xtk xli cn ci cs cso cki cfa cfb cfc cva csn csd csl csb csr csc won wle pte pho (va_up nwa (4 * a + b) zz) nti) H := hP
      have hD : va_D A (wA q cI cJ xro xtk xli cn ci cs cso cki cfa cfb cfc cva csn csd csl csb csr csc won wle pte pho (va_up nwa (4 * a + b) zz) nti) := fx_D hD rfl
      exact hri () _ H locs 45 ls .int rfl rfl trivial rfl hP hD hS dX4_need_45
    exfalso; rcases hz with h | h; exact c_19 h; exact c_29 h.2
  have f_11 : (isN 4 (nI b)) = false := bI_0.mp c_11
  exfalso; rw [isN_nI (by omega) (by omega)] at f_11; simp at f_11; omega
set_option maxHeartbeats 4000000 in
set_option maxRecDepth 100000 in
theorem c_X4_go_u (l : Launch) (D : va_G) (cI cJ cZ : ClassId) (q : Nat → Nat) (xro : Int64) (xtk : Nat) (xli : Nat) (cn : Nat) (ci : Nat) (cs : Nat) (cso : Nat → Nat) (cki : Nat → Nat) (cfa : Nat → Nat) (cfb : Nat → Nat) (cfc : Nat → Nat) (cva : Nat → Nat) (csn : Nat → Nat) (csd : Nat → Nat) (csl : Nat → Nat) (csb : Nat → Nat) (csr : Nat → Nat) (csc : Nat → Nat) (won : Nat → Int64) (wle : Nat → Int64) (pte : Nat → Nat) (pho : Nat → Nat) (nwa : Nat → Int32) (nti : Nat → Int32) (x : Int32) (hl4 : isN 4 x = false) : Ct l D cI cJ cZ yX4_go wsX4_go ({ frames := 1, cells := 0, slots := 0, locals := 20 } : Room) 0 0 [.ref (q 0), .int x] (wA q cI cJ xro xtk xli cn ci cs cso cki cfa cfb cfc cva csn csd csl csb csr csc won wle pte pho nwa nti) (S := Unit) (fun u => True) (fun u => some (.int (-1))) (fun u => (wA q cI cJ xro xtk xli cn ci cs cso cki cfa cfb cfc cva csn csd csl csb csr csc won wle pte pho nwa nti)) := by
  refine Ct.ofW (cc := cX4_go) (maxL := 2) (ret := (some .int)) (R_C := RX4) (by decide +kernel) rfl rfl (Nat.le_of_ble_eq_true rfl) rfl ?_
  intro p e s m args below meth c A Q ls H locs hx hb hml hown hts hK hA hP hD hS hZ hl hri hrl hrv
  refine lv_iload_n hx hb dX4_go_0 rfl (lv_at hl 1 rfl) ?_
  refine fx_callS (As := [.int x]) (rest := []) ⟨hx, hb, hml, hown, hts⟩ (c_X4_isLine l D cI cJ cZ (wA q cI cJ xro xtk xli cn ci cs cso cki cfa cfb cfc cva csn csd csl csb csr csc won wle pte pho nwa nti) x) (va_cwS 1 hts gX4_go_X4_isLine rfl rfl rfl ks_X4_isLine ⟨Nat.le_of_ble_eq_true rfl, Nat.le_of_ble_eq_true rfl⟩) hK hP hD hS hA hZ rfl hl.1 rfl (lv_room (Nat.le_of_ble_eq_true rfl)) dX4_go_1 ⟨Nat.zero_le _, Nat.zero_le _⟩ (fun u_1 H locs hu_1 hP hD hS => ?_)
  refine lv_if_ne (tgt := 9) hx hb dX4_go_4 (by decide) (fun c_4 => ?_) (fun c_4 => ?_)
  · have f_4 : (isN 4 x) = true := bI_n0.mp c_4
    exfalso; rw [hl4] at f_4; cases f_4
  have f_4 : (isN 4 x) = false := bI_0.mp c_4
  refine lv_iconst (v := (-1)) hx hb dX4_go_7 (by decide) ?_
  exact hri () _ H locs 8 ls .int rfl rfl trivial rfl hP hD hS dX4_go_8
set_option maxHeartbeats 4000000 in
set_option maxRecDepth 100000 in
theorem c_X4_go (l : Launch) (D : va_G) (cI cJ cZ : ClassId) (q : Nat → Nat) (xro : Int64) (xtk : Nat) (xli : Nat) (cn : Nat) (ci : Nat) (cs : Nat) (cso : Nat → Nat) (cki : Nat → Nat) (cfa : Nat → Nat) (cfb : Nat → Nat) (cfc : Nat → Nat) (cva : Nat → Nat) (csn : Nat → Nat) (csd : Nat → Nat) (csl : Nat → Nat) (csb : Nat → Nat) (csr : Nat → Nat) (csc : Nat → Nat) (won : Nat → Int64) (wle : Nat → Int64) (pte : Nat → Nat) (pho : Nat → Nat) (nwa : Nat → Int32) (nti : Nat → Int32) (k : Nat) (hk : k < 4) : Ct l D cI cJ cZ yX4_go wsX4_go ({ frames := 2, cells := 0, slots := 0, locals := 45 } : Room) 0 0 [.ref (q 0), .int (nI k)] (wA q cI cJ xro xtk xli cn ci cs cso cki cfa cfb cfc cva csn csd csl csb csr csc won wle pte pho nwa nti) (S := Unit) (fun u => True) (fun u => some (.int (rndT true nwa (rndT false nwa (mixF (fun _ => 0) nti 4) 4) 4 k))) (fun u => (wA q cI cJ xro xtk xli cn ci cs cso cki cfa cfb cfc cva csn csd csl csb csr csc won wle pte pho nwa (rndT true nwa (rndT false nwa (mixF (fun _ => 0) nti 4) 4) 4))) := by
  refine Ct.ofW (cc := cX4_go) (maxL := 2) (ret := (some .int)) (R_C := RX4) (by decide +kernel) rfl rfl (Nat.le_of_ble_eq_true rfl) rfl ?_
  intro p e s m args below meth c A Q ls H locs hx hb hml hown hts hK hA hP hD hS hZ hl hri hrl hrv
  refine lv_iload_n hx hb dX4_go_0 rfl (lv_at hl 1 rfl) ?_
  refine fx_callS (As := [.int (nI k)]) (rest := []) ⟨hx, hb, hml, hown, hts⟩ (c_X4_isLine l D cI cJ cZ (wA q cI cJ xro xtk xli cn ci cs cso cki cfa cfb cfc cva csn csd csl csb csr csc won wle pte pho nwa nti) (nI k)) (va_cwS 1 hts gX4_go_X4_isLine rfl rfl rfl ks_X4_isLine ⟨Nat.le_of_ble_eq_true rfl, Nat.le_of_ble_eq_true rfl⟩) hK hP hD hS hA hZ rfl hl.1 rfl (lv_room (Nat.le_of_ble_eq_true rfl)) dX4_go_1 ⟨Nat.zero_le _, Nat.zero_le _⟩ (fun u_1 H locs hu_1 hP hD hS => ?_)
  refine lv_if_ne (tgt := 9) hx hb dX4_go_4 (by decide) (fun c_4 => ?_) (fun c_4 => ?_)
  · have f_4 : (isN 4 (nI k)) = true := bI_n0.mp c_4
    refine lv_aload_n hx hb dX4_go_9 rfl (lv_at hl 0 rfl) ?_
    refine va_get (D := D) (ci := 4) (v := .ref (q 20)) (C := RX4) (T := TX4) (N := 7) hx hb hts (fun w h => List.mem_cons_of_mem _ (List.mem_append_left _ (List.mem_append_right _ h))) hown hK hP 0 rfl rfl 3 (by decide) (hts (.fieldLink RX4 35 "FirstStates" "needs" "LFirstStates$Needs;") (List.mem_of_getElem? (i := 1) rfl)) (fun _ h9 => h9) rfl dX4_go_10 ?_
    refine fx_callV (As := []) (rest := []) ⟨hx, hb, hml, hown, hts⟩ (c_X1_reckon l D cI cJ cZ q xro xtk xli cn ci cs cso cki cfa cfb cfc cva csn csd csl csb csr csc won wle pte pho nwa nti) (cwV 0 hts gX4_go_X1_reckon rfl rfl rfl kv_X1_reckon ⟨Nat.le_of_ble_eq_true rfl, Nat.le_of_ble_eq_true rfl⟩) hK hP hD hS hA hZ 20 rfl rfl rfl rfl hl.1 rfl (lv_room (Nat.le_of_ble_eq_true rfl)) dX4_go_13 ⟨Nat.zero_le _, Nat.zero_le _⟩ (fun u_2 H locs hu_2 hP hD hS => ?_)
    have hP : va_P D vwCl (wA q cI cJ xro xtk xli cn ci cs cso cki cfa cfb cfc cva csn csd csl csb csr csc won wle pte pho nwa (rndT true nwa (rndT false nwa (mixF (fun _ => 0) nti 4) 4) 4)) H := hP
    have hD : va_D A (wA q cI cJ xro xtk xli cn ci cs cso cki cfa cfb cfc cva csn csd csl csb csr csc won wle pte pho nwa (rndT true nwa (rndT false nwa (mixF (fun _ => 0) nti 4) 4) 4)) := fx_D hD rfl
    refine lv_aload_n hx hb dX4_go_16 rfl (lv_at hl 0 rfl) ?_
    refine va_get (D := D) (ci := 4) (v := .ref (q 20)) (C := RX4) (T := TX4) (N := 7) hx hb hts (fun w h => List.mem_cons_of_mem _ (List.mem_append_left _ (List.mem_append_right _ h))) hown hK hP 0 rfl rfl 3 (by decide) (hts (.fieldLink RX4 35 "FirstStates" "needs" "LFirstStates$Needs;") (List.mem_of_getElem? (i := 1) rfl)) (fun _ h9 => h9) rfl dX4_go_17 ?_
    refine va_get (D := D) (ci := 1) (v := .ref (q 22)) (C := RX1) (T := TX1) (N := 2) hx hb hts (fun w h => List.mem_cons_of_mem _ (List.mem_append_right _ h)) hown hK hP 20 rfl rfl 1 (by decide) (hts (.fieldLink RX4 199 "FirstStates$Needs" "times" "[I") (List.mem_of_getElem? (i := 2) rfl)) (fun _ h9 => h9) rfl dX4_go_20 ?_
    refine lv_iload_n hx hb dX4_go_23 rfl (lv_at hl 1 rfl) ?_
    refine fx_iald (ar := rI) hx hb hK hP 22 (f := (rndT true nwa (rndT false nwa (mixF (fun _ => 0) nti 4) 4) 4)) (k := k) rfl (by omega) (by decide) dX4_go_24 ?_
    exact hri () _ H locs 25 ls .int rfl rfl trivial rfl hP hD hS dX4_go_25
  have f_4 : (isN 4 (nI k)) = false := bI_0.mp c_4
  exfalso; rw [isN_nI (by omega) (by omega)] at f_4; simp at f_4; omega
set_option maxHeartbeats 4000000 in
set_option maxRecDepth 100000 in
theorem c_X4_gone_o (l : Launch) (D : va_G) (cI cJ cZ : ClassId) (q : Nat → Nat) (xro : Int64) (xtk : Nat) (xli : Nat) (cn : Nat) (ci : Nat) (cs : Nat) (cso : Nat → Nat) (cki : Nat → Nat) (cfa : Nat → Nat) (cfb : Nat → Nat) (cfc : Nat → Nat) (cva : Nat → Nat) (csn : Nat → Nat) (csd : Nat → Nat) (csl : Nat → Nat) (csb : Nat → Nat) (csr : Nat → Nat) (csc : Nat → Nat) (won : Nat → Int64) (wle : Nat → Int64) (pte : Nat → Nat) (pho : Nat → Nat) (nwa : Nat → Int32) (nti : Nat → Int32) (x : Int32) (hx0 : x < 0) : Ct l D cI cJ cZ yX4_gone wsX4_gone ({ frames := 0, cells := 0, slots := 0, locals := 0 } : Room) 0 0 [.ref (q 0), .int x] (wA q cI cJ xro xtk xli cn ci cs cso cki cfa cfb cfc cva csn csd csl csb csr csc won wle pte pho nwa nti) (S := Unit) (fun u => True) (fun u => some (.int (-2))) (fun u => (wA q cI cJ xro xtk xli cn ci cs cso cki cfa cfb cfc cva csn csd csl csb csr csc won wle pte pho nwa nti)) := by
  refine Ct.ofW (cc := cX4_gone) (maxL := 4) (ret := (some .int)) (R_C := RX4) (by decide +kernel) rfl rfl (Nat.le_of_ble_eq_true rfl) rfl ?_
  intro p e s m args below meth c A Q ls H locs hx hb hml hown hts hK hA hP hD hS hZ hl hri hrl hrv
  refine lv_iload_n hx hb dX4_gone_0 rfl (lv_at hl 1 rfl) ?_
  refine lv_if_ge (tgt := 7) hx hb dX4_gone_1 (by decide) (fun c_1 => ?_) (fun c_1 => ?_)
  · exfalso; exact absurd hx0 (Int32.not_lt.mpr c_1)
  refine lv_bipush (v := (-2)) hx hb dX4_gone_4 (by decide) ?_
  exact hri () _ H locs 6 ls .int rfl rfl trivial rfl hP hD hS dX4_gone_6
set_option maxHeartbeats 4000000 in
set_option maxRecDepth 100000 in
theorem c_X4_gone (l : Launch) (D : va_G) (cI cJ cZ : ClassId) (q : Nat → Nat) (xro : Int64) (xtk : Nat) (xli : Nat) (cn : Nat) (ci : Nat) (cs : Nat) (cso : Nat → Nat) (cki : Nat → Nat) (cfa : Nat → Nat) (cfb : Nat → Nat) (cfc : Nat → Nat) (cva : Nat → Nat) (csn : Nat → Nat) (csd : Nat → Nat) (csl : Nat → Nat) (csb : Nat → Nat) (csr : Nat → Nat) (csc : Nat → Nat) (won : Nat → Int64) (wle : Nat → Int64) (pte : Nat → Nat) (pho : Nat → Nat) (nwa : Nat → Int32) (nti : Nat → Int32) (x : Int32) (hx0 : ¬ x < 0) : Ct l D cI cJ cZ yX4_gone wsX4_gone ({ frames := 2, cells := 0, slots := 0, locals := 45 } : Room) 0 0 [.ref (q 0), .int x] (wA q cI cJ xro xtk xli cn ci cs cso cki cfa cfb cfc cva csn csd csl csb csr csc won wle pte pho nwa nti) (S := Unit) (fun u => True) (fun u => some (.int (nI (ct (goneP (rndT true nwa (rndT false nwa (mixF (fun _ => 0) nti 4) 4) 4) x) 4)))) (fun u => (wA q cI cJ xro xtk xli cn ci cs cso cki cfa cfb cfc cva csn csd csl csb csr csc won wle pte pho nwa (rndT true nwa (rndT false nwa (mixF (fun _ => 0) nti 4) 4) 4))) := by
  refine Ct.ofW (cc := cX4_gone) (maxL := 4) (ret := (some .int)) (R_C := RX4) (by decide +kernel) rfl rfl (Nat.le_of_ble_eq_true rfl) rfl ?_
  intro p e s m args below meth c A Q ls H locs hx hb hml hown hts hK hA hP hD hS hZ hl hri hrl hrv
  refine lv_iload_n hx hb dX4_gone_0 rfl (lv_at hl 1 rfl) ?_
  refine lv_if_ge (tgt := 7) hx hb dX4_gone_1 (by decide) (fun c_1 => ?_) (fun c_1 => ?_)
  · refine lv_aload_n hx hb dX4_gone_7 rfl (lv_at hl 0 rfl) ?_
    refine va_get (D := D) (ci := 4) (v := .ref (q 20)) (C := RX4) (T := TX4) (N := 7) hx hb hts (fun w h => List.mem_cons_of_mem _ (List.mem_append_left _ (List.mem_append_right _ h))) hown hK hP 0 rfl rfl 3 (by decide) (hts (.fieldLink RX4 35 "FirstStates" "needs" "LFirstStates$Needs;") (List.mem_of_getElem? (i := 1) rfl)) (fun _ h9 => h9) rfl dX4_gone_8 ?_
    refine fx_callV (As := []) (rest := []) ⟨hx, hb, hml, hown, hts⟩ (c_X1_reckon l D cI cJ cZ q xro xtk xli cn ci cs cso cki cfa cfb cfc cva csn csd csl csb csr csc won wle pte pho nwa nti) (cwV 0 hts gX4_gone_X1_reckon rfl rfl rfl kv_X1_reckon ⟨Nat.le_of_ble_eq_true rfl, Nat.le_of_ble_eq_true rfl⟩) hK hP hD hS hA hZ 20 rfl rfl rfl rfl hl.1 rfl (lv_room (Nat.le_of_ble_eq_true rfl)) dX4_gone_11 ⟨Nat.zero_le _, Nat.zero_le _⟩ (fun u_1 H locs hu_1 hP hD hS => ?_)
    have hP : va_P D vwCl (wA q cI cJ xro xtk xli cn ci cs cso cki cfa cfb cfc cva csn csd csl csb csr csc won wle pte pho nwa (rndT true nwa (rndT false nwa (mixF (fun _ => 0) nti 4) 4) 4)) H := hP
    have hD : va_D A (wA q cI cJ xro xtk xli cn ci cs cso cki cfa cfb cfc cva csn csd csl csb csr csc won wle pte pho nwa (rndT true nwa (rndT false nwa (mixF (fun _ => 0) nti 4) 4) 4)) := fx_D hD rfl
    refine lv_iconst (v := nI 0) hx hb dX4_gone_14 (by decide) ?_
    refine lv_istore_n (lv' := [(2, .int (nI 0)), (0, .ref (q 0)), (1, .int x)]) hx hb dX4_gone_15 rfl hl (by decide) rfl (fun ls hl => ?_)
    refine lv_iconst (v := nI 0) hx hb dX4_gone_16 (by decide) ?_
    refine lv_istore_n (lv' := [(3, .int (nI 0)), (2, .int (nI 0)), (0, .ref (q 0)), (1, .int x)]) hx hb dX4_gone_17 rfl hl (by decide) rfl (fun ls hl => ?_)
    have L_18 : ∀ (fuel : Nat) (i : Nat) (hi : i ≤ 4) (hfu : 4 - i < fuel) (H : Heap) (locs : List Loc), va_P D vwCl (wA q cI cJ xro xtk xli cn ci cs cso cki cfa cfb cfc cva csn csd csl csb csr csc won wle pte pho nwa (rndT true nwa (rndT false nwa (mixF (fun _ => 0) nti 4) 4) 4)) H → va_D A (wA q cI cJ xro xtk xli cn ci cs cso cki cfa cfb cfc cva csn csd csl csb csr csc won wle pte pho nwa (rndT true nwa (rndT false nwa (mixF (fun _ => 0) nti 4) 4) 4)) → va_S A s.heap H locs → ∀ ls : Array Slot, lv_has ls 4 [(0, .ref (q 0)), (1, .int x), (2, .int (nI (ct (goneP (rndT true nwa (rndT false nwa (mixF (fun _ => 0) nti 4) 4) 4) x) i))), (3, .int (nI i))] → W p l e ({ frames := 2, cells := 0, slots := 0, locals := 45 } : Room) s m args below meth c H locs 0 0 Q (F0 m 18 ls []) := by
      intro fuel
      induction fuel with
      | zero => intro i hi hfu; exact absurd hfu (Nat.not_lt_zero _)
      | succ fuel ih_18 =>
        intro i hi hfu H locs hP hD hS ls hl
        refine lv_iload_n hx hb dX4_gone_18 rfl (lv_at hl 3 rfl) ?_
        refine lv_iconst (v := nI 4) hx hb dX4_gone_19 (by decide) ?_
        refine lv_icmp_ge (tgt := 59) hx hb dX4_gone_20 (by decide) (fun c_20 => ?_) (fun c_20 => ?_)
        · have f_20 : 4 ≤ i := (nI_leI (a := 4) (b := i) (by first | omega | exact b_and1 _ | exact b_ct _ _ (by omega) | exact b_andr _ (by omega)) (by first | omega | exact b_and1 _ | exact b_ct _ _ (by omega) | exact b_andr _ (by omega))).mp c_20
          refine lv_iload_n hx hb dX4_gone_59 rfl (lv_at hl 2 rfl) ?_
          exact hri () _ H locs 60 ls .int rfl rfl trivial (by rw [show i = 4 by omega]) hP hD hS dX4_gone_60
        have f_20 : ¬ 4 ≤ i := fun h => c_20 ((nI_leI (a := 4) (b := i) (by first | omega | exact b_and1 _ | exact b_ct _ _ (by omega) | exact b_andr _ (by omega)) (by first | omega | exact b_and1 _ | exact b_ct _ _ (by omega) | exact b_andr _ (by omega))).mpr h)
        refine lv_aload_n hx hb dX4_gone_23 rfl (lv_at hl 0 rfl) ?_
        refine va_get (D := D) (ci := 4) (v := .ref (q 20)) (C := RX4) (T := TX4) (N := 7) hx hb hts (fun w h => List.mem_cons_of_mem _ (List.mem_append_left _ (List.mem_append_right _ h))) hown hK hP 0 rfl rfl 3 (by decide) (hts (.fieldLink RX4 35 "FirstStates" "needs" "LFirstStates$Needs;") (List.mem_of_getElem? (i := 1) rfl)) (fun _ h9 => h9) rfl dX4_gone_24 ?_
        refine va_get (D := D) (ci := 1) (v := .ref (q 22)) (C := RX1) (T := TX1) (N := 2) hx hb hts (fun w h => List.mem_cons_of_mem _ (List.mem_append_right _ h)) hown hK hP 20 rfl rfl 1 (by decide) (hts (.fieldLink RX4 199 "FirstStates$Needs" "times" "[I") (List.mem_of_getElem? (i := 2) rfl)) (fun _ h9 => h9) rfl dX4_gone_27 ?_
        refine lv_iload_n hx hb dX4_gone_30 rfl (lv_at hl 3 rfl) ?_
        refine fx_iald (ar := rI) hx hb hK hP 22 (f := (rndT true nwa (rndT false nwa (mixF (fun _ => 0) nti 4) 4) 4)) (k := i) rfl (by omega) (by decide) dX4_gone_31 ?_
        refine lv_bipush (v := (-9)) hx hb dX4_gone_32 (by decide) ?_
        refine lv_icmp_eq (tgt := 53) hx hb dX4_gone_34 (by decide) (fun c_34 => ?_) (fun c_34 => ?_)
        · refine lv_iinc (v := nI (i + 1)) (lv' := [(3, .int (nI (i + 1))), (0, .ref (q 0)), (1, .int x), (2, .int (nI (ct (goneP (rndT true nwa (rndT false nwa (mixF (fun _ => 0) nti 4) 4) 4) x) i)))]) hx hb dX4_gone_53 hl (k := 3) rfl (by exact nI_1 _) (by decide) rfl (fun ls hl => ?_)
          refine lv_goto (tgt := 18) hx hb dX4_gone_56 (by decide) ?_
          have e_2 : nI (ct (goneP (rndT true nwa (rndT false nwa (mixF (fun _ => 0) nti 4) 4) 4) x) i) = nI (ct (goneP (rndT true nwa (rndT false nwa (mixF (fun _ => 0) nti 4) 4) 4) x) (i + 1)) := by first | rfl | (simp [ct, goneP, c_34])
          exact ih_18 (i + 1) (by first | assumption | omega) (by omega) H locs hP hD hS ls (lv_sub (fx_hl (l' := [(3, .int (nI (i + 1))), (0, .ref (q 0)), (1, .int x), (2, .int (nI (ct (goneP (rndT true nwa (rndT false nwa (mixF (fun _ => 0) nti 4) 4) 4) x) (i + 1))))]) hl (congrArg (fun w9 : Int32 => ([(3, .int (nI (i + 1))), (0, .ref (q 0)), (1, .int x), (2, .int w9)] : List (Nat × Value))) e_2)) [1, 2, 3, 0] rfl)
        refine lv_aload_n hx hb dX4_gone_37 rfl (lv_at hl 0 rfl) ?_
        refine va_get (D := D) (ci := 4) (v := .ref (q 20)) (C := RX4) (T := TX4) (N := 7) hx hb hts (fun w h => List.mem_cons_of_mem _ (List.mem_append_left _ (List.mem_append_right _ h))) hown hK hP 0 rfl rfl 3 (by decide) (hts (.fieldLink RX4 35 "FirstStates" "needs" "LFirstStates$Needs;") (List.mem_of_getElem? (i := 1) rfl)) (fun _ h9 => h9) rfl dX4_gone_38 ?_
        refine va_get (D := D) (ci := 1) (v := .ref (q 22)) (C := RX1) (T := TX1) (N := 2) hx hb hts (fun w h => List.mem_cons_of_mem _ (List.mem_append_right _ h)) hown hK hP 20 rfl rfl 1 (by decide) (hts (.fieldLink RX4 199 "FirstStates$Needs" "times" "[I") (List.mem_of_getElem? (i := 2) rfl)) (fun _ h9 => h9) rfl dX4_gone_41 ?_
        refine lv_iload_n hx hb dX4_gone_44 rfl (lv_at hl 3 rfl) ?_
        refine fx_iald (ar := rI) hx hb hK hP 22 (f := (rndT true nwa (rndT false nwa (mixF (fun _ => 0) nti 4) 4) 4)) (k := i) rfl (by omega) (by decide) dX4_gone_45 ?_
        refine lv_iload_n hx hb dX4_gone_46 rfl (lv_at hl 1 rfl) ?_
        refine lv_icmp_gt (tgt := 53) hx hb dX4_gone_47 (by decide) (fun c_47 => ?_) (fun c_47 => ?_)
        · refine lv_iinc (v := nI (i + 1)) (lv' := [(3, .int (nI (i + 1))), (0, .ref (q 0)), (1, .int x), (2, .int (nI (ct (goneP (rndT true nwa (rndT false nwa (mixF (fun _ => 0) nti 4) 4) 4) x) i)))]) hx hb dX4_gone_53 hl (k := 3) rfl (by exact nI_1 _) (by decide) rfl (fun ls hl => ?_)
          refine lv_goto (tgt := 18) hx hb dX4_gone_56 (by decide) ?_
          have e_3 : nI (ct (goneP (rndT true nwa (rndT false nwa (mixF (fun _ => 0) nti 4) 4) 4) x) i) = nI (ct (goneP (rndT true nwa (rndT false nwa (mixF (fun _ => 0) nti 4) 4) 4) x) (i + 1)) := by first | rfl | (simp [ct, goneP, c_34, c_47])
          exact ih_18 (i + 1) (by first | assumption | omega) (by omega) H locs hP hD hS ls (lv_sub (fx_hl (l' := [(3, .int (nI (i + 1))), (0, .ref (q 0)), (1, .int x), (2, .int (nI (ct (goneP (rndT true nwa (rndT false nwa (mixF (fun _ => 0) nti 4) 4) 4) x) (i + 1))))]) hl (congrArg (fun w9 : Int32 => ([(3, .int (nI (i + 1))), (0, .ref (q 0)), (1, .int x), (2, .int w9)] : List (Nat × Value))) e_3)) [1, 2, 3, 0] rfl)
        refine lv_iinc (v := nI ((ct (goneP (rndT true nwa (rndT false nwa (mixF (fun _ => 0) nti 4) 4) 4) x) i) + 1)) (lv' := [(2, .int (nI ((ct (goneP (rndT true nwa (rndT false nwa (mixF (fun _ => 0) nti 4) 4) 4) x) i) + 1))), (0, .ref (q 0)), (1, .int x), (3, .int (nI i))]) hx hb dX4_gone_50 hl (k := 2) rfl (by exact nI_1 _) (by decide) rfl (fun ls hl => ?_)
        refine lv_iinc (v := nI (i + 1)) (lv' := [(3, .int (nI (i + 1))), (2, .int (nI ((ct (goneP (rndT true nwa (rndT false nwa (mixF (fun _ => 0) nti 4) 4) 4) x) i) + 1))), (0, .ref (q 0)), (1, .int x)]) hx hb dX4_gone_53 hl (k := 3) rfl (by exact nI_1 _) (by decide) rfl (fun ls hl => ?_)
        refine lv_goto (tgt := 18) hx hb dX4_gone_56 (by decide) ?_
        have e_4 : nI ((ct (goneP (rndT true nwa (rndT false nwa (mixF (fun _ => 0) nti 4) 4) 4) x) i) + 1) = nI (ct (goneP (rndT true nwa (rndT false nwa (mixF (fun _ => 0) nti 4) 4) 4) x) (i + 1)) := by first | rfl | (simp [ct, goneP, c_34, c_47])
        exact ih_18 (i + 1) (by first | assumption | omega) (by omega) H locs hP hD hS ls (lv_sub (fx_hl (l' := [(3, .int (nI (i + 1))), (2, .int (nI (ct (goneP (rndT true nwa (rndT false nwa (mixF (fun _ => 0) nti 4) 4) 4) x) (i + 1)))), (0, .ref (q 0)), (1, .int x)]) hl (congrArg (fun w9 : Int32 => ([(3, .int (nI (i + 1))), (2, .int w9), (0, .ref (q 0)), (1, .int x)] : List (Nat × Value))) e_4)) [2, 3, 1, 0] rfl)
    exact L_18 (4 - 0 + 1) 0 (Nat.zero_le _) (Nat.lt_succ_self _) H locs hP hD hS ls (lv_sub hl [2, 3, 1, 0] rfl)
  exfalso; exact hx0 (Int32.not_le.mp c_1)
set_option maxHeartbeats 4000000 in
set_option maxRecDepth 100000 in
theorem c_X4_count_o (l : Launch) (D : va_G) (cI cJ cZ : ClassId) (q : Nat → Nat) (xro : Int64) (xtk : Nat) (xli : Nat) (cn : Nat) (ci : Nat) (cs : Nat) (cso : Nat → Nat) (cki : Nat → Nat) (cfa : Nat → Nat) (cfb : Nat → Nat) (cfc : Nat → Nat) (cva : Nat → Nat) (csn : Nat → Nat) (csd : Nat → Nat) (csl : Nat → Nat) (csb : Nat → Nat) (csr : Nat → Nat) (csc : Nat → Nat) (won : Nat → Int64) (wle : Nat → Int64) (pte : Nat → Nat) (pho : Nat → Nat) (nwa : Nat → Int32) (nti : Nat → Int32) (x : Int32) (hxx : x.toInt < 0 ∨ 5 < x.toInt) : Ct l D cI cJ cZ yX4_count wsX4_count ({ frames := 0, cells := 0, slots := 0, locals := 0 } : Room) 0 0 [.ref (q 0), .int x] (wA q cI cJ xro xtk xli cn ci cs cso cki cfa cfb cfc cva csn csd csl csb csr csc won wle pte pho nwa nti) (S := Unit) (fun u => True) (fun u => some (.int (-2))) (fun u => (wA q cI cJ xro xtk xli cn ci cs cso cki cfa cfb cfc cva csn csd csl csb csr csc won wle pte pho nwa nti)) := by
  refine Ct.ofW (cc := cX4_count) (maxL := 2) (ret := (some .int)) (R_C := RX4) (by decide +kernel) rfl rfl (Nat.le_of_ble_eq_true rfl) rfl ?_
  intro p e s m args below meth c A Q ls H locs hx hb hml hown hts hK hA hP hD hS hZ hl hri hrl hrv
  refine lv_iload_n hx hb dX4_count_0 rfl (lv_at hl 1 rfl) ?_
  refine lv_tableOut (tgt := 85) hx hb dX4_count_1 hxx (by decide) ?_
  refine lv_bipush (v := (-2)) hx hb dX4_count_85 (by decide) ?_
  exact hri () _ H locs 87 ls .int rfl rfl trivial rfl hP hD hS dX4_count_87
set_option maxHeartbeats 4000000 in
set_option maxRecDepth 100000 in
theorem c_X4_count (l : Launch) (D : va_G) (cI cJ cZ : ClassId) (q : Nat → Nat) (xro : Int64) (xtk : Nat) (xli : Nat) (cn : Nat) (ci : Nat) (cs : Nat) (cso : Nat → Nat) (cki : Nat → Nat) (cfa : Nat → Nat) (cfb : Nat → Nat) (cfc : Nat → Nat) (cva : Nat → Nat) (csn : Nat → Nat) (csd : Nat → Nat) (csl : Nat → Nat) (csb : Nat → Nat) (csr : Nat → Nat) (csc : Nat → Nat) (won : Nat → Int64) (wle : Nat → Int64) (pte : Nat → Nat) (pho : Nat → Nat) (nwa : Nat → Int32) (nti : Nat → Int32) (k : Nat) (hk : k ≤ 5) (hli : xli < 16) : Ct l D cI cJ cZ yX4_count wsX4_count ({ frames := 1, cells := 0, slots := 0, locals := 22 } : Room) 0 0 [.ref (q 0), .int (nI k)] (wA q cI cJ xro xtk xli cn ci cs cso cki cfa cfb cfc cva csn csd csl csb csr csc won wle pte pho nwa nti) (S := Unit) (fun u => True) (fun u => some (.int (if k = 0 then nI cn else if k = 1 then nI cs else if k = 2 then nI ci else if k = 3 then nI xtk else if k = 4 then nI (ct (fun jj => xli.testBit jj) 6) else nI (ct (fun jj => !decide (nwa jj = (-9))) 16)))) (fun u => (wA q cI cJ xro xtk xli cn ci cs cso cki cfa cfb cfc cva csn csd csl csb csr csc won wle pte pho nwa nti)) := by
  refine Ct.ofW (cc := cX4_count) (maxL := 2) (ret := (some .int)) (R_C := RX4) (by decide +kernel) rfl rfl (Nat.le_of_ble_eq_true rfl) rfl ?_
  intro p e s m args below meth c A Q ls H locs hx hb hml hown hts hK hA hP hD hS hZ hl hri hrl hrv
  refine lv_iload_n hx hb dX4_count_0 rfl (lv_at hl 1 rfl) ?_
  have h_1 : k = 0 ∨ k = 1 ∨ k = 2 ∨ k = 3 ∨ k = 4 ∨ k = 5 := by omega
  rcases h_1 with h_1 | h_1 | h_1 | h_1 | h_1 | h_1
  · refine lv_tableIn (off := 39) (tgt := 40) hx hb dX4_count_1 (by rw [h_1]; decide) (by rw [h_1]; decide) (by rw [h_1]; decide) (by decide) ?_
    refine lv_aload_n hx hb dX4_count_40 rfl (lv_at hl 0 rfl) ?_
    refine va_get (D := D) (ci := 4) (v := .ref (q 1)) (C := RX4) (T := TX4) (N := 7) hx hb hts (fun w h => List.mem_cons_of_mem _ (List.mem_append_left _ (List.mem_append_left _ (List.mem_append_right _ h)))) hown hK hP 0 rfl rfl 0 (by decide) (hts (.fieldLink RX4 10 "FirstStates" "circuit" "LFirstStates$Circuit;") (List.mem_of_getElem? (i := 1) rfl)) (fun _ h9 => h9) rfl dX4_count_41 ?_
    refine va_get (D := D) (ci := 0) (v := .int (nI cn)) (C := RX0) (T := TX0) (N := 15) hx hb hts (fun w h => List.mem_cons_of_mem _ (List.mem_append_left _ (List.mem_append_right _ h))) hown hK hP 1 rfl rfl 0 (by decide) (hts (.fieldLink RX4 202 "FirstStates$Circuit" "nodes" "I") (List.mem_of_getElem? (i := 2) rfl)) (fun _ h9 => h9) rfl dX4_count_44 ?_
    exact hri () _ H locs 47 ls .int rfl rfl trivial (by simp [h_1]) hP hD hS dX4_count_47
  · refine lv_tableIn (off := 47) (tgt := 48) hx hb dX4_count_1 (by rw [h_1]; decide) (by rw [h_1]; decide) (by rw [h_1]; decide) (by decide) ?_
    refine lv_aload_n hx hb dX4_count_48 rfl (lv_at hl 0 rfl) ?_
    refine va_get (D := D) (ci := 4) (v := .ref (q 1)) (C := RX4) (T := TX4) (N := 7) hx hb hts (fun w h => List.mem_cons_of_mem _ (List.mem_append_left _ (List.mem_append_left _ (List.mem_append_right _ h)))) hown hK hP 0 rfl rfl 0 (by decide) (hts (.fieldLink RX4 10 "FirstStates" "circuit" "LFirstStates$Circuit;") (List.mem_of_getElem? (i := 1) rfl)) (fun _ h9 => h9) rfl dX4_count_49 ?_
    refine va_get (D := D) (ci := 0) (v := .int (nI cs)) (C := RX0) (T := TX0) (N := 15) hx hb hts (fun w h => List.mem_cons_of_mem _ (List.mem_append_left _ (List.mem_append_right _ h))) hown hK hP 1 rfl rfl 2 (by decide) (hts (.fieldLink RX4 82 "FirstStates$Circuit" "stores" "I") (List.mem_of_getElem? (i := 3) rfl)) (fun _ h9 => h9) rfl dX4_count_52 ?_
    exact hri () _ H locs 55 ls .int rfl rfl trivial (by simp [h_1]) hP hD hS dX4_count_55
  · refine lv_tableIn (off := 55) (tgt := 56) hx hb dX4_count_1 (by rw [h_1]; decide) (by rw [h_1]; decide) (by rw [h_1]; decide) (by decide) ?_
    refine lv_aload_n hx hb dX4_count_56 rfl (lv_at hl 0 rfl) ?_
    refine va_get (D := D) (ci := 4) (v := .ref (q 1)) (C := RX4) (T := TX4) (N := 7) hx hb hts (fun w h => List.mem_cons_of_mem _ (List.mem_append_left _ (List.mem_append_left _ (List.mem_append_right _ h)))) hown hK hP 0 rfl rfl 0 (by decide) (hts (.fieldLink RX4 10 "FirstStates" "circuit" "LFirstStates$Circuit;") (List.mem_of_getElem? (i := 1) rfl)) (fun _ h9 => h9) rfl dX4_count_57 ?_
    refine va_get (D := D) (ci := 0) (v := .int (nI ci)) (C := RX0) (T := TX0) (N := 15) hx hb hts (fun w h => List.mem_cons_of_mem _ (List.mem_append_left _ (List.mem_append_right _ h))) hown hK hP 1 rfl rfl 1 (by decide) (hts (.fieldLink RX4 50 "FirstStates$Circuit" "inputs" "I") (List.mem_of_getElem? (i := 4) rfl)) (fun _ h9 => h9) rfl dX4_count_60 ?_
    exact hri () _ H locs 63 ls .int rfl rfl trivial (by simp [h_1]) hP hD hS dX4_count_63
  · refine lv_tableIn (off := 63) (tgt := 64) hx hb dX4_count_1 (by rw [h_1]; decide) (by rw [h_1]; decide) (by rw [h_1]; decide) (by decide) ?_
    refine lv_aload_n hx hb dX4_count_64 rfl (lv_at hl 0 rfl) ?_
    refine va_get (D := D) (ci := 4) (v := .int (nI xtk)) (C := RX4) (T := TX4) (N := 7) hx hb hts (fun w h => List.mem_cons_of_mem _ (List.mem_append_left _ (List.mem_append_left _ (List.mem_append_right _ h)))) hown hK hP 0 rfl rfl 5 (by decide) (hts (.fieldLink RX4 43 "FirstStates" "ticks" "I") (List.mem_of_getElem? (i := 5) rfl)) (fun _ h9 => h9) rfl dX4_count_65 ?_
    exact hri () _ H locs 68 ls .int rfl rfl trivial (by simp [h_1]) hP hD hS dX4_count_68
  · refine lv_tableIn (off := 68) (tgt := 69) hx hb dX4_count_1 (by rw [h_1]; decide) (by rw [h_1]; decide) (by rw [h_1]; decide) (by decide) ?_
    refine lv_aload_n hx hb dX4_count_69 rfl (lv_at hl 0 rfl) ?_
    refine va_get (D := D) (ci := 4) (v := .int (nI xli)) (C := RX4) (T := TX4) (N := 7) hx hb hts (fun w h => List.mem_cons_of_mem _ (List.mem_append_left _ (List.mem_append_left _ (List.mem_append_right _ h)))) hown hK hP 0 rfl rfl 6 (by decide) (hts (.fieldLink RX4 47 "FirstStates" "linesOn" "I") (List.mem_of_getElem? (i := 6) rfl)) (fun _ h9 => h9) rfl dX4_count_70 ?_
    refine fx_callS (As := [.int (nI xli)]) (rest := []) ⟨hx, hb, hml, hown, hts⟩ (c_J6_bitCount_0f7a4 l D cI cJ cZ (wA q cI cJ xro xtk xli cn ci cs cso cki cfa cfb cfc cva csn csd csl csb csr csc won wle pte pho nwa nti) xli (by first | assumption | omega)) (va_cwS 1 hts gX4_count_J6_bitCount_0f7a4 rfl rfl rfl ks_J6_bitCount_0f7a4 ⟨Nat.le_of_ble_eq_true rfl, Nat.le_of_ble_eq_true rfl⟩) hK hP hD hS hA hZ rfl hl.1 rfl (lv_room (Nat.le_of_ble_eq_true rfl)) dX4_count_73 ⟨Nat.zero_le _, Nat.zero_le _⟩ (fun u_1 H locs hu_1 hP hD hS => ?_)
    exact hri () _ H locs 76 ls .int rfl rfl trivial (by simp [h_1]) hP hD hS dX4_count_76
  refine lv_tableIn (off := 76) (tgt := 77) hx hb dX4_count_1 (by rw [h_1]; decide) (by rw [h_1]; decide) (by rw [h_1]; decide) (by decide) ?_
  refine lv_aload_n hx hb dX4_count_77 rfl (lv_at hl 0 rfl) ?_
  refine va_get (D := D) (ci := 4) (v := .ref (q 20)) (C := RX4) (T := TX4) (N := 7) hx hb hts (fun w h => List.mem_cons_of_mem _ (List.mem_append_left _ (List.mem_append_left _ (List.mem_append_right _ h)))) hown hK hP 0 rfl rfl 3 (by decide) (hts (.fieldLink RX4 35 "FirstStates" "needs" "LFirstStates$Needs;") (List.mem_of_getElem? (i := 7) rfl)) (fun _ h9 => h9) rfl dX4_count_78 ?_
  refine fx_callV (As := []) (rest := []) ⟨hx, hb, hml, hown, hts⟩ (c_X1_standing l D cI cJ cZ q xro xtk xli cn ci cs cso cki cfa cfb cfc cva csn csd csl csb csr csc won wle pte pho nwa nti) (cwV 0 hts gX4_count_X1_standing rfl rfl rfl kv_X1_standing ⟨Nat.le_of_ble_eq_true rfl, Nat.le_of_ble_eq_true rfl⟩) hK hP hD hS hA hZ 20 rfl rfl rfl rfl hl.1 rfl (lv_room (Nat.le_of_ble_eq_true rfl)) dX4_count_81 ⟨Nat.zero_le _, Nat.zero_le _⟩ (fun u_2 H locs hu_2 hP hD hS => ?_)
  exact hri () _ H locs 84 ls .int rfl rfl trivial (by simp [h_1]) hP hD hS dX4_count_84
