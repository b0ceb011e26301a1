/-! Contracts of Parts. -/
set_option maxHeartbeats 4000000 in
set_option maxRecDepth 100000 in
theorem c_X2_forget (l : Launch) (D : va_G) (cI cJ cZ : ClassId) (q : Nat → Nat) (xro : Int64) (xtk : Nat) (xli : Nat) (cn : Nat) (ci : Nat) (cs : Nat) (cso : Nat → Nat) (cki : Nat → Nat) (cfa : Nat → Nat) (cfb : Nat → Nat) (cfc : Nat → Nat) (cva : Nat → Nat) (csn : Nat → Nat) (csd : Nat → Nat) (csl : Nat → Nat) (csb : Nat → Nat) (csr : Nat → Nat) (csc : Nat → Nat) (won : Nat → Int64) (wle : Nat → Int64) (pte : Nat → Nat) (pho : Nat → Nat) (nwa : Nat → Int32) (nti : Nat → Int32) : Ct l D cI cJ cZ yX2_forget wsX2_forget ({ frames := 0, cells := 0, slots := 0, locals := 0 } : Room) 0 0 [.ref (q 17)] (wA q cI cJ xro xtk xli cn ci cs cso cki cfa cfb cfc cva csn csd csl csb csr csc won wle pte pho nwa nti) (S := Unit) (fun u => True) (fun u => none) (fun u => (wA q cI cJ xro xtk xli cn ci cs cso cki cfa cfb cfc cva csn csd csl csb csr csc won wle pte (mixF (fun _ => 2) pho 6) nwa nti)) := by
  refine Ct.ofW (cc := cX2_forget) (maxL := 2) (ret := none) (R_C := RX2) (by decide +kernel) rfl rfl (Nat.le_of_ble_eq_true rfl) rfl ?_
  intro p e s m args below meth c A Q ls H locs hx hb hml hown hts hK hA hP hD hS hZ hl hri hrl hrv
  refine lv_iconst (v := nI 0) hx hb dX2_forget_0 (by decide) ?_
  refine lv_istore_n (lv' := [(1, .int (nI 0)), (0, .ref (q 17))]) hx hb dX2_forget_1 rfl hl (by decide) rfl (fun ls hl => ?_)
  have L_2 : ∀ (fuel : Nat) (i : Nat) (hi : i ≤ 6) (hfu : 6 - i < fuel) (H : Heap) (locs : List Loc), va_P D vwCl (wA q cI cJ xro xtk xli cn ci cs cso cki cfa cfb cfc cva csn csd csl csb csr csc won wle pte (mixF (fun _ => 2) pho i) nwa nti) H → va_D A (wA q cI cJ xro xtk xli cn ci cs cso cki cfa cfb cfc cva csn csd csl csb csr csc won wle pte (mixF (fun _ => 2) pho i) nwa nti) → va_S A s.heap H locs → ∀ ls : Array Slot, lv_has ls 2 [(0, .ref (q 17)), (1, .int (nI i))] → W p l e ({ frames := 0, cells := 0, slots := 0, locals := 0 } : Room) s m args below meth c H locs 0 0 Q (F0 m 2 ls []) := by
    intro fuel
    induction fuel with
    | zero => intro i hi hfu; exact absurd hfu (Nat.not_lt_zero _)
    | succ fuel ih_2 =>
      intro i hi hfu H locs hP hD hS ls hl
      refine lv_iload_n hx hb dX2_forget_2 rfl (lv_at hl 1 rfl) ?_
      refine lv_bipush (v := nI 6) hx hb dX2_forget_3 (by decide) ?_
      refine lv_icmp_ge (tgt := 21) hx hb dX2_forget_5 (by decide) (fun c_5 => ?_) (fun c_5 => ?_)
      · have f_5 : 6 ≤ i := (nI_leI (a := 6) (b := i) (by first | omega | exact b_and1 _ | exact b_ct _ _ (by omega) | exact b_andr _ (by omega)) (by first | omega | exact b_and1 _ | exact b_ct _ _ (by omega) | exact b_andr _ (by omega))).mp c_5
        have e_i : i = 6 := by omega
        subst e_i
        exact hrv () H locs 21 ls rfl trivial rfl hP (fx_D hD rfl) hS dX2_forget_21
      have f_5 : ¬ 6 ≤ i := fun h => c_5 ((nI_leI (a := 6) (b := i) (by first | omega | exact b_and1 _ | exact b_ct _ _ (by omega) | exact b_andr _ (by omega)) (by first | omega | exact b_and1 _ | exact b_ct _ _ (by omega) | exact b_andr _ (by omega))).mpr h)
      refine lv_aload_n hx hb dX2_forget_8 rfl (lv_at hl 0 rfl) ?_
      refine va_get (D := D) (ci := 2) (v := .ref (q 19)) (C := RX2) (T := TX2) (N := 3) hx hb hts (fun w h => List.mem_cons_of_mem _ (List.mem_append_right _ h)) hown hK hP 17 rfl rfl 2 (by decide) (hts (.fieldLink RX2 15 "FirstStates$Parts" "holds" "[I") (List.mem_of_getElem? (i := 1) rfl)) (fun _ h9 => h9) rfl dX2_forget_9 ?_
      refine lv_iload_n hx hb dX2_forget_12 rfl (lv_at hl 1 rfl) ?_
      refine lv_iconst (v := nI 2) hx hb dX2_forget_13 (by decide) ?_
      refine fx_iast (ar := nI) hx hb hK hP hD hS 19 (f := (mixF (fun _ => 2) pho i)) (k := i) (v := 2) rfl (by omega) (by decide) rfl dX2_forget_14 (fun H locs hP hD hS => ?_)
      have hP : va_P D vwCl (wA q cI cJ xro xtk xli cn ci cs cso cki cfa cfb cfc cva csn csd csl csb csr csc won wle pte (va_up (mixF (fun _ => 2) pho i) i 2) nwa nti) H := hP
      have hD : va_D A (wA q cI cJ xro xtk xli cn ci cs cso cki cfa cfb cfc cva csn csd csl csb csr csc won wle pte (va_up (mixF (fun _ => 2) pho i) i 2) nwa nti) := fx_D hD rfl
      refine lv_iinc (v := nI (i + 1)) (lv' := [(1, .int (nI (i + 1))), (0, .ref (q 17))]) hx hb dX2_forget_15 hl (k := 1) rfl (by exact nI_1 _) (by decide) rfl (fun ls hl => ?_)
      refine lv_goto (tgt := 2) hx hb dX2_forget_18 (by decide) ?_
      have e_1 : va_up (mixF (fun _ => 2) pho i) i 2 = mixF (fun _ => 2) pho (i + 1) := by first | rfl | (exact mix_up _ _ _ _ rfl)
      exact ih_2 (i + 1) (by first | assumption | omega) (by omega) H locs (fx_Pe (w' := (wA q cI cJ xro xtk xli cn ci cs cso cki cfa cfb cfc cva csn csd csl csb csr csc won wle pte (mixF (fun _ => 2) pho (i + 1)) nwa nti)) hP (congrArg (fun w9 : Nat → Nat => (wA q cI cJ xro xtk xli cn ci cs cso cki cfa cfb cfc cva csn csd csl csb csr csc won wle pte w9 nwa nti)) e_1)) (fx_D hD rfl) hS ls (lv_sub hl [1, 0] rfl)
  have e_2 : pho = mixF (fun _ => 2) pho 0 := by first | rfl | (exact (mix_0 _ _).symm)
  exact L_2 (6 - 0 + 1) 0 (Nat.zero_le _) (Nat.lt_succ_self _) H locs (fx_Pe (w' := (wA q cI cJ xro xtk xli cn ci cs cso cki cfa cfb cfc cva csn csd csl csb csr csc won wle pte (mixF (fun _ => 2) pho 0) nwa nti)) hP (congrArg (fun w9 : Nat → Nat => (wA q cI cJ xro xtk xli cn ci cs cso cki cfa cfb cfc cva csn csd csl csb csr csc won wle pte w9 nwa nti)) e_2)) (fx_D hD rfl) hS ls (lv_sub hl [1, 0] rfl)
set_option maxHeartbeats 4000000 in
set_option maxRecDepth 100000 in
theorem c_X2_choiceTells (l : Launch) (D : va_G) (cI cJ cZ : ClassId) (w : va_W) (x : Nat) (y : Nat) (zz : Nat) (hx1 : x ≤ 2) (hy1 : y ≤ 2) (hz1 : zz ≤ 2) : Ct l D cI cJ cZ yX2_choiceTells wsX2_choiceTells ({ frames := 0, cells := 0, slots := 0, locals := 0 } : Room) 0 0 [.int (nI x), .int (nI y), .int (nI zz)] w (S := Unit) (fun u => True) (fun u => some (.int (nI (pgF 4 x y zz)))) (fun u => w) := by
  refine Ct.ofW (cc := cX2_choiceTells) (maxL := 3) (ret := (some .int)) (R_C := RX2) (by decide +kernel) rfl rfl (Nat.le_of_ble_eq_true rfl) rfl ?_
  intro p e s m args below meth c A Q ls H locs hx hb hml hown hts hK hA hP hD hS hZ hl hri hrl hrv
  refine lv_iload_n hx hb dX2_choiceTells_0 rfl (lv_at hl 0 rfl) ?_
  refine lv_iconst (v := nI 2) hx hb dX2_choiceTells_1 (by decide) ?_
  refine lv_icmp_ne (tgt := 16) hx hb dX2_choiceTells_2 (by decide) (fun c_2 => ?_) (fun c_2 => ?_)
  · have f_2 : ¬ x = 2 := fun h => c_2 ((nI_eq (a := x) (b := 2) (by first | omega | exact b_and1 _ | exact b_ct _ _ (by omega) | exact b_andr _ (by omega)) (by first | omega | exact b_and1 _ | exact b_ct _ _ (by omega) | exact b_andr _ (by omega))).mpr h)
    refine lv_iload_n hx hb dX2_choiceTells_16 rfl (lv_at hl 0 rfl) ?_
    refine lv_iconst (v := nI 1) hx hb dX2_choiceTells_17 (by decide) ?_
    refine lv_icmp_ne (tgt := 25) hx hb dX2_choiceTells_18 (by decide) (fun c_18 => ?_) (fun c_18 => ?_)
    · have f_18 : ¬ x = 1 := fun h => c_18 ((nI_eq (a := x) (b := 1) (by first | omega | exact b_and1 _ | exact b_ct _ _ (by omega) | exact b_andr _ (by omega)) (by first | omega | exact b_and1 _ | exact b_ct _ _ (by omega) | exact b_andr _ (by omega))).mpr h)
      refine lv_iload_n hx hb dX2_choiceTells_25 rfl (lv_at hl 2 rfl) ?_
      exact hri () _ H locs 26 ls .int rfl rfl trivial (by simp only [pgF, Option.some.injEq, Value.int.injEq]; congr 1; simp [f_2, f_18] <;> omega) hP hD hS dX2_choiceTells_26
    have f_18 : x = 1 := (nI_eq (a := x) (b := 1) (by first | omega | exact b_and1 _ | exact b_ct _ _ (by omega) | exact b_andr _ (by omega)) (by first | omega | exact b_and1 _ | exact b_ct _ _ (by omega) | exact b_andr _ (by omega))).mp c_18
    refine lv_iload_n hx hb dX2_choiceTells_21 rfl (lv_at hl 1 rfl) ?_
    refine lv_goto (tgt := 26) hx hb dX2_choiceTells_22 (by decide) ?_
    exact hri () _ H locs 26 ls .int rfl rfl trivial (by simp only [pgF, Option.some.injEq, Value.int.injEq]; congr 1; simp [f_2, f_18] <;> omega) hP hD hS dX2_choiceTells_26
  have f_2 : x = 2 := (nI_eq (a := x) (b := 2) (by first | omega | exact b_and1 _ | exact b_ct _ _ (by omega) | exact b_andr _ (by omega)) (by first | omega | exact b_and1 _ | exact b_ct _ _ (by omega) | exact b_andr _ (by omega))).mp c_2
  refine lv_iload_n hx hb dX2_choiceTells_5 rfl (lv_at hl 1 rfl) ?_
  refine lv_iload_n hx hb dX2_choiceTells_6 rfl (lv_at hl 2 rfl) ?_
  refine lv_icmp_ne (tgt := 14) hx hb dX2_choiceTells_7 (by decide) (fun c_7 => ?_) (fun c_7 => ?_)
  · have f_7 : ¬ y = zz := fun h => c_7 ((nI_eq (a := y) (b := zz) (by first | omega | exact b_and1 _ | exact b_ct _ _ (by omega) | exact b_andr _ (by omega)) (by first | omega | exact b_and1 _ | exact b_ct _ _ (by omega) | exact b_andr _ (by omega))).mpr h)
    refine lv_iconst (v := nI 2) hx hb dX2_choiceTells_14 (by decide) ?_
    exact hri () _ H locs 15 ls .int rfl rfl trivial (by simp only [pgF, Option.some.injEq, Value.int.injEq]; congr 1; simp [f_2, f_7] <;> omega) hP hD hS dX2_choiceTells_15
  have f_7 : y = zz := (nI_eq (a := y) (b := zz) (by first | omega | exact b_and1 _ | exact b_ct _ _ (by omega) | exact b_andr _ (by omega)) (by first | omega | exact b_and1 _ | exact b_ct _ _ (by omega) | exact b_andr _ (by omega))).mp c_7
  refine lv_iload_n hx hb dX2_choiceTells_10 rfl (lv_at hl 1 rfl) ?_
  refine lv_goto (tgt := 15) hx hb dX2_choiceTells_11 (by decide) ?_
  exact hri () _ H locs 15 ls .int rfl rfl trivial (by simp only [pgF, Option.some.injEq, Value.int.injEq]; congr 1; simp [f_2, f_7] <;> omega) hP hD hS dX2_choiceTells_15
set_option maxHeartbeats 4000000 in
set_option maxRecDepth 100000 in
theorem c_X2_gateTells (l : Launch) (D : va_G) (cI cJ cZ : ClassId) (q : Nat → Nat) (xro : Int64) (xtk : Nat) (xli : Nat) (cn : Nat) (ci : Nat) (cs : Nat) (cso : Nat → Nat) (cki : Nat → Nat) (cfa : Nat → Nat) (cfb : Nat → Nat) (cfc : Nat → Nat) (cva : Nat → Nat) (csn : Nat → Nat) (csd : Nat → Nat) (csl : Nat → Nat) (csb : Nat → Nat) (csr : Nat → Nat) (csc : Nat → Nat) (won : Nat → Int64) (wle : Nat → Int64) (pte : Nat → Nat) (pho : Nat → Nat) (nwa : Nat → Int32) (nti : Nat → Int32) (k : Nat) (hcn : cn ≤ 32) (hk : k < cn) (hki : cki k ≤ 4) (hg : cfa k < k ∧ cfb k < k ∧ cfc k < k) (ht : ∀ j, j < k → pte j ≤ 2) : Ct l D cI cJ cZ yX2_gateTells wsX2_gateTells ({ frames := 1, cells := 0, slots := 0, locals := 22 } : Room) 0 0 [.ref (q 17), .int (nI k)] (wA q cI cJ xro xtk xli cn ci cs cso cki cfa cfb cfc cva csn csd csl csb csr csc won wle pte pho nwa nti) (S := Unit) (fun u => True) (fun u => some (.int (nI (pgF (cki k) (pte (cfa k)) (pte (cfb k)) (pte (cfc k)))))) (fun u => (wA q cI cJ xro xtk xli cn ci cs cso cki cfa cfb cfc cva csn csd csl csb csr csc won wle pte pho nwa nti)) := by
  refine Ct.ofW (cc := cX2_gateTells) (maxL := 5) (ret := (some .int)) (R_C := RX2) (by decide +kernel) rfl rfl (Nat.le_of_ble_eq_true rfl) rfl ?_
  intro p e s m args below meth c A Q ls H locs hx hb hml hown hts hK hA hP hD hS hZ hl hri hrl hrv
  have t1 := ht _ hg.1
  have t2 := ht _ hg.2.1
  have t3 := ht _ hg.2.2
  refine lv_aload_n hx hb dX2_gateTells_0 rfl (lv_at hl 0 rfl) ?_
  refine va_get (D := D) (ci := 2) (v := .ref (q 18)) (C := RX2) (T := TX2) (N := 3) hx hb hts (fun w h => List.mem_cons_of_mem _ (List.mem_append_left _ (List.mem_append_right _ h))) hown hK hP 17 rfl rfl 1 (by decide) (hts (.fieldLink RX2 9 "FirstStates$Parts" "tells" "[I") (List.mem_of_getElem? (i := 1) rfl)) (fun _ h9 => h9) rfl dX2_gateTells_1 ?_
  refine lv_aload_n hx hb dX2_gateTells_4 rfl (lv_at hl 0 rfl) ?_
  refine va_get (D := D) (ci := 2) (v := .ref (q 1)) (C := RX2) (T := TX2) (N := 3) hx hb hts (fun w h => List.mem_cons_of_mem _ (List.mem_append_left _ (List.mem_append_right _ h))) hown hK hP 17 rfl rfl 0 (by decide) (hts (.fieldLink RX2 18 "FirstStates$Parts" "circuit" "LFirstStates$Circuit;") (List.mem_of_getElem? (i := 2) rfl)) (fun _ h9 => h9) rfl dX2_gateTells_5 ?_
  refine va_get (D := D) (ci := 0) (v := .ref (q 4)) (C := RX0) (T := TX0) (N := 15) hx hb hts (fun w h => List.mem_cons_of_mem _ (List.mem_append_right _ h)) hown hK hP 1 rfl rfl 5 (by decide) (hts (.fieldLink RX2 41 "FirstStates$Circuit" "firsts" "[I") (List.mem_of_getElem? (i := 3) rfl)) (fun _ h9 => h9) rfl dX2_gateTells_8 ?_
  refine lv_iload_n hx hb dX2_gateTells_11 rfl (lv_at hl 1 rfl) ?_
  refine fx_iald (ar := nI) hx hb hK hP 4 (f := cfa) (k := k) rfl (by omega) (by decide) dX2_gateTells_12 ?_
  refine fx_iald (ar := nI) hx hb hK hP 18 (f := pte) (k := (cfa k)) rfl (by omega) (by decide) dX2_gateTells_13 ?_
  refine lv_istore_n (lv' := [(2, .int (nI (pte (cfa k)))), (0, .ref (q 17)), (1, .int (nI k))]) hx hb dX2_gateTells_14 rfl hl (by decide) rfl (fun ls hl => ?_)
  refine lv_aload_n hx hb dX2_gateTells_15 rfl (lv_at hl 1 rfl) ?_
  refine va_get (D := D) (ci := 2) (v := .ref (q 18)) (C := RX2) (T := TX2) (N := 3) hx hb hts (fun w h => List.mem_cons_of_mem _ (List.mem_append_left _ (List.mem_append_right _ h))) hown hK hP 17 rfl rfl 1 (by decide) (hts (.fieldLink RX2 9 "FirstStates$Parts" "tells" "[I") (List.mem_of_getElem? (i := 1) rfl)) (fun _ h9 => h9) rfl dX2_gateTells_16 ?_
  refine lv_aload_n hx hb dX2_gateTells_19 rfl (lv_at hl 1 rfl) ?_
  refine va_get (D := D) (ci := 2) (v := .ref (q 1)) (C := RX2) (T := TX2) (N := 3) hx hb hts (fun w h => List.mem_cons_of_mem _ (List.mem_append_left _ (List.mem_append_right _ h))) hown hK hP 17 rfl rfl 0 (by decide) (hts (.fieldLink RX2 18 "FirstStates$Parts" "circuit" "LFirstStates$Circuit;") (List.mem_of_getElem? (i := 2) rfl)) (fun _ h9 => h9) rfl dX2_gateTells_20 ?_
  refine va_get (D := D) (ci := 0) (v := .ref (q 5)) (C := RX0) (T := TX0) (N := 15) hx hb hts (fun w h => List.mem_cons_of_mem _ (List.mem_append_right _ h)) hown hK hP 1 rfl rfl 6 (by decide) (hts (.fieldLink RX2 44 "FirstStates$Circuit" "seconds" "[I") (List.mem_of_getElem? (i := 4) rfl)) (fun _ h9 => h9) rfl dX2_gateTells_23 ?_
  refine lv_iload_n hx hb dX2_gateTells_26 rfl (lv_at hl 2 rfl) ?_
  refine fx_iald (ar := nI) hx hb hK hP 5 (f := cfb) (k := k) rfl (by omega) (by decide) dX2_gateTells_27 ?_
  refine fx_iald (ar := nI) hx hb hK hP 18 (f := pte) (k := (cfb k)) rfl (by omega) (by decide) dX2_gateTells_28 ?_
  refine lv_istore_n (lv' := [(3, .int (nI (pte (cfb k)))), (2, .int (nI (pte (cfa k)))), (0, .ref (q 17)), (1, .int (nI k))]) hx hb dX2_gateTells_29 rfl hl (by decide) rfl (fun ls hl => ?_)
  refine lv_aload_n hx hb dX2_gateTells_30 rfl (lv_at hl 2 rfl) ?_
  refine va_get (D := D) (ci := 2) (v := .ref (q 18)) (C := RX2) (T := TX2) (N := 3) hx hb hts (fun w h => List.mem_cons_of_mem _ (List.mem_append_left _ (List.mem_append_right _ h))) hown hK hP 17 rfl rfl 1 (by decide) (hts (.fieldLink RX2 9 "FirstStates$Parts" "tells" "[I") (List.mem_of_getElem? (i := 1) rfl)) (fun _ h9 => h9) rfl dX2_gateTells_31 ?_
  refine lv_aload_n hx hb dX2_gateTells_34 rfl (lv_at hl 2 rfl) ?_
  refine va_get (D := D) (ci := 2) (v := .ref (q 1)) (C := RX2) (T := TX2) (N := 3) hx hb hts (fun w h => List.mem_cons_of_mem _ (List.mem_append_left _ (List.mem_append_right _ h))) hown hK hP 17 rfl rfl 0 (by decide) (hts (.fieldLink RX2 18 "FirstStates$Parts" "circuit" "LFirstStates$Circuit;") (List.mem_of_getElem? (i := 2) rfl)) (fun _ h9 => h9) rfl dX2_gateTells_35 ?_
  refine va_get (D := D) (ci := 0) (v := .ref (q 6)) (C := RX0) (T := TX0) (N := 15) hx hb hts (fun w h => List.mem_cons_of_mem _ (List.mem_append_right _ h)) hown hK hP 1 rfl rfl 7 (by decide) (hts (.fieldLink RX2 47 "FirstStates$Circuit" "thirds" "[I") (List.mem_of_getElem? (i := 5) rfl)) (fun _ h9 => h9) rfl dX2_gateTells_38 ?_
  refine lv_iload_n hx hb dX2_gateTells_41 rfl (lv_at hl 3 rfl) ?_
  refine fx_iald (ar := nI) hx hb hK hP 6 (f := cfc) (k := k) rfl (by omega) (by decide) dX2_gateTells_42 ?_
  refine fx_iald (ar := nI) hx hb hK hP 18 (f := pte) (k := (cfc k)) rfl (by omega) (by decide) dX2_gateTells_43 ?_
  refine lv_istore (lv' := [(4, .int (nI (pte (cfc k)))), (3, .int (nI (pte (cfb k)))), (2, .int (nI (pte (cfa k)))), (0, .ref (q 17)), (1, .int (nI k))]) hx hb dX2_gateTells_44 hl (by decide) rfl (fun ls hl => ?_)
  refine lv_aload_n hx hb dX2_gateTells_46 rfl (lv_at hl 3 rfl) ?_
  refine va_get (D := D) (ci := 2) (v := .ref (q 1)) (C := RX2) (T := TX2) (N := 3) hx hb hts (fun w h => List.mem_cons_of_mem _ (List.mem_append_left _ (List.mem_append_right _ h))) hown hK hP 17 rfl rfl 0 (by decide) (hts (.fieldLink RX2 18 "FirstStates$Parts" "circuit" "LFirstStates$Circuit;") (List.mem_of_getElem? (i := 2) rfl)) (fun _ h9 => h9) rfl dX2_gateTells_47 ?_
  refine va_get (D := D) (ci := 0) (v := .ref (q 3)) (C := RX0) (T := TX0) (N := 15) hx hb hts (fun w h => List.mem_cons_of_mem _ (List.mem_append_right _ h)) hown hK hP 1 rfl rfl 4 (by decide) (hts (.fieldLink RX2 50 "FirstStates$Circuit" "kinds" "[I") (List.mem_of_getElem? (i := 6) rfl)) (fun _ h9 => h9) rfl dX2_gateTells_50 ?_
  refine lv_iload_n hx hb dX2_gateTells_53 rfl (lv_at hl 4 rfl) ?_
  refine fx_iald (ar := nI) hx hb hK hP 3 (f := cki) (k := k) rfl (by omega) (by decide) dX2_gateTells_54 ?_
  have h_55 : cki k = 0 ∨ cki k = 1 ∨ cki k = 2 ∨ cki k = 3 ∨ cki k = 4 := by omega
  rcases h_55 with h_55 | h_55 | h_55 | h_55 | h_55
  · refine lv_tableIn (off := 29) (tgt := 84) hx hb dX2_gateTells_55 (by rw [h_55]; decide) (by rw [h_55]; decide) (by rw [h_55]; decide) (by decide) ?_
    refine lv_iload_n hx hb dX2_gateTells_84 rfl (lv_at hl 2 rfl) ?_
    refine lv_iconst (v := nI 2) hx hb dX2_gateTells_85 (by decide) ?_
    refine lv_icmp_ne (tgt := 93) hx hb dX2_gateTells_86 (by decide) (fun c_86 => ?_) (fun c_86 => ?_)
    · have f_86 : ¬ pte (cfa k) = 2 := fun h => c_86 ((nI_eq (a := pte (cfa k)) (b := 2) (by first | omega | exact b_and1 _ | exact b_ct _ _ (by omega) | exact b_andr _ (by omega)) (by first | omega | exact b_and1 _ | exact b_ct _ _ (by omega) | exact b_andr _ (by omega))).mpr h)
      refine lv_iconst (v := nI 1) hx hb dX2_gateTells_93 (by decide) ?_
      refine lv_iload_n hx hb dX2_gateTells_94 rfl (lv_at hl 2 rfl) ?_
      refine lv_isub hx hb dX2_gateTells_95 ?_
      refine fx_eqi (x := (nI 1) - (nI (pte (cfa k)))) (y := nI (1 - pte (cfa k))) (pk_sub (by omega)) ?_
      exact hri () _ H locs 96 ls .int rfl rfl trivial (by rw [h_55]; simp only [pgF, Option.some.injEq, Value.int.injEq]; congr 1; simp [h_55, f_86] <;> omega) hP hD hS dX2_gateTells_96
    have f_86 : pte (cfa k) = 2 := (nI_eq (a := pte (cfa k)) (b := 2) (by first | omega | exact b_and1 _ | exact b_ct _ _ (by omega) | exact b_andr _ (by omega)) (by first | omega | exact b_and1 _ | exact b_ct _ _ (by omega) | exact b_andr _ (by omega))).mp c_86
    refine lv_iconst (v := nI 2) hx hb dX2_gateTells_89 (by decide) ?_
    refine lv_goto (tgt := 96) hx hb dX2_gateTells_90 (by decide) ?_
    exact hri () _ H locs 96 ls .int rfl rfl trivial (by rw [h_55]; simp only [pgF, Option.some.injEq, Value.int.injEq]; congr 1; simp [h_55, f_86] <;> omega) hP hD hS dX2_gateTells_96
  · refine lv_tableIn (off := 42) (tgt := 97) hx hb dX2_gateTells_55 (by rw [h_55]; decide) (by rw [h_55]; decide) (by rw [h_55]; decide) (by decide) ?_
    refine lv_iload_n hx hb dX2_gateTells_97 rfl (lv_at hl 2 rfl) ?_
    refine lv_if_eq (tgt := 105) hx hb dX2_gateTells_98 (by decide) (fun c_98 => ?_) (fun c_98 => ?_)
    · have f_98 : pte (cfa k) = 0 := (nI_eq (a := pte (cfa k)) (b := 0) (by first | omega | exact b_and1 _ | exact b_ct _ _ (by omega) | exact b_andr _ (by omega)) (by first | omega | exact b_and1 _ | exact b_ct _ _ (by omega) | exact b_andr _ (by omega))).mp c_98
      refine lv_iconst (v := nI 0) hx hb dX2_gateTells_105 (by decide) ?_
      refine lv_goto (tgt := 114) hx hb dX2_gateTells_106 (by decide) ?_
      exact hri () _ H locs 114 ls .int rfl rfl trivial (by rw [h_55]; simp only [pgF, Option.some.injEq, Value.int.injEq]; congr 1; simp [h_55, f_98] <;> omega) hP hD hS dX2_gateTells_114
    have f_98 : ¬ pte (cfa k) = 0 := fun h => c_98 ((nI_eq (a := pte (cfa k)) (b := 0) (by first | omega | exact b_and1 _ | exact b_ct _ _ (by omega) | exact b_andr _ (by omega)) (by first | omega | exact b_and1 _ | exact b_ct _ _ (by omega) | exact b_andr _ (by omega))).mpr h)
    refine lv_iload_n hx hb dX2_gateTells_101 rfl (lv_at hl 1 rfl) ?_
    refine lv_if_ne (tgt := 109) hx hb dX2_gateTells_102 (by decide) (fun c_102 => ?_) (fun c_102 => ?_)
    · have f_102 : ¬ pte (cfb k) = 0 := fun h => c_102 ((nI_eq (a := pte (cfb k)) (b := 0) (by first | omega | exact b_and1 _ | exact b_ct _ _ (by omega) | exact b_andr _ (by omega)) (by first | omega | exact b_and1 _ | exact b_ct _ _ (by omega) | exact b_andr _ (by omega))).mpr h)
      refine lv_iload_n hx hb dX2_gateTells_109 rfl (lv_at hl 2 rfl) ?_
      refine lv_iload_n hx hb dX2_gateTells_110 rfl (lv_at hl 1 rfl) ?_
      refine va_mmax hx hb (hml.trans hl.1.symm) hown (hts (.methodLink RX2 53 Lib.Math.max.name) (List.mem_of_getElem? (i := 7) rfl)) (hts (.static Lib.Math.max.name) (List.mem_of_getElem? (i := 8) rfl)) (hts (.initialized "java/lang/Math") (List.mem_of_getElem? (i := 9) rfl)) (hts (.code Lib.Math.max.name Lib.Math.max.code 2 (some .int)) (List.mem_of_getElem? (i := 10) rfl)) (Nat.le_of_ble_eq_true rfl) (Nat.le_of_ble_eq_true rfl) (Nat.zero_le _) (Nat.zero_le _) dX2_gateTells_111 ?_
      refine fx_eqi (y := nI (max (pte (cfa k)) (pte (cfb k)))) (fx_max (by first | omega | exact b_and1 _ | exact b_ct _ _ (by omega) | exact b_andr _ (by omega)) (by first | omega | exact b_and1 _ | exact b_ct _ _ (by omega) | exact b_andr _ (by omega))) ?_
      exact hri () _ H locs 114 ls .int rfl rfl trivial (by rw [h_55, pgF_1 (by omega) (by omega) (by omega) (by omega)]) hP hD hS dX2_gateTells_114
    have f_102 : pte (cfb k) = 0 := (nI_eq (a := pte (cfb k)) (b := 0) (by first | omega | exact b_and1 _ | exact b_ct _ _ (by omega) | exact b_andr _ (by omega)) (by first | omega | exact b_and1 _ | exact b_ct _ _ (by omega) | exact b_andr _ (by omega))).mp c_102
    refine lv_iconst (v := nI 0) hx hb dX2_gateTells_105 (by decide) ?_
    refine lv_goto (tgt := 114) hx hb dX2_gateTells_106 (by decide) ?_
    exact hri () _ H locs 114 ls .int rfl rfl trivial (by rw [h_55]; simp only [pgF, Option.some.injEq, Value.int.injEq]; congr 1; simp [h_55, f_98, f_102] <;> omega) hP hD hS dX2_gateTells_114
  · refine lv_tableIn (off := 60) (tgt := 115) hx hb dX2_gateTells_55 (by rw [h_55]; decide) (by rw [h_55]; decide) (by rw [h_55]; decide) (by decide) ?_
    refine lv_iload_n hx hb dX2_gateTells_115 rfl (lv_at hl 2 rfl) ?_
    refine lv_iconst (v := nI 1) hx hb dX2_gateTells_116 (by decide) ?_
    refine lv_icmp_eq (tgt := 125) hx hb dX2_gateTells_117 (by decide) (fun c_117 => ?_) (fun c_117 => ?_)
    · have f_117 : pte (cfa k) = 1 := (nI_eq (a := pte (cfa k)) (b := 1) (by first | omega | exact b_and1 _ | exact b_ct _ _ (by omega) | exact b_andr _ (by omega)) (by first | omega | exact b_and1 _ | exact b_ct _ _ (by omega) | exact b_andr _ (by omega))).mp c_117
      refine lv_iconst (v := nI 1) hx hb dX2_gateTells_125 (by decide) ?_
      refine lv_goto (tgt := 134) hx hb dX2_gateTells_126 (by decide) ?_
      exact hri () _ H locs 134 ls .int rfl rfl trivial (by rw [h_55]; simp only [pgF, Option.some.injEq, Value.int.injEq]; congr 1; simp [h_55, f_117] <;> omega) hP hD hS dX2_gateTells_134
    have f_117 : ¬ pte (cfa k) = 1 := fun h => c_117 ((nI_eq (a := pte (cfa k)) (b := 1) (by first | omega | exact b_and1 _ | exact b_ct _ _ (by omega) | exact b_andr _ (by omega)) (by first | omega | exact b_and1 _ | exact b_ct _ _ (by omega) | exact b_andr _ (by omega))).mpr h)
    refine lv_iload_n hx hb dX2_gateTells_120 rfl (lv_at hl 1 rfl) ?_
    refine lv_iconst (v := nI 1) hx hb dX2_gateTells_121 (by decide) ?_
    refine lv_icmp_ne (tgt := 129) hx hb dX2_gateTells_122 (by decide) (fun c_122 => ?_) (fun c_122 => ?_)
    · have f_122 : ¬ pte (cfb k) = 1 := fun h => c_122 ((nI_eq (a := pte (cfb k)) (b := 1) (by first | omega | exact b_and1 _ | exact b_ct _ _ (by omega) | exact b_andr _ (by omega)) (by first | omega | exact b_and1 _ | exact b_ct _ _ (by omega) | exact b_andr _ (by omega))).mpr h)
      refine lv_iload_n hx hb dX2_gateTells_129 rfl (lv_at hl 2 rfl) ?_
      refine lv_iload_n hx hb dX2_gateTells_130 rfl (lv_at hl 1 rfl) ?_
      refine va_mmax hx hb (hml.trans hl.1.symm) hown (hts (.methodLink RX2 53 Lib.Math.max.name) (List.mem_of_getElem? (i := 7) rfl)) (hts (.static Lib.Math.max.name) (List.mem_of_getElem? (i := 8) rfl)) (hts (.initialized "java/lang/Math") (List.mem_of_getElem? (i := 9) rfl)) (hts (.code Lib.Math.max.name Lib.Math.max.code 2 (some .int)) (List.mem_of_getElem? (i := 10) rfl)) (Nat.le_of_ble_eq_true rfl) (Nat.le_of_ble_eq_true rfl) (Nat.zero_le _) (Nat.zero_le _) dX2_gateTells_131 ?_
      refine fx_eqi (y := nI (max (pte (cfa k)) (pte (cfb k)))) (fx_max (by first | omega | exact b_and1 _ | exact b_ct _ _ (by omega) | exact b_andr _ (by omega)) (by first | omega | exact b_and1 _ | exact b_ct _ _ (by omega) | exact b_andr _ (by omega))) ?_
      exact hri () _ H locs 134 ls .int rfl rfl trivial (by rw [h_55, pgF_2 (by omega) (by omega) (by omega) (by omega)]) hP hD hS dX2_gateTells_134
    have f_122 : pte (cfb k) = 1 := (nI_eq (a := pte (cfb k)) (b := 1) (by first | omega | exact b_and1 _ | exact b_ct _ _ (by omega) | exact b_andr _ (by omega)) (by first | omega | exact b_and1 _ | exact b_ct _ _ (by omega) | exact b_andr _ (by omega))).mp c_122
    refine lv_iconst (v := nI 1) hx hb dX2_gateTells_125 (by decide) ?_
    refine lv_goto (tgt := 134) hx hb dX2_gateTells_126 (by decide) ?_
    exact hri () _ H locs 134 ls .int rfl rfl trivial (by rw [h_55]; simp only [pgF, Option.some.injEq, Value.int.injEq]; congr 1; simp [h_55, f_117, f_122] <;> omega) hP hD hS dX2_gateTells_134
  · refine lv_tableIn (off := 80) (tgt := 135) hx hb dX2_gateTells_55 (by rw [h_55]; decide) (by rw [h_55]; decide) (by rw [h_55]; decide) (by decide) ?_
    refine lv_iload_n hx hb dX2_gateTells_135 rfl (lv_at hl 2 rfl) ?_
    refine lv_iconst (v := nI 2) hx hb dX2_gateTells_136 (by decide) ?_
    refine lv_icmp_eq (tgt := 145) hx hb dX2_gateTells_137 (by decide) (fun c_137 => ?_) (fun c_137 => ?_)
    · have f_137 : pte (cfa k) = 2 := (nI_eq (a := pte (cfa k)) (b := 2) (by first | omega | exact b_and1 _ | exact b_ct _ _ (by omega) | exact b_andr _ (by omega)) (by first | omega | exact b_and1 _ | exact b_ct _ _ (by omega) | exact b_andr _ (by omega))).mp c_137
      refine lv_iconst (v := nI 2) hx hb dX2_gateTells_145 (by decide) ?_
      refine lv_goto (tgt := 152) hx hb dX2_gateTells_146 (by decide) ?_
      exact hri () _ H locs 152 ls .int rfl rfl trivial (by rw [h_55]; simp only [pgF, Option.some.injEq, Value.int.injEq]; congr 1; simp [h_55, f_137] <;> omega) hP hD hS dX2_gateTells_152
    have f_137 : ¬ pte (cfa k) = 2 := fun h => c_137 ((nI_eq (a := pte (cfa k)) (b := 2) (by first | omega | exact b_and1 _ | exact b_ct _ _ (by omega) | exact b_andr _ (by omega)) (by first | omega | exact b_and1 _ | exact b_ct _ _ (by omega) | exact b_andr _ (by omega))).mpr h)
    refine lv_iload_n hx hb dX2_gateTells_140 rfl (lv_at hl 1 rfl) ?_
    refine lv_iconst (v := nI 2) hx hb dX2_gateTells_141 (by decide) ?_
    refine lv_icmp_ne (tgt := 149) hx hb dX2_gateTells_142 (by decide) (fun c_142 => ?_) (fun c_142 => ?_)
    · have f_142 : ¬ pte (cfb k) = 2 := fun h => c_142 ((nI_eq (a := pte (cfb k)) (b := 2) (by first | omega | exact b_and1 _ | exact b_ct _ _ (by omega) | exact b_andr _ (by omega)) (by first | omega | exact b_and1 _ | exact b_ct _ _ (by omega) | exact b_andr _ (by omega))).mpr h)
      refine lv_iload_n hx hb dX2_gateTells_149 rfl (lv_at hl 2 rfl) ?_
      refine lv_iload_n hx hb dX2_gateTells_150 rfl (lv_at hl 1 rfl) ?_
      refine lv_ixor hx hb dX2_gateTells_151 ?_
      refine fx_eqi (fx_xorI _ _) ?_
      exact hri () _ H locs 152 ls .int rfl rfl trivial (by rw [h_55]; simp only [pgF, Option.some.injEq, Value.int.injEq]; congr 1; simp [h_55, f_137, f_142] <;> omega) hP hD hS dX2_gateTells_152
    have f_142 : pte (cfb k) = 2 := (nI_eq (a := pte (cfb k)) (b := 2) (by first | omega | exact b_and1 _ | exact b_ct _ _ (by omega) | exact b_andr _ (by omega)) (by first | omega | exact b_and1 _ | exact b_ct _ _ (by omega) | exact b_andr _ (by omega))).mp c_142
    refine lv_iconst (v := nI 2) hx hb dX2_gateTells_145 (by decide) ?_
    refine lv_goto (tgt := 152) hx hb dX2_gateTells_146 (by decide) ?_
    exact hri () _ H locs 152 ls .int rfl rfl trivial (by rw [h_55]; simp only [pgF, Option.some.injEq, Value.int.injEq]; congr 1; simp [h_55, f_137, f_142] <;> omega) hP hD hS dX2_gateTells_152
  refine lv_tableOut (tgt := 153) hx hb dX2_gateTells_55 (by rw [h_55]; decide) (by decide) ?_
  refine lv_iload_n hx hb dX2_gateTells_153 rfl (lv_at hl 2 rfl) ?_
  refine lv_iload_n hx hb dX2_gateTells_154 rfl (lv_at hl 1 rfl) ?_
  refine lv_iload hx hb dX2_gateTells_155 (lv_at hl 0 rfl) ?_
  refine fx_callS (As := [.int (nI (pte (cfa k))), .int (nI (pte (cfb k))), .int (nI (pte (cfc k)))]) (rest := []) ⟨hx, hb, hml, hown, hts⟩ (c_X2_choiceTells l D cI cJ cZ (wA q cI cJ xro xtk xli cn ci cs cso cki cfa cfb cfc cva csn csd csl csb csr csc won wle pte pho nwa nti) (pte (cfa k)) (pte (cfb k)) (pte (cfc k)) (by first | assumption | omega) (by first | assumption | omega) (by first | assumption | omega)) (va_cwS 3 hts gX2_gateTells_X2_choiceTells rfl rfl rfl ks_X2_choiceTells ⟨Nat.le_of_ble_eq_true rfl, Nat.le_of_ble_eq_true rfl⟩) hK hP hD hS hA hZ rfl hl.1 rfl (lv_room (Nat.le_of_ble_eq_true rfl)) dX2_gateTells_157 ⟨Nat.zero_le _, Nat.zero_le _⟩ (fun u_1 H locs hu_1 hP hD hS => ?_)
  exact hri () _ H locs 160 ls .int rfl rfl trivial (by rw [h_55]) hP hD hS dX2_gateTells_160
set_option maxHeartbeats 4000000 in
set_option maxRecDepth 100000 in
theorem c_X2_tellAll (l : Launch) (D : va_G) (cI cJ cZ : ClassId) (q : Nat → Nat) (xro : Int64) (xtk : Nat) (xli : Nat) (cn : Nat) (ci : Nat) (cs : Nat) (cso : Nat → Nat) (cki : Nat → Nat) (cfa : Nat → Nat) (cfb : Nat → Nat) (cfc : Nat → Nat) (cva : Nat → Nat) (csn : Nat → Nat) (csd : Nat → Nat) (csl : Nat → Nat) (csb : Nat → Nat) (csr : Nat → Nat) (csc : Nat → Nat) (won : Nat → Int64) (wle : Nat → Int64) (pte : Nat → Nat) (pho : Nat → Nat) (nwa : Nat → Int32) (nti : Nat → Int32) (hcn : cn ≤ 32) (hcs : cs ≤ 6) (hso : ∀ j, j < cn → cso j ≤ 3 ∧ cki j ≤ 4 ∧ cva j ≤ 2) (hg : ∀ j, j < cn → cso j = 2 → cfa j < j ∧ cfb j < j ∧ cfc j < j) (hs : ∀ j, j < cn → cso j = 3 → csn j < cs) (hho : ∀ j, j < 6 → pho j ≤ 2) : Ct l D cI cJ cZ yX2_tellAll wsX2_tellAll ({ frames := 2, cells := 0, slots := 0, locals := 46 } : Room) 0 0 [.ref (q 17)] (wA q cI cJ xro xtk xli cn ci cs cso cki cfa cfb cfc cva csn csd csl csb csr csc won wle pte pho nwa nti) (S := Unit) (fun u => True) (fun u => none) (fun u => (wA q cI cJ xro xtk xli cn ci cs cso cki cfa cfb cfc cva csn csd csl csb csr csc won wle (telT cso cki cfa cfb cfc cva csn pho pte cn) pho nwa nti)) := by
  refine Ct.ofW (cc := cX2_tellAll) (maxL := 2) (ret := none) (R_C := RX2) (by decide +kernel) rfl rfl (Nat.le_of_ble_eq_true rfl) rfl ?_
  intro p e s m args below meth c A Q ls H locs hx hb hml hown hts hK hA hP hD hS hZ hl hri hrl hrv
  refine lv_iconst (v := nI 0) hx hb dX2_tellAll_0 (by decide) ?_
  refine lv_istore_n (lv' := [(1, .int (nI 0)), (0, .ref (q 17))]) hx hb dX2_tellAll_1 rfl hl (by decide) rfl (fun ls hl => ?_)
  have L_2 : ∀ (fuel : Nat) (i : Nat) (hi : i ≤ cn) (hfu : cn - i < fuel) (H : Heap) (locs : List Loc), va_P D vwCl (wA q cI cJ xro xtk xli cn ci cs cso cki cfa cfb cfc cva csn csd csl csb csr csc won wle (telT cso cki cfa cfb cfc cva csn pho pte i) pho nwa nti) H → va_D A (wA q cI cJ xro xtk xli cn ci cs cso cki cfa cfb cfc cva csn csd csl csb csr csc won wle (telT cso cki cfa cfb cfc cva csn pho pte i) pho nwa nti) → va_S A s.heap H locs → ∀ ls : Array Slot, lv_has ls 2 [(0, .ref (q 17)), (1, .int (nI i))] → W p l e ({ frames := 2, cells := 0, slots := 0, locals := 46 } : Room) s m args below meth c H locs 0 0 Q (F0 m 2 ls []) := by
    intro fuel
    induction fuel with
    | zero => intro i hi hfu; exact absurd hfu (Nat.not_lt_zero _)
    | succ fuel ih_2 =>
      intro i hi hfu H locs hP hD hS ls hl
      refine lv_iload_n hx hb dX2_tellAll_2 rfl (lv_at hl 1 rfl) ?_
      refine lv_aload_n hx hb dX2_tellAll_3 rfl (lv_at hl 0 rfl) ?_
      refine va_get (D := D) (ci := 2) (v := .ref (q 1)) (C := RX2) (T := TX2) (N := 3) hx hb hts (fun w h => List.mem_cons_of_mem _ (List.mem_append_left _ (List.mem_append_right _ h))) hown hK hP 17 rfl rfl 0 (by decide) (hts (.fieldLink RX2 18 "FirstStates$Parts" "circuit" "LFirstStates$Circuit;") (List.mem_of_getElem? (i := 1) rfl)) (fun _ h9 => h9) rfl dX2_tellAll_4 ?_
      refine va_get (D := D) (ci := 0) (v := .int (nI cn)) (C := RX0) (T := TX0) (N := 15) hx hb hts (fun w h => List.mem_cons_of_mem _ (List.mem_append_right _ h)) hown hK hP 1 rfl rfl 0 (by decide) (hts (.fieldLink RX2 22 "FirstStates$Circuit" "nodes" "I") (List.mem_of_getElem? (i := 2) rfl)) (fun _ h9 => h9) rfl dX2_tellAll_7 ?_
      refine lv_icmp_ge (tgt := 106) hx hb dX2_tellAll_10 (by decide) (fun c_10 => ?_) (fun c_10 => ?_)
      · have f_10 : cn ≤ i := (nI_leI (a := cn) (b := i) (by first | omega | exact b_and1 _ | exact b_ct _ _ (by omega) | exact b_andr _ (by omega)) (by first | omega | exact b_and1 _ | exact b_ct _ _ (by omega) | exact b_andr _ (by omega))).mp c_10
        have e_i : i = cn := by omega
        subst e_i
        exact hrv () H locs 106 ls rfl trivial rfl hP (fx_D hD rfl) hS dX2_tellAll_106
      have f_10 : ¬ cn ≤ i := fun h => c_10 ((nI_leI (a := cn) (b := i) (by first | omega | exact b_and1 _ | exact b_ct _ _ (by omega) | exact b_andr _ (by omega)) (by first | omega | exact b_and1 _ | exact b_ct _ _ (by omega) | exact b_andr _ (by omega))).mpr h)
      have hso1 := hso i (by omega)
      refine lv_aload_n hx hb dX2_tellAll_13 rfl (lv_at hl 0 rfl) ?_
      refine va_get (D := D) (ci := 2) (v := .ref (q 1)) (C := RX2) (T := TX2) (N := 3) hx hb hts (fun w h => List.mem_cons_of_mem _ (List.mem_append_left _ (List.mem_append_right _ h))) hown hK hP 17 rfl rfl 0 (by decide) (hts (.fieldLink RX2 18 "FirstStates$Parts" "circuit" "LFirstStates$Circuit;") (List.mem_of_getElem? (i := 1) rfl)) (fun _ h9 => h9) rfl dX2_tellAll_14 ?_
      refine va_get (D := D) (ci := 0) (v := .ref (q 2)) (C := RX0) (T := TX0) (N := 15) hx hb hts (fun w h => List.mem_cons_of_mem _ (List.mem_append_right _ h)) hown hK hP 1 rfl rfl 3 (by decide) (hts (.fieldLink RX2 28 "FirstStates$Circuit" "sorts" "[I") (List.mem_of_getElem? (i := 3) rfl)) (fun _ h9 => h9) rfl dX2_tellAll_17 ?_
      refine lv_iload_n hx hb dX2_tellAll_20 rfl (lv_at hl 1 rfl) ?_
      refine fx_iald (ar := nI) hx hb hK hP 2 (f := cso) (k := i) rfl (by omega) (by decide) dX2_tellAll_21 ?_
      have h_22 : cso i = 2 ∨ cso i = 3 ∨ cso i = 0 ∨ cso i = 1 := by omega
      rcases h_22 with h_22 | h_22 | h_22 | h_22
      · refine lv_lookup (off := 26) (tgt := 48) hx hb dX2_tellAll_22 (by decide) (by rw [h_22]; decide) (by decide) ?_
        have hg1 := hg i (by omega) h_22
        refine lv_aload_n hx hb dX2_tellAll_48 rfl (lv_at hl 0 rfl) ?_
        refine va_get (D := D) (ci := 2) (v := .ref (q 18)) (C := RX2) (T := TX2) (N := 3) hx hb hts (fun w h => List.mem_cons_of_mem _ (List.mem_append_left _ (List.mem_append_right _ h))) hown hK hP 17 rfl rfl 1 (by decide) (hts (.fieldLink RX2 9 "FirstStates$Parts" "tells" "[I") (List.mem_of_getElem? (i := 4) rfl)) (fun _ h9 => h9) rfl dX2_tellAll_49 ?_
        refine lv_iload_n hx hb dX2_tellAll_52 rfl (lv_at hl 1 rfl) ?_
        refine lv_aload_n hx hb dX2_tellAll_53 rfl (lv_at hl 0 rfl) ?_
        refine lv_iload_n hx hb dX2_tellAll_54 rfl (lv_at hl 1 rfl) ?_
        refine fx_callV (As := [.int (nI i)]) (rest := [.int (nI i), .ref (q 18)]) ⟨hx, hb, hml, hown, hts⟩ (c_X2_gateTells l D cI cJ cZ q xro xtk xli cn ci cs cso cki cfa cfb cfc cva csn csd csl csb csr csc won wle (telT cso cki cfa cfb cfc cva csn pho pte i) pho nwa nti i (by first | assumption | omega) (by first | assumption | omega) hso1.2.1 hg1 (telT_le (fun j hj => hso j (by omega)) (fun j hj => hg j (by omega)) (fun j hj h => by have := hs j (by omega) h; omega) hho (by omega))) (cwV 1 hts gX2_tellAll_X2_gateTells rfl rfl rfl kv_X2_gateTells ⟨Nat.le_of_ble_eq_true rfl, Nat.le_of_ble_eq_true rfl⟩) hK hP hD hS hA hZ 17 rfl rfl rfl rfl hl.1 rfl (lv_room (Nat.le_of_ble_eq_true rfl)) dX2_tellAll_55 ⟨Nat.zero_le _, Nat.zero_le _⟩ (fun u_1 H locs hu_1 hP hD hS => ?_)
        refine fx_iast (ar := nI) hx hb hK hP hD hS 18 (f := (telT cso cki cfa cfb cfc cva csn pho pte i)) (k := i) (v := (pgF (cki i) ((telT cso cki cfa cfb cfc cva csn pho pte i) (cfa i)) ((telT cso cki cfa cfb cfc cva csn pho pte i) (cfb i)) ((telT cso cki cfa cfb cfc cva csn pho pte i) (cfc i)))) rfl (by omega) (by decide) rfl dX2_tellAll_58 (fun H locs hP hD hS => ?_)
        have hP : va_P D vwCl (wA q cI cJ xro xtk xli cn ci cs cso cki cfa cfb cfc cva csn csd csl csb csr csc won wle (va_up (telT cso cki cfa cfb cfc cva csn pho pte i) i (pgF (cki i) ((telT cso cki cfa cfb cfc cva csn pho pte i) (cfa i)) ((telT cso cki cfa cfb cfc cva csn pho pte i) (cfb i)) ((telT cso cki cfa cfb cfc cva csn pho pte i) (cfc i)))) pho nwa nti) H := hP
        have hD : va_D A (wA q cI cJ xro xtk xli cn ci cs cso cki cfa cfb cfc cva csn csd csl csb csr csc won wle (va_up (telT cso cki cfa cfb cfc cva csn pho pte i) i (pgF (cki i) ((telT cso cki cfa cfb cfc cva csn pho pte i) (cfa i)) ((telT cso cki cfa cfb cfc cva csn pho pte i) (cfb i)) ((telT cso cki cfa cfb cfc cva csn pho pte i) (cfc i)))) pho nwa nti) := fx_D hD rfl
        refine lv_goto (tgt := 100) hx hb dX2_tellAll_59 (by decide) ?_
        refine lv_iinc (v := nI (i + 1)) (lv' := [(1, .int (nI (i + 1))), (0, .ref (q 17))]) hx hb dX2_tellAll_100 hl (k := 1) rfl (by exact nI_1 _) (by decide) rfl (fun ls hl => ?_)
        refine lv_goto (tgt := 2) hx hb dX2_tellAll_103 (by decide) ?_
        have e_2 : va_up (telT cso cki cfa cfb cfc cva csn pho pte i) i (pgF (cki i) ((telT cso cki cfa cfb cfc cva csn pho pte i) (cfa i)) ((telT cso cki cfa cfb cfc cva csn pho pte i) (cfb i)) ((telT cso cki cfa cfb cfc cva csn pho pte i) (cfc i))) = telT cso cki cfa cfb cfc cva csn pho pte (i + 1) := by first | rfl | (simp [telT, f_10, h_22])
        exact ih_2 (i + 1) (by first | assumption | omega) (by omega) H locs (fx_Pe (w' := (wA q cI cJ xro xtk xli cn ci cs cso cki cfa cfb cfc cva csn csd csl csb csr csc won wle (telT cso cki cfa cfb cfc cva csn pho pte (i + 1)) pho nwa nti)) hP (congrArg (fun w9 : Nat → Nat => (wA q cI cJ xro xtk xli cn ci cs cso cki cfa cfb cfc cva csn csd csl csb csr csc won wle w9 pho nwa nti)) e_2)) (fx_D hD rfl) hS ls (lv_sub hl [1, 0] rfl)
      · refine lv_lookup (off := 40) (tgt := 62) hx hb dX2_tellAll_22 (by decide) (by rw [h_22]; decide) (by decide) ?_
        have hs1 := hs i (by omega) h_22
        refine lv_aload_n hx hb dX2_tellAll_62 rfl (lv_at hl 0 rfl) ?_
        refine va_get (D := D) (ci := 2) (v := .ref (q 18)) (C := RX2) (T := TX2) (N := 3) hx hb hts (fun w h => List.mem_cons_of_mem _ (List.mem_append_left _ (List.mem_append_right _ h))) hown hK hP 17 rfl rfl 1 (by decide) (hts (.fieldLink RX2 9 "FirstStates$Parts" "tells" "[I") (List.mem_of_getElem? (i := 4) rfl)) (fun _ h9 => h9) rfl dX2_tellAll_63 ?_
        refine lv_iload_n hx hb dX2_tellAll_66 rfl (lv_at hl 1 rfl) ?_
        refine lv_aload_n hx hb dX2_tellAll_67 rfl (lv_at hl 0 rfl) ?_
        refine va_get (D := D) (ci := 2) (v := .ref (q 19)) (C := RX2) (T := TX2) (N := 3) hx hb hts (fun w h => List.mem_cons_of_mem _ (List.mem_append_left _ (List.mem_append_right _ h))) hown hK hP 17 rfl rfl 2 (by decide) (hts (.fieldLink RX2 15 "FirstStates$Parts" "holds" "[I") (List.mem_of_getElem? (i := 5) rfl)) (fun _ h9 => h9) rfl dX2_tellAll_68 ?_
        refine lv_aload_n hx hb dX2_tellAll_71 rfl (lv_at hl 0 rfl) ?_
        refine va_get (D := D) (ci := 2) (v := .ref (q 1)) (C := RX2) (T := TX2) (N := 3) hx hb hts (fun w h => List.mem_cons_of_mem _ (List.mem_append_left _ (List.mem_append_right _ h))) hown hK hP 17 rfl rfl 0 (by decide) (hts (.fieldLink RX2 18 "FirstStates$Parts" "circuit" "LFirstStates$Circuit;") (List.mem_of_getElem? (i := 1) rfl)) (fun _ h9 => h9) rfl dX2_tellAll_72 ?_
        refine va_get (D := D) (ci := 0) (v := .ref (q 8)) (C := RX0) (T := TX0) (N := 15) hx hb hts (fun w h => List.mem_cons_of_mem _ (List.mem_append_right _ h)) hown hK hP 1 rfl rfl 9 (by decide) (hts (.fieldLink RX2 35 "FirstStates$Circuit" "storeNumbers" "[I") (List.mem_of_getElem? (i := 6) rfl)) (fun _ h9 => h9) rfl dX2_tellAll_75 ?_
        refine lv_iload_n hx hb dX2_tellAll_78 rfl (lv_at hl 1 rfl) ?_
        refine fx_iald (ar := nI) hx hb hK hP 8 (f := csn) (k := i) rfl (by omega) (by decide) dX2_tellAll_79 ?_
        refine fx_iald (ar := nI) hx hb hK hP 19 (f := pho) (k := (csn i)) rfl (by omega) (by decide) dX2_tellAll_80 ?_
        refine fx_iast (ar := nI) hx hb hK hP hD hS 18 (f := (telT cso cki cfa cfb cfc cva csn pho pte i)) (k := i) (v := (pho (csn i))) rfl (by omega) (by decide) rfl dX2_tellAll_81 (fun H locs hP hD hS => ?_)
        have hP : va_P D vwCl (wA q cI cJ xro xtk xli cn ci cs cso cki cfa cfb cfc cva csn csd csl csb csr csc won wle (va_up (telT cso cki cfa cfb cfc cva csn pho pte i) i (pho (csn i))) pho nwa nti) H := hP
        have hD : va_D A (wA q cI cJ xro xtk xli cn ci cs cso cki cfa cfb cfc cva csn csd csl csb csr csc won wle (va_up (telT cso cki cfa cfb cfc cva csn pho pte i) i (pho (csn i))) pho nwa nti) := fx_D hD rfl
        refine lv_goto (tgt := 100) hx hb dX2_tellAll_82 (by decide) ?_
        refine lv_iinc (v := nI (i + 1)) (lv' := [(1, .int (nI (i + 1))), (0, .ref (q 17))]) hx hb dX2_tellAll_100 hl (k := 1) rfl (by exact nI_1 _) (by decide) rfl (fun ls hl => ?_)
        refine lv_goto (tgt := 2) hx hb dX2_tellAll_103 (by decide) ?_
        have e_3 : va_up (telT cso cki cfa cfb cfc cva csn pho pte i) i (pho (csn i)) = telT cso cki cfa cfb cfc cva csn pho pte (i + 1) := by first | rfl | (simp [telT, f_10, h_22])
        exact ih_2 (i + 1) (by first | assumption | omega) (by omega) H locs (fx_Pe (w' := (wA q cI cJ xro xtk xli cn ci cs cso cki cfa cfb cfc cva csn csd csl csb csr csc won wle (telT cso cki cfa cfb cfc cva csn pho pte (i + 1)) pho nwa nti)) hP (congrArg (fun w9 : Nat → Nat => (wA q cI cJ xro xtk xli cn ci cs cso cki cfa cfb cfc cva csn csd csl csb csr csc won wle w9 pho nwa nti)) e_3)) (fx_D hD rfl) hS ls (lv_sub hl [1, 0] rfl)
      · refine lv_lookup (off := 63) (tgt := 85) hx hb dX2_tellAll_22 (by decide) (by rw [h_22]; decide) (by decide) ?_
        refine lv_aload_n hx hb dX2_tellAll_85 rfl (lv_at hl 0 rfl) ?_
        refine va_get (D := D) (ci := 2) (v := .ref (q 18)) (C := RX2) (T := TX2) (N := 3) hx hb hts (fun w h => List.mem_cons_of_mem _ (List.mem_append_left _ (List.mem_append_right _ h))) hown hK hP 17 rfl rfl 1 (by decide) (hts (.fieldLink RX2 9 "FirstStates$Parts" "tells" "[I") (List.mem_of_getElem? (i := 4) rfl)) (fun _ h9 => h9) rfl dX2_tellAll_86 ?_
        refine lv_iload_n hx hb dX2_tellAll_89 rfl (lv_at hl 1 rfl) ?_
        refine lv_aload_n hx hb dX2_tellAll_90 rfl (lv_at hl 0 rfl) ?_
        refine va_get (D := D) (ci := 2) (v := .ref (q 1)) (C := RX2) (T := TX2) (N := 3) hx hb hts (fun w h => List.mem_cons_of_mem _ (List.mem_append_left _ (List.mem_append_right _ h))) hown hK hP 17 rfl rfl 0 (by decide) (hts (.fieldLink RX2 18 "FirstStates$Parts" "circuit" "LFirstStates$Circuit;") (List.mem_of_getElem? (i := 1) rfl)) (fun _ h9 => h9) rfl dX2_tellAll_91 ?_
        refine va_get (D := D) (ci := 0) (v := .ref (q 7)) (C := RX0) (T := TX0) (N := 15) hx hb hts (fun w h => List.mem_cons_of_mem _ (List.mem_append_right _ h)) hown hK hP 1 rfl rfl 8 (by decide) (hts (.fieldLink RX2 38 "FirstStates$Circuit" "values" "[I") (List.mem_of_getElem? (i := 7) rfl)) (fun _ h9 => h9) rfl dX2_tellAll_94 ?_
        refine lv_iload_n hx hb dX2_tellAll_97 rfl (lv_at hl 1 rfl) ?_
        refine fx_iald (ar := nI) hx hb hK hP 7 (f := cva) (k := i) rfl (by omega) (by decide) dX2_tellAll_98 ?_
        refine fx_iast (ar := nI) hx hb hK hP hD hS 18 (f := (telT cso cki cfa cfb cfc cva csn pho pte i)) (k := i) (v := (cva i)) rfl (by omega) (by decide) rfl dX2_tellAll_99 (fun H locs hP hD hS => ?_)
        have hP : va_P D vwCl (wA q cI cJ xro xtk xli cn ci cs cso cki cfa cfb cfc cva csn csd csl csb csr csc won wle (va_up (telT cso cki cfa cfb cfc cva csn pho pte i) i (cva i)) pho nwa nti) H := hP
        have hD : va_D A (wA q cI cJ xro xtk xli cn ci cs cso cki cfa cfb cfc cva csn csd csl csb csr csc won wle (va_up (telT cso cki cfa cfb cfc cva csn pho pte i) i (cva i)) pho nwa nti) := fx_D hD rfl
        refine lv_iinc (v := nI (i + 1)) (lv' := [(1, .int (nI (i + 1))), (0, .ref (q 17))]) hx hb dX2_tellAll_100 hl (k := 1) rfl (by exact nI_1 _) (by decide) rfl (fun ls hl => ?_)
        refine lv_goto (tgt := 2) hx hb dX2_tellAll_103 (by decide) ?_
        have e_4 : va_up (telT cso cki cfa cfb cfc cva csn pho pte i) i (cva i) = telT cso cki cfa cfb cfc cva csn pho pte (i + 1) := by first | rfl | (simp [telT, f_10, h_22])
        exact ih_2 (i + 1) (by first | assumption | omega) (by omega) H locs (fx_Pe (w' := (wA q cI cJ xro xtk xli cn ci cs cso cki cfa cfb cfc cva csn csd csl csb csr csc won wle (telT cso cki cfa cfb cfc cva csn pho pte (i + 1)) pho nwa nti)) hP (congrArg (fun w9 : Nat → Nat => (wA q cI cJ xro xtk xli cn ci cs cso cki cfa cfb cfc cva csn csd csl csb csr csc won wle w9 pho nwa nti)) e_4)) (fx_D hD rfl) hS ls (lv_sub hl [1, 0] rfl)
      refine lv_lookup (off := 63) (tgt := 85) hx hb dX2_tellAll_22 (by decide) (by rw [h_22]; decide) (by decide) ?_
      refine lv_aload_n hx hb dX2_tellAll_85 rfl (lv_at hl 0 rfl) ?_
      refine va_get (D := D) (ci := 2) (v := .ref (q 18)) (C := RX2) (T := TX2) (N := 3) hx hb hts (fun w h => List.mem_cons_of_mem _ (List.mem_append_left _ (List.mem_append_right _ h))) hown hK hP 17 rfl rfl 1 (by decide) (hts (.fieldLink RX2 9 "FirstStates$Parts" "tells" "[I") (List.mem_of_getElem? (i := 4) rfl)) (fun _ h9 => h9) rfl dX2_tellAll_86 ?_
      refine lv_iload_n hx hb dX2_tellAll_89 rfl (lv_at hl 1 rfl) ?_
      refine lv_aload_n hx hb dX2_tellAll_90 rfl (lv_at hl 0 rfl) ?_
      refine va_get (D := D) (ci := 2) (v := .ref (q 1)) (C := RX2) (T := TX2) (N := 3) hx hb hts (fun w h => List.mem_cons_of_mem _ (List.mem_append_left _ (List.mem_append_right _ h))) hown hK hP 17 rfl rfl 0 (by decide) (hts (.fieldLink RX2 18 "FirstStates$Parts" "circuit" "LFirstStates$Circuit;") (List.mem_of_getElem? (i := 1) rfl)) (fun _ h9 => h9) rfl dX2_tellAll_91 ?_
      refine va_get (D := D) (ci := 0) (v := .ref (q 7)) (C := RX0) (T := TX0) (N := 15) hx hb hts (fun w h => List.mem_cons_of_mem _ (List.mem_append_right _ h)) hown hK hP 1 rfl rfl 8 (by decide) (hts (.fieldLink RX2 38 "FirstStates$Circuit" "values" "[I") (List.mem_of_getElem? (i := 7) rfl)) (fun _ h9 => h9) rfl dX2_tellAll_94 ?_
      refine lv_iload_n hx hb dX2_tellAll_97 rfl (lv_at hl 1 rfl) ?_
      refine fx_iald (ar := nI) hx hb hK hP 7 (f := cva) (k := i) rfl (by omega) (by decide) dX2_tellAll_98 ?_
      refine fx_iast (ar := nI) hx hb hK hP hD hS 18 (f := (telT cso cki cfa cfb cfc cva csn pho pte i)) (k := i) (v := (cva i)) rfl (by omega) (by decide) rfl dX2_tellAll_99 (fun H locs hP hD hS => ?_)
      have hP : va_P D vwCl (wA q cI cJ xro xtk xli cn ci cs cso cki cfa cfb cfc cva csn csd csl csb csr csc won wle (va_up (telT cso cki cfa cfb cfc cva csn pho pte i) i (cva i)) pho nwa nti) H := hP
      have hD : va_D A (wA q cI cJ xro xtk xli cn ci cs cso cki cfa cfb cfc cva csn csd csl csb csr csc won wle (va_up (telT cso cki cfa cfb cfc cva csn pho pte i) i (cva i)) pho nwa nti) := fx_D hD rfl
      refine lv_iinc (v := nI (i + 1)) (lv' := [(1, .int (nI (i + 1))), (0, .ref (q 17))]) hx hb dX2_tellAll_100 hl (k := 1) rfl (by exact nI_1 _) (by decide) rfl (fun ls hl => ?_)
      refine lv_goto (tgt := 2) hx hb dX2_tellAll_103 (by decide) ?_
      have e_5 : va_up (telT cso cki cfa cfb cfc cva csn pho pte i) i (cva i) = telT cso cki cfa cfb cfc cva csn pho pte (i + 1) := by first | rfl | (simp [telT, f_10, h_22])
      exact ih_2 (i + 1) (by first | assumption | omega) (by omega) H locs (fx_Pe (w' := (wA q cI cJ xro xtk xli cn ci cs cso cki cfa cfb cfc cva csn csd csl csb csr csc won wle (telT cso cki cfa cfb cfc cva csn pho pte (i + 1)) pho nwa nti)) hP (congrArg (fun w9 : Nat → Nat => (wA q cI cJ xro xtk xli cn ci cs cso cki cfa cfb cfc cva csn csd csl csb csr csc won wle w9 pho nwa nti)) e_5)) (fx_D hD rfl) hS ls (lv_sub hl [1, 0] rfl)
  exact L_2 (cn - 0 + 1) 0 (Nat.zero_le _) (Nat.lt_succ_self _) H locs hP (fx_D hD rfl) hS ls (lv_sub hl [1, 0] rfl)
set_option maxHeartbeats 4000000 in
set_option maxRecDepth 100000 in
theorem c_X2_pass (l : Launch) (D : va_G) (cI cJ cZ : ClassId) (q : Nat → Nat) (xro : Int64) (xtk : Nat) (xli : Nat) (cn : Nat) (ci : Nat) (cs : Nat) (cso : Nat → Nat) (cki : Nat → Nat) (cfa : Nat → Nat) (cfb : Nat → Nat) (cfc : Nat → Nat) (cva : Nat → Nat) (csn : Nat → Nat) (csd : Nat → Nat) (csl : Nat → Nat) (csb : Nat → Nat) (csr : Nat → Nat) (csc : Nat → Nat) (won : Nat → Int64) (wle : Nat → Int64) (pte : Nat → Nat) (pho : Nat → Nat) (nwa : Nat → Int32) (nti : Nat → Int32) (rs : Nat) (hcn : cn ≤ 32) (hcs : cs ≤ 6) (hso : ∀ j, j < cn → cso j ≤ 3 ∧ cki j ≤ 4 ∧ cva j ≤ 2) (hg : ∀ j, j < cn → cso j = 2 → cfa j < j ∧ cfb j < j ∧ cfc j < j) (hs : ∀ j, j < cn → cso j = 3 → csn j < cs) (hho : ∀ j, j < 6 → pho j ≤ 2) (hrs : rs < 64) (hsr : ∀ i, i < cs → csr i < cn) : Ct l D cI cJ cZ yX2_pass wsX2_pass ({ frames := 3, cells := 0, slots := 0, locals := 67 } : Room) 0 0 [.ref (q 17), .int (nI rs)] (wA q cI cJ xro xtk xli cn ci cs cso cki cfa cfb cfc cva csn csd csl csb csr csc won wle pte pho nwa nti) (S := Unit) (fun u => True) (fun u => none) (fun u => (wA q cI cJ xro xtk xli cn ci cs cso cki cfa cfb cfc cva csn csd csl csb csr csc won wle (telT cso cki cfa cfb cfc cva csn pho pte cn) (mixF (fun jj => if rs.testBit jj = true then csb jj else telT cso cki cfa cfb cfc cva csn pho pte cn (csr jj)) pho cs) nwa nti)) := by
  refine Ct.ofW (cc := cX2_pass) (maxL := 4) (ret := none) (R_C := RX2) (by decide +kernel) rfl rfl (Nat.le_of_ble_eq_true rfl) rfl ?_
  intro p e s m args below meth c A Q ls H locs hx hb hml hown hts hK hA hP hD hS hZ hl hri hrl hrv
  refine lv_aload_n hx hb dX2_pass_0 rfl (lv_at hl 0 rfl) ?_
  refine fx_callV (As := []) (rest := []) ⟨hx, hb, hml, hown, hts⟩ (c_X2_tellAll l D cI cJ cZ q xro xtk xli cn ci cs cso cki cfa cfb cfc cva csn csd csl csb csr csc won wle pte pho nwa nti (by first | assumption | omega) (by first | assumption | omega) (by first | assumption | omega) (by first | assumption | omega) (by first | assumption | omega) (by first | assumption | omega)) (cwV 0 hts gX2_pass_X2_tellAll rfl rfl rfl kv_X2_tellAll ⟨Nat.le_of_ble_eq_true rfl, Nat.le_of_ble_eq_true rfl⟩) hK hP hD hS hA hZ 17 rfl rfl rfl rfl hl.1 rfl (lv_room (Nat.le_of_ble_eq_true rfl)) dX2_pass_1 ⟨Nat.zero_le _, Nat.zero_le _⟩ (fun u_1 H locs hu_1 hP hD hS => ?_)
  have hP : va_P D vwCl (wA q cI cJ xro xtk xli cn ci cs cso cki cfa cfb cfc cva csn csd csl csb csr csc won wle (telT cso cki cfa cfb cfc cva csn pho pte cn) pho nwa nti) H := hP
  have hD : va_D A (wA q cI cJ xro xtk xli cn ci cs cso cki cfa cfb cfc cva csn csd csl csb csr csc won wle (telT cso cki cfa cfb cfc cva csn pho pte cn) pho nwa nti) := fx_D hD rfl
  refine lv_iconst (v := nI 0) hx hb dX2_pass_4 (by decide) ?_
  refine lv_istore_n (lv' := [(2, .int (nI 0)), (0, .ref (q 17)), (1, .int (nI rs))]) hx hb dX2_pass_5 rfl hl (by decide) rfl (fun ls hl => ?_)
  have L_6 : ∀ (fuel : Nat) (i : Nat) (hi : i ≤ cs) (hfu : cs - i < fuel) (H : Heap) (locs : List Loc), va_P D vwCl (wA q cI cJ xro xtk xli cn ci cs cso cki cfa cfb cfc cva csn csd csl csb csr csc won wle (telT cso cki cfa cfb cfc cva csn pho pte cn) (mixF (fun jj => if rs.testBit jj = true then csb jj else telT cso cki cfa cfb cfc cva csn pho pte cn (csr jj)) pho i) nwa nti) H → va_D A (wA q cI cJ xro xtk xli cn ci cs cso cki cfa cfb cfc cva csn csd csl csb csr csc won wle (telT cso cki cfa cfb cfc cva csn pho pte cn) (mixF (fun jj => if rs.testBit jj = true then csb jj else telT cso cki cfa cfb cfc cva csn pho pte cn (csr jj)) pho i) nwa nti) → va_S A s.heap H locs → ∀ ls : Array Slot, lv_has ls 4 [(0, .ref (q 17)), (1, .int (nI rs)), (2, .int (nI i))] → W p l e ({ frames := 3, cells := 0, slots := 0, locals := 67 } : Room) s m args below meth c H locs 0 0 Q (F0 m 6 ls []) := by
    intro fuel
    induction fuel with
    | zero => intro i hi hfu; exact absurd hfu (Nat.not_lt_zero _)
    | succ fuel ih_6 =>
      intro i hi hfu H locs hP hD hS ls hl
      refine lv_iload_n hx hb dX2_pass_6 rfl (lv_at hl 2 rfl) ?_
      refine lv_aload_n hx hb dX2_pass_7 rfl (lv_at hl 0 rfl) ?_
      refine va_get (D := D) (ci := 2) (v := .ref (q 1)) (C := RX2) (T := TX2) (N := 3) hx hb hts (fun w h => List.mem_cons_of_mem _ (List.mem_append_left _ (List.mem_append_right _ h))) hown hK hP 17 rfl rfl 0 (by decide) (hts (.fieldLink RX2 18 "FirstStates$Parts" "circuit" "LFirstStates$Circuit;") (List.mem_of_getElem? (i := 1) rfl)) (fun _ h9 => h9) rfl dX2_pass_8 ?_
      refine va_get (D := D) (ci := 0) (v := .int (nI cs)) (C := RX0) (T := TX0) (N := 15) hx hb hts (fun w h => List.mem_cons_of_mem _ (List.mem_append_right _ h)) hown hK hP 1 rfl rfl 2 (by decide) (hts (.fieldLink RX2 66 "FirstStates$Circuit" "stores" "I") (List.mem_of_getElem? (i := 2) rfl)) (fun _ h9 => h9) rfl dX2_pass_11 ?_
      refine lv_icmp_ge (tgt := 73) hx hb dX2_pass_14 (by decide) (fun c_14 => ?_) (fun c_14 => ?_)
      · have f_14 : cs ≤ i := (nI_leI (a := cs) (b := i) (by first | omega | exact b_and1 _ | exact b_ct _ _ (by omega) | exact b_andr _ (by omega)) (by first | omega | exact b_and1 _ | exact b_ct _ _ (by omega) | exact b_andr _ (by omega))).mp c_14
        have e_i : i = cs := by omega
        subst e_i
        exact hrv () H locs 73 ls rfl trivial rfl hP (fx_D hD rfl) hS dX2_pass_73
      have f_14 : ¬ cs ≤ i := fun h => c_14 ((nI_leI (a := cs) (b := i) (by first | omega | exact b_and1 _ | exact b_ct _ _ (by omega) | exact b_andr _ (by omega)) (by first | omega | exact b_and1 _ | exact b_ct _ _ (by omega) | exact b_andr _ (by omega))).mpr h)
      have hsr1 := hsr i (by omega)
      refine lv_iload_n hx hb dX2_pass_17 rfl (lv_at hl 1 rfl) ?_
      refine lv_iload_n hx hb dX2_pass_18 rfl (lv_at hl 2 rfl) ?_
      refine lv_ishr hx hb dX2_pass_19 ?_
      refine fx_eqi (y := nI (rs >>> i)) (fx_shr (by first | omega | exact b_and1 _ | exact b_ct _ _ (by omega) | exact b_andr _ (by omega)) (by first | omega | exact b_and1 _ | exact b_ct _ _ (by omega) | exact b_andr _ (by omega))) ?_
      refine lv_iconst (v := nI 1) hx hb dX2_pass_20 (by decide) ?_
      refine lv_iand hx hb dX2_pass_21 ?_
      refine fx_eqi (fx_andI _ _) ?_
      refine lv_if_eq (tgt := 29) hx hb dX2_pass_22 (by decide) (fun c_22 => ?_) (fun c_22 => ?_)
      · have f_22 : (rs >>> i) &&& 1 = 0 := (nI_eq (a := (rs >>> i) &&& 1) (b := 0) (by first | omega | exact b_and1 _ | exact b_ct _ _ (by omega) | exact b_andr _ (by omega)) (by first | omega | exact b_and1 _ | exact b_ct _ _ (by omega) | exact b_andr _ (by omega))).mp c_22
        refine lv_iconst (v := nI 0) hx hb dX2_pass_29 (by decide) ?_
        refine lv_istore_n (lv' := [(3, .int (nI 0)), (0, .ref (q 17)), (1, .int (nI rs)), (2, .int (nI i))]) hx hb dX2_pass_30 rfl hl (by decide) rfl (fun ls hl => ?_)
        refine lv_aload_n hx hb dX2_pass_31 rfl (lv_at hl 1 rfl) ?_
        refine va_get (D := D) (ci := 2) (v := .ref (q 19)) (C := RX2) (T := TX2) (N := 3) hx hb hts (fun w h => List.mem_cons_of_mem _ (List.mem_append_left _ (List.mem_append_right _ h))) hown hK hP 17 rfl rfl 2 (by decide) (hts (.fieldLink RX2 15 "FirstStates$Parts" "holds" "[I") (List.mem_of_getElem? (i := 3) rfl)) (fun _ h9 => h9) rfl dX2_pass_32 ?_
        refine lv_iload_n hx hb dX2_pass_35 rfl (lv_at hl 3 rfl) ?_
        refine lv_iload_n hx hb dX2_pass_36 rfl (lv_at hl 0 rfl) ?_
        refine lv_if_eq (tgt := 52) hx hb dX2_pass_37 (by decide) (fun c_37 => ?_) (fun c_37 => ?_)
        · have f_37 : 0 = 0 := (nI_eq (a := 0) (b := 0) (by first | omega | exact b_and1 _ | exact b_ct _ _ (by omega) | exact b_andr _ (by omega)) (by first | omega | exact b_and1 _ | exact b_ct _ _ (by omega) | exact b_andr _ (by omega))).mp c_37
          refine lv_aload_n hx hb dX2_pass_52 rfl (lv_at hl 1 rfl) ?_
          refine va_get (D := D) (ci := 2) (v := .ref (q 18)) (C := RX2) (T := TX2) (N := 3) hx hb hts (fun w h => List.mem_cons_of_mem _ (List.mem_append_left _ (List.mem_append_right _ h))) hown hK hP 17 rfl rfl 1 (by decide) (hts (.fieldLink RX2 9 "FirstStates$Parts" "tells" "[I") (List.mem_of_getElem? (i := 5) rfl)) (fun _ h9 => h9) rfl dX2_pass_53 ?_
          refine lv_aload_n hx hb dX2_pass_56 rfl (lv_at hl 1 rfl) ?_
          refine va_get (D := D) (ci := 2) (v := .ref (q 1)) (C := RX2) (T := TX2) (N := 3) hx hb hts (fun w h => List.mem_cons_of_mem _ (List.mem_append_left _ (List.mem_append_right _ h))) hown hK hP 17 rfl rfl 0 (by decide) (hts (.fieldLink RX2 18 "FirstStates$Parts" "circuit" "LFirstStates$Circuit;") (List.mem_of_getElem? (i := 1) rfl)) (fun _ h9 => h9) rfl dX2_pass_57 ?_
          refine va_get (D := D) (ci := 0) (v := .ref (q 12)) (C := RX0) (T := TX0) (N := 15) hx hb hts (fun w h => List.mem_cons_of_mem _ (List.mem_append_right _ h)) hown hK hP 1 rfl rfl 13 (by decide) (hts (.fieldLink RX2 72 "FirstStates$Circuit" "storeReads" "[I") (List.mem_of_getElem? (i := 6) rfl)) (fun _ h9 => h9) rfl dX2_pass_60 ?_
          refine lv_iload_n hx hb dX2_pass_63 rfl (lv_at hl 3 rfl) ?_
          refine fx_iald (ar := nI) hx hb hK hP 12 (f := csr) (k := i) rfl (by omega) (by decide) dX2_pass_64 ?_
          refine fx_iald (ar := nI) hx hb hK hP 18 (f := (telT cso cki cfa cfb cfc cva csn pho pte cn)) (k := (csr i)) rfl (by omega) (by decide) dX2_pass_65 ?_
          refine fx_iast (ar := nI) hx hb hK hP hD hS 19 (f := (mixF (fun jj => if rs.testBit jj = true then csb jj else telT cso cki cfa cfb cfc cva csn pho pte cn (csr jj)) pho i)) (k := i) (v := ((telT cso cki cfa cfb cfc cva csn pho pte cn) (csr i))) rfl (by omega) (by decide) rfl dX2_pass_66 (fun H locs hP hD hS => ?_)
          have hP : va_P D vwCl (wA q cI cJ xro xtk xli cn ci cs cso cki cfa cfb cfc cva csn csd csl csb csr csc won wle (telT cso cki cfa cfb cfc cva csn pho pte cn) (va_up (mixF (fun jj => if rs.testBit jj = true then csb jj else telT cso cki cfa cfb cfc cva csn pho pte cn (csr jj)) pho i) i ((telT cso cki cfa cfb cfc cva csn pho pte cn) (csr i))) nwa nti) H := hP
          have hD : va_D A (wA q cI cJ xro xtk xli cn ci cs cso cki cfa cfb cfc cva csn csd csl csb csr csc won wle (telT cso cki cfa cfb cfc cva csn pho pte cn) (va_up (mixF (fun jj => if rs.testBit jj = true then csb jj else telT cso cki cfa cfb cfc cva csn pho pte cn (csr jj)) pho i) i ((telT cso cki cfa cfb cfc cva csn pho pte cn) (csr i))) nwa nti) := fx_D hD rfl
          refine lv_iinc (v := nI (i + 1)) (lv' := [(2, .int (nI (i + 1))), (3, .int (nI 0)), (0, .ref (q 17)), (1, .int (nI rs))]) hx hb dX2_pass_67 hl (k := 3) rfl (by exact nI_1 _) (by decide) rfl (fun ls hl => ?_)
          refine lv_goto (tgt := 6) hx hb dX2_pass_70 (by decide) ?_
          have e_2 : va_up (mixF (fun jj => if rs.testBit jj = true then csb jj else telT cso cki cfa cfb cfc cva csn pho pte cn (csr jj)) pho i) i ((telT cso cki cfa cfb cfc cva csn pho pte cn) (csr i)) = mixF (fun jj => if rs.testBit jj = true then csb jj else telT cso cki cfa cfb cfc cva csn pho pte cn (csr jj)) pho (i + 1) := by first | rfl | (refine mix_up _ _ _ _ ?_; simp [tb_0.mp f_22])
          exact ih_6 (i + 1) (by first | assumption | omega) (by omega) H locs (fx_Pe (w' := (wA q cI cJ xro xtk xli cn ci cs cso cki cfa cfb cfc cva csn csd csl csb csr csc won wle (telT cso cki cfa cfb cfc cva csn pho pte cn) (mixF (fun jj => if rs.testBit jj = true then csb jj else telT cso cki cfa cfb cfc cva csn pho pte cn (csr jj)) pho (i + 1)) nwa nti)) hP (congrArg (fun w9 : Nat → Nat => (wA q cI cJ xro xtk xli cn ci cs cso cki cfa cfb cfc cva csn csd csl csb csr csc won wle (telT cso cki cfa cfb cfc cva csn pho pte cn) w9 nwa nti)) e_2)) (fx_D hD rfl) hS ls (lv_sub hl [2, 3, 0] rfl)
        have f_37 : ¬ 0 = 0 := fun h => c_37 ((nI_eq (a := 0) (b := 0) (by first | omega | exact b_and1 _ | exact b_ct _ _ (by omega) | exact b_andr _ (by omega)) (by first | omega | exact b_and1 _ | exact b_ct _ _ (by omega) | exact b_andr _ (by omega))).mpr h)
        exfalso; exact c_37 rfl
      have f_22 : ¬ (rs >>> i) &&& 1 = 0 := fun h => c_22 ((nI_eq (a := (rs >>> i) &&& 1) (b := 0) (by first | omega | exact b_and1 _ | exact b_ct _ _ (by omega) | exact b_andr _ (by omega)) (by first | omega | exact b_and1 _ | exact b_ct _ _ (by omega) | exact b_andr _ (by omega))).mpr h)
      refine lv_iconst (v := nI 1) hx hb dX2_pass_25 (by decide) ?_
      refine lv_goto (tgt := 30) hx hb dX2_pass_26 (by decide) ?_
      refine lv_istore_n (lv' := [(3, .int (nI 1)), (0, .ref (q 17)), (1, .int (nI rs)), (2, .int (nI i))]) hx hb dX2_pass_30 rfl hl (by decide) rfl (fun ls hl => ?_)
      refine lv_aload_n hx hb dX2_pass_31 rfl (lv_at hl 1 rfl) ?_
      refine va_get (D := D) (ci := 2) (v := .ref (q 19)) (C := RX2) (T := TX2) (N := 3) hx hb hts (fun w h => List.mem_cons_of_mem _ (List.mem_append_left _ (List.mem_append_right _ h))) hown hK hP 17 rfl rfl 2 (by decide) (hts (.fieldLink RX2 15 "FirstStates$Parts" "holds" "[I") (List.mem_of_getElem? (i := 3) rfl)) (fun _ h9 => h9) rfl dX2_pass_32 ?_
      refine lv_iload_n hx hb dX2_pass_35 rfl (lv_at hl 3 rfl) ?_
      refine lv_iload_n hx hb dX2_pass_36 rfl (lv_at hl 0 rfl) ?_
      refine lv_if_eq (tgt := 52) hx hb dX2_pass_37 (by decide) (fun c_37 => ?_) (fun c_37 => ?_)
      · have f_37 : 1 = 0 := (nI_eq (a := 1) (b := 0) (by first | omega | exact b_and1 _ | exact b_ct _ _ (by omega) | exact b_andr _ (by omega)) (by first | omega | exact b_and1 _ | exact b_ct _ _ (by omega) | exact b_andr _ (by omega))).mp c_37
        exfalso; exact absurd c_37 (by decide)
      have f_37 : ¬ 1 = 0 := fun h => c_37 ((nI_eq (a := 1) (b := 0) (by first | omega | exact b_and1 _ | exact b_ct _ _ (by omega) | exact b_andr _ (by omega)) (by first | omega | exact b_and1 _ | exact b_ct _ _ (by omega) | exact b_andr _ (by omega))).mpr h)
      refine lv_aload_n hx hb dX2_pass_40 rfl (lv_at hl 1 rfl) ?_
      refine va_get (D := D) (ci := 2) (v := .ref (q 1)) (C := RX2) (T := TX2) (N := 3) hx hb hts (fun w h => List.mem_cons_of_mem _ (List.mem_append_left _ (List.mem_append_right _ h))) hown hK hP 17 rfl rfl 0 (by decide) (hts (.fieldLink RX2 18 "FirstStates$Parts" "circuit" "LFirstStates$Circuit;") (List.mem_of_getElem? (i := 1) rfl)) (fun _ h9 => h9) rfl dX2_pass_41 ?_
      refine va_get (D := D) (ci := 0) (v := .ref (q 11)) (C := RX0) (T := TX0) (N := 15) hx hb hts (fun w h => List.mem_cons_of_mem _ (List.mem_append_right _ h)) hown hK hP 1 rfl rfl 12 (by decide) (hts (.fieldLink RX2 69 "FirstStates$Circuit" "storeBegins" "[I") (List.mem_of_getElem? (i := 4) rfl)) (fun _ h9 => h9) rfl dX2_pass_44 ?_
      refine lv_iload_n hx hb dX2_pass_47 rfl (lv_at hl 3 rfl) ?_
      refine fx_iald (ar := nI) hx hb hK hP 11 (f := csb) (k := i) rfl (by omega) (by decide) dX2_pass_48 ?_
      refine lv_goto (tgt := 66) hx hb dX2_pass_49 (by decide) ?_
      refine fx_iast (ar := nI) hx hb hK hP hD hS 19 (f := (mixF (fun jj => if rs.testBit jj = true then csb jj else telT cso cki cfa cfb cfc cva csn pho pte cn (csr jj)) pho i)) (k := i) (v := (csb i)) rfl (by omega) (by decide) rfl dX2_pass_66 (fun H locs hP hD hS => ?_)
      have hP : va_P D vwCl (wA q cI cJ xro xtk xli cn ci cs cso cki cfa cfb cfc cva csn csd csl csb csr csc won wle (telT cso cki cfa cfb cfc cva csn pho pte cn) (va_up (mixF (fun jj => if rs.testBit jj = true then csb jj else telT cso cki cfa cfb cfc cva csn pho pte cn (csr jj)) pho i) i (csb i)) nwa nti) H := hP
      have hD : va_D A (wA q cI cJ xro xtk xli cn ci cs cso cki cfa cfb cfc cva csn csd csl csb csr csc won wle (telT cso cki cfa cfb cfc cva csn pho pte cn) (va_up (mixF (fun jj => if rs.testBit jj = true then csb jj else telT cso cki cfa cfb cfc cva csn pho pte cn (csr jj)) pho i) i (csb i)) nwa nti) := fx_D hD rfl
      refine lv_iinc (v := nI (i + 1)) (lv' := [(2, .int (nI (i + 1))), (3, .int (nI 1)), (0, .ref (q 17)), (1, .int (nI rs))]) hx hb dX2_pass_67 hl (k := 3) rfl (by exact nI_1 _) (by decide) rfl (fun ls hl => ?_)
      refine lv_goto (tgt := 6) hx hb dX2_pass_70 (by decide) ?_
      have e_3 : va_up (mixF (fun jj => if rs.testBit jj = true then csb jj else telT cso cki cfa cfb cfc cva csn pho pte cn (csr jj)) pho i) i (csb i) = mixF (fun jj => if rs.testBit jj = true then csb jj else telT cso cki cfa cfb cfc cva csn pho pte cn (csr jj)) pho (i + 1) := by first | rfl | (refine mix_up _ _ _ _ ?_; simp [tb_n0.mp f_22])
      exact ih_6 (i + 1) (by first | assumption | omega) (by omega) H locs (fx_Pe (w' := (wA q cI cJ xro xtk xli cn ci cs cso cki cfa cfb cfc cva csn csd csl csb csr csc won wle (telT cso cki cfa cfb cfc cva csn pho pte cn) (mixF (fun jj => if rs.testBit jj = true then csb jj else telT cso cki cfa cfb cfc cva csn pho pte cn (csr jj)) pho (i + 1)) nwa nti)) hP (congrArg (fun w9 : Nat → Nat => (wA q cI cJ xro xtk xli cn ci cs cso cki cfa cfb cfc cva csn csd csl csb csr csc won wle (telT cso cki cfa cfb cfc cva csn pho pte cn) w9 nwa nti)) e_3)) (fx_D hD rfl) hS ls (lv_sub hl [2, 3, 0] rfl)
  have e_4 : pho = mixF (fun jj => if rs.testBit jj = true then csb jj else telT cso cki cfa cfb cfc cva csn pho pte cn (csr jj)) pho 0 := by first | rfl | (exact (mix_0 _ _).symm)
  exact L_6 (cs - 0 + 1) 0 (Nat.zero_le _) (Nat.lt_succ_self _) H locs (fx_Pe (w' := (wA q cI cJ xro xtk xli cn ci cs cso cki cfa cfb cfc cva csn csd csl csb csr csc won wle (telT cso cki cfa cfb cfc cva csn pho pte cn) (mixF (fun jj => if rs.testBit jj = true then csb jj else telT cso cki cfa cfb cfc cva csn pho pte cn (csr jj)) pho 0) nwa nti)) hP (congrArg (fun w9 : Nat → Nat => (wA q cI cJ xro xtk xli cn ci cs cso cki cfa cfb cfc cva csn csd csl csb csr csc won wle (telT cso cki cfa cfb cfc cva csn pho pte cn) w9 nwa nti)) e_4)) (fx_D hD rfl) hS ls (lv_sub hl [1, 2, 0] rfl)
set_option maxHeartbeats 4000000 in
set_option maxRecDepth 100000 in
theorem c_X2_knownStores (l : Launch) (D : va_G) (cI cJ cZ : ClassId) (q : Nat → Nat) (xro : Int64) (xtk : Nat) (xli : Nat) (cn : Nat) (ci : Nat) (cs : Nat) (cso : Nat → Nat) (cki : Nat → Nat) (cfa : Nat → Nat) (cfb : Nat → Nat) (cfc : Nat → Nat) (cva : Nat → Nat) (csn : Nat → Nat) (csd : Nat → Nat) (csl : Nat → Nat) (csb : Nat → Nat) (csr : Nat → Nat) (csc : Nat → Nat) (won : Nat → Int64) (wle : Nat → Int64) (pte : Nat → Nat) (pho : Nat → Nat) (nwa : Nat → Int32) (nti : Nat → Int32) (hcs : cs ≤ 6) (hho : ∀ j, j < 6 → pho j ≤ 2) : Ct l D cI cJ cZ yX2_knownStores wsX2_knownStores ({ frames := 0, cells := 0, slots := 0, locals := 0 } : Room) 0 0 [.ref (q 17)] (wA q cI cJ xro xtk xli cn ci cs cso cki cfa cfb cfc cva csn csd csl csb csr csc won wle pte pho nwa nti) (S := Unit) (fun u => True) (fun u => some (.int (nI (ct (fun jj => !decide (pho jj = 2)) cs)))) (fun u => (wA q cI cJ xro xtk xli cn ci cs cso cki cfa cfb cfc cva csn csd csl csb csr csc won wle pte pho nwa nti)) := by
  refine Ct.ofW (cc := cX2_knownStores) (maxL := 3) (ret := (some .int)) (R_C := RX2) (by decide +kernel) rfl rfl (Nat.le_of_ble_eq_true rfl) rfl ?_
  intro p e s m args below meth c A Q ls H locs hx hb hml hown hts hK hA hP hD hS hZ hl hri hrl hrv
  refine lv_iconst (v := nI 0) hx hb dX2_knownStores_0 (by decide) ?_
  refine lv_istore_n (lv' := [(1, .int (nI 0)), (0, .ref (q 17))]) hx hb dX2_knownStores_1 rfl hl (by decide) rfl (fun ls hl => ?_)
  refine lv_iconst (v := nI 0) hx hb dX2_knownStores_2 (by decide) ?_
  refine lv_istore_n (lv' := [(2, .int (nI 0)), (1, .int (nI 0)), (0, .ref (q 17))]) hx hb dX2_knownStores_3 rfl hl (by decide) rfl (fun ls hl => ?_)
  have L_4 : ∀ (fuel : Nat) (i : Nat) (hi : i ≤ cs) (hfu : cs - i < fuel) (H : Heap) (locs : List Loc), va_P D vwCl (wA q cI cJ xro xtk xli cn ci cs cso cki cfa cfb cfc cva csn csd csl csb csr csc won wle pte pho nwa nti) H → va_D A (wA q cI cJ xro xtk xli cn ci cs cso cki cfa cfb cfc cva csn csd csl csb csr csc won wle pte pho nwa nti) → va_S A s.heap H locs → ∀ ls : Array Slot, lv_has ls 3 [(0, .ref (q 17)), (1, .int (nI (ct (fun jj => !decide (pho jj = 2)) i))), (2, .int (nI i))] → W p l e ({ frames := 0, cells := 0, slots := 0, locals := 0 } : Room) s m args below meth c H locs 0 0 Q (F0 m 4 ls []) := by
    intro fuel
    induction fuel with
    | zero => intro i hi hfu; exact absurd hfu (Nat.not_lt_zero _)
    | succ fuel ih_4 =>
      intro i hi hfu H locs hP hD hS ls hl
      refine lv_iload_n hx hb dX2_knownStores_4 rfl (lv_at hl 2 rfl) ?_
      refine lv_aload_n hx hb dX2_knownStores_5 rfl (lv_at hl 0 rfl) ?_
      refine va_get (D := D) (ci := 2) (v := .ref (q 1)) (C := RX2) (T := TX2) (N := 3) hx hb hts (fun w h => List.mem_cons_of_mem _ (List.mem_append_left _ (List.mem_append_right _ h))) hown hK hP 17 rfl rfl 0 (by decide) (hts (.fieldLink RX2 18 "FirstStates$Parts" "circuit" "LFirstStates$Circuit;") (List.mem_of_getElem? (i := 1) rfl)) (fun _ h9 => h9) rfl dX2_knownStores_6 ?_
      refine va_get (D := D) (ci := 0) (v := .int (nI cs)) (C := RX0) (T := TX0) (N := 15) hx hb hts (fun w h => List.mem_cons_of_mem _ (List.mem_append_right _ h)) hown hK hP 1 rfl rfl 2 (by decide) (hts (.fieldLink RX2 66 "FirstStates$Circuit" "stores" "I") (List.mem_of_getElem? (i := 2) rfl)) (fun _ h9 => h9) rfl dX2_knownStores_9 ?_
      refine lv_icmp_ge (tgt := 34) hx hb dX2_knownStores_12 (by decide) (fun c_12 => ?_) (fun c_12 => ?_)
      · have f_12 : cs ≤ i := (nI_leI (a := cs) (b := i) (by first | omega | exact b_and1 _ | exact b_ct _ _ (by omega) | exact b_andr _ (by omega)) (by first | omega | exact b_and1 _ | exact b_ct _ _ (by omega) | exact b_andr _ (by omega))).mp c_12
        have e_i : i = cs := by omega
        subst e_i
        refine lv_iload_n hx hb dX2_knownStores_34 rfl (lv_at hl 1 rfl) ?_
        exact hri () _ H locs 35 ls .int rfl rfl trivial rfl hP hD hS dX2_knownStores_35
      have f_12 : ¬ cs ≤ i := fun h => c_12 ((nI_leI (a := cs) (b := i) (by first | omega | exact b_and1 _ | exact b_ct _ _ (by omega) | exact b_andr _ (by omega)) (by first | omega | exact b_and1 _ | exact b_ct _ _ (by omega) | exact b_andr _ (by omega))).mpr h)
      have hho1 := hho i (by omega)
      refine lv_aload_n hx hb dX2_knownStores_15 rfl (lv_at hl 0 rfl) ?_
      refine va_get (D := D) (ci := 2) (v := .ref (q 19)) (C := RX2) (T := TX2) (N := 3) hx hb hts (fun w h => List.mem_cons_of_mem _ (List.mem_append_left _ (List.mem_append_right _ h))) hown hK hP 17 rfl rfl 2 (by decide) (hts (.fieldLink RX2 15 "FirstStates$Parts" "holds" "[I") (List.mem_of_getElem? (i := 3) rfl)) (fun _ h9 => h9) rfl dX2_knownStores_16 ?_
      refine lv_iload_n hx hb dX2_knownStores_19 rfl (lv_at hl 2 rfl) ?_
      refine fx_iald (ar := nI) hx hb hK hP 19 (f := pho) (k := i) rfl (by omega) (by decide) dX2_knownStores_20 ?_
      refine lv_iconst (v := nI 2) hx hb dX2_knownStores_21 (by decide) ?_
      refine lv_icmp_eq (tgt := 28) hx hb dX2_knownStores_22 (by decide) (fun c_22 => ?_) (fun c_22 => ?_)
      · have f_22 : pho i = 2 := (nI_eq (a := pho i) (b := 2) (by first | omega | exact b_and1 _ | exact b_ct _ _ (by omega) | exact b_andr _ (by omega)) (by first | omega | exact b_and1 _ | exact b_ct _ _ (by omega) | exact b_andr _ (by omega))).mp c_22
        refine lv_iinc (v := nI (i + 1)) (lv' := [(2, .int (nI (i + 1))), (0, .ref (q 17)), (1, .int (nI (ct (fun jj => !decide (pho jj = 2)) i)))]) hx hb dX2_knownStores_28 hl (k := 2) rfl (by exact nI_1 _) (by decide) rfl (fun ls hl => ?_)
        refine lv_goto (tgt := 4) hx hb dX2_knownStores_31 (by decide) ?_
        have e_1 : nI (ct (fun jj => !decide (pho jj = 2)) i) = nI (ct (fun jj => !decide (pho jj = 2)) (i + 1)) := by first | rfl | (simp [ct, f_12, f_22])
        exact ih_4 (i + 1) (by first | assumption | omega) (by omega) H locs hP hD hS ls (lv_sub (fx_hl (l' := [(2, .int (nI (i + 1))), (0, .ref (q 17)), (1, .int (nI (ct (fun jj => !decide (pho jj = 2)) (i + 1))))]) hl (congrArg (fun w9 : Int32 => ([(2, .int (nI (i + 1))), (0, .ref (q 17)), (1, .int w9)] : List (Nat × Value))) e_1)) [1, 2, 0] rfl)
      have f_22 : ¬ pho i = 2 := fun h => c_22 ((nI_eq (a := pho i) (b := 2) (by first | omega | exact b_and1 _ | exact b_ct _ _ (by omega) | exact b_andr _ (by omega)) (by first | omega | exact b_and1 _ | exact b_ct _ _ (by omega) | exact b_andr _ (by omega))).mpr h)
      refine lv_iinc (v := nI ((ct (fun jj => !decide (pho jj = 2)) i) + 1)) (lv' := [(1, .int (nI ((ct (fun jj => !decide (pho jj = 2)) i) + 1))), (0, .ref (q 17)), (2, .int (nI i))]) hx hb dX2_knownStores_25 hl (k := 1) rfl (by exact nI_1 _) (by decide) rfl (fun ls hl => ?_)
      refine lv_iinc (v := nI (i + 1)) (lv' := [(2, .int (nI (i + 1))), (1, .int (nI ((ct (fun jj => !decide (pho jj = 2)) i) + 1))), (0, .ref (q 17))]) hx hb dX2_knownStores_28 hl (k := 2) rfl (by exact nI_1 _) (by decide) rfl (fun ls hl => ?_)
      refine lv_goto (tgt := 4) hx hb dX2_knownStores_31 (by decide) ?_
      have e_2 : nI ((ct (fun jj => !decide (pho jj = 2)) i) + 1) = nI (ct (fun jj => !decide (pho jj = 2)) (i + 1)) := by first | rfl | (simp [ct, f_12, f_22])
      exact ih_4 (i + 1) (by first | assumption | omega) (by omega) H locs hP hD hS ls (lv_sub (fx_hl (l' := [(2, .int (nI (i + 1))), (1, .int (nI (ct (fun jj => !decide (pho jj = 2)) (i + 1)))), (0, .ref (q 17))]) hl (congrArg (fun w9 : Int32 => ([(2, .int (nI (i + 1))), (1, .int w9), (0, .ref (q 17))] : List (Nat × Value))) e_2)) [2, 1, 0] rfl)
  have e_3 : nI 0 = nI (ct (fun jj => !decide (pho jj = 2)) 0) := by first | rfl | (simp [ct, Nat.add_zero])
  exact L_4 (cs - 0 + 1) 0 (Nat.zero_le _) (Nat.lt_succ_self _) H locs hP hD hS ls (lv_sub (fx_hl (l' := [(2, .int (nI 0)), (1, .int (nI (ct (fun jj => !decide (pho jj = 2)) 0))), (0, .ref (q 17))]) hl (congrArg (fun w9 : Int32 => ([(2, .int (nI 0)), (1, .int w9), (0, .ref (q 17))] : List (Nat × Value))) e_3)) [2, 1, 0] rfl)
