/-! Contracts of the reference. -/
set_option maxHeartbeats 4000000 in
set_option maxRecDepth 100000 in
theorem c_X5_gateOf (l : Launch) (D : va_G) (cI cJ cZ : ClassId) (w : va_W) (k : Nat) (a : Nat) (b : Nat) (cc : Nat) (hk : k ≤ 4) (ha : a ≤ 1) (hb4 : b ≤ 1) (hc4 : cc ≤ 1) : Ct l D cI cJ cZ yX5_gateOf wsX5_gateOf ({ frames := 0, cells := 0, slots := 0, locals := 0 } : Room) 0 0 [.int (nI k), .int (nI a), .int (nI b), .int (nI cc)] w (S := Unit) (fun u => True) (fun u => some (.int (nI (gaF k a b cc)))) (fun u => w) := by
  refine Ct.ofW (cc := cX5_gateOf) (maxL := 4) (ret := (some .int)) (R_C := RX5) (by decide +kernel) rfl rfl (Nat.le_of_ble_eq_true rfl) rfl ?_
  intro p e s m args below meth c A Q ls H locs hx hb hml hown hts hK hA hP hD hS hZ hl hri hrl hrv
  refine lv_iload_n hx hb dX5_gateOf_0 rfl (lv_at hl 0 rfl) ?_
  have h_1 : k = 0 ∨ k = 1 ∨ k = 2 ∨ k = 3 ∨ k = 4 := by omega
  rcases h_1 with h_1 | h_1 | h_1 | h_1 | h_1
  · refine lv_tableIn (off := 31) (tgt := 32) hx hb dX5_gateOf_1 (by rw [h_1]; decide) (by rw [h_1]; decide) (by rw [h_1]; decide) (by decide) ?_
    refine lv_iconst (v := nI 1) hx hb dX5_gateOf_32 (by decide) ?_
    refine lv_iload_n hx hb dX5_gateOf_33 rfl (lv_at hl 1 rfl) ?_
    refine lv_isub hx hb dX5_gateOf_34 ?_
    refine fx_eqi (x := (nI 1) - (nI a)) (y := nI (1 - a)) (pk_sub ha) ?_
    exact hri () _ H locs 35 ls .int rfl rfl trivial (by simp [gaF, h_1]) hP hD hS dX5_gateOf_35
  · refine lv_tableIn (off := 35) (tgt := 36) hx hb dX5_gateOf_1 (by rw [h_1]; decide) (by rw [h_1]; decide) (by rw [h_1]; decide) (by decide) ?_
    refine lv_iload_n hx hb dX5_gateOf_36 rfl (lv_at hl 1 rfl) ?_
    refine lv_iload_n hx hb dX5_gateOf_37 rfl (lv_at hl 2 rfl) ?_
    refine lv_iand hx hb dX5_gateOf_38 ?_
    refine fx_eqi (fx_andI _ _) ?_
    exact hri () _ H locs 39 ls .int rfl rfl trivial (by simp [gaF, h_1]) hP hD hS dX5_gateOf_39
  · refine lv_tableIn (off := 39) (tgt := 40) hx hb dX5_gateOf_1 (by rw [h_1]; decide) (by rw [h_1]; decide) (by rw [h_1]; decide) (by decide) ?_
    refine lv_iload_n hx hb dX5_gateOf_40 rfl (lv_at hl 1 rfl) ?_
    refine lv_iload_n hx hb dX5_gateOf_41 rfl (lv_at hl 2 rfl) ?_
    refine lv_ior hx hb dX5_gateOf_42 ?_
    refine fx_eqi (fx_orI _ _) ?_
    exact hri () _ H locs 43 ls .int rfl rfl trivial (by simp [gaF, h_1]) hP hD hS dX5_gateOf_43
  · refine lv_tableIn (off := 43) (tgt := 44) hx hb dX5_gateOf_1 (by rw [h_1]; decide) (by rw [h_1]; decide) (by rw [h_1]; decide) (by decide) ?_
    refine lv_iload_n hx hb dX5_gateOf_44 rfl (lv_at hl 1 rfl) ?_
    refine lv_iload_n hx hb dX5_gateOf_45 rfl (lv_at hl 2 rfl) ?_
    refine lv_ixor hx hb dX5_gateOf_46 ?_
    refine fx_eqi (fx_xorI _ _) ?_
    exact hri () _ H locs 47 ls .int rfl rfl trivial (by simp [gaF, h_1]) hP hD hS dX5_gateOf_47
  refine lv_tableOut (tgt := 48) hx hb dX5_gateOf_1 (by rw [h_1]; decide) (by decide) ?_
  refine lv_iload_n hx hb dX5_gateOf_48 rfl (lv_at hl 1 rfl) ?_
  refine lv_iconst (v := nI 1) hx hb dX5_gateOf_49 (by decide) ?_
  refine lv_icmp_ne (tgt := 57) hx hb dX5_gateOf_50 (by decide) (fun c_50 => ?_) (fun c_50 => ?_)
  · have f_50 : ¬ a = 1 := fun h => c_50 ((nI_eq (a := a) (b := 1) (by first | omega | exact b_and1 _ | exact b_ct _ _ (by omega) | exact b_andr _ (by omega)) (by first | omega | exact b_and1 _ | exact b_ct _ _ (by omega) | exact b_andr _ (by omega))).mpr h)
    refine lv_iload_n hx hb dX5_gateOf_57 rfl (lv_at hl 3 rfl) ?_
    exact hri () _ H locs 58 ls .int rfl rfl trivial (by simp [gaF, h_1, f_50]) hP hD hS dX5_gateOf_58
  have f_50 : a = 1 := (nI_eq (a := a) (b := 1) (by first | omega | exact b_and1 _ | exact b_ct _ _ (by omega) | exact b_andr _ (by omega)) (by first | omega | exact b_and1 _ | exact b_ct _ _ (by omega) | exact b_andr _ (by omega))).mp c_50
  refine lv_iload_n hx hb dX5_gateOf_53 rfl (lv_at hl 2 rfl) ?_
  refine lv_goto (tgt := 58) hx hb dX5_gateOf_54 (by decide) ?_
  exact hri () _ H locs 58 ls .int rfl rfl trivial (by simp [gaF, h_1, f_50]) hP hD hS dX5_gateOf_58
set_option maxHeartbeats 4000000 in
set_option maxRecDepth 100000 in
theorem c_X5_work (l : Launch) (D : va_G) (cI cJ cZ : ClassId) (z : Nat → Nat) (mn : Nat) (mi : Nat) (ms : Nat) (mtk : Nat) (mso : Nat → Nat) (mwh : Nat → Nat) (mfi : Nat → Nat) (mse : Nat → Nat) (mth : Nat → Nat) (mpu : Nat → Nat) (mno : Nat → Nat) (mlo : Nat → Nat) (mbe : Nat → Nat) (mre : Nat → Nat) (mis : Nat → Bool) (mca : Nat → Bool) (mpa : Nat → Nat) (mva : Nat → Nat) (mle : Nat → Nat) (mst : Nat → Bool) (mtn : Nat → Bool) (mln : Nat → Nat) (mne : Nat → Int32) (mgo : Nat → Int32) (row : Nat) (y : Nat) (hmn : mn ≤ 32) (hmi : mi ≤ 4) (hms : ms ≤ 6) (hso : ∀ j, j < mn → mso j ≤ 3) (hwk : ∀ j, j < mn → mso j = 2 → mwh j ≤ 4) (hg : ∀ j, j < mn → mso j = 2 → mfi j < j ∧ mse j < j ∧ mth j < j) (hwf : ∀ j, j < mn → mso j = 1 → mwh j ≤ 1) (hwi : ∀ j, j < mn → mso j = 0 → mwh j < mi) (hws : ∀ j, j < mn → mso j = 3 → mwh j < ms) (hrow : row < 64) (hy : y < 16) : Ct l D cI cJ cZ yX5_work wsX5_work ({ frames := 1, cells := 0, slots := 0, locals := 23 } : Room) 0 0 [.ref (z 0), .int (nI row), .int (nI y)] (wM z cI cZ mn mi ms mtk mso mwh mfi mse mth mpu mno mlo mbe mre mis mca mpa mva mle mst mtn mln mne mgo) (S := Unit) (fun u => True) (fun u => none) (fun u => (wM z cI cZ mn mi ms mtk mso mwh mfi mse mth mpu mno mlo mbe mre mis mca mpa (worT mso mwh mfi mse mth row y mva mn) mle mst mtn mln mne mgo)) := by
  refine Ct.ofW (cc := cX5_work) (maxL := 4) (ret := none) (R_C := RX5) (by decide +kernel) rfl rfl (Nat.le_of_ble_eq_true rfl) rfl ?_
  intro p e s m args below meth c A Q ls H locs hx hb hml hown hts hK hA hP hD hS hZ hl hri hrl hrv
  refine lv_iconst (v := nI 0) hx hb dX5_work_0 (by decide) ?_
  refine lv_istore_n (lv' := [(3, .int (nI 0)), (0, .ref (z 0)), (1, .int (nI row)), (2, .int (nI y))]) hx hb dX5_work_1 rfl hl (by decide) rfl (fun ls hl => ?_)
  have L_2 : ∀ (fuel : Nat) (i : Nat) (hi : i ≤ mn) (hfu : mn - i < fuel) (H : Heap) (locs : List Loc), va_P D vwCl (wM z cI cZ mn mi ms mtk mso mwh mfi mse mth mpu mno mlo mbe mre mis mca mpa (worT mso mwh mfi mse mth row y mva i) mle mst mtn mln mne mgo) H → va_D A (wM z cI cZ mn mi ms mtk mso mwh mfi mse mth mpu mno mlo mbe mre mis mca mpa (worT mso mwh mfi mse mth row y mva i) mle mst mtn mln mne mgo) → va_S A s.heap H locs → ∀ ls : Array Slot, lv_has ls 4 [(0, .ref (z 0)), (1, .int (nI row)), (2, .int (nI y)), (3, .int (nI i))] → W p l e ({ frames := 1, cells := 0, slots := 0, locals := 23 } : Room) s m args below meth c H locs 0 0 Q (F0 m 2 ls []) := by
    intro fuel
    induction fuel with
    | zero => intro i hi hfu; exact absurd hfu (Nat.not_lt_zero _)
    | succ fuel ih_2 =>
      intro i hi hfu H locs hP hD hS ls hl
      refine lv_iload_n hx hb dX5_work_2 rfl (lv_at hl 3 rfl) ?_
      refine lv_aload_n hx hb dX5_work_3 rfl (lv_at hl 0 rfl) ?_
      refine va_get (D := D) (ci := 5) (v := .int (nI mn)) (C := RX5) (T := TX5) (N := 24) hx hb hts (fun w h => List.mem_cons_of_mem _ (List.mem_append_right _ h)) hown hK hP 0 rfl rfl 0 (by decide) (hts (.fieldLink RX5 74 "FirstStatesModel" "nodes" "I") (List.mem_of_getElem? (i := 1) rfl)) (fun _ h9 => h9) rfl dX5_work_4 ?_
      refine lv_icmp_ge (tgt := 134) hx hb dX5_work_7 (by decide) (fun c_7 => ?_) (fun c_7 => ?_)
      · have f_7 : mn ≤ i := (nI_leI (a := mn) (b := i) (by first | omega | exact b_and1 _ | exact b_ct _ _ (by omega) | exact b_andr _ (by omega)) (by first | omega | exact b_and1 _ | exact b_ct _ _ (by omega) | exact b_andr _ (by omega))).mp c_7
        have e_1 : worT mso mwh mfi mse mth row y mva i = worT mso mwh mfi mse mth row y mva mn := by first | rfl | (rw [show mn = i by omega])
        exact hrv () H locs 134 ls rfl trivial rfl (fx_Pe (w' := (wM z cI cZ mn mi ms mtk mso mwh mfi mse mth mpu mno mlo mbe mre mis mca mpa (worT mso mwh mfi mse mth row y mva mn) mle mst mtn mln mne mgo)) hP (congrArg (fun w9 : Nat → Nat => (wM z cI cZ mn mi ms mtk mso mwh mfi mse mth mpu mno mlo mbe mre mis mca mpa w9 mle mst mtn mln mne mgo)) e_1)) (fx_D hD rfl) hS dX5_work_134
      have f_7 : ¬ mn ≤ i := fun h => c_7 ((nI_leI (a := mn) (b := i) (by first | omega | exact b_and1 _ | exact b_ct _ _ (by omega) | exact b_andr _ (by omega)) (by first | omega | exact b_and1 _ | exact b_ct _ _ (by omega) | exact b_andr _ (by omega))).mpr h)
      have hso1 := hso i (by omega)
      refine lv_aload_n hx hb dX5_work_10 rfl (lv_at hl 0 rfl) ?_
      refine va_get (D := D) (ci := 5) (v := .ref (z 1)) (C := RX5) (T := TX5) (N := 24) hx hb hts (fun w h => List.mem_cons_of_mem _ (List.mem_append_right _ h)) hown hK hP 0 rfl rfl 1 (by decide) (hts (.fieldLink RX5 7 "FirstStatesModel" "sort" "[I") (List.mem_of_getElem? (i := 2) rfl)) (fun _ h9 => h9) rfl dX5_work_11 ?_
      refine lv_iload_n hx hb dX5_work_14 rfl (lv_at hl 3 rfl) ?_
      refine fx_iald (ar := nI) hx hb hK hP 1 (f := mso) (k := i) rfl (by omega) (by decide) dX5_work_15 ?_
      refine lv_iconst (v := nI 2) hx hb dX5_work_16 (by decide) ?_
      refine lv_icmp_ne (tgt := 71) hx hb dX5_work_17 (by decide) (fun c_17 => ?_) (fun c_17 => ?_)
      · have f_17 : ¬ mso i = 2 := fun h => c_17 ((nI_eq (a := mso i) (b := 2) (by first | omega | exact b_and1 _ | exact b_ct _ _ (by omega) | exact b_andr _ (by omega)) (by first | omega | exact b_and1 _ | exact b_ct _ _ (by omega) | exact b_andr _ (by omega))).mpr h)
        refine lv_aload_n hx hb dX5_work_71 rfl (lv_at hl 0 rfl) ?_
        refine va_get (D := D) (ci := 5) (v := .ref (z 14)) (C := RX5) (T := TX5) (N := 24) hx hb hts (fun w h => List.mem_cons_of_mem _ (List.mem_append_right _ h)) hown hK hP 0 rfl rfl 17 (by decide) (hts (.fieldLink RX5 50 "FirstStatesModel" "value" "[I") (List.mem_of_getElem? (i := 3) rfl)) (fun _ h9 => h9) rfl dX5_work_72 ?_
        refine lv_iload_n hx hb dX5_work_75 rfl (lv_at hl 3 rfl) ?_
        refine lv_aload_n hx hb dX5_work_76 rfl (lv_at hl 0 rfl) ?_
        refine va_get (D := D) (ci := 5) (v := .ref (z 1)) (C := RX5) (T := TX5) (N := 24) hx hb hts (fun w h => List.mem_cons_of_mem _ (List.mem_append_right _ h)) hown hK hP 0 rfl rfl 1 (by decide) (hts (.fieldLink RX5 7 "FirstStatesModel" "sort" "[I") (List.mem_of_getElem? (i := 2) rfl)) (fun _ h9 => h9) rfl dX5_work_77 ?_
        refine lv_iload_n hx hb dX5_work_80 rfl (lv_at hl 3 rfl) ?_
        refine fx_iald (ar := nI) hx hb hK hP 1 (f := mso) (k := i) rfl (by omega) (by decide) dX5_work_81 ?_
        refine lv_iconst (v := nI 1) hx hb dX5_work_82 (by decide) ?_
        refine lv_icmp_ne (tgt := 95) hx hb dX5_work_83 (by decide) (fun c_83 => ?_) (fun c_83 => ?_)
        · have f_83 : ¬ mso i = 1 := fun h => c_83 ((nI_eq (a := mso i) (b := 1) (by first | omega | exact b_and1 _ | exact b_ct _ _ (by omega) | exact b_andr _ (by omega)) (by first | omega | exact b_and1 _ | exact b_ct _ _ (by omega) | exact b_andr _ (by omega))).mpr h)
          refine lv_aload_n hx hb dX5_work_95 rfl (lv_at hl 0 rfl) ?_
          refine va_get (D := D) (ci := 5) (v := .ref (z 1)) (C := RX5) (T := TX5) (N := 24) hx hb hts (fun w h => List.mem_cons_of_mem _ (List.mem_append_right _ h)) hown hK hP 0 rfl rfl 1 (by decide) (hts (.fieldLink RX5 7 "FirstStatesModel" "sort" "[I") (List.mem_of_getElem? (i := 2) rfl)) (fun _ h9 => h9) rfl dX5_work_96 ?_
          refine lv_iload_n hx hb dX5_work_99 rfl (lv_at hl 3 rfl) ?_
          refine fx_iald (ar := nI) hx hb hK hP 1 (f := mso) (k := i) rfl (by omega) (by decide) dX5_work_100 ?_
          refine lv_if_ne (tgt := 117) hx hb dX5_work_101 (by decide) (fun c_101 => ?_) (fun c_101 => ?_)
          · have f_101 : ¬ mso i = 0 := fun h => c_101 ((nI_eq (a := mso i) (b := 0) (by first | omega | exact b_and1 _ | exact b_ct _ _ (by omega) | exact b_andr _ (by omega)) (by first | omega | exact b_and1 _ | exact b_ct _ _ (by omega) | exact b_andr _ (by omega))).mpr h)
            have hws1 := hws i (by omega) (by omega)
            refine lv_iload_n hx hb dX5_work_117 rfl (lv_at hl 1 rfl) ?_
            refine lv_aload_n hx hb dX5_work_118 rfl (lv_at hl 0 rfl) ?_
            refine va_get (D := D) (ci := 5) (v := .ref (z 2)) (C := RX5) (T := TX5) (N := 24) hx hb hts (fun w h => List.mem_cons_of_mem _ (List.mem_append_right _ h)) hown hK hP 0 rfl rfl 2 (by decide) (hts (.fieldLink RX5 13 "FirstStatesModel" "which" "[I") (List.mem_of_getElem? (i := 4) rfl)) (fun _ h9 => h9) rfl dX5_work_119 ?_
            refine lv_iload_n hx hb dX5_work_122 rfl (lv_at hl 3 rfl) ?_
            refine fx_iald (ar := nI) hx hb hK hP 2 (f := mwh) (k := i) rfl (by omega) (by decide) dX5_work_123 ?_
            refine lv_ishr hx hb dX5_work_124 ?_
            refine fx_eqi (y := nI (row >>> (mwh i))) (fx_shr (by first | omega | exact b_and1 _ | exact b_ct _ _ (by omega) | exact b_andr _ (by omega)) (by first | omega | exact b_and1 _ | exact b_ct _ _ (by omega) | exact b_andr _ (by omega))) ?_
            refine lv_iconst (v := nI 1) hx hb dX5_work_125 (by decide) ?_
            refine lv_iand hx hb dX5_work_126 ?_
            refine fx_eqi (fx_andI _ _) ?_
            refine fx_iast (ar := nI) hx hb hK hP hD hS 14 (f := (worT mso mwh mfi mse mth row y mva i)) (k := i) (v := ((row >>> (mwh i)) &&& 1)) rfl (by omega) (by decide) rfl dX5_work_127 (fun H locs hP hD hS => ?_)
            have hP : va_P D vwCl (wM z cI cZ mn mi ms mtk mso mwh mfi mse mth mpu mno mlo mbe mre mis mca mpa (va_up (worT mso mwh mfi mse mth row y mva i) i ((row >>> (mwh i)) &&& 1)) mle mst mtn mln mne mgo) H := hP
            have hD : va_D A (wM z cI cZ mn mi ms mtk mso mwh mfi mse mth mpu mno mlo mbe mre mis mca mpa (va_up (worT mso mwh mfi mse mth row y mva i) i ((row >>> (mwh i)) &&& 1)) mle mst mtn mln mne mgo) := fx_D hD rfl
            refine lv_iinc (v := nI (i + 1)) (lv' := [(3, .int (nI (i + 1))), (0, .ref (z 0)), (1, .int (nI row)), (2, .int (nI y))]) hx hb dX5_work_128 hl (k := 3) rfl (by exact nI_1 _) (by decide) rfl (fun ls hl => ?_)
            refine lv_goto (tgt := 2) hx hb dX5_work_131 (by decide) ?_
            have e_2 : va_up (worT mso mwh mfi mse mth row y mva i) i ((row >>> (mwh i)) &&& 1) = worT mso mwh mfi mse mth row y mva (i + 1) := by first | rfl | (simp [worT, f_17, f_83, f_101])
            exact ih_2 (i + 1) (by first | assumption | omega) (by omega) H locs (fx_Pe (w' := (wM z cI cZ mn mi ms mtk mso mwh mfi mse mth mpu mno mlo mbe mre mis mca mpa (worT mso mwh mfi mse mth row y mva (i + 1)) mle mst mtn mln mne mgo)) hP (congrArg (fun w9 : Nat → Nat => (wM z cI cZ mn mi ms mtk mso mwh mfi mse mth mpu mno mlo mbe mre mis mca mpa w9 mle mst mtn mln mne mgo)) e_2)) (fx_D hD rfl) hS ls (lv_sub hl [1, 2, 3, 0] rfl)
          have f_101 : mso i = 0 := (nI_eq (a := mso i) (b := 0) (by first | omega | exact b_and1 _ | exact b_ct _ _ (by omega) | exact b_andr _ (by omega)) (by first | omega | exact b_and1 _ | exact b_ct _ _ (by omega) | exact b_andr _ (by omega))).mp c_101
          have hwi1 := hwi i (by omega) f_101
          refine lv_iload_n hx hb dX5_work_104 rfl (lv_at hl 2 rfl) ?_
          refine lv_aload_n hx hb dX5_work_105 rfl (lv_at hl 0 rfl) ?_
          refine va_get (D := D) (ci := 5) (v := .ref (z 2)) (C := RX5) (T := TX5) (N := 24) hx hb hts (fun w h => List.mem_cons_of_mem _ (List.mem_append_right _ h)) hown hK hP 0 rfl rfl 2 (by decide) (hts (.fieldLink RX5 13 "FirstStatesModel" "which" "[I") (List.mem_of_getElem? (i := 4) rfl)) (fun _ h9 => h9) rfl dX5_work_106 ?_
          refine lv_iload_n hx hb dX5_work_109 rfl (lv_at hl 3 rfl) ?_
          refine fx_iald (ar := nI) hx hb hK hP 2 (f := mwh) (k := i) rfl (by omega) (by decide) dX5_work_110 ?_
          refine lv_ishr hx hb dX5_work_111 ?_
          refine fx_eqi (y := nI (y >>> (mwh i))) (fx_shr (by first | omega | exact b_and1 _ | exact b_ct _ _ (by omega) | exact b_andr _ (by omega)) (by first | omega | exact b_and1 _ | exact b_ct _ _ (by omega) | exact b_andr _ (by omega))) ?_
          refine lv_iconst (v := nI 1) hx hb dX5_work_112 (by decide) ?_
          refine lv_iand hx hb dX5_work_113 ?_
          refine fx_eqi (fx_andI _ _) ?_
          refine lv_goto (tgt := 127) hx hb dX5_work_114 (by decide) ?_
          refine fx_iast (ar := nI) hx hb hK hP hD hS 14 (f := (worT mso mwh mfi mse mth row y mva i)) (k := i) (v := ((y >>> (mwh i)) &&& 1)) rfl (by omega) (by decide) rfl dX5_work_127 (fun H locs hP hD hS => ?_)
          have hP : va_P D vwCl (wM z cI cZ mn mi ms mtk mso mwh mfi mse mth mpu mno mlo mbe mre mis mca mpa (va_up (worT mso mwh mfi mse mth row y mva i) i ((y >>> (mwh i)) &&& 1)) mle mst mtn mln mne mgo) H := hP
          have hD : va_D A (wM z cI cZ mn mi ms mtk mso mwh mfi mse mth mpu mno mlo mbe mre mis mca mpa (va_up (worT mso mwh mfi mse mth row y mva i) i ((y >>> (mwh i)) &&& 1)) mle mst mtn mln mne mgo) := fx_D hD rfl
          refine lv_iinc (v := nI (i + 1)) (lv' := [(3, .int (nI (i + 1))), (0, .ref (z 0)), (1, .int (nI row)), (2, .int (nI y))]) hx hb dX5_work_128 hl (k := 3) rfl (by exact nI_1 _) (by decide) rfl (fun ls hl => ?_)
          refine lv_goto (tgt := 2) hx hb dX5_work_131 (by decide) ?_
          have e_3 : va_up (worT mso mwh mfi mse mth row y mva i) i ((y >>> (mwh i)) &&& 1) = worT mso mwh mfi mse mth row y mva (i + 1) := by first | rfl | (simp [worT, f_17, f_83, f_101])
          exact ih_2 (i + 1) (by first | assumption | omega) (by omega) H locs (fx_Pe (w' := (wM z cI cZ mn mi ms mtk mso mwh mfi mse mth mpu mno mlo mbe mre mis mca mpa (worT mso mwh mfi mse mth row y mva (i + 1)) mle mst mtn mln mne mgo)) hP (congrArg (fun w9 : Nat → Nat => (wM z cI cZ mn mi ms mtk mso mwh mfi mse mth mpu mno mlo mbe mre mis mca mpa w9 mle mst mtn mln mne mgo)) e_3)) (fx_D hD rfl) hS ls (lv_sub hl [1, 2, 3, 0] rfl)
        have f_83 : mso i = 1 := (nI_eq (a := mso i) (b := 1) (by first | omega | exact b_and1 _ | exact b_ct _ _ (by omega) | exact b_andr _ (by omega)) (by first | omega | exact b_and1 _ | exact b_ct _ _ (by omega) | exact b_andr _ (by omega))).mp c_83
        refine lv_aload_n hx hb dX5_work_86 rfl (lv_at hl 0 rfl) ?_
        refine va_get (D := D) (ci := 5) (v := .ref (z 2)) (C := RX5) (T := TX5) (N := 24) hx hb hts (fun w h => List.mem_cons_of_mem _ (List.mem_append_right _ h)) hown hK hP 0 rfl rfl 2 (by decide) (hts (.fieldLink RX5 13 "FirstStatesModel" "which" "[I") (List.mem_of_getElem? (i := 4) rfl)) (fun _ h9 => h9) rfl dX5_work_87 ?_
        refine lv_iload_n hx hb dX5_work_90 rfl (lv_at hl 3 rfl) ?_
        refine fx_iald (ar := nI) hx hb hK hP 2 (f := mwh) (k := i) rfl (by omega) (by decide) dX5_work_91 ?_
        refine lv_goto (tgt := 127) hx hb dX5_work_92 (by decide) ?_
        refine fx_iast (ar := nI) hx hb hK hP hD hS 14 (f := (worT mso mwh mfi mse mth row y mva i)) (k := i) (v := (mwh i)) rfl (by omega) (by decide) rfl dX5_work_127 (fun H locs hP hD hS => ?_)
        have hP : va_P D vwCl (wM z cI cZ mn mi ms mtk mso mwh mfi mse mth mpu mno mlo mbe mre mis mca mpa (va_up (worT mso mwh mfi mse mth row y mva i) i (mwh i)) mle mst mtn mln mne mgo) H := hP
        have hD : va_D A (wM z cI cZ mn mi ms mtk mso mwh mfi mse mth mpu mno mlo mbe mre mis mca mpa (va_up (worT mso mwh mfi mse mth row y mva i) i (mwh i)) mle mst mtn mln mne mgo) := fx_D hD rfl
        refine lv_iinc (v := nI (i + 1)) (lv' := [(3, .int (nI (i + 1))), (0, .ref (z 0)), (1, .int (nI row)), (2, .int (nI y))]) hx hb dX5_work_128 hl (k := 3) rfl (by exact nI_1 _) (by decide) rfl (fun ls hl => ?_)
        refine lv_goto (tgt := 2) hx hb dX5_work_131 (by decide) ?_
        have e_4 : va_up (worT mso mwh mfi mse mth row y mva i) i (mwh i) = worT mso mwh mfi mse mth row y mva (i + 1) := by first | rfl | (simp [worT, f_17, f_83])
        exact ih_2 (i + 1) (by first | assumption | omega) (by omega) H locs (fx_Pe (w' := (wM z cI cZ mn mi ms mtk mso mwh mfi mse mth mpu mno mlo mbe mre mis mca mpa (worT mso mwh mfi mse mth row y mva (i + 1)) mle mst mtn mln mne mgo)) hP (congrArg (fun w9 : Nat → Nat => (wM z cI cZ mn mi ms mtk mso mwh mfi mse mth mpu mno mlo mbe mre mis mca mpa w9 mle mst mtn mln mne mgo)) e_4)) (fx_D hD rfl) hS ls (lv_sub hl [1, 2, 3, 0] rfl)
      have f_17 : mso i = 2 := (nI_eq (a := mso i) (b := 2) (by first | omega | exact b_and1 _ | exact b_ct _ _ (by omega) | exact b_andr _ (by omega)) (by first | omega | exact b_and1 _ | exact b_ct _ _ (by omega) | exact b_andr _ (by omega))).mp c_17
      have hg1 := hg i (by omega) f_17
      have hwk1 := hwk i (by omega) f_17
      have wle := worT_le (row := row) (y := y) (f := mva) hg hwf (show i ≤ mn by omega)
      have w1 := wle _ hg1.1
      have w2 := wle _ hg1.2.1
      have w3 := wle _ hg1.2.2
      refine lv_aload_n hx hb dX5_work_20 rfl (lv_at hl 0 rfl) ?_
      refine va_get (D := D) (ci := 5) (v := .ref (z 14)) (C := RX5) (T := TX5) (N := 24) hx hb hts (fun w h => List.mem_cons_of_mem _ (List.mem_append_right _ h)) hown hK hP 0 rfl rfl 17 (by decide) (hts (.fieldLink RX5 50 "FirstStatesModel" "value" "[I") (List.mem_of_getElem? (i := 3) rfl)) (fun _ h9 => h9) rfl dX5_work_21 ?_
      refine lv_iload_n hx hb dX5_work_24 rfl (lv_at hl 3 rfl) ?_
      refine lv_aload_n hx hb dX5_work_25 rfl (lv_at hl 0 rfl) ?_
      refine va_get (D := D) (ci := 5) (v := .ref (z 2)) (C := RX5) (T := TX5) (N := 24) hx hb hts (fun w h => List.mem_cons_of_mem _ (List.mem_append_right _ h)) hown hK hP 0 rfl rfl 2 (by decide) (hts (.fieldLink RX5 13 "FirstStatesModel" "which" "[I") (List.mem_of_getElem? (i := 4) rfl)) (fun _ h9 => h9) rfl dX5_work_26 ?_
      refine lv_iload_n hx hb dX5_work_29 rfl (lv_at hl 3 rfl) ?_
      refine fx_iald (ar := nI) hx hb hK hP 2 (f := mwh) (k := i) rfl (by omega) (by decide) dX5_work_30 ?_
      refine lv_aload_n hx hb dX5_work_31 rfl (lv_at hl 0 rfl) ?_
      refine va_get (D := D) (ci := 5) (v := .ref (z 14)) (C := RX5) (T := TX5) (N := 24) hx hb hts (fun w h => List.mem_cons_of_mem _ (List.mem_append_right _ h)) hown hK hP 0 rfl rfl 17 (by decide) (hts (.fieldLink RX5 50 "FirstStatesModel" "value" "[I") (List.mem_of_getElem? (i := 3) rfl)) (fun _ h9 => h9) rfl dX5_work_32 ?_
      refine lv_aload_n hx hb dX5_work_35 rfl (lv_at hl 0 rfl) ?_
      refine va_get (D := D) (ci := 5) (v := .ref (z 3)) (C := RX5) (T := TX5) (N := 24) hx hb hts (fun w h => List.mem_cons_of_mem _ (List.mem_append_right _ h)) hown hK hP 0 rfl rfl 3 (by decide) (hts (.fieldLink RX5 16 "FirstStatesModel" "first" "[I") (List.mem_of_getElem? (i := 5) rfl)) (fun _ h9 => h9) rfl dX5_work_36 ?_
      refine lv_iload_n hx hb dX5_work_39 rfl (lv_at hl 3 rfl) ?_
      refine fx_iald (ar := nI) hx hb hK hP 3 (f := mfi) (k := i) rfl (by omega) (by decide) dX5_work_40 ?_
      refine fx_iald (ar := nI) hx hb hK hP 14 (f := (worT mso mwh mfi mse mth row y mva i)) (k := (mfi i)) rfl (by omega) (by decide) dX5_work_41 ?_
      refine lv_aload_n hx hb dX5_work_42 rfl (lv_at hl 0 rfl) ?_
      refine va_get (D := D) (ci := 5) (v := .ref (z 14)) (C := RX5) (T := TX5) (N := 24) hx hb hts (fun w h => List.mem_cons_of_mem _ (List.mem_append_right _ h)) hown hK hP 0 rfl rfl 17 (by decide) (hts (.fieldLink RX5 50 "FirstStatesModel" "value" "[I") (List.mem_of_getElem? (i := 3) rfl)) (fun _ h9 => h9) rfl dX5_work_43 ?_
      refine lv_aload_n hx hb dX5_work_46 rfl (lv_at hl 0 rfl) ?_
      refine va_get (D := D) (ci := 5) (v := .ref (z 4)) (C := RX5) (T := TX5) (N := 24) hx hb hts (fun w h => List.mem_cons_of_mem _ (List.mem_append_right _ h)) hown hK hP 0 rfl rfl 4 (by decide) (hts (.fieldLink RX5 19 "FirstStatesModel" "second" "[I") (List.mem_of_getElem? (i := 6) rfl)) (fun _ h9 => h9) rfl dX5_work_47 ?_
      refine lv_iload_n hx hb dX5_work_50 rfl (lv_at hl 3 rfl) ?_
      refine fx_iald (ar := nI) hx hb hK hP 4 (f := mse) (k := i) rfl (by omega) (by decide) dX5_work_51 ?_
      refine fx_iald (ar := nI) hx hb hK hP 14 (f := (worT mso mwh mfi mse mth row y mva i)) (k := (mse i)) rfl (by omega) (by decide) dX5_work_52 ?_
      refine lv_aload_n hx hb dX5_work_53 rfl (lv_at hl 0 rfl) ?_
      refine va_get (D := D) (ci := 5) (v := .ref (z 14)) (C := RX5) (T := TX5) (N := 24) hx hb hts (fun w h => List.mem_cons_of_mem _ (List.mem_append_right _ h)) hown hK hP 0 rfl rfl 17 (by decide) (hts (.fieldLink RX5 50 "FirstStatesModel" "value" "[I") (List.mem_of_getElem? (i := 3) rfl)) (fun _ h9 => h9) rfl dX5_work_54 ?_
      refine lv_aload_n hx hb dX5_work_57 rfl (lv_at hl 0 rfl) ?_
      refine va_get (D := D) (ci := 5) (v := .ref (z 5)) (C := RX5) (T := TX5) (N := 24) hx hb hts (fun w h => List.mem_cons_of_mem _ (List.mem_append_right _ h)) hown hK hP 0 rfl rfl 5 (by decide) (hts (.fieldLink RX5 22 "FirstStatesModel" "third" "[I") (List.mem_of_getElem? (i := 7) rfl)) (fun _ h9 => h9) rfl dX5_work_58 ?_
      refine lv_iload_n hx hb dX5_work_61 rfl (lv_at hl 3 rfl) ?_
      refine fx_iald (ar := nI) hx hb hK hP 5 (f := mth) (k := i) rfl (by omega) (by decide) dX5_work_62 ?_
      refine fx_iald (ar := nI) hx hb hK hP 14 (f := (worT mso mwh mfi mse mth row y mva i)) (k := (mth i)) rfl (by omega) (by decide) dX5_work_63 ?_
      refine fx_callS (As := [.int (nI (mwh i)), .int (nI ((worT mso mwh mfi mse mth row y mva i) (mfi i))), .int (nI ((worT mso mwh mfi mse mth row y mva i) (mse i))), .int (nI ((worT mso mwh mfi mse mth row y mva i) (mth i)))]) (rest := [.int (nI i), .ref (z 14)]) ⟨hx, hb, hml, hown, hts⟩ (c_X5_gateOf l D cI cJ cZ (wM z cI cZ mn mi ms mtk mso mwh mfi mse mth mpu mno mlo mbe mre mis mca mpa (worT mso mwh mfi mse mth row y mva i) mle mst mtn mln mne mgo) (mwh i) ((worT mso mwh mfi mse mth row y mva i) (mfi i)) ((worT mso mwh mfi mse mth row y mva i) (mse i)) ((worT mso mwh mfi mse mth row y mva i) (mth i)) (by first | assumption | omega) (by first | assumption | omega) (by first | assumption | omega) (by first | assumption | omega)) (va_cwS 4 hts gX5_work_X5_gateOf rfl rfl rfl ks_X5_gateOf ⟨Nat.le_of_ble_eq_true rfl, Nat.le_of_ble_eq_true rfl⟩) hK hP hD hS hA hZ rfl hl.1 rfl (lv_room (Nat.le_of_ble_eq_true rfl)) dX5_work_64 ⟨Nat.zero_le _, Nat.zero_le _⟩ (fun u_5 H locs hu_5 hP hD hS => ?_)
      refine fx_iast (ar := nI) hx hb hK hP hD hS 14 (f := (worT mso mwh mfi mse mth row y mva i)) (k := i) (v := (gaF (mwh i) ((worT mso mwh mfi mse mth row y mva i) (mfi i)) ((worT mso mwh mfi mse mth row y mva i) (mse i)) ((worT mso mwh mfi mse mth row y mva i) (mth i)))) rfl (by omega) (by decide) rfl dX5_work_67 (fun H locs hP hD hS => ?_)
      have hP : va_P D vwCl (wM z cI cZ mn mi ms mtk mso mwh mfi mse mth mpu mno mlo mbe mre mis mca mpa (va_up (worT mso mwh mfi mse mth row y mva i) i (gaF (mwh i) ((worT mso mwh mfi mse mth row y mva i) (mfi i)) ((worT mso mwh mfi mse mth row y mva i) (mse i)) ((worT mso mwh mfi mse mth row y mva i) (mth i)))) mle mst mtn mln mne mgo) H := hP
      have hD : va_D A (wM z cI cZ mn mi ms mtk mso mwh mfi mse mth mpu mno mlo mbe mre mis mca mpa (va_up (worT mso mwh mfi mse mth row y mva i) i (gaF (mwh i) ((worT mso mwh mfi mse mth row y mva i) (mfi i)) ((worT mso mwh mfi mse mth row y mva i) (mse i)) ((worT mso mwh mfi mse mth row y mva i) (mth i)))) mle mst mtn mln mne mgo) := fx_D hD rfl
      refine lv_goto (tgt := 128) hx hb dX5_work_68 (by decide) ?_
      refine lv_iinc (v := nI (i + 1)) (lv' := [(3, .int (nI (i + 1))), (0, .ref (z 0)), (1, .int (nI row)), (2, .int (nI y))]) hx hb dX5_work_128 hl (k := 3) rfl (by exact nI_1 _) (by decide) rfl (fun ls hl => ?_)
      refine lv_goto (tgt := 2) hx hb dX5_work_131 (by decide) ?_
      have e_6 : va_up (worT mso mwh mfi mse mth row y mva i) i (gaF (mwh i) ((worT mso mwh mfi mse mth row y mva i) (mfi i)) ((worT mso mwh mfi mse mth row y mva i) (mse i)) ((worT mso mwh mfi mse mth row y mva i) (mth i))) = worT mso mwh mfi mse mth row y mva (i + 1) := by first | rfl | (simp [worT, f_17])
      exact ih_2 (i + 1) (by first | assumption | omega) (by omega) H locs (fx_Pe (w' := (wM z cI cZ mn mi ms mtk mso mwh mfi mse mth mpu mno mlo mbe mre mis mca mpa (worT mso mwh mfi mse mth row y mva (i + 1)) mle mst mtn mln mne mgo)) hP (congrArg (fun w9 : Nat → Nat => (wM z cI cZ mn mi ms mtk mso mwh mfi mse mth mpu mno mlo mbe mre mis mca mpa w9 mle mst mtn mln mne mgo)) e_6)) (fx_D hD rfl) hS ls (lv_sub hl [1, 2, 3, 0] rfl)
  exact L_2 (mn - 0 + 1) 0 (Nat.zero_le _) (Nat.lt_succ_self _) H locs hP (fx_D hD rfl) hS ls (lv_sub hl [1, 2, 3, 0] rfl)
set_option maxHeartbeats 4000000 in
set_option maxRecDepth 100000 in
theorem c_X5_isPut (l : Launch) (D : va_G) (cI cJ cZ : ClassId) (z : Nat → Nat) (mn : Nat) (mi : Nat) (ms : Nat) (mtk : Nat) (mso : Nat → Nat) (mwh : Nat → Nat) (mfi : Nat → Nat) (mse : Nat → Nat) (mth : Nat → Nat) (mpu : Nat → Nat) (mno : Nat → Nat) (mlo : Nat → Nat) (mbe : Nat → Nat) (mre : Nat → Nat) (mis : Nat → Bool) (mca : Nat → Bool) (mpa : Nat → Nat) (mva : Nat → Nat) (mle : Nat → Nat) (mst : Nat → Bool) (mtn : Nat → Bool) (mln : Nat → Nat) (mne : Nat → Int32) (mgo : Nat → Int32) (y : Nat) (ao : Bool) (hmi : mi ≤ 4) (hpu : ∀ i, i < mi → mpu i ≤ 2) (hy : y < 16) : Ct l D cI cJ cZ yX5_isPut wsX5_isPut ({ frames := 0, cells := 0, slots := 0, locals := 0 } : Room) 0 0 [.ref (z 0), .int (nI y), .int (bI ao)] (wM z cI cZ mn mi ms mtk mso mwh mfi mse mth mpu mno mlo mbe mre mis mca mpa mva mle mst mtn mln mne mgo) (S := Unit) (fun u => True) (fun u => some (.int (bI (putT mpu y ao mi)))) (fun u => (wM z cI cZ mn mi ms mtk mso mwh mfi mse mth mpu mno mlo mbe mre mis mca mpa mva mle mst mtn mln mne mgo)) := by
  refine Ct.ofW (cc := cX5_isPut) (maxL := 5) (ret := (some .boolean)) (R_C := RX5) (by decide +kernel) rfl rfl (Nat.le_of_ble_eq_true rfl) rfl ?_
  intro p e s m args below meth c A Q ls H locs hx hb hml hown hts hK hA hP hD hS hZ hl hri hrl hrv
  refine lv_iconst (v := nI 1) hx hb dX5_isPut_0 (by decide) ?_
  refine lv_istore_n (lv' := [(3, .int (nI 1)), (0, .ref (z 0)), (1, .int (nI y)), (2, .int (bI ao))]) hx hb dX5_isPut_1 rfl hl (by decide) rfl (fun ls hl => ?_)
  refine lv_iconst (v := nI 0) hx hb dX5_isPut_2 (by decide) ?_
  refine lv_istore (lv' := [(4, .int (nI 0)), (3, .int (nI 1)), (0, .ref (z 0)), (1, .int (nI y)), (2, .int (bI ao))]) hx hb dX5_isPut_3 hl (by decide) rfl (fun ls hl => ?_)
  have L_5 : ∀ (fuel : Nat) (i : Nat) (hi : i ≤ mi) (hfu : mi - i < fuel) (H : Heap) (locs : List Loc), va_P D vwCl (wM z cI cZ mn mi ms mtk mso mwh mfi mse mth mpu mno mlo mbe mre mis mca mpa mva mle mst mtn mln mne mgo) H → va_D A (wM z cI cZ mn mi ms mtk mso mwh mfi mse mth mpu mno mlo mbe mre mis mca mpa mva mle mst mtn mln mne mgo) → va_S A s.heap H locs → ∀ ls : Array Slot, lv_has ls 5 [(0, .ref (z 0)), (1, .int (nI y)), (2, .int (bI ao)), (3, .int (bI (putT mpu y ao i))), (4, .int (nI i))] → W p l e ({ frames := 0, cells := 0, slots := 0, locals := 0 } : Room) s m args below meth c H locs 0 0 Q (F0 m 5 ls []) := by
    intro fuel
    induction fuel with
    | zero => intro i hi hfu; exact absurd hfu (Nat.not_lt_zero _)
    | succ fuel ih_5 =>
      intro i hi hfu H locs hP hD hS ls hl
      refine lv_iload hx hb dX5_isPut_5 (lv_at hl 4 rfl) ?_
      refine lv_aload_n hx hb dX5_isPut_7 rfl (lv_at hl 0 rfl) ?_
      refine va_get (D := D) (ci := 5) (v := .int (nI mi)) (C := RX5) (T := TX5) (N := 24) hx hb hts (fun w h => List.mem_cons_of_mem _ (List.mem_append_right _ h)) hown hK hP 0 rfl rfl 6 (by decide) (hts (.fieldLink RX5 88 "FirstStatesModel" "inputs" "I") (List.mem_of_getElem? (i := 1) rfl)) (fun _ h9 => h9) rfl dX5_isPut_8 ?_
      refine lv_icmp_ge (tgt := 61) hx hb dX5_isPut_11 (by decide) (fun c_11 => ?_) (fun c_11 => ?_)
      · have f_11 : mi ≤ i := (nI_leI (a := mi) (b := i) (by first | omega | exact b_and1 _ | exact b_ct _ _ (by omega) | exact b_andr _ (by omega)) (by first | omega | exact b_and1 _ | exact b_ct _ _ (by omega) | exact b_andr _ (by omega))).mp c_11
        refine lv_iload_n hx hb dX5_isPut_61 rfl (lv_at hl 3 rfl) ?_
        exact hri () _ H locs 62 ls .boolean rfl (bI_ret _) trivial (by rw [show mi = i by omega]) hP hD hS dX5_isPut_62
      have f_11 : ¬ mi ≤ i := fun h => c_11 ((nI_leI (a := mi) (b := i) (by first | omega | exact b_and1 _ | exact b_ct _ _ (by omega) | exact b_andr _ (by omega)) (by first | omega | exact b_and1 _ | exact b_ct _ _ (by omega) | exact b_andr _ (by omega))).mpr h)
      have hpu1 := hpu i (by omega)
      have hyb : y >>> i ≤ y := Nat.shiftRight_le _ _
      have hy1 := @Nat.and_le_right (y >>> i) 1
      refine lv_iload_n hx hb dX5_isPut_14 rfl (lv_at hl 3 rfl) ?_
      refine lv_if_eq (tgt := 53) hx hb dX5_isPut_15 (by decide) (fun c_15 => ?_) (fun c_15 => ?_)
      · have f_15 : (putT mpu y ao i) = false := bI_0.mp c_15
        refine lv_iconst (v := nI 0) hx hb dX5_isPut_53 (by decide) ?_
        refine lv_istore_n (lv' := [(3, .int (nI 0)), (0, .ref (z 0)), (1, .int (nI y)), (2, .int (bI ao)), (4, .int (nI i))]) hx hb dX5_isPut_54 rfl hl (by decide) rfl (fun ls hl => ?_)
        refine lv_iinc (v := nI (i + 1)) (lv' := [(4, .int (nI (i + 1))), (3, .int (nI 0)), (0, .ref (z 0)), (1, .int (nI y)), (2, .int (bI ao))]) hx hb dX5_isPut_55 hl (k := 4) rfl (by exact nI_1 _) (by decide) rfl (fun ls hl => ?_)
        refine lv_goto (tgt := 5) hx hb dX5_isPut_58 (by decide) ?_
        have e_1 : nI 0 = bI (putT mpu y ao (i + 1)) := by first | rfl | (rw [show putT mpu y ao (i + 1) = false from by show (putT mpu y ao i && (ao || decide (mpu i = 2) || decide (mpu i = (y >>> i) &&& 1))) = _; rw [f_15]; simp only [Nat.add_zero, Bool.true_and, Bool.or_true, Bool.true_or, Bool.or_false, Bool.false_or, Bool.false_and, Bool.and_true, Bool.and_false]]; rfl)
        exact ih_5 (i + 1) (by first | assumption | omega) (by omega) H locs hP hD hS ls (lv_sub (fx_hl (l' := [(4, .int (nI (i + 1))), (3, .int (bI (putT mpu y ao (i + 1)))), (0, .ref (z 0)), (1, .int (nI y)), (2, .int (bI ao))]) hl (congrArg (fun w9 : Int32 => ([(4, .int (nI (i + 1))), (3, .int w9), (0, .ref (z 0)), (1, .int (nI y)), (2, .int (bI ao))] : List (Nat × Value))) e_1)) [2, 3, 4, 1, 0] rfl)
      have f_15 : (putT mpu y ao i) = true := bI_n0.mp c_15
      refine lv_iload_n hx hb dX5_isPut_18 rfl (lv_at hl 2 rfl) ?_
      refine lv_if_ne (tgt := 49) hx hb dX5_isPut_19 (by decide) (fun c_19 => ?_) (fun c_19 => ?_)
      · have f_19 : ao = true := bI_n0.mp c_19
        refine lv_iconst (v := nI 1) hx hb dX5_isPut_49 (by decide) ?_
        refine lv_goto (tgt := 54) hx hb dX5_isPut_50 (by decide) ?_
        refine lv_istore_n (lv' := [(3, .int (nI 1)), (0, .ref (z 0)), (1, .int (nI y)), (2, .int (bI ao)), (4, .int (nI i))]) hx hb dX5_isPut_54 rfl hl (by decide) rfl (fun ls hl => ?_)
        refine lv_iinc (v := nI (i + 1)) (lv' := [(4, .int (nI (i + 1))), (3, .int (nI 1)), (0, .ref (z 0)), (1, .int (nI y)), (2, .int (bI ao))]) hx hb dX5_isPut_55 hl (k := 4) rfl (by exact nI_1 _) (by decide) rfl (fun ls hl => ?_)
        refine lv_goto (tgt := 5) hx hb dX5_isPut_58 (by decide) ?_
        have e_2 : nI 1 = bI (putT mpu y ao (i + 1)) := by first | rfl | (rw [show putT mpu y ao (i + 1) = true from by show (putT mpu y ao i && (ao || decide (mpu i = 2) || decide (mpu i = (y >>> i) &&& 1))) = _; rw [f_15]; simp only [f_19, Bool.true_and, Bool.or_true, Bool.true_or, Bool.or_false, Bool.false_or, Bool.false_and, Bool.and_true, Bool.and_false]]; rfl)
        exact ih_5 (i + 1) (by first | assumption | omega) (by omega) H locs hP hD hS ls (lv_sub (fx_hl (l' := [(4, .int (nI (i + 1))), (3, .int (bI (putT mpu y ao (i + 1)))), (0, .ref (z 0)), (1, .int (nI y)), (2, .int (bI ao))]) hl (congrArg (fun w9 : Int32 => ([(4, .int (nI (i + 1))), (3, .int w9), (0, .ref (z 0)), (1, .int (nI y)), (2, .int (bI ao))] : List (Nat × Value))) e_2)) [2, 3, 4, 1, 0] rfl)
      have f_19 : ao = false := bI_0.mp c_19
      refine lv_aload_n hx hb dX5_isPut_22 rfl (lv_at hl 0 rfl) ?_
      refine va_get (D := D) (ci := 5) (v := .ref (z 6)) (C := RX5) (T := TX5) (N := 24) hx hb hts (fun w h => List.mem_cons_of_mem _ (List.mem_append_right _ h)) hown hK hP 0 rfl rfl 7 (by decide) (hts (.fieldLink RX5 25 "FirstStatesModel" "put" "[I") (List.mem_of_getElem? (i := 2) rfl)) (fun _ h9 => h9) rfl dX5_isPut_23 ?_
      refine lv_iload hx hb dX5_isPut_26 (lv_at hl 4 rfl) ?_
      refine fx_iald (ar := nI) hx hb hK hP 6 (f := mpu) (k := i) rfl (by omega) (by decide) dX5_isPut_28 ?_
      refine lv_iconst (v := nI 2) hx hb dX5_isPut_29 (by decide) ?_
      refine lv_icmp_eq (tgt := 49) hx hb dX5_isPut_30 (by decide) (fun c_30 => ?_) (fun c_30 => ?_)
      · have f_30 : mpu i = 2 := (nI_eq (a := mpu i) (b := 2) (by first | omega | exact b_and1 _ | exact b_ct _ _ (by omega) | exact b_andr _ (by omega)) (by first | omega | exact b_and1 _ | exact b_ct _ _ (by omega) | exact b_andr _ (by omega))).mp c_30
        refine lv_iconst (v := nI 1) hx hb dX5_isPut_49 (by decide) ?_
        refine lv_goto (tgt := 54) hx hb dX5_isPut_50 (by decide) ?_
        refine lv_istore_n (lv' := [(3, .int (nI 1)), (0, .ref (z 0)), (1, .int (nI y)), (2, .int (bI ao)), (4, .int (nI i))]) hx hb dX5_isPut_54 rfl hl (by decide) rfl (fun ls hl => ?_)
        refine lv_iinc (v := nI (i + 1)) (lv' := [(4, .int (nI (i + 1))), (3, .int (nI 1)), (0, .ref (z 0)), (1, .int (nI y)), (2, .int (bI ao))]) hx hb dX5_isPut_55 hl (k := 4) rfl (by exact nI_1 _) (by decide) rfl (fun ls hl => ?_)
        refine lv_goto (tgt := 5) hx hb dX5_isPut_58 (by decide) ?_
        have e_3 : nI 1 = bI (putT mpu y ao (i + 1)) := by first | rfl | (rw [show putT mpu y ao (i + 1) = true from by show (putT mpu y ao i && (ao || decide (mpu i = 2) || decide (mpu i = (y >>> i) &&& 1))) = _; rw [f_15]; simp only [f_19, decide_eq_true f_30, Bool.true_and, Bool.or_true, Bool.true_or, Bool.or_false, Bool.false_or, Bool.false_and, Bool.and_true, Bool.and_false]]; rfl)
        exact ih_5 (i + 1) (by first | assumption | omega) (by omega) H locs hP hD hS ls (lv_sub (fx_hl (l' := [(4, .int (nI (i + 1))), (3, .int (bI (putT mpu y ao (i + 1)))), (0, .ref (z 0)), (1, .int (nI y)), (2, .int (bI ao))]) hl (congrArg (fun w9 : Int32 => ([(4, .int (nI (i + 1))), (3, .int w9), (0, .ref (z 0)), (1, .int (nI y)), (2, .int (bI ao))] : List (Nat × Value))) e_3)) [2, 3, 4, 1, 0] rfl)
      have f_30 : ¬ mpu i = 2 := fun h => c_30 ((nI_eq (a := mpu i) (b := 2) (by first | omega | exact b_and1 _ | exact b_ct _ _ (by omega) | exact b_andr _ (by omega)) (by first | omega | exact b_and1 _ | exact b_ct _ _ (by omega) | exact b_andr _ (by omega))).mpr h)
      refine lv_aload_n hx hb dX5_isPut_33 rfl (lv_at hl 0 rfl) ?_
      refine va_get (D := D) (ci := 5) (v := .ref (z 6)) (C := RX5) (T := TX5) (N := 24) hx hb hts (fun w h => List.mem_cons_of_mem _ (List.mem_append_right _ h)) hown hK hP 0 rfl rfl 7 (by decide) (hts (.fieldLink RX5 25 "FirstStatesModel" "put" "[I") (List.mem_of_getElem? (i := 2) rfl)) (fun _ h9 => h9) rfl dX5_isPut_34 ?_
      refine lv_iload hx hb dX5_isPut_37 (lv_at hl 4 rfl) ?_
      refine fx_iald (ar := nI) hx hb hK hP 6 (f := mpu) (k := i) rfl (by omega) (by decide) dX5_isPut_39 ?_
      refine lv_iload_n hx hb dX5_isPut_40 rfl (lv_at hl 1 rfl) ?_
      refine lv_iload hx hb dX5_isPut_41 (lv_at hl 4 rfl) ?_
      refine lv_ishr hx hb dX5_isPut_43 ?_
      refine fx_eqi (y := nI (y >>> i)) (fx_shr (by first | omega | exact b_and1 _ | exact b_ct _ _ (by omega) | exact b_andr _ (by omega)) (by first | omega | exact b_and1 _ | exact b_ct _ _ (by omega) | exact b_andr _ (by omega))) ?_
      refine lv_iconst (v := nI 1) hx hb dX5_isPut_44 (by decide) ?_
      refine lv_iand hx hb dX5_isPut_45 ?_
      refine fx_eqi (fx_andI _ _) ?_
      refine lv_icmp_ne (tgt := 53) hx hb dX5_isPut_46 (by decide) (fun c_46 => ?_) (fun c_46 => ?_)
      · have f_46 : ¬ mpu i = (y >>> i) &&& 1 := fun h => c_46 ((nI_eq (a := mpu i) (b := (y >>> i) &&& 1) (by first | omega | exact b_and1 _ | exact b_ct _ _ (by omega) | exact b_andr _ (by omega)) (by first | omega | exact b_and1 _ | exact b_ct _ _ (by omega) | exact b_andr _ (by omega))).mpr h)
        refine lv_iconst (v := nI 0) hx hb dX5_isPut_53 (by decide) ?_
        refine lv_istore_n (lv' := [(3, .int (nI 0)), (0, .ref (z 0)), (1, .int (nI y)), (2, .int (bI ao)), (4, .int (nI i))]) hx hb dX5_isPut_54 rfl hl (by decide) rfl (fun ls hl => ?_)
        refine lv_iinc (v := nI (i + 1)) (lv' := [(4, .int (nI (i + 1))), (3, .int (nI 0)), (0, .ref (z 0)), (1, .int (nI y)), (2, .int (bI ao))]) hx hb dX5_isPut_55 hl (k := 4) rfl (by exact nI_1 _) (by decide) rfl (fun ls hl => ?_)
        refine lv_goto (tgt := 5) hx hb dX5_isPut_58 (by decide) ?_
        have e_4 : nI 0 = bI (putT mpu y ao (i + 1)) := by first | rfl | (rw [show putT mpu y ao (i + 1) = false from by show (putT mpu y ao i && (ao || decide (mpu i = 2) || decide (mpu i = (y >>> i) &&& 1))) = _; rw [f_15]; simp only [f_19, decide_eq_false f_30, decide_eq_false f_46, Bool.true_and, Bool.or_true, Bool.true_or, Bool.or_false, Bool.false_or, Bool.false_and, Bool.and_true, Bool.and_false]]; rfl)
        exact ih_5 (i + 1) (by first | assumption | omega) (by omega) H locs hP hD hS ls (lv_sub (fx_hl (l' := [(4, .int (nI (i + 1))), (3, .int (bI (putT mpu y ao (i + 1)))), (0, .ref (z 0)), (1, .int (nI y)), (2, .int (bI ao))]) hl (congrArg (fun w9 : Int32 => ([(4, .int (nI (i + 1))), (3, .int w9), (0, .ref (z 0)), (1, .int (nI y)), (2, .int (bI ao))] : List (Nat × Value))) e_4)) [2, 3, 4, 1, 0] rfl)
      have f_46 : mpu i = (y >>> i) &&& 1 := (nI_eq (a := mpu i) (b := (y >>> i) &&& 1) (by first | omega | exact b_and1 _ | exact b_ct _ _ (by omega) | exact b_andr _ (by omega)) (by first | omega | exact b_and1 _ | exact b_ct _ _ (by omega) | exact b_andr _ (by omega))).mp c_46
      refine lv_iconst (v := nI 1) hx hb dX5_isPut_49 (by decide) ?_
      refine lv_goto (tgt := 54) hx hb dX5_isPut_50 (by decide) ?_
      refine lv_istore_n (lv' := [(3, .int (nI 1)), (0, .ref (z 0)), (1, .int (nI y)), (2, .int (bI ao)), (4, .int (nI i))]) hx hb dX5_isPut_54 rfl hl (by decide) rfl (fun ls hl => ?_)
      refine lv_iinc (v := nI (i + 1)) (lv' := [(4, .int (nI (i + 1))), (3, .int (nI 1)), (0, .ref (z 0)), (1, .int (nI y)), (2, .int (bI ao))]) hx hb dX5_isPut_55 hl (k := 4) rfl (by exact nI_1 _) (by decide) rfl (fun ls hl => ?_)
      refine lv_goto (tgt := 5) hx hb dX5_isPut_58 (by decide) ?_
      have e_5 : nI 1 = bI (putT mpu y ao (i + 1)) := by first | rfl | (rw [show putT mpu y ao (i + 1) = true from by show (putT mpu y ao i && (ao || decide (mpu i = 2) || decide (mpu i = (y >>> i) &&& 1))) = _; rw [f_15]; simp only [f_19, decide_eq_false f_30, decide_eq_true f_46, Bool.true_and, Bool.or_true, Bool.true_or, Bool.or_false, Bool.false_or, Bool.false_and, Bool.and_true, Bool.and_false]]; rfl)
      exact ih_5 (i + 1) (by first | assumption | omega) (by omega) H locs hP hD hS ls (lv_sub (fx_hl (l' := [(4, .int (nI (i + 1))), (3, .int (bI (putT mpu y ao (i + 1)))), (0, .ref (z 0)), (1, .int (nI y)), (2, .int (bI ao))]) hl (congrArg (fun w9 : Int32 => ([(4, .int (nI (i + 1))), (3, .int w9), (0, .ref (z 0)), (1, .int (nI y)), (2, .int (bI ao))] : List (Nat × Value))) e_5)) [2, 3, 4, 1, 0] rfl)
  exact L_5 (mi - 0 + 1) 0 (Nat.zero_le _) (Nat.lt_succ_self _) H locs hP hD hS ls (lv_sub hl [2, 3, 4, 1, 0] rfl)
set_option maxHeartbeats 4000000 in
set_option maxRecDepth 100000 in
theorem c_X5_layLeads (l : Launch) (D : va_G) (cI cJ cZ : ClassId) (z : Nat → Nat) (mn : Nat) (mi : Nat) (ms : Nat) (mtk : Nat) (mso : Nat → Nat) (mwh : Nat → Nat) (mfi : Nat → Nat) (mse : Nat → Nat) (mth : Nat → Nat) (mpu : Nat → Nat) (mno : Nat → Nat) (mlo : Nat → Nat) (mbe : Nat → Nat) (mre : Nat → Nat) (mis : Nat → Bool) (mca : Nat → Bool) (mpa : Nat → Nat) (mva : Nat → Nat) (mle : Nat → Nat) (mst : Nat → Bool) (mtn : Nat → Bool) (mln : Nat → Nat) (mne : Nat → Int32) (mgo : Nat → Int32) (hmn : mn ≤ 32) (hmi : mi ≤ 4) (hms : ms ≤ 6) (hso : ∀ j, j < mn → mso j ≤ 3) (hwk : ∀ j, j < mn → mso j = 2 → mwh j ≤ 4) (hg : ∀ j, j < mn → mso j = 2 → mfi j < j ∧ mse j < j ∧ mth j < j) (hwf : ∀ j, j < mn → mso j = 1 → mwh j ≤ 1) (hwi : ∀ j, j < mn → mso j = 0 → mwh j < mi) (hws : ∀ j, j < mn → mso j = 3 → mwh j < ms) (hre : ∀ i, i < ms → mre i < mn) : Ct l D cI cJ cZ yX5_layLeads wsX5_layLeads ({ frames := 2, cells := 0, slots := 0, locals := 46 } : Room) 0 0 [.ref (z 0)] (wM z cI cZ mn mi ms mtk mso mwh mfi mse mth mpu mno mlo mbe mre mis mca mpa mva mle mst mtn mln mne mgo) (S := (Nat → Nat) × (Nat → Nat)) (fun u => ∀ r, r < 2 ^ ms → ∀ y, y < 2 ^ mi → u.2 (16 * r + y) = toN mso mwh mfi mse mth mre mn ms r y) (fun u => none) (fun u => (wM z cI cZ mn mi ms mtk mso mwh mfi mse mth mpu mno mlo mbe mre mis mca mpa u.1 u.2 mst mtn mln mne mgo)) := by
  refine Ct.ofW (cc := cX5_layLeads) (maxL := 5) (ret := none) (R_C := RX5) (by decide +kernel) rfl rfl (Nat.le_of_ble_eq_true rfl) rfl ?_
  intro p e s m args below meth c A Q ls H locs hx hb hml hown hts hK hA hP hD hS hZ hl hri hrl hrv
  refine lv_iconst (v := nI 0) hx hb dX5_layLeads_0 (by decide) ?_
  refine lv_istore_n (lv' := [(1, .int (nI 0)), (0, .ref (z 0))]) hx hb dX5_layLeads_1 rfl hl (by decide) rfl (fun ls hl => ?_)
  have L_2 : ∀ (fuel : Nat) (r : Nat) (va : Nat → Nat) (lv : Nat → Nat) (hr : r ≤ 2 ^ ms) (hlv : ∀ r2, r2 < r → ∀ y2, y2 < 2 ^ mi → lv (16 * r2 + y2) = toN mso mwh mfi mse mth mre mn ms r2 y2) (hfu : 2 ^ ms - r < fuel) (H : Heap) (locs : List Loc), va_P D vwCl (wM z cI cZ mn mi ms mtk mso mwh mfi mse mth mpu mno mlo mbe mre mis mca mpa va lv mst mtn mln mne mgo) H → va_D A (wM z cI cZ mn mi ms mtk mso mwh mfi mse mth mpu mno mlo mbe mre mis mca mpa va lv mst mtn mln mne mgo) → va_S A s.heap H locs → ∀ ls : Array Slot, lv_has ls 5 [(0, .ref (z 0)), (1, .int (nI r))] → W p l e ({ frames := 2, cells := 0, slots := 0, locals := 46 } : Room) s m args below meth c H locs 0 0 Q (F0 m 2 ls []) := by
    intro fuel
    induction fuel with
    | zero => intro r va lv hr hlv hfu; exact absurd hfu (Nat.not_lt_zero _)
    | succ fuel ih_2 =>
      intro r va lv hr hlv hfu H locs hP hD hS ls hl
      refine lv_iload_n hx hb dX5_layLeads_2 rfl (lv_at hl 1 rfl) ?_
      have hp6 : 2 ^ ms ≤ 64 := Nat.pow_le_pow_right (by omega) hms
      have hp4 : 2 ^ mi ≤ 16 := Nat.pow_le_pow_right (n := 2) (by omega) (show mi ≤ 4 by omega)
      refine lv_iconst (v := nI 1) hx hb dX5_layLeads_3 (by decide) ?_
      refine lv_aload_n hx hb dX5_layLeads_4 rfl (lv_at hl 0 rfl) ?_
      refine va_get (D := D) (ci := 5) (v := .int (nI ms)) (C := RX5) (T := TX5) (N := 24) hx hb hts (fun w h => List.mem_cons_of_mem _ (List.mem_append_right _ h)) hown hK hP 0 rfl rfl 8 (by decide) (hts (.fieldLink RX5 85 "FirstStatesModel" "stores" "I") (List.mem_of_getElem? (i := 1) rfl)) (fun _ h9 => h9) rfl dX5_layLeads_5 ?_
      refine lv_ishl hx hb dX5_layLeads_8 ?_
      refine fx_eqi (y := nI (2 ^ ms)) (fx_shl1 (by first | omega | exact b_and1 _ | exact b_ct _ _ (by omega) | exact b_andr _ (by omega))) ?_
      refine lv_icmp_ge (tgt := 92) hx hb dX5_layLeads_9 (by decide) (fun c_9 => ?_) (fun c_9 => ?_)
      · have f_9 : 2 ^ ms ≤ r := (nI_leI (a := 2 ^ ms) (b := r) (by first | omega | exact b_and1 _ | exact b_ct _ _ (by omega) | exact b_andr _ (by omega)) (by first | omega | exact b_and1 _ | exact b_ct _ _ (by omega) | exact b_andr _ (by omega))).mp c_9
        exact hrv (va, lv) H locs 92 ls rfl (fun r2 hr2 y2 hy2 => hlv r2 (by omega) y2 hy2) rfl hP (fx_D hD rfl) hS dX5_layLeads_92
      have f_9 : ¬ 2 ^ ms ≤ r := fun h => c_9 ((nI_leI (a := 2 ^ ms) (b := r) (by first | omega | exact b_and1 _ | exact b_ct _ _ (by omega) | exact b_andr _ (by omega)) (by first | omega | exact b_and1 _ | exact b_ct _ _ (by omega) | exact b_andr _ (by omega))).mpr h)
      refine lv_iconst (v := nI 0) hx hb dX5_layLeads_12 (by decide) ?_
      refine lv_istore_n (lv' := [(2, .int (nI 0)), (0, .ref (z 0)), (1, .int (nI r))]) hx hb dX5_layLeads_13 rfl hl (by decide) rfl (fun ls hl => ?_)
      have L_14 : ∀ (fuel : Nat) (y : Nat) (vb : Nat → Nat) (lw : Nat → Nat) (hy : y ≤ 2 ^ mi) (hlw1 : ∀ r2, r2 < r → ∀ y2, y2 < 2 ^ mi → lw (16 * r2 + y2) = toN mso mwh mfi mse mth mre mn ms r2 y2) (hlw2 : ∀ y2, y2 < y → lw (16 * r + y2) = toN mso mwh mfi mse mth mre mn ms r y2) (hfu : 2 ^ mi - y < fuel) (H : Heap) (locs : List Loc), va_P D vwCl (wM z cI cZ mn mi ms mtk mso mwh mfi mse mth mpu mno mlo mbe mre mis mca mpa vb lw mst mtn mln mne mgo) H → va_D A (wM z cI cZ mn mi ms mtk mso mwh mfi mse mth mpu mno mlo mbe mre mis mca mpa vb lw mst mtn mln mne mgo) → va_S A s.heap H locs → ∀ ls : Array Slot, lv_has ls 5 [(0, .ref (z 0)), (1, .int (nI r)), (2, .int (nI y))] → W p l e ({ frames := 2, cells := 0, slots := 0, locals := 46 } : Room) s m args below meth c H locs 0 0 Q (F0 m 14 ls []) := by
        intro fuel
        induction fuel with
        | zero => intro y vb lw hy hlw1 hlw2 hfu; exact absurd hfu (Nat.not_lt_zero _)
        | succ fuel ih_14 =>
          intro y vb lw hy hlw1 hlw2 hfu H locs hP hD hS ls hl
          refine lv_iload_n hx hb dX5_layLeads_14 rfl (lv_at hl 2 rfl) ?_
          refine lv_iconst (v := nI 1) hx hb dX5_layLeads_15 (by decide) ?_
          refine lv_aload_n hx hb dX5_layLeads_16 rfl (lv_at hl 0 rfl) ?_
          refine va_get (D := D) (ci := 5) (v := .int (nI mi)) (C := RX5) (T := TX5) (N := 24) hx hb hts (fun w h => List.mem_cons_of_mem _ (List.mem_append_right _ h)) hown hK hP 0 rfl rfl 6 (by decide) (hts (.fieldLink RX5 88 "FirstStatesModel" "inputs" "I") (List.mem_of_getElem? (i := 2) rfl)) (fun _ h9 => h9) rfl dX5_layLeads_17 ?_
          refine lv_ishl hx hb dX5_layLeads_20 ?_
          refine fx_eqi (y := nI (2 ^ mi)) (fx_shl1 (by first | omega | exact b_and1 _ | exact b_ct _ _ (by omega) | exact b_andr _ (by omega))) ?_
          refine lv_icmp_ge (tgt := 86) hx hb dX5_layLeads_21 (by decide) (fun c_21 => ?_) (fun c_21 => ?_)
          · have f_21 : 2 ^ mi ≤ y := (nI_leI (a := 2 ^ mi) (b := y) (by first | omega | exact b_and1 _ | exact b_ct _ _ (by omega) | exact b_andr _ (by omega)) (by first | omega | exact b_and1 _ | exact b_ct _ _ (by omega) | exact b_andr _ (by omega))).mp c_21
            refine lv_iinc (v := nI (r + 1)) (lv' := [(1, .int (nI (r + 1))), (0, .ref (z 0)), (2, .int (nI y))]) hx hb dX5_layLeads_86 hl (k := 1) rfl (by exact nI_1 _) (by decide) rfl (fun ls hl => ?_)
            refine lv_goto (tgt := 2) hx hb dX5_layLeads_89 (by decide) ?_
            exact ih_2 (r + 1) vb lw (by first | assumption | omega) (fun r2 h2 y2 hy2 => by by_cases e : r2 = r; (subst e; exact hlw2 y2 (by omega)); exact hlw1 r2 (by omega) y2 hy2) (by omega) H locs hP hD hS ls (lv_sub hl [1, 0] rfl)
          have f_21 : ¬ 2 ^ mi ≤ y := fun h => c_21 ((nI_leI (a := 2 ^ mi) (b := y) (by first | omega | exact b_and1 _ | exact b_ct _ _ (by omega) | exact b_andr _ (by omega)) (by first | omega | exact b_and1 _ | exact b_ct _ _ (by omega) | exact b_andr _ (by omega))).mpr h)
          refine lv_aload_n hx hb dX5_layLeads_24 rfl (lv_at hl 0 rfl) ?_
          refine lv_iload_n hx hb dX5_layLeads_25 rfl (lv_at hl 1 rfl) ?_
          refine lv_iload_n hx hb dX5_layLeads_26 rfl (lv_at hl 2 rfl) ?_
          refine fx_callV (As := [.int (nI r), .int (nI y)]) (rest := []) ⟨hx, hb, hml, hown, hts⟩ (c_X5_work l D cI cJ cZ z mn mi ms mtk mso mwh mfi mse mth mpu mno mlo mbe mre mis mca mpa vb lw mst mtn mln mne mgo r y (by first | assumption | omega) (by first | assumption | omega) (by first | assumption | omega) (by first | assumption | omega) (by first | assumption | omega) (by first | assumption | omega) (by first | assumption | omega) (by first | assumption | omega) (by first | assumption | omega) (by first | assumption | omega) (by first | assumption | omega)) (cwV 2 hts gX5_layLeads_X5_work rfl rfl rfl kv_X5_work ⟨Nat.le_of_ble_eq_true rfl, Nat.le_of_ble_eq_true rfl⟩) hK hP hD hS hA hZ 0 rfl rfl rfl rfl hl.1 rfl (lv_room (Nat.le_of_ble_eq_true rfl)) dX5_layLeads_27 ⟨Nat.zero_le _, Nat.zero_le _⟩ (fun u_1 H locs hu_1 hP hD hS => ?_)
          have hP : va_P D vwCl (wM z cI cZ mn mi ms mtk mso mwh mfi mse mth mpu mno mlo mbe mre mis mca mpa (worT mso mwh mfi mse mth r y vb mn) lw mst mtn mln mne mgo) H := hP
          have hD : va_D A (wM z cI cZ mn mi ms mtk mso mwh mfi mse mth mpu mno mlo mbe mre mis mca mpa (worT mso mwh mfi mse mth r y vb mn) lw mst mtn mln mne mgo) := fx_D hD rfl
          refine lv_iconst (v := nI 0) hx hb dX5_layLeads_30 (by decide) ?_
          refine lv_istore_n (lv' := [(3, .int (nI 0)), (0, .ref (z 0)), (1, .int (nI r)), (2, .int (nI y))]) hx hb dX5_layLeads_31 rfl hl (by decide) rfl (fun ls hl => ?_)
          refine lv_iconst (v := nI 0) hx hb dX5_layLeads_32 (by decide) ?_
          refine lv_istore (lv' := [(4, .int (nI 0)), (3, .int (nI 0)), (0, .ref (z 0)), (1, .int (nI r)), (2, .int (nI y))]) hx hb dX5_layLeads_33 hl (by decide) rfl (fun ls hl => ?_)
          have L_35 : ∀ (fuel : Nat) (i : Nat) (hi : i ≤ ms) (hfu : ms - i < fuel) (H : Heap) (locs : List Loc), va_P D vwCl (wM z cI cZ mn mi ms mtk mso mwh mfi mse mth mpu mno mlo mbe mre mis mca mpa (worT mso mwh mfi mse mth r y vb mn) lw mst mtn mln mne mgo) H → va_D A (wM z cI cZ mn mi ms mtk mso mwh mfi mse mth mpu mno mlo mbe mre mis mca mpa (worT mso mwh mfi mse mth r y vb mn) lw mst mtn mln mne mgo) → va_S A s.heap H locs → ∀ ls : Array Slot, lv_has ls 5 [(0, .ref (z 0)), (1, .int (nI r)), (2, .int (nI y)), (3, .int (nI (toT (worT mso mwh mfi mse mth r y vb mn) mre i))), (4, .int (nI i))] → W p l e ({ frames := 2, cells := 0, slots := 0, locals := 46 } : Room) s m args below meth c H locs 0 0 Q (F0 m 35 ls []) := by
            intro fuel
            induction fuel with
            | zero => intro i hi hfu; exact absurd hfu (Nat.not_lt_zero _)
            | succ fuel ih_35 =>
              intro i hi hfu H locs hP hD hS ls hl
              refine lv_iload hx hb dX5_layLeads_35 (lv_at hl 4 rfl) ?_
              refine lv_aload_n hx hb dX5_layLeads_37 rfl (lv_at hl 0 rfl) ?_
              refine va_get (D := D) (ci := 5) (v := .int (nI ms)) (C := RX5) (T := TX5) (N := 24) hx hb hts (fun w h => List.mem_cons_of_mem _ (List.mem_append_right _ h)) hown hK hP 0 rfl rfl 8 (by decide) (hts (.fieldLink RX5 85 "FirstStatesModel" "stores" "I") (List.mem_of_getElem? (i := 1) rfl)) (fun _ h9 => h9) rfl dX5_layLeads_38 ?_
              refine lv_icmp_ge (tgt := 68) hx hb dX5_layLeads_41 (by decide) (fun c_41 => ?_) (fun c_41 => ?_)
              · have f_41 : ms ≤ i := (nI_leI (a := ms) (b := i) (by first | omega | exact b_and1 _ | exact b_ct _ _ (by omega) | exact b_andr _ (by omega)) (by first | omega | exact b_and1 _ | exact b_ct _ _ (by omega) | exact b_andr _ (by omega))).mp c_41
                have e_i : i = ms := by omega
                refine lv_aload_n hx hb dX5_layLeads_68 rfl (lv_at hl 0 rfl) ?_
                refine va_get (D := D) (ci := 5) (v := .ref (z 15)) (C := RX5) (T := TX5) (N := 24) hx hb hts (fun w h => List.mem_cons_of_mem _ (List.mem_append_right _ h)) hown hK hP 0 rfl rfl 18 (by decide) (hts (.fieldLink RX5 53 "FirstStatesModel" "leads" "[I") (List.mem_of_getElem? (i := 5) rfl)) (fun _ h9 => h9) rfl dX5_layLeads_69 ?_
                refine lv_bipush (v := nI 16) hx hb dX5_layLeads_72 (by decide) ?_
                refine lv_iload_n hx hb dX5_layLeads_74 rfl (lv_at hl 1 rfl) ?_
                refine lv_imul hx hb dX5_layLeads_75 ?_
                refine fx_eqi (pk_mul _ _) ?_
                refine lv_iload_n hx hb dX5_layLeads_76 rfl (lv_at hl 2 rfl) ?_
                refine lv_iadd hx hb dX5_layLeads_77 ?_
                refine fx_eqi (nI_add _ _) ?_
                refine lv_iload_n hx hb dX5_layLeads_78 rfl (lv_at hl 3 rfl) ?_
                refine fx_iast (ar := nI) hx hb hK hP hD hS 15 (f := lw) (k := ((16 * r) + y)) (v := (toT (worT mso mwh mfi mse mth r y vb mn) mre i)) rfl (by omega) (by decide) rfl dX5_layLeads_79 (fun H locs hP hD hS => ?_)
                have hP : va_P D vwCl (wM z cI cZ mn mi ms mtk mso mwh mfi mse mth mpu mno mlo mbe mre mis mca mpa (worT mso mwh mfi mse mth r y vb mn) (va_up lw ((16 * r) + y) (toT (worT mso mwh mfi mse mth r y vb mn) mre i)) mst mtn mln mne mgo) H := hP
                have hD : va_D A (wM z cI cZ mn mi ms mtk mso mwh mfi mse mth mpu mno mlo mbe mre mis mca mpa (worT mso mwh mfi mse mth r y vb mn) (va_up lw ((16 * r) + y) (toT (worT mso mwh mfi mse mth r y vb mn) mre i)) mst mtn mln mne mgo) := fx_D hD rfl
                refine lv_iinc (v := nI (y + 1)) (lv' := [(2, .int (nI (y + 1))), (0, .ref (z 0)), (1, .int (nI r)), (3, .int (nI (toT (worT mso mwh mfi mse mth r y vb mn) mre i))), (4, .int (nI i))]) hx hb dX5_layLeads_80 hl (k := 2) rfl (by exact nI_1 _) (by decide) rfl (fun ls hl => ?_)
                refine lv_goto (tgt := 14) hx hb dX5_layLeads_83 (by decide) ?_
                exact ih_14 (y + 1) (worT mso mwh mfi mse mth r y vb mn) (va_up lw ((16 * r) + y) (toT (worT mso mwh mfi mse mth r y vb mn) mre i)) (by first | assumption | omega) (fun r2 h2 y2 hy2 => by rw [xu_ne (by omega)]; exact hlw1 r2 h2 y2 hy2) (fun y2 hy2 => by by_cases e : y2 = y; (subst e; rw [xu_eq, e_i]; exact toT_can hg hre); rw [xu_ne (by omega)]; exact hlw2 y2 (by omega)) (by omega) H locs hP hD hS ls (lv_sub hl [1, 2, 0] rfl)
              have f_41 : ¬ ms ≤ i := fun h => c_41 ((nI_leI (a := ms) (b := i) (by first | omega | exact b_and1 _ | exact b_ct _ _ (by omega) | exact b_andr _ (by omega)) (by first | omega | exact b_and1 _ | exact b_ct _ _ (by omega) | exact b_andr _ (by omega))).mpr h)
              have hre1 := hre i (by omega)
              have wv := worT_le (row := r) (y := y) (f := vb) hg hwf (Nat.le_refl mn) _ hre1
              refine lv_iload_n hx hb dX5_layLeads_44 rfl (lv_at hl 3 rfl) ?_
              refine lv_aload_n hx hb dX5_layLeads_45 rfl (lv_at hl 0 rfl) ?_
              refine va_get (D := D) (ci := 5) (v := .ref (z 14)) (C := RX5) (T := TX5) (N := 24) hx hb hts (fun w h => List.mem_cons_of_mem _ (List.mem_append_right _ h)) hown hK hP 0 rfl rfl 17 (by decide) (hts (.fieldLink RX5 50 "FirstStatesModel" "value" "[I") (List.mem_of_getElem? (i := 3) rfl)) (fun _ h9 => h9) rfl dX5_layLeads_46 ?_
              refine lv_aload_n hx hb dX5_layLeads_49 rfl (lv_at hl 0 rfl) ?_
              refine va_get (D := D) (ci := 5) (v := .ref (z 10)) (C := RX5) (T := TX5) (N := 24) hx hb hts (fun w h => List.mem_cons_of_mem _ (List.mem_append_right _ h)) hown hK hP 0 rfl rfl 12 (by decide) (hts (.fieldLink RX5 37 "FirstStatesModel" "read" "[I") (List.mem_of_getElem? (i := 4) rfl)) (fun _ h9 => h9) rfl dX5_layLeads_50 ?_
              refine lv_iload hx hb dX5_layLeads_53 (lv_at hl 4 rfl) ?_
              refine fx_iald (ar := nI) hx hb hK hP 10 (f := mre) (k := i) rfl (by omega) (by decide) dX5_layLeads_55 ?_
              refine fx_iald (ar := nI) hx hb hK hP 14 (f := (worT mso mwh mfi mse mth r y vb mn)) (k := (mre i)) rfl (by omega) (by decide) dX5_layLeads_56 ?_
              refine lv_iload hx hb dX5_layLeads_57 (lv_at hl 4 rfl) ?_
              refine lv_ishl hx hb dX5_layLeads_59 ?_
              refine fx_eqi (y := nI (((worT mso mwh mfi mse mth r y vb mn) (mre i)) <<< i)) (fx_shl (by first | omega | exact b_and1 _ | exact b_ct _ _ (by omega) | exact b_andr _ (by omega))) ?_
              refine lv_ior hx hb dX5_layLeads_60 ?_
              refine fx_eqi (fx_orI _ _) ?_
              refine lv_istore_n (lv' := [(3, .int (nI ((toT (worT mso mwh mfi mse mth r y vb mn) mre i) ||| (((worT mso mwh mfi mse mth r y vb mn) (mre i)) <<< i)))), (0, .ref (z 0)), (1, .int (nI r)), (2, .int (nI y)), (4, .int (nI i))]) hx hb dX5_layLeads_61 rfl hl (by decide) rfl (fun ls hl => ?_)
              refine lv_iinc (v := nI (i + 1)) (lv' := [(4, .int (nI (i + 1))), (3, .int (nI ((toT (worT mso mwh mfi mse mth r y vb mn) mre i) ||| (((worT mso mwh mfi mse mth r y vb mn) (mre i)) <<< i)))), (0, .ref (z 0)), (1, .int (nI r)), (2, .int (nI y))]) hx hb dX5_layLeads_62 hl (k := 4) rfl (by exact nI_1 _) (by decide) rfl (fun ls hl => ?_)
              refine lv_goto (tgt := 35) hx hb dX5_layLeads_65 (by decide) ?_
              have e_2 : nI ((toT (worT mso mwh mfi mse mth r y vb mn) mre i) ||| (((worT mso mwh mfi mse mth r y vb mn) (mre i)) <<< i)) = nI (toT (worT mso mwh mfi mse mth r y vb mn) mre (i + 1)) := by first | rfl | (rfl)
              exact ih_35 (i + 1) (by first | assumption | omega) (by omega) H locs hP hD hS ls (lv_sub (fx_hl (l' := [(4, .int (nI (i + 1))), (3, .int (nI (toT (worT mso mwh mfi mse mth r y vb mn) mre (i + 1)))), (0, .ref (z 0)), (1, .int (nI r)), (2, .int (nI y))]) hl (congrArg (fun w9 : Int32 => ([(4, .int (nI (i + 1))), (3, .int w9), (0, .ref (z 0)), (1, .int (nI r)), (2, .int (nI y))] : List (Nat × Value))) e_2)) [2, 3, 4, 1, 0] rfl)
          have e_3 : nI 0 = nI (toT (worT mso mwh mfi mse mth r y vb mn) mre 0) := by first | rfl | (rfl)
          exact L_35 (ms - 0 + 1) 0 (Nat.zero_le _) (Nat.lt_succ_self _) H locs hP hD hS ls (lv_sub (fx_hl (l' := [(4, .int (nI 0)), (3, .int (nI (toT (worT mso mwh mfi mse mth r y vb mn) mre 0))), (0, .ref (z 0)), (1, .int (nI r)), (2, .int (nI y))]) hl (congrArg (fun w9 : Int32 => ([(4, .int (nI 0)), (3, .int w9), (0, .ref (z 0)), (1, .int (nI r)), (2, .int (nI y))] : List (Nat × Value))) e_3)) [2, 3, 4, 1, 0] rfl)
      exact L_14 (2 ^ mi - 0 + 1) 0 va lv (Nat.zero_le _) hlv (fun y2 h => absurd h (Nat.not_lt_zero _)) (Nat.lt_succ_self _) H locs hP hD hS ls (lv_sub hl [1, 2, 0] rfl)
  exact L_2 (2 ^ ms - 0 + 1) 0 mva mle (Nat.zero_le _) (fun r2 h => absurd h (Nat.not_lt_zero _)) (Nat.lt_succ_self _) H locs hP hD hS ls (lv_sub hl [1, 0] rfl)
