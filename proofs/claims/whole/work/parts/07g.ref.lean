/-! Contracts of the reference. -/
set_option maxHeartbeats 4000000 in
set_option maxRecDepth 100000 in
theorem c_X5_layLeans (l : Launch) (D : va_G) (cI cJ cZ : ClassId) (z : Nat → Nat) (mn : Nat) (mi : Nat) (ms : Nat) (mtk : Nat) (mso : Nat → Nat) (mwh : Nat → Nat) (mfi : Nat → Nat) (mse : Nat → Nat) (mth : Nat → Nat) (mpu : Nat → Nat) (mno : Nat → Nat) (mlo : Nat → Nat) (mbe : Nat → Nat) (mre : Nat → Nat) (mis : Nat → Bool) (mca : Nat → Bool) (mpa : Nat → Nat) (mva : Nat → Nat) (mle : Nat → Nat) (mst : Nat → Bool) (mtn : Nat → Bool) (mln : Nat → Nat) (mne : Nat → Int32) (mgo : Nat → Int32) (hmn : mn ≤ 32) (hso : ∀ j, j < mn → mso j ≤ 3) (hg : ∀ j, j < mn → mso j = 2 → mfi j < j ∧ mse j < j ∧ mth j < j) (hws : ∀ j, j < mn → mso j = 3 → mwh j < 6) : Ct l D cI cJ cZ yX5_layLeans wsX5_layLeans ({ frames := 0, cells := 0, slots := 0, locals := 0 } : Room) 0 0 [.ref (z 0)] (wM z cI cZ mn mi ms mtk mso mwh mfi mse mth mpu mno mlo mbe mre mis mca mpa mva mle mst mtn mln mne mgo) (S := Unit) (fun u => True) (fun u => none) (fun u => (wM z cI cZ mn mi ms mtk mso mwh mfi mse mth mpu mno mlo mbe mre mis mca mpa mva mle mst mtn (srcT mso mfi mse mth mwh mln mn) mne mgo)) := by
  refine Ct.ofW (cc := cX5_layLeans) (maxL := 2) (ret := none) (R_C := RX5) (by decide +kernel) rfl rfl (Nat.le_of_ble_eq_true rfl) rfl ?_
  intro p e s m args below meth c A Q ls H locs hx hb hml hown hts hK hA hP hD hS hZ hl hri hrl hrv
  refine lv_iconst (v := nI 0) hx hb dX5_layLeans_0 (by decide) ?_
  refine lv_istore_n (lv' := [(1, .int (nI 0)), (0, .ref (z 0))]) hx hb dX5_layLeans_1 rfl hl (by decide) rfl (fun ls hl => ?_)
  have L_2 : ∀ (fuel : Nat) (i : Nat) (hi : i ≤ mn) (hfu : mn - i < fuel) (H : Heap) (locs : List Loc), va_P D vwCl (wM z cI cZ mn mi ms mtk mso mwh mfi mse mth mpu mno mlo mbe mre mis mca mpa mva mle mst mtn (srcT mso mfi mse mth mwh mln i) mne mgo) H → va_D A (wM z cI cZ mn mi ms mtk mso mwh mfi mse mth mpu mno mlo mbe mre mis mca mpa mva mle mst mtn (srcT mso mfi mse mth mwh mln i) mne mgo) → va_S A s.heap H locs → ∀ ls : Array Slot, lv_has ls 2 [(0, .ref (z 0)), (1, .int (nI i))] → W p l e ({ frames := 0, cells := 0, slots := 0, locals := 0 } : Room) s m args below meth c H locs 0 0 Q (F0 m 2 ls []) := by
    intro fuel
    induction fuel with
    | zero => intro i hi hfu; exact absurd hfu (Nat.not_lt_zero _)
    | succ fuel ih_2 =>
      intro i hi hfu H locs hP hD hS ls hl
      refine lv_iload_n hx hb dX5_layLeans_2 rfl (lv_at hl 1 rfl) ?_
      refine lv_aload_n hx hb dX5_layLeans_3 rfl (lv_at hl 0 rfl) ?_
      refine va_get (D := D) (ci := 5) (v := .int (nI mn)) (C := RX5) (T := TX5) (N := 24) hx hb hts (fun w h => List.mem_cons_of_mem _ (List.mem_append_right _ h)) hown hK hP 0 rfl rfl 0 (by decide) (hts (.fieldLink RX5 74 "FirstStatesModel" "nodes" "I") (List.mem_of_getElem? (i := 1) rfl)) (fun _ h9 => h9) rfl dX5_layLeans_4 ?_
      refine lv_icmp_ge (tgt := 92) hx hb dX5_layLeans_7 (by decide) (fun c_7 => ?_) (fun c_7 => ?_)
      · have f_7 : mn ≤ i := (nI_leI (a := mn) (b := i) (by first | omega | exact b_and1 _ | exact b_ct _ _ (by omega) | exact b_andr _ (by omega)) (by first | omega | exact b_and1 _ | exact b_ct _ _ (by omega) | exact b_andr _ (by omega))).mp c_7
        have e_1 : srcT mso mfi mse mth mwh mln i = srcT mso mfi mse mth mwh mln mn := by first | rfl | (rw [show mn = i by omega])
        exact hrv () H locs 92 ls rfl trivial rfl (fx_Pe (w' := (wM z cI cZ mn mi ms mtk mso mwh mfi mse mth mpu mno mlo mbe mre mis mca mpa mva mle mst mtn (srcT mso mfi mse mth mwh mln mn) mne mgo)) hP (congrArg (fun w9 : Nat → Nat => (wM z cI cZ mn mi ms mtk mso mwh mfi mse mth mpu mno mlo mbe mre mis mca mpa mva mle mst mtn w9 mne mgo)) e_1)) (fx_D hD rfl) hS dX5_layLeans_92
      have f_7 : ¬ mn ≤ i := fun h => c_7 ((nI_leI (a := mn) (b := i) (by first | omega | exact b_and1 _ | exact b_ct _ _ (by omega) | exact b_andr _ (by omega)) (by first | omega | exact b_and1 _ | exact b_ct _ _ (by omega) | exact b_andr _ (by omega))).mpr h)
      have hso1 := hso i (by omega)
      refine lv_aload_n hx hb dX5_layLeans_10 rfl (lv_at hl 0 rfl) ?_
      refine va_get (D := D) (ci := 5) (v := .ref (z 18)) (C := RX5) (T := TX5) (N := 24) hx hb hts (fun w h => List.mem_cons_of_mem _ (List.mem_append_right _ h)) hown hK hP 0 rfl rfl 21 (by decide) (hts (.fieldLink RX5 62 "FirstStatesModel" "leans" "[I") (List.mem_of_getElem? (i := 2) rfl)) (fun _ h9 => h9) rfl dX5_layLeans_11 ?_
      refine lv_iload_n hx hb dX5_layLeans_14 rfl (lv_at hl 1 rfl) ?_
      refine lv_aload_n hx hb dX5_layLeans_15 rfl (lv_at hl 0 rfl) ?_
      refine va_get (D := D) (ci := 5) (v := .ref (z 1)) (C := RX5) (T := TX5) (N := 24) hx hb hts (fun w h => List.mem_cons_of_mem _ (List.mem_append_right _ h)) hown hK hP 0 rfl rfl 1 (by decide) (hts (.fieldLink RX5 7 "FirstStatesModel" "sort" "[I") (List.mem_of_getElem? (i := 3) rfl)) (fun _ h9 => h9) rfl dX5_layLeans_16 ?_
      refine lv_iload_n hx hb dX5_layLeans_19 rfl (lv_at hl 1 rfl) ?_
      refine fx_iald (ar := nI) hx hb hK hP 1 (f := mso) (k := i) rfl (by omega) (by decide) dX5_layLeans_20 ?_
      refine lv_iconst (v := nI 3) hx hb dX5_layLeans_21 (by decide) ?_
      refine lv_icmp_ne (tgt := 36) hx hb dX5_layLeans_22 (by decide) (fun c_22 => ?_) (fun c_22 => ?_)
      · have f_22 : ¬ mso i = 3 := fun h => c_22 ((nI_eq (a := mso i) (b := 3) (by first | omega | exact b_and1 _ | exact b_ct _ _ (by omega) | exact b_andr _ (by omega)) (by first | omega | exact b_and1 _ | exact b_ct _ _ (by omega) | exact b_andr _ (by omega))).mpr h)
        refine lv_aload_n hx hb dX5_layLeans_36 rfl (lv_at hl 0 rfl) ?_
        refine va_get (D := D) (ci := 5) (v := .ref (z 1)) (C := RX5) (T := TX5) (N := 24) hx hb hts (fun w h => List.mem_cons_of_mem _ (List.mem_append_right _ h)) hown hK hP 0 rfl rfl 1 (by decide) (hts (.fieldLink RX5 7 "FirstStatesModel" "sort" "[I") (List.mem_of_getElem? (i := 3) rfl)) (fun _ h9 => h9) rfl dX5_layLeans_37 ?_
        refine lv_iload_n hx hb dX5_layLeans_40 rfl (lv_at hl 1 rfl) ?_
        refine fx_iald (ar := nI) hx hb hK hP 1 (f := mso) (k := i) rfl (by omega) (by decide) dX5_layLeans_41 ?_
        refine lv_iconst (v := nI 2) hx hb dX5_layLeans_42 (by decide) ?_
        refine lv_icmp_ne (tgt := 84) hx hb dX5_layLeans_43 (by decide) (fun c_43 => ?_) (fun c_43 => ?_)
        · have f_43 : ¬ mso i = 2 := fun h => c_43 ((nI_eq (a := mso i) (b := 2) (by first | omega | exact b_and1 _ | exact b_ct _ _ (by omega) | exact b_andr _ (by omega)) (by first | omega | exact b_and1 _ | exact b_ct _ _ (by omega) | exact b_andr _ (by omega))).mpr h)
          refine lv_iconst (v := nI 0) hx hb dX5_layLeans_84 (by decide) ?_
          refine fx_iast (ar := nI) hx hb hK hP hD hS 18 (f := (srcT mso mfi mse mth mwh mln i)) (k := i) (v := 0) rfl (by omega) (by decide) rfl dX5_layLeans_85 (fun H locs hP hD hS => ?_)
          have hP : va_P D vwCl (wM z cI cZ mn mi ms mtk mso mwh mfi mse mth mpu mno mlo mbe mre mis mca mpa mva mle mst mtn (va_up (srcT mso mfi mse mth mwh mln i) i 0) mne mgo) H := hP
          have hD : va_D A (wM z cI cZ mn mi ms mtk mso mwh mfi mse mth mpu mno mlo mbe mre mis mca mpa mva mle mst mtn (va_up (srcT mso mfi mse mth mwh mln i) i 0) mne mgo) := fx_D hD rfl
          refine lv_iinc (v := nI (i + 1)) (lv' := [(1, .int (nI (i + 1))), (0, .ref (z 0))]) hx hb dX5_layLeans_86 hl (k := 1) rfl (by exact nI_1 _) (by decide) rfl (fun ls hl => ?_)
          refine lv_goto (tgt := 2) hx hb dX5_layLeans_89 (by decide) ?_
          have e_2 : va_up (srcT mso mfi mse mth mwh mln i) i 0 = srcT mso mfi mse mth mwh mln (i + 1) := by first | rfl | (simp [srcT, f_22, f_43])
          exact ih_2 (i + 1) (by first | assumption | omega) (by omega) H locs (fx_Pe (w' := (wM z cI cZ mn mi ms mtk mso mwh mfi mse mth mpu mno mlo mbe mre mis mca mpa mva mle mst mtn (srcT mso mfi mse mth mwh mln (i + 1)) mne mgo)) hP (congrArg (fun w9 : Nat → Nat => (wM z cI cZ mn mi ms mtk mso mwh mfi mse mth mpu mno mlo mbe mre mis mca mpa mva mle mst mtn w9 mne mgo)) e_2)) (fx_D hD rfl) hS ls (lv_sub hl [1, 0] rfl)
        have f_43 : mso i = 2 := (nI_eq (a := mso i) (b := 2) (by first | omega | exact b_and1 _ | exact b_ct _ _ (by omega) | exact b_andr _ (by omega)) (by first | omega | exact b_and1 _ | exact b_ct _ _ (by omega) | exact b_andr _ (by omega))).mp c_43
        have hg1 := hg i (by omega) f_43
        refine lv_aload_n hx hb dX5_layLeans_46 rfl (lv_at hl 0 rfl) ?_
        refine va_get (D := D) (ci := 5) (v := .ref (z 18)) (C := RX5) (T := TX5) (N := 24) hx hb hts (fun w h => List.mem_cons_of_mem _ (List.mem_append_right _ h)) hown hK hP 0 rfl rfl 21 (by decide) (hts (.fieldLink RX5 62 "FirstStatesModel" "leans" "[I") (List.mem_of_getElem? (i := 2) rfl)) (fun _ h9 => h9) rfl dX5_layLeans_47 ?_
        refine lv_aload_n hx hb dX5_layLeans_50 rfl (lv_at hl 0 rfl) ?_
        refine va_get (D := D) (ci := 5) (v := .ref (z 3)) (C := RX5) (T := TX5) (N := 24) hx hb hts (fun w h => List.mem_cons_of_mem _ (List.mem_append_right _ h)) hown hK hP 0 rfl rfl 3 (by decide) (hts (.fieldLink RX5 16 "FirstStatesModel" "first" "[I") (List.mem_of_getElem? (i := 5) rfl)) (fun _ h9 => h9) rfl dX5_layLeans_51 ?_
        refine lv_iload_n hx hb dX5_layLeans_54 rfl (lv_at hl 1 rfl) ?_
        refine fx_iald (ar := nI) hx hb hK hP 3 (f := mfi) (k := i) rfl (by omega) (by decide) dX5_layLeans_55 ?_
        refine fx_iald (ar := nI) hx hb hK hP 18 (f := (srcT mso mfi mse mth mwh mln i)) (k := (mfi i)) rfl (by omega) (by decide) dX5_layLeans_56 ?_
        refine lv_aload_n hx hb dX5_layLeans_57 rfl (lv_at hl 0 rfl) ?_
        refine va_get (D := D) (ci := 5) (v := .ref (z 18)) (C := RX5) (T := TX5) (N := 24) hx hb hts (fun w h => List.mem_cons_of_mem _ (List.mem_append_right _ h)) hown hK hP 0 rfl rfl 21 (by decide) (hts (.fieldLink RX5 62 "FirstStatesModel" "leans" "[I") (List.mem_of_getElem? (i := 2) rfl)) (fun _ h9 => h9) rfl dX5_layLeans_58 ?_
        refine lv_aload_n hx hb dX5_layLeans_61 rfl (lv_at hl 0 rfl) ?_
        refine va_get (D := D) (ci := 5) (v := .ref (z 4)) (C := RX5) (T := TX5) (N := 24) hx hb hts (fun w h => List.mem_cons_of_mem _ (List.mem_append_right _ h)) hown hK hP 0 rfl rfl 4 (by decide) (hts (.fieldLink RX5 19 "FirstStatesModel" "second" "[I") (List.mem_of_getElem? (i := 6) rfl)) (fun _ h9 => h9) rfl dX5_layLeans_62 ?_
        refine lv_iload_n hx hb dX5_layLeans_65 rfl (lv_at hl 1 rfl) ?_
        refine fx_iald (ar := nI) hx hb hK hP 4 (f := mse) (k := i) rfl (by omega) (by decide) dX5_layLeans_66 ?_
        refine fx_iald (ar := nI) hx hb hK hP 18 (f := (srcT mso mfi mse mth mwh mln i)) (k := (mse i)) rfl (by omega) (by decide) dX5_layLeans_67 ?_
        refine lv_ior hx hb dX5_layLeans_68 ?_
        refine fx_eqi (fx_orI _ _) ?_
        refine lv_aload_n hx hb dX5_layLeans_69 rfl (lv_at hl 0 rfl) ?_
        refine va_get (D := D) (ci := 5) (v := .ref (z 18)) (C := RX5) (T := TX5) (N := 24) hx hb hts (fun w h => List.mem_cons_of_mem _ (List.mem_append_right _ h)) hown hK hP 0 rfl rfl 21 (by decide) (hts (.fieldLink RX5 62 "FirstStatesModel" "leans" "[I") (List.mem_of_getElem? (i := 2) rfl)) (fun _ h9 => h9) rfl dX5_layLeans_70 ?_
        refine lv_aload_n hx hb dX5_layLeans_73 rfl (lv_at hl 0 rfl) ?_
        refine va_get (D := D) (ci := 5) (v := .ref (z 5)) (C := RX5) (T := TX5) (N := 24) hx hb hts (fun w h => List.mem_cons_of_mem _ (List.mem_append_right _ h)) hown hK hP 0 rfl rfl 5 (by decide) (hts (.fieldLink RX5 22 "FirstStatesModel" "third" "[I") (List.mem_of_getElem? (i := 7) rfl)) (fun _ h9 => h9) rfl dX5_layLeans_74 ?_
        refine lv_iload_n hx hb dX5_layLeans_77 rfl (lv_at hl 1 rfl) ?_
        refine fx_iald (ar := nI) hx hb hK hP 5 (f := mth) (k := i) rfl (by omega) (by decide) dX5_layLeans_78 ?_
        refine fx_iald (ar := nI) hx hb hK hP 18 (f := (srcT mso mfi mse mth mwh mln i)) (k := (mth i)) rfl (by omega) (by decide) dX5_layLeans_79 ?_
        refine lv_ior hx hb dX5_layLeans_80 ?_
        refine fx_eqi (fx_orI _ _) ?_
        refine lv_goto (tgt := 85) hx hb dX5_layLeans_81 (by decide) ?_
        refine fx_iast (ar := nI) hx hb hK hP hD hS 18 (f := (srcT mso mfi mse mth mwh mln i)) (k := i) (v := ((((srcT mso mfi mse mth mwh mln i) (mfi i)) ||| ((srcT mso mfi mse mth mwh mln i) (mse i))) ||| ((srcT mso mfi mse mth mwh mln i) (mth i)))) rfl (by omega) (by decide) rfl dX5_layLeans_85 (fun H locs hP hD hS => ?_)
        have hP : va_P D vwCl (wM z cI cZ mn mi ms mtk mso mwh mfi mse mth mpu mno mlo mbe mre mis mca mpa mva mle mst mtn (va_up (srcT mso mfi mse mth mwh mln i) i ((((srcT mso mfi mse mth mwh mln i) (mfi i)) ||| ((srcT mso mfi mse mth mwh mln i) (mse i))) ||| ((srcT mso mfi mse mth mwh mln i) (mth i)))) mne mgo) H := hP
        have hD : va_D A (wM z cI cZ mn mi ms mtk mso mwh mfi mse mth mpu mno mlo mbe mre mis mca mpa mva mle mst mtn (va_up (srcT mso mfi mse mth mwh mln i) i ((((srcT mso mfi mse mth mwh mln i) (mfi i)) ||| ((srcT mso mfi mse mth mwh mln i) (mse i))) ||| ((srcT mso mfi mse mth mwh mln i) (mth i)))) mne mgo) := fx_D hD rfl
        refine lv_iinc (v := nI (i + 1)) (lv' := [(1, .int (nI (i + 1))), (0, .ref (z 0))]) hx hb dX5_layLeans_86 hl (k := 1) rfl (by exact nI_1 _) (by decide) rfl (fun ls hl => ?_)
        refine lv_goto (tgt := 2) hx hb dX5_layLeans_89 (by decide) ?_
        have e_3 : va_up (srcT mso mfi mse mth mwh mln i) i ((((srcT mso mfi mse mth mwh mln i) (mfi i)) ||| ((srcT mso mfi mse mth mwh mln i) (mse i))) ||| ((srcT mso mfi mse mth mwh mln i) (mth i))) = srcT mso mfi mse mth mwh mln (i + 1) := by first | rfl | (simp [srcT, f_22, f_43])
        exact ih_2 (i + 1) (by first | assumption | omega) (by omega) H locs (fx_Pe (w' := (wM z cI cZ mn mi ms mtk mso mwh mfi mse mth mpu mno mlo mbe mre mis mca mpa mva mle mst mtn (srcT mso mfi mse mth mwh mln (i + 1)) mne mgo)) hP (congrArg (fun w9 : Nat → Nat => (wM z cI cZ mn mi ms mtk mso mwh mfi mse mth mpu mno mlo mbe mre mis mca mpa mva mle mst mtn w9 mne mgo)) e_3)) (fx_D hD rfl) hS ls (lv_sub hl [1, 0] rfl)
      have f_22 : mso i = 3 := (nI_eq (a := mso i) (b := 3) (by first | omega | exact b_and1 _ | exact b_ct _ _ (by omega) | exact b_andr _ (by omega)) (by first | omega | exact b_and1 _ | exact b_ct _ _ (by omega) | exact b_andr _ (by omega))).mp c_22
      have hws1 := hws i (by omega) f_22
      refine lv_iconst (v := nI 1) hx hb dX5_layLeans_25 (by decide) ?_
      refine lv_aload_n hx hb dX5_layLeans_26 rfl (lv_at hl 0 rfl) ?_
      refine va_get (D := D) (ci := 5) (v := .ref (z 2)) (C := RX5) (T := TX5) (N := 24) hx hb hts (fun w h => List.mem_cons_of_mem _ (List.mem_append_right _ h)) hown hK hP 0 rfl rfl 2 (by decide) (hts (.fieldLink RX5 13 "FirstStatesModel" "which" "[I") (List.mem_of_getElem? (i := 4) rfl)) (fun _ h9 => h9) rfl dX5_layLeans_27 ?_
      refine lv_iload_n hx hb dX5_layLeans_30 rfl (lv_at hl 1 rfl) ?_
      refine fx_iald (ar := nI) hx hb hK hP 2 (f := mwh) (k := i) rfl (by omega) (by decide) dX5_layLeans_31 ?_
      refine lv_ishl hx hb dX5_layLeans_32 ?_
      refine fx_eqi (y := nI (2 ^ (mwh i))) (fx_shl1 (by first | omega | exact b_and1 _ | exact b_ct _ _ (by omega) | exact b_andr _ (by omega))) ?_
      refine lv_goto (tgt := 85) hx hb dX5_layLeans_33 (by decide) ?_
      refine fx_iast (ar := nI) hx hb hK hP hD hS 18 (f := (srcT mso mfi mse mth mwh mln i)) (k := i) (v := (2 ^ (mwh i))) rfl (by omega) (by decide) rfl dX5_layLeans_85 (fun H locs hP hD hS => ?_)
      have hP : va_P D vwCl (wM z cI cZ mn mi ms mtk mso mwh mfi mse mth mpu mno mlo mbe mre mis mca mpa mva mle mst mtn (va_up (srcT mso mfi mse mth mwh mln i) i (2 ^ (mwh i))) mne mgo) H := hP
      have hD : va_D A (wM z cI cZ mn mi ms mtk mso mwh mfi mse mth mpu mno mlo mbe mre mis mca mpa mva mle mst mtn (va_up (srcT mso mfi mse mth mwh mln i) i (2 ^ (mwh i))) mne mgo) := fx_D hD rfl
      refine lv_iinc (v := nI (i + 1)) (lv' := [(1, .int (nI (i + 1))), (0, .ref (z 0))]) hx hb dX5_layLeans_86 hl (k := 1) rfl (by exact nI_1 _) (by decide) rfl (fun ls hl => ?_)
      refine lv_goto (tgt := 2) hx hb dX5_layLeans_89 (by decide) ?_
      have e_4 : va_up (srcT mso mfi mse mth mwh mln i) i (2 ^ (mwh i)) = srcT mso mfi mse mth mwh mln (i + 1) := by first | rfl | (simp [srcT, f_22])
      exact ih_2 (i + 1) (by first | assumption | omega) (by omega) H locs (fx_Pe (w' := (wM z cI cZ mn mi ms mtk mso mwh mfi mse mth mpu mno mlo mbe mre mis mca mpa mva mle mst mtn (srcT mso mfi mse mth mwh mln (i + 1)) mne mgo)) hP (congrArg (fun w9 : Nat → Nat => (wM z cI cZ mn mi ms mtk mso mwh mfi mse mth mpu mno mlo mbe mre mis mca mpa mva mle mst mtn w9 mne mgo)) e_4)) (fx_D hD rfl) hS ls (lv_sub hl [1, 0] rfl)
  exact L_2 (mn - 0 + 1) 0 (Nat.zero_le _) (Nat.lt_succ_self _) H locs hP (fx_D hD rfl) hS ls (lv_sub hl [1, 0] rfl)
set_option maxHeartbeats 4000000 in
set_option maxRecDepth 100000 in
theorem c_X5_depends_u (l : Launch) (D : va_G) (cI cJ cZ : ClassId) (z : Nat → Nat) (mn : Nat) (mi : Nat) (ms : Nat) (mtk : Nat) (mso : Nat → Nat) (mwh : Nat → Nat) (mfi : Nat → Nat) (mse : Nat → Nat) (mth : Nat → Nat) (mpu : Nat → Nat) (mno : Nat → Nat) (mlo : Nat → Nat) (mbe : Nat → Nat) (mre : Nat → Nat) (mis : Nat → Bool) (mca : Nat → Bool) (mpa : Nat → Nat) (mva : Nat → Nat) (mle : Nat → Nat) (mst : Nat → Bool) (mtn : Nat → Bool) (mln : Nat → Nat) (mne : Nat → Int32) (mgo : Nat → Int32) (x : Int32) (y : Int32) (hmn : mn ≤ 32) (hu : (isN mn x && isN mn y) = false) : Ct l D cI cJ cZ yX5_depends wsX5_depends ({ frames := 2, cells := 0, slots := 0, locals := 43 } : Room) 0 0 [.ref (z 0), .int x, .int y] (wM z cI cZ mn mi ms mtk mso mwh mfi mse mth mpu mno mlo mbe mre mis mca mpa mva mle mst mtn mln mne mgo) (S := Unit) (fun u => True) (fun u => some (.int (-1))) (fun u => (wM z cI cZ mn mi ms mtk mso mwh mfi mse mth mpu mno mlo mbe mre mis mca mpa mva mle mst mtn mln mne mgo)) := by
  refine Ct.ofW (cc := cX5_depends) (maxL := 3) (ret := (some .int)) (R_C := RX5) (by decide +kernel) rfl rfl (Nat.le_of_ble_eq_true rfl) rfl ?_
  intro p e s m args below meth c A Q ls H locs hx hb hml hown hts hK hA hP hD hS hZ hl hri hrl hrv
  refine lv_aload_n hx hb dX5_depends_0 rfl (lv_at hl 0 rfl) ?_
  refine lv_iload_n hx hb dX5_depends_1 rfl (lv_at hl 1 rfl) ?_
  refine fx_callV (As := [.int x]) (rest := []) ⟨hx, hb, hml, hown, hts⟩ (c_X5_isNode l D cI cJ cZ z mn mi ms mtk mso mwh mfi mse mth mpu mno mlo mbe mre mis mca mpa mva mle mst mtn mln mne mgo x (by first | assumption | omega)) (cwV 1 hts gX5_depends_X5_isNode rfl rfl rfl kv_X5_isNode ⟨Nat.le_of_ble_eq_true rfl, Nat.le_of_ble_eq_true rfl⟩) hK hP hD hS hA hZ 0 rfl rfl rfl rfl hl.1 rfl (lv_room (Nat.le_of_ble_eq_true rfl)) dX5_depends_2 ⟨Nat.zero_le _, Nat.zero_le _⟩ (fun u_1 H locs hu_1 hP hD hS => ?_)
  refine lv_if_eq (tgt := 16) hx hb dX5_depends_5 (by decide) (fun c_5 => ?_) (fun c_5 => ?_)
  · have f_5 : (isN mn x) = false := bI_0.mp c_5
    refine lv_iconst (v := (-1)) hx hb dX5_depends_16 (by decide) ?_
    exact hri () _ H locs 17 ls .int rfl rfl trivial rfl hP hD hS dX5_depends_17
  have f_5 : (isN mn x) = true := bI_n0.mp c_5
  refine lv_aload_n hx hb dX5_depends_8 rfl (lv_at hl 0 rfl) ?_
  refine lv_iload_n hx hb dX5_depends_9 rfl (lv_at hl 2 rfl) ?_
  refine fx_callV (As := [.int y]) (rest := []) ⟨hx, hb, hml, hown, hts⟩ (c_X5_isNode l D cI cJ cZ z mn mi ms mtk mso mwh mfi mse mth mpu mno mlo mbe mre mis mca mpa mva mle mst mtn mln mne mgo y (by first | assumption | omega)) (cwV 1 hts gX5_depends_X5_isNode rfl rfl rfl kv_X5_isNode ⟨Nat.le_of_ble_eq_true rfl, Nat.le_of_ble_eq_true rfl⟩) hK hP hD hS hA hZ 0 rfl rfl rfl rfl hl.1 rfl (lv_room (Nat.le_of_ble_eq_true rfl)) dX5_depends_10 ⟨Nat.zero_le _, Nat.zero_le _⟩ (fun u_2 H locs hu_2 hP hD hS => ?_)
  refine lv_if_ne (tgt := 18) hx hb dX5_depends_13 (by decide) (fun c_13 => ?_) (fun c_13 => ?_)
  · have f_13 : (isN mn y) = true := bI_n0.mp c_13
    exfalso; simp [f_5, f_13] at hu
  have f_13 : (isN mn y) = false := bI_0.mp c_13
  refine lv_iconst (v := (-1)) hx hb dX5_depends_16 (by decide) ?_
  exact hri () _ H locs 17 ls .int rfl rfl trivial rfl hP hD hS dX5_depends_17
set_option maxHeartbeats 4000000 in
set_option maxRecDepth 100000 in
theorem c_X5_depends_s (l : Launch) (D : va_G) (cI cJ cZ : ClassId) (z : Nat → Nat) (mn : Nat) (mi : Nat) (ms : Nat) (mtk : Nat) (mso : Nat → Nat) (mwh : Nat → Nat) (mfi : Nat → Nat) (mse : Nat → Nat) (mth : Nat → Nat) (mpu : Nat → Nat) (mno : Nat → Nat) (mlo : Nat → Nat) (mbe : Nat → Nat) (mre : Nat → Nat) (mis : Nat → Bool) (mca : Nat → Bool) (mpa : Nat → Nat) (mva : Nat → Nat) (mle : Nat → Nat) (mst : Nat → Bool) (mtn : Nat → Bool) (mln : Nat → Nat) (mne : Nat → Int32) (mgo : Nat → Int32) (k : Nat) (n : Nat) (hmn : mn ≤ 32) (hk : k < mn) (hn : n < mn) (hso1 : mso k ≤ 3) (hso2 : mso n ≤ 3) (h3 : ¬ (mso k = 3 ∧ mso n = 3)) : Ct l D cI cJ cZ yX5_depends wsX5_depends ({ frames := 2, cells := 0, slots := 0, locals := 43 } : Room) 0 0 [.ref (z 0), .int (nI k), .int (nI n)] (wM z cI cZ mn mi ms mtk mso mwh mfi mse mth mpu mno mlo mbe mre mis mca mpa mva mle mst mtn mln mne mgo) (S := Unit) (fun u => True) (fun u => some (.int (-3))) (fun u => (wM z cI cZ mn mi ms mtk mso mwh mfi mse mth mpu mno mlo mbe mre mis mca mpa mva mle mst mtn mln mne mgo)) := by
  refine Ct.ofW (cc := cX5_depends) (maxL := 3) (ret := (some .int)) (R_C := RX5) (by decide +kernel) rfl rfl (Nat.le_of_ble_eq_true rfl) rfl ?_
  intro p e s m args below meth c A Q ls H locs hx hb hml hown hts hK hA hP hD hS hZ hl hri hrl hrv
  refine lv_aload_n hx hb dX5_depends_0 rfl (lv_at hl 0 rfl) ?_
  refine lv_iload_n hx hb dX5_depends_1 rfl (lv_at hl 1 rfl) ?_
  refine fx_callV (As := [.int (nI k)]) (rest := []) ⟨hx, hb, hml, hown, hts⟩ (c_X5_isNode l D cI cJ cZ z mn mi ms mtk mso mwh mfi mse mth mpu mno mlo mbe mre mis mca mpa mva mle mst mtn mln mne mgo (nI k) (by first | assumption | omega)) (cwV 1 hts gX5_depends_X5_isNode rfl rfl rfl kv_X5_isNode ⟨Nat.le_of_ble_eq_true rfl, Nat.le_of_ble_eq_true rfl⟩) hK hP hD hS hA hZ 0 rfl rfl rfl rfl hl.1 rfl (lv_room (Nat.le_of_ble_eq_true rfl)) dX5_depends_2 ⟨Nat.zero_le _, Nat.zero_le _⟩ (fun u_1 H locs hu_1 hP hD hS => ?_)
  refine lv_if_eq (tgt := 16) hx hb dX5_depends_5 (by decide) (fun c_5 => ?_) (fun c_5 => ?_)
  · have f_5 : (isN mn (nI k)) = false := bI_0.mp c_5
    exfalso; rw [isN_nI (by omega) (by omega)] at f_5; simp at f_5; omega
  have f_5 : (isN mn (nI k)) = true := bI_n0.mp c_5
  refine lv_aload_n hx hb dX5_depends_8 rfl (lv_at hl 0 rfl) ?_
  refine lv_iload_n hx hb dX5_depends_9 rfl (lv_at hl 2 rfl) ?_
  refine fx_callV (As := [.int (nI n)]) (rest := []) ⟨hx, hb, hml, hown, hts⟩ (c_X5_isNode l D cI cJ cZ z mn mi ms mtk mso mwh mfi mse mth mpu mno mlo mbe mre mis mca mpa mva mle mst mtn mln mne mgo (nI n) (by first | assumption | omega)) (cwV 1 hts gX5_depends_X5_isNode rfl rfl rfl kv_X5_isNode ⟨Nat.le_of_ble_eq_true rfl, Nat.le_of_ble_eq_true rfl⟩) hK hP hD hS hA hZ 0 rfl rfl rfl rfl hl.1 rfl (lv_room (Nat.le_of_ble_eq_true rfl)) dX5_depends_10 ⟨Nat.zero_le _, Nat.zero_le _⟩ (fun u_2 H locs hu_2 hP hD hS => ?_)
  refine lv_if_ne (tgt := 18) hx hb dX5_depends_13 (by decide) (fun c_13 => ?_) (fun c_13 => ?_)
  · have f_13 : (isN mn (nI n)) = true := bI_n0.mp c_13
    refine lv_aload_n hx hb dX5_depends_18 rfl (lv_at hl 0 rfl) ?_
    refine va_get (D := D) (ci := 5) (v := .ref (z 1)) (C := RX5) (T := TX5) (N := 24) hx hb hts (fun w h => List.mem_cons_of_mem _ (List.mem_append_right _ h)) hown hK hP 0 rfl rfl 1 (by decide) (hts (.fieldLink RX5 7 "FirstStatesModel" "sort" "[I") (List.mem_of_getElem? (i := 1) rfl)) (fun _ h9 => h9) rfl dX5_depends_19 ?_
    refine lv_iload_n hx hb dX5_depends_22 rfl (lv_at hl 1 rfl) ?_
    refine fx_iald (ar := nI) hx hb hK hP 1 (f := mso) (k := k) rfl (by omega) (by decide) dX5_depends_23 ?_
    refine lv_iconst (v := nI 3) hx hb dX5_depends_24 (by decide) ?_
    refine lv_icmp_ne (tgt := 38) hx hb dX5_depends_25 (by decide) (fun c_25 => ?_) (fun c_25 => ?_)
    · have f_25 : ¬ mso k = 3 := fun h => c_25 ((nI_eq (a := mso k) (b := 3) (by first | omega | exact b_and1 _ | exact b_ct _ _ (by omega) | exact b_andr _ (by omega)) (by first | omega | exact b_and1 _ | exact b_ct _ _ (by omega) | exact b_andr _ (by omega))).mpr h)
      refine lv_bipush (v := (-3)) hx hb dX5_depends_38 (by decide) ?_
      exact hri () _ H locs 40 ls .int rfl rfl trivial rfl hP hD hS dX5_depends_40
    have f_25 : mso k = 3 := (nI_eq (a := mso k) (b := 3) (by first | omega | exact b_and1 _ | exact b_ct _ _ (by omega) | exact b_andr _ (by omega)) (by first | omega | exact b_and1 _ | exact b_ct _ _ (by omega) | exact b_andr _ (by omega))).mp c_25
    refine lv_aload_n hx hb dX5_depends_28 rfl (lv_at hl 0 rfl) ?_
    refine va_get (D := D) (ci := 5) (v := .ref (z 1)) (C := RX5) (T := TX5) (N := 24) hx hb hts (fun w h => List.mem_cons_of_mem _ (List.mem_append_right _ h)) hown hK hP 0 rfl rfl 1 (by decide) (hts (.fieldLink RX5 7 "FirstStatesModel" "sort" "[I") (List.mem_of_getElem? (i := 1) rfl)) (fun _ h9 => h9) rfl dX5_depends_29 ?_
    refine lv_iload_n hx hb dX5_depends_32 rfl (lv_at hl 2 rfl) ?_
    refine fx_iald (ar := nI) hx hb hK hP 1 (f := mso) (k := n) rfl (by omega) (by decide) dX5_depends_33 ?_
    refine lv_iconst (v := nI 3) hx hb dX5_depends_34 (by decide) ?_
    refine lv_icmp_eq (tgt := 41) hx hb dX5_depends_35 (by decide) (fun c_35 => ?_) (fun c_35 => ?_)
    · have f_35 : mso n = 3 := (nI_eq (a := mso n) (b := 3) (by first | omega | exact b_and1 _ | exact b_ct _ _ (by omega) | exact b_andr _ (by omega)) (by first | omega | exact b_and1 _ | exact b_ct _ _ (by omega) | exact b_andr _ (by omega))).mp c_35
      exfalso; omega
    have f_35 : ¬ mso n = 3 := fun h => c_35 ((nI_eq (a := mso n) (b := 3) (by first | omega | exact b_and1 _ | exact b_ct _ _ (by omega) | exact b_andr _ (by omega)) (by first | omega | exact b_and1 _ | exact b_ct _ _ (by omega) | exact b_andr _ (by omega))).mpr h)
    refine lv_bipush (v := (-3)) hx hb dX5_depends_38 (by decide) ?_
    exact hri () _ H locs 40 ls .int rfl rfl trivial rfl hP hD hS dX5_depends_40
  have f_13 : (isN mn (nI n)) = false := bI_0.mp c_13
  exfalso; rw [isN_nI (by omega) (by omega)] at f_13; simp at f_13; omega
set_option maxHeartbeats 4000000 in
set_option maxRecDepth 100000 in
theorem c_X5_depends (l : Launch) (D : va_G) (cI cJ cZ : ClassId) (z : Nat → Nat) (mn : Nat) (mi : Nat) (ms : Nat) (mtk : Nat) (mso : Nat → Nat) (mwh : Nat → Nat) (mfi : Nat → Nat) (mse : Nat → Nat) (mth : Nat → Nat) (mpu : Nat → Nat) (mno : Nat → Nat) (mlo : Nat → Nat) (mbe : Nat → Nat) (mre : Nat → Nat) (mis : Nat → Bool) (mca : Nat → Bool) (mpa : Nat → Nat) (mva : Nat → Nat) (mle : Nat → Nat) (mst : Nat → Bool) (mtn : Nat → Bool) (mln : Nat → Nat) (mne : Nat → Int32) (mgo : Nat → Int32) (k : Nat) (n : Nat) (hmn : mn ≤ 32) (hms : ms ≤ 6) (hk : k < mn) (hn : n < mn) (h3 : mso k = 3) (h4 : mso n = 3) (hso : ∀ j, j < mn → mso j ≤ 3) (hg : ∀ j, j < mn → mso j = 2 → mfi j < j ∧ mse j < j ∧ mth j < j) (hws : ∀ j, j < mn → mso j = 3 → mwh j < ms) (hre : ∀ i, i < ms → mre i < mn) : Ct l D cI cJ cZ yX5_depends wsX5_depends ({ frames := 2, cells := 0, slots := 0, locals := 43 } : Room) 0 0 [.ref (z 0), .int (nI k), .int (nI n)] (wM z cI cZ mn mi ms mtk mso mwh mfi mse mth mpu mno mlo mbe mre mis mca mpa mva mle mst mtn mln mne mgo) (S := Unit) (fun u => True) (fun u => some (.int (bI ((srcT mso mfi mse mth mwh mln mn (mre (mwh k))).testBit (mwh n))))) (fun u => (wM z cI cZ mn mi ms mtk mso mwh mfi mse mth mpu mno mlo mbe mre mis mca mpa mva mle mst mtn (srcT mso mfi mse mth mwh mln mn) mne mgo)) := by
  refine Ct.ofW (cc := cX5_depends) (maxL := 3) (ret := (some .int)) (R_C := RX5) (by decide +kernel) rfl rfl (Nat.le_of_ble_eq_true rfl) rfl ?_
  intro p e s m args below meth c A Q ls H locs hx hb hml hown hts hK hA hP hD hS hZ hl hri hrl hrv
  refine lv_aload_n hx hb dX5_depends_0 rfl (lv_at hl 0 rfl) ?_
  refine lv_iload_n hx hb dX5_depends_1 rfl (lv_at hl 1 rfl) ?_
  refine fx_callV (As := [.int (nI k)]) (rest := []) ⟨hx, hb, hml, hown, hts⟩ (c_X5_isNode l D cI cJ cZ z mn mi ms mtk mso mwh mfi mse mth mpu mno mlo mbe mre mis mca mpa mva mle mst mtn mln mne mgo (nI k) (by first | assumption | omega)) (cwV 1 hts gX5_depends_X5_isNode rfl rfl rfl kv_X5_isNode ⟨Nat.le_of_ble_eq_true rfl, Nat.le_of_ble_eq_true rfl⟩) hK hP hD hS hA hZ 0 rfl rfl rfl rfl hl.1 rfl (lv_room (Nat.le_of_ble_eq_true rfl)) dX5_depends_2 ⟨Nat.zero_le _, Nat.zero_le _⟩ (fun u_1 H locs hu_1 hP hD hS => ?_)
  refine lv_if_eq (tgt := 16) hx hb dX5_depends_5 (by decide) (fun c_5 => ?_) (fun c_5 => ?_)
  · have f_5 : (isN mn (nI k)) = false := bI_0.mp c_5
    exfalso; rw [isN_nI (by omega) (by omega)] at f_5; simp at f_5; omega
  have f_5 : (isN mn (nI k)) = true := bI_n0.mp c_5
  refine lv_aload_n hx hb dX5_depends_8 rfl (lv_at hl 0 rfl) ?_
  refine lv_iload_n hx hb dX5_depends_9 rfl (lv_at hl 2 rfl) ?_
  refine fx_callV (As := [.int (nI n)]) (rest := []) ⟨hx, hb, hml, hown, hts⟩ (c_X5_isNode l D cI cJ cZ z mn mi ms mtk mso mwh mfi mse mth mpu mno mlo mbe mre mis mca mpa mva mle mst mtn mln mne mgo (nI n) (by first | assumption | omega)) (cwV 1 hts gX5_depends_X5_isNode rfl rfl rfl kv_X5_isNode ⟨Nat.le_of_ble_eq_true rfl, Nat.le_of_ble_eq_true rfl⟩) hK hP hD hS hA hZ 0 rfl rfl rfl rfl hl.1 rfl (lv_room (Nat.le_of_ble_eq_true rfl)) dX5_depends_10 ⟨Nat.zero_le _, Nat.zero_le _⟩ (fun u_2 H locs hu_2 hP hD hS => ?_)
  refine lv_if_ne (tgt := 18) hx hb dX5_depends_13 (by decide) (fun c_13 => ?_) (fun c_13 => ?_)
  · have f_13 : (isN mn (nI n)) = true := bI_n0.mp c_13
    refine lv_aload_n hx hb dX5_depends_18 rfl (lv_at hl 0 rfl) ?_
    refine va_get (D := D) (ci := 5) (v := .ref (z 1)) (C := RX5) (T := TX5) (N := 24) hx hb hts (fun w h => List.mem_cons_of_mem _ (List.mem_append_right _ h)) hown hK hP 0 rfl rfl 1 (by decide) (hts (.fieldLink RX5 7 "FirstStatesModel" "sort" "[I") (List.mem_of_getElem? (i := 1) rfl)) (fun _ h9 => h9) rfl dX5_depends_19 ?_
    refine lv_iload_n hx hb dX5_depends_22 rfl (lv_at hl 1 rfl) ?_
    refine fx_iald (ar := nI) hx hb hK hP 1 (f := mso) (k := k) rfl (by omega) (by decide) dX5_depends_23 ?_
    refine lv_iconst (v := nI 3) hx hb dX5_depends_24 (by decide) ?_
    refine lv_icmp_ne (tgt := 38) hx hb dX5_depends_25 (by decide) (fun c_25 => ?_) (fun c_25 => ?_)
    · have f_25 : ¬ mso k = 3 := fun h => c_25 ((nI_eq (a := mso k) (b := 3) (by first | omega | exact b_and1 _ | exact b_ct _ _ (by omega) | exact b_andr _ (by omega)) (by first | omega | exact b_and1 _ | exact b_ct _ _ (by omega) | exact b_andr _ (by omega))).mpr h)
      exfalso; omega
    have f_25 : mso k = 3 := (nI_eq (a := mso k) (b := 3) (by first | omega | exact b_and1 _ | exact b_ct _ _ (by omega) | exact b_andr _ (by omega)) (by first | omega | exact b_and1 _ | exact b_ct _ _ (by omega) | exact b_andr _ (by omega))).mp c_25
    refine lv_aload_n hx hb dX5_depends_28 rfl (lv_at hl 0 rfl) ?_
    refine va_get (D := D) (ci := 5) (v := .ref (z 1)) (C := RX5) (T := TX5) (N := 24) hx hb hts (fun w h => List.mem_cons_of_mem _ (List.mem_append_right _ h)) hown hK hP 0 rfl rfl 1 (by decide) (hts (.fieldLink RX5 7 "FirstStatesModel" "sort" "[I") (List.mem_of_getElem? (i := 1) rfl)) (fun _ h9 => h9) rfl dX5_depends_29 ?_
    refine lv_iload_n hx hb dX5_depends_32 rfl (lv_at hl 2 rfl) ?_
    refine fx_iald (ar := nI) hx hb hK hP 1 (f := mso) (k := n) rfl (by omega) (by decide) dX5_depends_33 ?_
    refine lv_iconst (v := nI 3) hx hb dX5_depends_34 (by decide) ?_
    refine lv_icmp_eq (tgt := 41) hx hb dX5_depends_35 (by decide) (fun c_35 => ?_) (fun c_35 => ?_)
    · have f_35 : mso n = 3 := (nI_eq (a := mso n) (b := 3) (by first | omega | exact b_and1 _ | exact b_ct _ _ (by omega) | exact b_andr _ (by omega)) (by first | omega | exact b_and1 _ | exact b_ct _ _ (by omega) | exact b_andr _ (by omega))).mp c_35
      have hs1 := hws k hk h3
      have hs2 := hws n hn h4
      have hr1 := hre _ hs1
      refine lv_aload_n hx hb dX5_depends_41 rfl (lv_at hl 0 rfl) ?_
      refine fx_callV (As := []) (rest := []) ⟨hx, hb, hml, hown, hts⟩ (c_X5_layLeans l D cI cJ cZ z mn mi ms mtk mso mwh mfi mse mth mpu mno mlo mbe mre mis mca mpa mva mle mst mtn mln mne mgo (by first | assumption | omega) (by first | assumption | omega) (by first | assumption | omega) (fun j hj h => by have := hws j hj h; omega)) (cwV 0 hts gX5_depends_X5_layLeans rfl rfl rfl kv_X5_layLeans ⟨Nat.le_of_ble_eq_true rfl, Nat.le_of_ble_eq_true rfl⟩) hK hP hD hS hA hZ 0 rfl rfl rfl rfl hl.1 rfl (lv_room (Nat.le_of_ble_eq_true rfl)) dX5_depends_42 ⟨Nat.zero_le _, Nat.zero_le _⟩ (fun u_3 H locs hu_3 hP hD hS => ?_)
      have hP : va_P D vwCl (wM z cI cZ mn mi ms mtk mso mwh mfi mse mth mpu mno mlo mbe mre mis mca mpa mva mle mst mtn (srcT mso mfi mse mth mwh mln mn) mne mgo) H := hP
      have hD : va_D A (wM z cI cZ mn mi ms mtk mso mwh mfi mse mth mpu mno mlo mbe mre mis mca mpa mva mle mst mtn (srcT mso mfi mse mth mwh mln mn) mne mgo) := fx_D hD rfl
      refine lv_aload_n hx hb dX5_depends_45 rfl (lv_at hl 0 rfl) ?_
      refine va_get (D := D) (ci := 5) (v := .ref (z 18)) (C := RX5) (T := TX5) (N := 24) hx hb hts (fun w h => List.mem_cons_of_mem _ (List.mem_append_right _ h)) hown hK hP 0 rfl rfl 21 (by decide) (hts (.fieldLink RX5 62 "FirstStatesModel" "leans" "[I") (List.mem_of_getElem? (i := 2) rfl)) (fun _ h9 => h9) rfl dX5_depends_46 ?_
      refine lv_aload_n hx hb dX5_depends_49 rfl (lv_at hl 0 rfl) ?_
      refine va_get (D := D) (ci := 5) (v := .ref (z 10)) (C := RX5) (T := TX5) (N := 24) hx hb hts (fun w h => List.mem_cons_of_mem _ (List.mem_append_right _ h)) hown hK hP 0 rfl rfl 12 (by decide) (hts (.fieldLink RX5 37 "FirstStatesModel" "read" "[I") (List.mem_of_getElem? (i := 3) rfl)) (fun _ h9 => h9) rfl dX5_depends_50 ?_
      refine lv_aload_n hx hb dX5_depends_53 rfl (lv_at hl 0 rfl) ?_
      refine va_get (D := D) (ci := 5) (v := .ref (z 2)) (C := RX5) (T := TX5) (N := 24) hx hb hts (fun w h => List.mem_cons_of_mem _ (List.mem_append_right _ h)) hown hK hP 0 rfl rfl 2 (by decide) (hts (.fieldLink RX5 13 "FirstStatesModel" "which" "[I") (List.mem_of_getElem? (i := 4) rfl)) (fun _ h9 => h9) rfl dX5_depends_54 ?_
      refine lv_iload_n hx hb dX5_depends_57 rfl (lv_at hl 1 rfl) ?_
      refine fx_iald (ar := nI) hx hb hK hP 2 (f := mwh) (k := k) rfl (by omega) (by decide) dX5_depends_58 ?_
      refine fx_iald (ar := nI) hx hb hK hP 10 (f := mre) (k := (mwh k)) rfl (by omega) (by decide) dX5_depends_59 ?_
      have hsl := srcT_lt (so := mso) (fa := mfi) (fb := mse) (fc := mth) (sn := mwh) (f := mln) hg (fun j hj h => by have := hws j hj h; omega) (Nat.le_refl _) _ hr1
      refine fx_iald (ar := nI) hx hb hK hP 18 (f := (srcT mso mfi mse mth mwh mln mn)) (k := (mre (mwh k))) rfl (by omega) (by decide) dX5_depends_60 ?_
      refine lv_aload_n hx hb dX5_depends_61 rfl (lv_at hl 0 rfl) ?_
      refine va_get (D := D) (ci := 5) (v := .ref (z 2)) (C := RX5) (T := TX5) (N := 24) hx hb hts (fun w h => List.mem_cons_of_mem _ (List.mem_append_right _ h)) hown hK hP 0 rfl rfl 2 (by decide) (hts (.fieldLink RX5 13 "FirstStatesModel" "which" "[I") (List.mem_of_getElem? (i := 4) rfl)) (fun _ h9 => h9) rfl dX5_depends_62 ?_
      refine lv_iload_n hx hb dX5_depends_65 rfl (lv_at hl 2 rfl) ?_
      refine fx_iald (ar := nI) hx hb hK hP 2 (f := mwh) (k := n) rfl (by omega) (by decide) dX5_depends_66 ?_
      refine lv_ishr hx hb dX5_depends_67 ?_
      refine fx_eqi (y := nI (((srcT mso mfi mse mth mwh mln mn) (mre (mwh k))) >>> (mwh n))) (fx_shr (by first | omega | exact b_and1 _ | exact b_ct _ _ (by omega) | exact b_andr _ (by omega)) (by first | omega | exact b_and1 _ | exact b_ct _ _ (by omega) | exact b_andr _ (by omega))) ?_
      refine lv_iconst (v := nI 1) hx hb dX5_depends_68 (by decide) ?_
      refine lv_iand hx hb dX5_depends_69 ?_
      refine fx_eqi (fx_andI _ _) ?_
      exact hri () _ H locs 70 ls .int rfl rfl trivial (by exact congrArg (fun w => some (Value.int w)) (tb_bI _ _).symm) hP hD hS dX5_depends_70
    have f_35 : ¬ mso n = 3 := fun h => c_35 ((nI_eq (a := mso n) (b := 3) (by first | omega | exact b_and1 _ | exact b_ct _ _ (by omega) | exact b_andr _ (by omega)) (by first | omega | exact b_and1 _ | exact b_ct _ _ (by omega) | exact b_andr _ (by omega))).mpr h)
    exfalso; omega
  have f_13 : (isN mn (nI n)) = false := bI_0.mp c_13
  exfalso; rw [isN_nI (by omega) (by omega)] at f_13; simp at f_13; omega
set_option maxHeartbeats 4000000 in
set_option maxRecDepth 100000 in
theorem c_X5_cross_c (l : Launch) (D : va_G) (cI cJ cZ : ClassId) (z : Nat → Nat) (mn : Nat) (mi : Nat) (ms : Nat) (mtk : Nat) (mso : Nat → Nat) (mwh : Nat → Nat) (mfi : Nat → Nat) (mse : Nat → Nat) (mth : Nat → Nat) (mpu : Nat → Nat) (mno : Nat → Nat) (mlo : Nat → Nat) (mbe : Nat → Nat) (mre : Nat → Nat) (mis : Nat → Bool) (mca : Nat → Bool) (mpa : Nat → Nat) (mva : Nat → Nat) (mle : Nat → Nat) (mst : Nat → Bool) (mtn : Nat → Bool) (mln : Nat → Nat) (mne : Nat → Int32) (mgo : Nat → Int32) (x : Int32) (hx0 : x < 0) (hmn : mn ≤ 32) (hms : ms ≤ 6) (hso : ∀ j, j < mn → mso j ≤ 3) (hg : ∀ j, j < mn → mso j = 2 → mfi j < j ∧ mse j < j ∧ mth j < j) (hws : ∀ j, j < mn → mso j = 3 → mwh j < ms) (hre : ∀ i, i < ms → mre i < mn) (hlo : ∀ i, i < ms → mlo i ≤ 4) (hno : ∀ i, i < ms → mno i < mn) : Ct l D cI cJ cZ yX5_cross wsX5_cross ({ frames := 1, cells := 0, slots := 0, locals := 21 } : Room) 0 0 [.ref (z 0), .int x] (wM z cI cZ mn mi ms mtk mso mwh mfi mse mth mpu mno mlo mbe mre mis mca mpa mva mle mst mtn mln mne mgo) (S := Unit) (fun u => True) (fun u => some (.int (nI (sm2 (crP mlo mre (srcT mso mfi mse mth mwh mln mn)) ms ms)))) (fun u => (wM z cI cZ mn mi ms mtk mso mwh mfi mse mth mpu mno mlo mbe mre mis mca mpa mva mle mst mtn (srcT mso mfi mse mth mwh mln mn) mne mgo)) := by
  refine Ct.ofW (cc := cX5_cross) (maxL := 5) (ret := (some .int)) (R_C := RX5) (by decide +kernel) rfl rfl (Nat.le_of_ble_eq_true rfl) rfl ?_
  intro p e s m args below meth c A Q ls H locs hx hb hml hown hts hK hA hP hD hS hZ hl hri hrl hrv
  refine lv_aload_n hx hb dX5_cross_0 rfl (lv_at hl 0 rfl) ?_
  refine fx_callV (As := []) (rest := []) ⟨hx, hb, hml, hown, hts⟩ (c_X5_layLeans l D cI cJ cZ z mn mi ms mtk mso mwh mfi mse mth mpu mno mlo mbe mre mis mca mpa mva mle mst mtn mln mne mgo (by first | assumption | omega) (by first | assumption | omega) (by first | assumption | omega) (fun j hj h => by have := hws j hj h; omega)) (cwV 0 hts gX5_cross_X5_layLeans rfl rfl rfl kv_X5_layLeans ⟨Nat.le_of_ble_eq_true rfl, Nat.le_of_ble_eq_true rfl⟩) hK hP hD hS hA hZ 0 rfl rfl rfl rfl hl.1 rfl (lv_room (Nat.le_of_ble_eq_true rfl)) dX5_cross_1 ⟨Nat.zero_le _, Nat.zero_le _⟩ (fun u_1 H locs hu_1 hP hD hS => ?_)
  have hP : va_P D vwCl (wM z cI cZ mn mi ms mtk mso mwh mfi mse mth mpu mno mlo mbe mre mis mca mpa mva mle mst mtn (srcT mso mfi mse mth mwh mln mn) mne mgo) H := hP
  have hD : va_D A (wM z cI cZ mn mi ms mtk mso mwh mfi mse mth mpu mno mlo mbe mre mis mca mpa mva mle mst mtn (srcT mso mfi mse mth mwh mln mn) mne mgo) := fx_D hD rfl
  refine lv_iconst (v := nI 0) hx hb dX5_cross_4 (by decide) ?_
  refine lv_istore_n (lv' := [(2, .int (nI 0)), (0, .ref (z 0)), (1, .int x)]) hx hb dX5_cross_5 rfl hl (by decide) rfl (fun ls hl => ?_)
  refine lv_iconst (v := nI 0) hx hb dX5_cross_6 (by decide) ?_
  refine lv_istore_n (lv' := [(3, .int (nI 0)), (2, .int (nI 0)), (0, .ref (z 0)), (1, .int x)]) hx hb dX5_cross_7 rfl hl (by decide) rfl (fun ls hl => ?_)
  have L_8 : ∀ (fuel : Nat) (a : Nat) (ha : a ≤ ms) (hfu : ms - a < fuel) (H : Heap) (locs : List Loc), va_P D vwCl (wM z cI cZ mn mi ms mtk mso mwh mfi mse mth mpu mno mlo mbe mre mis mca mpa mva mle mst mtn (srcT mso mfi mse mth mwh mln mn) mne mgo) H → va_D A (wM z cI cZ mn mi ms mtk mso mwh mfi mse mth mpu mno mlo mbe mre mis mca mpa mva mle mst mtn (srcT mso mfi mse mth mwh mln mn) mne mgo) → va_S A s.heap H locs → ∀ ls : Array Slot, lv_has ls 5 [(0, .ref (z 0)), (1, .int x), (2, .int (nI (sm2 (crP mlo mre (srcT mso mfi mse mth mwh mln mn)) ms a))), (3, .int (nI a))] → W p l e ({ frames := 1, cells := 0, slots := 0, locals := 21 } : Room) s m args below meth c H locs 0 0 Q (F0 m 8 ls []) := by
    intro fuel
    induction fuel with
    | zero => intro a ha hfu; exact absurd hfu (Nat.not_lt_zero _)
    | succ fuel ih_8 =>
      intro a ha hfu H locs hP hD hS ls hl
      refine lv_iload_n hx hb dX5_cross_8 rfl (lv_at hl 3 rfl) ?_
      refine lv_aload_n hx hb dX5_cross_9 rfl (lv_at hl 0 rfl) ?_
      refine va_get (D := D) (ci := 5) (v := .int (nI ms)) (C := RX5) (T := TX5) (N := 24) hx hb hts (fun w h => List.mem_cons_of_mem _ (List.mem_append_right _ h)) hown hK hP 0 rfl rfl 8 (by decide) (hts (.fieldLink RX5 85 "FirstStatesModel" "stores" "I") (List.mem_of_getElem? (i := 1) rfl)) (fun _ h9 => h9) rfl dX5_cross_10 ?_
      refine lv_icmp_ge (tgt := 102) hx hb dX5_cross_13 (by decide) (fun c_13 => ?_) (fun c_13 => ?_)
      · have f_13 : ms ≤ a := (nI_leI (a := ms) (b := a) (by first | omega | exact b_and1 _ | exact b_ct _ _ (by omega) | exact b_andr _ (by omega)) (by first | omega | exact b_and1 _ | exact b_ct _ _ (by omega) | exact b_andr _ (by omega))).mp c_13
        refine lv_iload_n hx hb dX5_cross_102 rfl (lv_at hl 1 rfl) ?_
        refine lv_if_ge (tgt := 110) hx hb dX5_cross_103 (by decide) (fun c_103 => ?_) (fun c_103 => ?_)
        · exfalso; exact absurd hx0 (Int32.not_lt.mpr c_103)
        refine lv_iload_n hx hb dX5_cross_106 rfl (lv_at hl 2 rfl) ?_
        refine lv_goto (tgt := 112) hx hb dX5_cross_107 (by decide) ?_
        exact hri () _ H locs 112 ls .int rfl rfl trivial (by rw [show ms = a by omega]) hP hD hS dX5_cross_112
      have f_13 : ¬ ms ≤ a := fun h => c_13 ((nI_leI (a := ms) (b := a) (by first | omega | exact b_and1 _ | exact b_ct _ _ (by omega) | exact b_andr _ (by omega)) (by first | omega | exact b_and1 _ | exact b_ct _ _ (by omega) | exact b_andr _ (by omega))).mpr h)
      refine lv_iconst (v := nI 0) hx hb dX5_cross_16 (by decide) ?_
      refine lv_istore (lv' := [(4, .int (nI 0)), (0, .ref (z 0)), (1, .int x), (2, .int (nI (sm2 (crP mlo mre (srcT mso mfi mse mth mwh mln mn)) ms a))), (3, .int (nI a))]) hx hb dX5_cross_17 hl (by decide) rfl (fun ls hl => ?_)
      have L_19 : ∀ (fuel : Nat) (b : Nat) (hb4 : b ≤ ms) (hfu : ms - b < fuel) (H : Heap) (locs : List Loc), va_P D vwCl (wM z cI cZ mn mi ms mtk mso mwh mfi mse mth mpu mno mlo mbe mre mis mca mpa mva mle mst mtn (srcT mso mfi mse mth mwh mln mn) mne mgo) H → va_D A (wM z cI cZ mn mi ms mtk mso mwh mfi mse mth mpu mno mlo mbe mre mis mca mpa mva mle mst mtn (srcT mso mfi mse mth mwh mln mn) mne mgo) → va_S A s.heap H locs → ∀ ls : Array Slot, lv_has ls 5 [(0, .ref (z 0)), (1, .int x), (2, .int (nI (sm2 (crP mlo mre (srcT mso mfi mse mth mwh mln mn)) ms a + ct (crP mlo mre (srcT mso mfi mse mth mwh mln mn) a) b))), (3, .int (nI a)), (4, .int (nI b))] → W p l e ({ frames := 1, cells := 0, slots := 0, locals := 21 } : Room) s m args below meth c H locs 0 0 Q (F0 m 19 ls []) := by
        intro fuel
        induction fuel with
        | zero => intro b hb4 hfu; exact absurd hfu (Nat.not_lt_zero _)
        | succ fuel ih_19 =>
          intro b hb4 hfu H locs hP hD hS ls hl
          refine lv_iload hx hb dX5_cross_19 (lv_at hl 4 rfl) ?_
          refine lv_aload_n hx hb dX5_cross_21 rfl (lv_at hl 0 rfl) ?_
          refine va_get (D := D) (ci := 5) (v := .int (nI ms)) (C := RX5) (T := TX5) (N := 24) hx hb hts (fun w h => List.mem_cons_of_mem _ (List.mem_append_right _ h)) hown hK hP 0 rfl rfl 8 (by decide) (hts (.fieldLink RX5 85 "FirstStatesModel" "stores" "I") (List.mem_of_getElem? (i := 1) rfl)) (fun _ h9 => h9) rfl dX5_cross_22 ?_
          refine lv_icmp_ge (tgt := 96) hx hb dX5_cross_25 (by decide) (fun c_25 => ?_) (fun c_25 => ?_)
          · have f_25 : ms ≤ b := (nI_leI (a := ms) (b := b) (by first | omega | exact b_and1 _ | exact b_ct _ _ (by omega) | exact b_andr _ (by omega)) (by first | omega | exact b_and1 _ | exact b_ct _ _ (by omega) | exact b_andr _ (by omega))).mp c_25
            have e_b : b = ms := by omega
            refine lv_iinc (v := nI (a + 1)) (lv' := [(3, .int (nI (a + 1))), (0, .ref (z 0)), (1, .int x), (2, .int (nI (sm2 (crP mlo mre (srcT mso mfi mse mth mwh mln mn)) ms a + ct (crP mlo mre (srcT mso mfi mse mth mwh mln mn) a) b))), (4, .int (nI b))]) hx hb dX5_cross_96 hl (k := 3) rfl (by exact nI_1 _) (by decide) rfl (fun ls hl => ?_)
            refine lv_goto (tgt := 8) hx hb dX5_cross_99 (by decide) ?_
            have e_2 : nI (sm2 (crP mlo mre (srcT mso mfi mse mth mwh mln mn)) ms a + ct (crP mlo mre (srcT mso mfi mse mth mwh mln mn) a) b) = nI (sm2 (crP mlo mre (srcT mso mfi mse mth mwh mln mn)) ms (a + 1)) := by first | rfl | (rw [e_b]; rfl)
            exact ih_8 (a + 1) (by first | assumption | omega) (by omega) H locs hP hD hS ls (lv_sub (fx_hl (l' := [(3, .int (nI (a + 1))), (0, .ref (z 0)), (1, .int x), (2, .int (nI (sm2 (crP mlo mre (srcT mso mfi mse mth mwh mln mn)) ms (a + 1)))), (4, .int (nI b))]) hl (congrArg (fun w9 : Int32 => ([(3, .int (nI (a + 1))), (0, .ref (z 0)), (1, .int x), (2, .int w9), (4, .int (nI b))] : List (Nat × Value))) e_2)) [1, 2, 3, 0] rfl)
          have f_25 : ¬ ms ≤ b := fun h => c_25 ((nI_leI (a := ms) (b := b) (by first | omega | exact b_and1 _ | exact b_ct _ _ (by omega) | exact b_andr _ (by omega)) (by first | omega | exact b_and1 _ | exact b_ct _ _ (by omega) | exact b_andr _ (by omega))).mpr h)
          have hlo1 := hlo a (by omega)
          have hlo2 := hlo b (by omega)
          have hre1 := hre b (by omega)
          have hsl := srcT_lt (so := mso) (fa := mfi) (fb := mse) (fc := mth) (sn := mwh) (f := mln) hg (fun j hj h => by have := hws j hj h; omega) (Nat.le_refl _) _ hre1
          refine lv_aload_n hx hb dX5_cross_28 rfl (lv_at hl 0 rfl) ?_
          refine va_get (D := D) (ci := 5) (v := .ref (z 8)) (C := RX5) (T := TX5) (N := 24) hx hb hts (fun w h => List.mem_cons_of_mem _ (List.mem_append_right _ h)) hown hK hP 0 rfl rfl 10 (by decide) (hts (.fieldLink RX5 31 "FirstStatesModel" "lineOf" "[I") (List.mem_of_getElem? (i := 2) rfl)) (fun _ h9 => h9) rfl dX5_cross_29 ?_
          refine lv_iload_n hx hb dX5_cross_32 rfl (lv_at hl 3 rfl) ?_
          refine fx_iald (ar := lI) hx hb hK hP 8 (f := mlo) (k := a) rfl (by omega) (by decide) dX5_cross_33 ?_
          refine lv_aload_n hx hb dX5_cross_34 rfl (lv_at hl 0 rfl) ?_
          refine va_get (D := D) (ci := 5) (v := .ref (z 8)) (C := RX5) (T := TX5) (N := 24) hx hb hts (fun w h => List.mem_cons_of_mem _ (List.mem_append_right _ h)) hown hK hP 0 rfl rfl 10 (by decide) (hts (.fieldLink RX5 31 "FirstStatesModel" "lineOf" "[I") (List.mem_of_getElem? (i := 2) rfl)) (fun _ h9 => h9) rfl dX5_cross_35 ?_
          refine lv_iload hx hb dX5_cross_38 (lv_at hl 4 rfl) ?_
          refine fx_iald (ar := lI) hx hb hK hP 8 (f := mlo) (k := b) rfl (by omega) (by decide) dX5_cross_40 ?_
          refine lv_icmp_eq (tgt := 90) hx hb dX5_cross_41 (by decide) (fun c_41 => ?_) (fun c_41 => ?_)
          · have f_41 : (mlo a) = (mlo b) := (lI_eq (by first | omega | exact b_and1 _ | exact b_ct _ _ (by omega) | exact b_andr _ (by omega)) (by first | omega | exact b_and1 _ | exact b_ct _ _ (by omega) | exact b_andr _ (by omega))).mp c_41
            refine lv_iinc (v := nI (b + 1)) (lv' := [(4, .int (nI (b + 1))), (0, .ref (z 0)), (1, .int x), (2, .int (nI (sm2 (crP mlo mre (srcT mso mfi mse mth mwh mln mn)) ms a + ct (crP mlo mre (srcT mso mfi mse mth mwh mln mn) a) b))), (3, .int (nI a))]) hx hb dX5_cross_90 hl (k := 4) rfl (by exact nI_1 _) (by decide) rfl (fun ls hl => ?_)
            refine lv_goto (tgt := 19) hx hb dX5_cross_93 (by decide) ?_
            have e_3 : nI (sm2 (crP mlo mre (srcT mso mfi mse mth mwh mln mn)) ms a + ct (crP mlo mre (srcT mso mfi mse mth mwh mln mn) a) b) = nI (sm2 (crP mlo mre (srcT mso mfi mse mth mwh mln mn)) ms a + ct (crP mlo mre (srcT mso mfi mse mth mwh mln mn) a) (b + 1)) := by first | rfl | (exact congrArg nI (congrArg (_ + ·) (ct_st0 (by simp [crP, f_41]))))
            exact ih_19 (b + 1) (by first | assumption | omega) (by omega) H locs hP hD hS ls (lv_sub (fx_hl (l' := [(4, .int (nI (b + 1))), (0, .ref (z 0)), (1, .int x), (2, .int (nI (sm2 (crP mlo mre (srcT mso mfi mse mth mwh mln mn)) ms a + ct (crP mlo mre (srcT mso mfi mse mth mwh mln mn) a) (b + 1)))), (3, .int (nI a))]) hl (congrArg (fun w9 : Int32 => ([(4, .int (nI (b + 1))), (0, .ref (z 0)), (1, .int x), (2, .int w9), (3, .int (nI a))] : List (Nat × Value))) e_3)) [1, 2, 3, 4, 0] rfl)
          have f_41 : ¬ (mlo a) = (mlo b) := fun h => c_41 ((lI_eq (by first | omega | exact b_and1 _ | exact b_ct _ _ (by omega) | exact b_andr _ (by omega)) (by first | omega | exact b_and1 _ | exact b_ct _ _ (by omega) | exact b_andr _ (by omega))).mpr h)
          refine lv_aload_n hx hb dX5_cross_44 rfl (lv_at hl 0 rfl) ?_
          refine va_get (D := D) (ci := 5) (v := .ref (z 18)) (C := RX5) (T := TX5) (N := 24) hx hb hts (fun w h => List.mem_cons_of_mem _ (List.mem_append_right _ h)) hown hK hP 0 rfl rfl 21 (by decide) (hts (.fieldLink RX5 62 "FirstStatesModel" "leans" "[I") (List.mem_of_getElem? (i := 3) rfl)) (fun _ h9 => h9) rfl dX5_cross_45 ?_
          refine lv_aload_n hx hb dX5_cross_48 rfl (lv_at hl 0 rfl) ?_
          refine va_get (D := D) (ci := 5) (v := .ref (z 10)) (C := RX5) (T := TX5) (N := 24) hx hb hts (fun w h => List.mem_cons_of_mem _ (List.mem_append_right _ h)) hown hK hP 0 rfl rfl 12 (by decide) (hts (.fieldLink RX5 37 "FirstStatesModel" "read" "[I") (List.mem_of_getElem? (i := 4) rfl)) (fun _ h9 => h9) rfl dX5_cross_49 ?_
          refine lv_iload hx hb dX5_cross_52 (lv_at hl 4 rfl) ?_
          refine fx_iald (ar := nI) hx hb hK hP 10 (f := mre) (k := b) rfl (by omega) (by decide) dX5_cross_54 ?_
          refine fx_iald (ar := nI) hx hb hK hP 18 (f := (srcT mso mfi mse mth mwh mln mn)) (k := (mre b)) rfl (by omega) (by decide) dX5_cross_55 ?_
          refine lv_iload_n hx hb dX5_cross_56 rfl (lv_at hl 3 rfl) ?_
          refine lv_ishr hx hb dX5_cross_57 ?_
          refine fx_eqi (y := nI (((srcT mso mfi mse mth mwh mln mn) (mre b)) >>> a)) (fx_shr (by first | omega | exact b_and1 _ | exact b_ct _ _ (by omega) | exact b_andr _ (by omega)) (by first | omega | exact b_and1 _ | exact b_ct _ _ (by omega) | exact b_andr _ (by omega))) ?_
          refine lv_iconst (v := nI 1) hx hb dX5_cross_58 (by decide) ?_
          refine lv_iand hx hb dX5_cross_59 ?_
          refine fx_eqi (fx_andI _ _) ?_
          refine lv_iconst (v := nI 1) hx hb dX5_cross_60 (by decide) ?_
          refine lv_icmp_ne (tgt := 90) hx hb dX5_cross_61 (by decide) (fun c_61 => ?_) (fun c_61 => ?_)
          · have f_61 : ¬ (((srcT mso mfi mse mth mwh mln mn) (mre b)) >>> a) &&& 1 = 1 := fun h => c_61 ((nI_eq (a := (((srcT mso mfi mse mth mwh mln mn) (mre b)) >>> a) &&& 1) (b := 1) (by first | omega | exact b_and1 _ | exact b_ct _ _ (by omega) | exact b_andr _ (by omega)) (by first | omega | exact b_and1 _ | exact b_ct _ _ (by omega) | exact b_andr _ (by omega))).mpr h)
            refine lv_iinc (v := nI (b + 1)) (lv' := [(4, .int (nI (b + 1))), (0, .ref (z 0)), (1, .int x), (2, .int (nI (sm2 (crP mlo mre (srcT mso mfi mse mth mwh mln mn)) ms a + ct (crP mlo mre (srcT mso mfi mse mth mwh mln mn) a) b))), (3, .int (nI a))]) hx hb dX5_cross_90 hl (k := 4) rfl (by exact nI_1 _) (by decide) rfl (fun ls hl => ?_)
            refine lv_goto (tgt := 19) hx hb dX5_cross_93 (by decide) ?_
            have e_4 : nI (sm2 (crP mlo mre (srcT mso mfi mse mth mwh mln mn)) ms a + ct (crP mlo mre (srcT mso mfi mse mth mwh mln mn) a) b) = nI (sm2 (crP mlo mre (srcT mso mfi mse mth mwh mln mn)) ms a + ct (crP mlo mre (srcT mso mfi mse mth mwh mln mn) a) (b + 1)) := by first | rfl | (exact congrArg nI (congrArg (_ + ·) (ct_st0 (by simp [crP, f_41, tb1_n.mp f_61]))))
            exact ih_19 (b + 1) (by first | assumption | omega) (by omega) H locs hP hD hS ls (lv_sub (fx_hl (l' := [(4, .int (nI (b + 1))), (0, .ref (z 0)), (1, .int x), (2, .int (nI (sm2 (crP mlo mre (srcT mso mfi mse mth mwh mln mn)) ms a + ct (crP mlo mre (srcT mso mfi mse mth mwh mln mn) a) (b + 1)))), (3, .int (nI a))]) hl (congrArg (fun w9 : Int32 => ([(4, .int (nI (b + 1))), (0, .ref (z 0)), (1, .int x), (2, .int w9), (3, .int (nI a))] : List (Nat × Value))) e_4)) [1, 2, 3, 4, 0] rfl)
          have f_61 : (((srcT mso mfi mse mth mwh mln mn) (mre b)) >>> a) &&& 1 = 1 := (nI_eq (a := (((srcT mso mfi mse mth mwh mln mn) (mre b)) >>> a) &&& 1) (b := 1) (by first | omega | exact b_and1 _ | exact b_ct _ _ (by omega) | exact b_andr _ (by omega)) (by first | omega | exact b_and1 _ | exact b_ct _ _ (by omega) | exact b_andr _ (by omega))).mp c_61
          refine lv_iload_n hx hb dX5_cross_64 rfl (lv_at hl 2 rfl) ?_
          refine lv_iload_n hx hb dX5_cross_65 rfl (lv_at hl 1 rfl) ?_
          have hsm := sm2_le (crP mlo mre (srcT mso mfi mse mth mwh mln mn)) ms a
          have hct := ct_le (crP mlo mre (srcT mso mfi mse mth mwh mln mn) a) b
          have hmm : a * ms ≤ 6 * 6 := Nat.mul_le_mul (by omega) (by omega)
          refine lv_icmp_ne (tgt := 87) hx hb dX5_cross_66 (by decide) (fun c_66 => ?_) (fun c_66 => ?_)
          · refine lv_iinc (v := nI ((sm2 (crP mlo mre (srcT mso mfi mse mth mwh mln mn)) ms a + ct (crP mlo mre (srcT mso mfi mse mth mwh mln mn) a) b) + 1)) (lv' := [(2, .int (nI ((sm2 (crP mlo mre (srcT mso mfi mse mth mwh mln mn)) ms a + ct (crP mlo mre (srcT mso mfi mse mth mwh mln mn) a) b) + 1))), (0, .ref (z 0)), (1, .int x), (3, .int (nI a)), (4, .int (nI b))]) hx hb dX5_cross_87 hl (k := 2) rfl (by exact nI_1 _) (by decide) rfl (fun ls hl => ?_)
            refine lv_iinc (v := nI (b + 1)) (lv' := [(4, .int (nI (b + 1))), (2, .int (nI ((sm2 (crP mlo mre (srcT mso mfi mse mth mwh mln mn)) ms a + ct (crP mlo mre (srcT mso mfi mse mth mwh mln mn) a) b) + 1))), (0, .ref (z 0)), (1, .int x), (3, .int (nI a))]) hx hb dX5_cross_90 hl (k := 4) rfl (by exact nI_1 _) (by decide) rfl (fun ls hl => ?_)
            refine lv_goto (tgt := 19) hx hb dX5_cross_93 (by decide) ?_
            have e_5 : nI ((sm2 (crP mlo mre (srcT mso mfi mse mth mwh mln mn)) ms a + ct (crP mlo mre (srcT mso mfi mse mth mwh mln mn) a) b) + 1) = nI (sm2 (crP mlo mre (srcT mso mfi mse mth mwh mln mn)) ms a + ct (crP mlo mre (srcT mso mfi mse mth mwh mln mn) a) (b + 1)) := by first | rfl | (exact congrArg nI ((Nat.add_assoc _ _ _).trans (congrArg (_ + ·) (ct_st1 (by simp [crP, f_41, tb1.mp f_61])))))
            exact ih_19 (b + 1) (by first | assumption | omega) (by omega) H locs hP hD hS ls (lv_sub (fx_hl (l' := [(4, .int (nI (b + 1))), (2, .int (nI (sm2 (crP mlo mre (srcT mso mfi mse mth mwh mln mn)) ms a + ct (crP mlo mre (srcT mso mfi mse mth mwh mln mn) a) (b + 1)))), (0, .ref (z 0)), (1, .int x), (3, .int (nI a))]) hl (congrArg (fun w9 : Int32 => ([(4, .int (nI (b + 1))), (2, .int w9), (0, .ref (z 0)), (1, .int x), (3, .int (nI a))] : List (Nat × Value))) e_5)) [2, 3, 1, 4, 0] rfl)
          exfalso; rw [← c_66] at hx0; exact nI_pos (by omega) hx0
      exact L_19 (ms - 0 + 1) 0 (Nat.zero_le _) (Nat.lt_succ_self _) H locs hP hD hS ls (lv_sub hl [1, 2, 3, 4, 0] rfl)
  exact L_8 (ms - 0 + 1) 0 (Nat.zero_le _) (Nat.lt_succ_self _) H locs hP hD hS ls (lv_sub hl [2, 3, 1, 0] rfl)
set_option maxHeartbeats 4000000 in
set_option maxRecDepth 100000 in
theorem c_X5_cross_i (l : Launch) (D : va_G) (cI cJ cZ : ClassId) (z : Nat → Nat) (mn : Nat) (mi : Nat) (ms : Nat) (mtk : Nat) (mso : Nat → Nat) (mwh : Nat → Nat) (mfi : Nat → Nat) (mse : Nat → Nat) (mth : Nat → Nat) (mpu : Nat → Nat) (mno : Nat → Nat) (mlo : Nat → Nat) (mbe : Nat → Nat) (mre : Nat → Nat) (mis : Nat → Bool) (mca : Nat → Bool) (mpa : Nat → Nat) (mva : Nat → Nat) (mle : Nat → Nat) (mst : Nat → Bool) (mtn : Nat → Bool) (mln : Nat → Nat) (mne : Nat → Int32) (mgo : Nat → Int32) (i : Nat) (hi : i < 2 ^ 31) (hmn : mn ≤ 32) (hms : ms ≤ 6) (hso : ∀ j, j < mn → mso j ≤ 3) (hg : ∀ j, j < mn → mso j = 2 → mfi j < j ∧ mse j < j ∧ mth j < j) (hws : ∀ j, j < mn → mso j = 3 → mwh j < ms) (hre : ∀ i, i < ms → mre i < mn) (hlo : ∀ i, i < ms → mlo i ≤ 4) (hno : ∀ i, i < ms → mno i < mn) : Ct l D cI cJ cZ yX5_cross wsX5_cross ({ frames := 1, cells := 0, slots := 0, locals := 21 } : Room) 0 0 [.ref (z 0), .int (nI i)] (wM z cI cZ mn mi ms mtk mso mwh mfi mse mth mpu mno mlo mbe mre mis mca mpa mva mle mst mtn mln mne mgo) (S := Unit) (fun u => True) (fun u => some (.int (crK (crP mlo mre (srcT mso mfi mse mth mwh mln mn)) (fun ja jb => nI (100 * mno ja + mno jb)) i ms ms 0 0))) (fun u => (wM z cI cZ mn mi ms mtk mso mwh mfi mse mth mpu mno mlo mbe mre mis mca mpa mva mle mst mtn (srcT mso mfi mse mth mwh mln mn) mne mgo)) := by
  refine Ct.ofW (cc := cX5_cross) (maxL := 5) (ret := (some .int)) (R_C := RX5) (by decide +kernel) rfl rfl (Nat.le_of_ble_eq_true rfl) rfl ?_
  intro p e s m args below meth c A Q ls H locs hx hb hml hown hts hK hA hP hD hS hZ hl hri hrl hrv
  refine lv_aload_n hx hb dX5_cross_0 rfl (lv_at hl 0 rfl) ?_
  refine fx_callV (As := []) (rest := []) ⟨hx, hb, hml, hown, hts⟩ (c_X5_layLeans l D cI cJ cZ z mn mi ms mtk mso mwh mfi mse mth mpu mno mlo mbe mre mis mca mpa mva mle mst mtn mln mne mgo (by first | assumption | omega) (by first | assumption | omega) (by first | assumption | omega) (fun j hj h => by have := hws j hj h; omega)) (cwV 0 hts gX5_cross_X5_layLeans rfl rfl rfl kv_X5_layLeans ⟨Nat.le_of_ble_eq_true rfl, Nat.le_of_ble_eq_true rfl⟩) hK hP hD hS hA hZ 0 rfl rfl rfl rfl hl.1 rfl (lv_room (Nat.le_of_ble_eq_true rfl)) dX5_cross_1 ⟨Nat.zero_le _, Nat.zero_le _⟩ (fun u_1 H locs hu_1 hP hD hS => ?_)
  have hP : va_P D vwCl (wM z cI cZ mn mi ms mtk mso mwh mfi mse mth mpu mno mlo mbe mre mis mca mpa mva mle mst mtn (srcT mso mfi mse mth mwh mln mn) mne mgo) H := hP
  have hD : va_D A (wM z cI cZ mn mi ms mtk mso mwh mfi mse mth mpu mno mlo mbe mre mis mca mpa mva mle mst mtn (srcT mso mfi mse mth mwh mln mn) mne mgo) := fx_D hD rfl
  refine lv_iconst (v := nI 0) hx hb dX5_cross_4 (by decide) ?_
  refine lv_istore_n (lv' := [(2, .int (nI 0)), (0, .ref (z 0)), (1, .int (nI i))]) hx hb dX5_cross_5 rfl hl (by decide) rfl (fun ls hl => ?_)
  refine lv_iconst (v := nI 0) hx hb dX5_cross_6 (by decide) ?_
  refine lv_istore_n (lv' := [(3, .int (nI 0)), (2, .int (nI 0)), (0, .ref (z 0)), (1, .int (nI i))]) hx hb dX5_cross_7 rfl hl (by decide) rfl (fun ls hl => ?_)
  have L_8 : ∀ (fuel : Nat) (n : Nat) (a : Nat) (k : Nat) (hn : a + n = ms) (hk : k ≤ 6 * a) (hr1 : crK (crP mlo mre (srcT mso mfi mse mth mwh mln mn)) (fun ja jb => nI (100 * mno ja + mno jb)) i ms n a k = crK (crP mlo mre (srcT mso mfi mse mth mwh mln mn)) (fun ja jb => nI (100 * mno ja + mno jb)) i ms ms 0 0) (hfu : n < fuel) (H : Heap) (locs : List Loc), va_P D vwCl (wM z cI cZ mn mi ms mtk mso mwh mfi mse mth mpu mno mlo mbe mre mis mca mpa mva mle mst mtn (srcT mso mfi mse mth mwh mln mn) mne mgo) H → va_D A (wM z cI cZ mn mi ms mtk mso mwh mfi mse mth mpu mno mlo mbe mre mis mca mpa mva mle mst mtn (srcT mso mfi mse mth mwh mln mn) mne mgo) → va_S A s.heap H locs → ∀ ls : Array Slot, lv_has ls 5 [(0, .ref (z 0)), (1, .int (nI i)), (2, .int (nI k)), (3, .int (nI a))] → W p l e ({ frames := 1, cells := 0, slots := 0, locals := 21 } : Room) s m args below meth c H locs 0 0 Q (F0 m 8 ls []) := by
    intro fuel
    induction fuel with
    | zero => intro n a k hn hk hr1 hfu; exact absurd hfu (Nat.not_lt_zero _)
    | succ fuel ih_8 =>
      intro n a k hn hk hr1 hfu H locs hP hD hS ls hl
      refine lv_iload_n hx hb dX5_cross_8 rfl (lv_at hl 3 rfl) ?_
      refine lv_aload_n hx hb dX5_cross_9 rfl (lv_at hl 0 rfl) ?_
      refine va_get (D := D) (ci := 5) (v := .int (nI ms)) (C := RX5) (T := TX5) (N := 24) hx hb hts (fun w h => List.mem_cons_of_mem _ (List.mem_append_right _ h)) hown hK hP 0 rfl rfl 8 (by decide) (hts (.fieldLink RX5 85 "FirstStatesModel" "stores" "I") (List.mem_of_getElem? (i := 1) rfl)) (fun _ h9 => h9) rfl dX5_cross_10 ?_
      refine lv_icmp_ge (tgt := 102) hx hb dX5_cross_13 (by decide) (fun c_13 => ?_) (fun c_13 => ?_)
      · have f_13 : ms ≤ a := (nI_leI (a := ms) (b := a) (by first | omega | exact b_and1 _ | exact b_ct _ _ (by omega) | exact b_andr _ (by omega)) (by first | omega | exact b_and1 _ | exact b_ct _ _ (by omega) | exact b_andr _ (by omega))).mp c_13
        refine lv_iload_n hx hb dX5_cross_102 rfl (lv_at hl 1 rfl) ?_
        refine lv_if_ge (tgt := 110) hx hb dX5_cross_103 (by decide) (fun c_103 => ?_) (fun c_103 => ?_)
        · have f_103 : 0 ≤ i := (nI_leI (a := 0) (b := i) (by first | omega | exact b_and1 _ | exact b_ct _ _ (by omega) | exact b_andr _ (by omega)) (by first | omega | exact b_and1 _ | exact b_ct _ _ (by omega) | exact b_andr _ (by omega))).mp c_103
          refine lv_bipush (v := (-9)) hx hb dX5_cross_110 (by decide) ?_
          exact hri () _ H locs 112 ls .int rfl rfl trivial (by rw [← hr1, show n = 0 by omega]; rfl) hP hD hS dX5_cross_112
        have f_103 : ¬ 0 ≤ i := fun h => c_103 ((nI_leI (a := 0) (b := i) (by first | omega | exact b_and1 _ | exact b_ct _ _ (by omega) | exact b_andr _ (by omega)) (by first | omega | exact b_and1 _ | exact b_ct _ _ (by omega) | exact b_andr _ (by omega))).mpr h)
        exfalso; exact c_103 (nI_pos' hi)
      have f_13 : ¬ ms ≤ a := fun h => c_13 ((nI_leI (a := ms) (b := a) (by first | omega | exact b_and1 _ | exact b_ct _ _ (by omega) | exact b_andr _ (by omega)) (by first | omega | exact b_and1 _ | exact b_ct _ _ (by omega) | exact b_andr _ (by omega))).mpr h)
      obtain ⟨n1, rfl⟩ : ∃ n1, n = n1 + 1 := ⟨n - 1, by omega⟩
      refine lv_iconst (v := nI 0) hx hb dX5_cross_16 (by decide) ?_
      refine lv_istore (lv' := [(4, .int (nI 0)), (0, .ref (z 0)), (1, .int (nI i)), (2, .int (nI k)), (3, .int (nI a))]) hx hb dX5_cross_17 hl (by decide) rfl (fun ls hl => ?_)
      have L_19 : ∀ (fuel : Nat) (m2 : Nat) (b : Nat) (k2 : Nat) (hm2 : b + m2 = ms) (hk2 : k2 ≤ 6 * a + b) (hin2 : crJ (crP mlo mre (srcT mso mfi mse mth mwh mln mn) a) ((fun ja jb => nI (100 * mno ja + mno jb)) a) i m2 b k2 = crJ (crP mlo mre (srcT mso mfi mse mth mwh mln mn) a) ((fun ja jb => nI (100 * mno ja + mno jb)) a) i ms 0 k) (hfu : m2 < fuel) (H : Heap) (locs : List Loc), va_P D vwCl (wM z cI cZ mn mi ms mtk mso mwh mfi mse mth mpu mno mlo mbe mre mis mca mpa mva mle mst mtn (srcT mso mfi mse mth mwh mln mn) mne mgo) H → va_D A (wM z cI cZ mn mi ms mtk mso mwh mfi mse mth mpu mno mlo mbe mre mis mca mpa mva mle mst mtn (srcT mso mfi mse mth mwh mln mn) mne mgo) → va_S A s.heap H locs → ∀ ls : Array Slot, lv_has ls 5 [(0, .ref (z 0)), (1, .int (nI i)), (2, .int (nI k2)), (3, .int (nI a)), (4, .int (nI b))] → W p l e ({ frames := 1, cells := 0, slots := 0, locals := 21 } : Room) s m args below meth c H locs 0 0 Q (F0 m 19 ls []) := by
        intro fuel
        induction fuel with
        | zero => intro m2 b k2 hm2 hk2 hin2 hfu; exact absurd hfu (Nat.not_lt_zero _)
        | succ fuel ih_19 =>
          intro m2 b k2 hm2 hk2 hin2 hfu H locs hP hD hS ls hl
          refine lv_iload hx hb dX5_cross_19 (lv_at hl 4 rfl) ?_
          refine lv_aload_n hx hb dX5_cross_21 rfl (lv_at hl 0 rfl) ?_
          refine va_get (D := D) (ci := 5) (v := .int (nI ms)) (C := RX5) (T := TX5) (N := 24) hx hb hts (fun w h => List.mem_cons_of_mem _ (List.mem_append_right _ h)) hown hK hP 0 rfl rfl 8 (by decide) (hts (.fieldLink RX5 85 "FirstStatesModel" "stores" "I") (List.mem_of_getElem? (i := 1) rfl)) (fun _ h9 => h9) rfl dX5_cross_22 ?_
          refine lv_icmp_ge (tgt := 96) hx hb dX5_cross_25 (by decide) (fun c_25 => ?_) (fun c_25 => ?_)
          · have f_25 : ms ≤ b := (nI_leI (a := ms) (b := b) (by first | omega | exact b_and1 _ | exact b_ct _ _ (by omega) | exact b_andr _ (by omega)) (by first | omega | exact b_and1 _ | exact b_ct _ _ (by omega) | exact b_andr _ (by omega))).mp c_25
            refine lv_iinc (v := nI (a + 1)) (lv' := [(3, .int (nI (a + 1))), (0, .ref (z 0)), (1, .int (nI i)), (2, .int (nI k2)), (4, .int (nI b))]) hx hb dX5_cross_96 hl (k := 3) rfl (by exact nI_1 _) (by decide) rfl (fun ls hl => ?_)
            refine lv_goto (tgt := 8) hx hb dX5_cross_99 (by decide) ?_
            exact ih_8 n1 (a + 1) k2 (by first | assumption | omega) (by first | assumption | omega) (by rw [← hr1]; show _ = (match crJ _ _ i ms 0 k with | .inl r => r | .inr zq => _); rw [← hin2, show m2 = 0 by omega]; rfl) (by omega) H locs hP hD hS ls (lv_sub hl [1, 2, 3, 0] rfl)
          have f_25 : ¬ ms ≤ b := fun h => c_25 ((nI_leI (a := ms) (b := b) (by first | omega | exact b_and1 _ | exact b_ct _ _ (by omega) | exact b_andr _ (by omega)) (by first | omega | exact b_and1 _ | exact b_ct _ _ (by omega) | exact b_andr _ (by omega))).mpr h)
          obtain ⟨m3, rfl⟩ : ∃ m3, m2 = m3 + 1 := ⟨m2 - 1, by omega⟩
          have hlo1 := hlo a (by omega)
          have hlo2 := hlo b (by omega)
          have hre1 := hre b (by omega)
          have hsl := srcT_lt (so := mso) (fa := mfi) (fb := mse) (fc := mth) (sn := mwh) (f := mln) hg (fun j hj h => by have := hws j hj h; omega) (Nat.le_refl _) _ hre1
          refine lv_aload_n hx hb dX5_cross_28 rfl (lv_at hl 0 rfl) ?_
          refine va_get (D := D) (ci := 5) (v := .ref (z 8)) (C := RX5) (T := TX5) (N := 24) hx hb hts (fun w h => List.mem_cons_of_mem _ (List.mem_append_right _ h)) hown hK hP 0 rfl rfl 10 (by decide) (hts (.fieldLink RX5 31 "FirstStatesModel" "lineOf" "[I") (List.mem_of_getElem? (i := 2) rfl)) (fun _ h9 => h9) rfl dX5_cross_29 ?_
          refine lv_iload_n hx hb dX5_cross_32 rfl (lv_at hl 3 rfl) ?_
          refine fx_iald (ar := lI) hx hb hK hP 8 (f := mlo) (k := a) rfl (by omega) (by decide) dX5_cross_33 ?_
          refine lv_aload_n hx hb dX5_cross_34 rfl (lv_at hl 0 rfl) ?_
          refine va_get (D := D) (ci := 5) (v := .ref (z 8)) (C := RX5) (T := TX5) (N := 24) hx hb hts (fun w h => List.mem_cons_of_mem _ (List.mem_append_right _ h)) hown hK hP 0 rfl rfl 10 (by decide) (hts (.fieldLink RX5 31 "FirstStatesModel" "lineOf" "[I") (List.mem_of_getElem? (i := 2) rfl)) (fun _ h9 => h9) rfl dX5_cross_35 ?_
          refine lv_iload hx hb dX5_cross_38 (lv_at hl 4 rfl) ?_
          refine fx_iald (ar := lI) hx hb hK hP 8 (f := mlo) (k := b) rfl (by omega) (by decide) dX5_cross_40 ?_
          refine lv_icmp_eq (tgt := 90) hx hb dX5_cross_41 (by decide) (fun c_41 => ?_) (fun c_41 => ?_)
          · have f_41 : (mlo a) = (mlo b) := (lI_eq (by first | omega | exact b_and1 _ | exact b_ct _ _ (by omega) | exact b_andr _ (by omega)) (by first | omega | exact b_and1 _ | exact b_ct _ _ (by omega) | exact b_andr _ (by omega))).mp c_41
            refine lv_iinc (v := nI (b + 1)) (lv' := [(4, .int (nI (b + 1))), (0, .ref (z 0)), (1, .int (nI i)), (2, .int (nI k2)), (3, .int (nI a))]) hx hb dX5_cross_90 hl (k := 4) rfl (by exact nI_1 _) (by decide) rfl (fun ls hl => ?_)
            refine lv_goto (tgt := 19) hx hb dX5_cross_93 (by decide) ?_
            exact ih_19 m3 (b + 1) k2 (by first | assumption | omega) (by first | assumption | omega) (by rw [← hin2]; simp [crJ, crP, f_41]) (by omega) H locs hP hD hS ls (lv_sub hl [1, 2, 3, 4, 0] rfl)
          have f_41 : ¬ (mlo a) = (mlo b) := fun h => c_41 ((lI_eq (by first | omega | exact b_and1 _ | exact b_ct _ _ (by omega) | exact b_andr _ (by omega)) (by first | omega | exact b_and1 _ | exact b_ct _ _ (by omega) | exact b_andr _ (by omega))).mpr h)
          refine lv_aload_n hx hb dX5_cross_44 rfl (lv_at hl 0 rfl) ?_
          refine va_get (D := D) (ci := 5) (v := .ref (z 18)) (C := RX5) (T := TX5) (N := 24) hx hb hts (fun w h => List.mem_cons_of_mem _ (List.mem_append_right _ h)) hown hK hP 0 rfl rfl 21 (by decide) (hts (.fieldLink RX5 62 "FirstStatesModel" "leans" "[I") (List.mem_of_getElem? (i := 3) rfl)) (fun _ h9 => h9) rfl dX5_cross_45 ?_
          refine lv_aload_n hx hb dX5_cross_48 rfl (lv_at hl 0 rfl) ?_
          refine va_get (D := D) (ci := 5) (v := .ref (z 10)) (C := RX5) (T := TX5) (N := 24) hx hb hts (fun w h => List.mem_cons_of_mem _ (List.mem_append_right _ h)) hown hK hP 0 rfl rfl 12 (by decide) (hts (.fieldLink RX5 37 "FirstStatesModel" "read" "[I") (List.mem_of_getElem? (i := 4) rfl)) (fun _ h9 => h9) rfl dX5_cross_49 ?_
          refine lv_iload hx hb dX5_cross_52 (lv_at hl 4 rfl) ?_
          refine fx_iald (ar := nI) hx hb hK hP 10 (f := mre) (k := b) rfl (by omega) (by decide) dX5_cross_54 ?_
          refine fx_iald (ar := nI) hx hb hK hP 18 (f := (srcT mso mfi mse mth mwh mln mn)) (k := (mre b)) rfl (by omega) (by decide) dX5_cross_55 ?_
          refine lv_iload_n hx hb dX5_cross_56 rfl (lv_at hl 3 rfl) ?_
          refine lv_ishr hx hb dX5_cross_57 ?_
          refine fx_eqi (y := nI (((srcT mso mfi mse mth mwh mln mn) (mre b)) >>> a)) (fx_shr (by first | omega | exact b_and1 _ | exact b_ct _ _ (by omega) | exact b_andr _ (by omega)) (by first | omega | exact b_and1 _ | exact b_ct _ _ (by omega) | exact b_andr _ (by omega))) ?_
          refine lv_iconst (v := nI 1) hx hb dX5_cross_58 (by decide) ?_
          refine lv_iand hx hb dX5_cross_59 ?_
          refine fx_eqi (fx_andI _ _) ?_
          refine lv_iconst (v := nI 1) hx hb dX5_cross_60 (by decide) ?_
          refine lv_icmp_ne (tgt := 90) hx hb dX5_cross_61 (by decide) (fun c_61 => ?_) (fun c_61 => ?_)
          · have f_61 : ¬ (((srcT mso mfi mse mth mwh mln mn) (mre b)) >>> a) &&& 1 = 1 := fun h => c_61 ((nI_eq (a := (((srcT mso mfi mse mth mwh mln mn) (mre b)) >>> a) &&& 1) (b := 1) (by first | omega | exact b_and1 _ | exact b_ct _ _ (by omega) | exact b_andr _ (by omega)) (by first | omega | exact b_and1 _ | exact b_ct _ _ (by omega) | exact b_andr _ (by omega))).mpr h)
            refine lv_iinc (v := nI (b + 1)) (lv' := [(4, .int (nI (b + 1))), (0, .ref (z 0)), (1, .int (nI i)), (2, .int (nI k2)), (3, .int (nI a))]) hx hb dX5_cross_90 hl (k := 4) rfl (by exact nI_1 _) (by decide) rfl (fun ls hl => ?_)
            refine lv_goto (tgt := 19) hx hb dX5_cross_93 (by decide) ?_
            exact ih_19 m3 (b + 1) k2 (by first | assumption | omega) (by first | assumption | omega) (by rw [← hin2]; simp [crJ, crP, f_41, tb1_n.mp f_61]) (by omega) H locs hP hD hS ls (lv_sub hl [1, 2, 3, 4, 0] rfl)
          have f_61 : (((srcT mso mfi mse mth mwh mln mn) (mre b)) >>> a) &&& 1 = 1 := (nI_eq (a := (((srcT mso mfi mse mth mwh mln mn) (mre b)) >>> a) &&& 1) (b := 1) (by first | omega | exact b_and1 _ | exact b_ct _ _ (by omega) | exact b_andr _ (by omega)) (by first | omega | exact b_and1 _ | exact b_ct _ _ (by omega) | exact b_andr _ (by omega))).mp c_61
          refine lv_iload_n hx hb dX5_cross_64 rfl (lv_at hl 2 rfl) ?_
          refine lv_iload_n hx hb dX5_cross_65 rfl (lv_at hl 1 rfl) ?_
          refine lv_icmp_ne (tgt := 87) hx hb dX5_cross_66 (by decide) (fun c_66 => ?_) (fun c_66 => ?_)
          · have f_66 : ¬ k2 = i := fun h => c_66 ((nI_eq (a := k2) (b := i) (by first | omega | exact b_and1 _ | exact b_ct _ _ (by omega) | exact b_andr _ (by omega)) (by first | omega | exact b_and1 _ | exact b_ct _ _ (by omega) | exact b_andr _ (by omega))).mpr h)
            refine lv_iinc (v := nI (k2 + 1)) (lv' := [(2, .int (nI (k2 + 1))), (0, .ref (z 0)), (1, .int (nI i)), (3, .int (nI a)), (4, .int (nI b))]) hx hb dX5_cross_87 hl (k := 2) rfl (by exact nI_1 _) (by decide) rfl (fun ls hl => ?_)
            refine lv_iinc (v := nI (b + 1)) (lv' := [(4, .int (nI (b + 1))), (2, .int (nI (k2 + 1))), (0, .ref (z 0)), (1, .int (nI i)), (3, .int (nI a))]) hx hb dX5_cross_90 hl (k := 4) rfl (by exact nI_1 _) (by decide) rfl (fun ls hl => ?_)
            refine lv_goto (tgt := 19) hx hb dX5_cross_93 (by decide) ?_
            exact ih_19 m3 (b + 1) (k2 + 1) (by first | assumption | omega) (by first | assumption | omega) (by rw [← hin2]; simp [crJ, crP, f_41, tb1.mp f_61, f_66]) (by omega) H locs hP hD hS ls (lv_sub hl [2, 3, 1, 4, 0] rfl)
          have f_66 : k2 = i := (nI_eq (a := k2) (b := i) (by first | omega | exact b_and1 _ | exact b_ct _ _ (by omega) | exact b_andr _ (by omega)) (by first | omega | exact b_and1 _ | exact b_ct _ _ (by omega) | exact b_andr _ (by omega))).mp c_66
          have hno1 := hno a (by omega)
          have hno2 := hno b (by omega)
          refine lv_bipush (v := nI 100) hx hb dX5_cross_69 (by decide) ?_
          refine lv_aload_n hx hb dX5_cross_71 rfl (lv_at hl 0 rfl) ?_
          refine va_get (D := D) (ci := 5) (v := .ref (z 7)) (C := RX5) (T := TX5) (N := 24) hx hb hts (fun w h => List.mem_cons_of_mem _ (List.mem_append_right _ h)) hown hK hP 0 rfl rfl 9 (by decide) (hts (.fieldLink RX5 28 "FirstStatesModel" "node" "[I") (List.mem_of_getElem? (i := 5) rfl)) (fun _ h9 => h9) rfl dX5_cross_72 ?_
          refine lv_iload_n hx hb dX5_cross_75 rfl (lv_at hl 3 rfl) ?_
          refine fx_iald (ar := nI) hx hb hK hP 7 (f := mno) (k := a) rfl (by omega) (by decide) dX5_cross_76 ?_
          refine lv_imul hx hb dX5_cross_77 ?_
          refine fx_eqi (pk_mul _ _) ?_
          refine lv_aload_n hx hb dX5_cross_78 rfl (lv_at hl 0 rfl) ?_
          refine va_get (D := D) (ci := 5) (v := .ref (z 7)) (C := RX5) (T := TX5) (N := 24) hx hb hts (fun w h => List.mem_cons_of_mem _ (List.mem_append_right _ h)) hown hK hP 0 rfl rfl 9 (by decide) (hts (.fieldLink RX5 28 "FirstStatesModel" "node" "[I") (List.mem_of_getElem? (i := 5) rfl)) (fun _ h9 => h9) rfl dX5_cross_79 ?_
          refine lv_iload hx hb dX5_cross_82 (lv_at hl 4 rfl) ?_
          refine fx_iald (ar := nI) hx hb hK hP 7 (f := mno) (k := b) rfl (by omega) (by decide) dX5_cross_84 ?_
          refine lv_iadd hx hb dX5_cross_85 ?_
          refine fx_eqi (nI_add _ _) ?_
          exact hri () _ H locs 86 ls .int rfl rfl trivial (by rw [← hr1]; show some (Value.int (match crJ _ _ i ms 0 k with | .inl r => r | .inr zq => _)) = _; rw [← hin2]; simp [crJ, crP, f_41, tb1.mp f_61, f_66]) hP hD hS dX5_cross_86
      exact L_19 (ms + 1) ms 0 k (by omega) (by first | assumption | omega) rfl (Nat.lt_succ_self _) H locs hP hD hS ls (lv_sub hl [1, 2, 3, 4, 0] rfl)
  exact L_8 (ms + 1) ms 0 0 (by omega) (Nat.zero_le _) rfl (Nat.lt_succ_self _) H locs hP hD hS ls (lv_sub hl [2, 3, 1, 0] rfl)
set_option maxHeartbeats 4000000 in
set_option maxRecDepth 100000 in
theorem c_X5_crossings (l : Launch) (D : va_G) (cI cJ cZ : ClassId) (z : Nat → Nat) (mn : Nat) (mi : Nat) (ms : Nat) (mtk : Nat) (mso : Nat → Nat) (mwh : Nat → Nat) (mfi : Nat → Nat) (mse : Nat → Nat) (mth : Nat → Nat) (mpu : Nat → Nat) (mno : Nat → Nat) (mlo : Nat → Nat) (mbe : Nat → Nat) (mre : Nat → Nat) (mis : Nat → Bool) (mca : Nat → Bool) (mpa : Nat → Nat) (mva : Nat → Nat) (mle : Nat → Nat) (mst : Nat → Bool) (mtn : Nat → Bool) (mln : Nat → Nat) (mne : Nat → Int32) (mgo : Nat → Int32) (hmn : mn ≤ 32) (hms : ms ≤ 6) (hso : ∀ j, j < mn → mso j ≤ 3) (hg : ∀ j, j < mn → mso j = 2 → mfi j < j ∧ mse j < j ∧ mth j < j) (hws : ∀ j, j < mn → mso j = 3 → mwh j < ms) (hre : ∀ i, i < ms → mre i < mn) (hlo : ∀ i, i < ms → mlo i ≤ 4) (hno : ∀ i, i < ms → mno i < mn) : Ct l D cI cJ cZ yX5_crossings wsX5_crossings ({ frames := 2, cells := 0, slots := 0, locals := 45 } : Room) 0 0 [.ref (z 0)] (wM z cI cZ mn mi ms mtk mso mwh mfi mse mth mpu mno mlo mbe mre mis mca mpa mva mle mst mtn mln mne mgo) (S := Unit) (fun u => True) (fun u => some (.int (nI (sm2 (crP mlo mre (srcT mso mfi mse mth mwh mln mn)) ms ms)))) (fun u => (wM z cI cZ mn mi ms mtk mso mwh mfi mse mth mpu mno mlo mbe mre mis mca mpa mva mle mst mtn (srcT mso mfi mse mth mwh mln mn) mne mgo)) := by
  refine Ct.ofW (cc := cX5_crossings) (maxL := 1) (ret := (some .int)) (R_C := RX5) (by decide +kernel) rfl rfl (Nat.le_of_ble_eq_true rfl) rfl ?_
  intro p e s m args below meth c A Q ls H locs hx hb hml hown hts hK hA hP hD hS hZ hl hri hrl hrv
  refine lv_aload_n hx hb dX5_crossings_0 rfl (lv_at hl 0 rfl) ?_
  refine lv_iconst (v := (-1)) hx hb dX5_crossings_1 (by decide) ?_
  refine fx_callV (As := [.int (-1)]) (rest := []) ⟨hx, hb, hml, hown, hts⟩ (c_X5_cross_c l D cI cJ cZ z mn mi ms mtk mso mwh mfi mse mth mpu mno mlo mbe mre mis mca mpa mva mle mst mtn mln mne mgo (-1) (by decide) (by first | assumption | omega) (by first | assumption | omega) (by first | assumption | omega) (by first | assumption | omega) (by first | assumption | omega) (by first | assumption | omega) (by first | assumption | omega) (by first | assumption | omega)) (cwV 1 hts gX5_crossings_X5_cross rfl rfl rfl kv_X5_cross ⟨Nat.le_of_ble_eq_true rfl, Nat.le_of_ble_eq_true rfl⟩) hK hP hD hS hA hZ 0 rfl rfl rfl rfl hl.1 rfl (lv_room (Nat.le_of_ble_eq_true rfl)) dX5_crossings_2 ⟨Nat.zero_le _, Nat.zero_le _⟩ (fun u_1 H locs hu_1 hP hD hS => ?_)
  have hP : va_P D vwCl (wM z cI cZ mn mi ms mtk mso mwh mfi mse mth mpu mno mlo mbe mre mis mca mpa mva mle mst mtn (srcT mso mfi mse mth mwh mln mn) mne mgo) H := hP
  have hD : va_D A (wM z cI cZ mn mi ms mtk mso mwh mfi mse mth mpu mno mlo mbe mre mis mca mpa mva mle mst mtn (srcT mso mfi mse mth mwh mln mn) mne mgo) := fx_D hD rfl
  exact hri () _ H locs 5 ls .int rfl rfl trivial rfl hP hD hS dX5_crossings_5
set_option maxHeartbeats 4000000 in
set_option maxRecDepth 100000 in
theorem c_X5_crossing_n (l : Launch) (D : va_G) (cI cJ cZ : ClassId) (z : Nat → Nat) (mn : Nat) (mi : Nat) (ms : Nat) (mtk : Nat) (mso : Nat → Nat) (mwh : Nat → Nat) (mfi : Nat → Nat) (mse : Nat → Nat) (mth : Nat → Nat) (mpu : Nat → Nat) (mno : Nat → Nat) (mlo : Nat → Nat) (mbe : Nat → Nat) (mre : Nat → Nat) (mis : Nat → Bool) (mca : Nat → Bool) (mpa : Nat → Nat) (mva : Nat → Nat) (mle : Nat → Nat) (mst : Nat → Bool) (mtn : Nat → Bool) (mln : Nat → Nat) (mne : Nat → Int32) (mgo : Nat → Int32) (x : Int32) (hx0 : x < 0) : Ct l D cI cJ cZ yX5_crossing wsX5_crossing ({ frames := 0, cells := 0, slots := 0, locals := 0 } : Room) 0 0 [.ref (z 0), .int x] (wM z cI cZ mn mi ms mtk mso mwh mfi mse mth mpu mno mlo mbe mre mis mca mpa mva mle mst mtn mln mne mgo) (S := Unit) (fun u => True) (fun u => some (.int (-9))) (fun u => (wM z cI cZ mn mi ms mtk mso mwh mfi mse mth mpu mno mlo mbe mre mis mca mpa mva mle mst mtn mln mne mgo)) := by
  refine Ct.ofW (cc := cX5_crossing) (maxL := 2) (ret := (some .int)) (R_C := RX5) (by decide +kernel) rfl rfl (Nat.le_of_ble_eq_true rfl) rfl ?_
  intro p e s m args below meth c A Q ls H locs hx hb hml hown hts hK hA hP hD hS hZ hl hri hrl hrv
  refine lv_iload_n hx hb dX5_crossing_0 rfl (lv_at hl 1 rfl) ?_
  refine lv_if_ge (tgt := 9) hx hb dX5_crossing_1 (by decide) (fun c_1 => ?_) (fun c_1 => ?_)
  · exfalso; exact absurd hx0 (Int32.not_lt.mpr c_1)
  refine lv_bipush (v := (-9)) hx hb dX5_crossing_4 (by decide) ?_
  refine lv_goto (tgt := 14) hx hb dX5_crossing_6 (by decide) ?_
  exact hri () _ H locs 14 ls .int rfl rfl trivial rfl hP hD hS dX5_crossing_14
set_option maxHeartbeats 4000000 in
set_option maxRecDepth 100000 in
theorem c_X5_crossing (l : Launch) (D : va_G) (cI cJ cZ : ClassId) (z : Nat → Nat) (mn : Nat) (mi : Nat) (ms : Nat) (mtk : Nat) (mso : Nat → Nat) (mwh : Nat → Nat) (mfi : Nat → Nat) (mse : Nat → Nat) (mth : Nat → Nat) (mpu : Nat → Nat) (mno : Nat → Nat) (mlo : Nat → Nat) (mbe : Nat → Nat) (mre : Nat → Nat) (mis : Nat → Bool) (mca : Nat → Bool) (mpa : Nat → Nat) (mva : Nat → Nat) (mle : Nat → Nat) (mst : Nat → Bool) (mtn : Nat → Bool) (mln : Nat → Nat) (mne : Nat → Int32) (mgo : Nat → Int32) (i : Nat) (hi : i < 2 ^ 31) (hmn : mn ≤ 32) (hms : ms ≤ 6) (hso : ∀ j, j < mn → mso j ≤ 3) (hg : ∀ j, j < mn → mso j = 2 → mfi j < j ∧ mse j < j ∧ mth j < j) (hws : ∀ j, j < mn → mso j = 3 → mwh j < ms) (hre : ∀ i, i < ms → mre i < mn) (hlo : ∀ i, i < ms → mlo i ≤ 4) (hno : ∀ i, i < ms → mno i < mn) : Ct l D cI cJ cZ yX5_crossing wsX5_crossing ({ frames := 2, cells := 0, slots := 0, locals := 45 } : Room) 0 0 [.ref (z 0), .int (nI i)] (wM z cI cZ mn mi ms mtk mso mwh mfi mse mth mpu mno mlo mbe mre mis mca mpa mva mle mst mtn mln mne mgo) (S := Unit) (fun u => True) (fun u => some (.int (crK (crP mlo mre (srcT mso mfi mse mth mwh mln mn)) (fun ja jb => nI (100 * mno ja + mno jb)) i ms ms 0 0))) (fun u => (wM z cI cZ mn mi ms mtk mso mwh mfi mse mth mpu mno mlo mbe mre mis mca mpa mva mle mst mtn (srcT mso mfi mse mth mwh mln mn) mne mgo)) := by
  refine Ct.ofW (cc := cX5_crossing) (maxL := 2) (ret := (some .int)) (R_C := RX5) (by decide +kernel) rfl rfl (Nat.le_of_ble_eq_true rfl) rfl ?_
  intro p e s m args below meth c A Q ls H locs hx hb hml hown hts hK hA hP hD hS hZ hl hri hrl hrv
  refine lv_iload_n hx hb dX5_crossing_0 rfl (lv_at hl 1 rfl) ?_
  refine lv_if_ge (tgt := 9) hx hb dX5_crossing_1 (by decide) (fun c_1 => ?_) (fun c_1 => ?_)
  · have f_1 : 0 ≤ i := (nI_leI (a := 0) (b := i) (by first | omega | exact b_and1 _ | exact b_ct _ _ (by omega) | exact b_andr _ (by omega)) (by first | omega | exact b_and1 _ | exact b_ct _ _ (by omega) | exact b_andr _ (by omega))).mp c_1
    refine lv_aload_n hx hb dX5_crossing_9 rfl (lv_at hl 0 rfl) ?_
    refine lv_iload_n hx hb dX5_crossing_10 rfl (lv_at hl 1 rfl) ?_
    refine fx_callV (As := [.int (nI i)]) (rest := []) ⟨hx, hb, hml, hown, hts⟩ (c_X5_cross_i l D cI cJ cZ z mn mi ms mtk mso mwh mfi mse mth mpu mno mlo mbe mre mis mca mpa mva mle mst mtn mln mne mgo i (by first | assumption | omega) (by first | assumption | omega) (by first | assumption | omega) (by first | assumption | omega) (by first | assumption | omega) (by first | assumption | omega) (by first | assumption | omega) (by first | assumption | omega) (by first | assumption | omega)) (cwV 1 hts gX5_crossing_X5_cross rfl rfl rfl kv_X5_cross ⟨Nat.le_of_ble_eq_true rfl, Nat.le_of_ble_eq_true rfl⟩) hK hP hD hS hA hZ 0 rfl rfl rfl rfl hl.1 rfl (lv_room (Nat.le_of_ble_eq_true rfl)) dX5_crossing_11 ⟨Nat.zero_le _, Nat.zero_le _⟩ (fun u_1 H locs hu_1 hP hD hS => ?_)
    have hP : va_P D vwCl (wM z cI cZ mn mi ms mtk mso mwh mfi mse mth mpu mno mlo mbe mre mis mca mpa mva mle mst mtn (srcT mso mfi mse mth mwh mln mn) mne mgo) H := hP
    have hD : va_D A (wM z cI cZ mn mi ms mtk mso mwh mfi mse mth mpu mno mlo mbe mre mis mca mpa mva mle mst mtn (srcT mso mfi mse mth mwh mln mn) mne mgo) := fx_D hD rfl
    exact hri () _ H locs 14 ls .int rfl rfl trivial rfl hP hD hS dX5_crossing_14
  have f_1 : ¬ 0 ≤ i := fun h => c_1 ((nI_leI (a := 0) (b := i) (by first | omega | exact b_and1 _ | exact b_ct _ _ (by omega) | exact b_andr _ (by omega)) (by first | omega | exact b_and1 _ | exact b_ct _ _ (by omega) | exact b_andr _ (by omega))).mpr h)
  exfalso; exact c_1 (nI_pos' hi)
set_option maxHeartbeats 4000000 in
set_option maxRecDepth 100000 in
theorem c_X5_alone_u (l : Launch) (D : va_G) (cI cJ cZ : ClassId) (z : Nat → Nat) (mn : Nat) (mi : Nat) (ms : Nat) (mtk : Nat) (mso : Nat → Nat) (mwh : Nat → Nat) (mfi : Nat → Nat) (mse : Nat → Nat) (mth : Nat → Nat) (mpu : Nat → Nat) (mno : Nat → Nat) (mlo : Nat → Nat) (mbe : Nat → Nat) (mre : Nat → Nat) (mis : Nat → Bool) (mca : Nat → Bool) (mpa : Nat → Nat) (mva : Nat → Nat) (mle : Nat → Nat) (mst : Nat → Bool) (mtn : Nat → Bool) (mln : Nat → Nat) (mne : Nat → Int32) (mgo : Nat → Int32) (x : Int32) (hl4 : isN 4 x = false) : Ct l D cI cJ cZ yX5_alone wsX5_alone ({ frames := 1, cells := 0, slots := 0, locals := 22 } : Room) 0 0 [.ref (z 0), .int x] (wM z cI cZ mn mi ms mtk mso mwh mfi mse mth mpu mno mlo mbe mre mis mca mpa mva mle mst mtn mln mne mgo) (S := Unit) (fun u => True) (fun u => some (.int (-1))) (fun u => (wM z cI cZ mn mi ms mtk mso mwh mfi mse mth mpu mno mlo mbe mre mis mca mpa mva mle mst mtn mln mne mgo)) := by
  refine Ct.ofW (cc := cX5_alone) (maxL := 4) (ret := (some .int)) (R_C := RX5) (by decide +kernel) rfl rfl (Nat.le_of_ble_eq_true rfl) rfl ?_
  intro p e s m args below meth c A Q ls H locs hx hb hml hown hts hK hA hP hD hS hZ hl hri hrl hrv
  refine lv_iload_n hx hb dX5_alone_0 rfl (lv_at hl 1 rfl) ?_
  refine lv_iconst (v := nI 0) hx hb dX5_alone_1 (by decide) ?_
  refine lv_iconst (v := nI 3) hx hb dX5_alone_2 (by decide) ?_
  refine fx_callS (As := [.int x, .int (nI 0), .int (nI 3)]) (rest := []) ⟨hx, hb, hml, hown, hts⟩ (c_X5_in l D cI cJ cZ (wM z cI cZ mn mi ms mtk mso mwh mfi mse mth mpu mno mlo mbe mre mis mca mpa mva mle mst mtn mln mne mgo) x (nI 0) (nI 3)) (va_cwS 3 hts gX5_alone_X5_in rfl rfl rfl ks_X5_in ⟨Nat.le_of_ble_eq_true rfl, Nat.le_of_ble_eq_true rfl⟩) hK hP hD hS hA hZ rfl hl.1 rfl (lv_room (Nat.le_of_ble_eq_true rfl)) dX5_alone_3 ⟨Nat.zero_le _, Nat.zero_le _⟩ (fun u_1 H locs hu_1 hP hD hS => ?_)
  refine lv_if_ne (tgt := 11) hx hb dX5_alone_6 (by decide) (fun c_6 => ?_) (fun c_6 => ?_)
  · have f_6 : (inB x (nI 0) (nI 3)) = true := bI_n0.mp c_6
    exfalso; rw [inB_3, hl4] at f_6; cases f_6
  have f_6 : (inB x (nI 0) (nI 3)) = false := bI_0.mp c_6
  refine lv_iconst (v := (-1)) hx hb dX5_alone_9 (by decide) ?_
  exact hri () _ H locs 10 ls .int rfl rfl trivial rfl hP hD hS dX5_alone_10
set_option maxHeartbeats 4000000 in
set_option maxRecDepth 100000 in
theorem c_X5_alone (l : Launch) (D : va_G) (cI cJ cZ : ClassId) (z : Nat → Nat) (mn : Nat) (mi : Nat) (ms : Nat) (mtk : Nat) (mso : Nat → Nat) (mwh : Nat → Nat) (mfi : Nat → Nat) (mse : Nat → Nat) (mth : Nat → Nat) (mpu : Nat → Nat) (mno : Nat → Nat) (mlo : Nat → Nat) (mbe : Nat → Nat) (mre : Nat → Nat) (mis : Nat → Bool) (mca : Nat → Bool) (mpa : Nat → Nat) (mva : Nat → Nat) (mle : Nat → Nat) (mst : Nat → Bool) (mtn : Nat → Bool) (mln : Nat → Nat) (mne : Nat → Int32) (mgo : Nat → Int32) (k : Nat) (hmn : mn ≤ 32) (hmi : mi ≤ 4) (hms : ms ≤ 6) (hso : ∀ j, j < mn → mso j ≤ 3) (hwk : ∀ j, j < mn → mso j = 2 → mwh j ≤ 4) (hg : ∀ j, j < mn → mso j = 2 → mfi j < j ∧ mse j < j ∧ mth j < j) (hwf : ∀ j, j < mn → mso j = 1 → mwh j ≤ 1) (hwi : ∀ j, j < mn → mso j = 0 → mwh j < mi) (hws : ∀ j, j < mn → mso j = 3 → mwh j < ms) (hpu : ∀ i, i < mi → mpu i ≤ 2) (hre : ∀ i, i < ms → mre i < mn) (hbe : ∀ i, i < ms → mbe i ≤ 1) (hlo : ∀ i, i < ms → mlo i ≤ 4) (hk : k < 4) : Ct l D cI cJ cZ yX5_alone wsX5_alone ({ frames := 3, cells := 0, slots := 0, locals := 72 } : Room) 0 0 [.ref (z 0), .int (lI k)] (wM z cI cZ mn mi ms mtk mso mwh mfi mse mth mpu mno mlo mbe mre mis mca mpa mva mle mst mtn mln mne mgo) (S := (Nat → Nat) × (Nat → Nat) × (Nat → Bool) × (Nat → Bool)) (fun u => True) (fun u => some (.int (setG (stpF mpu (trC mso mwh mfi mse mth mre mbe mn ms (bN (fun jj => decide (mlo jj = k)) ms)) true mi ms) 65 0 (allP ms)))) (fun u => (wM z cI cZ mn mi ms mtk mso mwh mfi mse mth mpu mno mlo mbe mre mis mca mpa u.1 u.2.1 u.2.2.1 u.2.2.2 mln mne mgo)) := by
  refine Ct.ofW (cc := cX5_alone) (maxL := 4) (ret := (some .int)) (R_C := RX5) (by decide +kernel) rfl rfl (Nat.le_of_ble_eq_true rfl) rfl ?_
  intro p e s m args below meth c A Q ls H locs hx hb hml hown hts hK hA hP hD hS hZ hl hri hrl hrv
  refine lv_iload_n hx hb dX5_alone_0 rfl (lv_at hl 1 rfl) ?_
  refine lv_iconst (v := nI 0) hx hb dX5_alone_1 (by decide) ?_
  refine lv_iconst (v := nI 3) hx hb dX5_alone_2 (by decide) ?_
  refine fx_callS (As := [.int (lI k), .int (nI 0), .int (nI 3)]) (rest := []) ⟨hx, hb, hml, hown, hts⟩ (c_X5_in l D cI cJ cZ (wM z cI cZ mn mi ms mtk mso mwh mfi mse mth mpu mno mlo mbe mre mis mca mpa mva mle mst mtn mln mne mgo) (lI k) (nI 0) (nI 3)) (va_cwS 3 hts gX5_alone_X5_in rfl rfl rfl ks_X5_in ⟨Nat.le_of_ble_eq_true rfl, Nat.le_of_ble_eq_true rfl⟩) hK hP hD hS hA hZ rfl hl.1 rfl (lv_room (Nat.le_of_ble_eq_true rfl)) dX5_alone_3 ⟨Nat.zero_le _, Nat.zero_le _⟩ (fun u_1 H locs hu_1 hP hD hS => ?_)
  refine lv_if_ne (tgt := 11) hx hb dX5_alone_6 (by decide) (fun c_6 => ?_) (fun c_6 => ?_)
  · have f_6 : (inB (lI k) (nI 0) (nI 3)) = true := bI_n0.mp c_6
    have hp6 : 2 ^ ms ≤ 64 := Nat.pow_le_pow_right (by omega) hms
    refine lv_aload_n hx hb dX5_alone_11 rfl (lv_at hl 0 rfl) ?_
    refine fx_callV (As := []) (rest := []) ⟨hx, hb, hml, hown, hts⟩ (c_X5_layLeads l D cI cJ cZ z mn mi ms mtk mso mwh mfi mse mth mpu mno mlo mbe mre mis mca mpa mva mle mst mtn mln mne mgo (by first | assumption | omega) (by first | assumption | omega) (by first | assumption | omega) (by first | assumption | omega) (by first | assumption | omega) (by first | assumption | omega) (by first | assumption | omega) (by first | assumption | omega) (by first | assumption | omega) (by first | assumption | omega)) (cwV 0 hts gX5_alone_X5_layLeads rfl rfl rfl kv_X5_layLeads ⟨Nat.le_of_ble_eq_true rfl, Nat.le_of_ble_eq_true rfl⟩) hK hP hD hS hA hZ 0 rfl rfl rfl rfl hl.1 rfl (lv_room (Nat.le_of_ble_eq_true rfl)) dX5_alone_12 ⟨Nat.zero_le _, Nat.zero_le _⟩ (fun u_2 H locs hu_2 hP hD hS => ?_)
    have hu_2 : ∀ r, r < 2 ^ ms → ∀ y, y < 2 ^ mi → u_2.2 (16 * r + y) = toN mso mwh mfi mse mth mre mn ms r y := hu_2
    have hP : va_P D vwCl (wM z cI cZ mn mi ms mtk mso mwh mfi mse mth mpu mno mlo mbe mre mis mca mpa u_2.1 u_2.2 mst mtn mln mne mgo) H := hP
    have hD : va_D A (wM z cI cZ mn mi ms mtk mso mwh mfi mse mth mpu mno mlo mbe mre mis mca mpa u_2.1 u_2.2 mst mtn mln mne mgo) := fx_D hD rfl
    have hle0 : ∀ r, r < 2 ^ ms → ∀ y, y < 2 ^ mi → u_2.2 (16 * r + y) < 64 := fun r hr y hy => by rw [hu_2 r hr y hy]; exact toN_lt hg hwf hre hms
    have hlay := hu_2
    have hTC : ∀ r, r < 2 ^ ms → ∀ y, y < 2 ^ mi → trg u_2.2 mbe ms (bN (fun jj => decide (mlo jj = k)) ms) r y = trC mso mwh mfi mse mth mre mbe mn ms (bN (fun jj => decide (mlo jj = k)) ms) r y := fun r hr y hy => by unfold trg trC; rw [hu_2 r hr y hy]
    refine lv_aload_n hx hb dX5_alone_15 rfl (lv_at hl 0 rfl) ?_
    refine lv_iconst (v := nI 1) hx hb dX5_alone_16 (by decide) ?_
    refine fx_callV (As := [.int (bI true)]) (rest := []) ⟨hx, hb, hml, hown, hts⟩ (c_X5_load l D cI cJ cZ z mn mi ms mtk mso mwh mfi mse mth mpu mno mlo mbe mre mis mca mpa u_2.1 u_2.2 mst mtn mln mne mgo true (by first | assumption | omega)) (cwV 1 hts gX5_alone_X5_load rfl rfl rfl kv_X5_load ⟨Nat.le_of_ble_eq_true rfl, Nat.le_of_ble_eq_true rfl⟩) hK hP hD hS hA hZ 0 rfl rfl rfl rfl hl.1 rfl (lv_room (Nat.le_of_ble_eq_true rfl)) dX5_alone_17 ⟨Nat.zero_le _, Nat.zero_le _⟩ (fun u_3 H locs hu_3 hP hD hS => ?_)
    have hP : va_P D vwCl (wM z cI cZ mn mi ms mtk mso mwh mfi mse mth mpu mno mlo mbe mre mis mca mpa u_2.1 u_2.2 (mixF (fun jj => if true = true then decide (jj < 2 ^ ms) else mca jj) mst 64) mtn mln mne mgo) H := hP
    have hD : va_D A (wM z cI cZ mn mi ms mtk mso mwh mfi mse mth mpu mno mlo mbe mre mis mca mpa u_2.1 u_2.2 (mixF (fun jj => if true = true then decide (jj < 2 ^ ms) else mca jj) mst 64) mtn mln mne mgo) := fx_D hD rfl
    refine lv_iconst (v := nI 0) hx hb dX5_alone_20 (by decide) ?_
    refine lv_istore_n (lv' := [(2, .int (nI 0)), (0, .ref (z 0)), (1, .int (lI k))]) hx hb dX5_alone_21 rfl hl (by decide) rfl (fun ls hl => ?_)
    refine lv_iconst (v := nI 0) hx hb dX5_alone_22 (by decide) ?_
    refine lv_istore_n (lv' := [(3, .int (nI 0)), (2, .int (nI 0)), (0, .ref (z 0)), (1, .int (lI k))]) hx hb dX5_alone_23 rfl hl (by decide) rfl (fun ls hl => ?_)
    have L_24 : ∀ (fuel : Nat) (i : Nat) (hi : i ≤ ms) (hfu : ms - i < fuel) (H : Heap) (locs : List Loc), va_P D vwCl (wM z cI cZ mn mi ms mtk mso mwh mfi mse mth mpu mno mlo mbe mre mis mca mpa u_2.1 u_2.2 (mixF (fun jj => if true = true then decide (jj < 2 ^ ms) else mca jj) mst 64) mtn mln mne mgo) H → va_D A (wM z cI cZ mn mi ms mtk mso mwh mfi mse mth mpu mno mlo mbe mre mis mca mpa u_2.1 u_2.2 (mixF (fun jj => if true = true then decide (jj < 2 ^ ms) else mca jj) mst 64) mtn mln mne mgo) → va_S A s.heap H locs → ∀ ls : Array Slot, lv_has ls 4 [(0, .ref (z 0)), (1, .int (lI k)), (2, .int (nI (bN (fun jj => decide (mlo jj = k)) i))), (3, .int (nI i))] → W p l e ({ frames := 3, cells := 0, slots := 0, locals := 72 } : Room) s m args below meth c H locs 0 0 Q (F0 m 24 ls []) := by
      intro fuel
      induction fuel with
      | zero => intro i hi hfu; exact absurd hfu (Nat.not_lt_zero _)
      | succ fuel ih_24 =>
        intro i hi hfu H locs hP hD hS ls hl
        refine lv_iload_n hx hb dX5_alone_24 rfl (lv_at hl 3 rfl) ?_
        refine lv_aload_n hx hb dX5_alone_25 rfl (lv_at hl 0 rfl) ?_
        refine va_get (D := D) (ci := 5) (v := .int (nI ms)) (C := RX5) (T := TX5) (N := 24) hx hb hts (fun w h => List.mem_cons_of_mem _ (List.mem_append_right _ h)) hown hK hP 0 rfl rfl 8 (by decide) (hts (.fieldLink RX5 85 "FirstStatesModel" "stores" "I") (List.mem_of_getElem? (i := 1) rfl)) (fun _ h9 => h9) rfl dX5_alone_26 ?_
        refine lv_icmp_ge (tgt := 58) hx hb dX5_alone_29 (by decide) (fun c_29 => ?_) (fun c_29 => ?_)
        · have f_29 : ms ≤ i := (nI_leI (a := ms) (b := i) (by first | omega | exact b_and1 _ | exact b_ct _ _ (by omega) | exact b_andr _ (by omega)) (by first | omega | exact b_and1 _ | exact b_ct _ _ (by omega) | exact b_andr _ (by omega))).mp c_29
          have e_i : i = ms := by omega
          have hrs : bN (fun jj => decide (mlo jj = k)) ms < 64 := Nat.lt_of_lt_of_le (bN_lt _ _) (Nat.pow_le_pow_right (n := 2) (by omega) hms)
          refine lv_aload_n hx hb dX5_alone_58 rfl (lv_at hl 0 rfl) ?_
          refine lv_iload_n hx hb dX5_alone_59 rfl (lv_at hl 2 rfl) ?_
          refine fx_eqi (x := nI (bN (fun jj => decide (mlo jj = k)) i)) (y := nI (bN (fun jj => decide (mlo jj = k)) ms)) (by rw [e_i]) ?_
          refine lv_iconst (v := nI 1) hx hb dX5_alone_60 (by decide) ?_
          refine fx_callV (As := [.int (nI (bN (fun jj => decide (mlo jj = k)) ms)), .int (bI true)]) (rest := []) ⟨hx, hb, hml, hown, hts⟩ (c_X5_settle l D cI cJ cZ z mn mi ms mtk mso mwh mfi mse mth mpu mno mlo mbe mre mis mca mpa u_2.1 u_2.2 (mixF (fun jj => if true = true then decide (jj < 2 ^ ms) else mca jj) mst 64) mtn mln mne mgo (bN (fun jj => decide (mlo jj = k)) ms) true (by first | assumption | omega) (by first | assumption | omega) (by first | assumption | omega) (by first | assumption | omega) (by first | assumption | omega) hle0) (cwV 2 hts gX5_alone_X5_settle rfl rfl rfl kv_X5_settle ⟨Nat.le_of_ble_eq_true rfl, Nat.le_of_ble_eq_true rfl⟩) hK hP hD hS hA hZ 0 rfl rfl rfl rfl hl.1 rfl (lv_room (Nat.le_of_ble_eq_true rfl)) dX5_alone_61 ⟨Nat.zero_le _, Nat.zero_le _⟩ (fun u_4 H locs hu_4 hP hD hS => ?_)
          have hu_4 : True := hu_4
          have hP : va_P D vwCl (wM z cI cZ mn mi ms mtk mso mwh mfi mse mth mpu mno mlo mbe mre mis mca mpa u_2.1 u_2.2 u_4.1 u_4.2 mln mne mgo) H := hP
          have hD : va_D A (wM z cI cZ mn mi ms mtk mso mwh mfi mse mth mpu mno mlo mbe mre mis mca mpa u_2.1 u_2.2 u_4.1 u_4.2 mln mne mgo) := fx_D hD rfl
          exact hri (u_2.1, u_2.2, u_4.1, u_4.2) _ H locs 64 ls .int rfl rfl trivial (by exact congrArg (fun w => some (Value.int w)) (setG_cong hp6 hTC 65 0 _ _ (fun r hr => if_pos hr)).symm) hP (fx_D hD rfl) hS dX5_alone_64
        have f_29 : ¬ ms ≤ i := fun h => c_29 ((nI_leI (a := ms) (b := i) (by first | omega | exact b_and1 _ | exact b_ct _ _ (by omega) | exact b_andr _ (by omega)) (by first | omega | exact b_and1 _ | exact b_ct _ _ (by omega) | exact b_andr _ (by omega))).mpr h)
        have hlo1 := hlo i (by omega)
        refine lv_iload_n hx hb dX5_alone_32 rfl (lv_at hl 2 rfl) ?_
        refine lv_aload_n hx hb dX5_alone_33 rfl (lv_at hl 0 rfl) ?_
        refine va_get (D := D) (ci := 5) (v := .ref (z 8)) (C := RX5) (T := TX5) (N := 24) hx hb hts (fun w h => List.mem_cons_of_mem _ (List.mem_append_right _ h)) hown hK hP 0 rfl rfl 10 (by decide) (hts (.fieldLink RX5 31 "FirstStatesModel" "lineOf" "[I") (List.mem_of_getElem? (i := 2) rfl)) (fun _ h9 => h9) rfl dX5_alone_34 ?_
        refine lv_iload_n hx hb dX5_alone_37 rfl (lv_at hl 3 rfl) ?_
        refine fx_iald (ar := lI) hx hb hK hP 8 (f := mlo) (k := i) rfl (by omega) (by decide) dX5_alone_38 ?_
        refine lv_iload_n hx hb dX5_alone_39 rfl (lv_at hl 1 rfl) ?_
        refine lv_icmp_ne (tgt := 49) hx hb dX5_alone_40 (by decide) (fun c_40 => ?_) (fun c_40 => ?_)
        · have f_40 : ¬ (mlo i) = k := fun h => c_40 ((lI_eq (by first | omega | exact b_and1 _ | exact b_ct _ _ (by omega) | exact b_andr _ (by omega)) (by first | omega | exact b_and1 _ | exact b_ct _ _ (by omega) | exact b_andr _ (by omega))).mpr h)
          refine lv_iconst (v := nI 0) hx hb dX5_alone_49 (by decide) ?_
          refine lv_ior hx hb dX5_alone_50 ?_
          refine fx_eqi (fx_orI _ _) ?_
          refine lv_istore_n (lv' := [(2, .int (nI ((bN (fun jj => decide (mlo jj = k)) i) ||| 0))), (0, .ref (z 0)), (1, .int (lI k)), (3, .int (nI i))]) hx hb dX5_alone_51 rfl hl (by decide) rfl (fun ls hl => ?_)
          refine lv_iinc (v := nI (i + 1)) (lv' := [(3, .int (nI (i + 1))), (2, .int (nI ((bN (fun jj => decide (mlo jj = k)) i) ||| 0))), (0, .ref (z 0)), (1, .int (lI k))]) hx hb dX5_alone_52 hl (k := 3) rfl (by exact nI_1 _) (by decide) rfl (fun ls hl => ?_)
          refine lv_goto (tgt := 24) hx hb dX5_alone_55 (by decide) ?_
          have e_5 : nI ((bN (fun jj => decide (mlo jj = k)) i) ||| 0) = nI (bN (fun jj => decide (mlo jj = k)) (i + 1)) := by first | rfl | (simp [bN, f_40])
          exact ih_24 (i + 1) (by first | assumption | omega) (by omega) H locs hP hD hS ls (lv_sub (fx_hl (l' := [(3, .int (nI (i + 1))), (2, .int (nI (bN (fun jj => decide (mlo jj = k)) (i + 1)))), (0, .ref (z 0)), (1, .int (lI k))]) hl (congrArg (fun w9 : Int32 => ([(3, .int (nI (i + 1))), (2, .int w9), (0, .ref (z 0)), (1, .int (lI k))] : List (Nat × Value))) e_5)) [2, 3, 1, 0] rfl)
        have f_40 : (mlo i) = k := (lI_eq (by first | omega | exact b_and1 _ | exact b_ct _ _ (by omega) | exact b_andr _ (by omega)) (by first | omega | exact b_and1 _ | exact b_ct _ _ (by omega) | exact b_andr _ (by omega))).mp c_40
        refine lv_iconst (v := nI 1) hx hb dX5_alone_43 (by decide) ?_
        refine lv_iload_n hx hb dX5_alone_44 rfl (lv_at hl 3 rfl) ?_
        refine lv_ishl hx hb dX5_alone_45 ?_
        refine fx_eqi (y := nI (2 ^ i)) (fx_shl1 (by first | omega | exact b_and1 _ | exact b_ct _ _ (by omega) | exact b_andr _ (by omega))) ?_
        refine lv_goto (tgt := 50) hx hb dX5_alone_46 (by decide) ?_
        refine lv_ior hx hb dX5_alone_50 ?_
        refine fx_eqi (fx_orI _ _) ?_
        refine lv_istore_n (lv' := [(2, .int (nI ((bN (fun jj => decide (mlo jj = k)) i) ||| (2 ^ i)))), (0, .ref (z 0)), (1, .int (lI k)), (3, .int (nI i))]) hx hb dX5_alone_51 rfl hl (by decide) rfl (fun ls hl => ?_)
        refine lv_iinc (v := nI (i + 1)) (lv' := [(3, .int (nI (i + 1))), (2, .int (nI ((bN (fun jj => decide (mlo jj = k)) i) ||| (2 ^ i)))), (0, .ref (z 0)), (1, .int (lI k))]) hx hb dX5_alone_52 hl (k := 3) rfl (by exact nI_1 _) (by decide) rfl (fun ls hl => ?_)
        refine lv_goto (tgt := 24) hx hb dX5_alone_55 (by decide) ?_
        have e_6 : nI ((bN (fun jj => decide (mlo jj = k)) i) ||| (2 ^ i)) = nI (bN (fun jj => decide (mlo jj = k)) (i + 1)) := by first | rfl | (simp [bN, f_40])
        exact ih_24 (i + 1) (by first | assumption | omega) (by omega) H locs hP hD hS ls (lv_sub (fx_hl (l' := [(3, .int (nI (i + 1))), (2, .int (nI (bN (fun jj => decide (mlo jj = k)) (i + 1)))), (0, .ref (z 0)), (1, .int (lI k))]) hl (congrArg (fun w9 : Int32 => ([(3, .int (nI (i + 1))), (2, .int w9), (0, .ref (z 0)), (1, .int (lI k))] : List (Nat × Value))) e_6)) [2, 3, 1, 0] rfl)
    exact L_24 (ms - 0 + 1) 0 (Nat.zero_le _) (Nat.lt_succ_self _) H locs hP hD hS ls (lv_sub hl [2, 3, 1, 0] rfl)
  have f_6 : (inB (lI k) (nI 0) (nI 3)) = false := bI_0.mp c_6
  exfalso; rw [lI_lt hk, inB_nI (by omega) (by omega) (by omega)] at f_6; simp at f_6; omega
set_option maxHeartbeats 4000000 in
set_option maxRecDepth 100000 in
theorem c_X5_ones (l : Launch) (D : va_G) (cI cJ cZ : ClassId) (w : va_W) (x : Nat) (hx64 : x < 64) : Ct l D cI cJ cZ yX5_ones wsX5_ones ({ frames := 0, cells := 0, slots := 0, locals := 0 } : Room) 0 0 [.int (nI x)] w (S := Unit) (fun u => True) (fun u => some (.int (nI (ct (fun jj => x.testBit jj) 6)))) (fun u => w) := by
  refine Ct.ofW (cc := cX5_ones) (maxL := 3) (ret := (some .int)) (R_C := RX5) (by decide +kernel) rfl rfl (Nat.le_of_ble_eq_true rfl) rfl ?_
  intro p e s m args below meth c A Q ls H locs hx hb hml hown hts hK hA hP hD hS hZ hl hri hrl hrv
  refine lv_iconst (v := nI 0) hx hb dX5_ones_0 (by decide) ?_
  refine lv_istore_n (lv' := [(1, .int (nI 0)), (0, .int (nI x))]) hx hb dX5_ones_1 rfl hl (by decide) rfl (fun ls hl => ?_)
  refine lv_iconst (v := nI 0) hx hb dX5_ones_2 (by decide) ?_
  refine lv_istore_n (lv' := [(2, .int (nI 0)), (1, .int (nI 0)), (0, .int (nI x))]) hx hb dX5_ones_3 rfl hl (by decide) rfl (fun ls hl => ?_)
  have L_4 : ∀ (fuel : Nat) (i : Nat) (hi : i ≤ 6) (hfu : 6 - i < fuel) (H : Heap) (locs : List Loc), va_P D vwCl w H → va_D A w → va_S A s.heap H locs → ∀ ls : Array Slot, lv_has ls 3 [(0, .int (nI x)), (1, .int (nI (ct (fun jj => x.testBit jj) i))), (2, .int (nI i))] → W p l e ({ frames := 0, cells := 0, slots := 0, locals := 0 } : Room) s m args below meth c H locs 0 0 Q (F0 m 4 ls []) := by
    intro fuel
    induction fuel with
    | zero => intro i hi hfu; exact absurd hfu (Nat.not_lt_zero _)
    | succ fuel ih_4 =>
      intro i hi hfu H locs hP hD hS ls hl
      refine lv_iload_n hx hb dX5_ones_4 rfl (lv_at hl 2 rfl) ?_
      refine lv_bipush (v := nI 6) hx hb dX5_ones_5 (by decide) ?_
      refine lv_icmp_ge (tgt := 24) hx hb dX5_ones_7 (by decide) (fun c_7 => ?_) (fun c_7 => ?_)
      · have f_7 : 6 ≤ i := (nI_leI (a := 6) (b := i) (by first | omega | exact b_and1 _ | exact b_ct _ _ (by omega) | exact b_andr _ (by omega)) (by first | omega | exact b_and1 _ | exact b_ct _ _ (by omega) | exact b_andr _ (by omega))).mp c_7
        refine lv_iload_n hx hb dX5_ones_24 rfl (lv_at hl 1 rfl) ?_
        exact hri () _ H locs 25 ls .int rfl rfl trivial (by rw [show i = 6 by omega]) hP hD hS dX5_ones_25
      have f_7 : ¬ 6 ≤ i := fun h => c_7 ((nI_leI (a := 6) (b := i) (by first | omega | exact b_and1 _ | exact b_ct _ _ (by omega) | exact b_andr _ (by omega)) (by first | omega | exact b_and1 _ | exact b_ct _ _ (by omega) | exact b_andr _ (by omega))).mpr h)
      refine lv_iload_n hx hb dX5_ones_10 rfl (lv_at hl 1 rfl) ?_
      refine lv_iload_n hx hb dX5_ones_11 rfl (lv_at hl 0 rfl) ?_
      refine lv_iload_n hx hb dX5_ones_12 rfl (lv_at hl 2 rfl) ?_
      refine lv_ishr hx hb dX5_ones_13 ?_
      refine fx_eqi (y := nI (x >>> i)) (fx_shr (by first | omega | exact b_and1 _ | exact b_ct _ _ (by omega) | exact b_andr _ (by omega)) (by first | omega | exact b_and1 _ | exact b_ct _ _ (by omega) | exact b_andr _ (by omega))) ?_
      refine lv_iconst (v := nI 1) hx hb dX5_ones_14 (by decide) ?_
      refine lv_iand hx hb dX5_ones_15 ?_
      refine fx_eqi (fx_andI _ _) ?_
      refine lv_iadd hx hb dX5_ones_16 ?_
      refine fx_eqi (nI_add _ _) ?_
      refine lv_istore_n (lv' := [(1, .int (nI ((ct (fun jj => x.testBit jj) i) + ((x >>> i) &&& 1)))), (0, .int (nI x)), (2, .int (nI i))]) hx hb dX5_ones_17 rfl hl (by decide) rfl (fun ls hl => ?_)
      refine lv_iinc (v := nI (i + 1)) (lv' := [(2, .int (nI (i + 1))), (1, .int (nI ((ct (fun jj => x.testBit jj) i) + ((x >>> i) &&& 1)))), (0, .int (nI x))]) hx hb dX5_ones_18 hl (k := 2) rfl (by exact nI_1 _) (by decide) rfl (fun ls hl => ?_)
      refine lv_goto (tgt := 4) hx hb dX5_ones_21 (by decide) ?_
      have e_1 : nI ((ct (fun jj => x.testBit jj) i) + ((x >>> i) &&& 1)) = nI (ct (fun jj => x.testBit jj) (i + 1)) := by first | rfl | (exact congrArg nI (ct_bit _ _))
      exact ih_4 (i + 1) (by first | assumption | omega) (by omega) H locs hP hD hS ls (lv_sub (fx_hl (l' := [(2, .int (nI (i + 1))), (1, .int (nI (ct (fun jj => x.testBit jj) (i + 1)))), (0, .int (nI x))]) hl (congrArg (fun w9 : Int32 => ([(2, .int (nI (i + 1))), (1, .int w9), (0, .int (nI x))] : List (Nat × Value))) e_1)) [2, 1, 0] rfl)
  exact L_4 (6 - 0 + 1) 0 (Nat.zero_le _) (Nat.lt_succ_self _) H locs hP hD hS ls (lv_sub hl [2, 1, 0] rfl)
