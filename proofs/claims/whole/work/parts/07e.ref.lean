/-! Contracts of the reference. -/
set_option maxHeartbeats 4000000 in
set_option maxRecDepth 100000 in
theorem c_X5_line_u (l : Launch) (D : va_G) (cI cJ cZ : ClassId) (z : Nat → Nat) (mn : Nat) (mi : Nat) (ms : Nat) (mtk : Nat) (mso : Nat → Nat) (mwh : Nat → Nat) (mfi : Nat → Nat) (mse : Nat → Nat) (mth : Nat → Nat) (mpu : Nat → Nat) (mno : Nat → Nat) (mlo : Nat → Nat) (mbe : Nat → Nat) (mre : Nat → Nat) (mis : Nat → Bool) (mca : Nat → Bool) (mpa : Nat → Nat) (mva : Nat → Nat) (mle : Nat → Nat) (mst : Nat → Bool) (mtn : Nat → Bool) (mln : Nat → Nat) (mne : Nat → Int32) (mgo : Nat → Int32) (x : Int32) (on : Bool) (hl4 : isN 4 x = false) : Ct l D cI cJ cZ yX5_line wsX5_line ({ frames := 1, cells := 0, slots := 0, locals := 22 } : Room) 0 0 [.ref (z 0), .int x, .int (bI on)] (wM z cI cZ mn mi ms mtk mso mwh mfi mse mth mpu mno mlo mbe mre mis mca mpa mva mle mst mtn mln mne mgo) (S := Unit) (fun u => True) (fun u => some (.int (-1))) (fun u => (wM z cI cZ mn mi ms mtk mso mwh mfi mse mth mpu mno mlo mbe mre mis mca mpa mva mle mst mtn mln mne mgo)) := by
  refine Ct.ofW (cc := cX5_line) (maxL := 4) (ret := (some .int)) (R_C := RX5) (by decide +kernel) rfl rfl (Nat.le_of_ble_eq_true rfl) rfl ?_
  intro p e s m args below meth c A Q ls H locs hx hb hml hown hts hK hA hP hD hS hZ hl hri hrl hrv
  refine lv_iload_n hx hb dX5_line_0 rfl (lv_at hl 1 rfl) ?_
  refine lv_iconst (v := nI 0) hx hb dX5_line_1 (by decide) ?_
  refine lv_iconst (v := nI 3) hx hb dX5_line_2 (by decide) ?_
  refine fx_callS (As := [.int x, .int (nI 0), .int (nI 3)]) (rest := []) ⟨hx, hb, hml, hown, hts⟩ (c_X5_in l D cI cJ cZ (wM z cI cZ mn mi ms mtk mso mwh mfi mse mth mpu mno mlo mbe mre mis mca mpa mva mle mst mtn mln mne mgo) x (nI 0) (nI 3)) (va_cwS 3 hts gX5_line_X5_in rfl rfl rfl ks_X5_in ⟨Nat.le_of_ble_eq_true rfl, Nat.le_of_ble_eq_true rfl⟩) hK hP hD hS hA hZ rfl hl.1 rfl (lv_room (Nat.le_of_ble_eq_true rfl)) dX5_line_3 ⟨Nat.zero_le _, Nat.zero_le _⟩ (fun u_1 H locs hu_1 hP hD hS => ?_)
  refine lv_if_ne (tgt := 11) hx hb dX5_line_6 (by decide) (fun c_6 => ?_) (fun c_6 => ?_)
  · have f_6 : (inB x (nI 0) (nI 3)) = true := bI_n0.mp c_6
    exfalso; rw [inB_3, hl4] at f_6; cases f_6
  have f_6 : (inB x (nI 0) (nI 3)) = false := bI_0.mp c_6
  refine lv_iconst (v := (-1)) hx hb dX5_line_9 (by decide) ?_
  exact hri () _ H locs 10 ls .int rfl rfl trivial rfl hP hD hS dX5_line_10
set_option maxHeartbeats 4000000 in
set_option maxRecDepth 100000 in
theorem c_X5_line (l : Launch) (D : va_G) (cI cJ cZ : ClassId) (z : Nat → Nat) (mn : Nat) (mi : Nat) (ms : Nat) (mtk : Nat) (mso : Nat → Nat) (mwh : Nat → Nat) (mfi : Nat → Nat) (mse : Nat → Nat) (mth : Nat → Nat) (mpu : Nat → Nat) (mno : Nat → Nat) (mlo : Nat → Nat) (mbe : Nat → Nat) (mre : Nat → Nat) (mis : Nat → Bool) (mca : Nat → Bool) (mpa : Nat → Nat) (mva : Nat → Nat) (mle : Nat → Nat) (mst : Nat → Bool) (mtn : Nat → Bool) (mln : Nat → Nat) (mne : Nat → Int32) (mgo : Nat → Int32) (k : Nat) (on : Bool) (hk : k < 4) : Ct l D cI cJ cZ yX5_line wsX5_line ({ frames := 1, cells := 0, slots := 0, locals := 22 } : Room) 0 0 [.ref (z 0), .int (nI k), .int (bI on)] (wM z cI cZ mn mi ms mtk mso mwh mfi mse mth mpu mno mlo mbe mre mis mca mpa mva mle mst mtn mln mne mgo) (S := Unit) (fun u => True) (fun u => some (.int (bI (mis k)))) (fun u => (wM z cI cZ mn mi ms mtk mso mwh mfi mse mth mpu mno mlo mbe mre (va_up mis k on) mca mpa mva mle mst mtn mln mne mgo)) := by
  refine Ct.ofW (cc := cX5_line) (maxL := 4) (ret := (some .int)) (R_C := RX5) (by decide +kernel) rfl rfl (Nat.le_of_ble_eq_true rfl) rfl ?_
  intro p e s m args below meth c A Q ls H locs hx hb hml hown hts hK hA hP hD hS hZ hl hri hrl hrv
  refine lv_iload_n hx hb dX5_line_0 rfl (lv_at hl 1 rfl) ?_
  refine lv_iconst (v := nI 0) hx hb dX5_line_1 (by decide) ?_
  refine lv_iconst (v := nI 3) hx hb dX5_line_2 (by decide) ?_
  refine fx_callS (As := [.int (nI k), .int (nI 0), .int (nI 3)]) (rest := []) ⟨hx, hb, hml, hown, hts⟩ (c_X5_in l D cI cJ cZ (wM z cI cZ mn mi ms mtk mso mwh mfi mse mth mpu mno mlo mbe mre mis mca mpa mva mle mst mtn mln mne mgo) (nI k) (nI 0) (nI 3)) (va_cwS 3 hts gX5_line_X5_in rfl rfl rfl ks_X5_in ⟨Nat.le_of_ble_eq_true rfl, Nat.le_of_ble_eq_true rfl⟩) hK hP hD hS hA hZ rfl hl.1 rfl (lv_room (Nat.le_of_ble_eq_true rfl)) dX5_line_3 ⟨Nat.zero_le _, Nat.zero_le _⟩ (fun u_1 H locs hu_1 hP hD hS => ?_)
  refine lv_if_ne (tgt := 11) hx hb dX5_line_6 (by decide) (fun c_6 => ?_) (fun c_6 => ?_)
  · have f_6 : (inB (nI k) (nI 0) (nI 3)) = true := bI_n0.mp c_6
    refine lv_aload_n hx hb dX5_line_11 rfl (lv_at hl 0 rfl) ?_
    refine va_get (D := D) (ci := 5) (v := .ref (z 11)) (C := RX5) (T := TX5) (N := 24) hx hb hts (fun w h => List.mem_cons_of_mem _ (List.mem_append_right _ h)) hown hK hP 0 rfl rfl 13 (by decide) (hts (.fieldLink RX5 40 "FirstStatesModel" "isOn" "[Z") (List.mem_of_getElem? (i := 1) rfl)) (fun _ h9 => h9) rfl dX5_line_12 ?_
    refine lv_iload_n hx hb dX5_line_15 rfl (lv_at hl 1 rfl) ?_
    refine fx_zald (ar := bI) hx hb hK hP 11 (f := mis) (k := k) rfl (by omega) (by decide) dX5_line_16 ?_
    refine lv_if_eq (tgt := 24) hx hb dX5_line_17 (by decide) (fun c_17 => ?_) (fun c_17 => ?_)
    · have f_17 : (mis k) = false := bI_0.mp c_17
      refine lv_iconst (v := nI 0) hx hb dX5_line_24 (by decide) ?_
      refine lv_istore_n (lv' := [(3, .int (nI 0)), (0, .ref (z 0)), (1, .int (nI k)), (2, .int (bI on))]) hx hb dX5_line_25 rfl hl (by decide) rfl (fun ls hl => ?_)
      refine lv_aload_n hx hb dX5_line_26 rfl (lv_at hl 1 rfl) ?_
      refine va_get (D := D) (ci := 5) (v := .ref (z 11)) (C := RX5) (T := TX5) (N := 24) hx hb hts (fun w h => List.mem_cons_of_mem _ (List.mem_append_right _ h)) hown hK hP 0 rfl rfl 13 (by decide) (hts (.fieldLink RX5 40 "FirstStatesModel" "isOn" "[Z") (List.mem_of_getElem? (i := 1) rfl)) (fun _ h9 => h9) rfl dX5_line_27 ?_
      refine lv_iload_n hx hb dX5_line_30 rfl (lv_at hl 2 rfl) ?_
      refine lv_iload_n hx hb dX5_line_31 rfl (lv_at hl 3 rfl) ?_
      refine fx_zast hx hb hK hP hD hS 11 (f := mis) (k := k) (v := on) rfl (by omega) (by decide) rfl dX5_line_32 (fun H locs hP hD hS => ?_)
      have hP : va_P D vwCl (wM z cI cZ mn mi ms mtk mso mwh mfi mse mth mpu mno mlo mbe mre (va_up mis k on) mca mpa mva mle mst mtn mln mne mgo) H := hP
      have hD : va_D A (wM z cI cZ mn mi ms mtk mso mwh mfi mse mth mpu mno mlo mbe mre (va_up mis k on) mca mpa mva mle mst mtn mln mne mgo) := fx_D hD rfl
      refine lv_iload_n hx hb dX5_line_33 rfl (lv_at hl 0 rfl) ?_
      exact hri () _ H locs 34 ls .int rfl rfl trivial (by exact bI_s0 f_17) hP hD hS dX5_line_34
    have f_17 : (mis k) = true := bI_n0.mp c_17
    refine lv_iconst (v := nI 1) hx hb dX5_line_20 (by decide) ?_
    refine lv_goto (tgt := 25) hx hb dX5_line_21 (by decide) ?_
    refine lv_istore_n (lv' := [(3, .int (nI 1)), (0, .ref (z 0)), (1, .int (nI k)), (2, .int (bI on))]) hx hb dX5_line_25 rfl hl (by decide) rfl (fun ls hl => ?_)
    refine lv_aload_n hx hb dX5_line_26 rfl (lv_at hl 1 rfl) ?_
    refine va_get (D := D) (ci := 5) (v := .ref (z 11)) (C := RX5) (T := TX5) (N := 24) hx hb hts (fun w h => List.mem_cons_of_mem _ (List.mem_append_right _ h)) hown hK hP 0 rfl rfl 13 (by decide) (hts (.fieldLink RX5 40 "FirstStatesModel" "isOn" "[Z") (List.mem_of_getElem? (i := 1) rfl)) (fun _ h9 => h9) rfl dX5_line_27 ?_
    refine lv_iload_n hx hb dX5_line_30 rfl (lv_at hl 2 rfl) ?_
    refine lv_iload_n hx hb dX5_line_31 rfl (lv_at hl 3 rfl) ?_
    refine fx_zast hx hb hK hP hD hS 11 (f := mis) (k := k) (v := on) rfl (by omega) (by decide) rfl dX5_line_32 (fun H locs hP hD hS => ?_)
    have hP : va_P D vwCl (wM z cI cZ mn mi ms mtk mso mwh mfi mse mth mpu mno mlo mbe mre (va_up mis k on) mca mpa mva mle mst mtn mln mne mgo) H := hP
    have hD : va_D A (wM z cI cZ mn mi ms mtk mso mwh mfi mse mth mpu mno mlo mbe mre (va_up mis k on) mca mpa mva mle mst mtn mln mne mgo) := fx_D hD rfl
    refine lv_iload_n hx hb dX5_line_33 rfl (lv_at hl 0 rfl) ?_
    exact hri () _ H locs 34 ls .int rfl rfl trivial (by exact bI_s1 f_17) hP hD hS dX5_line_34
  have f_6 : (inB (nI k) (nI 0) (nI 3)) = false := bI_0.mp c_6
  exfalso; rw [inB_nI (by omega) (by omega) (by omega)] at f_6; simp at f_6; omega
set_option maxHeartbeats 4000000 in
set_option maxRecDepth 100000 in
theorem c_X5_set_u (l : Launch) (D : va_G) (cI cJ cZ : ClassId) (z : Nat → Nat) (mn : Nat) (mi : Nat) (ms : Nat) (mtk : Nat) (mso : Nat → Nat) (mwh : Nat → Nat) (mfi : Nat → Nat) (mse : Nat → Nat) (mth : Nat → Nat) (mpu : Nat → Nat) (mno : Nat → Nat) (mlo : Nat → Nat) (mbe : Nat → Nat) (mre : Nat → Nat) (mis : Nat → Bool) (mca : Nat → Bool) (mpa : Nat → Nat) (mva : Nat → Nat) (mle : Nat → Nat) (mst : Nat → Bool) (mtn : Nat → Bool) (mln : Nat → Nat) (mne : Nat → Int32) (mgo : Nat → Int32) (x : Int32) (y : Int32) (hmn : mn ≤ 32) (hu : isN mn x = false) : Ct l D cI cJ cZ yX5_set wsX5_set ({ frames := 2, cells := 0, slots := 0, locals := 43 } : Room) 0 0 [.ref (z 0), .int x, .int y] (wM z cI cZ mn mi ms mtk mso mwh mfi mse mth mpu mno mlo mbe mre mis mca mpa mva mle mst mtn mln mne mgo) (S := Unit) (fun u => True) (fun u => some (.int (-1))) (fun u => (wM z cI cZ mn mi ms mtk mso mwh mfi mse mth mpu mno mlo mbe mre mis mca mpa mva mle mst mtn mln mne mgo)) := by
  refine Ct.ofW (cc := cX5_set) (maxL := 4) (ret := (some .int)) (R_C := RX5) (by decide +kernel) rfl rfl (Nat.le_of_ble_eq_true rfl) rfl ?_
  intro p e s m args below meth c A Q ls H locs hx hb hml hown hts hK hA hP hD hS hZ hl hri hrl hrv
  refine lv_aload_n hx hb dX5_set_0 rfl (lv_at hl 0 rfl) ?_
  refine lv_iload_n hx hb dX5_set_1 rfl (lv_at hl 1 rfl) ?_
  refine fx_callV (As := [.int x]) (rest := []) ⟨hx, hb, hml, hown, hts⟩ (c_X5_isNode l D cI cJ cZ z mn mi ms mtk mso mwh mfi mse mth mpu mno mlo mbe mre mis mca mpa mva mle mst mtn mln mne mgo x (by first | assumption | omega)) (cwV 1 hts gX5_set_X5_isNode rfl rfl rfl kv_X5_isNode ⟨Nat.le_of_ble_eq_true rfl, Nat.le_of_ble_eq_true rfl⟩) hK hP hD hS hA hZ 0 rfl rfl rfl rfl hl.1 rfl (lv_room (Nat.le_of_ble_eq_true rfl)) dX5_set_2 ⟨Nat.zero_le _, Nat.zero_le _⟩ (fun u_1 H locs hu_1 hP hD hS => ?_)
  refine lv_if_ne (tgt := 10) hx hb dX5_set_5 (by decide) (fun c_5 => ?_) (fun c_5 => ?_)
  · have f_5 : (isN mn x) = true := bI_n0.mp c_5
    exfalso; rw [hu] at f_5; cases f_5
  have f_5 : (isN mn x) = false := bI_0.mp c_5
  refine lv_iconst (v := (-1)) hx hb dX5_set_8 (by decide) ?_
  exact hri () _ H locs 9 ls .int rfl rfl trivial rfl hP hD hS dX5_set_9
set_option maxHeartbeats 4000000 in
set_option maxRecDepth 100000 in
theorem c_X5_set_s (l : Launch) (D : va_G) (cI cJ cZ : ClassId) (z : Nat → Nat) (mn : Nat) (mi : Nat) (ms : Nat) (mtk : Nat) (mso : Nat → Nat) (mwh : Nat → Nat) (mfi : Nat → Nat) (mse : Nat → Nat) (mth : Nat → Nat) (mpu : Nat → Nat) (mno : Nat → Nat) (mlo : Nat → Nat) (mbe : Nat → Nat) (mre : Nat → Nat) (mis : Nat → Bool) (mca : Nat → Bool) (mpa : Nat → Nat) (mva : Nat → Nat) (mle : Nat → Nat) (mst : Nat → Bool) (mtn : Nat → Bool) (mln : Nat → Nat) (mne : Nat → Int32) (mgo : Nat → Int32) (k : Nat) (y : Int32) (hmn : mn ≤ 32) (hk : k < mn) (hso : mso k ≤ 3) (h3 : ¬ mso k = 0) : Ct l D cI cJ cZ yX5_set wsX5_set ({ frames := 2, cells := 0, slots := 0, locals := 43 } : Room) 0 0 [.ref (z 0), .int (nI k), .int y] (wM z cI cZ mn mi ms mtk mso mwh mfi mse mth mpu mno mlo mbe mre mis mca mpa mva mle mst mtn mln mne mgo) (S := Unit) (fun u => True) (fun u => some (.int (-3))) (fun u => (wM z cI cZ mn mi ms mtk mso mwh mfi mse mth mpu mno mlo mbe mre mis mca mpa mva mle mst mtn mln mne mgo)) := by
  refine Ct.ofW (cc := cX5_set) (maxL := 4) (ret := (some .int)) (R_C := RX5) (by decide +kernel) rfl rfl (Nat.le_of_ble_eq_true rfl) rfl ?_
  intro p e s m args below meth c A Q ls H locs hx hb hml hown hts hK hA hP hD hS hZ hl hri hrl hrv
  refine lv_aload_n hx hb dX5_set_0 rfl (lv_at hl 0 rfl) ?_
  refine lv_iload_n hx hb dX5_set_1 rfl (lv_at hl 1 rfl) ?_
  refine fx_callV (As := [.int (nI k)]) (rest := []) ⟨hx, hb, hml, hown, hts⟩ (c_X5_isNode l D cI cJ cZ z mn mi ms mtk mso mwh mfi mse mth mpu mno mlo mbe mre mis mca mpa mva mle mst mtn mln mne mgo (nI k) (by first | assumption | omega)) (cwV 1 hts gX5_set_X5_isNode rfl rfl rfl kv_X5_isNode ⟨Nat.le_of_ble_eq_true rfl, Nat.le_of_ble_eq_true rfl⟩) hK hP hD hS hA hZ 0 rfl rfl rfl rfl hl.1 rfl (lv_room (Nat.le_of_ble_eq_true rfl)) dX5_set_2 ⟨Nat.zero_le _, Nat.zero_le _⟩ (fun u_1 H locs hu_1 hP hD hS => ?_)
  refine lv_if_ne (tgt := 10) hx hb dX5_set_5 (by decide) (fun c_5 => ?_) (fun c_5 => ?_)
  · have f_5 : (isN mn (nI k)) = true := bI_n0.mp c_5
    refine lv_aload_n hx hb dX5_set_10 rfl (lv_at hl 0 rfl) ?_
    refine va_get (D := D) (ci := 5) (v := .ref (z 1)) (C := RX5) (T := TX5) (N := 24) hx hb hts (fun w h => List.mem_cons_of_mem _ (List.mem_append_right _ h)) hown hK hP 0 rfl rfl 1 (by decide) (hts (.fieldLink RX5 7 "FirstStatesModel" "sort" "[I") (List.mem_of_getElem? (i := 1) rfl)) (fun _ h9 => h9) rfl dX5_set_11 ?_
    refine lv_iload_n hx hb dX5_set_14 rfl (lv_at hl 1 rfl) ?_
    refine fx_iald (ar := nI) hx hb hK hP 1 (f := mso) (k := k) rfl (by omega) (by decide) dX5_set_15 ?_
    refine lv_if_eq (tgt := 22) hx hb dX5_set_16 (by decide) (fun c_16 => ?_) (fun c_16 => ?_)
    · have f_16 : mso k = 0 := (nI_eq (a := mso k) (b := 0) (by first | omega | exact b_and1 _ | exact b_ct _ _ (by omega) | exact b_andr _ (by omega)) (by first | omega | exact b_and1 _ | exact b_ct _ _ (by omega) | exact b_andr _ (by omega))).mp c_16
      exfalso; omega
    have f_16 : ¬ mso k = 0 := fun h => c_16 ((nI_eq (a := mso k) (b := 0) (by first | omega | exact b_and1 _ | exact b_ct _ _ (by omega) | exact b_andr _ (by omega)) (by first | omega | exact b_and1 _ | exact b_ct _ _ (by omega) | exact b_andr _ (by omega))).mpr h)
    refine lv_bipush (v := (-3)) hx hb dX5_set_19 (by decide) ?_
    exact hri () _ H locs 21 ls .int rfl rfl trivial rfl hP hD hS dX5_set_21
  have f_5 : (isN mn (nI k)) = false := bI_0.mp c_5
  exfalso; rw [isN_nI (by omega) (by omega)] at f_5; simp at f_5; omega
set_option maxHeartbeats 4000000 in
set_option maxRecDepth 100000 in
theorem c_X5_set_o (l : Launch) (D : va_G) (cI cJ cZ : ClassId) (z : Nat → Nat) (mn : Nat) (mi : Nat) (ms : Nat) (mtk : Nat) (mso : Nat → Nat) (mwh : Nat → Nat) (mfi : Nat → Nat) (mse : Nat → Nat) (mth : Nat → Nat) (mpu : Nat → Nat) (mno : Nat → Nat) (mlo : Nat → Nat) (mbe : Nat → Nat) (mre : Nat → Nat) (mis : Nat → Bool) (mca : Nat → Bool) (mpa : Nat → Nat) (mva : Nat → Nat) (mle : Nat → Nat) (mst : Nat → Bool) (mtn : Nat → Bool) (mln : Nat → Nat) (mne : Nat → Int32) (mgo : Nat → Int32) (k : Nat) (y : Int32) (hmn : mn ≤ 32) (hk : k < mn) (h3 : mso k = 0) (hy : bitB y = false) (hy2 : ¬ y = nI 2) : Ct l D cI cJ cZ yX5_set wsX5_set ({ frames := 2, cells := 0, slots := 0, locals := 43 } : Room) 0 0 [.ref (z 0), .int (nI k), .int y] (wM z cI cZ mn mi ms mtk mso mwh mfi mse mth mpu mno mlo mbe mre mis mca mpa mva mle mst mtn mln mne mgo) (S := Unit) (fun u => True) (fun u => some (.int (-2))) (fun u => (wM z cI cZ mn mi ms mtk mso mwh mfi mse mth mpu mno mlo mbe mre mis mca mpa mva mle mst mtn mln mne mgo)) := by
  refine Ct.ofW (cc := cX5_set) (maxL := 4) (ret := (some .int)) (R_C := RX5) (by decide +kernel) rfl rfl (Nat.le_of_ble_eq_true rfl) rfl ?_
  intro p e s m args below meth c A Q ls H locs hx hb hml hown hts hK hA hP hD hS hZ hl hri hrl hrv
  refine lv_aload_n hx hb dX5_set_0 rfl (lv_at hl 0 rfl) ?_
  refine lv_iload_n hx hb dX5_set_1 rfl (lv_at hl 1 rfl) ?_
  refine fx_callV (As := [.int (nI k)]) (rest := []) ⟨hx, hb, hml, hown, hts⟩ (c_X5_isNode l D cI cJ cZ z mn mi ms mtk mso mwh mfi mse mth mpu mno mlo mbe mre mis mca mpa mva mle mst mtn mln mne mgo (nI k) (by first | assumption | omega)) (cwV 1 hts gX5_set_X5_isNode rfl rfl rfl kv_X5_isNode ⟨Nat.le_of_ble_eq_true rfl, Nat.le_of_ble_eq_true rfl⟩) hK hP hD hS hA hZ 0 rfl rfl rfl rfl hl.1 rfl (lv_room (Nat.le_of_ble_eq_true rfl)) dX5_set_2 ⟨Nat.zero_le _, Nat.zero_le _⟩ (fun u_1 H locs hu_1 hP hD hS => ?_)
  refine lv_if_ne (tgt := 10) hx hb dX5_set_5 (by decide) (fun c_5 => ?_) (fun c_5 => ?_)
  · have f_5 : (isN mn (nI k)) = true := bI_n0.mp c_5
    refine lv_aload_n hx hb dX5_set_10 rfl (lv_at hl 0 rfl) ?_
    refine va_get (D := D) (ci := 5) (v := .ref (z 1)) (C := RX5) (T := TX5) (N := 24) hx hb hts (fun w h => List.mem_cons_of_mem _ (List.mem_append_right _ h)) hown hK hP 0 rfl rfl 1 (by decide) (hts (.fieldLink RX5 7 "FirstStatesModel" "sort" "[I") (List.mem_of_getElem? (i := 1) rfl)) (fun _ h9 => h9) rfl dX5_set_11 ?_
    refine lv_iload_n hx hb dX5_set_14 rfl (lv_at hl 1 rfl) ?_
    refine fx_iald (ar := nI) hx hb hK hP 1 (f := mso) (k := k) rfl (by omega) (by decide) dX5_set_15 ?_
    refine lv_if_eq (tgt := 22) hx hb dX5_set_16 (by decide) (fun c_16 => ?_) (fun c_16 => ?_)
    · have f_16 : mso k = 0 := (nI_eq (a := mso k) (b := 0) (by first | omega | exact b_and1 _ | exact b_ct _ _ (by omega) | exact b_andr _ (by omega)) (by first | omega | exact b_and1 _ | exact b_ct _ _ (by omega) | exact b_andr _ (by omega))).mp c_16
      refine lv_iload_n hx hb dX5_set_22 rfl (lv_at hl 2 rfl) ?_
      refine lv_iconst (v := nI 0) hx hb dX5_set_23 (by decide) ?_
      refine lv_iconst (v := nI 2) hx hb dX5_set_24 (by decide) ?_
      refine fx_callS (As := [.int y, .int (nI 0), .int (nI 2)]) (rest := []) ⟨hx, hb, hml, hown, hts⟩ (c_X5_in l D cI cJ cZ (wM z cI cZ mn mi ms mtk mso mwh mfi mse mth mpu mno mlo mbe mre mis mca mpa mva mle mst mtn mln mne mgo) y (nI 0) (nI 2)) (va_cwS 3 hts gX5_set_X5_in rfl rfl rfl ks_X5_in ⟨Nat.le_of_ble_eq_true rfl, Nat.le_of_ble_eq_true rfl⟩) hK hP hD hS hA hZ rfl hl.1 rfl (lv_room (Nat.le_of_ble_eq_true rfl)) dX5_set_25 ⟨Nat.zero_le _, Nat.zero_le _⟩ (fun u_2 H locs hu_2 hP hD hS => ?_)
      refine lv_if_ne (tgt := 34) hx hb dX5_set_28 (by decide) (fun c_28 => ?_) (fun c_28 => ?_)
      · have f_28 : (inB y (nI 0) (nI 2)) = true := bI_n0.mp c_28
        exfalso; rw [inB_2, hy] at f_28; simp at f_28; exact hy2 f_28
      have f_28 : (inB y (nI 0) (nI 2)) = false := bI_0.mp c_28
      refine lv_bipush (v := (-2)) hx hb dX5_set_31 (by decide) ?_
      exact hri () _ H locs 33 ls .int rfl rfl trivial rfl hP hD hS dX5_set_33
    have f_16 : ¬ mso k = 0 := fun h => c_16 ((nI_eq (a := mso k) (b := 0) (by first | omega | exact b_and1 _ | exact b_ct _ _ (by omega) | exact b_andr _ (by omega)) (by first | omega | exact b_and1 _ | exact b_ct _ _ (by omega) | exact b_andr _ (by omega))).mpr h)
    exfalso; omega
  have f_5 : (isN mn (nI k)) = false := bI_0.mp c_5
  exfalso; rw [isN_nI (by omega) (by omega)] at f_5; simp at f_5; omega
set_option maxHeartbeats 4000000 in
set_option maxRecDepth 100000 in
theorem c_X5_set (l : Launch) (D : va_G) (cI cJ cZ : ClassId) (z : Nat → Nat) (mn : Nat) (mi : Nat) (ms : Nat) (mtk : Nat) (mso : Nat → Nat) (mwh : Nat → Nat) (mfi : Nat → Nat) (mse : Nat → Nat) (mth : Nat → Nat) (mpu : Nat → Nat) (mno : Nat → Nat) (mlo : Nat → Nat) (mbe : Nat → Nat) (mre : Nat → Nat) (mis : Nat → Bool) (mca : Nat → Bool) (mpa : Nat → Nat) (mva : Nat → Nat) (mle : Nat → Nat) (mst : Nat → Bool) (mtn : Nat → Bool) (mln : Nat → Nat) (mne : Nat → Int32) (mgo : Nat → Int32) (k : Nat) (v : Nat) (hmn : mn ≤ 32) (hmi : mi ≤ 4) (hk : k < mn) (h3 : mso k = 0) (hwi : mwh k < mi) (hv : v ≤ 2) : Ct l D cI cJ cZ yX5_set wsX5_set ({ frames := 2, cells := 0, slots := 0, locals := 43 } : Room) 0 0 [.ref (z 0), .int (nI k), .int (nI v)] (wM z cI cZ mn mi ms mtk mso mwh mfi mse mth mpu mno mlo mbe mre mis mca mpa mva mle mst mtn mln mne mgo) (S := Unit) (fun u => True) (fun u => some (.int (nI (mpu (mwh k))))) (fun u => (wM z cI cZ mn mi ms mtk mso mwh mfi mse mth (va_up mpu (mwh k) v) mno mlo mbe mre mis mca mpa mva mle mst mtn mln mne mgo)) := by
  refine Ct.ofW (cc := cX5_set) (maxL := 4) (ret := (some .int)) (R_C := RX5) (by decide +kernel) rfl rfl (Nat.le_of_ble_eq_true rfl) rfl ?_
  intro p e s m args below meth c A Q ls H locs hx hb hml hown hts hK hA hP hD hS hZ hl hri hrl hrv
  refine lv_aload_n hx hb dX5_set_0 rfl (lv_at hl 0 rfl) ?_
  refine lv_iload_n hx hb dX5_set_1 rfl (lv_at hl 1 rfl) ?_
  refine fx_callV (As := [.int (nI k)]) (rest := []) ⟨hx, hb, hml, hown, hts⟩ (c_X5_isNode l D cI cJ cZ z mn mi ms mtk mso mwh mfi mse mth mpu mno mlo mbe mre mis mca mpa mva mle mst mtn mln mne mgo (nI k) (by first | assumption | omega)) (cwV 1 hts gX5_set_X5_isNode rfl rfl rfl kv_X5_isNode ⟨Nat.le_of_ble_eq_true rfl, Nat.le_of_ble_eq_true rfl⟩) hK hP hD hS hA hZ 0 rfl rfl rfl rfl hl.1 rfl (lv_room (Nat.le_of_ble_eq_true rfl)) dX5_set_2 ⟨Nat.zero_le _, Nat.zero_le _⟩ (fun u_1 H locs hu_1 hP hD hS => ?_)
  refine lv_if_ne (tgt := 10) hx hb dX5_set_5 (by decide) (fun c_5 => ?_) (fun c_5 => ?_)
  · have f_5 : (isN mn (nI k)) = true := bI_n0.mp c_5
    refine lv_aload_n hx hb dX5_set_10 rfl (lv_at hl 0 rfl) ?_
    refine va_get (D := D) (ci := 5) (v := .ref (z 1)) (C := RX5) (T := TX5) (N := 24) hx hb hts (fun w h => List.mem_cons_of_mem _ (List.mem_append_right _ h)) hown hK hP 0 rfl rfl 1 (by decide) (hts (.fieldLink RX5 7 "FirstStatesModel" "sort" "[I") (List.mem_of_getElem? (i := 1) rfl)) (fun _ h9 => h9) rfl dX5_set_11 ?_
    refine lv_iload_n hx hb dX5_set_14 rfl (lv_at hl 1 rfl) ?_
    refine fx_iald (ar := nI) hx hb hK hP 1 (f := mso) (k := k) rfl (by omega) (by decide) dX5_set_15 ?_
    refine lv_if_eq (tgt := 22) hx hb dX5_set_16 (by decide) (fun c_16 => ?_) (fun c_16 => ?_)
    · have f_16 : mso k = 0 := (nI_eq (a := mso k) (b := 0) (by first | omega | exact b_and1 _ | exact b_ct _ _ (by omega) | exact b_andr _ (by omega)) (by first | omega | exact b_and1 _ | exact b_ct _ _ (by omega) | exact b_andr _ (by omega))).mp c_16
      refine lv_iload_n hx hb dX5_set_22 rfl (lv_at hl 2 rfl) ?_
      refine lv_iconst (v := nI 0) hx hb dX5_set_23 (by decide) ?_
      refine lv_iconst (v := nI 2) hx hb dX5_set_24 (by decide) ?_
      refine fx_callS (As := [.int (nI v), .int (nI 0), .int (nI 2)]) (rest := []) ⟨hx, hb, hml, hown, hts⟩ (c_X5_in l D cI cJ cZ (wM z cI cZ mn mi ms mtk mso mwh mfi mse mth mpu mno mlo mbe mre mis mca mpa mva mle mst mtn mln mne mgo) (nI v) (nI 0) (nI 2)) (va_cwS 3 hts gX5_set_X5_in rfl rfl rfl ks_X5_in ⟨Nat.le_of_ble_eq_true rfl, Nat.le_of_ble_eq_true rfl⟩) hK hP hD hS hA hZ rfl hl.1 rfl (lv_room (Nat.le_of_ble_eq_true rfl)) dX5_set_25 ⟨Nat.zero_le _, Nat.zero_le _⟩ (fun u_2 H locs hu_2 hP hD hS => ?_)
      refine lv_if_ne (tgt := 34) hx hb dX5_set_28 (by decide) (fun c_28 => ?_) (fun c_28 => ?_)
      · have f_28 : (inB (nI v) (nI 0) (nI 2)) = true := bI_n0.mp c_28
        refine lv_aload_n hx hb dX5_set_34 rfl (lv_at hl 0 rfl) ?_
        refine va_get (D := D) (ci := 5) (v := .ref (z 6)) (C := RX5) (T := TX5) (N := 24) hx hb hts (fun w h => List.mem_cons_of_mem _ (List.mem_append_right _ h)) hown hK hP 0 rfl rfl 7 (by decide) (hts (.fieldLink RX5 25 "FirstStatesModel" "put" "[I") (List.mem_of_getElem? (i := 2) rfl)) (fun _ h9 => h9) rfl dX5_set_35 ?_
        refine lv_aload_n hx hb dX5_set_38 rfl (lv_at hl 0 rfl) ?_
        refine va_get (D := D) (ci := 5) (v := .ref (z 2)) (C := RX5) (T := TX5) (N := 24) hx hb hts (fun w h => List.mem_cons_of_mem _ (List.mem_append_right _ h)) hown hK hP 0 rfl rfl 2 (by decide) (hts (.fieldLink RX5 13 "FirstStatesModel" "which" "[I") (List.mem_of_getElem? (i := 3) rfl)) (fun _ h9 => h9) rfl dX5_set_39 ?_
        refine lv_iload_n hx hb dX5_set_42 rfl (lv_at hl 1 rfl) ?_
        refine fx_iald (ar := nI) hx hb hK hP 2 (f := mwh) (k := k) rfl (by omega) (by decide) dX5_set_43 ?_
        refine fx_iald (ar := nI) hx hb hK hP 6 (f := mpu) (k := (mwh k)) rfl (by omega) (by decide) dX5_set_44 ?_
        refine lv_istore_n (lv' := [(3, .int (nI (mpu (mwh k)))), (0, .ref (z 0)), (1, .int (nI k)), (2, .int (nI v))]) hx hb dX5_set_45 rfl hl (by decide) rfl (fun ls hl => ?_)
        refine lv_aload_n hx hb dX5_set_46 rfl (lv_at hl 1 rfl) ?_
        refine va_get (D := D) (ci := 5) (v := .ref (z 6)) (C := RX5) (T := TX5) (N := 24) hx hb hts (fun w h => List.mem_cons_of_mem _ (List.mem_append_right _ h)) hown hK hP 0 rfl rfl 7 (by decide) (hts (.fieldLink RX5 25 "FirstStatesModel" "put" "[I") (List.mem_of_getElem? (i := 2) rfl)) (fun _ h9 => h9) rfl dX5_set_47 ?_
        refine lv_aload_n hx hb dX5_set_50 rfl (lv_at hl 1 rfl) ?_
        refine va_get (D := D) (ci := 5) (v := .ref (z 2)) (C := RX5) (T := TX5) (N := 24) hx hb hts (fun w h => List.mem_cons_of_mem _ (List.mem_append_right _ h)) hown hK hP 0 rfl rfl 2 (by decide) (hts (.fieldLink RX5 13 "FirstStatesModel" "which" "[I") (List.mem_of_getElem? (i := 3) rfl)) (fun _ h9 => h9) rfl dX5_set_51 ?_
        refine lv_iload_n hx hb dX5_set_54 rfl (lv_at hl 2 rfl) ?_
        refine fx_iald (ar := nI) hx hb hK hP 2 (f := mwh) (k := k) rfl (by omega) (by decide) dX5_set_55 ?_
        refine lv_iload_n hx hb dX5_set_56 rfl (lv_at hl 3 rfl) ?_
        refine fx_iast (ar := nI) hx hb hK hP hD hS 6 (f := mpu) (k := (mwh k)) (v := v) rfl (by omega) (by decide) rfl dX5_set_57 (fun H locs hP hD hS => ?_)
        have hP : va_P D vwCl (wM z cI cZ mn mi ms mtk mso mwh mfi mse mth (va_up mpu (mwh k) v) mno mlo mbe mre mis mca mpa mva mle mst mtn mln mne mgo) H := hP
        have hD : va_D A (wM z cI cZ mn mi ms mtk mso mwh mfi mse mth (va_up mpu (mwh k) v) mno mlo mbe mre mis mca mpa mva mle mst mtn mln mne mgo) := fx_D hD rfl
        refine lv_iload_n hx hb dX5_set_58 rfl (lv_at hl 0 rfl) ?_
        exact hri () _ H locs 59 ls .int rfl rfl trivial rfl hP hD hS dX5_set_59
      have f_28 : (inB (nI v) (nI 0) (nI 2)) = false := bI_0.mp c_28
      exfalso; rw [inB_nI (by omega) (by omega) (by omega)] at f_28; simp at f_28; omega
    have f_16 : ¬ mso k = 0 := fun h => c_16 ((nI_eq (a := mso k) (b := 0) (by first | omega | exact b_and1 _ | exact b_ct _ _ (by omega) | exact b_andr _ (by omega)) (by first | omega | exact b_and1 _ | exact b_ct _ _ (by omega) | exact b_andr _ (by omega))).mpr h)
    exfalso; omega
  have f_5 : (isN mn (nI k)) = false := bI_0.mp c_5
  exfalso; rw [isN_nI (by omega) (by omega)] at f_5; simp at f_5; omega
set_option maxHeartbeats 4000000 in
set_option maxRecDepth 100000 in
theorem c_X5_partGate (l : Launch) (D : va_G) (cI cJ cZ : ClassId) (w : va_W) (k : Nat) (a : Nat) (b : Nat) (cc : Nat) (hk : k ≤ 4) (ha : a ≤ 2) (hb4 : b ≤ 2) (hc4 : cc ≤ 2) : Ct l D cI cJ cZ yX5_partGate wsX5_partGate ({ frames := 0, cells := 0, slots := 0, locals := 0 } : Room) 0 0 [.int (nI k), .int (nI a), .int (nI b), .int (nI cc)] w (S := Unit) (fun u => True) (fun u => some (.int (nI (pgF k a b cc)))) (fun u => w) := by
  refine Ct.ofW (cc := cX5_partGate) (maxL := 4) (ret := (some .int)) (R_C := RX5) (by decide +kernel) rfl rfl (Nat.le_of_ble_eq_true rfl) rfl ?_
  intro p e s m args below meth c A Q ls H locs hx hb hml hown hts hK hA hP hD hS hZ hl hri hrl hrv
  refine lv_iload_n hx hb dX5_partGate_0 rfl (lv_at hl 0 rfl) ?_
  have h_1 : k = 0 ∨ k = 1 ∨ k = 2 ∨ k = 3 ∨ k = 4 := by omega
  rcases h_1 with h_1 | h_1 | h_1 | h_1 | h_1
  · refine lv_tableIn (off := 31) (tgt := 32) hx hb dX5_partGate_1 (by rw [h_1]; decide) (by rw [h_1]; decide) (by rw [h_1]; decide) (by decide) ?_
    refine lv_iload_n hx hb dX5_partGate_32 rfl (lv_at hl 1 rfl) ?_
    refine lv_iconst (v := nI 2) hx hb dX5_partGate_33 (by decide) ?_
    refine lv_icmp_ne (tgt := 41) hx hb dX5_partGate_34 (by decide) (fun c_34 => ?_) (fun c_34 => ?_)
    · have f_34 : ¬ a = 2 := fun h => c_34 ((nI_eq (a := a) (b := 2) (by first | omega | exact b_and1 _ | exact b_ct _ _ (by omega) | exact b_andr _ (by omega)) (by first | omega | exact b_and1 _ | exact b_ct _ _ (by omega) | exact b_andr _ (by omega))).mpr h)
      refine lv_iconst (v := nI 1) hx hb dX5_partGate_41 (by decide) ?_
      refine lv_iload_n hx hb dX5_partGate_42 rfl (lv_at hl 1 rfl) ?_
      refine lv_isub hx hb dX5_partGate_43 ?_
      refine fx_eqi (x := (nI 1) - (nI a)) (y := nI (1 - a)) (pk_sub (by omega)) ?_
      exact hri () _ H locs 44 ls .int rfl rfl trivial (by rw [h_1]; simp only [pgF, Option.some.injEq, Value.int.injEq]; congr 1; simp [h_1, f_34] <;> omega) hP hD hS dX5_partGate_44
    have f_34 : a = 2 := (nI_eq (a := a) (b := 2) (by first | omega | exact b_and1 _ | exact b_ct _ _ (by omega) | exact b_andr _ (by omega)) (by first | omega | exact b_and1 _ | exact b_ct _ _ (by omega) | exact b_andr _ (by omega))).mp c_34
    refine lv_iconst (v := nI 2) hx hb dX5_partGate_37 (by decide) ?_
    refine lv_goto (tgt := 44) hx hb dX5_partGate_38 (by decide) ?_
    exact hri () _ H locs 44 ls .int rfl rfl trivial (by rw [h_1]; simp only [pgF, Option.some.injEq, Value.int.injEq]; congr 1; simp [h_1, f_34] <;> omega) hP hD hS dX5_partGate_44
  · refine lv_tableIn (off := 44) (tgt := 45) hx hb dX5_partGate_1 (by rw [h_1]; decide) (by rw [h_1]; decide) (by rw [h_1]; decide) (by decide) ?_
    refine lv_iload_n hx hb dX5_partGate_45 rfl (lv_at hl 1 rfl) ?_
    refine lv_if_eq (tgt := 53) hx hb dX5_partGate_46 (by decide) (fun c_46 => ?_) (fun c_46 => ?_)
    · have f_46 : a = 0 := (nI_eq (a := a) (b := 0) (by first | omega | exact b_and1 _ | exact b_ct _ _ (by omega) | exact b_andr _ (by omega)) (by first | omega | exact b_and1 _ | exact b_ct _ _ (by omega) | exact b_andr _ (by omega))).mp c_46
      refine lv_iconst (v := nI 0) hx hb dX5_partGate_53 (by decide) ?_
      refine lv_goto (tgt := 72) hx hb dX5_partGate_54 (by decide) ?_
      exact hri () _ H locs 72 ls .int rfl rfl trivial (by rw [h_1]; simp only [pgF, Option.some.injEq, Value.int.injEq]; congr 1; simp [h_1, f_46] <;> omega) hP hD hS dX5_partGate_72
    have f_46 : ¬ a = 0 := fun h => c_46 ((nI_eq (a := a) (b := 0) (by first | omega | exact b_and1 _ | exact b_ct _ _ (by omega) | exact b_andr _ (by omega)) (by first | omega | exact b_and1 _ | exact b_ct _ _ (by omega) | exact b_andr _ (by omega))).mpr h)
    refine lv_iload_n hx hb dX5_partGate_49 rfl (lv_at hl 2 rfl) ?_
    refine lv_if_ne (tgt := 57) hx hb dX5_partGate_50 (by decide) (fun c_50 => ?_) (fun c_50 => ?_)
    · have f_50 : ¬ b = 0 := fun h => c_50 ((nI_eq (a := b) (b := 0) (by first | omega | exact b_and1 _ | exact b_ct _ _ (by omega) | exact b_andr _ (by omega)) (by first | omega | exact b_and1 _ | exact b_ct _ _ (by omega) | exact b_andr _ (by omega))).mpr h)
      refine lv_iload_n hx hb dX5_partGate_57 rfl (lv_at hl 1 rfl) ?_
      refine lv_iconst (v := nI 1) hx hb dX5_partGate_58 (by decide) ?_
      refine lv_icmp_ne (tgt := 71) hx hb dX5_partGate_59 (by decide) (fun c_59 => ?_) (fun c_59 => ?_)
      · have f_59 : ¬ a = 1 := fun h => c_59 ((nI_eq (a := a) (b := 1) (by first | omega | exact b_and1 _ | exact b_ct _ _ (by omega) | exact b_andr _ (by omega)) (by first | omega | exact b_and1 _ | exact b_ct _ _ (by omega) | exact b_andr _ (by omega))).mpr h)
        refine lv_iconst (v := nI 2) hx hb dX5_partGate_71 (by decide) ?_
        exact hri () _ H locs 72 ls .int rfl rfl trivial (by rw [h_1]; simp only [pgF, Option.some.injEq, Value.int.injEq]; congr 1; simp [h_1, f_46, f_50, f_59] <;> omega) hP hD hS dX5_partGate_72
      have f_59 : a = 1 := (nI_eq (a := a) (b := 1) (by first | omega | exact b_and1 _ | exact b_ct _ _ (by omega) | exact b_andr _ (by omega)) (by first | omega | exact b_and1 _ | exact b_ct _ _ (by omega) | exact b_andr _ (by omega))).mp c_59
      refine lv_iload_n hx hb dX5_partGate_62 rfl (lv_at hl 2 rfl) ?_
      refine lv_iconst (v := nI 1) hx hb dX5_partGate_63 (by decide) ?_
      refine lv_icmp_ne (tgt := 71) hx hb dX5_partGate_64 (by decide) (fun c_64 => ?_) (fun c_64 => ?_)
      · have f_64 : ¬ b = 1 := fun h => c_64 ((nI_eq (a := b) (b := 1) (by first | omega | exact b_and1 _ | exact b_ct _ _ (by omega) | exact b_andr _ (by omega)) (by first | omega | exact b_and1 _ | exact b_ct _ _ (by omega) | exact b_andr _ (by omega))).mpr h)
        refine lv_iconst (v := nI 2) hx hb dX5_partGate_71 (by decide) ?_
        exact hri () _ H locs 72 ls .int rfl rfl trivial (by rw [h_1]; simp only [pgF, Option.some.injEq, Value.int.injEq]; congr 1; simp [h_1, f_46, f_50, f_59, f_64] <;> omega) hP hD hS dX5_partGate_72
      have f_64 : b = 1 := (nI_eq (a := b) (b := 1) (by first | omega | exact b_and1 _ | exact b_ct _ _ (by omega) | exact b_andr _ (by omega)) (by first | omega | exact b_and1 _ | exact b_ct _ _ (by omega) | exact b_andr _ (by omega))).mp c_64
      refine lv_iconst (v := nI 1) hx hb dX5_partGate_67 (by decide) ?_
      refine lv_goto (tgt := 72) hx hb dX5_partGate_68 (by decide) ?_
      exact hri () _ H locs 72 ls .int rfl rfl trivial (by rw [h_1]; simp only [pgF, Option.some.injEq, Value.int.injEq]; congr 1; simp [h_1, f_46, f_50, f_59, f_64] <;> omega) hP hD hS dX5_partGate_72
    have f_50 : b = 0 := (nI_eq (a := b) (b := 0) (by first | omega | exact b_and1 _ | exact b_ct _ _ (by omega) | exact b_andr _ (by omega)) (by first | omega | exact b_and1 _ | exact b_ct _ _ (by omega) | exact b_andr _ (by omega))).mp c_50
    refine lv_iconst (v := nI 0) hx hb dX5_partGate_53 (by decide) ?_
    refine lv_goto (tgt := 72) hx hb dX5_partGate_54 (by decide) ?_
    exact hri () _ H locs 72 ls .int rfl rfl trivial (by rw [h_1]; simp only [pgF, Option.some.injEq, Value.int.injEq]; congr 1; simp [h_1, f_46, f_50] <;> omega) hP hD hS dX5_partGate_72
  · refine lv_tableIn (off := 72) (tgt := 73) hx hb dX5_partGate_1 (by rw [h_1]; decide) (by rw [h_1]; decide) (by rw [h_1]; decide) (by decide) ?_
    refine lv_iload_n hx hb dX5_partGate_73 rfl (lv_at hl 1 rfl) ?_
    refine lv_iconst (v := nI 1) hx hb dX5_partGate_74 (by decide) ?_
    refine lv_icmp_eq (tgt := 83) hx hb dX5_partGate_75 (by decide) (fun c_75 => ?_) (fun c_75 => ?_)
    · have f_75 : a = 1 := (nI_eq (a := a) (b := 1) (by first | omega | exact b_and1 _ | exact b_ct _ _ (by omega) | exact b_andr _ (by omega)) (by first | omega | exact b_and1 _ | exact b_ct _ _ (by omega) | exact b_andr _ (by omega))).mp c_75
      refine lv_iconst (v := nI 1) hx hb dX5_partGate_83 (by decide) ?_
      refine lv_goto (tgt := 100) hx hb dX5_partGate_84 (by decide) ?_
      exact hri () _ H locs 100 ls .int rfl rfl trivial (by rw [h_1]; simp only [pgF, Option.some.injEq, Value.int.injEq]; congr 1; simp [h_1, f_75] <;> omega) hP hD hS dX5_partGate_100
    have f_75 : ¬ a = 1 := fun h => c_75 ((nI_eq (a := a) (b := 1) (by first | omega | exact b_and1 _ | exact b_ct _ _ (by omega) | exact b_andr _ (by omega)) (by first | omega | exact b_and1 _ | exact b_ct _ _ (by omega) | exact b_andr _ (by omega))).mpr h)
    refine lv_iload_n hx hb dX5_partGate_78 rfl (lv_at hl 2 rfl) ?_
    refine lv_iconst (v := nI 1) hx hb dX5_partGate_79 (by decide) ?_
    refine lv_icmp_ne (tgt := 87) hx hb dX5_partGate_80 (by decide) (fun c_80 => ?_) (fun c_80 => ?_)
    · have f_80 : ¬ b = 1 := fun h => c_80 ((nI_eq (a := b) (b := 1) (by first | omega | exact b_and1 _ | exact b_ct _ _ (by omega) | exact b_andr _ (by omega)) (by first | omega | exact b_and1 _ | exact b_ct _ _ (by omega) | exact b_andr _ (by omega))).mpr h)
      refine lv_iload_n hx hb dX5_partGate_87 rfl (lv_at hl 1 rfl) ?_
      refine lv_if_ne (tgt := 99) hx hb dX5_partGate_88 (by decide) (fun c_88 => ?_) (fun c_88 => ?_)
      · have f_88 : ¬ a = 0 := fun h => c_88 ((nI_eq (a := a) (b := 0) (by first | omega | exact b_and1 _ | exact b_ct _ _ (by omega) | exact b_andr _ (by omega)) (by first | omega | exact b_and1 _ | exact b_ct _ _ (by omega) | exact b_andr _ (by omega))).mpr h)
        refine lv_iconst (v := nI 2) hx hb dX5_partGate_99 (by decide) ?_
        exact hri () _ H locs 100 ls .int rfl rfl trivial (by rw [h_1]; simp only [pgF, Option.some.injEq, Value.int.injEq]; congr 1; simp [h_1, f_75, f_80, f_88] <;> omega) hP hD hS dX5_partGate_100
      have f_88 : a = 0 := (nI_eq (a := a) (b := 0) (by first | omega | exact b_and1 _ | exact b_ct _ _ (by omega) | exact b_andr _ (by omega)) (by first | omega | exact b_and1 _ | exact b_ct _ _ (by omega) | exact b_andr _ (by omega))).mp c_88
      refine lv_iload_n hx hb dX5_partGate_91 rfl (lv_at hl 2 rfl) ?_
      refine lv_if_ne (tgt := 99) hx hb dX5_partGate_92 (by decide) (fun c_92 => ?_) (fun c_92 => ?_)
      · have f_92 : ¬ b = 0 := fun h => c_92 ((nI_eq (a := b) (b := 0) (by first | omega | exact b_and1 _ | exact b_ct _ _ (by omega) | exact b_andr _ (by omega)) (by first | omega | exact b_and1 _ | exact b_ct _ _ (by omega) | exact b_andr _ (by omega))).mpr h)
        refine lv_iconst (v := nI 2) hx hb dX5_partGate_99 (by decide) ?_
        exact hri () _ H locs 100 ls .int rfl rfl trivial (by rw [h_1]; simp only [pgF, Option.some.injEq, Value.int.injEq]; congr 1; simp [h_1, f_75, f_80, f_88, f_92] <;> omega) hP hD hS dX5_partGate_100
      have f_92 : b = 0 := (nI_eq (a := b) (b := 0) (by first | omega | exact b_and1 _ | exact b_ct _ _ (by omega) | exact b_andr _ (by omega)) (by first | omega | exact b_and1 _ | exact b_ct _ _ (by omega) | exact b_andr _ (by omega))).mp c_92
      refine lv_iconst (v := nI 0) hx hb dX5_partGate_95 (by decide) ?_
      refine lv_goto (tgt := 100) hx hb dX5_partGate_96 (by decide) ?_
      exact hri () _ H locs 100 ls .int rfl rfl trivial (by rw [h_1]; simp only [pgF, Option.some.injEq, Value.int.injEq]; congr 1; simp [h_1, f_75, f_80, f_88, f_92] <;> omega) hP hD hS dX5_partGate_100
    have f_80 : b = 1 := (nI_eq (a := b) (b := 1) (by first | omega | exact b_and1 _ | exact b_ct _ _ (by omega) | exact b_andr _ (by omega)) (by first | omega | exact b_and1 _ | exact b_ct _ _ (by omega) | exact b_andr _ (by omega))).mp c_80
    refine lv_iconst (v := nI 1) hx hb dX5_partGate_83 (by decide) ?_
    refine lv_goto (tgt := 100) hx hb dX5_partGate_84 (by decide) ?_
    exact hri () _ H locs 100 ls .int rfl rfl trivial (by rw [h_1]; simp only [pgF, Option.some.injEq, Value.int.injEq]; congr 1; simp [h_1, f_75, f_80] <;> omega) hP hD hS dX5_partGate_100
  · refine lv_tableIn (off := 100) (tgt := 101) hx hb dX5_partGate_1 (by rw [h_1]; decide) (by rw [h_1]; decide) (by rw [h_1]; decide) (by decide) ?_
    refine lv_iload_n hx hb dX5_partGate_101 rfl (lv_at hl 1 rfl) ?_
    refine lv_iconst (v := nI 2) hx hb dX5_partGate_102 (by decide) ?_
    refine lv_icmp_eq (tgt := 111) hx hb dX5_partGate_103 (by decide) (fun c_103 => ?_) (fun c_103 => ?_)
    · have f_103 : a = 2 := (nI_eq (a := a) (b := 2) (by first | omega | exact b_and1 _ | exact b_ct _ _ (by omega) | exact b_andr _ (by omega)) (by first | omega | exact b_and1 _ | exact b_ct _ _ (by omega) | exact b_andr _ (by omega))).mp c_103
      refine lv_iconst (v := nI 2) hx hb dX5_partGate_111 (by decide) ?_
      refine lv_goto (tgt := 118) hx hb dX5_partGate_112 (by decide) ?_
      exact hri () _ H locs 118 ls .int rfl rfl trivial (by rw [h_1]; simp only [pgF, Option.some.injEq, Value.int.injEq]; congr 1; simp [h_1, f_103] <;> omega) hP hD hS dX5_partGate_118
    have f_103 : ¬ a = 2 := fun h => c_103 ((nI_eq (a := a) (b := 2) (by first | omega | exact b_and1 _ | exact b_ct _ _ (by omega) | exact b_andr _ (by omega)) (by first | omega | exact b_and1 _ | exact b_ct _ _ (by omega) | exact b_andr _ (by omega))).mpr h)
    refine lv_iload_n hx hb dX5_partGate_106 rfl (lv_at hl 2 rfl) ?_
    refine lv_iconst (v := nI 2) hx hb dX5_partGate_107 (by decide) ?_
    refine lv_icmp_ne (tgt := 115) hx hb dX5_partGate_108 (by decide) (fun c_108 => ?_) (fun c_108 => ?_)
    · have f_108 : ¬ b = 2 := fun h => c_108 ((nI_eq (a := b) (b := 2) (by first | omega | exact b_and1 _ | exact b_ct _ _ (by omega) | exact b_andr _ (by omega)) (by first | omega | exact b_and1 _ | exact b_ct _ _ (by omega) | exact b_andr _ (by omega))).mpr h)
      refine lv_iload_n hx hb dX5_partGate_115 rfl (lv_at hl 1 rfl) ?_
      refine lv_iload_n hx hb dX5_partGate_116 rfl (lv_at hl 2 rfl) ?_
      refine lv_ixor hx hb dX5_partGate_117 ?_
      refine fx_eqi (fx_xorI _ _) ?_
      exact hri () _ H locs 118 ls .int rfl rfl trivial (by rw [h_1]; simp only [pgF, Option.some.injEq, Value.int.injEq]; congr 1; simp [h_1, f_103, f_108] <;> omega) hP hD hS dX5_partGate_118
    have f_108 : b = 2 := (nI_eq (a := b) (b := 2) (by first | omega | exact b_and1 _ | exact b_ct _ _ (by omega) | exact b_andr _ (by omega)) (by first | omega | exact b_and1 _ | exact b_ct _ _ (by omega) | exact b_andr _ (by omega))).mp c_108
    refine lv_iconst (v := nI 2) hx hb dX5_partGate_111 (by decide) ?_
    refine lv_goto (tgt := 118) hx hb dX5_partGate_112 (by decide) ?_
    exact hri () _ H locs 118 ls .int rfl rfl trivial (by rw [h_1]; simp only [pgF, Option.some.injEq, Value.int.injEq]; congr 1; simp [h_1, f_103, f_108] <;> omega) hP hD hS dX5_partGate_118
  refine lv_tableOut (tgt := 119) hx hb dX5_partGate_1 (by rw [h_1]; decide) (by decide) ?_
  refine lv_iload_n hx hb dX5_partGate_119 rfl (lv_at hl 1 rfl) ?_
  refine lv_iconst (v := nI 1) hx hb dX5_partGate_120 (by decide) ?_
  refine lv_icmp_ne (tgt := 128) hx hb dX5_partGate_121 (by decide) (fun c_121 => ?_) (fun c_121 => ?_)
  · have f_121 : ¬ a = 1 := fun h => c_121 ((nI_eq (a := a) (b := 1) (by first | omega | exact b_and1 _ | exact b_ct _ _ (by omega) | exact b_andr _ (by omega)) (by first | omega | exact b_and1 _ | exact b_ct _ _ (by omega) | exact b_andr _ (by omega))).mpr h)
    refine lv_iload_n hx hb dX5_partGate_128 rfl (lv_at hl 1 rfl) ?_
    refine lv_if_ne (tgt := 136) hx hb dX5_partGate_129 (by decide) (fun c_129 => ?_) (fun c_129 => ?_)
    · have f_129 : ¬ a = 0 := fun h => c_129 ((nI_eq (a := a) (b := 0) (by first | omega | exact b_and1 _ | exact b_ct _ _ (by omega) | exact b_andr _ (by omega)) (by first | omega | exact b_and1 _ | exact b_ct _ _ (by omega) | exact b_andr _ (by omega))).mpr h)
      refine lv_iload_n hx hb dX5_partGate_136 rfl (lv_at hl 2 rfl) ?_
      refine lv_iload_n hx hb dX5_partGate_137 rfl (lv_at hl 3 rfl) ?_
      refine lv_icmp_ne (tgt := 145) hx hb dX5_partGate_138 (by decide) (fun c_138 => ?_) (fun c_138 => ?_)
      · have f_138 : ¬ b = cc := fun h => c_138 ((nI_eq (a := b) (b := cc) (by first | omega | exact b_and1 _ | exact b_ct _ _ (by omega) | exact b_andr _ (by omega)) (by first | omega | exact b_and1 _ | exact b_ct _ _ (by omega) | exact b_andr _ (by omega))).mpr h)
        refine lv_iconst (v := nI 2) hx hb dX5_partGate_145 (by decide) ?_
        exact hri () _ H locs 146 ls .int rfl rfl trivial (by rw [h_1]; simp only [pgF, Option.some.injEq, Value.int.injEq]; congr 1; simp [h_1, f_121, f_129, f_138] <;> omega) hP hD hS dX5_partGate_146
      have f_138 : b = cc := (nI_eq (a := b) (b := cc) (by first | omega | exact b_and1 _ | exact b_ct _ _ (by omega) | exact b_andr _ (by omega)) (by first | omega | exact b_and1 _ | exact b_ct _ _ (by omega) | exact b_andr _ (by omega))).mp c_138
      refine lv_iload_n hx hb dX5_partGate_141 rfl (lv_at hl 2 rfl) ?_
      refine lv_goto (tgt := 146) hx hb dX5_partGate_142 (by decide) ?_
      exact hri () _ H locs 146 ls .int rfl rfl trivial (by rw [h_1]; simp only [pgF, Option.some.injEq, Value.int.injEq]; congr 1; simp [h_1, f_121, f_129, f_138] <;> omega) hP hD hS dX5_partGate_146
    have f_129 : a = 0 := (nI_eq (a := a) (b := 0) (by first | omega | exact b_and1 _ | exact b_ct _ _ (by omega) | exact b_andr _ (by omega)) (by first | omega | exact b_and1 _ | exact b_ct _ _ (by omega) | exact b_andr _ (by omega))).mp c_129
    refine lv_iload_n hx hb dX5_partGate_132 rfl (lv_at hl 3 rfl) ?_
    refine lv_goto (tgt := 146) hx hb dX5_partGate_133 (by decide) ?_
    exact hri () _ H locs 146 ls .int rfl rfl trivial (by rw [h_1]; simp only [pgF, Option.some.injEq, Value.int.injEq]; congr 1; simp [h_1, f_121, f_129] <;> omega) hP hD hS dX5_partGate_146
  have f_121 : a = 1 := (nI_eq (a := a) (b := 1) (by first | omega | exact b_and1 _ | exact b_ct _ _ (by omega) | exact b_andr _ (by omega)) (by first | omega | exact b_and1 _ | exact b_ct _ _ (by omega) | exact b_andr _ (by omega))).mp c_121
  refine lv_iload_n hx hb dX5_partGate_124 rfl (lv_at hl 2 rfl) ?_
  refine lv_goto (tgt := 146) hx hb dX5_partGate_125 (by decide) ?_
  exact hri () _ H locs 146 ls .int rfl rfl trivial (by rw [h_1]; simp only [pgF, Option.some.injEq, Value.int.injEq]; congr 1; simp [h_1, f_121] <;> omega) hP hD hS dX5_partGate_146
set_option maxHeartbeats 4000000 in
set_option maxRecDepth 100000 in
theorem c_X5_workParts (l : Launch) (D : va_G) (cI cJ cZ : ClassId) (z : Nat → Nat) (mn : Nat) (mi : Nat) (ms : Nat) (mtk : Nat) (mso : Nat → Nat) (mwh : Nat → Nat) (mfi : Nat → Nat) (mse : Nat → Nat) (mth : Nat → Nat) (mpu : Nat → Nat) (mno : Nat → Nat) (mlo : Nat → Nat) (mbe : Nat → Nat) (mre : Nat → Nat) (mis : Nat → Bool) (mca : Nat → Bool) (mpa : Nat → Nat) (mva : Nat → Nat) (mle : Nat → Nat) (mst : Nat → Bool) (mtn : Nat → Bool) (mln : Nat → Nat) (mne : Nat → Int32) (mgo : Nat → Int32) (hmn : mn ≤ 32) (hmi : mi ≤ 4) (hms : ms ≤ 6) (hso : ∀ j, j < mn → mso j ≤ 3) (hwk : ∀ j, j < mn → mso j = 2 → mwh j ≤ 4) (hg : ∀ j, j < mn → mso j = 2 → mfi j < j ∧ mse j < j ∧ mth j < j) (hwf : ∀ j, j < mn → mso j = 1 → mwh j ≤ 1) (hwi : ∀ j, j < mn → mso j = 0 → mwh j < mi) (hws : ∀ j, j < mn → mso j = 3 → mwh j < ms) (hpu : ∀ i, i < mi → mpu i ≤ 2) (hpa : ∀ i, i < ms → mpa i ≤ 2) : Ct l D cI cJ cZ yX5_workParts wsX5_workParts ({ frames := 1, cells := 0, slots := 0, locals := 23 } : Room) 0 0 [.ref (z 0)] (wM z cI cZ mn mi ms mtk mso mwh mfi mse mth mpu mno mlo mbe mre mis mca mpa mva mle mst mtn mln mne mgo) (S := Unit) (fun u => True) (fun u => none) (fun u => (wM z cI cZ mn mi ms mtk mso mwh mfi mse mth mpu mno mlo mbe mre mis mca mpa (parT mso mwh mfi mse mth mpu mpa mva mn) mle mst mtn mln mne mgo)) := by
  refine Ct.ofW (cc := cX5_workParts) (maxL := 3) (ret := none) (R_C := RX5) (by decide +kernel) rfl rfl (Nat.le_of_ble_eq_true rfl) rfl ?_
  intro p e s m args below meth c A Q ls H locs hx hb hml hown hts hK hA hP hD hS hZ hl hri hrl hrv
  refine lv_iconst (v := nI 0) hx hb dX5_workParts_0 (by decide) ?_
  refine lv_istore_n (lv' := [(1, .int (nI 0)), (0, .ref (z 0))]) hx hb dX5_workParts_1 rfl hl (by decide) rfl (fun ls hl => ?_)
  have L_2 : ∀ (fuel : Nat) (i : Nat) (hi : i ≤ mn) (hfu : mn - i < fuel) (H : Heap) (locs : List Loc), va_P D vwCl (wM z cI cZ mn mi ms mtk mso mwh mfi mse mth mpu mno mlo mbe mre mis mca mpa (parT mso mwh mfi mse mth mpu mpa mva i) mle mst mtn mln mne mgo) H → va_D A (wM z cI cZ mn mi ms mtk mso mwh mfi mse mth mpu mno mlo mbe mre mis mca mpa (parT mso mwh mfi mse mth mpu mpa mva i) mle mst mtn mln mne mgo) → va_S A s.heap H locs → ∀ ls : Array Slot, lv_has ls 3 [(0, .ref (z 0)), (1, .int (nI i))] → W p l e ({ frames := 1, cells := 0, slots := 0, locals := 23 } : Room) s m args below meth c H locs 0 0 Q (F0 m 2 ls []) := by
    intro fuel
    induction fuel with
    | zero => intro i hi hfu; exact absurd hfu (Nat.not_lt_zero _)
    | succ fuel ih_2 =>
      intro i hi hfu H locs hP hD hS ls hl
      refine lv_iload_n hx hb dX5_workParts_2 rfl (lv_at hl 1 rfl) ?_
      refine lv_aload_n hx hb dX5_workParts_3 rfl (lv_at hl 0 rfl) ?_
      refine va_get (D := D) (ci := 5) (v := .int (nI mn)) (C := RX5) (T := TX5) (N := 24) hx hb hts (fun w h => List.mem_cons_of_mem _ (List.mem_append_right _ h)) hown hK hP 0 rfl rfl 0 (by decide) (hts (.fieldLink RX5 74 "FirstStatesModel" "nodes" "I") (List.mem_of_getElem? (i := 1) rfl)) (fun _ h9 => h9) rfl dX5_workParts_4 ?_
      refine lv_icmp_ge (tgt := 123) hx hb dX5_workParts_7 (by decide) (fun c_7 => ?_) (fun c_7 => ?_)
      · have f_7 : mn ≤ i := (nI_leI (a := mn) (b := i) (by first | omega | exact b_and1 _ | exact b_ct _ _ (by omega) | exact b_andr _ (by omega)) (by first | omega | exact b_and1 _ | exact b_ct _ _ (by omega) | exact b_andr _ (by omega))).mp c_7
        have e_1 : parT mso mwh mfi mse mth mpu mpa mva i = parT mso mwh mfi mse mth mpu mpa mva mn := by first | rfl | (rw [show mn = i by omega])
        exact hrv () H locs 123 ls rfl trivial rfl (fx_Pe (w' := (wM z cI cZ mn mi ms mtk mso mwh mfi mse mth mpu mno mlo mbe mre mis mca mpa (parT mso mwh mfi mse mth mpu mpa mva mn) mle mst mtn mln mne mgo)) hP (congrArg (fun w9 : Nat → Nat => (wM z cI cZ mn mi ms mtk mso mwh mfi mse mth mpu mno mlo mbe mre mis mca mpa w9 mle mst mtn mln mne mgo)) e_1)) (fx_D hD rfl) hS dX5_workParts_123
      have f_7 : ¬ mn ≤ i := fun h => c_7 ((nI_leI (a := mn) (b := i) (by first | omega | exact b_and1 _ | exact b_ct _ _ (by omega) | exact b_andr _ (by omega)) (by first | omega | exact b_and1 _ | exact b_ct _ _ (by omega) | exact b_andr _ (by omega))).mpr h)
      have hso1 := hso i (by omega)
      refine lv_aload_n hx hb dX5_workParts_10 rfl (lv_at hl 0 rfl) ?_
      refine va_get (D := D) (ci := 5) (v := .ref (z 2)) (C := RX5) (T := TX5) (N := 24) hx hb hts (fun w h => List.mem_cons_of_mem _ (List.mem_append_right _ h)) hown hK hP 0 rfl rfl 2 (by decide) (hts (.fieldLink RX5 13 "FirstStatesModel" "which" "[I") (List.mem_of_getElem? (i := 2) rfl)) (fun _ h9 => h9) rfl dX5_workParts_11 ?_
      refine lv_iload_n hx hb dX5_workParts_14 rfl (lv_at hl 1 rfl) ?_
      refine fx_iald (ar := nI) hx hb hK hP 2 (f := mwh) (k := i) rfl (by omega) (by decide) dX5_workParts_15 ?_
      refine lv_istore_n (lv' := [(2, .int (nI (mwh i))), (0, .ref (z 0)), (1, .int (nI i))]) hx hb dX5_workParts_16 rfl hl (by decide) rfl (fun ls hl => ?_)
      refine lv_aload_n hx hb dX5_workParts_17 rfl (lv_at hl 1 rfl) ?_
      refine va_get (D := D) (ci := 5) (v := .ref (z 1)) (C := RX5) (T := TX5) (N := 24) hx hb hts (fun w h => List.mem_cons_of_mem _ (List.mem_append_right _ h)) hown hK hP 0 rfl rfl 1 (by decide) (hts (.fieldLink RX5 7 "FirstStatesModel" "sort" "[I") (List.mem_of_getElem? (i := 3) rfl)) (fun _ h9 => h9) rfl dX5_workParts_18 ?_
      refine lv_iload_n hx hb dX5_workParts_21 rfl (lv_at hl 2 rfl) ?_
      refine fx_iald (ar := nI) hx hb hK hP 1 (f := mso) (k := i) rfl (by omega) (by decide) dX5_workParts_22 ?_
      refine lv_iconst (v := nI 2) hx hb dX5_workParts_23 (by decide) ?_
      refine lv_icmp_ne (tgt := 73) hx hb dX5_workParts_24 (by decide) (fun c_24 => ?_) (fun c_24 => ?_)
      · have f_24 : ¬ mso i = 2 := fun h => c_24 ((nI_eq (a := mso i) (b := 2) (by first | omega | exact b_and1 _ | exact b_ct _ _ (by omega) | exact b_andr _ (by omega)) (by first | omega | exact b_and1 _ | exact b_ct _ _ (by omega) | exact b_andr _ (by omega))).mpr h)
        refine lv_aload_n hx hb dX5_workParts_73 rfl (lv_at hl 1 rfl) ?_
        refine va_get (D := D) (ci := 5) (v := .ref (z 14)) (C := RX5) (T := TX5) (N := 24) hx hb hts (fun w h => List.mem_cons_of_mem _ (List.mem_append_right _ h)) hown hK hP 0 rfl rfl 17 (by decide) (hts (.fieldLink RX5 50 "FirstStatesModel" "value" "[I") (List.mem_of_getElem? (i := 4) rfl)) (fun _ h9 => h9) rfl dX5_workParts_74 ?_
        refine lv_iload_n hx hb dX5_workParts_77 rfl (lv_at hl 2 rfl) ?_
        refine lv_aload_n hx hb dX5_workParts_78 rfl (lv_at hl 1 rfl) ?_
        refine va_get (D := D) (ci := 5) (v := .ref (z 1)) (C := RX5) (T := TX5) (N := 24) hx hb hts (fun w h => List.mem_cons_of_mem _ (List.mem_append_right _ h)) hown hK hP 0 rfl rfl 1 (by decide) (hts (.fieldLink RX5 7 "FirstStatesModel" "sort" "[I") (List.mem_of_getElem? (i := 3) rfl)) (fun _ h9 => h9) rfl dX5_workParts_79 ?_
        refine lv_iload_n hx hb dX5_workParts_82 rfl (lv_at hl 2 rfl) ?_
        refine fx_iald (ar := nI) hx hb hK hP 1 (f := mso) (k := i) rfl (by omega) (by decide) dX5_workParts_83 ?_
        refine lv_iconst (v := nI 1) hx hb dX5_workParts_84 (by decide) ?_
        refine lv_icmp_ne (tgt := 92) hx hb dX5_workParts_85 (by decide) (fun c_85 => ?_) (fun c_85 => ?_)
        · have f_85 : ¬ mso i = 1 := fun h => c_85 ((nI_eq (a := mso i) (b := 1) (by first | omega | exact b_and1 _ | exact b_ct _ _ (by omega) | exact b_andr _ (by omega)) (by first | omega | exact b_and1 _ | exact b_ct _ _ (by omega) | exact b_andr _ (by omega))).mpr h)
          refine lv_aload_n hx hb dX5_workParts_92 rfl (lv_at hl 1 rfl) ?_
          refine va_get (D := D) (ci := 5) (v := .ref (z 1)) (C := RX5) (T := TX5) (N := 24) hx hb hts (fun w h => List.mem_cons_of_mem _ (List.mem_append_right _ h)) hown hK hP 0 rfl rfl 1 (by decide) (hts (.fieldLink RX5 7 "FirstStatesModel" "sort" "[I") (List.mem_of_getElem? (i := 3) rfl)) (fun _ h9 => h9) rfl dX5_workParts_93 ?_
          refine lv_iload_n hx hb dX5_workParts_96 rfl (lv_at hl 2 rfl) ?_
          refine fx_iald (ar := nI) hx hb hK hP 1 (f := mso) (k := i) rfl (by omega) (by decide) dX5_workParts_97 ?_
          refine lv_if_ne (tgt := 110) hx hb dX5_workParts_98 (by decide) (fun c_98 => ?_) (fun c_98 => ?_)
          · have f_98 : ¬ mso i = 0 := fun h => c_98 ((nI_eq (a := mso i) (b := 0) (by first | omega | exact b_and1 _ | exact b_ct _ _ (by omega) | exact b_andr _ (by omega)) (by first | omega | exact b_and1 _ | exact b_ct _ _ (by omega) | exact b_andr _ (by omega))).mpr h)
            have hws1 := hws i (by omega) (by omega)
            refine lv_aload_n hx hb dX5_workParts_110 rfl (lv_at hl 1 rfl) ?_
            refine va_get (D := D) (ci := 5) (v := .ref (z 13)) (C := RX5) (T := TX5) (N := 24) hx hb hts (fun w h => List.mem_cons_of_mem _ (List.mem_append_right _ h)) hown hK hP 0 rfl rfl 16 (by decide) (hts (.fieldLink RX5 47 "FirstStatesModel" "parts" "[I") (List.mem_of_getElem? (i := 9) rfl)) (fun _ h9 => h9) rfl dX5_workParts_111 ?_
            refine lv_iload_n hx hb dX5_workParts_114 rfl (lv_at hl 0 rfl) ?_
            refine fx_iald (ar := nI) hx hb hK hP 13 (f := mpa) (k := (mwh i)) rfl (by omega) (by decide) dX5_workParts_115 ?_
            refine fx_iast (ar := nI) hx hb hK hP hD hS 14 (f := (parT mso mwh mfi mse mth mpu mpa mva i)) (k := i) (v := (mpa (mwh i))) rfl (by omega) (by decide) rfl dX5_workParts_116 (fun H locs hP hD hS => ?_)
            have hP : va_P D vwCl (wM z cI cZ mn mi ms mtk mso mwh mfi mse mth mpu mno mlo mbe mre mis mca mpa (va_up (parT mso mwh mfi mse mth mpu mpa mva i) i (mpa (mwh i))) mle mst mtn mln mne mgo) H := hP
            have hD : va_D A (wM z cI cZ mn mi ms mtk mso mwh mfi mse mth mpu mno mlo mbe mre mis mca mpa (va_up (parT mso mwh mfi mse mth mpu mpa mva i) i (mpa (mwh i))) mle mst mtn mln mne mgo) := fx_D hD rfl
            refine lv_iinc (v := nI (i + 1)) (lv' := [(1, .int (nI (i + 1))), (2, .int (nI (mwh i))), (0, .ref (z 0))]) hx hb dX5_workParts_117 hl (k := 2) rfl (by exact nI_1 _) (by decide) rfl (fun ls hl => ?_)
            refine lv_goto (tgt := 2) hx hb dX5_workParts_120 (by decide) ?_
            have e_2 : va_up (parT mso mwh mfi mse mth mpu mpa mva i) i (mpa (mwh i)) = parT mso mwh mfi mse mth mpu mpa mva (i + 1) := by first | rfl | (simp [parT, f_24, f_85, f_98])
            exact ih_2 (i + 1) (by first | assumption | omega) (by omega) H locs (fx_Pe (w' := (wM z cI cZ mn mi ms mtk mso mwh mfi mse mth mpu mno mlo mbe mre mis mca mpa (parT mso mwh mfi mse mth mpu mpa mva (i + 1)) mle mst mtn mln mne mgo)) hP (congrArg (fun w9 : Nat → Nat => (wM z cI cZ mn mi ms mtk mso mwh mfi mse mth mpu mno mlo mbe mre mis mca mpa w9 mle mst mtn mln mne mgo)) e_2)) (fx_D hD rfl) hS ls (lv_sub hl [2, 0] rfl)
          have f_98 : mso i = 0 := (nI_eq (a := mso i) (b := 0) (by first | omega | exact b_and1 _ | exact b_ct _ _ (by omega) | exact b_andr _ (by omega)) (by first | omega | exact b_and1 _ | exact b_ct _ _ (by omega) | exact b_andr _ (by omega))).mp c_98
          have hwi1 := hwi i (by omega) f_98
          refine lv_aload_n hx hb dX5_workParts_101 rfl (lv_at hl 1 rfl) ?_
          refine va_get (D := D) (ci := 5) (v := .ref (z 6)) (C := RX5) (T := TX5) (N := 24) hx hb hts (fun w h => List.mem_cons_of_mem _ (List.mem_append_right _ h)) hown hK hP 0 rfl rfl 7 (by decide) (hts (.fieldLink RX5 25 "FirstStatesModel" "put" "[I") (List.mem_of_getElem? (i := 8) rfl)) (fun _ h9 => h9) rfl dX5_workParts_102 ?_
          refine lv_iload_n hx hb dX5_workParts_105 rfl (lv_at hl 0 rfl) ?_
          refine fx_iald (ar := nI) hx hb hK hP 6 (f := mpu) (k := (mwh i)) rfl (by omega) (by decide) dX5_workParts_106 ?_
          refine lv_goto (tgt := 116) hx hb dX5_workParts_107 (by decide) ?_
          refine fx_iast (ar := nI) hx hb hK hP hD hS 14 (f := (parT mso mwh mfi mse mth mpu mpa mva i)) (k := i) (v := (mpu (mwh i))) rfl (by omega) (by decide) rfl dX5_workParts_116 (fun H locs hP hD hS => ?_)
          have hP : va_P D vwCl (wM z cI cZ mn mi ms mtk mso mwh mfi mse mth mpu mno mlo mbe mre mis mca mpa (va_up (parT mso mwh mfi mse mth mpu mpa mva i) i (mpu (mwh i))) mle mst mtn mln mne mgo) H := hP
          have hD : va_D A (wM z cI cZ mn mi ms mtk mso mwh mfi mse mth mpu mno mlo mbe mre mis mca mpa (va_up (parT mso mwh mfi mse mth mpu mpa mva i) i (mpu (mwh i))) mle mst mtn mln mne mgo) := fx_D hD rfl
          refine lv_iinc (v := nI (i + 1)) (lv' := [(1, .int (nI (i + 1))), (2, .int (nI (mwh i))), (0, .ref (z 0))]) hx hb dX5_workParts_117 hl (k := 2) rfl (by exact nI_1 _) (by decide) rfl (fun ls hl => ?_)
          refine lv_goto (tgt := 2) hx hb dX5_workParts_120 (by decide) ?_
          have e_3 : va_up (parT mso mwh mfi mse mth mpu mpa mva i) i (mpu (mwh i)) = parT mso mwh mfi mse mth mpu mpa mva (i + 1) := by first | rfl | (simp [parT, f_24, f_85, f_98])
          exact ih_2 (i + 1) (by first | assumption | omega) (by omega) H locs (fx_Pe (w' := (wM z cI cZ mn mi ms mtk mso mwh mfi mse mth mpu mno mlo mbe mre mis mca mpa (parT mso mwh mfi mse mth mpu mpa mva (i + 1)) mle mst mtn mln mne mgo)) hP (congrArg (fun w9 : Nat → Nat => (wM z cI cZ mn mi ms mtk mso mwh mfi mse mth mpu mno mlo mbe mre mis mca mpa w9 mle mst mtn mln mne mgo)) e_3)) (fx_D hD rfl) hS ls (lv_sub hl [2, 0] rfl)
        have f_85 : mso i = 1 := (nI_eq (a := mso i) (b := 1) (by first | omega | exact b_and1 _ | exact b_ct _ _ (by omega) | exact b_andr _ (by omega)) (by first | omega | exact b_and1 _ | exact b_ct _ _ (by omega) | exact b_andr _ (by omega))).mp c_85
        refine lv_iload_n hx hb dX5_workParts_88 rfl (lv_at hl 0 rfl) ?_
        refine lv_goto (tgt := 116) hx hb dX5_workParts_89 (by decide) ?_
        refine fx_iast (ar := nI) hx hb hK hP hD hS 14 (f := (parT mso mwh mfi mse mth mpu mpa mva i)) (k := i) (v := (mwh i)) rfl (by omega) (by decide) rfl dX5_workParts_116 (fun H locs hP hD hS => ?_)
        have hP : va_P D vwCl (wM z cI cZ mn mi ms mtk mso mwh mfi mse mth mpu mno mlo mbe mre mis mca mpa (va_up (parT mso mwh mfi mse mth mpu mpa mva i) i (mwh i)) mle mst mtn mln mne mgo) H := hP
        have hD : va_D A (wM z cI cZ mn mi ms mtk mso mwh mfi mse mth mpu mno mlo mbe mre mis mca mpa (va_up (parT mso mwh mfi mse mth mpu mpa mva i) i (mwh i)) mle mst mtn mln mne mgo) := fx_D hD rfl
        refine lv_iinc (v := nI (i + 1)) (lv' := [(1, .int (nI (i + 1))), (2, .int (nI (mwh i))), (0, .ref (z 0))]) hx hb dX5_workParts_117 hl (k := 2) rfl (by exact nI_1 _) (by decide) rfl (fun ls hl => ?_)
        refine lv_goto (tgt := 2) hx hb dX5_workParts_120 (by decide) ?_
        have e_4 : va_up (parT mso mwh mfi mse mth mpu mpa mva i) i (mwh i) = parT mso mwh mfi mse mth mpu mpa mva (i + 1) := by first | rfl | (simp [parT, f_24, f_85])
        exact ih_2 (i + 1) (by first | assumption | omega) (by omega) H locs (fx_Pe (w' := (wM z cI cZ mn mi ms mtk mso mwh mfi mse mth mpu mno mlo mbe mre mis mca mpa (parT mso mwh mfi mse mth mpu mpa mva (i + 1)) mle mst mtn mln mne mgo)) hP (congrArg (fun w9 : Nat → Nat => (wM z cI cZ mn mi ms mtk mso mwh mfi mse mth mpu mno mlo mbe mre mis mca mpa w9 mle mst mtn mln mne mgo)) e_4)) (fx_D hD rfl) hS ls (lv_sub hl [2, 0] rfl)
      have f_24 : mso i = 2 := (nI_eq (a := mso i) (b := 2) (by first | omega | exact b_and1 _ | exact b_ct _ _ (by omega) | exact b_andr _ (by omega)) (by first | omega | exact b_and1 _ | exact b_ct _ _ (by omega) | exact b_andr _ (by omega))).mp c_24
      have hg1 := hg i (by omega) f_24
      have hwk1 := hwk i (by omega) f_24
      have wle := parT_le (f := mva) hg hwf hwi hws hso hpu hpa (show i ≤ mn by omega)
      have w1 := wle _ hg1.1
      have w2 := wle _ hg1.2.1
      have w3 := wle _ hg1.2.2
      refine lv_aload_n hx hb dX5_workParts_27 rfl (lv_at hl 1 rfl) ?_
      refine va_get (D := D) (ci := 5) (v := .ref (z 14)) (C := RX5) (T := TX5) (N := 24) hx hb hts (fun w h => List.mem_cons_of_mem _ (List.mem_append_right _ h)) hown hK hP 0 rfl rfl 17 (by decide) (hts (.fieldLink RX5 50 "FirstStatesModel" "value" "[I") (List.mem_of_getElem? (i := 4) rfl)) (fun _ h9 => h9) rfl dX5_workParts_28 ?_
      refine lv_iload_n hx hb dX5_workParts_31 rfl (lv_at hl 2 rfl) ?_
      refine lv_iload_n hx hb dX5_workParts_32 rfl (lv_at hl 0 rfl) ?_
      refine lv_aload_n hx hb dX5_workParts_33 rfl (lv_at hl 1 rfl) ?_
      refine va_get (D := D) (ci := 5) (v := .ref (z 14)) (C := RX5) (T := TX5) (N := 24) hx hb hts (fun w h => List.mem_cons_of_mem _ (List.mem_append_right _ h)) hown hK hP 0 rfl rfl 17 (by decide) (hts (.fieldLink RX5 50 "FirstStatesModel" "value" "[I") (List.mem_of_getElem? (i := 4) rfl)) (fun _ h9 => h9) rfl dX5_workParts_34 ?_
      refine lv_aload_n hx hb dX5_workParts_37 rfl (lv_at hl 1 rfl) ?_
      refine va_get (D := D) (ci := 5) (v := .ref (z 3)) (C := RX5) (T := TX5) (N := 24) hx hb hts (fun w h => List.mem_cons_of_mem _ (List.mem_append_right _ h)) hown hK hP 0 rfl rfl 3 (by decide) (hts (.fieldLink RX5 16 "FirstStatesModel" "first" "[I") (List.mem_of_getElem? (i := 5) rfl)) (fun _ h9 => h9) rfl dX5_workParts_38 ?_
      refine lv_iload_n hx hb dX5_workParts_41 rfl (lv_at hl 2 rfl) ?_
      refine fx_iald (ar := nI) hx hb hK hP 3 (f := mfi) (k := i) rfl (by omega) (by decide) dX5_workParts_42 ?_
      refine fx_iald (ar := nI) hx hb hK hP 14 (f := (parT mso mwh mfi mse mth mpu mpa mva i)) (k := (mfi i)) rfl (by omega) (by decide) dX5_workParts_43 ?_
      refine lv_aload_n hx hb dX5_workParts_44 rfl (lv_at hl 1 rfl) ?_
      refine va_get (D := D) (ci := 5) (v := .ref (z 14)) (C := RX5) (T := TX5) (N := 24) hx hb hts (fun w h => List.mem_cons_of_mem _ (List.mem_append_right _ h)) hown hK hP 0 rfl rfl 17 (by decide) (hts (.fieldLink RX5 50 "FirstStatesModel" "value" "[I") (List.mem_of_getElem? (i := 4) rfl)) (fun _ h9 => h9) rfl dX5_workParts_45 ?_
      refine lv_aload_n hx hb dX5_workParts_48 rfl (lv_at hl 1 rfl) ?_
      refine va_get (D := D) (ci := 5) (v := .ref (z 4)) (C := RX5) (T := TX5) (N := 24) hx hb hts (fun w h => List.mem_cons_of_mem _ (List.mem_append_right _ h)) hown hK hP 0 rfl rfl 4 (by decide) (hts (.fieldLink RX5 19 "FirstStatesModel" "second" "[I") (List.mem_of_getElem? (i := 6) rfl)) (fun _ h9 => h9) rfl dX5_workParts_49 ?_
      refine lv_iload_n hx hb dX5_workParts_52 rfl (lv_at hl 2 rfl) ?_
      refine fx_iald (ar := nI) hx hb hK hP 4 (f := mse) (k := i) rfl (by omega) (by decide) dX5_workParts_53 ?_
      refine fx_iald (ar := nI) hx hb hK hP 14 (f := (parT mso mwh mfi mse mth mpu mpa mva i)) (k := (mse i)) rfl (by omega) (by decide) dX5_workParts_54 ?_
      refine lv_aload_n hx hb dX5_workParts_55 rfl (lv_at hl 1 rfl) ?_
      refine va_get (D := D) (ci := 5) (v := .ref (z 14)) (C := RX5) (T := TX5) (N := 24) hx hb hts (fun w h => List.mem_cons_of_mem _ (List.mem_append_right _ h)) hown hK hP 0 rfl rfl 17 (by decide) (hts (.fieldLink RX5 50 "FirstStatesModel" "value" "[I") (List.mem_of_getElem? (i := 4) rfl)) (fun _ h9 => h9) rfl dX5_workParts_56 ?_
      refine lv_aload_n hx hb dX5_workParts_59 rfl (lv_at hl 1 rfl) ?_
      refine va_get (D := D) (ci := 5) (v := .ref (z 5)) (C := RX5) (T := TX5) (N := 24) hx hb hts (fun w h => List.mem_cons_of_mem _ (List.mem_append_right _ h)) hown hK hP 0 rfl rfl 5 (by decide) (hts (.fieldLink RX5 22 "FirstStatesModel" "third" "[I") (List.mem_of_getElem? (i := 7) rfl)) (fun _ h9 => h9) rfl dX5_workParts_60 ?_
      refine lv_iload_n hx hb dX5_workParts_63 rfl (lv_at hl 2 rfl) ?_
      refine fx_iald (ar := nI) hx hb hK hP 5 (f := mth) (k := i) rfl (by omega) (by decide) dX5_workParts_64 ?_
      refine fx_iald (ar := nI) hx hb hK hP 14 (f := (parT mso mwh mfi mse mth mpu mpa mva i)) (k := (mth i)) rfl (by omega) (by decide) dX5_workParts_65 ?_
      refine fx_callS (As := [.int (nI (mwh i)), .int (nI ((parT mso mwh mfi mse mth mpu mpa mva i) (mfi i))), .int (nI ((parT mso mwh mfi mse mth mpu mpa mva i) (mse i))), .int (nI ((parT mso mwh mfi mse mth mpu mpa mva i) (mth i)))]) (rest := [.int (nI i), .ref (z 14)]) ⟨hx, hb, hml, hown, hts⟩ (c_X5_partGate l D cI cJ cZ (wM z cI cZ mn mi ms mtk mso mwh mfi mse mth mpu mno mlo mbe mre mis mca mpa (parT mso mwh mfi mse mth mpu mpa mva i) mle mst mtn mln mne mgo) (mwh i) ((parT mso mwh mfi mse mth mpu mpa mva i) (mfi i)) ((parT mso mwh mfi mse mth mpu mpa mva i) (mse i)) ((parT mso mwh mfi mse mth mpu mpa mva i) (mth i)) (by first | assumption | omega) (by first | assumption | omega) (by first | assumption | omega) (by first | assumption | omega)) (va_cwS 4 hts gX5_workParts_X5_partGate rfl rfl rfl ks_X5_partGate ⟨Nat.le_of_ble_eq_true rfl, Nat.le_of_ble_eq_true rfl⟩) hK hP hD hS hA hZ rfl hl.1 rfl (lv_room (Nat.le_of_ble_eq_true rfl)) dX5_workParts_66 ⟨Nat.zero_le _, Nat.zero_le _⟩ (fun u_5 H locs hu_5 hP hD hS => ?_)
      refine fx_iast (ar := nI) hx hb hK hP hD hS 14 (f := (parT mso mwh mfi mse mth mpu mpa mva i)) (k := i) (v := (pgF (mwh i) ((parT mso mwh mfi mse mth mpu mpa mva i) (mfi i)) ((parT mso mwh mfi mse mth mpu mpa mva i) (mse i)) ((parT mso mwh mfi mse mth mpu mpa mva i) (mth i)))) rfl (by omega) (by decide) rfl dX5_workParts_69 (fun H locs hP hD hS => ?_)
      have hP : va_P D vwCl (wM z cI cZ mn mi ms mtk mso mwh mfi mse mth mpu mno mlo mbe mre mis mca mpa (va_up (parT mso mwh mfi mse mth mpu mpa mva i) i (pgF (mwh i) ((parT mso mwh mfi mse mth mpu mpa mva i) (mfi i)) ((parT mso mwh mfi mse mth mpu mpa mva i) (mse i)) ((parT mso mwh mfi mse mth mpu mpa mva i) (mth i)))) mle mst mtn mln mne mgo) H := hP
      have hD : va_D A (wM z cI cZ mn mi ms mtk mso mwh mfi mse mth mpu mno mlo mbe mre mis mca mpa (va_up (parT mso mwh mfi mse mth mpu mpa mva i) i (pgF (mwh i) ((parT mso mwh mfi mse mth mpu mpa mva i) (mfi i)) ((parT mso mwh mfi mse mth mpu mpa mva i) (mse i)) ((parT mso mwh mfi mse mth mpu mpa mva i) (mth i)))) mle mst mtn mln mne mgo) := fx_D hD rfl
      refine lv_goto (tgt := 117) hx hb dX5_workParts_70 (by decide) ?_
      refine lv_iinc (v := nI (i + 1)) (lv' := [(1, .int (nI (i + 1))), (2, .int (nI (mwh i))), (0, .ref (z 0))]) hx hb dX5_workParts_117 hl (k := 2) rfl (by exact nI_1 _) (by decide) rfl (fun ls hl => ?_)
      refine lv_goto (tgt := 2) hx hb dX5_workParts_120 (by decide) ?_
      have e_6 : va_up (parT mso mwh mfi mse mth mpu mpa mva i) i (pgF (mwh i) ((parT mso mwh mfi mse mth mpu mpa mva i) (mfi i)) ((parT mso mwh mfi mse mth mpu mpa mva i) (mse i)) ((parT mso mwh mfi mse mth mpu mpa mva i) (mth i))) = parT mso mwh mfi mse mth mpu mpa mva (i + 1) := by first | rfl | (simp [parT, f_24])
      exact ih_2 (i + 1) (by first | assumption | omega) (by omega) H locs (fx_Pe (w' := (wM z cI cZ mn mi ms mtk mso mwh mfi mse mth mpu mno mlo mbe mre mis mca mpa (parT mso mwh mfi mse mth mpu mpa mva (i + 1)) mle mst mtn mln mne mgo)) hP (congrArg (fun w9 : Nat → Nat => (wM z cI cZ mn mi ms mtk mso mwh mfi mse mth mpu mno mlo mbe mre mis mca mpa w9 mle mst mtn mln mne mgo)) e_6)) (fx_D hD rfl) hS ls (lv_sub hl [2, 0] rfl)
  exact L_2 (mn - 0 + 1) 0 (Nat.zero_le _) (Nat.lt_succ_self _) H locs hP (fx_D hD rfl) hS ls (lv_sub hl [1, 0] rfl)
set_option maxHeartbeats 4000000 in
set_option maxRecDepth 100000 in
theorem c_X5_tick_o (l : Launch) (D : va_G) (cI cJ cZ : ClassId) (z : Nat → Nat) (mn : Nat) (mi : Nat) (ms : Nat) (mtk : Nat) (mso : Nat → Nat) (mwh : Nat → Nat) (mfi : Nat → Nat) (mse : Nat → Nat) (mth : Nat → Nat) (mpu : Nat → Nat) (mno : Nat → Nat) (mlo : Nat → Nat) (mbe : Nat → Nat) (mre : Nat → Nat) (mis : Nat → Bool) (mca : Nat → Bool) (mpa : Nat → Nat) (mva : Nat → Nat) (mle : Nat → Nat) (mst : Nat → Bool) (mtn : Nat → Bool) (mln : Nat → Nat) (mne : Nat → Int32) (mgo : Nat → Int32) (x : Int32) (hx0 : tickB x = false) : Ct l D cI cJ cZ yX5_tick wsX5_tick ({ frames := 1, cells := 0, slots := 0, locals := 22 } : Room) 0 0 [.ref (z 0), .int x] (wM z cI cZ mn mi ms mtk mso mwh mfi mse mth mpu mno mlo mbe mre mis mca mpa mva mle mst mtn mln mne mgo) (S := Unit) (fun u => True) (fun u => some (.int (-2))) (fun u => (wM z cI cZ mn mi ms mtk mso mwh mfi mse mth mpu mno mlo mbe mre mis mca mpa mva mle mst mtn mln mne mgo)) := by
  refine Ct.ofW (cc := cX5_tick) (maxL := 5) (ret := (some .int)) (R_C := RX5) (by decide +kernel) rfl rfl (Nat.le_of_ble_eq_true rfl) rfl ?_
  intro p e s m args below meth c A Q ls H locs hx hb hml hown hts hK hA hP hD hS hZ hl hri hrl hrv
  refine lv_iload_n hx hb dX5_tick_0 rfl (lv_at hl 1 rfl) ?_
  refine lv_iconst (v := nI 1) hx hb dX5_tick_1 (by decide) ?_
  refine lv_bipush (v := nI 64) hx hb dX5_tick_2 (by decide) ?_
  refine fx_callS (As := [.int x, .int (nI 1), .int (nI 64)]) (rest := []) ⟨hx, hb, hml, hown, hts⟩ (c_X5_in l D cI cJ cZ (wM z cI cZ mn mi ms mtk mso mwh mfi mse mth mpu mno mlo mbe mre mis mca mpa mva mle mst mtn mln mne mgo) x (nI 1) (nI 64)) (va_cwS 3 hts gX5_tick_X5_in rfl rfl rfl ks_X5_in ⟨Nat.le_of_ble_eq_true rfl, Nat.le_of_ble_eq_true rfl⟩) hK hP hD hS hA hZ rfl hl.1 rfl (lv_room (Nat.le_of_ble_eq_true rfl)) dX5_tick_4 ⟨Nat.zero_le _, Nat.zero_le _⟩ (fun u_1 H locs hu_1 hP hD hS => ?_)
  refine lv_if_ne (tgt := 13) hx hb dX5_tick_7 (by decide) (fun c_7 => ?_) (fun c_7 => ?_)
  · have f_7 : (inB x (nI 1) (nI 64)) = true := bI_n0.mp c_7
    exfalso; rw [show inB x (nI 1) (nI 64) = tickB x from rfl, hx0] at f_7; cases f_7
  have f_7 : (inB x (nI 1) (nI 64)) = false := bI_0.mp c_7
  refine lv_bipush (v := (-2)) hx hb dX5_tick_10 (by decide) ?_
  exact hri () _ H locs 12 ls .int rfl rfl trivial rfl hP hD hS dX5_tick_12
set_option maxHeartbeats 4000000 in
set_option maxRecDepth 100000 in
theorem c_X5_tick (l : Launch) (D : va_G) (cI cJ cZ : ClassId) (z : Nat → Nat) (mn : Nat) (mi : Nat) (ms : Nat) (mtk : Nat) (mso : Nat → Nat) (mwh : Nat → Nat) (mfi : Nat → Nat) (mse : Nat → Nat) (mth : Nat → Nat) (mpu : Nat → Nat) (mno : Nat → Nat) (mlo : Nat → Nat) (mbe : Nat → Nat) (mre : Nat → Nat) (mis : Nat → Bool) (mca : Nat → Bool) (mpa : Nat → Nat) (mva : Nat → Nat) (mle : Nat → Nat) (mst : Nat → Bool) (mtn : Nat → Bool) (mln : Nat → Nat) (mne : Nat → Int32) (mgo : Nat → Int32) (n : Nat) (hmn : mn ≤ 32) (hmi : mi ≤ 4) (hms : ms ≤ 6) (hso : ∀ j, j < mn → mso j ≤ 3) (hwk : ∀ j, j < mn → mso j = 2 → mwh j ≤ 4) (hg : ∀ j, j < mn → mso j = 2 → mfi j < j ∧ mse j < j ∧ mth j < j) (hwf : ∀ j, j < mn → mso j = 1 → mwh j ≤ 1) (hwi : ∀ j, j < mn → mso j = 0 → mwh j < mi) (hws : ∀ j, j < mn → mso j = 3 → mwh j < ms) (hpu : ∀ i, i < mi → mpu i ≤ 2) (hre : ∀ i, i < ms → mre i < mn) (hbe : ∀ i, i < ms → mbe i ≤ 1) (hlo : ∀ i, i < ms → mlo i ≤ 4) (hpa : ∀ i, i < ms → mpa i ≤ 2) (hn1 : 1 ≤ n) (hn64 : n ≤ 64) (htk : mtk < 1000000) : Ct l D cI cJ cZ yX5_tick wsX5_tick ({ frames := 3, cells := 0, slots := 0, locals := 70 } : Room) 0 0 [.ref (z 0), .int (nI n)] (wM z cI cZ mn mi ms mtk mso mwh mfi mse mth mpu mno mlo mbe mre mis mca mpa mva mle mst mtn mln mne mgo) (S := (Nat → Nat) × (Nat → Nat) × (Nat → Bool) × (Nat → Bool) × (Nat → Bool)) (fun u => ∀ r, r < 64 → u.2.2.1 r = iterN (stpF mpu (trC mso mwh mfi mse mth mre mbe mn ms (bN (rsP mlo mis) ms)) false mi ms) n mca r) (fun u => some (.int (nI (ct (iterN (stpF mpu (trC mso mwh mfi mse mth mre mbe mn ms (bN (rsP mlo mis) ms)) false mi ms) n mca) 64)))) (fun u => (wM z cI cZ mn mi ms (mtk + n) mso mwh mfi mse mth mpu mno mlo mbe mre mis u.2.2.1 (iterN (pstF mso mwh mfi mse mth mpu mbe mre mn ms (bN (rsP mlo mis) ms)) n mpa) u.1 u.2.1 u.2.2.2.1 u.2.2.2.2 mln mne mgo)) := by
  refine Ct.ofW (cc := cX5_tick) (maxL := 5) (ret := (some .int)) (R_C := RX5) (by decide +kernel) rfl rfl (Nat.le_of_ble_eq_true rfl) rfl ?_
  intro p e s m args below meth c A Q ls H locs hx hb hml hown hts hK hA hP hD hS hZ hl hri hrl hrv
  refine lv_iload_n hx hb dX5_tick_0 rfl (lv_at hl 1 rfl) ?_
  refine lv_iconst (v := nI 1) hx hb dX5_tick_1 (by decide) ?_
  refine lv_bipush (v := nI 64) hx hb dX5_tick_2 (by decide) ?_
  refine fx_callS (As := [.int (nI n), .int (nI 1), .int (nI 64)]) (rest := []) ⟨hx, hb, hml, hown, hts⟩ (c_X5_in l D cI cJ cZ (wM z cI cZ mn mi ms mtk mso mwh mfi mse mth mpu mno mlo mbe mre mis mca mpa mva mle mst mtn mln mne mgo) (nI n) (nI 1) (nI 64)) (va_cwS 3 hts gX5_tick_X5_in rfl rfl rfl ks_X5_in ⟨Nat.le_of_ble_eq_true rfl, Nat.le_of_ble_eq_true rfl⟩) hK hP hD hS hA hZ rfl hl.1 rfl (lv_room (Nat.le_of_ble_eq_true rfl)) dX5_tick_4 ⟨Nat.zero_le _, Nat.zero_le _⟩ (fun u_1 H locs hu_1 hP hD hS => ?_)
  refine lv_if_ne (tgt := 13) hx hb dX5_tick_7 (by decide) (fun c_7 => ?_) (fun c_7 => ?_)
  · have f_7 : (inB (nI n) (nI 1) (nI 64)) = true := bI_n0.mp c_7
    have hp6 : 2 ^ ms ≤ 64 := Nat.pow_le_pow_right (by omega) hms
    have hrs : bN (rsP mlo mis) ms < 64 := Nat.lt_of_lt_of_le (bN_lt _ _) (Nat.pow_le_pow_right (n := 2) (by omega) hms)
    refine lv_aload_n hx hb dX5_tick_13 rfl (lv_at hl 0 rfl) ?_
    refine fx_callV (As := []) (rest := []) ⟨hx, hb, hml, hown, hts⟩ (c_X5_layLeads l D cI cJ cZ z mn mi ms mtk mso mwh mfi mse mth mpu mno mlo mbe mre mis mca mpa mva mle mst mtn mln mne mgo (by first | assumption | omega) (by first | assumption | omega) (by first | assumption | omega) (by first | assumption | omega) (by first | assumption | omega) (by first | assumption | omega) (by first | assumption | omega) (by first | assumption | omega) (by first | assumption | omega) (by first | assumption | omega)) (cwV 0 hts gX5_tick_X5_layLeads rfl rfl rfl kv_X5_layLeads ⟨Nat.le_of_ble_eq_true rfl, Nat.le_of_ble_eq_true rfl⟩) hK hP hD hS hA hZ 0 rfl rfl rfl rfl hl.1 rfl (lv_room (Nat.le_of_ble_eq_true rfl)) dX5_tick_14 ⟨Nat.zero_le _, Nat.zero_le _⟩ (fun u_2 H locs hu_2 hP hD hS => ?_)
    have hu_2 : ∀ r, r < 2 ^ ms → ∀ y, y < 2 ^ mi → u_2.2 (16 * r + y) = toN mso mwh mfi mse mth mre mn ms r y := hu_2
    have hP : va_P D vwCl (wM z cI cZ mn mi ms mtk mso mwh mfi mse mth mpu mno mlo mbe mre mis mca mpa u_2.1 u_2.2 mst mtn mln mne mgo) H := hP
    have hD : va_D A (wM z cI cZ mn mi ms mtk mso mwh mfi mse mth mpu mno mlo mbe mre mis mca mpa u_2.1 u_2.2 mst mtn mln mne mgo) := fx_D hD rfl
    have hle0 : ∀ r, r < 2 ^ ms → ∀ y, y < 2 ^ mi → u_2.2 (16 * r + y) < 64 := fun r hr y hy => by rw [hu_2 r hr y hy]; exact toN_lt hg hwf hre hms
    have hTC : ∀ r, r < 2 ^ ms → ∀ y, y < 2 ^ mi → trg u_2.2 mbe ms (bN (rsP mlo mis) ms) r y = (trC mso mwh mfi mse mth mre mbe mn ms (bN (rsP mlo mis) ms)) r y := fun r hr y hy => by unfold trg trC; rw [hu_2 r hr y hy]
    refine lv_aload_n hx hb dX5_tick_17 rfl (lv_at hl 0 rfl) ?_
    refine lv_iconst (v := nI 0) hx hb dX5_tick_18 (by decide) ?_
    refine fx_callV (As := [.int (bI false)]) (rest := []) ⟨hx, hb, hml, hown, hts⟩ (c_X5_load l D cI cJ cZ z mn mi ms mtk mso mwh mfi mse mth mpu mno mlo mbe mre mis mca mpa u_2.1 u_2.2 mst mtn mln mne mgo false (by first | assumption | omega)) (cwV 1 hts gX5_tick_X5_load rfl rfl rfl kv_X5_load ⟨Nat.le_of_ble_eq_true rfl, Nat.le_of_ble_eq_true rfl⟩) hK hP hD hS hA hZ 0 rfl rfl rfl rfl hl.1 rfl (lv_room (Nat.le_of_ble_eq_true rfl)) dX5_tick_19 ⟨Nat.zero_le _, Nat.zero_le _⟩ (fun u_3 H locs hu_3 hP hD hS => ?_)
    have hP : va_P D vwCl (wM z cI cZ mn mi ms mtk mso mwh mfi mse mth mpu mno mlo mbe mre mis mca mpa u_2.1 u_2.2 (mixF (fun jj => if false = true then decide (jj < 2 ^ ms) else mca jj) mst 64) mtn mln mne mgo) H := hP
    have hD : va_D A (wM z cI cZ mn mi ms mtk mso mwh mfi mse mth mpu mno mlo mbe mre mis mca mpa u_2.1 u_2.2 (mixF (fun jj => if false = true then decide (jj < 2 ^ ms) else mca jj) mst 64) mtn mln mne mgo) := fx_D hD rfl
    refine lv_aload_n hx hb dX5_tick_22 rfl (lv_at hl 0 rfl) ?_
    refine fx_callV (As := []) (rest := []) ⟨hx, hb, hml, hown, hts⟩ (c_X5_resets l D cI cJ cZ z mn mi ms mtk mso mwh mfi mse mth mpu mno mlo mbe mre mis mca mpa u_2.1 u_2.2 (mixF (fun jj => if false = true then decide (jj < 2 ^ ms) else mca jj) mst 64) mtn mln mne mgo (by first | assumption | omega) (by first | assumption | omega)) (cwV 0 hts gX5_tick_X5_resets rfl rfl rfl kv_X5_resets ⟨Nat.le_of_ble_eq_true rfl, Nat.le_of_ble_eq_true rfl⟩) hK hP hD hS hA hZ 0 rfl rfl rfl rfl hl.1 rfl (lv_room (Nat.le_of_ble_eq_true rfl)) dX5_tick_23 ⟨Nat.zero_le _, Nat.zero_le _⟩ (fun u_4 H locs hu_4 hP hD hS => ?_)
    refine lv_istore_n (lv' := [(2, .int (nI (bN (rsP mlo mis) ms))), (0, .ref (z 0)), (1, .int (nI n))]) hx hb dX5_tick_26 rfl hl (by decide) rfl (fun ls hl => ?_)
    refine lv_iconst (v := nI 0) hx hb dX5_tick_27 (by decide) ?_
    refine lv_istore_n (lv' := [(3, .int (nI 0)), (2, .int (nI (bN (rsP mlo mis) ms))), (0, .ref (z 0)), (1, .int (nI n))]) hx hb dX5_tick_28 rfl hl (by decide) rfl (fun ls hl => ?_)
    have L_29 : ∀ (fuel : Nat) (t : Nat) (va : Nat → Nat) (sv : Nat → Bool) (tv : Nat → Bool) (ht : t ≤ n) (hsv : ∀ r, r < 64 → sv r = iterN (stpF mpu (trC mso mwh mfi mse mth mre mbe mn ms (bN (rsP mlo mis) ms)) false mi ms) t mca r) (hfu : n - t < fuel) (H : Heap) (locs : List Loc), va_P D vwCl (wM z cI cZ mn mi ms mtk mso mwh mfi mse mth mpu mno mlo mbe mre mis mca (iterN (pstF mso mwh mfi mse mth mpu mbe mre mn ms (bN (rsP mlo mis) ms)) t mpa) va u_2.2 sv tv mln mne mgo) H → va_D A (wM z cI cZ mn mi ms mtk mso mwh mfi mse mth mpu mno mlo mbe mre mis mca (iterN (pstF mso mwh mfi mse mth mpu mbe mre mn ms (bN (rsP mlo mis) ms)) t mpa) va u_2.2 sv tv mln mne mgo) → va_S A s.heap H locs → ∀ ls : Array Slot, lv_has ls 5 [(0, .ref (z 0)), (1, .int (nI n)), (2, .int (nI (bN (rsP mlo mis) ms))), (3, .int (nI t))] → W p l e ({ frames := 3, cells := 0, slots := 0, locals := 70 } : Room) s m args below meth c H locs 0 0 Q (F0 m 29 ls []) := by
      intro fuel
      induction fuel with
      | zero => intro t va sv tv ht hsv hfu; exact absurd hfu (Nat.not_lt_zero _)
      | succ fuel ih_29 =>
        intro t va sv tv ht hsv hfu H locs hP hD hS ls hl
        refine lv_iload_n hx hb dX5_tick_29 rfl (lv_at hl 3 rfl) ?_
        refine lv_iload_n hx hb dX5_tick_30 rfl (lv_at hl 1 rfl) ?_
        refine lv_icmp_ge (tgt := 107) hx hb dX5_tick_31 (by decide) (fun c_31 => ?_) (fun c_31 => ?_)
        · have f_31 : n ≤ t := (nI_leI (a := n) (b := t) (by first | omega | exact b_and1 _ | exact b_ct _ _ (by omega) | exact b_andr _ (by omega)) (by first | omega | exact b_and1 _ | exact b_ct _ _ (by omega) | exact b_andr _ (by omega))).mp c_31
          have e_t : t = n := by omega
          refine lv_aload_n hx hb dX5_tick_107 rfl (lv_at hl 0 rfl) ?_
          refine lv_dup hx hb dX5_tick_108 rfl ?_
          refine va_get (D := D) (ci := 5) (v := .int (nI mtk)) (C := RX5) (T := TX5) (N := 24) hx hb hts (fun w h => List.mem_cons_of_mem _ (List.mem_append_right _ h)) hown hK hP 0 rfl rfl 14 (by decide) (hts (.fieldLink RX5 82 "FirstStatesModel" "ticks" "I") (List.mem_of_getElem? (i := 6) rfl)) (fun _ h9 => h9) rfl dX5_tick_109 ?_
          refine lv_iload_n hx hb dX5_tick_112 rfl (lv_at hl 1 rfl) ?_
          refine lv_iadd hx hb dX5_tick_113 ?_
          refine fx_eqi (nI_add _ _) ?_
          refine va_put (D := D) (ci := 5) (v := .int (nI (mtk + n))) (ty := .int) (C := RX5) (T := TX5) (N := 24) hx hb hts (fun w h => List.mem_cons_of_mem _ (List.mem_append_right _ h)) tyX5 tyX5_ok nmX5 hown hK hP hD hS 0 rfl rfl 14 (by decide) (hts (.fieldLink RX5 82 "FirstStatesModel" "ticks" "I") (List.mem_of_getElem? (i := 6) rfl)) (fun _ h9 => h9) rfl (by decide +kernel) rfl rfl (Nat.le_of_ble_eq_true rfl) dX5_tick_114 (fun H locs hP hD hS => ?_)
          have hP : va_P D vwCl (wM z cI cZ mn mi ms (mtk + n) mso mwh mfi mse mth mpu mno mlo mbe mre mis mca (iterN (pstF mso mwh mfi mse mth mpu mbe mre mn ms (bN (rsP mlo mis) ms)) t mpa) va u_2.2 sv tv mln mne mgo) H := hP
          have hD : va_D A (wM z cI cZ mn mi ms (mtk + n) mso mwh mfi mse mth mpu mno mlo mbe mre mis mca (iterN (pstF mso mwh mfi mse mth mpu mbe mre mn ms (bN (rsP mlo mis) ms)) t mpa) va u_2.2 sv tv mln mne mgo) := fx_D hD rfl
          refine lv_iconst (v := nI 0) hx hb dX5_tick_117 (by decide) ?_
          refine lv_istore_n (lv' := [(3, .int (nI 0)), (0, .ref (z 0)), (1, .int (nI n)), (2, .int (nI (bN (rsP mlo mis) ms)))]) hx hb dX5_tick_118 rfl hl (by decide) rfl (fun ls hl => ?_)
          have L_119 : ∀ (fuel : Nat) (q : Nat) (hq : q ≤ 64) (hfu : 64 - q < fuel) (H : Heap) (locs : List Loc), va_P D vwCl (wM z cI cZ mn mi ms (mtk + n) mso mwh mfi mse mth mpu mno mlo mbe mre mis (mixF sv mca q) (iterN (pstF mso mwh mfi mse mth mpu mbe mre mn ms (bN (rsP mlo mis) ms)) t mpa) va u_2.2 sv tv mln mne mgo) H → va_D A (wM z cI cZ mn mi ms (mtk + n) mso mwh mfi mse mth mpu mno mlo mbe mre mis (mixF sv mca q) (iterN (pstF mso mwh mfi mse mth mpu mbe mre mn ms (bN (rsP mlo mis) ms)) t mpa) va u_2.2 sv tv mln mne mgo) → va_S A s.heap H locs → ∀ ls : Array Slot, lv_has ls 5 [(0, .ref (z 0)), (3, .int (nI q))] → W p l e ({ frames := 3, cells := 0, slots := 0, locals := 70 } : Room) s m args below meth c H locs 0 0 Q (F0 m 119 ls []) := by
            intro fuel
            induction fuel with
            | zero => intro q hq hfu; exact absurd hfu (Nat.not_lt_zero _)
            | succ fuel ih_119 =>
              intro q hq hfu H locs hP hD hS ls hl
              refine lv_iload_n hx hb dX5_tick_119 rfl (lv_at hl 1 rfl) ?_
              refine lv_bipush (v := nI 64) hx hb dX5_tick_120 (by decide) ?_
              refine lv_icmp_ge (tgt := 143) hx hb dX5_tick_122 (by decide) (fun c_122 => ?_) (fun c_122 => ?_)
              · have f_122 : 64 ≤ q := (nI_leI (a := 64) (b := q) (by first | omega | exact b_and1 _ | exact b_ct _ _ (by omega) | exact b_andr _ (by omega)) (by first | omega | exact b_and1 _ | exact b_ct _ _ (by omega) | exact b_andr _ (by omega))).mp c_122
                refine lv_aload_n hx hb dX5_tick_143 rfl (lv_at hl 0 rfl) ?_
                refine fx_callV (As := []) (rest := []) ⟨hx, hb, hml, hown, hts⟩ (c_X5_many l D cI cJ cZ z mn mi ms (mtk + n) mso mwh mfi mse mth mpu mno mlo mbe mre mis (mixF sv mca q) (iterN (pstF mso mwh mfi mse mth mpu mbe mre mn ms (bN (rsP mlo mis) ms)) t mpa) va u_2.2 sv tv mln mne mgo) (cwV 0 hts gX5_tick_X5_many rfl rfl rfl kv_X5_many ⟨Nat.le_of_ble_eq_true rfl, Nat.le_of_ble_eq_true rfl⟩) hK hP hD hS hA hZ 0 rfl rfl rfl rfl hl.1 rfl (lv_room (Nat.le_of_ble_eq_true rfl)) dX5_tick_144 ⟨Nat.zero_le _, Nat.zero_le _⟩ (fun u_5 H locs hu_5 hP hD hS => ?_)
                have e_6 : iterN (pstF mso mwh mfi mse mth mpu mbe mre mn ms (bN (rsP mlo mis) ms)) t mpa = iterN (pstF mso mwh mfi mse mth mpu mbe mre mn ms (bN (rsP mlo mis) ms)) n mpa := by first | rfl | (rw [e_t])
                exact hri (va, u_2.2, mixF sv mca q, sv, tv) _ H locs 147 ls .int rfl rfl (fun r hr => by show mixF sv mca q r = _; rw [show mixF sv mca q r = sv r from if_pos (by omega), hsv r hr, e_t]) (by exact congrArg (fun w => some (Value.int (nI w))) (ct_cong (fun r hr => by rw [hsv r hr, e_t])).symm) (fx_Pe (w' := (wM z cI cZ mn mi ms (mtk + n) mso mwh mfi mse mth mpu mno mlo mbe mre mis (mixF sv mca q) (iterN (pstF mso mwh mfi mse mth mpu mbe mre mn ms (bN (rsP mlo mis) ms)) n mpa) va u_2.2 sv tv mln mne mgo)) hP (congrArg (fun w9 : Nat → Nat => (wM z cI cZ mn mi ms (mtk + n) mso mwh mfi mse mth mpu mno mlo mbe mre mis (mixF sv mca q) w9 va u_2.2 sv tv mln mne mgo)) e_6)) (fx_D hD rfl) hS dX5_tick_147
              have f_122 : ¬ 64 ≤ q := fun h => c_122 ((nI_leI (a := 64) (b := q) (by first | omega | exact b_and1 _ | exact b_ct _ _ (by omega) | exact b_andr _ (by omega)) (by first | omega | exact b_and1 _ | exact b_ct _ _ (by omega) | exact b_andr _ (by omega))).mpr h)
              refine lv_aload_n hx hb dX5_tick_125 rfl (lv_at hl 0 rfl) ?_
              refine va_get (D := D) (ci := 5) (v := .ref (z 12)) (C := RX5) (T := TX5) (N := 24) hx hb hts (fun w h => List.mem_cons_of_mem _ (List.mem_append_right _ h)) hown hK hP 0 rfl rfl 15 (by decide) (hts (.fieldLink RX5 44 "FirstStatesModel" "can" "[Z") (List.mem_of_getElem? (i := 7) rfl)) (fun _ h9 => h9) rfl dX5_tick_126 ?_
              refine lv_iload_n hx hb dX5_tick_129 rfl (lv_at hl 1 rfl) ?_
              refine lv_aload_n hx hb dX5_tick_130 rfl (lv_at hl 0 rfl) ?_
              refine va_get (D := D) (ci := 5) (v := .ref (z 16)) (C := RX5) (T := TX5) (N := 24) hx hb hts (fun w h => List.mem_cons_of_mem _ (List.mem_append_right _ h)) hown hK hP 0 rfl rfl 19 (by decide) (hts (.fieldLink RX5 56 "FirstStatesModel" "set" "[Z") (List.mem_of_getElem? (i := 8) rfl)) (fun _ h9 => h9) rfl dX5_tick_131 ?_
              refine lv_iload_n hx hb dX5_tick_134 rfl (lv_at hl 1 rfl) ?_
              refine fx_zald (ar := bI) hx hb hK hP 16 (f := sv) (k := q) rfl (by omega) (by decide) dX5_tick_135 ?_
              refine fx_zast hx hb hK hP hD hS 12 (f := (mixF sv mca q)) (k := q) (v := (sv q)) rfl (by omega) (by decide) rfl dX5_tick_136 (fun H locs hP hD hS => ?_)
              have hP : va_P D vwCl (wM z cI cZ mn mi ms (mtk + n) mso mwh mfi mse mth mpu mno mlo mbe mre mis (va_up (mixF sv mca q) q (sv q)) (iterN (pstF mso mwh mfi mse mth mpu mbe mre mn ms (bN (rsP mlo mis) ms)) t mpa) va u_2.2 sv tv mln mne mgo) H := hP
              have hD : va_D A (wM z cI cZ mn mi ms (mtk + n) mso mwh mfi mse mth mpu mno mlo mbe mre mis (va_up (mixF sv mca q) q (sv q)) (iterN (pstF mso mwh mfi mse mth mpu mbe mre mn ms (bN (rsP mlo mis) ms)) t mpa) va u_2.2 sv tv mln mne mgo) := fx_D hD rfl
              refine lv_iinc (v := nI (q + 1)) (lv' := [(3, .int (nI (q + 1))), (0, .ref (z 0))]) hx hb dX5_tick_137 hl (k := 1) rfl (by exact nI_1 _) (by decide) rfl (fun ls hl => ?_)
              refine lv_goto (tgt := 119) hx hb dX5_tick_140 (by decide) ?_
              have e_7 : va_up (mixF sv mca q) q (sv q) = mixF sv mca (q + 1) := by first | rfl | (exact mix_up _ _ _ _ rfl)
              exact ih_119 (q + 1) (by first | assumption | omega) (by omega) H locs (fx_Pe (w' := (wM z cI cZ mn mi ms (mtk + n) mso mwh mfi mse mth mpu mno mlo mbe mre mis (mixF sv mca (q + 1)) (iterN (pstF mso mwh mfi mse mth mpu mbe mre mn ms (bN (rsP mlo mis) ms)) t mpa) va u_2.2 sv tv mln mne mgo)) hP (congrArg (fun w9 : Nat → Bool => (wM z cI cZ mn mi ms (mtk + n) mso mwh mfi mse mth mpu mno mlo mbe mre mis w9 (iterN (pstF mso mwh mfi mse mth mpu mbe mre mn ms (bN (rsP mlo mis) ms)) t mpa) va u_2.2 sv tv mln mne mgo)) e_7)) (fx_D hD rfl) hS ls (lv_sub hl [1, 0] rfl)
          have e_8 : mca = mixF sv mca 0 := by first | rfl | (exact (mix_0 _ _).symm)
          exact L_119 (64 - 0 + 1) 0 (Nat.zero_le _) (Nat.lt_succ_self _) H locs (fx_Pe (w' := (wM z cI cZ mn mi ms (mtk + n) mso mwh mfi mse mth mpu mno mlo mbe mre mis (mixF sv mca 0) (iterN (pstF mso mwh mfi mse mth mpu mbe mre mn ms (bN (rsP mlo mis) ms)) t mpa) va u_2.2 sv tv mln mne mgo)) hP (congrArg (fun w9 : Nat → Bool => (wM z cI cZ mn mi ms (mtk + n) mso mwh mfi mse mth mpu mno mlo mbe mre mis w9 (iterN (pstF mso mwh mfi mse mth mpu mbe mre mn ms (bN (rsP mlo mis) ms)) t mpa) va u_2.2 sv tv mln mne mgo)) e_8)) (fx_D hD rfl) hS ls (lv_sub hl [1, 0] rfl)
        have f_31 : ¬ n ≤ t := fun h => c_31 ((nI_leI (a := n) (b := t) (by first | omega | exact b_and1 _ | exact b_ct _ _ (by omega) | exact b_andr _ (by omega)) (by first | omega | exact b_and1 _ | exact b_ct _ _ (by omega) | exact b_andr _ (by omega))).mpr h)
        refine lv_aload_n hx hb dX5_tick_34 rfl (lv_at hl 0 rfl) ?_
        refine lv_iload_n hx hb dX5_tick_35 rfl (lv_at hl 2 rfl) ?_
        refine lv_iconst (v := nI 0) hx hb dX5_tick_36 (by decide) ?_
        refine fx_callV (As := [.int (nI (bN (rsP mlo mis) ms)), .int (bI false)]) (rest := []) ⟨hx, hb, hml, hown, hts⟩ (c_X5_step l D cI cJ cZ z mn mi ms mtk mso mwh mfi mse mth mpu mno mlo mbe mre mis mca (iterN (pstF mso mwh mfi mse mth mpu mbe mre mn ms (bN (rsP mlo mis) ms)) t mpa) va u_2.2 sv tv mln mne mgo (bN (rsP mlo mis) ms) false (by first | assumption | omega) (by first | assumption | omega) (by first | assumption | omega) (by first | assumption | omega) (by first | assumption | omega) hle0) (cwV 2 hts gX5_tick_X5_step rfl rfl rfl kv_X5_step ⟨Nat.le_of_ble_eq_true rfl, Nat.le_of_ble_eq_true rfl⟩) hK hP hD hS hA hZ 0 rfl rfl rfl rfl hl.1 rfl (lv_room (Nat.le_of_ble_eq_true rfl)) dX5_tick_37 ⟨Nat.zero_le _, Nat.zero_le _⟩ (fun u_9 H locs hu_9 hP hD hS => ?_)
        have hu_9 : ∀ t, t < 64 → u_9.1 t = stpF mpu (trg u_2.2 mbe ms (bN (rsP mlo mis) ms)) false mi ms sv t := hu_9
        have hP : va_P D vwCl (wM z cI cZ mn mi ms mtk mso mwh mfi mse mth mpu mno mlo mbe mre mis mca (iterN (pstF mso mwh mfi mse mth mpu mbe mre mn ms (bN (rsP mlo mis) ms)) t mpa) va u_2.2 u_9.1 u_9.2 mln mne mgo) H := hP
        have hD : va_D A (wM z cI cZ mn mi ms mtk mso mwh mfi mse mth mpu mno mlo mbe mre mis mca (iterN (pstF mso mwh mfi mse mth mpu mbe mre mn ms (bN (rsP mlo mis) ms)) t mpa) va u_2.2 u_9.1 u_9.2 mln mne mgo) := fx_D hD rfl
        have hst1 := hu_9
        refine lv_aload_n hx hb dX5_tick_40 rfl (lv_at hl 0 rfl) ?_
        refine fx_callV (As := []) (rest := []) ⟨hx, hb, hml, hown, hts⟩ (c_X5_workParts l D cI cJ cZ z mn mi ms mtk mso mwh mfi mse mth mpu mno mlo mbe mre mis mca (iterN (pstF mso mwh mfi mse mth mpu mbe mre mn ms (bN (rsP mlo mis) ms)) t mpa) va u_2.2 u_9.1 u_9.2 mln mne mgo (by first | assumption | omega) (by first | assumption | omega) (by first | assumption | omega) (by first | assumption | omega) (by first | assumption | omega) (by first | assumption | omega) (by first | assumption | omega) (by first | assumption | omega) (by first | assumption | omega) (by first | assumption | omega) (fun i hi => pstN_le hg hwf hwi hws hso hpu hpa hbe hre t i hi)) (cwV 0 hts gX5_tick_X5_workParts rfl rfl rfl kv_X5_workParts ⟨Nat.le_of_ble_eq_true rfl, Nat.le_of_ble_eq_true rfl⟩) hK hP hD hS hA hZ 0 rfl rfl rfl rfl hl.1 rfl (lv_room (Nat.le_of_ble_eq_true rfl)) dX5_tick_41 ⟨Nat.zero_le _, Nat.zero_le _⟩ (fun u_10 H locs hu_10 hP hD hS => ?_)
        have hP : va_P D vwCl (wM z cI cZ mn mi ms mtk mso mwh mfi mse mth mpu mno mlo mbe mre mis mca (iterN (pstF mso mwh mfi mse mth mpu mbe mre mn ms (bN (rsP mlo mis) ms)) t mpa) (parT mso mwh mfi mse mth mpu (iterN (pstF mso mwh mfi mse mth mpu mbe mre mn ms (bN (rsP mlo mis) ms)) t mpa) va mn) u_2.2 u_9.1 u_9.2 mln mne mgo) H := hP
        have hD : va_D A (wM z cI cZ mn mi ms mtk mso mwh mfi mse mth mpu mno mlo mbe mre mis mca (iterN (pstF mso mwh mfi mse mth mpu mbe mre mn ms (bN (rsP mlo mis) ms)) t mpa) (parT mso mwh mfi mse mth mpu (iterN (pstF mso mwh mfi mse mth mpu mbe mre mn ms (bN (rsP mlo mis) ms)) t mpa) va mn) u_2.2 u_9.1 u_9.2 mln mne mgo) := fx_D hD rfl
        refine lv_iconst (v := nI 0) hx hb dX5_tick_44 (by decide) ?_
        refine lv_istore (lv' := [(4, .int (nI 0)), (0, .ref (z 0)), (1, .int (nI n)), (2, .int (nI (bN (rsP mlo mis) ms))), (3, .int (nI t))]) hx hb dX5_tick_45 hl (by decide) rfl (fun ls hl => ?_)
        have L_47 : ∀ (fuel : Nat) (i : Nat) (hi : i ≤ ms) (hfu : ms - i < fuel) (H : Heap) (locs : List Loc), va_P D vwCl (wM z cI cZ mn mi ms mtk mso mwh mfi mse mth mpu mno mlo mbe mre mis mca (mixF (fun jj => if (bN (rsP mlo mis) ms).testBit jj = true then mbe jj else (parT mso mwh mfi mse mth mpu (iterN (pstF mso mwh mfi mse mth mpu mbe mre mn ms (bN (rsP mlo mis) ms)) t mpa) va mn) (mre jj)) (iterN (pstF mso mwh mfi mse mth mpu mbe mre mn ms (bN (rsP mlo mis) ms)) t mpa) i) (parT mso mwh mfi mse mth mpu (iterN (pstF mso mwh mfi mse mth mpu mbe mre mn ms (bN (rsP mlo mis) ms)) t mpa) va mn) u_2.2 u_9.1 u_9.2 mln mne mgo) H → va_D A (wM z cI cZ mn mi ms mtk mso mwh mfi mse mth mpu mno mlo mbe mre mis mca (mixF (fun jj => if (bN (rsP mlo mis) ms).testBit jj = true then mbe jj else (parT mso mwh mfi mse mth mpu (iterN (pstF mso mwh mfi mse mth mpu mbe mre mn ms (bN (rsP mlo mis) ms)) t mpa) va mn) (mre jj)) (iterN (pstF mso mwh mfi mse mth mpu mbe mre mn ms (bN (rsP mlo mis) ms)) t mpa) i) (parT mso mwh mfi mse mth mpu (iterN (pstF mso mwh mfi mse mth mpu mbe mre mn ms (bN (rsP mlo mis) ms)) t mpa) va mn) u_2.2 u_9.1 u_9.2 mln mne mgo) → va_S A s.heap H locs → ∀ ls : Array Slot, lv_has ls 5 [(0, .ref (z 0)), (1, .int (nI n)), (2, .int (nI (bN (rsP mlo mis) ms))), (3, .int (nI t)), (4, .int (nI i))] → W p l e ({ frames := 3, cells := 0, slots := 0, locals := 70 } : Room) s m args below meth c H locs 0 0 Q (F0 m 47 ls []) := by
          intro fuel
          induction fuel with
          | zero => intro i hi hfu; exact absurd hfu (Nat.not_lt_zero _)
          | succ fuel ih_47 =>
            intro i hi hfu H locs hP hD hS ls hl
            refine lv_iload hx hb dX5_tick_47 (lv_at hl 4 rfl) ?_
            refine lv_aload_n hx hb dX5_tick_49 rfl (lv_at hl 0 rfl) ?_
            refine va_get (D := D) (ci := 5) (v := .int (nI ms)) (C := RX5) (T := TX5) (N := 24) hx hb hts (fun w h => List.mem_cons_of_mem _ (List.mem_append_right _ h)) hown hK hP 0 rfl rfl 8 (by decide) (hts (.fieldLink RX5 85 "FirstStatesModel" "stores" "I") (List.mem_of_getElem? (i := 1) rfl)) (fun _ h9 => h9) rfl dX5_tick_50 ?_
            refine lv_icmp_ge (tgt := 101) hx hb dX5_tick_53 (by decide) (fun c_53 => ?_) (fun c_53 => ?_)
            · have f_53 : ms ≤ i := (nI_leI (a := ms) (b := i) (by first | omega | exact b_and1 _ | exact b_ct _ _ (by omega) | exact b_andr _ (by omega)) (by first | omega | exact b_and1 _ | exact b_ct _ _ (by omega) | exact b_andr _ (by omega))).mp c_53
              have e_i : i = ms := by omega
              refine lv_iinc (v := nI (t + 1)) (lv' := [(3, .int (nI (t + 1))), (0, .ref (z 0)), (1, .int (nI n)), (2, .int (nI (bN (rsP mlo mis) ms))), (4, .int (nI i))]) hx hb dX5_tick_101 hl (k := 3) rfl (by exact nI_1 _) (by decide) rfl (fun ls hl => ?_)
              refine lv_goto (tgt := 29) hx hb dX5_tick_104 (by decide) ?_
              have e_11 : mixF (fun jj => if (bN (rsP mlo mis) ms).testBit jj = true then mbe jj else (parT mso mwh mfi mse mth mpu (iterN (pstF mso mwh mfi mse mth mpu mbe mre mn ms (bN (rsP mlo mis) ms)) t mpa) va mn) (mre jj)) (iterN (pstF mso mwh mfi mse mth mpu mbe mre mn ms (bN (rsP mlo mis) ms)) t mpa) i = iterN (pstF mso mwh mfi mse mth mpu mbe mre mn ms (bN (rsP mlo mis) ms)) (t + 1) mpa := by first | rfl | (rw [e_i]; exact mix_cong (fun j hj => by rw [parT_can hg (Nat.le_refl mn) _ (hre j hj)]))
              exact ih_29 (t + 1) (parT mso mwh mfi mse mth mpu (iterN (pstF mso mwh mfi mse mth mpu mbe mre mn ms (bN (rsP mlo mis) ms)) t mpa) va mn) u_9.1 u_9.2 (by first | assumption | omega) (fun r hr => by rw [hst1 r hr]; exact stpB_cong hTC (fun q hq => hsv q (by omega))) (by omega) H locs (fx_Pe (w' := (wM z cI cZ mn mi ms mtk mso mwh mfi mse mth mpu mno mlo mbe mre mis mca (iterN (pstF mso mwh mfi mse mth mpu mbe mre mn ms (bN (rsP mlo mis) ms)) (t + 1) mpa) (parT mso mwh mfi mse mth mpu (iterN (pstF mso mwh mfi mse mth mpu mbe mre mn ms (bN (rsP mlo mis) ms)) t mpa) va mn) u_2.2 u_9.1 u_9.2 mln mne mgo)) hP (congrArg (fun w9 : Nat → Nat => (wM z cI cZ mn mi ms mtk mso mwh mfi mse mth mpu mno mlo mbe mre mis mca w9 (parT mso mwh mfi mse mth mpu (iterN (pstF mso mwh mfi mse mth mpu mbe mre mn ms (bN (rsP mlo mis) ms)) t mpa) va mn) u_2.2 u_9.1 u_9.2 mln mne mgo)) e_11)) (fx_D hD rfl) hS ls (lv_sub hl [1, 2, 3, 0] rfl)
            have f_53 : ¬ ms ≤ i := fun h => c_53 ((nI_leI (a := ms) (b := i) (by first | omega | exact b_and1 _ | exact b_ct _ _ (by omega) | exact b_andr _ (by omega)) (by first | omega | exact b_and1 _ | exact b_ct _ _ (by omega) | exact b_andr _ (by omega))).mpr h)
            have hre1 := hre i (by omega)
            refine lv_aload_n hx hb dX5_tick_56 rfl (lv_at hl 0 rfl) ?_
            refine va_get (D := D) (ci := 5) (v := .ref (z 13)) (C := RX5) (T := TX5) (N := 24) hx hb hts (fun w h => List.mem_cons_of_mem _ (List.mem_append_right _ h)) hown hK hP 0 rfl rfl 16 (by decide) (hts (.fieldLink RX5 47 "FirstStatesModel" "parts" "[I") (List.mem_of_getElem? (i := 2) rfl)) (fun _ h9 => h9) rfl dX5_tick_57 ?_
            refine lv_iload hx hb dX5_tick_60 (lv_at hl 4 rfl) ?_
            refine lv_iload_n hx hb dX5_tick_62 rfl (lv_at hl 2 rfl) ?_
            refine lv_iload hx hb dX5_tick_63 (lv_at hl 4 rfl) ?_
            refine lv_ishr hx hb dX5_tick_65 ?_
            refine fx_eqi (y := nI ((bN (rsP mlo mis) ms) >>> i)) (fx_shr (by first | omega | exact b_and1 _ | exact b_ct _ _ (by omega) | exact b_andr _ (by omega)) (by first | omega | exact b_and1 _ | exact b_ct _ _ (by omega) | exact b_andr _ (by omega))) ?_
            refine lv_iconst (v := nI 1) hx hb dX5_tick_66 (by decide) ?_
            refine lv_iand hx hb dX5_tick_67 ?_
            refine fx_eqi (fx_andI _ _) ?_
            refine lv_iconst (v := nI 1) hx hb dX5_tick_68 (by decide) ?_
            refine lv_icmp_ne (tgt := 82) hx hb dX5_tick_69 (by decide) (fun c_69 => ?_) (fun c_69 => ?_)
            · have f_69 : ¬ ((bN (rsP mlo mis) ms) >>> i) &&& 1 = 1 := fun h => c_69 ((nI_eq (a := ((bN (rsP mlo mis) ms) >>> i) &&& 1) (b := 1) (by first | omega | exact b_and1 _ | exact b_ct _ _ (by omega) | exact b_andr _ (by omega)) (by first | omega | exact b_and1 _ | exact b_ct _ _ (by omega) | exact b_andr _ (by omega))).mpr h)
              refine lv_aload_n hx hb dX5_tick_82 rfl (lv_at hl 0 rfl) ?_
              refine va_get (D := D) (ci := 5) (v := .ref (z 14)) (C := RX5) (T := TX5) (N := 24) hx hb hts (fun w h => List.mem_cons_of_mem _ (List.mem_append_right _ h)) hown hK hP 0 rfl rfl 17 (by decide) (hts (.fieldLink RX5 50 "FirstStatesModel" "value" "[I") (List.mem_of_getElem? (i := 4) rfl)) (fun _ h9 => h9) rfl dX5_tick_83 ?_
              refine lv_aload_n hx hb dX5_tick_86 rfl (lv_at hl 0 rfl) ?_
              refine va_get (D := D) (ci := 5) (v := .ref (z 10)) (C := RX5) (T := TX5) (N := 24) hx hb hts (fun w h => List.mem_cons_of_mem _ (List.mem_append_right _ h)) hown hK hP 0 rfl rfl 12 (by decide) (hts (.fieldLink RX5 37 "FirstStatesModel" "read" "[I") (List.mem_of_getElem? (i := 5) rfl)) (fun _ h9 => h9) rfl dX5_tick_87 ?_
              refine lv_iload hx hb dX5_tick_90 (lv_at hl 4 rfl) ?_
              refine fx_iald (ar := nI) hx hb hK hP 10 (f := mre) (k := i) rfl (by omega) (by decide) dX5_tick_92 ?_
              refine fx_iald (ar := nI) hx hb hK hP 14 (f := (parT mso mwh mfi mse mth mpu (iterN (pstF mso mwh mfi mse mth mpu mbe mre mn ms (bN (rsP mlo mis) ms)) t mpa) va mn)) (k := (mre i)) rfl (by omega) (by decide) dX5_tick_93 ?_
              refine fx_iast (ar := nI) hx hb hK hP hD hS 13 (f := (mixF (fun jj => if (bN (rsP mlo mis) ms).testBit jj = true then mbe jj else (parT mso mwh mfi mse mth mpu (iterN (pstF mso mwh mfi mse mth mpu mbe mre mn ms (bN (rsP mlo mis) ms)) t mpa) va mn) (mre jj)) (iterN (pstF mso mwh mfi mse mth mpu mbe mre mn ms (bN (rsP mlo mis) ms)) t mpa) i)) (k := i) (v := ((parT mso mwh mfi mse mth mpu (iterN (pstF mso mwh mfi mse mth mpu mbe mre mn ms (bN (rsP mlo mis) ms)) t mpa) va mn) (mre i))) rfl (by omega) (by decide) rfl dX5_tick_94 (fun H locs hP hD hS => ?_)
              have hP : va_P D vwCl (wM z cI cZ mn mi ms mtk mso mwh mfi mse mth mpu mno mlo mbe mre mis mca (va_up (mixF (fun jj => if (bN (rsP mlo mis) ms).testBit jj = true then mbe jj else (parT mso mwh mfi mse mth mpu (iterN (pstF mso mwh mfi mse mth mpu mbe mre mn ms (bN (rsP mlo mis) ms)) t mpa) va mn) (mre jj)) (iterN (pstF mso mwh mfi mse mth mpu mbe mre mn ms (bN (rsP mlo mis) ms)) t mpa) i) i ((parT mso mwh mfi mse mth mpu (iterN (pstF mso mwh mfi mse mth mpu mbe mre mn ms (bN (rsP mlo mis) ms)) t mpa) va mn) (mre i))) (parT mso mwh mfi mse mth mpu (iterN (pstF mso mwh mfi mse mth mpu mbe mre mn ms (bN (rsP mlo mis) ms)) t mpa) va mn) u_2.2 u_9.1 u_9.2 mln mne mgo) H := hP
              have hD : va_D A (wM z cI cZ mn mi ms mtk mso mwh mfi mse mth mpu mno mlo mbe mre mis mca (va_up (mixF (fun jj => if (bN (rsP mlo mis) ms).testBit jj = true then mbe jj else (parT mso mwh mfi mse mth mpu (iterN (pstF mso mwh mfi mse mth mpu mbe mre mn ms (bN (rsP mlo mis) ms)) t mpa) va mn) (mre jj)) (iterN (pstF mso mwh mfi mse mth mpu mbe mre mn ms (bN (rsP mlo mis) ms)) t mpa) i) i ((parT mso mwh mfi mse mth mpu (iterN (pstF mso mwh mfi mse mth mpu mbe mre mn ms (bN (rsP mlo mis) ms)) t mpa) va mn) (mre i))) (parT mso mwh mfi mse mth mpu (iterN (pstF mso mwh mfi mse mth mpu mbe mre mn ms (bN (rsP mlo mis) ms)) t mpa) va mn) u_2.2 u_9.1 u_9.2 mln mne mgo) := fx_D hD rfl
              refine lv_iinc (v := nI (i + 1)) (lv' := [(4, .int (nI (i + 1))), (0, .ref (z 0)), (1, .int (nI n)), (2, .int (nI (bN (rsP mlo mis) ms))), (3, .int (nI t))]) hx hb dX5_tick_95 hl (k := 4) rfl (by exact nI_1 _) (by decide) rfl (fun ls hl => ?_)
              refine lv_goto (tgt := 47) hx hb dX5_tick_98 (by decide) ?_
              have e_12 : va_up (mixF (fun jj => if (bN (rsP mlo mis) ms).testBit jj = true then mbe jj else (parT mso mwh mfi mse mth mpu (iterN (pstF mso mwh mfi mse mth mpu mbe mre mn ms (bN (rsP mlo mis) ms)) t mpa) va mn) (mre jj)) (iterN (pstF mso mwh mfi mse mth mpu mbe mre mn ms (bN (rsP mlo mis) ms)) t mpa) i) i ((parT mso mwh mfi mse mth mpu (iterN (pstF mso mwh mfi mse mth mpu mbe mre mn ms (bN (rsP mlo mis) ms)) t mpa) va mn) (mre i)) = mixF (fun jj => if (bN (rsP mlo mis) ms).testBit jj = true then mbe jj else (parT mso mwh mfi mse mth mpu (iterN (pstF mso mwh mfi mse mth mpu mbe mre mn ms (bN (rsP mlo mis) ms)) t mpa) va mn) (mre jj)) (iterN (pstF mso mwh mfi mse mth mpu mbe mre mn ms (bN (rsP mlo mis) ms)) t mpa) (i + 1) := by first | rfl | (refine mix_up _ _ _ _ ?_; simp [tb1_n.mp f_69])
              exact ih_47 (i + 1) (by first | assumption | omega) (by omega) H locs (fx_Pe (w' := (wM z cI cZ mn mi ms mtk mso mwh mfi mse mth mpu mno mlo mbe mre mis mca (mixF (fun jj => if (bN (rsP mlo mis) ms).testBit jj = true then mbe jj else (parT mso mwh mfi mse mth mpu (iterN (pstF mso mwh mfi mse mth mpu mbe mre mn ms (bN (rsP mlo mis) ms)) t mpa) va mn) (mre jj)) (iterN (pstF mso mwh mfi mse mth mpu mbe mre mn ms (bN (rsP mlo mis) ms)) t mpa) (i + 1)) (parT mso mwh mfi mse mth mpu (iterN (pstF mso mwh mfi mse mth mpu mbe mre mn ms (bN (rsP mlo mis) ms)) t mpa) va mn) u_2.2 u_9.1 u_9.2 mln mne mgo)) hP (congrArg (fun w9 : Nat → Nat => (wM z cI cZ mn mi ms mtk mso mwh mfi mse mth mpu mno mlo mbe mre mis mca w9 (parT mso mwh mfi mse mth mpu (iterN (pstF mso mwh mfi mse mth mpu mbe mre mn ms (bN (rsP mlo mis) ms)) t mpa) va mn) u_2.2 u_9.1 u_9.2 mln mne mgo)) e_12)) (fx_D hD rfl) hS ls (lv_sub hl [1, 2, 3, 4, 0] rfl)
            have f_69 : ((bN (rsP mlo mis) ms) >>> i) &&& 1 = 1 := (nI_eq (a := ((bN (rsP mlo mis) ms) >>> i) &&& 1) (b := 1) (by first | omega | exact b_and1 _ | exact b_ct _ _ (by omega) | exact b_andr _ (by omega)) (by first | omega | exact b_and1 _ | exact b_ct _ _ (by omega) | exact b_andr _ (by omega))).mp c_69
            refine lv_aload_n hx hb dX5_tick_72 rfl (lv_at hl 0 rfl) ?_
            refine va_get (D := D) (ci := 5) (v := .ref (z 9)) (C := RX5) (T := TX5) (N := 24) hx hb hts (fun w h => List.mem_cons_of_mem _ (List.mem_append_right _ h)) hown hK hP 0 rfl rfl 11 (by decide) (hts (.fieldLink RX5 34 "FirstStatesModel" "begins" "[I") (List.mem_of_getElem? (i := 3) rfl)) (fun _ h9 => h9) rfl dX5_tick_73 ?_
            refine lv_iload hx hb dX5_tick_76 (lv_at hl 4 rfl) ?_
            refine fx_iald (ar := nI) hx hb hK hP 9 (f := mbe) (k := i) rfl (by omega) (by decide) dX5_tick_78 ?_
            refine lv_goto (tgt := 94) hx hb dX5_tick_79 (by decide) ?_
            refine fx_iast (ar := nI) hx hb hK hP hD hS 13 (f := (mixF (fun jj => if (bN (rsP mlo mis) ms).testBit jj = true then mbe jj else (parT mso mwh mfi mse mth mpu (iterN (pstF mso mwh mfi mse mth mpu mbe mre mn ms (bN (rsP mlo mis) ms)) t mpa) va mn) (mre jj)) (iterN (pstF mso mwh mfi mse mth mpu mbe mre mn ms (bN (rsP mlo mis) ms)) t mpa) i)) (k := i) (v := (mbe i)) rfl (by omega) (by decide) rfl dX5_tick_94 (fun H locs hP hD hS => ?_)
            have hP : va_P D vwCl (wM z cI cZ mn mi ms mtk mso mwh mfi mse mth mpu mno mlo mbe mre mis mca (va_up (mixF (fun jj => if (bN (rsP mlo mis) ms).testBit jj = true then mbe jj else (parT mso mwh mfi mse mth mpu (iterN (pstF mso mwh mfi mse mth mpu mbe mre mn ms (bN (rsP mlo mis) ms)) t mpa) va mn) (mre jj)) (iterN (pstF mso mwh mfi mse mth mpu mbe mre mn ms (bN (rsP mlo mis) ms)) t mpa) i) i (mbe i)) (parT mso mwh mfi mse mth mpu (iterN (pstF mso mwh mfi mse mth mpu mbe mre mn ms (bN (rsP mlo mis) ms)) t mpa) va mn) u_2.2 u_9.1 u_9.2 mln mne mgo) H := hP
            have hD : va_D A (wM z cI cZ mn mi ms mtk mso mwh mfi mse mth mpu mno mlo mbe mre mis mca (va_up (mixF (fun jj => if (bN (rsP mlo mis) ms).testBit jj = true then mbe jj else (parT mso mwh mfi mse mth mpu (iterN (pstF mso mwh mfi mse mth mpu mbe mre mn ms (bN (rsP mlo mis) ms)) t mpa) va mn) (mre jj)) (iterN (pstF mso mwh mfi mse mth mpu mbe mre mn ms (bN (rsP mlo mis) ms)) t mpa) i) i (mbe i)) (parT mso mwh mfi mse mth mpu (iterN (pstF mso mwh mfi mse mth mpu mbe mre mn ms (bN (rsP mlo mis) ms)) t mpa) va mn) u_2.2 u_9.1 u_9.2 mln mne mgo) := fx_D hD rfl
            refine lv_iinc (v := nI (i + 1)) (lv' := [(4, .int (nI (i + 1))), (0, .ref (z 0)), (1, .int (nI n)), (2, .int (nI (bN (rsP mlo mis) ms))), (3, .int (nI t))]) hx hb dX5_tick_95 hl (k := 4) rfl (by exact nI_1 _) (by decide) rfl (fun ls hl => ?_)
            refine lv_goto (tgt := 47) hx hb dX5_tick_98 (by decide) ?_
            have e_13 : va_up (mixF (fun jj => if (bN (rsP mlo mis) ms).testBit jj = true then mbe jj else (parT mso mwh mfi mse mth mpu (iterN (pstF mso mwh mfi mse mth mpu mbe mre mn ms (bN (rsP mlo mis) ms)) t mpa) va mn) (mre jj)) (iterN (pstF mso mwh mfi mse mth mpu mbe mre mn ms (bN (rsP mlo mis) ms)) t mpa) i) i (mbe i) = mixF (fun jj => if (bN (rsP mlo mis) ms).testBit jj = true then mbe jj else (parT mso mwh mfi mse mth mpu (iterN (pstF mso mwh mfi mse mth mpu mbe mre mn ms (bN (rsP mlo mis) ms)) t mpa) va mn) (mre jj)) (iterN (pstF mso mwh mfi mse mth mpu mbe mre mn ms (bN (rsP mlo mis) ms)) t mpa) (i + 1) := by first | rfl | (refine mix_up _ _ _ _ ?_; simp [tb1.mp f_69])
            exact ih_47 (i + 1) (by first | assumption | omega) (by omega) H locs (fx_Pe (w' := (wM z cI cZ mn mi ms mtk mso mwh mfi mse mth mpu mno mlo mbe mre mis mca (mixF (fun jj => if (bN (rsP mlo mis) ms).testBit jj = true then mbe jj else (parT mso mwh mfi mse mth mpu (iterN (pstF mso mwh mfi mse mth mpu mbe mre mn ms (bN (rsP mlo mis) ms)) t mpa) va mn) (mre jj)) (iterN (pstF mso mwh mfi mse mth mpu mbe mre mn ms (bN (rsP mlo mis) ms)) t mpa) (i + 1)) (parT mso mwh mfi mse mth mpu (iterN (pstF mso mwh mfi mse mth mpu mbe mre mn ms (bN (rsP mlo mis) ms)) t mpa) va mn) u_2.2 u_9.1 u_9.2 mln mne mgo)) hP (congrArg (fun w9 : Nat → Nat => (wM z cI cZ mn mi ms mtk mso mwh mfi mse mth mpu mno mlo mbe mre mis mca w9 (parT mso mwh mfi mse mth mpu (iterN (pstF mso mwh mfi mse mth mpu mbe mre mn ms (bN (rsP mlo mis) ms)) t mpa) va mn) u_2.2 u_9.1 u_9.2 mln mne mgo)) e_13)) (fx_D hD rfl) hS ls (lv_sub hl [1, 2, 3, 4, 0] rfl)
        have e_14 : iterN (pstF mso mwh mfi mse mth mpu mbe mre mn ms (bN (rsP mlo mis) ms)) t mpa = mixF (fun jj => if (bN (rsP mlo mis) ms).testBit jj = true then mbe jj else (parT mso mwh mfi mse mth mpu (iterN (pstF mso mwh mfi mse mth mpu mbe mre mn ms (bN (rsP mlo mis) ms)) t mpa) va mn) (mre jj)) (iterN (pstF mso mwh mfi mse mth mpu mbe mre mn ms (bN (rsP mlo mis) ms)) t mpa) 0 := by first | rfl | (exact (mix_0 _ _).symm)
        exact L_47 (ms - 0 + 1) 0 (Nat.zero_le _) (Nat.lt_succ_self _) H locs (fx_Pe (w' := (wM z cI cZ mn mi ms mtk mso mwh mfi mse mth mpu mno mlo mbe mre mis mca (mixF (fun jj => if (bN (rsP mlo mis) ms).testBit jj = true then mbe jj else (parT mso mwh mfi mse mth mpu (iterN (pstF mso mwh mfi mse mth mpu mbe mre mn ms (bN (rsP mlo mis) ms)) t mpa) va mn) (mre jj)) (iterN (pstF mso mwh mfi mse mth mpu mbe mre mn ms (bN (rsP mlo mis) ms)) t mpa) 0) (parT mso mwh mfi mse mth mpu (iterN (pstF mso mwh mfi mse mth mpu mbe mre mn ms (bN (rsP mlo mis) ms)) t mpa) va mn) u_2.2 u_9.1 u_9.2 mln mne mgo)) hP (congrArg (fun w9 : Nat → Nat => (wM z cI cZ mn mi ms mtk mso mwh mfi mse mth mpu mno mlo mbe mre mis mca w9 (parT mso mwh mfi mse mth mpu (iterN (pstF mso mwh mfi mse mth mpu mbe mre mn ms (bN (rsP mlo mis) ms)) t mpa) va mn) u_2.2 u_9.1 u_9.2 mln mne mgo)) e_14)) (fx_D hD rfl) hS ls (lv_sub hl [1, 2, 3, 4, 0] rfl)
    exact L_29 (n - 0 + 1) 0 u_2.1 (mixF (fun jj => if false = true then decide (jj < 2 ^ ms) else mca jj) mst 64) mtn (Nat.zero_le _) (fun r hr => if_pos hr) (Nat.lt_succ_self _) H locs hP (fx_D hD rfl) hS ls (lv_sub hl [2, 3, 1, 0] rfl)
  have f_7 : (inB (nI n) (nI 1) (nI 64)) = false := bI_0.mp c_7
  exfalso; rw [inB_nI (by omega) (by omega) (by omega)] at f_7; simp at f_7; omega
set_option maxHeartbeats 4000000 in
set_option maxRecDepth 100000 in
theorem c_X5_fresh (l : Launch) (D : va_G) (cI cJ cZ : ClassId) (z : Nat → Nat) (mn : Nat) (mi : Nat) (ms : Nat) (mtk : Nat) (mso : Nat → Nat) (mwh : Nat → Nat) (mfi : Nat → Nat) (mse : Nat → Nat) (mth : Nat → Nat) (mpu : Nat → Nat) (mno : Nat → Nat) (mlo : Nat → Nat) (mbe : Nat → Nat) (mre : Nat → Nat) (mis : Nat → Bool) (mca : Nat → Bool) (mpa : Nat → Nat) (mva : Nat → Nat) (mle : Nat → Nat) (mst : Nat → Bool) (mtn : Nat → Bool) (mln : Nat → Nat) (mne : Nat → Int32) (mgo : Nat → Int32) (hms : ms ≤ 6) : Ct l D cI cJ cZ yX5_fresh wsX5_fresh ({ frames := 1, cells := 0, slots := 0, locals := 21 } : Room) 0 0 [.ref (z 0)] (wM z cI cZ mn mi ms mtk mso mwh mfi mse mth mpu mno mlo mbe mre mis mca mpa mva mle mst mtn mln mne mgo) (S := Unit) (fun u => True) (fun u => some (.int (nI mtk))) (fun u => (wM z cI cZ mn mi ms 0 mso mwh mfi mse mth mpu mno mlo mbe mre mis (mixF (fun jj => decide (jj < 2 ^ ms)) mca 64) (mixF (fun _ => 2) mpa 6) mva mle mst mtn mln mne mgo)) := by
  refine Ct.ofW (cc := cX5_fresh) (maxL := 2) (ret := (some .int)) (R_C := RX5) (by decide +kernel) rfl rfl (Nat.le_of_ble_eq_true rfl) rfl ?_
  intro p e s m args below meth c A Q ls H locs hx hb hml hown hts hK hA hP hD hS hZ hl hri hrl hrv
  refine lv_aload_n hx hb dX5_fresh_0 rfl (lv_at hl 0 rfl) ?_
  refine va_get (D := D) (ci := 5) (v := .int (nI mtk)) (C := RX5) (T := TX5) (N := 24) hx hb hts (fun w h => List.mem_cons_of_mem _ (List.mem_append_right _ h)) hown hK hP 0 rfl rfl 14 (by decide) (hts (.fieldLink RX5 82 "FirstStatesModel" "ticks" "I") (List.mem_of_getElem? (i := 1) rfl)) (fun _ h9 => h9) rfl dX5_fresh_1 ?_
  refine lv_istore_n (lv' := [(1, .int (nI mtk)), (0, .ref (z 0))]) hx hb dX5_fresh_4 rfl hl (by decide) rfl (fun ls hl => ?_)
  refine lv_aload_n hx hb dX5_fresh_5 rfl (lv_at hl 1 rfl) ?_
  refine fx_callV (As := []) (rest := []) ⟨hx, hb, hml, hown, hts⟩ (c_X5_begin l D cI cJ cZ z mn mi ms mtk mso mwh mfi mse mth mpu mno mlo mbe mre mis mca mpa mva mle mst mtn mln mne mgo (by first | assumption | omega)) (cwV 0 hts gX5_fresh_X5_begin rfl rfl rfl kv_X5_begin ⟨Nat.le_of_ble_eq_true rfl, Nat.le_of_ble_eq_true rfl⟩) hK hP hD hS hA hZ 0 rfl rfl rfl rfl hl.1 rfl (lv_room (Nat.le_of_ble_eq_true rfl)) dX5_fresh_6 ⟨Nat.zero_le _, Nat.zero_le _⟩ (fun u_1 H locs hu_1 hP hD hS => ?_)
  have hP : va_P D vwCl (wM z cI cZ mn mi ms 0 mso mwh mfi mse mth mpu mno mlo mbe mre mis (mixF (fun jj => decide (jj < 2 ^ ms)) mca 64) (mixF (fun _ => 2) mpa 6) mva mle mst mtn mln mne mgo) H := hP
  have hD : va_D A (wM z cI cZ mn mi ms 0 mso mwh mfi mse mth mpu mno mlo mbe mre mis (mixF (fun jj => decide (jj < 2 ^ ms)) mca 64) (mixF (fun _ => 2) mpa 6) mva mle mst mtn mln mne mgo) := fx_D hD rfl
  refine lv_iload_n hx hb dX5_fresh_9 rfl (lv_at hl 0 rfl) ?_
  exact hri () _ H locs 10 ls .int rfl rfl trivial rfl hP hD hS dX5_fresh_10
set_option maxHeartbeats 4000000 in
set_option maxRecDepth 100000 in
theorem c_X5_possible (l : Launch) (D : va_G) (cI cJ cZ : ClassId) (z : Nat → Nat) (mn : Nat) (mi : Nat) (ms : Nat) (mtk : Nat) (mso : Nat → Nat) (mwh : Nat → Nat) (mfi : Nat → Nat) (mse : Nat → Nat) (mth : Nat → Nat) (mpu : Nat → Nat) (mno : Nat → Nat) (mlo : Nat → Nat) (mbe : Nat → Nat) (mre : Nat → Nat) (mis : Nat → Bool) (mca : Nat → Bool) (mpa : Nat → Nat) (mva : Nat → Nat) (mle : Nat → Nat) (mst : Nat → Bool) (mtn : Nat → Bool) (mln : Nat → Nat) (mne : Nat → Int32) (mgo : Nat → Int32) (hms : ms ≤ 6) : Ct l D cI cJ cZ yX5_possible wsX5_possible ({ frames := 1, cells := 0, slots := 0, locals := 22 } : Room) 0 0 [.ref (z 0)] (wM z cI cZ mn mi ms mtk mso mwh mfi mse mth mpu mno mlo mbe mre mis mca mpa mva mle mst mtn mln mne mgo) (S := Nat → Bool) (fun u => True) (fun u => some (.int (nI (ct mca 64)))) (fun u => (wM z cI cZ mn mi ms mtk mso mwh mfi mse mth mpu mno mlo mbe mre mis mca mpa mva mle u mtn mln mne mgo)) := by
  refine Ct.ofW (cc := cX5_possible) (maxL := 1) (ret := (some .int)) (R_C := RX5) (by decide +kernel) rfl rfl (Nat.le_of_ble_eq_true rfl) rfl ?_
  intro p e s m args below meth c A Q ls H locs hx hb hml hown hts hK hA hP hD hS hZ hl hri hrl hrv
  refine lv_aload_n hx hb dX5_possible_0 rfl (lv_at hl 0 rfl) ?_
  refine lv_iconst (v := nI 0) hx hb dX5_possible_1 (by decide) ?_
  refine fx_callV (As := [.int (bI false)]) (rest := []) ⟨hx, hb, hml, hown, hts⟩ (c_X5_load l D cI cJ cZ z mn mi ms mtk mso mwh mfi mse mth mpu mno mlo mbe mre mis mca mpa mva mle mst mtn mln mne mgo false (by first | assumption | omega)) (cwV 1 hts gX5_possible_X5_load rfl rfl rfl kv_X5_load ⟨Nat.le_of_ble_eq_true rfl, Nat.le_of_ble_eq_true rfl⟩) hK hP hD hS hA hZ 0 rfl rfl rfl rfl hl.1 rfl (lv_room (Nat.le_of_ble_eq_true rfl)) dX5_possible_2 ⟨Nat.zero_le _, Nat.zero_le _⟩ (fun u_1 H locs hu_1 hP hD hS => ?_)
  have hP : va_P D vwCl (wM z cI cZ mn mi ms mtk mso mwh mfi mse mth mpu mno mlo mbe mre mis mca mpa mva mle (mixF (fun jj => if false = true then decide (jj < 2 ^ ms) else mca jj) mst 64) mtn mln mne mgo) H := hP
  have hD : va_D A (wM z cI cZ mn mi ms mtk mso mwh mfi mse mth mpu mno mlo mbe mre mis mca mpa mva mle (mixF (fun jj => if false = true then decide (jj < 2 ^ ms) else mca jj) mst 64) mtn mln mne mgo) := fx_D hD rfl
  refine lv_aload_n hx hb dX5_possible_5 rfl (lv_at hl 0 rfl) ?_
  refine fx_callV (As := []) (rest := []) ⟨hx, hb, hml, hown, hts⟩ (c_X5_many l D cI cJ cZ z mn mi ms mtk mso mwh mfi mse mth mpu mno mlo mbe mre mis mca mpa mva mle (mixF (fun jj => if false = true then decide (jj < 2 ^ ms) else mca jj) mst 64) mtn mln mne mgo) (cwV 0 hts gX5_possible_X5_many rfl rfl rfl kv_X5_many ⟨Nat.le_of_ble_eq_true rfl, Nat.le_of_ble_eq_true rfl⟩) hK hP hD hS hA hZ 0 rfl rfl rfl rfl hl.1 rfl (lv_room (Nat.le_of_ble_eq_true rfl)) dX5_possible_6 ⟨Nat.zero_le _, Nat.zero_le _⟩ (fun u_2 H locs hu_2 hP hD hS => ?_)
  exact hri (mixF (fun jj => if false = true then decide (jj < 2 ^ ms) else mca jj) mst 64) _ H locs 9 ls .int rfl rfl trivial (by exact congrArg (fun w => some (Value.int (nI w))) (ct_cong (fun r hr => by exact (if_pos hr : mixF _ mst 64 r = _).symm))) hP hD hS dX5_possible_9
