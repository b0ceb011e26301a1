/-! Contracts of the reference. -/
set_option maxHeartbeats 4000000 in
set_option maxRecDepth 100000 in
theorem c_X5_in (l : Launch) (D : va_G) (cI cJ cZ : ClassId) (w : va_W) (x : Int32) (a : Int32) (b : Int32) : Ct l D cI cJ cZ yX5_in wsX5_in ({ frames := 0, cells := 0, slots := 0, locals := 0 } : Room) 0 0 [.int x, .int a, .int b] w (S := Unit) (fun u => True) (fun u => some (.int (bI (inB x a b)))) (fun u => w) := by
  refine Ct.ofW (cc := cX5_in) (maxL := 3) (ret := (some .boolean)) (R_C := RX5) (by decide +kernel) rfl rfl (Nat.le_of_ble_eq_true rfl) rfl ?_
  intro p e s m args below meth c A Q ls H locs hx hb hml hown hts hK hA hP hD hS hZ hl hri hrl hrv
  refine lv_iload_n hx hb dX5_in_0 rfl (lv_at hl 0 rfl) ?_
  refine lv_iload_n hx hb dX5_in_1 rfl (lv_at hl 1 rfl) ?_
  refine lv_icmp_lt (tgt := 14) hx hb dX5_in_2 (by decide) (fun c_2 => ?_) (fun c_2 => ?_)
  · refine lv_iconst (v := nI 0) hx hb dX5_in_14 (by decide) ?_
    exact hri () _ H locs 15 ls .boolean rfl rfl trivial (by exact bI_s0 (by simp [inB, c_2])) hP hD hS dX5_in_15
  refine lv_iload_n hx hb dX5_in_5 rfl (lv_at hl 0 rfl) ?_
  refine lv_iload_n hx hb dX5_in_6 rfl (lv_at hl 2 rfl) ?_
  refine lv_icmp_gt (tgt := 14) hx hb dX5_in_7 (by decide) (fun c_7 => ?_) (fun c_7 => ?_)
  · refine lv_iconst (v := nI 0) hx hb dX5_in_14 (by decide) ?_
    exact hri () _ H locs 15 ls .boolean rfl rfl trivial (by exact bI_s0 (by simp [inB, c_2, c_7])) hP hD hS dX5_in_15
  refine lv_iconst (v := nI 1) hx hb dX5_in_10 (by decide) ?_
  refine lv_goto (tgt := 15) hx hb dX5_in_11 (by decide) ?_
  exact hri () _ H locs 15 ls .boolean rfl rfl trivial (by exact bI_s1 (by simp [inB, c_2, c_7])) hP hD hS dX5_in_15
set_option maxHeartbeats 4000000 in
set_option maxRecDepth 100000 in
theorem c_X5_isNode (l : Launch) (D : va_G) (cI cJ cZ : ClassId) (z : Nat → Nat) (mn : Nat) (mi : Nat) (ms : Nat) (mtk : Nat) (mso : Nat → Nat) (mwh : Nat → Nat) (mfi : Nat → Nat) (mse : Nat → Nat) (mth : Nat → Nat) (mpu : Nat → Nat) (mno : Nat → Nat) (mlo : Nat → Nat) (mbe : Nat → Nat) (mre : Nat → Nat) (mis : Nat → Bool) (mca : Nat → Bool) (mpa : Nat → Nat) (mva : Nat → Nat) (mle : Nat → Nat) (mst : Nat → Bool) (mtn : Nat → Bool) (mln : Nat → Nat) (mne : Nat → Int32) (mgo : Nat → Int32) (x : Int32) (hmn : mn ≤ 32) : Ct l D cI cJ cZ yX5_isNode wsX5_isNode ({ frames := 1, cells := 0, slots := 0, locals := 22 } : Room) 0 0 [.ref (z 0), .int x] (wM z cI cZ mn mi ms mtk mso mwh mfi mse mth mpu mno mlo mbe mre mis mca mpa mva mle mst mtn mln mne mgo) (S := Unit) (fun u => True) (fun u => some (.int (bI (isN mn x)))) (fun u => (wM z cI cZ mn mi ms mtk mso mwh mfi mse mth mpu mno mlo mbe mre mis mca mpa mva mle mst mtn mln mne mgo)) := by
  refine Ct.ofW (cc := cX5_isNode) (maxL := 2) (ret := (some .boolean)) (R_C := RX5) (by decide +kernel) rfl rfl (Nat.le_of_ble_eq_true rfl) rfl ?_
  intro p e s m args below meth c A Q ls H locs hx hb hml hown hts hK hA hP hD hS hZ hl hri hrl hrv
  refine lv_iload_n hx hb dX5_isNode_0 rfl (lv_at hl 1 rfl) ?_
  refine lv_iconst (v := nI 0) hx hb dX5_isNode_1 (by decide) ?_
  refine lv_aload_n hx hb dX5_isNode_2 rfl (lv_at hl 0 rfl) ?_
  refine va_get (D := D) (ci := 5) (v := .int (nI mn)) (C := RX5) (T := TX5) (N := 24) hx hb hts (fun w h => List.mem_cons_of_mem _ (List.mem_append_right _ h)) hown hK hP 0 rfl rfl 0 (by decide) (hts (.fieldLink RX5 74 "FirstStatesModel" "nodes" "I") (List.mem_of_getElem? (i := 1) rfl)) (fun _ h9 => h9) rfl dX5_isNode_3 ?_
  refine lv_iconst (v := nI 1) hx hb dX5_isNode_6 (by decide) ?_
  refine lv_isub hx hb dX5_isNode_7 ?_
  refine fx_callS (As := [.int x, .int (nI 0), .int ((nI mn) - (nI 1))]) (rest := []) ⟨hx, hb, hml, hown, hts⟩ (c_X5_in l D cI cJ cZ (wM z cI cZ mn mi ms mtk mso mwh mfi mse mth mpu mno mlo mbe mre mis mca mpa mva mle mst mtn mln mne mgo) x (nI 0) ((nI mn) - (nI 1))) (va_cwS 3 hts gX5_isNode_X5_in rfl rfl rfl ks_X5_in ⟨Nat.le_of_ble_eq_true rfl, Nat.le_of_ble_eq_true rfl⟩) hK hP hD hS hA hZ rfl hl.1 rfl (lv_room (Nat.le_of_ble_eq_true rfl)) dX5_isNode_8 ⟨Nat.zero_le _, Nat.zero_le _⟩ (fun u_1 H locs hu_1 hP hD hS => ?_)
  exact hri () _ H locs 11 ls .boolean rfl (bI_ret _) trivial (by rw [inB_node (by omega)]) hP hD hS dX5_isNode_11
set_option maxHeartbeats 4000000 in
set_option maxRecDepth 100000 in
theorem c_X5_begin (l : Launch) (D : va_G) (cI cJ cZ : ClassId) (z : Nat → Nat) (mn : Nat) (mi : Nat) (ms : Nat) (mtk : Nat) (mso : Nat → Nat) (mwh : Nat → Nat) (mfi : Nat → Nat) (mse : Nat → Nat) (mth : Nat → Nat) (mpu : Nat → Nat) (mno : Nat → Nat) (mlo : Nat → Nat) (mbe : Nat → Nat) (mre : Nat → Nat) (mis : Nat → Bool) (mca : Nat → Bool) (mpa : Nat → Nat) (mva : Nat → Nat) (mle : Nat → Nat) (mst : Nat → Bool) (mtn : Nat → Bool) (mln : Nat → Nat) (mne : Nat → Int32) (mgo : Nat → Int32) (hms : ms ≤ 6) : Ct l D cI cJ cZ yX5_begin wsX5_begin ({ frames := 0, cells := 0, slots := 0, locals := 0 } : Room) 0 0 [.ref (z 0)] (wM z cI cZ mn mi ms mtk mso mwh mfi mse mth mpu mno mlo mbe mre mis mca mpa mva mle mst mtn mln mne mgo) (S := Unit) (fun u => True) (fun u => none) (fun u => (wM z cI cZ mn mi ms 0 mso mwh mfi mse mth mpu mno mlo mbe mre mis (mixF (fun jj => decide (jj < 2 ^ ms)) mca 64) (mixF (fun _ => 2) mpa 6) mva mle mst mtn mln mne mgo)) := by
  refine Ct.ofW (cc := cX5_begin) (maxL := 2) (ret := none) (R_C := RX5) (by decide +kernel) rfl rfl (Nat.le_of_ble_eq_true rfl) rfl ?_
  intro p e s m args below meth c A Q ls H locs hx hb hml hown hts hK hA hP hD hS hZ hl hri hrl hrv
  refine lv_aload_n hx hb dX5_begin_0 rfl (lv_at hl 0 rfl) ?_
  refine lv_iconst (v := nI 0) hx hb dX5_begin_1 (by decide) ?_
  refine va_put (D := D) (ci := 5) (v := .int (nI 0)) (ty := .int) (C := RX5) (T := TX5) (N := 24) hx hb hts (fun w h => List.mem_cons_of_mem _ (List.mem_append_right _ h)) tyX5 tyX5_ok nmX5 hown hK hP hD hS 0 rfl rfl 14 (by decide) (hts (.fieldLink RX5 82 "FirstStatesModel" "ticks" "I") (List.mem_of_getElem? (i := 1) rfl)) (fun _ h9 => h9) rfl (by decide +kernel) rfl rfl (Nat.le_of_ble_eq_true rfl) dX5_begin_2 (fun H locs hP hD hS => ?_)
  have hP : va_P D vwCl (wM z cI cZ mn mi ms 0 mso mwh mfi mse mth mpu mno mlo mbe mre mis mca mpa mva mle mst mtn mln mne mgo) H := hP
  have hD : va_D A (wM z cI cZ mn mi ms 0 mso mwh mfi mse mth mpu mno mlo mbe mre mis mca mpa mva mle mst mtn mln mne mgo) := fx_D hD rfl
  have hp6 : 2 ^ ms ≤ 64 := Nat.pow_le_pow_right (by omega) hms
  refine lv_iconst (v := nI 0) hx hb dX5_begin_5 (by decide) ?_
  refine lv_istore_n (lv' := [(1, .int (nI 0)), (0, .ref (z 0))]) hx hb dX5_begin_6 rfl hl (by decide) rfl (fun ls hl => ?_)
  have L_7 : ∀ (fuel : Nat) (r : Nat) (hr : r ≤ 64) (hfu : 64 - r < fuel) (H : Heap) (locs : List Loc), va_P D vwCl (wM z cI cZ mn mi ms 0 mso mwh mfi mse mth mpu mno mlo mbe mre mis (mixF (fun jj => decide (jj < 2 ^ ms)) mca r) mpa mva mle mst mtn mln mne mgo) H → va_D A (wM z cI cZ mn mi ms 0 mso mwh mfi mse mth mpu mno mlo mbe mre mis (mixF (fun jj => decide (jj < 2 ^ ms)) mca r) mpa mva mle mst mtn mln mne mgo) → va_S A s.heap H locs → ∀ ls : Array Slot, lv_has ls 2 [(0, .ref (z 0)), (1, .int (nI r))] → W p l e ({ frames := 0, cells := 0, slots := 0, locals := 0 } : Room) s m args below meth c H locs 0 0 Q (F0 m 7 ls []) := by
    intro fuel
    induction fuel with
    | zero => intro r hr hfu; exact absurd hfu (Nat.not_lt_zero _)
    | succ fuel ih_7 =>
      intro r hr hfu H locs hP hD hS ls hl
      refine lv_iload_n hx hb dX5_begin_7 rfl (lv_at hl 1 rfl) ?_
      refine lv_bipush (v := nI 64) hx hb dX5_begin_8 (by decide) ?_
      refine lv_icmp_ge (tgt := 40) hx hb dX5_begin_10 (by decide) (fun c_10 => ?_) (fun c_10 => ?_)
      · have f_10 : 64 ≤ r := (nI_leI (a := 64) (b := r) (by first | omega | exact b_and1 _ | exact b_ct _ _ (by omega) | exact b_andr _ (by omega)) (by first | omega | exact b_and1 _ | exact b_ct _ _ (by omega) | exact b_andr _ (by omega))).mp c_10
        have e_r : r = 64 := by omega
        refine lv_iconst (v := nI 0) hx hb dX5_begin_40 (by decide) ?_
        refine lv_istore_n (lv' := [(1, .int (nI 0)), (0, .ref (z 0))]) hx hb dX5_begin_41 rfl hl (by decide) rfl (fun ls hl => ?_)
        have L_42 : ∀ (fuel : Nat) (i : Nat) (hi : i ≤ 6) (hfu : 6 - i < fuel) (H : Heap) (locs : List Loc), va_P D vwCl (wM z cI cZ mn mi ms 0 mso mwh mfi mse mth mpu mno mlo mbe mre mis (mixF (fun jj => decide (jj < 2 ^ ms)) mca 64) (mixF (fun _ => 2) mpa i) mva mle mst mtn mln mne mgo) H → va_D A (wM z cI cZ mn mi ms 0 mso mwh mfi mse mth mpu mno mlo mbe mre mis (mixF (fun jj => decide (jj < 2 ^ ms)) mca 64) (mixF (fun _ => 2) mpa i) mva mle mst mtn mln mne mgo) → va_S A s.heap H locs → ∀ ls : Array Slot, lv_has ls 2 [(0, .ref (z 0)), (1, .int (nI i))] → W p l e ({ frames := 0, cells := 0, slots := 0, locals := 0 } : Room) s m args below meth c H locs 0 0 Q (F0 m 42 ls []) := by
          intro fuel
          induction fuel with
          | zero => intro i hi hfu; exact absurd hfu (Nat.not_lt_zero _)
          | succ fuel ih_42 =>
            intro i hi hfu H locs hP hD hS ls hl
            refine lv_iload_n hx hb dX5_begin_42 rfl (lv_at hl 1 rfl) ?_
            refine lv_bipush (v := nI 6) hx hb dX5_begin_43 (by decide) ?_
            refine lv_icmp_ge (tgt := 61) hx hb dX5_begin_45 (by decide) (fun c_45 => ?_) (fun c_45 => ?_)
            · have f_45 : 6 ≤ i := (nI_leI (a := 6) (b := i) (by first | omega | exact b_and1 _ | exact b_ct _ _ (by omega) | exact b_andr _ (by omega)) (by first | omega | exact b_and1 _ | exact b_ct _ _ (by omega) | exact b_andr _ (by omega))).mp c_45
              have e_i : i = 6 := by omega
              have e_1 : mixF (fun _ => 2) mpa i = mixF (fun _ => 2) mpa 6 := by first | rfl | (rw [e_i])
              exact hrv () H locs 61 ls rfl trivial rfl (fx_Pe (w' := (wM z cI cZ mn mi ms 0 mso mwh mfi mse mth mpu mno mlo mbe mre mis (mixF (fun jj => decide (jj < 2 ^ ms)) mca 64) (mixF (fun _ => 2) mpa 6) mva mle mst mtn mln mne mgo)) hP (congrArg (fun w9 : Nat → Nat => (wM z cI cZ mn mi ms 0 mso mwh mfi mse mth mpu mno mlo mbe mre mis (mixF (fun jj => decide (jj < 2 ^ ms)) mca 64) w9 mva mle mst mtn mln mne mgo)) e_1)) (fx_D hD rfl) hS dX5_begin_61
            have f_45 : ¬ 6 ≤ i := fun h => c_45 ((nI_leI (a := 6) (b := i) (by first | omega | exact b_and1 _ | exact b_ct _ _ (by omega) | exact b_andr _ (by omega)) (by first | omega | exact b_and1 _ | exact b_ct _ _ (by omega) | exact b_andr _ (by omega))).mpr h)
            refine lv_aload_n hx hb dX5_begin_48 rfl (lv_at hl 0 rfl) ?_
            refine va_get (D := D) (ci := 5) (v := .ref (z 13)) (C := RX5) (T := TX5) (N := 24) hx hb hts (fun w h => List.mem_cons_of_mem _ (List.mem_append_right _ h)) hown hK hP 0 rfl rfl 16 (by decide) (hts (.fieldLink RX5 47 "FirstStatesModel" "parts" "[I") (List.mem_of_getElem? (i := 4) rfl)) (fun _ h9 => h9) rfl dX5_begin_49 ?_
            refine lv_iload_n hx hb dX5_begin_52 rfl (lv_at hl 1 rfl) ?_
            refine lv_iconst (v := nI 2) hx hb dX5_begin_53 (by decide) ?_
            refine fx_iast (ar := nI) hx hb hK hP hD hS 13 (f := (mixF (fun _ => 2) mpa i)) (k := i) (v := 2) rfl (by omega) (by decide) rfl dX5_begin_54 (fun H locs hP hD hS => ?_)
            have hP : va_P D vwCl (wM z cI cZ mn mi ms 0 mso mwh mfi mse mth mpu mno mlo mbe mre mis (mixF (fun jj => decide (jj < 2 ^ ms)) mca 64) (va_up (mixF (fun _ => 2) mpa i) i 2) mva mle mst mtn mln mne mgo) H := hP
            have hD : va_D A (wM z cI cZ mn mi ms 0 mso mwh mfi mse mth mpu mno mlo mbe mre mis (mixF (fun jj => decide (jj < 2 ^ ms)) mca 64) (va_up (mixF (fun _ => 2) mpa i) i 2) mva mle mst mtn mln mne mgo) := fx_D hD rfl
            refine lv_iinc (v := nI (i + 1)) (lv' := [(1, .int (nI (i + 1))), (0, .ref (z 0))]) hx hb dX5_begin_55 hl (k := 1) rfl (by exact nI_1 _) (by decide) rfl (fun ls hl => ?_)
            refine lv_goto (tgt := 42) hx hb dX5_begin_58 (by decide) ?_
            have e_2 : va_up (mixF (fun _ => 2) mpa i) i 2 = mixF (fun _ => 2) mpa (i + 1) := by first | rfl | (exact mix_up _ _ _ _ rfl)
            exact ih_42 (i + 1) (by first | assumption | omega) (by omega) H locs (fx_Pe (w' := (wM z cI cZ mn mi ms 0 mso mwh mfi mse mth mpu mno mlo mbe mre mis (mixF (fun jj => decide (jj < 2 ^ ms)) mca 64) (mixF (fun _ => 2) mpa (i + 1)) mva mle mst mtn mln mne mgo)) hP (congrArg (fun w9 : Nat → Nat => (wM z cI cZ mn mi ms 0 mso mwh mfi mse mth mpu mno mlo mbe mre mis (mixF (fun jj => decide (jj < 2 ^ ms)) mca 64) w9 mva mle mst mtn mln mne mgo)) e_2)) (fx_D hD rfl) hS ls (lv_sub hl [1, 0] rfl)
        have e_3 : mixF (fun jj => decide (jj < 2 ^ ms)) mca r = mixF (fun jj => decide (jj < 2 ^ ms)) mca 64 := by first | rfl | (rw [e_r])
        have e_4 : mpa = mixF (fun _ => 2) mpa 0 := by first | rfl | (exact (mix_0 _ _).symm)
        exact L_42 (6 - 0 + 1) 0 (Nat.zero_le _) (Nat.lt_succ_self _) H locs (fx_Pe (w' := (wM z cI cZ mn mi ms 0 mso mwh mfi mse mth mpu mno mlo mbe mre mis (mixF (fun jj => decide (jj < 2 ^ ms)) mca 64) (mixF (fun _ => 2) mpa 0) mva mle mst mtn mln mne mgo)) (fx_Pe (w' := (wM z cI cZ mn mi ms 0 mso mwh mfi mse mth mpu mno mlo mbe mre mis (mixF (fun jj => decide (jj < 2 ^ ms)) mca 64) mpa mva mle mst mtn mln mne mgo)) hP (congrArg (fun w9 : Nat → Bool => (wM z cI cZ mn mi ms 0 mso mwh mfi mse mth mpu mno mlo mbe mre mis w9 mpa mva mle mst mtn mln mne mgo)) e_3)) (congrArg (fun w9 : Nat → Nat => (wM z cI cZ mn mi ms 0 mso mwh mfi mse mth mpu mno mlo mbe mre mis (mixF (fun jj => decide (jj < 2 ^ ms)) mca 64) w9 mva mle mst mtn mln mne mgo)) e_4)) (fx_D hD rfl) hS ls (lv_sub hl [1, 0] rfl)
      have f_10 : ¬ 64 ≤ r := fun h => c_10 ((nI_leI (a := 64) (b := r) (by first | omega | exact b_and1 _ | exact b_ct _ _ (by omega) | exact b_andr _ (by omega)) (by first | omega | exact b_and1 _ | exact b_ct _ _ (by omega) | exact b_andr _ (by omega))).mpr h)
      refine lv_aload_n hx hb dX5_begin_13 rfl (lv_at hl 0 rfl) ?_
      refine va_get (D := D) (ci := 5) (v := .ref (z 12)) (C := RX5) (T := TX5) (N := 24) hx hb hts (fun w h => List.mem_cons_of_mem _ (List.mem_append_right _ h)) hown hK hP 0 rfl rfl 15 (by decide) (hts (.fieldLink RX5 44 "FirstStatesModel" "can" "[Z") (List.mem_of_getElem? (i := 2) rfl)) (fun _ h9 => h9) rfl dX5_begin_14 ?_
      refine lv_iload_n hx hb dX5_begin_17 rfl (lv_at hl 1 rfl) ?_
      refine lv_iload_n hx hb dX5_begin_18 rfl (lv_at hl 1 rfl) ?_
      refine lv_iconst (v := nI 1) hx hb dX5_begin_19 (by decide) ?_
      refine lv_aload_n hx hb dX5_begin_20 rfl (lv_at hl 0 rfl) ?_
      refine va_get (D := D) (ci := 5) (v := .int (nI ms)) (C := RX5) (T := TX5) (N := 24) hx hb hts (fun w h => List.mem_cons_of_mem _ (List.mem_append_right _ h)) hown hK hP 0 rfl rfl 8 (by decide) (hts (.fieldLink RX5 85 "FirstStatesModel" "stores" "I") (List.mem_of_getElem? (i := 3) rfl)) (fun _ h9 => h9) rfl dX5_begin_21 ?_
      refine lv_ishl hx hb dX5_begin_24 ?_
      refine fx_eqi (y := nI (2 ^ ms)) (fx_shl1 (by first | omega | exact b_and1 _ | exact b_ct _ _ (by omega) | exact b_andr _ (by omega))) ?_
      refine lv_icmp_ge (tgt := 32) hx hb dX5_begin_25 (by decide) (fun c_25 => ?_) (fun c_25 => ?_)
      · have f_25 : 2 ^ ms ≤ r := (nI_leI (a := 2 ^ ms) (b := r) (by first | omega | exact b_and1 _ | exact b_ct _ _ (by omega) | exact b_andr _ (by omega)) (by first | omega | exact b_and1 _ | exact b_ct _ _ (by omega) | exact b_andr _ (by omega))).mp c_25
        refine lv_iconst (v := nI 0) hx hb dX5_begin_32 (by decide) ?_
        refine fx_zast hx hb hK hP hD hS 12 (f := (mixF (fun jj => decide (jj < 2 ^ ms)) mca r)) (k := r) (v := false) rfl (by omega) (by decide) rfl dX5_begin_33 (fun H locs hP hD hS => ?_)
        have hP : va_P D vwCl (wM z cI cZ mn mi ms 0 mso mwh mfi mse mth mpu mno mlo mbe mre mis (va_up (mixF (fun jj => decide (jj < 2 ^ ms)) mca r) r false) mpa mva mle mst mtn mln mne mgo) H := hP
        have hD : va_D A (wM z cI cZ mn mi ms 0 mso mwh mfi mse mth mpu mno mlo mbe mre mis (va_up (mixF (fun jj => decide (jj < 2 ^ ms)) mca r) r false) mpa mva mle mst mtn mln mne mgo) := fx_D hD rfl
        refine lv_iinc (v := nI (r + 1)) (lv' := [(1, .int (nI (r + 1))), (0, .ref (z 0))]) hx hb dX5_begin_34 hl (k := 1) rfl (by exact nI_1 _) (by decide) rfl (fun ls hl => ?_)
        refine lv_goto (tgt := 7) hx hb dX5_begin_37 (by decide) ?_
        have e_5 : va_up (mixF (fun jj => decide (jj < 2 ^ ms)) mca r) r false = mixF (fun jj => decide (jj < 2 ^ ms)) mca (r + 1) := by first | rfl | (refine mix_up _ _ _ _ ?_; simp; omega)
        exact ih_7 (r + 1) (by first | assumption | omega) (by omega) H locs (fx_Pe (w' := (wM z cI cZ mn mi ms 0 mso mwh mfi mse mth mpu mno mlo mbe mre mis (mixF (fun jj => decide (jj < 2 ^ ms)) mca (r + 1)) mpa mva mle mst mtn mln mne mgo)) hP (congrArg (fun w9 : Nat → Bool => (wM z cI cZ mn mi ms 0 mso mwh mfi mse mth mpu mno mlo mbe mre mis w9 mpa mva mle mst mtn mln mne mgo)) e_5)) (fx_D hD rfl) hS ls (lv_sub hl [1, 0] rfl)
      have f_25 : ¬ 2 ^ ms ≤ r := fun h => c_25 ((nI_leI (a := 2 ^ ms) (b := r) (by first | omega | exact b_and1 _ | exact b_ct _ _ (by omega) | exact b_andr _ (by omega)) (by first | omega | exact b_and1 _ | exact b_ct _ _ (by omega) | exact b_andr _ (by omega))).mpr h)
      refine lv_iconst (v := nI 1) hx hb dX5_begin_28 (by decide) ?_
      refine lv_goto (tgt := 33) hx hb dX5_begin_29 (by decide) ?_
      refine fx_zast hx hb hK hP hD hS 12 (f := (mixF (fun jj => decide (jj < 2 ^ ms)) mca r)) (k := r) (v := true) rfl (by omega) (by decide) rfl dX5_begin_33 (fun H locs hP hD hS => ?_)
      have hP : va_P D vwCl (wM z cI cZ mn mi ms 0 mso mwh mfi mse mth mpu mno mlo mbe mre mis (va_up (mixF (fun jj => decide (jj < 2 ^ ms)) mca r) r true) mpa mva mle mst mtn mln mne mgo) H := hP
      have hD : va_D A (wM z cI cZ mn mi ms 0 mso mwh mfi mse mth mpu mno mlo mbe mre mis (va_up (mixF (fun jj => decide (jj < 2 ^ ms)) mca r) r true) mpa mva mle mst mtn mln mne mgo) := fx_D hD rfl
      refine lv_iinc (v := nI (r + 1)) (lv' := [(1, .int (nI (r + 1))), (0, .ref (z 0))]) hx hb dX5_begin_34 hl (k := 1) rfl (by exact nI_1 _) (by decide) rfl (fun ls hl => ?_)
      refine lv_goto (tgt := 7) hx hb dX5_begin_37 (by decide) ?_
      have e_6 : va_up (mixF (fun jj => decide (jj < 2 ^ ms)) mca r) r true = mixF (fun jj => decide (jj < 2 ^ ms)) mca (r + 1) := by first | rfl | (refine mix_up _ _ _ _ ?_; simp; omega)
      exact ih_7 (r + 1) (by first | assumption | omega) (by omega) H locs (fx_Pe (w' := (wM z cI cZ mn mi ms 0 mso mwh mfi mse mth mpu mno mlo mbe mre mis (mixF (fun jj => decide (jj < 2 ^ ms)) mca (r + 1)) mpa mva mle mst mtn mln mne mgo)) hP (congrArg (fun w9 : Nat → Bool => (wM z cI cZ mn mi ms 0 mso mwh mfi mse mth mpu mno mlo mbe mre mis w9 mpa mva mle mst mtn mln mne mgo)) e_6)) (fx_D hD rfl) hS ls (lv_sub hl [1, 0] rfl)
  have e_7 : mca = mixF (fun jj => decide (jj < 2 ^ ms)) mca 0 := by first | rfl | (exact (mix_0 _ _).symm)
  exact L_7 (64 - 0 + 1) 0 (Nat.zero_le _) (Nat.lt_succ_self _) H locs (fx_Pe (w' := (wM z cI cZ mn mi ms 0 mso mwh mfi mse mth mpu mno mlo mbe mre mis (mixF (fun jj => decide (jj < 2 ^ ms)) mca 0) mpa mva mle mst mtn mln mne mgo)) hP (congrArg (fun w9 : Nat → Bool => (wM z cI cZ mn mi ms 0 mso mwh mfi mse mth mpu mno mlo mbe mre mis w9 mpa mva mle mst mtn mln mne mgo)) e_7)) (fx_D hD rfl) hS ls (lv_sub hl [1, 0] rfl)
set_option maxHeartbeats 4000000 in
set_option maxRecDepth 100000 in
theorem c_X5_add (l : Launch) (D : va_G) (cI cJ cZ : ClassId) (z : Nat → Nat) (mn : Nat) (mi : Nat) (ms : Nat) (mtk : Nat) (mso : Nat → Nat) (mwh : Nat → Nat) (mfi : Nat → Nat) (mse : Nat → Nat) (mth : Nat → Nat) (mpu : Nat → Nat) (mno : Nat → Nat) (mlo : Nat → Nat) (mbe : Nat → Nat) (mre : Nat → Nat) (mis : Nat → Bool) (mca : Nat → Bool) (mpa : Nat → Nat) (mva : Nat → Nat) (mle : Nat → Nat) (mst : Nat → Bool) (mtn : Nat → Bool) (mln : Nat → Nat) (mne : Nat → Int32) (mgo : Nat → Int32) (so : Nat) (w : Nat) (a : Nat) (b : Nat) (cc : Nat) (hmn : mn < 32) (hms : ms ≤ 6) : Ct l D cI cJ cZ yX5_add wsX5_add ({ frames := 1, cells := 0, slots := 0, locals := 21 } : Room) 0 0 [.ref (z 0), .int (nI so), .int (nI w), .int (nI a), .int (nI b), .int (nI cc)] (wM z cI cZ mn mi ms mtk mso mwh mfi mse mth mpu mno mlo mbe mre mis mca mpa mva mle mst mtn mln mne mgo) (S := Unit) (fun u => True) (fun u => some (.int (nI mn))) (fun u => (wM z cI cZ (mn + 1) mi ms 0 (va_up mso mn so) (va_up mwh mn w) (va_up mfi mn a) (va_up mse mn b) (va_up mth mn cc) mpu mno mlo mbe mre mis (mixF (fun jj => decide (jj < 2 ^ ms)) mca 64) (mixF (fun _ => 2) mpa 6) mva mle mst mtn mln mne mgo)) := by
  refine Ct.ofW (cc := cX5_add) (maxL := 6) (ret := (some .int)) (R_C := RX5) (by decide +kernel) rfl rfl (Nat.le_of_ble_eq_true rfl) rfl ?_
  intro p e s m args below meth c A Q ls H locs hx hb hml hown hts hK hA hP hD hS hZ hl hri hrl hrv
  refine lv_aload_n hx hb dX5_add_0 rfl (lv_at hl 0 rfl) ?_
  refine va_get (D := D) (ci := 5) (v := .ref (z 1)) (C := RX5) (T := TX5) (N := 24) hx hb hts (fun w h => List.mem_cons_of_mem _ (List.mem_append_right _ h)) hown hK hP 0 rfl rfl 1 (by decide) (hts (.fieldLink RX5 7 "FirstStatesModel" "sort" "[I") (List.mem_of_getElem? (i := 1) rfl)) (fun _ h9 => h9) rfl dX5_add_1 ?_
  refine lv_aload_n hx hb dX5_add_4 rfl (lv_at hl 0 rfl) ?_
  refine va_get (D := D) (ci := 5) (v := .int (nI mn)) (C := RX5) (T := TX5) (N := 24) hx hb hts (fun w h => List.mem_cons_of_mem _ (List.mem_append_right _ h)) hown hK hP 0 rfl rfl 0 (by decide) (hts (.fieldLink RX5 74 "FirstStatesModel" "nodes" "I") (List.mem_of_getElem? (i := 2) rfl)) (fun _ h9 => h9) rfl dX5_add_5 ?_
  refine lv_iload_n hx hb dX5_add_8 rfl (lv_at hl 1 rfl) ?_
  refine fx_iast (ar := nI) hx hb hK hP hD hS 1 (f := mso) (k := mn) (v := so) rfl (by omega) (by decide) rfl dX5_add_9 (fun H locs hP hD hS => ?_)
  have hP : va_P D vwCl (wM z cI cZ mn mi ms mtk (va_up mso mn so) mwh mfi mse mth mpu mno mlo mbe mre mis mca mpa mva mle mst mtn mln mne mgo) H := hP
  have hD : va_D A (wM z cI cZ mn mi ms mtk (va_up mso mn so) mwh mfi mse mth mpu mno mlo mbe mre mis mca mpa mva mle mst mtn mln mne mgo) := fx_D hD rfl
  refine lv_aload_n hx hb dX5_add_10 rfl (lv_at hl 0 rfl) ?_
  refine va_get (D := D) (ci := 5) (v := .ref (z 2)) (C := RX5) (T := TX5) (N := 24) hx hb hts (fun w h => List.mem_cons_of_mem _ (List.mem_append_right _ h)) hown hK hP 0 rfl rfl 2 (by decide) (hts (.fieldLink RX5 13 "FirstStatesModel" "which" "[I") (List.mem_of_getElem? (i := 3) rfl)) (fun _ h9 => h9) rfl dX5_add_11 ?_
  refine lv_aload_n hx hb dX5_add_14 rfl (lv_at hl 0 rfl) ?_
  refine va_get (D := D) (ci := 5) (v := .int (nI mn)) (C := RX5) (T := TX5) (N := 24) hx hb hts (fun w h => List.mem_cons_of_mem _ (List.mem_append_right _ h)) hown hK hP 0 rfl rfl 0 (by decide) (hts (.fieldLink RX5 74 "FirstStatesModel" "nodes" "I") (List.mem_of_getElem? (i := 2) rfl)) (fun _ h9 => h9) rfl dX5_add_15 ?_
  refine lv_iload_n hx hb dX5_add_18 rfl (lv_at hl 2 rfl) ?_
  refine fx_iast (ar := nI) hx hb hK hP hD hS 2 (f := mwh) (k := mn) (v := w) rfl (by omega) (by decide) rfl dX5_add_19 (fun H locs hP hD hS => ?_)
  have hP : va_P D vwCl (wM z cI cZ mn mi ms mtk (va_up mso mn so) (va_up mwh mn w) mfi mse mth mpu mno mlo mbe mre mis mca mpa mva mle mst mtn mln mne mgo) H := hP
  have hD : va_D A (wM z cI cZ mn mi ms mtk (va_up mso mn so) (va_up mwh mn w) mfi mse mth mpu mno mlo mbe mre mis mca mpa mva mle mst mtn mln mne mgo) := fx_D hD rfl
  refine lv_aload_n hx hb dX5_add_20 rfl (lv_at hl 0 rfl) ?_
  refine va_get (D := D) (ci := 5) (v := .ref (z 3)) (C := RX5) (T := TX5) (N := 24) hx hb hts (fun w h => List.mem_cons_of_mem _ (List.mem_append_right _ h)) hown hK hP 0 rfl rfl 3 (by decide) (hts (.fieldLink RX5 16 "FirstStatesModel" "first" "[I") (List.mem_of_getElem? (i := 4) rfl)) (fun _ h9 => h9) rfl dX5_add_21 ?_
  refine lv_aload_n hx hb dX5_add_24 rfl (lv_at hl 0 rfl) ?_
  refine va_get (D := D) (ci := 5) (v := .int (nI mn)) (C := RX5) (T := TX5) (N := 24) hx hb hts (fun w h => List.mem_cons_of_mem _ (List.mem_append_right _ h)) hown hK hP 0 rfl rfl 0 (by decide) (hts (.fieldLink RX5 74 "FirstStatesModel" "nodes" "I") (List.mem_of_getElem? (i := 2) rfl)) (fun _ h9 => h9) rfl dX5_add_25 ?_
  refine lv_iload_n hx hb dX5_add_28 rfl (lv_at hl 3 rfl) ?_
  refine fx_iast (ar := nI) hx hb hK hP hD hS 3 (f := mfi) (k := mn) (v := a) rfl (by omega) (by decide) rfl dX5_add_29 (fun H locs hP hD hS => ?_)
  have hP : va_P D vwCl (wM z cI cZ mn mi ms mtk (va_up mso mn so) (va_up mwh mn w) (va_up mfi mn a) mse mth mpu mno mlo mbe mre mis mca mpa mva mle mst mtn mln mne mgo) H := hP
  have hD : va_D A (wM z cI cZ mn mi ms mtk (va_up mso mn so) (va_up mwh mn w) (va_up mfi mn a) mse mth mpu mno mlo mbe mre mis mca mpa mva mle mst mtn mln mne mgo) := fx_D hD rfl
  refine lv_aload_n hx hb dX5_add_30 rfl (lv_at hl 0 rfl) ?_
  refine va_get (D := D) (ci := 5) (v := .ref (z 4)) (C := RX5) (T := TX5) (N := 24) hx hb hts (fun w h => List.mem_cons_of_mem _ (List.mem_append_right _ h)) hown hK hP 0 rfl rfl 4 (by decide) (hts (.fieldLink RX5 19 "FirstStatesModel" "second" "[I") (List.mem_of_getElem? (i := 5) rfl)) (fun _ h9 => h9) rfl dX5_add_31 ?_
  refine lv_aload_n hx hb dX5_add_34 rfl (lv_at hl 0 rfl) ?_
  refine va_get (D := D) (ci := 5) (v := .int (nI mn)) (C := RX5) (T := TX5) (N := 24) hx hb hts (fun w h => List.mem_cons_of_mem _ (List.mem_append_right _ h)) hown hK hP 0 rfl rfl 0 (by decide) (hts (.fieldLink RX5 74 "FirstStatesModel" "nodes" "I") (List.mem_of_getElem? (i := 2) rfl)) (fun _ h9 => h9) rfl dX5_add_35 ?_
  refine lv_iload hx hb dX5_add_38 (lv_at hl 4 rfl) ?_
  refine fx_iast (ar := nI) hx hb hK hP hD hS 4 (f := mse) (k := mn) (v := b) rfl (by omega) (by decide) rfl dX5_add_40 (fun H locs hP hD hS => ?_)
  have hP : va_P D vwCl (wM z cI cZ mn mi ms mtk (va_up mso mn so) (va_up mwh mn w) (va_up mfi mn a) (va_up mse mn b) mth mpu mno mlo mbe mre mis mca mpa mva mle mst mtn mln mne mgo) H := hP
  have hD : va_D A (wM z cI cZ mn mi ms mtk (va_up mso mn so) (va_up mwh mn w) (va_up mfi mn a) (va_up mse mn b) mth mpu mno mlo mbe mre mis mca mpa mva mle mst mtn mln mne mgo) := fx_D hD rfl
  refine lv_aload_n hx hb dX5_add_41 rfl (lv_at hl 0 rfl) ?_
  refine va_get (D := D) (ci := 5) (v := .ref (z 5)) (C := RX5) (T := TX5) (N := 24) hx hb hts (fun w h => List.mem_cons_of_mem _ (List.mem_append_right _ h)) hown hK hP 0 rfl rfl 5 (by decide) (hts (.fieldLink RX5 22 "FirstStatesModel" "third" "[I") (List.mem_of_getElem? (i := 6) rfl)) (fun _ h9 => h9) rfl dX5_add_42 ?_
  refine lv_aload_n hx hb dX5_add_45 rfl (lv_at hl 0 rfl) ?_
  refine va_get (D := D) (ci := 5) (v := .int (nI mn)) (C := RX5) (T := TX5) (N := 24) hx hb hts (fun w h => List.mem_cons_of_mem _ (List.mem_append_right _ h)) hown hK hP 0 rfl rfl 0 (by decide) (hts (.fieldLink RX5 74 "FirstStatesModel" "nodes" "I") (List.mem_of_getElem? (i := 2) rfl)) (fun _ h9 => h9) rfl dX5_add_46 ?_
  refine lv_iload hx hb dX5_add_49 (lv_at hl 5 rfl) ?_
  refine fx_iast (ar := nI) hx hb hK hP hD hS 5 (f := mth) (k := mn) (v := cc) rfl (by omega) (by decide) rfl dX5_add_51 (fun H locs hP hD hS => ?_)
  have hP : va_P D vwCl (wM z cI cZ mn mi ms mtk (va_up mso mn so) (va_up mwh mn w) (va_up mfi mn a) (va_up mse mn b) (va_up mth mn cc) mpu mno mlo mbe mre mis mca mpa mva mle mst mtn mln mne mgo) H := hP
  have hD : va_D A (wM z cI cZ mn mi ms mtk (va_up mso mn so) (va_up mwh mn w) (va_up mfi mn a) (va_up mse mn b) (va_up mth mn cc) mpu mno mlo mbe mre mis mca mpa mva mle mst mtn mln mne mgo) := fx_D hD rfl
  refine lv_aload_n hx hb dX5_add_52 rfl (lv_at hl 0 rfl) ?_
  refine lv_dup hx hb dX5_add_53 rfl ?_
  refine va_get (D := D) (ci := 5) (v := .int (nI mn)) (C := RX5) (T := TX5) (N := 24) hx hb hts (fun w h => List.mem_cons_of_mem _ (List.mem_append_right _ h)) hown hK hP 0 rfl rfl 0 (by decide) (hts (.fieldLink RX5 74 "FirstStatesModel" "nodes" "I") (List.mem_of_getElem? (i := 2) rfl)) (fun _ h9 => h9) rfl dX5_add_54 ?_
  refine lv_iconst (v := nI 1) hx hb dX5_add_57 (by decide) ?_
  refine lv_iadd hx hb dX5_add_58 ?_
  refine fx_eqi (nI_add _ _) ?_
  refine va_put (D := D) (ci := 5) (v := .int (nI (mn + 1))) (ty := .int) (C := RX5) (T := TX5) (N := 24) hx hb hts (fun w h => List.mem_cons_of_mem _ (List.mem_append_right _ h)) tyX5 tyX5_ok nmX5 hown hK hP hD hS 0 rfl rfl 0 (by decide) (hts (.fieldLink RX5 74 "FirstStatesModel" "nodes" "I") (List.mem_of_getElem? (i := 2) rfl)) (fun _ h9 => h9) rfl (by decide +kernel) rfl rfl (Nat.le_of_ble_eq_true rfl) dX5_add_59 (fun H locs hP hD hS => ?_)
  have hP : va_P D vwCl (wM z cI cZ (mn + 1) mi ms mtk (va_up mso mn so) (va_up mwh mn w) (va_up mfi mn a) (va_up mse mn b) (va_up mth mn cc) mpu mno mlo mbe mre mis mca mpa mva mle mst mtn mln mne mgo) H := hP
  have hD : va_D A (wM z cI cZ (mn + 1) mi ms mtk (va_up mso mn so) (va_up mwh mn w) (va_up mfi mn a) (va_up mse mn b) (va_up mth mn cc) mpu mno mlo mbe mre mis mca mpa mva mle mst mtn mln mne mgo) := fx_D hD rfl
  refine lv_aload_n hx hb dX5_add_62 rfl (lv_at hl 0 rfl) ?_
  refine fx_callV (As := []) (rest := []) ⟨hx, hb, hml, hown, hts⟩ (c_X5_begin l D cI cJ cZ z (mn + 1) mi ms mtk (va_up mso mn so) (va_up mwh mn w) (va_up mfi mn a) (va_up mse mn b) (va_up mth mn cc) mpu mno mlo mbe mre mis mca mpa mva mle mst mtn mln mne mgo (by first | assumption | omega)) (cwV 0 hts gX5_add_X5_begin rfl rfl rfl kv_X5_begin ⟨Nat.le_of_ble_eq_true rfl, Nat.le_of_ble_eq_true rfl⟩) hK hP hD hS hA hZ 0 rfl rfl rfl rfl hl.1 rfl (lv_room (Nat.le_of_ble_eq_true rfl)) dX5_add_63 ⟨Nat.zero_le _, Nat.zero_le _⟩ (fun u_1 H locs hu_1 hP hD hS => ?_)
  have hP : va_P D vwCl (wM z cI cZ (mn + 1) mi ms 0 (va_up mso mn so) (va_up mwh mn w) (va_up mfi mn a) (va_up mse mn b) (va_up mth mn cc) mpu mno mlo mbe mre mis (mixF (fun jj => decide (jj < 2 ^ ms)) mca 64) (mixF (fun _ => 2) mpa 6) mva mle mst mtn mln mne mgo) H := hP
  have hD : va_D A (wM z cI cZ (mn + 1) mi ms 0 (va_up mso mn so) (va_up mwh mn w) (va_up mfi mn a) (va_up mse mn b) (va_up mth mn cc) mpu mno mlo mbe mre mis (mixF (fun jj => decide (jj < 2 ^ ms)) mca 64) (mixF (fun _ => 2) mpa 6) mva mle mst mtn mln mne mgo) := fx_D hD rfl
  refine lv_aload_n hx hb dX5_add_66 rfl (lv_at hl 0 rfl) ?_
  refine va_get (D := D) (ci := 5) (v := .int (nI (mn + 1))) (C := RX5) (T := TX5) (N := 24) hx hb hts (fun w h => List.mem_cons_of_mem _ (List.mem_append_right _ h)) hown hK hP 0 rfl rfl 0 (by decide) (hts (.fieldLink RX5 74 "FirstStatesModel" "nodes" "I") (List.mem_of_getElem? (i := 2) rfl)) (fun _ h9 => h9) rfl dX5_add_67 ?_
  refine lv_iconst (v := nI 1) hx hb dX5_add_70 (by decide) ?_
  refine lv_isub hx hb dX5_add_71 ?_
  refine fx_eqi (x := (nI (mn + 1)) - (nI 1)) (y := nI mn) (by rw [pk_sub (by omega)]; rfl) ?_
  exact hri () _ H locs 72 ls .int rfl rfl trivial rfl hP hD hS dX5_add_72
set_option maxHeartbeats 4000000 in
set_option maxRecDepth 100000 in
theorem c_X5_input_f (l : Launch) (D : va_G) (cI cJ cZ : ClassId) (z : Nat → Nat) (mn : Nat) (mi : Nat) (ms : Nat) (mtk : Nat) (mso : Nat → Nat) (mwh : Nat → Nat) (mfi : Nat → Nat) (mse : Nat → Nat) (mth : Nat → Nat) (mpu : Nat → Nat) (mno : Nat → Nat) (mlo : Nat → Nat) (mbe : Nat → Nat) (mre : Nat → Nat) (mis : Nat → Bool) (mca : Nat → Bool) (mpa : Nat → Nat) (mva : Nat → Nat) (mle : Nat → Nat) (mst : Nat → Bool) (mtn : Nat → Bool) (mln : Nat → Nat) (mne : Nat → Int32) (mgo : Nat → Int32) (hmn : mn ≤ 32) (hmi : mi ≤ 4) (hf : mi = 4 ∨ mn = 32) : Ct l D cI cJ cZ yX5_input wsX5_input ({ frames := 0, cells := 0, slots := 0, locals := 0 } : Room) 0 0 [.ref (z 0)] (wM z cI cZ mn mi ms mtk mso mwh mfi mse mth mpu mno mlo mbe mre mis mca mpa mva mle mst mtn mln mne mgo) (S := Unit) (fun u => True) (fun u => some (.int (-4))) (fun u => (wM z cI cZ mn mi ms mtk mso mwh mfi mse mth mpu mno mlo mbe mre mis mca mpa mva mle mst mtn mln mne mgo)) := by
  refine Ct.ofW (cc := cX5_input) (maxL := 1) (ret := (some .int)) (R_C := RX5) (by decide +kernel) rfl rfl (Nat.le_of_ble_eq_true rfl) rfl ?_
  intro p e s m args below meth c A Q ls H locs hx hb hml hown hts hK hA hP hD hS hZ hl hri hrl hrv
  refine lv_aload_n hx hb dX5_input_0 rfl (lv_at hl 0 rfl) ?_
  refine va_get (D := D) (ci := 5) (v := .int (nI mi)) (C := RX5) (T := TX5) (N := 24) hx hb hts (fun w h => List.mem_cons_of_mem _ (List.mem_append_right _ h)) hown hK hP 0 rfl rfl 6 (by decide) (hts (.fieldLink RX5 88 "FirstStatesModel" "inputs" "I") (List.mem_of_getElem? (i := 1) rfl)) (fun _ h9 => h9) rfl dX5_input_1 ?_
  refine lv_iconst (v := nI 4) hx hb dX5_input_4 (by decide) ?_
  refine lv_icmp_eq (tgt := 17) hx hb dX5_input_5 (by decide) (fun c_5 => ?_) (fun c_5 => ?_)
  · have f_5 : mi = 4 := (nI_eq (a := mi) (b := 4) (by first | omega | exact b_and1 _ | exact b_ct _ _ (by omega) | exact b_andr _ (by omega)) (by first | omega | exact b_and1 _ | exact b_ct _ _ (by omega) | exact b_andr _ (by omega))).mp c_5
    refine lv_bipush (v := (-4)) hx hb dX5_input_17 (by decide) ?_
    exact hri () _ H locs 19 ls .int rfl rfl trivial rfl hP hD hS dX5_input_19
  have f_5 : ¬ mi = 4 := fun h => c_5 ((nI_eq (a := mi) (b := 4) (by first | omega | exact b_and1 _ | exact b_ct _ _ (by omega) | exact b_andr _ (by omega)) (by first | omega | exact b_and1 _ | exact b_ct _ _ (by omega) | exact b_andr _ (by omega))).mpr h)
  refine lv_aload_n hx hb dX5_input_8 rfl (lv_at hl 0 rfl) ?_
  refine va_get (D := D) (ci := 5) (v := .int (nI mn)) (C := RX5) (T := TX5) (N := 24) hx hb hts (fun w h => List.mem_cons_of_mem _ (List.mem_append_right _ h)) hown hK hP 0 rfl rfl 0 (by decide) (hts (.fieldLink RX5 74 "FirstStatesModel" "nodes" "I") (List.mem_of_getElem? (i := 2) rfl)) (fun _ h9 => h9) rfl dX5_input_9 ?_
  refine lv_bipush (v := nI 32) hx hb dX5_input_12 (by decide) ?_
  refine lv_icmp_ne (tgt := 20) hx hb dX5_input_14 (by decide) (fun c_14 => ?_) (fun c_14 => ?_)
  · have f_14 : ¬ mn = 32 := fun h => c_14 ((nI_eq (a := mn) (b := 32) (by first | omega | exact b_and1 _ | exact b_ct _ _ (by omega) | exact b_andr _ (by omega)) (by first | omega | exact b_and1 _ | exact b_ct _ _ (by omega) | exact b_andr _ (by omega))).mpr h)
    exfalso; omega
  have f_14 : mn = 32 := (nI_eq (a := mn) (b := 32) (by first | omega | exact b_and1 _ | exact b_ct _ _ (by omega) | exact b_andr _ (by omega)) (by first | omega | exact b_and1 _ | exact b_ct _ _ (by omega) | exact b_andr _ (by omega))).mp c_14
  refine lv_bipush (v := (-4)) hx hb dX5_input_17 (by decide) ?_
  exact hri () _ H locs 19 ls .int rfl rfl trivial rfl hP hD hS dX5_input_19
set_option maxHeartbeats 4000000 in
set_option maxRecDepth 100000 in
theorem c_X5_input (l : Launch) (D : va_G) (cI cJ cZ : ClassId) (z : Nat → Nat) (mn : Nat) (mi : Nat) (ms : Nat) (mtk : Nat) (mso : Nat → Nat) (mwh : Nat → Nat) (mfi : Nat → Nat) (mse : Nat → Nat) (mth : Nat → Nat) (mpu : Nat → Nat) (mno : Nat → Nat) (mlo : Nat → Nat) (mbe : Nat → Nat) (mre : Nat → Nat) (mis : Nat → Bool) (mca : Nat → Bool) (mpa : Nat → Nat) (mva : Nat → Nat) (mle : Nat → Nat) (mst : Nat → Bool) (mtn : Nat → Bool) (mln : Nat → Nat) (mne : Nat → Int32) (mgo : Nat → Int32) (hmn : mn < 32) (hmi : mi < 4) (hms : ms ≤ 6) : Ct l D cI cJ cZ yX5_input wsX5_input ({ frames := 2, cells := 0, slots := 0, locals := 46 } : Room) 0 0 [.ref (z 0)] (wM z cI cZ mn mi ms mtk mso mwh mfi mse mth mpu mno mlo mbe mre mis mca mpa mva mle mst mtn mln mne mgo) (S := Unit) (fun u => True) (fun u => some (.int (nI mn))) (fun u => (wM z cI cZ (mn + 1) (mi + 1) ms 0 (va_up mso mn 0) (va_up mwh mn mi) (va_up mfi mn 0) (va_up mse mn 0) (va_up mth mn 0) (va_up mpu mi 2) mno mlo mbe mre mis (mixF (fun jj => decide (jj < 2 ^ ms)) mca 64) (mixF (fun _ => 2) mpa 6) mva mle mst mtn mln mne mgo)) := by
  refine Ct.ofW (cc := cX5_input) (maxL := 1) (ret := (some .int)) (R_C := RX5) (by decide +kernel) rfl rfl (Nat.le_of_ble_eq_true rfl) rfl ?_
  intro p e s m args below meth c A Q ls H locs hx hb hml hown hts hK hA hP hD hS hZ hl hri hrl hrv
  refine lv_aload_n hx hb dX5_input_0 rfl (lv_at hl 0 rfl) ?_
  refine va_get (D := D) (ci := 5) (v := .int (nI mi)) (C := RX5) (T := TX5) (N := 24) hx hb hts (fun w h => List.mem_cons_of_mem _ (List.mem_append_right _ h)) hown hK hP 0 rfl rfl 6 (by decide) (hts (.fieldLink RX5 88 "FirstStatesModel" "inputs" "I") (List.mem_of_getElem? (i := 1) rfl)) (fun _ h9 => h9) rfl dX5_input_1 ?_
  refine lv_iconst (v := nI 4) hx hb dX5_input_4 (by decide) ?_
  refine lv_icmp_eq (tgt := 17) hx hb dX5_input_5 (by decide) (fun c_5 => ?_) (fun c_5 => ?_)
  · have f_5 : mi = 4 := (nI_eq (a := mi) (b := 4) (by first | omega | exact b_and1 _ | exact b_ct _ _ (by omega) | exact b_andr _ (by omega)) (by first | omega | exact b_and1 _ | exact b_ct _ _ (by omega) | exact b_andr _ (by omega))).mp c_5
    exfalso; omega
  have f_5 : ¬ mi = 4 := fun h => c_5 ((nI_eq (a := mi) (b := 4) (by first | omega | exact b_and1 _ | exact b_ct _ _ (by omega) | exact b_andr _ (by omega)) (by first | omega | exact b_and1 _ | exact b_ct _ _ (by omega) | exact b_andr _ (by omega))).mpr h)
  refine lv_aload_n hx hb dX5_input_8 rfl (lv_at hl 0 rfl) ?_
  refine va_get (D := D) (ci := 5) (v := .int (nI mn)) (C := RX5) (T := TX5) (N := 24) hx hb hts (fun w h => List.mem_cons_of_mem _ (List.mem_append_right _ h)) hown hK hP 0 rfl rfl 0 (by decide) (hts (.fieldLink RX5 74 "FirstStatesModel" "nodes" "I") (List.mem_of_getElem? (i := 2) rfl)) (fun _ h9 => h9) rfl dX5_input_9 ?_
  refine lv_bipush (v := nI 32) hx hb dX5_input_12 (by decide) ?_
  refine lv_icmp_ne (tgt := 20) hx hb dX5_input_14 (by decide) (fun c_14 => ?_) (fun c_14 => ?_)
  · have f_14 : ¬ mn = 32 := fun h => c_14 ((nI_eq (a := mn) (b := 32) (by first | omega | exact b_and1 _ | exact b_ct _ _ (by omega) | exact b_andr _ (by omega)) (by first | omega | exact b_and1 _ | exact b_ct _ _ (by omega) | exact b_andr _ (by omega))).mpr h)
    refine lv_aload_n hx hb dX5_input_20 rfl (lv_at hl 0 rfl) ?_
    refine va_get (D := D) (ci := 5) (v := .ref (z 6)) (C := RX5) (T := TX5) (N := 24) hx hb hts (fun w h => List.mem_cons_of_mem _ (List.mem_append_right _ h)) hown hK hP 0 rfl rfl 7 (by decide) (hts (.fieldLink RX5 25 "FirstStatesModel" "put" "[I") (List.mem_of_getElem? (i := 3) rfl)) (fun _ h9 => h9) rfl dX5_input_21 ?_
    refine lv_aload_n hx hb dX5_input_24 rfl (lv_at hl 0 rfl) ?_
    refine va_get (D := D) (ci := 5) (v := .int (nI mi)) (C := RX5) (T := TX5) (N := 24) hx hb hts (fun w h => List.mem_cons_of_mem _ (List.mem_append_right _ h)) hown hK hP 0 rfl rfl 6 (by decide) (hts (.fieldLink RX5 88 "FirstStatesModel" "inputs" "I") (List.mem_of_getElem? (i := 1) rfl)) (fun _ h9 => h9) rfl dX5_input_25 ?_
    refine lv_iconst (v := nI 2) hx hb dX5_input_28 (by decide) ?_
    refine fx_iast (ar := nI) hx hb hK hP hD hS 6 (f := mpu) (k := mi) (v := 2) rfl (by omega) (by decide) rfl dX5_input_29 (fun H locs hP hD hS => ?_)
    have hP : va_P D vwCl (wM z cI cZ mn mi ms mtk mso mwh mfi mse mth (va_up mpu mi 2) mno mlo mbe mre mis mca mpa mva mle mst mtn mln mne mgo) H := hP
    have hD : va_D A (wM z cI cZ mn mi ms mtk mso mwh mfi mse mth (va_up mpu mi 2) mno mlo mbe mre mis mca mpa mva mle mst mtn mln mne mgo) := fx_D hD rfl
    refine lv_aload_n hx hb dX5_input_30 rfl (lv_at hl 0 rfl) ?_
    refine lv_dup hx hb dX5_input_31 rfl ?_
    refine va_get (D := D) (ci := 5) (v := .int (nI mi)) (C := RX5) (T := TX5) (N := 24) hx hb hts (fun w h => List.mem_cons_of_mem _ (List.mem_append_right _ h)) hown hK hP 0 rfl rfl 6 (by decide) (hts (.fieldLink RX5 88 "FirstStatesModel" "inputs" "I") (List.mem_of_getElem? (i := 1) rfl)) (fun _ h9 => h9) rfl dX5_input_32 ?_
    refine lv_iconst (v := nI 1) hx hb dX5_input_35 (by decide) ?_
    refine lv_iadd hx hb dX5_input_36 ?_
    refine fx_eqi (nI_add _ _) ?_
    refine va_put (D := D) (ci := 5) (v := .int (nI (mi + 1))) (ty := .int) (C := RX5) (T := TX5) (N := 24) hx hb hts (fun w h => List.mem_cons_of_mem _ (List.mem_append_right _ h)) tyX5 tyX5_ok nmX5 hown hK hP hD hS 0 rfl rfl 6 (by decide) (hts (.fieldLink RX5 88 "FirstStatesModel" "inputs" "I") (List.mem_of_getElem? (i := 1) rfl)) (fun _ h9 => h9) rfl (by decide +kernel) rfl rfl (Nat.le_of_ble_eq_true rfl) dX5_input_37 (fun H locs hP hD hS => ?_)
    have hP : va_P D vwCl (wM z cI cZ mn (mi + 1) ms mtk mso mwh mfi mse mth (va_up mpu mi 2) mno mlo mbe mre mis mca mpa mva mle mst mtn mln mne mgo) H := hP
    have hD : va_D A (wM z cI cZ mn (mi + 1) ms mtk mso mwh mfi mse mth (va_up mpu mi 2) mno mlo mbe mre mis mca mpa mva mle mst mtn mln mne mgo) := fx_D hD rfl
    refine lv_aload_n hx hb dX5_input_40 rfl (lv_at hl 0 rfl) ?_
    refine lv_iconst (v := nI 0) hx hb dX5_input_41 (by decide) ?_
    refine lv_aload_n hx hb dX5_input_42 rfl (lv_at hl 0 rfl) ?_
    refine va_get (D := D) (ci := 5) (v := .int (nI (mi + 1))) (C := RX5) (T := TX5) (N := 24) hx hb hts (fun w h => List.mem_cons_of_mem _ (List.mem_append_right _ h)) hown hK hP 0 rfl rfl 6 (by decide) (hts (.fieldLink RX5 88 "FirstStatesModel" "inputs" "I") (List.mem_of_getElem? (i := 1) rfl)) (fun _ h9 => h9) rfl dX5_input_43 ?_
    refine lv_iconst (v := nI 1) hx hb dX5_input_46 (by decide) ?_
    refine lv_isub hx hb dX5_input_47 ?_
    refine fx_eqi (x := (nI (mi + 1)) - (nI 1)) (y := nI mi) (by rw [pk_sub (by omega)]; rfl) ?_
    refine lv_iconst (v := nI 0) hx hb dX5_input_48 (by decide) ?_
    refine lv_iconst (v := nI 0) hx hb dX5_input_49 (by decide) ?_
    refine lv_iconst (v := nI 0) hx hb dX5_input_50 (by decide) ?_
    refine fx_callV (As := [.int (nI 0), .int (nI mi), .int (nI 0), .int (nI 0), .int (nI 0)]) (rest := []) ⟨hx, hb, hml, hown, hts⟩ (c_X5_add l D cI cJ cZ z mn (mi + 1) ms mtk mso mwh mfi mse mth (va_up mpu mi 2) mno mlo mbe mre mis mca mpa mva mle mst mtn mln mne mgo 0 mi 0 0 0 (by first | assumption | omega) (by first | assumption | omega)) (cwV 5 hts gX5_input_X5_add rfl rfl rfl kv_X5_add ⟨Nat.le_of_ble_eq_true rfl, Nat.le_of_ble_eq_true rfl⟩) hK hP hD hS hA hZ 0 rfl rfl rfl rfl hl.1 rfl (lv_room (Nat.le_of_ble_eq_true rfl)) dX5_input_51 ⟨Nat.zero_le _, Nat.zero_le _⟩ (fun u_1 H locs hu_1 hP hD hS => ?_)
    have hP : va_P D vwCl (wM z cI cZ (mn + 1) (mi + 1) ms 0 (va_up mso mn 0) (va_up mwh mn mi) (va_up mfi mn 0) (va_up mse mn 0) (va_up mth mn 0) (va_up mpu mi 2) mno mlo mbe mre mis (mixF (fun jj => decide (jj < 2 ^ ms)) mca 64) (mixF (fun _ => 2) mpa 6) mva mle mst mtn mln mne mgo) H := hP
    have hD : va_D A (wM z cI cZ (mn + 1) (mi + 1) ms 0 (va_up mso mn 0) (va_up mwh mn mi) (va_up mfi mn 0) (va_up mse mn 0) (va_up mth mn 0) (va_up mpu mi 2) mno mlo mbe mre mis (mixF (fun jj => decide (jj < 2 ^ ms)) mca 64) (mixF (fun _ => 2) mpa 6) mva mle mst mtn mln mne mgo) := fx_D hD rfl
    exact hri () _ H locs 54 ls .int rfl rfl trivial rfl hP hD hS dX5_input_54
  have f_14 : mn = 32 := (nI_eq (a := mn) (b := 32) (by first | omega | exact b_and1 _ | exact b_ct _ _ (by omega) | exact b_andr _ (by omega)) (by first | omega | exact b_and1 _ | exact b_ct _ _ (by omega) | exact b_andr _ (by omega))).mp c_14
  exfalso; omega
set_option maxHeartbeats 4000000 in
set_option maxRecDepth 100000 in
theorem c_X5_fixed_o (l : Launch) (D : va_G) (cI cJ cZ : ClassId) (z : Nat → Nat) (mn : Nat) (mi : Nat) (ms : Nat) (mtk : Nat) (mso : Nat → Nat) (mwh : Nat → Nat) (mfi : Nat → Nat) (mse : Nat → Nat) (mth : Nat → Nat) (mpu : Nat → Nat) (mno : Nat → Nat) (mlo : Nat → Nat) (mbe : Nat → Nat) (mre : Nat → Nat) (mis : Nat → Bool) (mca : Nat → Bool) (mpa : Nat → Nat) (mva : Nat → Nat) (mle : Nat → Nat) (mst : Nat → Bool) (mtn : Nat → Bool) (mln : Nat → Nat) (mne : Nat → Int32) (mgo : Nat → Int32) (x : Int32) (hx0 : bitB x = false) : Ct l D cI cJ cZ yX5_fixed wsX5_fixed ({ frames := 1, cells := 0, slots := 0, locals := 22 } : Room) 0 0 [.ref (z 0), .int x] (wM z cI cZ mn mi ms mtk mso mwh mfi mse mth mpu mno mlo mbe mre mis mca mpa mva mle mst mtn mln mne mgo) (S := Unit) (fun u => True) (fun u => some (.int (-2))) (fun u => (wM z cI cZ mn mi ms mtk mso mwh mfi mse mth mpu mno mlo mbe mre mis mca mpa mva mle mst mtn mln mne mgo)) := by
  refine Ct.ofW (cc := cX5_fixed) (maxL := 2) (ret := (some .int)) (R_C := RX5) (by decide +kernel) rfl rfl (Nat.le_of_ble_eq_true rfl) rfl ?_
  intro p e s m args below meth c A Q ls H locs hx hb hml hown hts hK hA hP hD hS hZ hl hri hrl hrv
  refine lv_iload_n hx hb dX5_fixed_0 rfl (lv_at hl 1 rfl) ?_
  refine lv_iconst (v := nI 0) hx hb dX5_fixed_1 (by decide) ?_
  refine lv_iconst (v := nI 1) hx hb dX5_fixed_2 (by decide) ?_
  refine fx_callS (As := [.int x, .int (nI 0), .int (nI 1)]) (rest := []) ⟨hx, hb, hml, hown, hts⟩ (c_X5_in l D cI cJ cZ (wM z cI cZ mn mi ms mtk mso mwh mfi mse mth mpu mno mlo mbe mre mis mca mpa mva mle mst mtn mln mne mgo) x (nI 0) (nI 1)) (va_cwS 3 hts gX5_fixed_X5_in rfl rfl rfl ks_X5_in ⟨Nat.le_of_ble_eq_true rfl, Nat.le_of_ble_eq_true rfl⟩) hK hP hD hS hA hZ rfl hl.1 rfl (lv_room (Nat.le_of_ble_eq_true rfl)) dX5_fixed_3 ⟨Nat.zero_le _, Nat.zero_le _⟩ (fun u_1 H locs hu_1 hP hD hS => ?_)
  refine lv_if_ne (tgt := 12) hx hb dX5_fixed_6 (by decide) (fun c_6 => ?_) (fun c_6 => ?_)
  · have f_6 : (inB x (nI 0) (nI 1)) = true := bI_n0.mp c_6
    exfalso; rw [inB_1, hx0] at f_6; cases f_6
  have f_6 : (inB x (nI 0) (nI 1)) = false := bI_0.mp c_6
  refine lv_bipush (v := (-2)) hx hb dX5_fixed_9 (by decide) ?_
  exact hri () _ H locs 11 ls .int rfl rfl trivial rfl hP hD hS dX5_fixed_11
set_option maxHeartbeats 4000000 in
set_option maxRecDepth 100000 in
theorem c_X5_fixed_f (l : Launch) (D : va_G) (cI cJ cZ : ClassId) (z : Nat → Nat) (mn : Nat) (mi : Nat) (ms : Nat) (mtk : Nat) (mso : Nat → Nat) (mwh : Nat → Nat) (mfi : Nat → Nat) (mse : Nat → Nat) (mth : Nat → Nat) (mpu : Nat → Nat) (mno : Nat → Nat) (mlo : Nat → Nat) (mbe : Nat → Nat) (mre : Nat → Nat) (mis : Nat → Bool) (mca : Nat → Bool) (mpa : Nat → Nat) (mva : Nat → Nat) (mle : Nat → Nat) (mst : Nat → Bool) (mtn : Nat → Bool) (mln : Nat → Nat) (mne : Nat → Int32) (mgo : Nat → Int32) (v : Nat) (hv : v ≤ 1) (hmn : mn = 32) : Ct l D cI cJ cZ yX5_fixed wsX5_fixed ({ frames := 1, cells := 0, slots := 0, locals := 22 } : Room) 0 0 [.ref (z 0), .int (nI v)] (wM z cI cZ mn mi ms mtk mso mwh mfi mse mth mpu mno mlo mbe mre mis mca mpa mva mle mst mtn mln mne mgo) (S := Unit) (fun u => True) (fun u => some (.int (-4))) (fun u => (wM z cI cZ mn mi ms mtk mso mwh mfi mse mth mpu mno mlo mbe mre mis mca mpa mva mle mst mtn mln mne mgo)) := by
  refine Ct.ofW (cc := cX5_fixed) (maxL := 2) (ret := (some .int)) (R_C := RX5) (by decide +kernel) rfl rfl (Nat.le_of_ble_eq_true rfl) rfl ?_
  intro p e s m args below meth c A Q ls H locs hx hb hml hown hts hK hA hP hD hS hZ hl hri hrl hrv
  refine lv_iload_n hx hb dX5_fixed_0 rfl (lv_at hl 1 rfl) ?_
  refine lv_iconst (v := nI 0) hx hb dX5_fixed_1 (by decide) ?_
  refine lv_iconst (v := nI 1) hx hb dX5_fixed_2 (by decide) ?_
  refine fx_callS (As := [.int (nI v), .int (nI 0), .int (nI 1)]) (rest := []) ⟨hx, hb, hml, hown, hts⟩ (c_X5_in l D cI cJ cZ (wM z cI cZ mn mi ms mtk mso mwh mfi mse mth mpu mno mlo mbe mre mis mca mpa mva mle mst mtn mln mne mgo) (nI v) (nI 0) (nI 1)) (va_cwS 3 hts gX5_fixed_X5_in rfl rfl rfl ks_X5_in ⟨Nat.le_of_ble_eq_true rfl, Nat.le_of_ble_eq_true rfl⟩) hK hP hD hS hA hZ rfl hl.1 rfl (lv_room (Nat.le_of_ble_eq_true rfl)) dX5_fixed_3 ⟨Nat.zero_le _, Nat.zero_le _⟩ (fun u_1 H locs hu_1 hP hD hS => ?_)
  refine lv_if_ne (tgt := 12) hx hb dX5_fixed_6 (by decide) (fun c_6 => ?_) (fun c_6 => ?_)
  · have f_6 : (inB (nI v) (nI 0) (nI 1)) = true := bI_n0.mp c_6
    refine lv_aload_n hx hb dX5_fixed_12 rfl (lv_at hl 0 rfl) ?_
    refine va_get (D := D) (ci := 5) (v := .int (nI mn)) (C := RX5) (T := TX5) (N := 24) hx hb hts (fun w h => List.mem_cons_of_mem _ (List.mem_append_right _ h)) hown hK hP 0 rfl rfl 0 (by decide) (hts (.fieldLink RX5 74 "FirstStatesModel" "nodes" "I") (List.mem_of_getElem? (i := 1) rfl)) (fun _ h9 => h9) rfl dX5_fixed_13 ?_
    refine lv_bipush (v := nI 32) hx hb dX5_fixed_16 (by decide) ?_
    refine lv_icmp_ne (tgt := 26) hx hb dX5_fixed_18 (by decide) (fun c_18 => ?_) (fun c_18 => ?_)
    · have f_18 : ¬ mn = 32 := fun h => c_18 ((nI_eq (a := mn) (b := 32) (by first | omega | exact b_and1 _ | exact b_ct _ _ (by omega) | exact b_andr _ (by omega)) (by first | omega | exact b_and1 _ | exact b_ct _ _ (by omega) | exact b_andr _ (by omega))).mpr h)
      exfalso; omega
    have f_18 : mn = 32 := (nI_eq (a := mn) (b := 32) (by first | omega | exact b_and1 _ | exact b_ct _ _ (by omega) | exact b_andr _ (by omega)) (by first | omega | exact b_and1 _ | exact b_ct _ _ (by omega) | exact b_andr _ (by omega))).mp c_18
    refine lv_bipush (v := (-4)) hx hb dX5_fixed_21 (by decide) ?_
    refine lv_goto (tgt := 35) hx hb dX5_fixed_23 (by decide) ?_
    exact hri () _ H locs 35 ls .int rfl rfl trivial rfl hP hD hS dX5_fixed_35
  have f_6 : (inB (nI v) (nI 0) (nI 1)) = false := bI_0.mp c_6
  exfalso; rw [inB_nI (by omega) (by omega) (by omega)] at f_6; simp at f_6; omega
set_option maxHeartbeats 4000000 in
set_option maxRecDepth 100000 in
theorem c_X5_fixed (l : Launch) (D : va_G) (cI cJ cZ : ClassId) (z : Nat → Nat) (mn : Nat) (mi : Nat) (ms : Nat) (mtk : Nat) (mso : Nat → Nat) (mwh : Nat → Nat) (mfi : Nat → Nat) (mse : Nat → Nat) (mth : Nat → Nat) (mpu : Nat → Nat) (mno : Nat → Nat) (mlo : Nat → Nat) (mbe : Nat → Nat) (mre : Nat → Nat) (mis : Nat → Bool) (mca : Nat → Bool) (mpa : Nat → Nat) (mva : Nat → Nat) (mle : Nat → Nat) (mst : Nat → Bool) (mtn : Nat → Bool) (mln : Nat → Nat) (mne : Nat → Int32) (mgo : Nat → Int32) (v : Nat) (hv : v ≤ 1) (hmn : mn < 32) (hms : ms ≤ 6) : Ct l D cI cJ cZ yX5_fixed wsX5_fixed ({ frames := 2, cells := 0, slots := 0, locals := 46 } : Room) 0 0 [.ref (z 0), .int (nI v)] (wM z cI cZ mn mi ms mtk mso mwh mfi mse mth mpu mno mlo mbe mre mis mca mpa mva mle mst mtn mln mne mgo) (S := Unit) (fun u => True) (fun u => some (.int (nI mn))) (fun u => (wM z cI cZ (mn + 1) mi ms 0 (va_up mso mn 1) (va_up mwh mn v) (va_up mfi mn 0) (va_up mse mn 0) (va_up mth mn 0) mpu mno mlo mbe mre mis (mixF (fun jj => decide (jj < 2 ^ ms)) mca 64) (mixF (fun _ => 2) mpa 6) mva mle mst mtn mln mne mgo)) := by
  refine Ct.ofW (cc := cX5_fixed) (maxL := 2) (ret := (some .int)) (R_C := RX5) (by decide +kernel) rfl rfl (Nat.le_of_ble_eq_true rfl) rfl ?_
  intro p e s m args below meth c A Q ls H locs hx hb hml hown hts hK hA hP hD hS hZ hl hri hrl hrv
  refine lv_iload_n hx hb dX5_fixed_0 rfl (lv_at hl 1 rfl) ?_
  refine lv_iconst (v := nI 0) hx hb dX5_fixed_1 (by decide) ?_
  refine lv_iconst (v := nI 1) hx hb dX5_fixed_2 (by decide) ?_
  refine fx_callS (As := [.int (nI v), .int (nI 0), .int (nI 1)]) (rest := []) ⟨hx, hb, hml, hown, hts⟩ (c_X5_in l D cI cJ cZ (wM z cI cZ mn mi ms mtk mso mwh mfi mse mth mpu mno mlo mbe mre mis mca mpa mva mle mst mtn mln mne mgo) (nI v) (nI 0) (nI 1)) (va_cwS 3 hts gX5_fixed_X5_in rfl rfl rfl ks_X5_in ⟨Nat.le_of_ble_eq_true rfl, Nat.le_of_ble_eq_true rfl⟩) hK hP hD hS hA hZ rfl hl.1 rfl (lv_room (Nat.le_of_ble_eq_true rfl)) dX5_fixed_3 ⟨Nat.zero_le _, Nat.zero_le _⟩ (fun u_1 H locs hu_1 hP hD hS => ?_)
  refine lv_if_ne (tgt := 12) hx hb dX5_fixed_6 (by decide) (fun c_6 => ?_) (fun c_6 => ?_)
  · have f_6 : (inB (nI v) (nI 0) (nI 1)) = true := bI_n0.mp c_6
    refine lv_aload_n hx hb dX5_fixed_12 rfl (lv_at hl 0 rfl) ?_
    refine va_get (D := D) (ci := 5) (v := .int (nI mn)) (C := RX5) (T := TX5) (N := 24) hx hb hts (fun w h => List.mem_cons_of_mem _ (List.mem_append_right _ h)) hown hK hP 0 rfl rfl 0 (by decide) (hts (.fieldLink RX5 74 "FirstStatesModel" "nodes" "I") (List.mem_of_getElem? (i := 1) rfl)) (fun _ h9 => h9) rfl dX5_fixed_13 ?_
    refine lv_bipush (v := nI 32) hx hb dX5_fixed_16 (by decide) ?_
    refine lv_icmp_ne (tgt := 26) hx hb dX5_fixed_18 (by decide) (fun c_18 => ?_) (fun c_18 => ?_)
    · have f_18 : ¬ mn = 32 := fun h => c_18 ((nI_eq (a := mn) (b := 32) (by first | omega | exact b_and1 _ | exact b_ct _ _ (by omega) | exact b_andr _ (by omega)) (by first | omega | exact b_and1 _ | exact b_ct _ _ (by omega) | exact b_andr _ (by omega))).mpr h)
      refine lv_aload_n hx hb dX5_fixed_26 rfl (lv_at hl 0 rfl) ?_
      refine lv_iconst (v := nI 1) hx hb dX5_fixed_27 (by decide) ?_
      refine lv_iload_n hx hb dX5_fixed_28 rfl (lv_at hl 1 rfl) ?_
      refine lv_iconst (v := nI 0) hx hb dX5_fixed_29 (by decide) ?_
      refine lv_iconst (v := nI 0) hx hb dX5_fixed_30 (by decide) ?_
      refine lv_iconst (v := nI 0) hx hb dX5_fixed_31 (by decide) ?_
      refine fx_callV (As := [.int (nI 1), .int (nI v), .int (nI 0), .int (nI 0), .int (nI 0)]) (rest := []) ⟨hx, hb, hml, hown, hts⟩ (c_X5_add l D cI cJ cZ z mn mi ms mtk mso mwh mfi mse mth mpu mno mlo mbe mre mis mca mpa mva mle mst mtn mln mne mgo 1 v 0 0 0 (by first | assumption | omega) (by first | assumption | omega)) (cwV 5 hts gX5_fixed_X5_add rfl rfl rfl kv_X5_add ⟨Nat.le_of_ble_eq_true rfl, Nat.le_of_ble_eq_true rfl⟩) hK hP hD hS hA hZ 0 rfl rfl rfl rfl hl.1 rfl (lv_room (Nat.le_of_ble_eq_true rfl)) dX5_fixed_32 ⟨Nat.zero_le _, Nat.zero_le _⟩ (fun u_2 H locs hu_2 hP hD hS => ?_)
      have hP : va_P D vwCl (wM z cI cZ (mn + 1) mi ms 0 (va_up mso mn 1) (va_up mwh mn v) (va_up mfi mn 0) (va_up mse mn 0) (va_up mth mn 0) mpu mno mlo mbe mre mis (mixF (fun jj => decide (jj < 2 ^ ms)) mca 64) (mixF (fun _ => 2) mpa 6) mva mle mst mtn mln mne mgo) H := hP
      have hD : va_D A (wM z cI cZ (mn + 1) mi ms 0 (va_up mso mn 1) (va_up mwh mn v) (va_up mfi mn 0) (va_up mse mn 0) (va_up mth mn 0) mpu mno mlo mbe mre mis (mixF (fun jj => decide (jj < 2 ^ ms)) mca 64) (mixF (fun _ => 2) mpa 6) mva mle mst mtn mln mne mgo) := fx_D hD rfl
      exact hri () _ H locs 35 ls .int rfl rfl trivial rfl hP hD hS dX5_fixed_35
    have f_18 : mn = 32 := (nI_eq (a := mn) (b := 32) (by first | omega | exact b_and1 _ | exact b_ct _ _ (by omega) | exact b_andr _ (by omega)) (by first | omega | exact b_and1 _ | exact b_ct _ _ (by omega) | exact b_andr _ (by omega))).mp c_18
    exfalso; omega
  have f_6 : (inB (nI v) (nI 0) (nI 1)) = false := bI_0.mp c_6
  exfalso; rw [inB_nI (by omega) (by omega) (by omega)] at f_6; simp at f_6; omega
set_option maxHeartbeats 4000000 in
set_option maxRecDepth 100000 in
theorem c_X5_gate_o (l : Launch) (D : va_G) (cI cJ cZ : ClassId) (z : Nat → Nat) (mn : Nat) (mi : Nat) (ms : Nat) (mtk : Nat) (mso : Nat → Nat) (mwh : Nat → Nat) (mfi : Nat → Nat) (mse : Nat → Nat) (mth : Nat → Nat) (mpu : Nat → Nat) (mno : Nat → Nat) (mlo : Nat → Nat) (mbe : Nat → Nat) (mre : Nat → Nat) (mis : Nat → Bool) (mca : Nat → Bool) (mpa : Nat → Nat) (mva : Nat → Nat) (mle : Nat → Nat) (mst : Nat → Bool) (mtn : Nat → Bool) (mln : Nat → Nat) (mne : Nat → Int32) (mgo : Nat → Int32) (k : Int32) (x : Int32) (y : Int32) (zz : Int32) (hk : k < 0 ∨ ¬ k ≤ nI 4) : Ct l D cI cJ cZ yX5_gate wsX5_gate ({ frames := 1, cells := 0, slots := 0, locals := 22 } : Room) 0 0 [.ref (z 0), .int k, .int x, .int y, .int zz] (wM z cI cZ mn mi ms mtk mso mwh mfi mse mth mpu mno mlo mbe mre mis mca mpa mva mle mst mtn mln mne mgo) (S := Unit) (fun u => True) (fun u => some (.int (-2))) (fun u => (wM z cI cZ mn mi ms mtk mso mwh mfi mse mth mpu mno mlo mbe mre mis mca mpa mva mle mst mtn mln mne mgo)) := by
  refine Ct.ofW (cc := cX5_gate) (maxL := 5) (ret := (some .int)) (R_C := RX5) (by decide +kernel) rfl rfl (Nat.le_of_ble_eq_true rfl) rfl ?_
  intro p e s m args below meth c A Q ls H locs hx hb hml hown hts hK hA hP hD hS hZ hl hri hrl hrv
  refine lv_iload_n hx hb dX5_gate_0 rfl (lv_at hl 1 rfl) ?_
  refine lv_iconst (v := nI 0) hx hb dX5_gate_1 (by decide) ?_
  refine lv_iconst (v := nI 4) hx hb dX5_gate_2 (by decide) ?_
  refine fx_callS (As := [.int k, .int (nI 0), .int (nI 4)]) (rest := []) ⟨hx, hb, hml, hown, hts⟩ (c_X5_in l D cI cJ cZ (wM z cI cZ mn mi ms mtk mso mwh mfi mse mth mpu mno mlo mbe mre mis mca mpa mva mle mst mtn mln mne mgo) k (nI 0) (nI 4)) (va_cwS 3 hts gX5_gate_X5_in rfl rfl rfl ks_X5_in ⟨Nat.le_of_ble_eq_true rfl, Nat.le_of_ble_eq_true rfl⟩) hK hP hD hS hA hZ rfl hl.1 rfl (lv_room (Nat.le_of_ble_eq_true rfl)) dX5_gate_3 ⟨Nat.zero_le _, Nat.zero_le _⟩ (fun u_1 H locs hu_1 hP hD hS => ?_)
  refine lv_if_ne (tgt := 12) hx hb dX5_gate_6 (by decide) (fun c_6 => ?_) (fun c_6 => ?_)
  · have f_6 : (inB k (nI 0) (nI 4)) = true := bI_n0.mp c_6
    exfalso; rw [inB_04] at f_6; simp at f_6; rcases hk with h | h; exact absurd h (Int32.not_lt.mpr f_6.1); exact h f_6.2
  have f_6 : (inB k (nI 0) (nI 4)) = false := bI_0.mp c_6
  refine lv_bipush (v := (-2)) hx hb dX5_gate_9 (by decide) ?_
  exact hri () _ H locs 11 ls .int rfl rfl trivial rfl hP hD hS dX5_gate_11
set_option maxHeartbeats 4000000 in
set_option maxRecDepth 100000 in
theorem c_X5_gate_u (l : Launch) (D : va_G) (cI cJ cZ : ClassId) (z : Nat → Nat) (mn : Nat) (mi : Nat) (ms : Nat) (mtk : Nat) (mso : Nat → Nat) (mwh : Nat → Nat) (mfi : Nat → Nat) (mse : Nat → Nat) (mth : Nat → Nat) (mpu : Nat → Nat) (mno : Nat → Nat) (mlo : Nat → Nat) (mbe : Nat → Nat) (mre : Nat → Nat) (mis : Nat → Bool) (mca : Nat → Bool) (mpa : Nat → Nat) (mva : Nat → Nat) (mle : Nat → Nat) (mst : Nat → Bool) (mtn : Nat → Bool) (mln : Nat → Nat) (mne : Nat → Int32) (mgo : Nat → Int32) (k : Nat) (x : Int32) (y : Int32) (zz : Int32) (hmn : mn ≤ 32) (hk : k ≤ 4) (hu : (!isN mn x || (!decide (k = 0) && !isN mn y) || (decide (k = 4) && !isN mn zz)) = true) : Ct l D cI cJ cZ yX5_gate wsX5_gate ({ frames := 2, cells := 0, slots := 0, locals := 43 } : Room) 0 0 [.ref (z 0), .int (nI k), .int x, .int y, .int zz] (wM z cI cZ mn mi ms mtk mso mwh mfi mse mth mpu mno mlo mbe mre mis mca mpa mva mle mst mtn mln mne mgo) (S := Unit) (fun u => True) (fun u => some (.int (-1))) (fun u => (wM z cI cZ mn mi ms mtk mso mwh mfi mse mth mpu mno mlo mbe mre mis mca mpa mva mle mst mtn mln mne mgo)) := by
  refine Ct.ofW (cc := cX5_gate) (maxL := 5) (ret := (some .int)) (R_C := RX5) (by decide +kernel) rfl rfl (Nat.le_of_ble_eq_true rfl) rfl ?_
  intro p e s m args below meth c A Q ls H locs hx hb hml hown hts hK hA hP hD hS hZ hl hri hrl hrv
  refine lv_iload_n hx hb dX5_gate_0 rfl (lv_at hl 1 rfl) ?_
  refine lv_iconst (v := nI 0) hx hb dX5_gate_1 (by decide) ?_
  refine lv_iconst (v := nI 4) hx hb dX5_gate_2 (by decide) ?_
  refine fx_callS (As := [.int (nI k), .int (nI 0), .int (nI 4)]) (rest := []) ⟨hx, hb, hml, hown, hts⟩ (c_X5_in l D cI cJ cZ (wM z cI cZ mn mi ms mtk mso mwh mfi mse mth mpu mno mlo mbe mre mis mca mpa mva mle mst mtn mln mne mgo) (nI k) (nI 0) (nI 4)) (va_cwS 3 hts gX5_gate_X5_in rfl rfl rfl ks_X5_in ⟨Nat.le_of_ble_eq_true rfl, Nat.le_of_ble_eq_true rfl⟩) hK hP hD hS hA hZ rfl hl.1 rfl (lv_room (Nat.le_of_ble_eq_true rfl)) dX5_gate_3 ⟨Nat.zero_le _, Nat.zero_le _⟩ (fun u_1 H locs hu_1 hP hD hS => ?_)
  refine lv_if_ne (tgt := 12) hx hb dX5_gate_6 (by decide) (fun c_6 => ?_) (fun c_6 => ?_)
  · have f_6 : (inB (nI k) (nI 0) (nI 4)) = true := bI_n0.mp c_6
    refine lv_aload_n hx hb dX5_gate_12 rfl (lv_at hl 0 rfl) ?_
    refine lv_iload_n hx hb dX5_gate_13 rfl (lv_at hl 2 rfl) ?_
    refine fx_callV (As := [.int x]) (rest := []) ⟨hx, hb, hml, hown, hts⟩ (c_X5_isNode l D cI cJ cZ z mn mi ms mtk mso mwh mfi mse mth mpu mno mlo mbe mre mis mca mpa mva mle mst mtn mln mne mgo x (by first | assumption | omega)) (cwV 1 hts gX5_gate_X5_isNode rfl rfl rfl kv_X5_isNode ⟨Nat.le_of_ble_eq_true rfl, Nat.le_of_ble_eq_true rfl⟩) hK hP hD hS hA hZ 0 rfl rfl rfl rfl hl.1 rfl (lv_room (Nat.le_of_ble_eq_true rfl)) dX5_gate_14 ⟨Nat.zero_le _, Nat.zero_le _⟩ (fun u_2 H locs hu_2 hP hD hS => ?_)
    refine lv_if_eq (tgt := 46) hx hb dX5_gate_17 (by decide) (fun c_17 => ?_) (fun c_17 => ?_)
    · have f_17 : (isN mn x) = false := bI_0.mp c_17
      refine lv_iconst (v := (-1)) hx hb dX5_gate_46 (by decide) ?_
      exact hri () _ H locs 47 ls .int rfl rfl trivial rfl hP hD hS dX5_gate_47
    have f_17 : (isN mn x) = true := bI_n0.mp c_17
    refine lv_iload_n hx hb dX5_gate_20 rfl (lv_at hl 1 rfl) ?_
    refine lv_if_le (tgt := 32) hx hb dX5_gate_21 (by decide) (fun c_21 => ?_) (fun c_21 => ?_)
    · have f_21 : k ≤ 0 := (nI_leI (a := k) (b := 0) (by first | omega | exact b_and1 _ | exact b_ct _ _ (by omega) | exact b_andr _ (by omega)) (by first | omega | exact b_and1 _ | exact b_ct _ _ (by omega) | exact b_andr _ (by omega))).mp c_21
      refine lv_iload_n hx hb dX5_gate_32 rfl (lv_at hl 1 rfl) ?_
      refine lv_iconst (v := nI 4) hx hb dX5_gate_33 (by decide) ?_
      refine lv_icmp_ne (tgt := 48) hx hb dX5_gate_34 (by decide) (fun c_34 => ?_) (fun c_34 => ?_)
      · have f_34 : ¬ k = 4 := fun h => c_34 ((nI_eq (a := k) (b := 4) (by first | omega | exact b_and1 _ | exact b_ct _ _ (by omega) | exact b_andr _ (by omega)) (by first | omega | exact b_and1 _ | exact b_ct _ _ (by omega) | exact b_andr _ (by omega))).mpr h)
        exfalso; simp [f_17, f_34, show k = 0 by omega] at hu
      have f_34 : k = 4 := (nI_eq (a := k) (b := 4) (by first | omega | exact b_and1 _ | exact b_ct _ _ (by omega) | exact b_andr _ (by omega)) (by first | omega | exact b_and1 _ | exact b_ct _ _ (by omega) | exact b_andr _ (by omega))).mp c_34
      refine lv_aload_n hx hb dX5_gate_37 rfl (lv_at hl 0 rfl) ?_
      refine lv_iload hx hb dX5_gate_38 (lv_at hl 4 rfl) ?_
      refine fx_callV (As := [.int zz]) (rest := []) ⟨hx, hb, hml, hown, hts⟩ (c_X5_isNode l D cI cJ cZ z mn mi ms mtk mso mwh mfi mse mth mpu mno mlo mbe mre mis mca mpa mva mle mst mtn mln mne mgo zz (by first | assumption | omega)) (cwV 1 hts gX5_gate_X5_isNode rfl rfl rfl kv_X5_isNode ⟨Nat.le_of_ble_eq_true rfl, Nat.le_of_ble_eq_true rfl⟩) hK hP hD hS hA hZ 0 rfl rfl rfl rfl hl.1 rfl (lv_room (Nat.le_of_ble_eq_true rfl)) dX5_gate_40 ⟨Nat.zero_le _, Nat.zero_le _⟩ (fun u_3 H locs hu_3 hP hD hS => ?_)
      refine lv_if_ne (tgt := 48) hx hb dX5_gate_43 (by decide) (fun c_43 => ?_) (fun c_43 => ?_)
      · have f_43 : (isN mn zz) = true := bI_n0.mp c_43
        exfalso; omega
      have f_43 : (isN mn zz) = false := bI_0.mp c_43
      refine lv_iconst (v := (-1)) hx hb dX5_gate_46 (by decide) ?_
      exact hri () _ H locs 47 ls .int rfl rfl trivial rfl hP hD hS dX5_gate_47
    have f_21 : ¬ k ≤ 0 := fun h => c_21 ((nI_leI (a := k) (b := 0) (by first | omega | exact b_and1 _ | exact b_ct _ _ (by omega) | exact b_andr _ (by omega)) (by first | omega | exact b_and1 _ | exact b_ct _ _ (by omega) | exact b_andr _ (by omega))).mpr h)
    refine lv_aload_n hx hb dX5_gate_24 rfl (lv_at hl 0 rfl) ?_
    refine lv_iload_n hx hb dX5_gate_25 rfl (lv_at hl 3 rfl) ?_
    refine fx_callV (As := [.int y]) (rest := []) ⟨hx, hb, hml, hown, hts⟩ (c_X5_isNode l D cI cJ cZ z mn mi ms mtk mso mwh mfi mse mth mpu mno mlo mbe mre mis mca mpa mva mle mst mtn mln mne mgo y (by first | assumption | omega)) (cwV 1 hts gX5_gate_X5_isNode rfl rfl rfl kv_X5_isNode ⟨Nat.le_of_ble_eq_true rfl, Nat.le_of_ble_eq_true rfl⟩) hK hP hD hS hA hZ 0 rfl rfl rfl rfl hl.1 rfl (lv_room (Nat.le_of_ble_eq_true rfl)) dX5_gate_26 ⟨Nat.zero_le _, Nat.zero_le _⟩ (fun u_4 H locs hu_4 hP hD hS => ?_)
    refine lv_if_eq (tgt := 46) hx hb dX5_gate_29 (by decide) (fun c_29 => ?_) (fun c_29 => ?_)
    · have f_29 : (isN mn y) = false := bI_0.mp c_29
      refine lv_iconst (v := (-1)) hx hb dX5_gate_46 (by decide) ?_
      exact hri () _ H locs 47 ls .int rfl rfl trivial rfl hP hD hS dX5_gate_47
    have f_29 : (isN mn y) = true := bI_n0.mp c_29
    refine lv_iload_n hx hb dX5_gate_32 rfl (lv_at hl 1 rfl) ?_
    refine lv_iconst (v := nI 4) hx hb dX5_gate_33 (by decide) ?_
    refine lv_icmp_ne (tgt := 48) hx hb dX5_gate_34 (by decide) (fun c_34 => ?_) (fun c_34 => ?_)
    · have f_34 : ¬ k = 4 := fun h => c_34 ((nI_eq (a := k) (b := 4) (by first | omega | exact b_and1 _ | exact b_ct _ _ (by omega) | exact b_andr _ (by omega)) (by first | omega | exact b_and1 _ | exact b_ct _ _ (by omega) | exact b_andr _ (by omega))).mpr h)
      exfalso; simp [f_17, f_29, f_34, show ¬ k = 0 by omega] at hu
    have f_34 : k = 4 := (nI_eq (a := k) (b := 4) (by first | omega | exact b_and1 _ | exact b_ct _ _ (by omega) | exact b_andr _ (by omega)) (by first | omega | exact b_and1 _ | exact b_ct _ _ (by omega) | exact b_andr _ (by omega))).mp c_34
    refine lv_aload_n hx hb dX5_gate_37 rfl (lv_at hl 0 rfl) ?_
    refine lv_iload hx hb dX5_gate_38 (lv_at hl 4 rfl) ?_
    refine fx_callV (As := [.int zz]) (rest := []) ⟨hx, hb, hml, hown, hts⟩ (c_X5_isNode l D cI cJ cZ z mn mi ms mtk mso mwh mfi mse mth mpu mno mlo mbe mre mis mca mpa mva mle mst mtn mln mne mgo zz (by first | assumption | omega)) (cwV 1 hts gX5_gate_X5_isNode rfl rfl rfl kv_X5_isNode ⟨Nat.le_of_ble_eq_true rfl, Nat.le_of_ble_eq_true rfl⟩) hK hP hD hS hA hZ 0 rfl rfl rfl rfl hl.1 rfl (lv_room (Nat.le_of_ble_eq_true rfl)) dX5_gate_40 ⟨Nat.zero_le _, Nat.zero_le _⟩ (fun u_5 H locs hu_5 hP hD hS => ?_)
    refine lv_if_ne (tgt := 48) hx hb dX5_gate_43 (by decide) (fun c_43 => ?_) (fun c_43 => ?_)
    · have f_43 : (isN mn zz) = true := bI_n0.mp c_43
      exfalso; simp [f_17, f_29, f_34, f_43, show ¬ k = 0 by omega] at hu
    have f_43 : (isN mn zz) = false := bI_0.mp c_43
    refine lv_iconst (v := (-1)) hx hb dX5_gate_46 (by decide) ?_
    exact hri () _ H locs 47 ls .int rfl rfl trivial rfl hP hD hS dX5_gate_47
  have f_6 : (inB (nI k) (nI 0) (nI 4)) = false := bI_0.mp c_6
  exfalso; rw [inB_nI (by omega) (by omega) (by omega)] at f_6; simp at f_6; omega
set_option maxHeartbeats 4000000 in
set_option maxRecDepth 100000 in
theorem c_X5_gate_f (l : Launch) (D : va_G) (cI cJ cZ : ClassId) (z : Nat → Nat) (mn : Nat) (mi : Nat) (ms : Nat) (mtk : Nat) (mso : Nat → Nat) (mwh : Nat → Nat) (mfi : Nat → Nat) (mse : Nat → Nat) (mth : Nat → Nat) (mpu : Nat → Nat) (mno : Nat → Nat) (mlo : Nat → Nat) (mbe : Nat → Nat) (mre : Nat → Nat) (mis : Nat → Bool) (mca : Nat → Bool) (mpa : Nat → Nat) (mva : Nat → Nat) (mle : Nat → Nat) (mst : Nat → Bool) (mtn : Nat → Bool) (mln : Nat → Nat) (mne : Nat → Int32) (mgo : Nat → Int32) (k : Nat) (x : Int32) (y : Int32) (zz : Int32) (hmn : mn = 32) (hk : k ≤ 4) (hu : (!isN mn x || (!decide (k = 0) && !isN mn y) || (decide (k = 4) && !isN mn zz)) = false) : Ct l D cI cJ cZ yX5_gate wsX5_gate ({ frames := 2, cells := 0, slots := 0, locals := 43 } : Room) 0 0 [.ref (z 0), .int (nI k), .int x, .int y, .int zz] (wM z cI cZ mn mi ms mtk mso mwh mfi mse mth mpu mno mlo mbe mre mis mca mpa mva mle mst mtn mln mne mgo) (S := Unit) (fun u => True) (fun u => some (.int (-4))) (fun u => (wM z cI cZ mn mi ms mtk mso mwh mfi mse mth mpu mno mlo mbe mre mis mca mpa mva mle mst mtn mln mne mgo)) := by
  refine Ct.ofW (cc := cX5_gate) (maxL := 5) (ret := (some .int)) (R_C := RX5) (by decide +kernel) rfl rfl (Nat.le_of_ble_eq_true rfl) rfl ?_
  intro p e s m args below meth c A Q ls H locs hx hb hml hown hts hK hA hP hD hS hZ hl hri hrl hrv
  refine lv_iload_n hx hb dX5_gate_0 rfl (lv_at hl 1 rfl) ?_
  refine lv_iconst (v := nI 0) hx hb dX5_gate_1 (by decide) ?_
  refine lv_iconst (v := nI 4) hx hb dX5_gate_2 (by decide) ?_
  refine fx_callS (As := [.int (nI k), .int (nI 0), .int (nI 4)]) (rest := []) ⟨hx, hb, hml, hown, hts⟩ (c_X5_in l D cI cJ cZ (wM z cI cZ mn mi ms mtk mso mwh mfi mse mth mpu mno mlo mbe mre mis mca mpa mva mle mst mtn mln mne mgo) (nI k) (nI 0) (nI 4)) (va_cwS 3 hts gX5_gate_X5_in rfl rfl rfl ks_X5_in ⟨Nat.le_of_ble_eq_true rfl, Nat.le_of_ble_eq_true rfl⟩) hK hP hD hS hA hZ rfl hl.1 rfl (lv_room (Nat.le_of_ble_eq_true rfl)) dX5_gate_3 ⟨Nat.zero_le _, Nat.zero_le _⟩ (fun u_1 H locs hu_1 hP hD hS => ?_)
  refine lv_if_ne (tgt := 12) hx hb dX5_gate_6 (by decide) (fun c_6 => ?_) (fun c_6 => ?_)
  · have f_6 : (inB (nI k) (nI 0) (nI 4)) = true := bI_n0.mp c_6
    refine lv_aload_n hx hb dX5_gate_12 rfl (lv_at hl 0 rfl) ?_
    refine lv_iload_n hx hb dX5_gate_13 rfl (lv_at hl 2 rfl) ?_
    refine fx_callV (As := [.int x]) (rest := []) ⟨hx, hb, hml, hown, hts⟩ (c_X5_isNode l D cI cJ cZ z mn mi ms mtk mso mwh mfi mse mth mpu mno mlo mbe mre mis mca mpa mva mle mst mtn mln mne mgo x (by first | assumption | omega)) (cwV 1 hts gX5_gate_X5_isNode rfl rfl rfl kv_X5_isNode ⟨Nat.le_of_ble_eq_true rfl, Nat.le_of_ble_eq_true rfl⟩) hK hP hD hS hA hZ 0 rfl rfl rfl rfl hl.1 rfl (lv_room (Nat.le_of_ble_eq_true rfl)) dX5_gate_14 ⟨Nat.zero_le _, Nat.zero_le _⟩ (fun u_2 H locs hu_2 hP hD hS => ?_)
    refine lv_if_eq (tgt := 46) hx hb dX5_gate_17 (by decide) (fun c_17 => ?_) (fun c_17 => ?_)
    · have f_17 : (isN mn x) = false := bI_0.mp c_17
      exfalso; simp [f_17] at hu
    have f_17 : (isN mn x) = true := bI_n0.mp c_17
    refine lv_iload_n hx hb dX5_gate_20 rfl (lv_at hl 1 rfl) ?_
    refine lv_if_le (tgt := 32) hx hb dX5_gate_21 (by decide) (fun c_21 => ?_) (fun c_21 => ?_)
    · have f_21 : k ≤ 0 := (nI_leI (a := k) (b := 0) (by first | omega | exact b_and1 _ | exact b_ct _ _ (by omega) | exact b_andr _ (by omega)) (by first | omega | exact b_and1 _ | exact b_ct _ _ (by omega) | exact b_andr _ (by omega))).mp c_21
      refine lv_iload_n hx hb dX5_gate_32 rfl (lv_at hl 1 rfl) ?_
      refine lv_iconst (v := nI 4) hx hb dX5_gate_33 (by decide) ?_
      refine lv_icmp_ne (tgt := 48) hx hb dX5_gate_34 (by decide) (fun c_34 => ?_) (fun c_34 => ?_)
      · have f_34 : ¬ k = 4 := fun h => c_34 ((nI_eq (a := k) (b := 4) (by first | omega | exact b_and1 _ | exact b_ct _ _ (by omega) | exact b_andr _ (by omega)) (by first | omega | exact b_and1 _ | exact b_ct _ _ (by omega) | exact b_andr _ (by omega))).mpr h)
        refine lv_aload_n hx hb dX5_gate_48 rfl (lv_at hl 0 rfl) ?_
        refine va_get (D := D) (ci := 5) (v := .int (nI mn)) (C := RX5) (T := TX5) (N := 24) hx hb hts (fun w h => List.mem_cons_of_mem _ (List.mem_append_right _ h)) hown hK hP 0 rfl rfl 0 (by decide) (hts (.fieldLink RX5 74 "FirstStatesModel" "nodes" "I") (List.mem_of_getElem? (i := 1) rfl)) (fun _ h9 => h9) rfl dX5_gate_49 ?_
        refine lv_bipush (v := nI 32) hx hb dX5_gate_52 (by decide) ?_
        refine lv_icmp_ne (tgt := 62) hx hb dX5_gate_54 (by decide) (fun c_54 => ?_) (fun c_54 => ?_)
        · have f_54 : ¬ mn = 32 := fun h => c_54 ((nI_eq (a := mn) (b := 32) (by first | omega | exact b_and1 _ | exact b_ct _ _ (by omega) | exact b_andr _ (by omega)) (by first | omega | exact b_and1 _ | exact b_ct _ _ (by omega) | exact b_andr _ (by omega))).mpr h)
          exfalso; omega
        have f_54 : mn = 32 := (nI_eq (a := mn) (b := 32) (by first | omega | exact b_and1 _ | exact b_ct _ _ (by omega) | exact b_andr _ (by omega)) (by first | omega | exact b_and1 _ | exact b_ct _ _ (by omega) | exact b_andr _ (by omega))).mp c_54
        refine lv_bipush (v := (-4)) hx hb dX5_gate_57 (by decide) ?_
        refine lv_goto (tgt := 89) hx hb dX5_gate_59 (by decide) ?_
        exact hri () _ H locs 89 ls .int rfl rfl trivial rfl hP hD hS dX5_gate_89
      have f_34 : k = 4 := (nI_eq (a := k) (b := 4) (by first | omega | exact b_and1 _ | exact b_ct _ _ (by omega) | exact b_andr _ (by omega)) (by first | omega | exact b_and1 _ | exact b_ct _ _ (by omega) | exact b_andr _ (by omega))).mp c_34
      refine lv_aload_n hx hb dX5_gate_37 rfl (lv_at hl 0 rfl) ?_
      refine lv_iload hx hb dX5_gate_38 (lv_at hl 4 rfl) ?_
      refine fx_callV (As := [.int zz]) (rest := []) ⟨hx, hb, hml, hown, hts⟩ (c_X5_isNode l D cI cJ cZ z mn mi ms mtk mso mwh mfi mse mth mpu mno mlo mbe mre mis mca mpa mva mle mst mtn mln mne mgo zz (by first | assumption | omega)) (cwV 1 hts gX5_gate_X5_isNode rfl rfl rfl kv_X5_isNode ⟨Nat.le_of_ble_eq_true rfl, Nat.le_of_ble_eq_true rfl⟩) hK hP hD hS hA hZ 0 rfl rfl rfl rfl hl.1 rfl (lv_room (Nat.le_of_ble_eq_true rfl)) dX5_gate_40 ⟨Nat.zero_le _, Nat.zero_le _⟩ (fun u_3 H locs hu_3 hP hD hS => ?_)
      refine lv_if_ne (tgt := 48) hx hb dX5_gate_43 (by decide) (fun c_43 => ?_) (fun c_43 => ?_)
      · have f_43 : (isN mn zz) = true := bI_n0.mp c_43
        refine lv_aload_n hx hb dX5_gate_48 rfl (lv_at hl 0 rfl) ?_
        refine va_get (D := D) (ci := 5) (v := .int (nI mn)) (C := RX5) (T := TX5) (N := 24) hx hb hts (fun w h => List.mem_cons_of_mem _ (List.mem_append_right _ h)) hown hK hP 0 rfl rfl 0 (by decide) (hts (.fieldLink RX5 74 "FirstStatesModel" "nodes" "I") (List.mem_of_getElem? (i := 1) rfl)) (fun _ h9 => h9) rfl dX5_gate_49 ?_
        refine lv_bipush (v := nI 32) hx hb dX5_gate_52 (by decide) ?_
        refine lv_icmp_ne (tgt := 62) hx hb dX5_gate_54 (by decide) (fun c_54 => ?_) (fun c_54 => ?_)
        · have f_54 : ¬ mn = 32 := fun h => c_54 ((nI_eq (a := mn) (b := 32) (by first | omega | exact b_and1 _ | exact b_ct _ _ (by omega) | exact b_andr _ (by omega)) (by first | omega | exact b_and1 _ | exact b_ct _ _ (by omega) | exact b_andr _ (by omega))).mpr h)
          exfalso; omega
        have f_54 : mn = 32 := (nI_eq (a := mn) (b := 32) (by first | omega | exact b_and1 _ | exact b_ct _ _ (by omega) | exact b_andr _ (by omega)) (by first | omega | exact b_and1 _ | exact b_ct _ _ (by omega) | exact b_andr _ (by omega))).mp c_54
        refine lv_bipush (v := (-4)) hx hb dX5_gate_57 (by decide) ?_
        refine lv_goto (tgt := 89) hx hb dX5_gate_59 (by decide) ?_
        exact hri () _ H locs 89 ls .int rfl rfl trivial rfl hP hD hS dX5_gate_89
      have f_43 : (isN mn zz) = false := bI_0.mp c_43
      exfalso; simp [f_43, f_34] at hu
    have f_21 : ¬ k ≤ 0 := fun h => c_21 ((nI_leI (a := k) (b := 0) (by first | omega | exact b_and1 _ | exact b_ct _ _ (by omega) | exact b_andr _ (by omega)) (by first | omega | exact b_and1 _ | exact b_ct _ _ (by omega) | exact b_andr _ (by omega))).mpr h)
    refine lv_aload_n hx hb dX5_gate_24 rfl (lv_at hl 0 rfl) ?_
    refine lv_iload_n hx hb dX5_gate_25 rfl (lv_at hl 3 rfl) ?_
    refine fx_callV (As := [.int y]) (rest := []) ⟨hx, hb, hml, hown, hts⟩ (c_X5_isNode l D cI cJ cZ z mn mi ms mtk mso mwh mfi mse mth mpu mno mlo mbe mre mis mca mpa mva mle mst mtn mln mne mgo y (by first | assumption | omega)) (cwV 1 hts gX5_gate_X5_isNode rfl rfl rfl kv_X5_isNode ⟨Nat.le_of_ble_eq_true rfl, Nat.le_of_ble_eq_true rfl⟩) hK hP hD hS hA hZ 0 rfl rfl rfl rfl hl.1 rfl (lv_room (Nat.le_of_ble_eq_true rfl)) dX5_gate_26 ⟨Nat.zero_le _, Nat.zero_le _⟩ (fun u_4 H locs hu_4 hP hD hS => ?_)
    refine lv_if_eq (tgt := 46) hx hb dX5_gate_29 (by decide) (fun c_29 => ?_) (fun c_29 => ?_)
    · have f_29 : (isN mn y) = false := bI_0.mp c_29
      exfalso; simp [f_29, show ¬ k = 0 by omega] at hu
    have f_29 : (isN mn y) = true := bI_n0.mp c_29
    refine lv_iload_n hx hb dX5_gate_32 rfl (lv_at hl 1 rfl) ?_
    refine lv_iconst (v := nI 4) hx hb dX5_gate_33 (by decide) ?_
    refine lv_icmp_ne (tgt := 48) hx hb dX5_gate_34 (by decide) (fun c_34 => ?_) (fun c_34 => ?_)
    · have f_34 : ¬ k = 4 := fun h => c_34 ((nI_eq (a := k) (b := 4) (by first | omega | exact b_and1 _ | exact b_ct _ _ (by omega) | exact b_andr _ (by omega)) (by first | omega | exact b_and1 _ | exact b_ct _ _ (by omega) | exact b_andr _ (by omega))).mpr h)
      refine lv_aload_n hx hb dX5_gate_48 rfl (lv_at hl 0 rfl) ?_
      refine va_get (D := D) (ci := 5) (v := .int (nI mn)) (C := RX5) (T := TX5) (N := 24) hx hb hts (fun w h => List.mem_cons_of_mem _ (List.mem_append_right _ h)) hown hK hP 0 rfl rfl 0 (by decide) (hts (.fieldLink RX5 74 "FirstStatesModel" "nodes" "I") (List.mem_of_getElem? (i := 1) rfl)) (fun _ h9 => h9) rfl dX5_gate_49 ?_
      refine lv_bipush (v := nI 32) hx hb dX5_gate_52 (by decide) ?_
      refine lv_icmp_ne (tgt := 62) hx hb dX5_gate_54 (by decide) (fun c_54 => ?_) (fun c_54 => ?_)
      · have f_54 : ¬ mn = 32 := fun h => c_54 ((nI_eq (a := mn) (b := 32) (by first | omega | exact b_and1 _ | exact b_ct _ _ (by omega) | exact b_andr _ (by omega)) (by first | omega | exact b_and1 _ | exact b_ct _ _ (by omega) | exact b_andr _ (by omega))).mpr h)
        exfalso; omega
      have f_54 : mn = 32 := (nI_eq (a := mn) (b := 32) (by first | omega | exact b_and1 _ | exact b_ct _ _ (by omega) | exact b_andr _ (by omega)) (by first | omega | exact b_and1 _ | exact b_ct _ _ (by omega) | exact b_andr _ (by omega))).mp c_54
      refine lv_bipush (v := (-4)) hx hb dX5_gate_57 (by decide) ?_
      refine lv_goto (tgt := 89) hx hb dX5_gate_59 (by decide) ?_
      exact hri () _ H locs 89 ls .int rfl rfl trivial rfl hP hD hS dX5_gate_89
    have f_34 : k = 4 := (nI_eq (a := k) (b := 4) (by first | omega | exact b_and1 _ | exact b_ct _ _ (by omega) | exact b_andr _ (by omega)) (by first | omega | exact b_and1 _ | exact b_ct _ _ (by omega) | exact b_andr _ (by omega))).mp c_34
    refine lv_aload_n hx hb dX5_gate_37 rfl (lv_at hl 0 rfl) ?_
    refine lv_iload hx hb dX5_gate_38 (lv_at hl 4 rfl) ?_
    refine fx_callV (As := [.int zz]) (rest := []) ⟨hx, hb, hml, hown, hts⟩ (c_X5_isNode l D cI cJ cZ z mn mi ms mtk mso mwh mfi mse mth mpu mno mlo mbe mre mis mca mpa mva mle mst mtn mln mne mgo zz (by first | assumption | omega)) (cwV 1 hts gX5_gate_X5_isNode rfl rfl rfl kv_X5_isNode ⟨Nat.le_of_ble_eq_true rfl, Nat.le_of_ble_eq_true rfl⟩) hK hP hD hS hA hZ 0 rfl rfl rfl rfl hl.1 rfl (lv_room (Nat.le_of_ble_eq_true rfl)) dX5_gate_40 ⟨Nat.zero_le _, Nat.zero_le _⟩ (fun u_5 H locs hu_5 hP hD hS => ?_)
    refine lv_if_ne (tgt := 48) hx hb dX5_gate_43 (by decide) (fun c_43 => ?_) (fun c_43 => ?_)
    · have f_43 : (isN mn zz) = true := bI_n0.mp c_43
      refine lv_aload_n hx hb dX5_gate_48 rfl (lv_at hl 0 rfl) ?_
      refine va_get (D := D) (ci := 5) (v := .int (nI mn)) (C := RX5) (T := TX5) (N := 24) hx hb hts (fun w h => List.mem_cons_of_mem _ (List.mem_append_right _ h)) hown hK hP 0 rfl rfl 0 (by decide) (hts (.fieldLink RX5 74 "FirstStatesModel" "nodes" "I") (List.mem_of_getElem? (i := 1) rfl)) (fun _ h9 => h9) rfl dX5_gate_49 ?_
      refine lv_bipush (v := nI 32) hx hb dX5_gate_52 (by decide) ?_
      refine lv_icmp_ne (tgt := 62) hx hb dX5_gate_54 (by decide) (fun c_54 => ?_) (fun c_54 => ?_)
      · have f_54 : ¬ mn = 32 := fun h => c_54 ((nI_eq (a := mn) (b := 32) (by first | omega | exact b_and1 _ | exact b_ct _ _ (by omega) | exact b_andr _ (by omega)) (by first | omega | exact b_and1 _ | exact b_ct _ _ (by omega) | exact b_andr _ (by omega))).mpr h)
        exfalso; omega
      have f_54 : mn = 32 := (nI_eq (a := mn) (b := 32) (by first | omega | exact b_and1 _ | exact b_ct _ _ (by omega) | exact b_andr _ (by omega)) (by first | omega | exact b_and1 _ | exact b_ct _ _ (by omega) | exact b_andr _ (by omega))).mp c_54
      refine lv_bipush (v := (-4)) hx hb dX5_gate_57 (by decide) ?_
      refine lv_goto (tgt := 89) hx hb dX5_gate_59 (by decide) ?_
      exact hri () _ H locs 89 ls .int rfl rfl trivial rfl hP hD hS dX5_gate_89
    have f_43 : (isN mn zz) = false := bI_0.mp c_43
    exfalso; simp [f_43, f_34] at hu
  have f_6 : (inB (nI k) (nI 0) (nI 4)) = false := bI_0.mp c_6
  exfalso; rw [inB_nI (by omega) (by omega) (by omega)] at f_6; simp at f_6; omega
set_option maxHeartbeats 4000000 in
set_option maxRecDepth 100000 in
theorem c_X5_gate_0 (l : Launch) (D : va_G) (cI cJ cZ : ClassId) (z : Nat → Nat) (mn : Nat) (mi : Nat) (ms : Nat) (mtk : Nat) (mso : Nat → Nat) (mwh : Nat → Nat) (mfi : Nat → Nat) (mse : Nat → Nat) (mth : Nat → Nat) (mpu : Nat → Nat) (mno : Nat → Nat) (mlo : Nat → Nat) (mbe : Nat → Nat) (mre : Nat → Nat) (mis : Nat → Bool) (mca : Nat → Bool) (mpa : Nat → Nat) (mva : Nat → Nat) (mle : Nat → Nat) (mst : Nat → Bool) (mtn : Nat → Bool) (mln : Nat → Nat) (mne : Nat → Int32) (mgo : Nat → Int32) (k : Nat) (x : Nat) (y : Int32) (zz : Int32) (hmn : mn < 32) (hms : ms ≤ 6) (hk : k = 0) (hx0 : x < mn) : Ct l D cI cJ cZ yX5_gate wsX5_gate ({ frames := 2, cells := 0, slots := 0, locals := 46 } : Room) 0 0 [.ref (z 0), .int (nI k), .int (nI x), .int y, .int zz] (wM z cI cZ mn mi ms mtk mso mwh mfi mse mth mpu mno mlo mbe mre mis mca mpa mva mle mst mtn mln mne mgo) (S := Unit) (fun u => True) (fun u => some (.int (nI mn))) (fun u => (wM z cI cZ (mn + 1) mi ms 0 (va_up mso mn 2) (va_up mwh mn k) (va_up mfi mn x) (va_up mse mn x) (va_up mth mn x) mpu mno mlo mbe mre mis (mixF (fun jj => decide (jj < 2 ^ ms)) mca 64) (mixF (fun _ => 2) mpa 6) mva mle mst mtn mln mne mgo)) := by
  refine Ct.ofW (cc := cX5_gate) (maxL := 5) (ret := (some .int)) (R_C := RX5) (by decide +kernel) rfl rfl (Nat.le_of_ble_eq_true rfl) rfl ?_
  intro p e s m args below meth c A Q ls H locs hx hb hml hown hts hK hA hP hD hS hZ hl hri hrl hrv
  refine lv_iload_n hx hb dX5_gate_0 rfl (lv_at hl 1 rfl) ?_
  refine lv_iconst (v := nI 0) hx hb dX5_gate_1 (by decide) ?_
  refine lv_iconst (v := nI 4) hx hb dX5_gate_2 (by decide) ?_
  refine fx_callS (As := [.int (nI k), .int (nI 0), .int (nI 4)]) (rest := []) ⟨hx, hb, hml, hown, hts⟩ (c_X5_in l D cI cJ cZ (wM z cI cZ mn mi ms mtk mso mwh mfi mse mth mpu mno mlo mbe mre mis mca mpa mva mle mst mtn mln mne mgo) (nI k) (nI 0) (nI 4)) (va_cwS 3 hts gX5_gate_X5_in rfl rfl rfl ks_X5_in ⟨Nat.le_of_ble_eq_true rfl, Nat.le_of_ble_eq_true rfl⟩) hK hP hD hS hA hZ rfl hl.1 rfl (lv_room (Nat.le_of_ble_eq_true rfl)) dX5_gate_3 ⟨Nat.zero_le _, Nat.zero_le _⟩ (fun u_1 H locs hu_1 hP hD hS => ?_)
  refine lv_if_ne (tgt := 12) hx hb dX5_gate_6 (by decide) (fun c_6 => ?_) (fun c_6 => ?_)
  · have f_6 : (inB (nI k) (nI 0) (nI 4)) = true := bI_n0.mp c_6
    refine lv_aload_n hx hb dX5_gate_12 rfl (lv_at hl 0 rfl) ?_
    refine lv_iload_n hx hb dX5_gate_13 rfl (lv_at hl 2 rfl) ?_
    refine fx_callV (As := [.int (nI x)]) (rest := []) ⟨hx, hb, hml, hown, hts⟩ (c_X5_isNode l D cI cJ cZ z mn mi ms mtk mso mwh mfi mse mth mpu mno mlo mbe mre mis mca mpa mva mle mst mtn mln mne mgo (nI x) (by first | assumption | omega)) (cwV 1 hts gX5_gate_X5_isNode rfl rfl rfl kv_X5_isNode ⟨Nat.le_of_ble_eq_true rfl, Nat.le_of_ble_eq_true rfl⟩) hK hP hD hS hA hZ 0 rfl rfl rfl rfl hl.1 rfl (lv_room (Nat.le_of_ble_eq_true rfl)) dX5_gate_14 ⟨Nat.zero_le _, Nat.zero_le _⟩ (fun u_2 H locs hu_2 hP hD hS => ?_)
    refine lv_if_eq (tgt := 46) hx hb dX5_gate_17 (by decide) (fun c_17 => ?_) (fun c_17 => ?_)
    · have f_17 : (isN mn (nI x)) = false := bI_0.mp c_17
      exfalso; rw [isN_nI (by omega) (by omega)] at f_17; simp at f_17; omega
    have f_17 : (isN mn (nI x)) = true := bI_n0.mp c_17
    refine lv_iload_n hx hb dX5_gate_20 rfl (lv_at hl 1 rfl) ?_
    refine lv_if_le (tgt := 32) hx hb dX5_gate_21 (by decide) (fun c_21 => ?_) (fun c_21 => ?_)
    · have f_21 : k ≤ 0 := (nI_leI (a := k) (b := 0) (by first | omega | exact b_and1 _ | exact b_ct _ _ (by omega) | exact b_andr _ (by omega)) (by first | omega | exact b_and1 _ | exact b_ct _ _ (by omega) | exact b_andr _ (by omega))).mp c_21
      refine lv_iload_n hx hb dX5_gate_32 rfl (lv_at hl 1 rfl) ?_
      refine lv_iconst (v := nI 4) hx hb dX5_gate_33 (by decide) ?_
      refine lv_icmp_ne (tgt := 48) hx hb dX5_gate_34 (by decide) (fun c_34 => ?_) (fun c_34 => ?_)
      · have f_34 : ¬ k = 4 := fun h => c_34 ((nI_eq (a := k) (b := 4) (by first | omega | exact b_and1 _ | exact b_ct _ _ (by omega) | exact b_andr _ (by omega)) (by first | omega | exact b_and1 _ | exact b_ct _ _ (by omega) | exact b_andr _ (by omega))).mpr h)
        refine lv_aload_n hx hb dX5_gate_48 rfl (lv_at hl 0 rfl) ?_
        refine va_get (D := D) (ci := 5) (v := .int (nI mn)) (C := RX5) (T := TX5) (N := 24) hx hb hts (fun w h => List.mem_cons_of_mem _ (List.mem_append_right _ h)) hown hK hP 0 rfl rfl 0 (by decide) (hts (.fieldLink RX5 74 "FirstStatesModel" "nodes" "I") (List.mem_of_getElem? (i := 1) rfl)) (fun _ h9 => h9) rfl dX5_gate_49 ?_
        refine lv_bipush (v := nI 32) hx hb dX5_gate_52 (by decide) ?_
        refine lv_icmp_ne (tgt := 62) hx hb dX5_gate_54 (by decide) (fun c_54 => ?_) (fun c_54 => ?_)
        · have f_54 : ¬ mn = 32 := fun h => c_54 ((nI_eq (a := mn) (b := 32) (by first | omega | exact b_and1 _ | exact b_ct _ _ (by omega) | exact b_andr _ (by omega)) (by first | omega | exact b_and1 _ | exact b_ct _ _ (by omega) | exact b_andr _ (by omega))).mpr h)
          refine lv_aload_n hx hb dX5_gate_62 rfl (lv_at hl 0 rfl) ?_
          refine lv_iconst (v := nI 2) hx hb dX5_gate_63 (by decide) ?_
          refine lv_iload_n hx hb dX5_gate_64 rfl (lv_at hl 1 rfl) ?_
          refine lv_iload_n hx hb dX5_gate_65 rfl (lv_at hl 2 rfl) ?_
          refine lv_iload_n hx hb dX5_gate_66 rfl (lv_at hl 1 rfl) ?_
          refine lv_if_le (tgt := 74) hx hb dX5_gate_67 (by decide) (fun c_67 => ?_) (fun c_67 => ?_)
          · have f_67 : k ≤ 0 := (nI_leI (a := k) (b := 0) (by first | omega | exact b_and1 _ | exact b_ct _ _ (by omega) | exact b_andr _ (by omega)) (by first | omega | exact b_and1 _ | exact b_ct _ _ (by omega) | exact b_andr _ (by omega))).mp c_67
            refine lv_iload_n hx hb dX5_gate_74 rfl (lv_at hl 2 rfl) ?_
            refine lv_iload_n hx hb dX5_gate_75 rfl (lv_at hl 1 rfl) ?_
            refine lv_iconst (v := nI 4) hx hb dX5_gate_76 (by decide) ?_
            refine lv_icmp_ne (tgt := 85) hx hb dX5_gate_77 (by decide) (fun c_77 => ?_) (fun c_77 => ?_)
            · have f_77 : ¬ k = 4 := fun h => c_77 ((nI_eq (a := k) (b := 4) (by first | omega | exact b_and1 _ | exact b_ct _ _ (by omega) | exact b_andr _ (by omega)) (by first | omega | exact b_and1 _ | exact b_ct _ _ (by omega) | exact b_andr _ (by omega))).mpr h)
              refine lv_iload_n hx hb dX5_gate_85 rfl (lv_at hl 2 rfl) ?_
              refine fx_callV (As := [.int (nI 2), .int (nI k), .int (nI x), .int (nI x), .int (nI x)]) (rest := []) ⟨hx, hb, hml, hown, hts⟩ (c_X5_add l D cI cJ cZ z mn mi ms mtk mso mwh mfi mse mth mpu mno mlo mbe mre mis mca mpa mva mle mst mtn mln mne mgo 2 k x x x (by first | assumption | omega) (by first | assumption | omega)) (cwV 5 hts gX5_gate_X5_add rfl rfl rfl kv_X5_add ⟨Nat.le_of_ble_eq_true rfl, Nat.le_of_ble_eq_true rfl⟩) hK hP hD hS hA hZ 0 rfl rfl rfl rfl hl.1 rfl (lv_room (Nat.le_of_ble_eq_true rfl)) dX5_gate_86 ⟨Nat.zero_le _, Nat.zero_le _⟩ (fun u_3 H locs hu_3 hP hD hS => ?_)
              have hP : va_P D vwCl (wM z cI cZ (mn + 1) mi ms 0 (va_up mso mn 2) (va_up mwh mn k) (va_up mfi mn x) (va_up mse mn x) (va_up mth mn x) mpu mno mlo mbe mre mis (mixF (fun jj => decide (jj < 2 ^ ms)) mca 64) (mixF (fun _ => 2) mpa 6) mva mle mst mtn mln mne mgo) H := hP
              have hD : va_D A (wM z cI cZ (mn + 1) mi ms 0 (va_up mso mn 2) (va_up mwh mn k) (va_up mfi mn x) (va_up mse mn x) (va_up mth mn x) mpu mno mlo mbe mre mis (mixF (fun jj => decide (jj < 2 ^ ms)) mca 64) (mixF (fun _ => 2) mpa 6) mva mle mst mtn mln mne mgo) := fx_D hD rfl
              exact hri () _ H locs 89 ls .int rfl rfl trivial rfl hP hD hS dX5_gate_89
            have f_77 : k = 4 := (nI_eq (a := k) (b := 4) (by first | omega | exact b_and1 _ | exact b_ct _ _ (by omega) | exact b_andr _ (by omega)) (by first | omega | exact b_and1 _ | exact b_ct _ _ (by omega) | exact b_andr _ (by omega))).mp c_77
            exfalso; omega
          have f_67 : ¬ k ≤ 0 := fun h => c_67 ((nI_leI (a := k) (b := 0) (by first | omega | exact b_and1 _ | exact b_ct _ _ (by omega) | exact b_andr _ (by omega)) (by first | omega | exact b_and1 _ | exact b_ct _ _ (by omega) | exact b_andr _ (by omega))).mpr h)
          exfalso; omega
        have f_54 : mn = 32 := (nI_eq (a := mn) (b := 32) (by first | omega | exact b_and1 _ | exact b_ct _ _ (by omega) | exact b_andr _ (by omega)) (by first | omega | exact b_and1 _ | exact b_ct _ _ (by omega) | exact b_andr _ (by omega))).mp c_54
        exfalso; omega
      have f_34 : k = 4 := (nI_eq (a := k) (b := 4) (by first | omega | exact b_and1 _ | exact b_ct _ _ (by omega) | exact b_andr _ (by omega)) (by first | omega | exact b_and1 _ | exact b_ct _ _ (by omega) | exact b_andr _ (by omega))).mp c_34
      exfalso; omega
    have f_21 : ¬ k ≤ 0 := fun h => c_21 ((nI_leI (a := k) (b := 0) (by first | omega | exact b_and1 _ | exact b_ct _ _ (by omega) | exact b_andr _ (by omega)) (by first | omega | exact b_and1 _ | exact b_ct _ _ (by omega) | exact b_andr _ (by omega))).mpr h)
    exfalso; omega
  have f_6 : (inB (nI k) (nI 0) (nI 4)) = false := bI_0.mp c_6
  exfalso; rw [inB_nI (by omega) (by omega) (by omega)] at f_6; simp at f_6; omega
set_option maxHeartbeats 4000000 in
set_option maxRecDepth 100000 in
theorem c_X5_gate_1 (l : Launch) (D : va_G) (cI cJ cZ : ClassId) (z : Nat → Nat) (mn : Nat) (mi : Nat) (ms : Nat) (mtk : Nat) (mso : Nat → Nat) (mwh : Nat → Nat) (mfi : Nat → Nat) (mse : Nat → Nat) (mth : Nat → Nat) (mpu : Nat → Nat) (mno : Nat → Nat) (mlo : Nat → Nat) (mbe : Nat → Nat) (mre : Nat → Nat) (mis : Nat → Bool) (mca : Nat → Bool) (mpa : Nat → Nat) (mva : Nat → Nat) (mle : Nat → Nat) (mst : Nat → Bool) (mtn : Nat → Bool) (mln : Nat → Nat) (mne : Nat → Int32) (mgo : Nat → Int32) (k : Nat) (x : Nat) (y : Nat) (zz : Int32) (hmn : mn < 32) (hms : ms ≤ 6) (hk : 1 ≤ k ∧ k ≤ 3) (hx0 : x < mn) (hy : y < mn) : Ct l D cI cJ cZ yX5_gate wsX5_gate ({ frames := 2, cells := 0, slots := 0, locals := 46 } : Room) 0 0 [.ref (z 0), .int (nI k), .int (nI x), .int (nI y), .int zz] (wM z cI cZ mn mi ms mtk mso mwh mfi mse mth mpu mno mlo mbe mre mis mca mpa mva mle mst mtn mln mne mgo) (S := Unit) (fun u => True) (fun u => some (.int (nI mn))) (fun u => (wM z cI cZ (mn + 1) mi ms 0 (va_up mso mn 2) (va_up mwh mn k) (va_up mfi mn x) (va_up mse mn y) (va_up mth mn x) mpu mno mlo mbe mre mis (mixF (fun jj => decide (jj < 2 ^ ms)) mca 64) (mixF (fun _ => 2) mpa 6) mva mle mst mtn mln mne mgo)) := by
  refine Ct.ofW (cc := cX5_gate) (maxL := 5) (ret := (some .int)) (R_C := RX5) (by decide +kernel) rfl rfl (Nat.le_of_ble_eq_true rfl) rfl ?_
  intro p e s m args below meth c A Q ls H locs hx hb hml hown hts hK hA hP hD hS hZ hl hri hrl hrv
  refine lv_iload_n hx hb dX5_gate_0 rfl (lv_at hl 1 rfl) ?_
  refine lv_iconst (v := nI 0) hx hb dX5_gate_1 (by decide) ?_
  refine lv_iconst (v := nI 4) hx hb dX5_gate_2 (by decide) ?_
  refine fx_callS (As := [.int (nI k), .int (nI 0), .int (nI 4)]) (rest := []) ⟨hx, hb, hml, hown, hts⟩ (c_X5_in l D cI cJ cZ (wM z cI cZ mn mi ms mtk mso mwh mfi mse mth mpu mno mlo mbe mre mis mca mpa mva mle mst mtn mln mne mgo) (nI k) (nI 0) (nI 4)) (va_cwS 3 hts gX5_gate_X5_in rfl rfl rfl ks_X5_in ⟨Nat.le_of_ble_eq_true rfl, Nat.le_of_ble_eq_true rfl⟩) hK hP hD hS hA hZ rfl hl.1 rfl (lv_room (Nat.le_of_ble_eq_true rfl)) dX5_gate_3 ⟨Nat.zero_le _, Nat.zero_le _⟩ (fun u_1 H locs hu_1 hP hD hS => ?_)
  refine lv_if_ne (tgt := 12) hx hb dX5_gate_6 (by decide) (fun c_6 => ?_) (fun c_6 => ?_)
  · have f_6 : (inB (nI k) (nI 0) (nI 4)) = true := bI_n0.mp c_6
    refine lv_aload_n hx hb dX5_gate_12 rfl (lv_at hl 0 rfl) ?_
    refine lv_iload_n hx hb dX5_gate_13 rfl (lv_at hl 2 rfl) ?_
    refine fx_callV (As := [.int (nI x)]) (rest := []) ⟨hx, hb, hml, hown, hts⟩ (c_X5_isNode l D cI cJ cZ z mn mi ms mtk mso mwh mfi mse mth mpu mno mlo mbe mre mis mca mpa mva mle mst mtn mln mne mgo (nI x) (by first | assumption | omega)) (cwV 1 hts gX5_gate_X5_isNode rfl rfl rfl kv_X5_isNode ⟨Nat.le_of_ble_eq_true rfl, Nat.le_of_ble_eq_true rfl⟩) hK hP hD hS hA hZ 0 rfl rfl rfl rfl hl.1 rfl (lv_room (Nat.le_of_ble_eq_true rfl)) dX5_gate_14 ⟨Nat.zero_le _, Nat.zero_le _⟩ (fun u_2 H locs hu_2 hP hD hS => ?_)
    refine lv_if_eq (tgt := 46) hx hb dX5_gate_17 (by decide) (fun c_17 => ?_) (fun c_17 => ?_)
    · have f_17 : (isN mn (nI x)) = false := bI_0.mp c_17
      exfalso; rw [isN_nI (by omega) (by omega)] at f_17; simp at f_17; omega
    have f_17 : (isN mn (nI x)) = true := bI_n0.mp c_17
    refine lv_iload_n hx hb dX5_gate_20 rfl (lv_at hl 1 rfl) ?_
    refine lv_if_le (tgt := 32) hx hb dX5_gate_21 (by decide) (fun c_21 => ?_) (fun c_21 => ?_)
    · have f_21 : k ≤ 0 := (nI_leI (a := k) (b := 0) (by first | omega | exact b_and1 _ | exact b_ct _ _ (by omega) | exact b_andr _ (by omega)) (by first | omega | exact b_and1 _ | exact b_ct _ _ (by omega) | exact b_andr _ (by omega))).mp c_21
      exfalso; omega
    have f_21 : ¬ k ≤ 0 := fun h => c_21 ((nI_leI (a := k) (b := 0) (by first | omega | exact b_and1 _ | exact b_ct _ _ (by omega) | exact b_andr _ (by omega)) (by first | omega | exact b_and1 _ | exact b_ct _ _ (by omega) | exact b_andr _ (by omega))).mpr h)
    refine lv_aload_n hx hb dX5_gate_24 rfl (lv_at hl 0 rfl) ?_
    refine lv_iload_n hx hb dX5_gate_25 rfl (lv_at hl 3 rfl) ?_
    refine fx_callV (As := [.int (nI y)]) (rest := []) ⟨hx, hb, hml, hown, hts⟩ (c_X5_isNode l D cI cJ cZ z mn mi ms mtk mso mwh mfi mse mth mpu mno mlo mbe mre mis mca mpa mva mle mst mtn mln mne mgo (nI y) (by first | assumption | omega)) (cwV 1 hts gX5_gate_X5_isNode rfl rfl rfl kv_X5_isNode ⟨Nat.le_of_ble_eq_true rfl, Nat.le_of_ble_eq_true rfl⟩) hK hP hD hS hA hZ 0 rfl rfl rfl rfl hl.1 rfl (lv_room (Nat.le_of_ble_eq_true rfl)) dX5_gate_26 ⟨Nat.zero_le _, Nat.zero_le _⟩ (fun u_3 H locs hu_3 hP hD hS => ?_)
    refine lv_if_eq (tgt := 46) hx hb dX5_gate_29 (by decide) (fun c_29 => ?_) (fun c_29 => ?_)
    · have f_29 : (isN mn (nI y)) = false := bI_0.mp c_29
      exfalso; rw [isN_nI (by omega) (by omega)] at f_29; simp at f_29; omega
    have f_29 : (isN mn (nI y)) = true := bI_n0.mp c_29
    refine lv_iload_n hx hb dX5_gate_32 rfl (lv_at hl 1 rfl) ?_
    refine lv_iconst (v := nI 4) hx hb dX5_gate_33 (by decide) ?_
    refine lv_icmp_ne (tgt := 48) hx hb dX5_gate_34 (by decide) (fun c_34 => ?_) (fun c_34 => ?_)
    · have f_34 : ¬ k = 4 := fun h => c_34 ((nI_eq (a := k) (b := 4) (by first | omega | exact b_and1 _ | exact b_ct _ _ (by omega) | exact b_andr _ (by omega)) (by first | omega | exact b_and1 _ | exact b_ct _ _ (by omega) | exact b_andr _ (by omega))).mpr h)
      refine lv_aload_n hx hb dX5_gate_48 rfl (lv_at hl 0 rfl) ?_
      refine va_get (D := D) (ci := 5) (v := .int (nI mn)) (C := RX5) (T := TX5) (N := 24) hx hb hts (fun w h => List.mem_cons_of_mem _ (List.mem_append_right _ h)) hown hK hP 0 rfl rfl 0 (by decide) (hts (.fieldLink RX5 74 "FirstStatesModel" "nodes" "I") (List.mem_of_getElem? (i := 1) rfl)) (fun _ h9 => h9) rfl dX5_gate_49 ?_
      refine lv_bipush (v := nI 32) hx hb dX5_gate_52 (by decide) ?_
      refine lv_icmp_ne (tgt := 62) hx hb dX5_gate_54 (by decide) (fun c_54 => ?_) (fun c_54 => ?_)
      · have f_54 : ¬ mn = 32 := fun h => c_54 ((nI_eq (a := mn) (b := 32) (by first | omega | exact b_and1 _ | exact b_ct _ _ (by omega) | exact b_andr _ (by omega)) (by first | omega | exact b_and1 _ | exact b_ct _ _ (by omega) | exact b_andr _ (by omega))).mpr h)
        refine lv_aload_n hx hb dX5_gate_62 rfl (lv_at hl 0 rfl) ?_
        refine lv_iconst (v := nI 2) hx hb dX5_gate_63 (by decide) ?_
        refine lv_iload_n hx hb dX5_gate_64 rfl (lv_at hl 1 rfl) ?_
        refine lv_iload_n hx hb dX5_gate_65 rfl (lv_at hl 2 rfl) ?_
        refine lv_iload_n hx hb dX5_gate_66 rfl (lv_at hl 1 rfl) ?_
        refine lv_if_le (tgt := 74) hx hb dX5_gate_67 (by decide) (fun c_67 => ?_) (fun c_67 => ?_)
        · have f_67 : k ≤ 0 := (nI_leI (a := k) (b := 0) (by first | omega | exact b_and1 _ | exact b_ct _ _ (by omega) | exact b_andr _ (by omega)) (by first | omega | exact b_and1 _ | exact b_ct _ _ (by omega) | exact b_andr _ (by omega))).mp c_67
          exfalso; omega
        have f_67 : ¬ k ≤ 0 := fun h => c_67 ((nI_leI (a := k) (b := 0) (by first | omega | exact b_and1 _ | exact b_ct _ _ (by omega) | exact b_andr _ (by omega)) (by first | omega | exact b_and1 _ | exact b_ct _ _ (by omega) | exact b_andr _ (by omega))).mpr h)
        refine lv_iload_n hx hb dX5_gate_70 rfl (lv_at hl 3 rfl) ?_
        refine lv_goto (tgt := 75) hx hb dX5_gate_71 (by decide) ?_
        refine lv_iload_n hx hb dX5_gate_75 rfl (lv_at hl 1 rfl) ?_
        refine lv_iconst (v := nI 4) hx hb dX5_gate_76 (by decide) ?_
        refine lv_icmp_ne (tgt := 85) hx hb dX5_gate_77 (by decide) (fun c_77 => ?_) (fun c_77 => ?_)
        · have f_77 : ¬ k = 4 := fun h => c_77 ((nI_eq (a := k) (b := 4) (by first | omega | exact b_and1 _ | exact b_ct _ _ (by omega) | exact b_andr _ (by omega)) (by first | omega | exact b_and1 _ | exact b_ct _ _ (by omega) | exact b_andr _ (by omega))).mpr h)
          refine lv_iload_n hx hb dX5_gate_85 rfl (lv_at hl 2 rfl) ?_
          refine fx_callV (As := [.int (nI 2), .int (nI k), .int (nI x), .int (nI y), .int (nI x)]) (rest := []) ⟨hx, hb, hml, hown, hts⟩ (c_X5_add l D cI cJ cZ z mn mi ms mtk mso mwh mfi mse mth mpu mno mlo mbe mre mis mca mpa mva mle mst mtn mln mne mgo 2 k x y x (by first | assumption | omega) (by first | assumption | omega)) (cwV 5 hts gX5_gate_X5_add rfl rfl rfl kv_X5_add ⟨Nat.le_of_ble_eq_true rfl, Nat.le_of_ble_eq_true rfl⟩) hK hP hD hS hA hZ 0 rfl rfl rfl rfl hl.1 rfl (lv_room (Nat.le_of_ble_eq_true rfl)) dX5_gate_86 ⟨Nat.zero_le _, Nat.zero_le _⟩ (fun u_4 H locs hu_4 hP hD hS => ?_)
          have hP : va_P D vwCl (wM z cI cZ (mn + 1) mi ms 0 (va_up mso mn 2) (va_up mwh mn k) (va_up mfi mn x) (va_up mse mn y) (va_up mth mn x) mpu mno mlo mbe mre mis (mixF (fun jj => decide (jj < 2 ^ ms)) mca 64) (mixF (fun _ => 2) mpa 6) mva mle mst mtn mln mne mgo) H := hP
          have hD : va_D A (wM z cI cZ (mn + 1) mi ms 0 (va_up mso mn 2) (va_up mwh mn k) (va_up mfi mn x) (va_up mse mn y) (va_up mth mn x) mpu mno mlo mbe mre mis (mixF (fun jj => decide (jj < 2 ^ ms)) mca 64) (mixF (fun _ => 2) mpa 6) mva mle mst mtn mln mne mgo) := fx_D hD rfl
          exact hri () _ H locs 89 ls .int rfl rfl trivial rfl hP hD hS dX5_gate_89
        have f_77 : k = 4 := (nI_eq (a := k) (b := 4) (by first | omega | exact b_and1 _ | exact b_ct _ _ (by omega) | exact b_andr _ (by omega)) (by first | omega | exact b_and1 _ | exact b_ct _ _ (by omega) | exact b_andr _ (by omega))).mp c_77
        exfalso; omega
      have f_54 : mn = 32 := (nI_eq (a := mn) (b := 32) (by first | omega | exact b_and1 _ | exact b_ct _ _ (by omega) | exact b_andr _ (by omega)) (by first | omega | exact b_and1 _ | exact b_ct _ _ (by omega) | exact b_andr _ (by omega))).mp c_54
      exfalso; omega
    have f_34 : k = 4 := (nI_eq (a := k) (b := 4) (by first | omega | exact b_and1 _ | exact b_ct _ _ (by omega) | exact b_andr _ (by omega)) (by first | omega | exact b_and1 _ | exact b_ct _ _ (by omega) | exact b_andr _ (by omega))).mp c_34
    exfalso; omega
  have f_6 : (inB (nI k) (nI 0) (nI 4)) = false := bI_0.mp c_6
  exfalso; rw [inB_nI (by omega) (by omega) (by omega)] at f_6; simp at f_6; omega
set_option maxHeartbeats 4000000 in
set_option maxRecDepth 100000 in
theorem c_X5_gate_4 (l : Launch) (D : va_G) (cI cJ cZ : ClassId) (z : Nat → Nat) (mn : Nat) (mi : Nat) (ms : Nat) (mtk : Nat) (mso : Nat → Nat) (mwh : Nat → Nat) (mfi : Nat → Nat) (mse : Nat → Nat) (mth : Nat → Nat) (mpu : Nat → Nat) (mno : Nat → Nat) (mlo : Nat → Nat) (mbe : Nat → Nat) (mre : Nat → Nat) (mis : Nat → Bool) (mca : Nat → Bool) (mpa : Nat → Nat) (mva : Nat → Nat) (mle : Nat → Nat) (mst : Nat → Bool) (mtn : Nat → Bool) (mln : Nat → Nat) (mne : Nat → Int32) (mgo : Nat → Int32) (k : Nat) (x : Nat) (y : Nat) (zz : Nat) (hmn : mn < 32) (hms : ms ≤ 6) (hk : k = 4) (hx0 : x < mn) (hy : y < mn) (hz : zz < mn) : Ct l D cI cJ cZ yX5_gate wsX5_gate ({ frames := 2, cells := 0, slots := 0, locals := 46 } : Room) 0 0 [.ref (z 0), .int (nI k), .int (nI x), .int (nI y), .int (nI zz)] (wM z cI cZ mn mi ms mtk mso mwh mfi mse mth mpu mno mlo mbe mre mis mca mpa mva mle mst mtn mln mne mgo) (S := Unit) (fun u => True) (fun u => some (.int (nI mn))) (fun u => (wM z cI cZ (mn + 1) mi ms 0 (va_up mso mn 2) (va_up mwh mn k) (va_up mfi mn x) (va_up mse mn y) (va_up mth mn zz) mpu mno mlo mbe mre mis (mixF (fun jj => decide (jj < 2 ^ ms)) mca 64) (mixF (fun _ => 2) mpa 6) mva mle mst mtn mln mne mgo)) := by
  refine Ct.ofW (cc := cX5_gate) (maxL := 5) (ret := (some .int)) (R_C := RX5) (by decide +kernel) rfl rfl (Nat.le_of_ble_eq_true rfl) rfl ?_
  intro p e s m args below meth c A Q ls H locs hx hb hml hown hts hK hA hP hD hS hZ hl hri hrl hrv
  refine lv_iload_n hx hb dX5_gate_0 rfl (lv_at hl 1 rfl) ?_
  refine lv_iconst (v := nI 0) hx hb dX5_gate_1 (by decide) ?_
  refine lv_iconst (v := nI 4) hx hb dX5_gate_2 (by decide) ?_
  refine fx_callS (As := [.int (nI k), .int (nI 0), .int (nI 4)]) (rest := []) ⟨hx, hb, hml, hown, hts⟩ (c_X5_in l D cI cJ cZ (wM z cI cZ mn mi ms mtk mso mwh mfi mse mth mpu mno mlo mbe mre mis mca mpa mva mle mst mtn mln mne mgo) (nI k) (nI 0) (nI 4)) (va_cwS 3 hts gX5_gate_X5_in rfl rfl rfl ks_X5_in ⟨Nat.le_of_ble_eq_true rfl, Nat.le_of_ble_eq_true rfl⟩) hK hP hD hS hA hZ rfl hl.1 rfl (lv_room (Nat.le_of_ble_eq_true rfl)) dX5_gate_3 ⟨Nat.zero_le _, Nat.zero_le _⟩ (fun u_1 H locs hu_1 hP hD hS => ?_)
  refine lv_if_ne (tgt := 12) hx hb dX5_gate_6 (by decide) (fun c_6 => ?_) (fun c_6 => ?_)
  · have f_6 : (inB (nI k) (nI 0) (nI 4)) = true := bI_n0.mp c_6
    refine lv_aload_n hx hb dX5_gate_12 rfl (lv_at hl 0 rfl) ?_
    refine lv_iload_n hx hb dX5_gate_13 rfl (lv_at hl 2 rfl) ?_
    refine fx_callV (As := [.int (nI x)]) (rest := []) ⟨hx, hb, hml, hown, hts⟩ (c_X5_isNode l D cI cJ cZ z mn mi ms mtk mso mwh mfi mse mth mpu mno mlo mbe mre mis mca mpa mva mle mst mtn mln mne mgo (nI x) (by first | assumption | omega)) (cwV 1 hts gX5_gate_X5_isNode rfl rfl rfl kv_X5_isNode ⟨Nat.le_of_ble_eq_true rfl, Nat.le_of_ble_eq_true rfl⟩) hK hP hD hS hA hZ 0 rfl rfl rfl rfl hl.1 rfl (lv_room (Nat.le_of_ble_eq_true rfl)) dX5_gate_14 ⟨Nat.zero_le _, Nat.zero_le _⟩ (fun u_2 H locs hu_2 hP hD hS => ?_)
    refine lv_if_eq (tgt := 46) hx hb dX5_gate_17 (by decide) (fun c_17 => ?_) (fun c_17 => ?_)
    · have f_17 : (isN mn (nI x)) = false := bI_0.mp c_17
      exfalso; rw [isN_nI (by omega) (by omega)] at f_17; simp at f_17; omega
    have f_17 : (isN mn (nI x)) = true := bI_n0.mp c_17
    refine lv_iload_n hx hb dX5_gate_20 rfl (lv_at hl 1 rfl) ?_
    refine lv_if_le (tgt := 32) hx hb dX5_gate_21 (by decide) (fun c_21 => ?_) (fun c_21 => ?_)
    · have f_21 : k ≤ 0 := (nI_leI (a := k) (b := 0) (by first | omega | exact b_and1 _ | exact b_ct _ _ (by omega) | exact b_andr _ (by omega)) (by first | omega | exact b_and1 _ | exact b_ct _ _ (by omega) | exact b_andr _ (by omega))).mp c_21
      exfalso; omega
    have f_21 : ¬ k ≤ 0 := fun h => c_21 ((nI_leI (a := k) (b := 0) (by first | omega | exact b_and1 _ | exact b_ct _ _ (by omega) | exact b_andr _ (by omega)) (by first | omega | exact b_and1 _ | exact b_ct _ _ (by omega) | exact b_andr _ (by omega))).mpr h)
    refine lv_aload_n hx hb dX5_gate_24 rfl (lv_at hl 0 rfl) ?_
    refine lv_iload_n hx hb dX5_gate_25 rfl (lv_at hl 3 rfl) ?_
    refine fx_callV (As := [.int (nI y)]) (rest := []) ⟨hx, hb, hml, hown, hts⟩ (c_X5_isNode l D cI cJ cZ z mn mi ms mtk mso mwh mfi mse mth mpu mno mlo mbe mre mis mca mpa mva mle mst mtn mln mne mgo (nI y) (by first | assumption | omega)) (cwV 1 hts gX5_gate_X5_isNode rfl rfl rfl kv_X5_isNode ⟨Nat.le_of_ble_eq_true rfl, Nat.le_of_ble_eq_true rfl⟩) hK hP hD hS hA hZ 0 rfl rfl rfl rfl hl.1 rfl (lv_room (Nat.le_of_ble_eq_true rfl)) dX5_gate_26 ⟨Nat.zero_le _, Nat.zero_le _⟩ (fun u_3 H locs hu_3 hP hD hS => ?_)
    refine lv_if_eq (tgt := 46) hx hb dX5_gate_29 (by decide) (fun c_29 => ?_) (fun c_29 => ?_)
    · have f_29 : (isN mn (nI y)) = false := bI_0.mp c_29
      exfalso; rw [isN_nI (by omega) (by omega)] at f_29; simp at f_29; omega
    have f_29 : (isN mn (nI y)) = true := bI_n0.mp c_29
    refine lv_iload_n hx hb dX5_gate_32 rfl (lv_at hl 1 rfl) ?_
    refine lv_iconst (v := nI 4) hx hb dX5_gate_33 (by decide) ?_
    refine lv_icmp_ne (tgt := 48) hx hb dX5_gate_34 (by decide) (fun c_34 => ?_) (fun c_34 => ?_)
    · have f_34 : ¬ k = 4 := fun h => c_34 ((nI_eq (a := k) (b := 4) (by first | omega | exact b_and1 _ | exact b_ct _ _ (by omega) | exact b_andr _ (by omega)) (by first | omega | exact b_and1 _ | exact b_ct _ _ (by omega) | exact b_andr _ (by omega))).mpr h)
      exfalso; omega
    have f_34 : k = 4 := (nI_eq (a := k) (b := 4) (by first | omega | exact b_and1 _ | exact b_ct _ _ (by omega) | exact b_andr _ (by omega)) (by first | omega | exact b_and1 _ | exact b_ct _ _ (by omega) | exact b_andr _ (by omega))).mp c_34
    refine lv_aload_n hx hb dX5_gate_37 rfl (lv_at hl 0 rfl) ?_
    refine lv_iload hx hb dX5_gate_38 (lv_at hl 4 rfl) ?_
    refine fx_callV (As := [.int (nI zz)]) (rest := []) ⟨hx, hb, hml, hown, hts⟩ (c_X5_isNode l D cI cJ cZ z mn mi ms mtk mso mwh mfi mse mth mpu mno mlo mbe mre mis mca mpa mva mle mst mtn mln mne mgo (nI zz) (by first | assumption | omega)) (cwV 1 hts gX5_gate_X5_isNode rfl rfl rfl kv_X5_isNode ⟨Nat.le_of_ble_eq_true rfl, Nat.le_of_ble_eq_true rfl⟩) hK hP hD hS hA hZ 0 rfl rfl rfl rfl hl.1 rfl (lv_room (Nat.le_of_ble_eq_true rfl)) dX5_gate_40 ⟨Nat.zero_le _, Nat.zero_le _⟩ (fun u_4 H locs hu_4 hP hD hS => ?_)
    refine lv_if_ne (tgt := 48) hx hb dX5_gate_43 (by decide) (fun c_43 => ?_) (fun c_43 => ?_)
    · have f_43 : (isN mn (nI zz)) = true := bI_n0.mp c_43
      refine lv_aload_n hx hb dX5_gate_48 rfl (lv_at hl 0 rfl) ?_
      refine va_get (D := D) (ci := 5) (v := .int (nI mn)) (C := RX5) (T := TX5) (N := 24) hx hb hts (fun w h => List.mem_cons_of_mem _ (List.mem_append_right _ h)) hown hK hP 0 rfl rfl 0 (by decide) (hts (.fieldLink RX5 74 "FirstStatesModel" "nodes" "I") (List.mem_of_getElem? (i := 1) rfl)) (fun _ h9 => h9) rfl dX5_gate_49 ?_
      refine lv_bipush (v := nI 32) hx hb dX5_gate_52 (by decide) ?_
      refine lv_icmp_ne (tgt := 62) hx hb dX5_gate_54 (by decide) (fun c_54 => ?_) (fun c_54 => ?_)
      · have f_54 : ¬ mn = 32 := fun h => c_54 ((nI_eq (a := mn) (b := 32) (by first | omega | exact b_and1 _ | exact b_ct _ _ (by omega) | exact b_andr _ (by omega)) (by first | omega | exact b_and1 _ | exact b_ct _ _ (by omega) | exact b_andr _ (by omega))).mpr h)
        refine lv_aload_n hx hb dX5_gate_62 rfl (lv_at hl 0 rfl) ?_
        refine lv_iconst (v := nI 2) hx hb dX5_gate_63 (by decide) ?_
        refine lv_iload_n hx hb dX5_gate_64 rfl (lv_at hl 1 rfl) ?_
        refine lv_iload_n hx hb dX5_gate_65 rfl (lv_at hl 2 rfl) ?_
        refine lv_iload_n hx hb dX5_gate_66 rfl (lv_at hl 1 rfl) ?_
        refine lv_if_le (tgt := 74) hx hb dX5_gate_67 (by decide) (fun c_67 => ?_) (fun c_67 => ?_)
        · have f_67 : k ≤ 0 := (nI_leI (a := k) (b := 0) (by first | omega | exact b_and1 _ | exact b_ct _ _ (by omega) | exact b_andr _ (by omega)) (by first | omega | exact b_and1 _ | exact b_ct _ _ (by omega) | exact b_andr _ (by omega))).mp c_67
          exfalso; omega
        have f_67 : ¬ k ≤ 0 := fun h => c_67 ((nI_leI (a := k) (b := 0) (by first | omega | exact b_and1 _ | exact b_ct _ _ (by omega) | exact b_andr _ (by omega)) (by first | omega | exact b_and1 _ | exact b_ct _ _ (by omega) | exact b_andr _ (by omega))).mpr h)
        refine lv_iload_n hx hb dX5_gate_70 rfl (lv_at hl 3 rfl) ?_
        refine lv_goto (tgt := 75) hx hb dX5_gate_71 (by decide) ?_
        refine lv_iload_n hx hb dX5_gate_75 rfl (lv_at hl 1 rfl) ?_
        refine lv_iconst (v := nI 4) hx hb dX5_gate_76 (by decide) ?_
        refine lv_icmp_ne (tgt := 85) hx hb dX5_gate_77 (by decide) (fun c_77 => ?_) (fun c_77 => ?_)
        · have f_77 : ¬ k = 4 := fun h => c_77 ((nI_eq (a := k) (b := 4) (by first | omega | exact b_and1 _ | exact b_ct _ _ (by omega) | exact b_andr _ (by omega)) (by first | omega | exact b_and1 _ | exact b_ct _ _ (by omega) | exact b_andr _ (by omega))).mpr h)
          exfalso; omega
        have f_77 : k = 4 := (nI_eq (a := k) (b := 4) (by first | omega | exact b_and1 _ | exact b_ct _ _ (by omega) | exact b_andr _ (by omega)) (by first | omega | exact b_and1 _ | exact b_ct _ _ (by omega) | exact b_andr _ (by omega))).mp c_77
        refine lv_iload hx hb dX5_gate_80 (lv_at hl 4 rfl) ?_
        refine lv_goto (tgt := 86) hx hb dX5_gate_82 (by decide) ?_
        refine fx_callV (As := [.int (nI 2), .int (nI k), .int (nI x), .int (nI y), .int (nI zz)]) (rest := []) ⟨hx, hb, hml, hown, hts⟩ (c_X5_add l D cI cJ cZ z mn mi ms mtk mso mwh mfi mse mth mpu mno mlo mbe mre mis mca mpa mva mle mst mtn mln mne mgo 2 k x y zz (by first | assumption | omega) (by first | assumption | omega)) (cwV 5 hts gX5_gate_X5_add rfl rfl rfl kv_X5_add ⟨Nat.le_of_ble_eq_true rfl, Nat.le_of_ble_eq_true rfl⟩) hK hP hD hS hA hZ 0 rfl rfl rfl rfl hl.1 rfl (lv_room (Nat.le_of_ble_eq_true rfl)) dX5_gate_86 ⟨Nat.zero_le _, Nat.zero_le _⟩ (fun u_5 H locs hu_5 hP hD hS => ?_)
        have hP : va_P D vwCl (wM z cI cZ (mn + 1) mi ms 0 (va_up mso mn 2) (va_up mwh mn k) (va_up mfi mn x) (va_up mse mn y) (va_up mth mn zz) mpu mno mlo mbe mre mis (mixF (fun jj => decide (jj < 2 ^ ms)) mca 64) (mixF (fun _ => 2) mpa 6) mva mle mst mtn mln mne mgo) H := hP
        have hD : va_D A (wM z cI cZ (mn + 1) mi ms 0 (va_up mso mn 2) (va_up mwh mn k) (va_up mfi mn x) (va_up mse mn y) (va_up mth mn zz) mpu mno mlo mbe mre mis (mixF (fun jj => decide (jj < 2 ^ ms)) mca 64) (mixF (fun _ => 2) mpa 6) mva mle mst mtn mln mne mgo) := fx_D hD rfl
        exact hri () _ H locs 89 ls .int rfl rfl trivial rfl hP hD hS dX5_gate_89
      have f_54 : mn = 32 := (nI_eq (a := mn) (b := 32) (by first | omega | exact b_and1 _ | exact b_ct _ _ (by omega) | exact b_andr _ (by omega)) (by first | omega | exact b_and1 _ | exact b_ct _ _ (by omega) | exact b_andr _ (by omega))).mp c_54
      exfalso; omega
    have f_43 : (isN mn (nI zz)) = false := bI_0.mp c_43
    exfalso; rw [isN_nI (by omega) (by omega)] at f_43; simp at f_43; omega
  have f_6 : (inB (nI k) (nI 0) (nI 4)) = false := bI_0.mp c_6
  exfalso; rw [inB_nI (by omega) (by omega) (by omega)] at f_6; simp at f_6; omega
set_option maxHeartbeats 4000000 in
set_option maxRecDepth 100000 in
theorem c_X5_store_u (l : Launch) (D : va_G) (cI cJ cZ : ClassId) (z : Nat → Nat) (mn : Nat) (mi : Nat) (ms : Nat) (mtk : Nat) (mso : Nat → Nat) (mwh : Nat → Nat) (mfi : Nat → Nat) (mse : Nat → Nat) (mth : Nat → Nat) (mpu : Nat → Nat) (mno : Nat → Nat) (mlo : Nat → Nat) (mbe : Nat → Nat) (mre : Nat → Nat) (mis : Nat → Bool) (mca : Nat → Bool) (mpa : Nat → Nat) (mva : Nat → Nat) (mle : Nat → Nat) (mst : Nat → Bool) (mtn : Nat → Bool) (mln : Nat → Nat) (mne : Nat → Int32) (mgo : Nat → Int32) (x : Int32) (y : Int32) (hx0 : ¬ x = (-9)) (hl4 : isN 4 x = false) : Ct l D cI cJ cZ yX5_store wsX5_store ({ frames := 1, cells := 0, slots := 0, locals := 22 } : Room) 0 0 [.ref (z 0), .int x, .int y] (wM z cI cZ mn mi ms mtk mso mwh mfi mse mth mpu mno mlo mbe mre mis mca mpa mva mle mst mtn mln mne mgo) (S := Unit) (fun u => True) (fun u => some (.int (-1))) (fun u => (wM z cI cZ mn mi ms mtk mso mwh mfi mse mth mpu mno mlo mbe mre mis mca mpa mva mle mst mtn mln mne mgo)) := by
  refine Ct.ofW (cc := cX5_store) (maxL := 3) (ret := (some .int)) (R_C := RX5) (by decide +kernel) rfl rfl (Nat.le_of_ble_eq_true rfl) rfl ?_
  intro p e s m args below meth c A Q ls H locs hx hb hml hown hts hK hA hP hD hS hZ hl hri hrl hrv
  refine lv_iload_n hx hb dX5_store_0 rfl (lv_at hl 1 rfl) ?_
  refine lv_bipush (v := (-9)) hx hb dX5_store_1 (by decide) ?_
  refine lv_icmp_eq (tgt := 17) hx hb dX5_store_3 (by decide) (fun c_3 => ?_) (fun c_3 => ?_)
  · exfalso; exact hx0 c_3
  refine lv_iload_n hx hb dX5_store_6 rfl (lv_at hl 1 rfl) ?_
  refine lv_iconst (v := nI 0) hx hb dX5_store_7 (by decide) ?_
  refine lv_iconst (v := nI 3) hx hb dX5_store_8 (by decide) ?_
  refine fx_callS (As := [.int x, .int (nI 0), .int (nI 3)]) (rest := []) ⟨hx, hb, hml, hown, hts⟩ (c_X5_in l D cI cJ cZ (wM z cI cZ mn mi ms mtk mso mwh mfi mse mth mpu mno mlo mbe mre mis mca mpa mva mle mst mtn mln mne mgo) x (nI 0) (nI 3)) (va_cwS 3 hts gX5_store_X5_in rfl rfl rfl ks_X5_in ⟨Nat.le_of_ble_eq_true rfl, Nat.le_of_ble_eq_true rfl⟩) hK hP hD hS hA hZ rfl hl.1 rfl (lv_room (Nat.le_of_ble_eq_true rfl)) dX5_store_9 ⟨Nat.zero_le _, Nat.zero_le _⟩ (fun u_1 H locs hu_1 hP hD hS => ?_)
  refine lv_if_ne (tgt := 17) hx hb dX5_store_12 (by decide) (fun c_12 => ?_) (fun c_12 => ?_)
  · have f_12 : (inB x (nI 0) (nI 3)) = true := bI_n0.mp c_12
    exfalso; rw [inB_3, hl4] at f_12; cases f_12
  have f_12 : (inB x (nI 0) (nI 3)) = false := bI_0.mp c_12
  refine lv_iconst (v := (-1)) hx hb dX5_store_15 (by decide) ?_
  exact hri () _ H locs 16 ls .int rfl rfl trivial rfl hP hD hS dX5_store_16
set_option maxHeartbeats 4000000 in
set_option maxRecDepth 100000 in
theorem c_X5_store_o (l : Launch) (D : va_G) (cI cJ cZ : ClassId) (z : Nat → Nat) (mn : Nat) (mi : Nat) (ms : Nat) (mtk : Nat) (mso : Nat → Nat) (mwh : Nat → Nat) (mfi : Nat → Nat) (mse : Nat → Nat) (mth : Nat → Nat) (mpu : Nat → Nat) (mno : Nat → Nat) (mlo : Nat → Nat) (mbe : Nat → Nat) (mre : Nat → Nat) (mis : Nat → Bool) (mca : Nat → Bool) (mpa : Nat → Nat) (mva : Nat → Nat) (mle : Nat → Nat) (mst : Nat → Bool) (mtn : Nat → Bool) (mln : Nat → Nat) (mne : Nat → Int32) (mgo : Nat → Int32) (ln : Nat) (y : Int32) (hl4 : ln ≤ 4) (hy : bitB y = false) : Ct l D cI cJ cZ yX5_store wsX5_store ({ frames := 1, cells := 0, slots := 0, locals := 22 } : Room) 0 0 [.ref (z 0), .int (lI ln), .int y] (wM z cI cZ mn mi ms mtk mso mwh mfi mse mth mpu mno mlo mbe mre mis mca mpa mva mle mst mtn mln mne mgo) (S := Unit) (fun u => True) (fun u => some (.int (-2))) (fun u => (wM z cI cZ mn mi ms mtk mso mwh mfi mse mth mpu mno mlo mbe mre mis mca mpa mva mle mst mtn mln mne mgo)) := by
  refine Ct.ofW (cc := cX5_store) (maxL := 3) (ret := (some .int)) (R_C := RX5) (by decide +kernel) rfl rfl (Nat.le_of_ble_eq_true rfl) rfl ?_
  intro p e s m args below meth c A Q ls H locs hx hb hml hown hts hK hA hP hD hS hZ hl hri hrl hrv
  refine lv_iload_n hx hb dX5_store_0 rfl (lv_at hl 1 rfl) ?_
  refine lv_bipush (v := (-9)) hx hb dX5_store_1 (by decide) ?_
  refine lv_icmp_eq (tgt := 17) hx hb dX5_store_3 (by decide) (fun c_3 => ?_) (fun c_3 => ?_)
  · have f_3 : ln = 4 := (lI_9 (by first | omega | exact b_and1 _ | exact b_ct _ _ (by omega) | exact b_andr _ (by omega))).mp c_3
    refine lv_iload_n hx hb dX5_store_17 rfl (lv_at hl 2 rfl) ?_
    refine lv_iconst (v := nI 0) hx hb dX5_store_18 (by decide) ?_
    refine lv_iconst (v := nI 1) hx hb dX5_store_19 (by decide) ?_
    refine fx_callS (As := [.int y, .int (nI 0), .int (nI 1)]) (rest := []) ⟨hx, hb, hml, hown, hts⟩ (c_X5_in l D cI cJ cZ (wM z cI cZ mn mi ms mtk mso mwh mfi mse mth mpu mno mlo mbe mre mis mca mpa mva mle mst mtn mln mne mgo) y (nI 0) (nI 1)) (va_cwS 3 hts gX5_store_X5_in rfl rfl rfl ks_X5_in ⟨Nat.le_of_ble_eq_true rfl, Nat.le_of_ble_eq_true rfl⟩) hK hP hD hS hA hZ rfl hl.1 rfl (lv_room (Nat.le_of_ble_eq_true rfl)) dX5_store_20 ⟨Nat.zero_le _, Nat.zero_le _⟩ (fun u_1 H locs hu_1 hP hD hS => ?_)
    refine lv_if_ne (tgt := 29) hx hb dX5_store_23 (by decide) (fun c_23 => ?_) (fun c_23 => ?_)
    · have f_23 : (inB y (nI 0) (nI 1)) = true := bI_n0.mp c_23
      exfalso; rw [inB_1, hy] at f_23; cases f_23
    have f_23 : (inB y (nI 0) (nI 1)) = false := bI_0.mp c_23
    refine lv_bipush (v := (-2)) hx hb dX5_store_26 (by decide) ?_
    exact hri () _ H locs 28 ls .int rfl rfl trivial rfl hP hD hS dX5_store_28
  have f_3 : ¬ ln = 4 := fun h => c_3 ((lI_9 (by first | omega | exact b_and1 _ | exact b_ct _ _ (by omega) | exact b_andr _ (by omega))).mpr h)
  refine lv_iload_n hx hb dX5_store_6 rfl (lv_at hl 1 rfl) ?_
  refine lv_iconst (v := nI 0) hx hb dX5_store_7 (by decide) ?_
  refine lv_iconst (v := nI 3) hx hb dX5_store_8 (by decide) ?_
  refine fx_callS (As := [.int (lI ln), .int (nI 0), .int (nI 3)]) (rest := []) ⟨hx, hb, hml, hown, hts⟩ (c_X5_in l D cI cJ cZ (wM z cI cZ mn mi ms mtk mso mwh mfi mse mth mpu mno mlo mbe mre mis mca mpa mva mle mst mtn mln mne mgo) (lI ln) (nI 0) (nI 3)) (va_cwS 3 hts gX5_store_X5_in rfl rfl rfl ks_X5_in ⟨Nat.le_of_ble_eq_true rfl, Nat.le_of_ble_eq_true rfl⟩) hK hP hD hS hA hZ rfl hl.1 rfl (lv_room (Nat.le_of_ble_eq_true rfl)) dX5_store_9 ⟨Nat.zero_le _, Nat.zero_le _⟩ (fun u_2 H locs hu_2 hP hD hS => ?_)
  refine lv_if_ne (tgt := 17) hx hb dX5_store_12 (by decide) (fun c_12 => ?_) (fun c_12 => ?_)
  · have f_12 : (inB (lI ln) (nI 0) (nI 3)) = true := bI_n0.mp c_12
    refine lv_iload_n hx hb dX5_store_17 rfl (lv_at hl 2 rfl) ?_
    refine lv_iconst (v := nI 0) hx hb dX5_store_18 (by decide) ?_
    refine lv_iconst (v := nI 1) hx hb dX5_store_19 (by decide) ?_
    refine fx_callS (As := [.int y, .int (nI 0), .int (nI 1)]) (rest := []) ⟨hx, hb, hml, hown, hts⟩ (c_X5_in l D cI cJ cZ (wM z cI cZ mn mi ms mtk mso mwh mfi mse mth mpu mno mlo mbe mre mis mca mpa mva mle mst mtn mln mne mgo) y (nI 0) (nI 1)) (va_cwS 3 hts gX5_store_X5_in rfl rfl rfl ks_X5_in ⟨Nat.le_of_ble_eq_true rfl, Nat.le_of_ble_eq_true rfl⟩) hK hP hD hS hA hZ rfl hl.1 rfl (lv_room (Nat.le_of_ble_eq_true rfl)) dX5_store_20 ⟨Nat.zero_le _, Nat.zero_le _⟩ (fun u_3 H locs hu_3 hP hD hS => ?_)
    refine lv_if_ne (tgt := 29) hx hb dX5_store_23 (by decide) (fun c_23 => ?_) (fun c_23 => ?_)
    · have f_23 : (inB y (nI 0) (nI 1)) = true := bI_n0.mp c_23
      exfalso; rw [inB_1, hy] at f_23; cases f_23
    have f_23 : (inB y (nI 0) (nI 1)) = false := bI_0.mp c_23
    refine lv_bipush (v := (-2)) hx hb dX5_store_26 (by decide) ?_
    exact hri () _ H locs 28 ls .int rfl rfl trivial rfl hP hD hS dX5_store_28
  have f_12 : (inB (lI ln) (nI 0) (nI 3)) = false := bI_0.mp c_12
  exfalso; rw [lI_lt (by omega), inB_nI (by omega) (by omega) (by omega)] at f_12; simp at f_12; omega
set_option maxHeartbeats 4000000 in
set_option maxRecDepth 100000 in
theorem c_X5_store_f (l : Launch) (D : va_G) (cI cJ cZ : ClassId) (z : Nat → Nat) (mn : Nat) (mi : Nat) (ms : Nat) (mtk : Nat) (mso : Nat → Nat) (mwh : Nat → Nat) (mfi : Nat → Nat) (mse : Nat → Nat) (mth : Nat → Nat) (mpu : Nat → Nat) (mno : Nat → Nat) (mlo : Nat → Nat) (mbe : Nat → Nat) (mre : Nat → Nat) (mis : Nat → Bool) (mca : Nat → Bool) (mpa : Nat → Nat) (mva : Nat → Nat) (mle : Nat → Nat) (mst : Nat → Bool) (mtn : Nat → Bool) (mln : Nat → Nat) (mne : Nat → Int32) (mgo : Nat → Int32) (ln : Nat) (v : Nat) (hl4 : ln ≤ 4) (hv : v ≤ 1) (hmn : mn ≤ 32) (hms : ms ≤ 6) (hf : ms = 6 ∨ mn = 32) : Ct l D cI cJ cZ yX5_store wsX5_store ({ frames := 1, cells := 0, slots := 0, locals := 22 } : Room) 0 0 [.ref (z 0), .int (lI ln), .int (nI v)] (wM z cI cZ mn mi ms mtk mso mwh mfi mse mth mpu mno mlo mbe mre mis mca mpa mva mle mst mtn mln mne mgo) (S := Unit) (fun u => True) (fun u => some (.int (-4))) (fun u => (wM z cI cZ mn mi ms mtk mso mwh mfi mse mth mpu mno mlo mbe mre mis mca mpa mva mle mst mtn mln mne mgo)) := by
  refine Ct.ofW (cc := cX5_store) (maxL := 3) (ret := (some .int)) (R_C := RX5) (by decide +kernel) rfl rfl (Nat.le_of_ble_eq_true rfl) rfl ?_
  intro p e s m args below meth c A Q ls H locs hx hb hml hown hts hK hA hP hD hS hZ hl hri hrl hrv
  refine lv_iload_n hx hb dX5_store_0 rfl (lv_at hl 1 rfl) ?_
  refine lv_bipush (v := (-9)) hx hb dX5_store_1 (by decide) ?_
  refine lv_icmp_eq (tgt := 17) hx hb dX5_store_3 (by decide) (fun c_3 => ?_) (fun c_3 => ?_)
  · have f_3 : ln = 4 := (lI_9 (by first | omega | exact b_and1 _ | exact b_ct _ _ (by omega) | exact b_andr _ (by omega))).mp c_3
    refine lv_iload_n hx hb dX5_store_17 rfl (lv_at hl 2 rfl) ?_
    refine lv_iconst (v := nI 0) hx hb dX5_store_18 (by decide) ?_
    refine lv_iconst (v := nI 1) hx hb dX5_store_19 (by decide) ?_
    refine fx_callS (As := [.int (nI v), .int (nI 0), .int (nI 1)]) (rest := []) ⟨hx, hb, hml, hown, hts⟩ (c_X5_in l D cI cJ cZ (wM z cI cZ mn mi ms mtk mso mwh mfi mse mth mpu mno mlo mbe mre mis mca mpa mva mle mst mtn mln mne mgo) (nI v) (nI 0) (nI 1)) (va_cwS 3 hts gX5_store_X5_in rfl rfl rfl ks_X5_in ⟨Nat.le_of_ble_eq_true rfl, Nat.le_of_ble_eq_true rfl⟩) hK hP hD hS hA hZ rfl hl.1 rfl (lv_room (Nat.le_of_ble_eq_true rfl)) dX5_store_20 ⟨Nat.zero_le _, Nat.zero_le _⟩ (fun u_1 H locs hu_1 hP hD hS => ?_)
    refine lv_if_ne (tgt := 29) hx hb dX5_store_23 (by decide) (fun c_23 => ?_) (fun c_23 => ?_)
    · have f_23 : (inB (nI v) (nI 0) (nI 1)) = true := bI_n0.mp c_23
      refine lv_aload_n hx hb dX5_store_29 rfl (lv_at hl 0 rfl) ?_
      refine va_get (D := D) (ci := 5) (v := .int (nI ms)) (C := RX5) (T := TX5) (N := 24) hx hb hts (fun w h => List.mem_cons_of_mem _ (List.mem_append_right _ h)) hown hK hP 0 rfl rfl 8 (by decide) (hts (.fieldLink RX5 85 "FirstStatesModel" "stores" "I") (List.mem_of_getElem? (i := 1) rfl)) (fun _ h9 => h9) rfl dX5_store_30 ?_
      refine lv_bipush (v := nI 6) hx hb dX5_store_33 (by decide) ?_
      refine lv_icmp_eq (tgt := 47) hx hb dX5_store_35 (by decide) (fun c_35 => ?_) (fun c_35 => ?_)
      · have f_35 : ms = 6 := (nI_eq (a := ms) (b := 6) (by first | omega | exact b_and1 _ | exact b_ct _ _ (by omega) | exact b_andr _ (by omega)) (by first | omega | exact b_and1 _ | exact b_ct _ _ (by omega) | exact b_andr _ (by omega))).mp c_35
        refine lv_bipush (v := (-4)) hx hb dX5_store_47 (by decide) ?_
        exact hri () _ H locs 49 ls .int rfl rfl trivial rfl hP hD hS dX5_store_49
      have f_35 : ¬ ms = 6 := fun h => c_35 ((nI_eq (a := ms) (b := 6) (by first | omega | exact b_and1 _ | exact b_ct _ _ (by omega) | exact b_andr _ (by omega)) (by first | omega | exact b_and1 _ | exact b_ct _ _ (by omega) | exact b_andr _ (by omega))).mpr h)
      refine lv_aload_n hx hb dX5_store_38 rfl (lv_at hl 0 rfl) ?_
      refine va_get (D := D) (ci := 5) (v := .int (nI mn)) (C := RX5) (T := TX5) (N := 24) hx hb hts (fun w h => List.mem_cons_of_mem _ (List.mem_append_right _ h)) hown hK hP 0 rfl rfl 0 (by decide) (hts (.fieldLink RX5 74 "FirstStatesModel" "nodes" "I") (List.mem_of_getElem? (i := 2) rfl)) (fun _ h9 => h9) rfl dX5_store_39 ?_
      refine lv_bipush (v := nI 32) hx hb dX5_store_42 (by decide) ?_
      refine lv_icmp_ne (tgt := 50) hx hb dX5_store_44 (by decide) (fun c_44 => ?_) (fun c_44 => ?_)
      · have f_44 : ¬ mn = 32 := fun h => c_44 ((nI_eq (a := mn) (b := 32) (by first | omega | exact b_and1 _ | exact b_ct _ _ (by omega) | exact b_andr _ (by omega)) (by first | omega | exact b_and1 _ | exact b_ct _ _ (by omega) | exact b_andr _ (by omega))).mpr h)
        exfalso; omega
      have f_44 : mn = 32 := (nI_eq (a := mn) (b := 32) (by first | omega | exact b_and1 _ | exact b_ct _ _ (by omega) | exact b_andr _ (by omega)) (by first | omega | exact b_and1 _ | exact b_ct _ _ (by omega) | exact b_andr _ (by omega))).mp c_44
      refine lv_bipush (v := (-4)) hx hb dX5_store_47 (by decide) ?_
      exact hri () _ H locs 49 ls .int rfl rfl trivial rfl hP hD hS dX5_store_49
    have f_23 : (inB (nI v) (nI 0) (nI 1)) = false := bI_0.mp c_23
    exfalso; rw [inB_nI (by omega) (by omega) (by omega)] at f_23; simp at f_23; omega
  have f_3 : ¬ ln = 4 := fun h => c_3 ((lI_9 (by first | omega | exact b_and1 _ | exact b_ct _ _ (by omega) | exact b_andr _ (by omega))).mpr h)
  refine lv_iload_n hx hb dX5_store_6 rfl (lv_at hl 1 rfl) ?_
  refine lv_iconst (v := nI 0) hx hb dX5_store_7 (by decide) ?_
  refine lv_iconst (v := nI 3) hx hb dX5_store_8 (by decide) ?_
  refine fx_callS (As := [.int (lI ln), .int (nI 0), .int (nI 3)]) (rest := []) ⟨hx, hb, hml, hown, hts⟩ (c_X5_in l D cI cJ cZ (wM z cI cZ mn mi ms mtk mso mwh mfi mse mth mpu mno mlo mbe mre mis mca mpa mva mle mst mtn mln mne mgo) (lI ln) (nI 0) (nI 3)) (va_cwS 3 hts gX5_store_X5_in rfl rfl rfl ks_X5_in ⟨Nat.le_of_ble_eq_true rfl, Nat.le_of_ble_eq_true rfl⟩) hK hP hD hS hA hZ rfl hl.1 rfl (lv_room (Nat.le_of_ble_eq_true rfl)) dX5_store_9 ⟨Nat.zero_le _, Nat.zero_le _⟩ (fun u_2 H locs hu_2 hP hD hS => ?_)
  refine lv_if_ne (tgt := 17) hx hb dX5_store_12 (by decide) (fun c_12 => ?_) (fun c_12 => ?_)
  · have f_12 : (inB (lI ln) (nI 0) (nI 3)) = true := bI_n0.mp c_12
    refine lv_iload_n hx hb dX5_store_17 rfl (lv_at hl 2 rfl) ?_
    refine lv_iconst (v := nI 0) hx hb dX5_store_18 (by decide) ?_
    refine lv_iconst (v := nI 1) hx hb dX5_store_19 (by decide) ?_
    refine fx_callS (As := [.int (nI v), .int (nI 0), .int (nI 1)]) (rest := []) ⟨hx, hb, hml, hown, hts⟩ (c_X5_in l D cI cJ cZ (wM z cI cZ mn mi ms mtk mso mwh mfi mse mth mpu mno mlo mbe mre mis mca mpa mva mle mst mtn mln mne mgo) (nI v) (nI 0) (nI 1)) (va_cwS 3 hts gX5_store_X5_in rfl rfl rfl ks_X5_in ⟨Nat.le_of_ble_eq_true rfl, Nat.le_of_ble_eq_true rfl⟩) hK hP hD hS hA hZ rfl hl.1 rfl (lv_room (Nat.le_of_ble_eq_true rfl)) dX5_store_20 ⟨Nat.zero_le _, Nat.zero_le _⟩ (fun u_3 H locs hu_3 hP hD hS => ?_)
    refine lv_if_ne (tgt := 29) hx hb dX5_store_23 (by decide) (fun c_23 => ?_) (fun c_23 => ?_)
    · have f_23 : (inB (nI v) (nI 0) (nI 1)) = true := bI_n0.mp c_23
      refine lv_aload_n hx hb dX5_store_29 rfl (lv_at hl 0 rfl) ?_
      refine va_get (D := D) (ci := 5) (v := .int (nI ms)) (C := RX5) (T := TX5) (N := 24) hx hb hts (fun w h => List.mem_cons_of_mem _ (List.mem_append_right _ h)) hown hK hP 0 rfl rfl 8 (by decide) (hts (.fieldLink RX5 85 "FirstStatesModel" "stores" "I") (List.mem_of_getElem? (i := 1) rfl)) (fun _ h9 => h9) rfl dX5_store_30 ?_
      refine lv_bipush (v := nI 6) hx hb dX5_store_33 (by decide) ?_
      refine lv_icmp_eq (tgt := 47) hx hb dX5_store_35 (by decide) (fun c_35 => ?_) (fun c_35 => ?_)
      · have f_35 : ms = 6 := (nI_eq (a := ms) (b := 6) (by first | omega | exact b_and1 _ | exact b_ct _ _ (by omega) | exact b_andr _ (by omega)) (by first | omega | exact b_and1 _ | exact b_ct _ _ (by omega) | exact b_andr _ (by omega))).mp c_35
        refine lv_bipush (v := (-4)) hx hb dX5_store_47 (by decide) ?_
        exact hri () _ H locs 49 ls .int rfl rfl trivial rfl hP hD hS dX5_store_49
      have f_35 : ¬ ms = 6 := fun h => c_35 ((nI_eq (a := ms) (b := 6) (by first | omega | exact b_and1 _ | exact b_ct _ _ (by omega) | exact b_andr _ (by omega)) (by first | omega | exact b_and1 _ | exact b_ct _ _ (by omega) | exact b_andr _ (by omega))).mpr h)
      refine lv_aload_n hx hb dX5_store_38 rfl (lv_at hl 0 rfl) ?_
      refine va_get (D := D) (ci := 5) (v := .int (nI mn)) (C := RX5) (T := TX5) (N := 24) hx hb hts (fun w h => List.mem_cons_of_mem _ (List.mem_append_right _ h)) hown hK hP 0 rfl rfl 0 (by decide) (hts (.fieldLink RX5 74 "FirstStatesModel" "nodes" "I") (List.mem_of_getElem? (i := 2) rfl)) (fun _ h9 => h9) rfl dX5_store_39 ?_
      refine lv_bipush (v := nI 32) hx hb dX5_store_42 (by decide) ?_
      refine lv_icmp_ne (tgt := 50) hx hb dX5_store_44 (by decide) (fun c_44 => ?_) (fun c_44 => ?_)
      · have f_44 : ¬ mn = 32 := fun h => c_44 ((nI_eq (a := mn) (b := 32) (by first | omega | exact b_and1 _ | exact b_ct _ _ (by omega) | exact b_andr _ (by omega)) (by first | omega | exact b_and1 _ | exact b_ct _ _ (by omega) | exact b_andr _ (by omega))).mpr h)
        exfalso; omega
      have f_44 : mn = 32 := (nI_eq (a := mn) (b := 32) (by first | omega | exact b_and1 _ | exact b_ct _ _ (by omega) | exact b_andr _ (by omega)) (by first | omega | exact b_and1 _ | exact b_ct _ _ (by omega) | exact b_andr _ (by omega))).mp c_44
      refine lv_bipush (v := (-4)) hx hb dX5_store_47 (by decide) ?_
      exact hri () _ H locs 49 ls .int rfl rfl trivial rfl hP hD hS dX5_store_49
    have f_23 : (inB (nI v) (nI 0) (nI 1)) = false := bI_0.mp c_23
    exfalso; rw [inB_nI (by omega) (by omega) (by omega)] at f_23; simp at f_23; omega
  have f_12 : (inB (lI ln) (nI 0) (nI 3)) = false := bI_0.mp c_12
  exfalso; rw [lI_lt (by omega), inB_nI (by omega) (by omega) (by omega)] at f_12; simp at f_12; omega
set_option maxHeartbeats 4000000 in
set_option maxRecDepth 100000 in
theorem c_X5_store (l : Launch) (D : va_G) (cI cJ cZ : ClassId) (z : Nat → Nat) (mn : Nat) (mi : Nat) (ms : Nat) (mtk : Nat) (mso : Nat → Nat) (mwh : Nat → Nat) (mfi : Nat → Nat) (mse : Nat → Nat) (mth : Nat → Nat) (mpu : Nat → Nat) (mno : Nat → Nat) (mlo : Nat → Nat) (mbe : Nat → Nat) (mre : Nat → Nat) (mis : Nat → Bool) (mca : Nat → Bool) (mpa : Nat → Nat) (mva : Nat → Nat) (mle : Nat → Nat) (mst : Nat → Bool) (mtn : Nat → Bool) (mln : Nat → Nat) (mne : Nat → Int32) (mgo : Nat → Int32) (ln : Nat) (v : Nat) (hl4 : ln ≤ 4) (hv : v ≤ 1) (hmn : mn < 32) (hms : ms < 6) : Ct l D cI cJ cZ yX5_store wsX5_store ({ frames := 2, cells := 0, slots := 0, locals := 46 } : Room) 0 0 [.ref (z 0), .int (lI ln), .int (nI v)] (wM z cI cZ mn mi ms mtk mso mwh mfi mse mth mpu mno mlo mbe mre mis mca mpa mva mle mst mtn mln mne mgo) (S := Unit) (fun u => True) (fun u => some (.int (nI mn))) (fun u => (wM z cI cZ (mn + 1) mi (ms + 1) 0 (va_up mso mn 3) (va_up mwh mn ms) (va_up mfi mn 0) (va_up mse mn 0) (va_up mth mn 0) mpu (va_up mno ms mn) (va_up mlo ms ln) (va_up mbe ms v) (va_up mre ms mn) mis (mixF (fun jj => decide (jj < 2 ^ (ms + 1))) mca 64) (mixF (fun _ => 2) mpa 6) mva mle mst mtn mln mne mgo)) := by
  refine Ct.ofW (cc := cX5_store) (maxL := 3) (ret := (some .int)) (R_C := RX5) (by decide +kernel) rfl rfl (Nat.le_of_ble_eq_true rfl) rfl ?_
  intro p e s m args below meth c A Q ls H locs hx hb hml hown hts hK hA hP hD hS hZ hl hri hrl hrv
  refine lv_iload_n hx hb dX5_store_0 rfl (lv_at hl 1 rfl) ?_
  refine lv_bipush (v := (-9)) hx hb dX5_store_1 (by decide) ?_
  refine lv_icmp_eq (tgt := 17) hx hb dX5_store_3 (by decide) (fun c_3 => ?_) (fun c_3 => ?_)
  · have f_3 : ln = 4 := (lI_9 (by first | omega | exact b_and1 _ | exact b_ct _ _ (by omega) | exact b_andr _ (by omega))).mp c_3
    refine lv_iload_n hx hb dX5_store_17 rfl (lv_at hl 2 rfl) ?_
    refine lv_iconst (v := nI 0) hx hb dX5_store_18 (by decide) ?_
    refine lv_iconst (v := nI 1) hx hb dX5_store_19 (by decide) ?_
    refine fx_callS (As := [.int (nI v), .int (nI 0), .int (nI 1)]) (rest := []) ⟨hx, hb, hml, hown, hts⟩ (c_X5_in l D cI cJ cZ (wM z cI cZ mn mi ms mtk mso mwh mfi mse mth mpu mno mlo mbe mre mis mca mpa mva mle mst mtn mln mne mgo) (nI v) (nI 0) (nI 1)) (va_cwS 3 hts gX5_store_X5_in rfl rfl rfl ks_X5_in ⟨Nat.le_of_ble_eq_true rfl, Nat.le_of_ble_eq_true rfl⟩) hK hP hD hS hA hZ rfl hl.1 rfl (lv_room (Nat.le_of_ble_eq_true rfl)) dX5_store_20 ⟨Nat.zero_le _, Nat.zero_le _⟩ (fun u_1 H locs hu_1 hP hD hS => ?_)
    refine lv_if_ne (tgt := 29) hx hb dX5_store_23 (by decide) (fun c_23 => ?_) (fun c_23 => ?_)
    · have f_23 : (inB (nI v) (nI 0) (nI 1)) = true := bI_n0.mp c_23
      refine lv_aload_n hx hb dX5_store_29 rfl (lv_at hl 0 rfl) ?_
      refine va_get (D := D) (ci := 5) (v := .int (nI ms)) (C := RX5) (T := TX5) (N := 24) hx hb hts (fun w h => List.mem_cons_of_mem _ (List.mem_append_right _ h)) hown hK hP 0 rfl rfl 8 (by decide) (hts (.fieldLink RX5 85 "FirstStatesModel" "stores" "I") (List.mem_of_getElem? (i := 1) rfl)) (fun _ h9 => h9) rfl dX5_store_30 ?_
      refine lv_bipush (v := nI 6) hx hb dX5_store_33 (by decide) ?_
      refine lv_icmp_eq (tgt := 47) hx hb dX5_store_35 (by decide) (fun c_35 => ?_) (fun c_35 => ?_)
      · have f_35 : ms = 6 := (nI_eq (a := ms) (b := 6) (by first | omega | exact b_and1 _ | exact b_ct _ _ (by omega) | exact b_andr _ (by omega)) (by first | omega | exact b_and1 _ | exact b_ct _ _ (by omega) | exact b_andr _ (by omega))).mp c_35
        exfalso; omega
      have f_35 : ¬ ms = 6 := fun h => c_35 ((nI_eq (a := ms) (b := 6) (by first | omega | exact b_and1 _ | exact b_ct _ _ (by omega) | exact b_andr _ (by omega)) (by first | omega | exact b_and1 _ | exact b_ct _ _ (by omega) | exact b_andr _ (by omega))).mpr h)
      refine lv_aload_n hx hb dX5_store_38 rfl (lv_at hl 0 rfl) ?_
      refine va_get (D := D) (ci := 5) (v := .int (nI mn)) (C := RX5) (T := TX5) (N := 24) hx hb hts (fun w h => List.mem_cons_of_mem _ (List.mem_append_right _ h)) hown hK hP 0 rfl rfl 0 (by decide) (hts (.fieldLink RX5 74 "FirstStatesModel" "nodes" "I") (List.mem_of_getElem? (i := 2) rfl)) (fun _ h9 => h9) rfl dX5_store_39 ?_
      refine lv_bipush (v := nI 32) hx hb dX5_store_42 (by decide) ?_
      refine lv_icmp_ne (tgt := 50) hx hb dX5_store_44 (by decide) (fun c_44 => ?_) (fun c_44 => ?_)
      · have f_44 : ¬ mn = 32 := fun h => c_44 ((nI_eq (a := mn) (b := 32) (by first | omega | exact b_and1 _ | exact b_ct _ _ (by omega) | exact b_andr _ (by omega)) (by first | omega | exact b_and1 _ | exact b_ct _ _ (by omega) | exact b_andr _ (by omega))).mpr h)
        refine lv_aload_n hx hb dX5_store_50 rfl (lv_at hl 0 rfl) ?_
        refine va_get (D := D) (ci := 5) (v := .ref (z 7)) (C := RX5) (T := TX5) (N := 24) hx hb hts (fun w h => List.mem_cons_of_mem _ (List.mem_append_right _ h)) hown hK hP 0 rfl rfl 9 (by decide) (hts (.fieldLink RX5 28 "FirstStatesModel" "node" "[I") (List.mem_of_getElem? (i := 3) rfl)) (fun _ h9 => h9) rfl dX5_store_51 ?_
        refine lv_aload_n hx hb dX5_store_54 rfl (lv_at hl 0 rfl) ?_
        refine va_get (D := D) (ci := 5) (v := .int (nI ms)) (C := RX5) (T := TX5) (N := 24) hx hb hts (fun w h => List.mem_cons_of_mem _ (List.mem_append_right _ h)) hown hK hP 0 rfl rfl 8 (by decide) (hts (.fieldLink RX5 85 "FirstStatesModel" "stores" "I") (List.mem_of_getElem? (i := 1) rfl)) (fun _ h9 => h9) rfl dX5_store_55 ?_
        refine lv_aload_n hx hb dX5_store_58 rfl (lv_at hl 0 rfl) ?_
        refine va_get (D := D) (ci := 5) (v := .int (nI mn)) (C := RX5) (T := TX5) (N := 24) hx hb hts (fun w h => List.mem_cons_of_mem _ (List.mem_append_right _ h)) hown hK hP 0 rfl rfl 0 (by decide) (hts (.fieldLink RX5 74 "FirstStatesModel" "nodes" "I") (List.mem_of_getElem? (i := 2) rfl)) (fun _ h9 => h9) rfl dX5_store_59 ?_
        refine fx_iast (ar := nI) hx hb hK hP hD hS 7 (f := mno) (k := ms) (v := mn) rfl (by omega) (by decide) rfl dX5_store_62 (fun H locs hP hD hS => ?_)
        have hP : va_P D vwCl (wM z cI cZ mn mi ms mtk mso mwh mfi mse mth mpu (va_up mno ms mn) mlo mbe mre mis mca mpa mva mle mst mtn mln mne mgo) H := hP
        have hD : va_D A (wM z cI cZ mn mi ms mtk mso mwh mfi mse mth mpu (va_up mno ms mn) mlo mbe mre mis mca mpa mva mle mst mtn mln mne mgo) := fx_D hD rfl
        refine lv_aload_n hx hb dX5_store_63 rfl (lv_at hl 0 rfl) ?_
        refine va_get (D := D) (ci := 5) (v := .ref (z 8)) (C := RX5) (T := TX5) (N := 24) hx hb hts (fun w h => List.mem_cons_of_mem _ (List.mem_append_right _ h)) hown hK hP 0 rfl rfl 10 (by decide) (hts (.fieldLink RX5 31 "FirstStatesModel" "lineOf" "[I") (List.mem_of_getElem? (i := 4) rfl)) (fun _ h9 => h9) rfl dX5_store_64 ?_
        refine lv_aload_n hx hb dX5_store_67 rfl (lv_at hl 0 rfl) ?_
        refine va_get (D := D) (ci := 5) (v := .int (nI ms)) (C := RX5) (T := TX5) (N := 24) hx hb hts (fun w h => List.mem_cons_of_mem _ (List.mem_append_right _ h)) hown hK hP 0 rfl rfl 8 (by decide) (hts (.fieldLink RX5 85 "FirstStatesModel" "stores" "I") (List.mem_of_getElem? (i := 1) rfl)) (fun _ h9 => h9) rfl dX5_store_68 ?_
        refine lv_iload_n hx hb dX5_store_71 rfl (lv_at hl 1 rfl) ?_
        refine fx_iast (ar := lI) hx hb hK hP hD hS 8 (f := mlo) (k := ms) (v := ln) rfl (by omega) (by decide) rfl dX5_store_72 (fun H locs hP hD hS => ?_)
        have hP : va_P D vwCl (wM z cI cZ mn mi ms mtk mso mwh mfi mse mth mpu (va_up mno ms mn) (va_up mlo ms ln) mbe mre mis mca mpa mva mle mst mtn mln mne mgo) H := hP
        have hD : va_D A (wM z cI cZ mn mi ms mtk mso mwh mfi mse mth mpu (va_up mno ms mn) (va_up mlo ms ln) mbe mre mis mca mpa mva mle mst mtn mln mne mgo) := fx_D hD rfl
        refine lv_aload_n hx hb dX5_store_73 rfl (lv_at hl 0 rfl) ?_
        refine va_get (D := D) (ci := 5) (v := .ref (z 9)) (C := RX5) (T := TX5) (N := 24) hx hb hts (fun w h => List.mem_cons_of_mem _ (List.mem_append_right _ h)) hown hK hP 0 rfl rfl 11 (by decide) (hts (.fieldLink RX5 34 "FirstStatesModel" "begins" "[I") (List.mem_of_getElem? (i := 5) rfl)) (fun _ h9 => h9) rfl dX5_store_74 ?_
        refine lv_aload_n hx hb dX5_store_77 rfl (lv_at hl 0 rfl) ?_
        refine va_get (D := D) (ci := 5) (v := .int (nI ms)) (C := RX5) (T := TX5) (N := 24) hx hb hts (fun w h => List.mem_cons_of_mem _ (List.mem_append_right _ h)) hown hK hP 0 rfl rfl 8 (by decide) (hts (.fieldLink RX5 85 "FirstStatesModel" "stores" "I") (List.mem_of_getElem? (i := 1) rfl)) (fun _ h9 => h9) rfl dX5_store_78 ?_
        refine lv_iload_n hx hb dX5_store_81 rfl (lv_at hl 2 rfl) ?_
        refine fx_iast (ar := nI) hx hb hK hP hD hS 9 (f := mbe) (k := ms) (v := v) rfl (by omega) (by decide) rfl dX5_store_82 (fun H locs hP hD hS => ?_)
        have hP : va_P D vwCl (wM z cI cZ mn mi ms mtk mso mwh mfi mse mth mpu (va_up mno ms mn) (va_up mlo ms ln) (va_up mbe ms v) mre mis mca mpa mva mle mst mtn mln mne mgo) H := hP
        have hD : va_D A (wM z cI cZ mn mi ms mtk mso mwh mfi mse mth mpu (va_up mno ms mn) (va_up mlo ms ln) (va_up mbe ms v) mre mis mca mpa mva mle mst mtn mln mne mgo) := fx_D hD rfl
        refine lv_aload_n hx hb dX5_store_83 rfl (lv_at hl 0 rfl) ?_
        refine va_get (D := D) (ci := 5) (v := .ref (z 10)) (C := RX5) (T := TX5) (N := 24) hx hb hts (fun w h => List.mem_cons_of_mem _ (List.mem_append_right _ h)) hown hK hP 0 rfl rfl 12 (by decide) (hts (.fieldLink RX5 37 "FirstStatesModel" "read" "[I") (List.mem_of_getElem? (i := 6) rfl)) (fun _ h9 => h9) rfl dX5_store_84 ?_
        refine lv_aload_n hx hb dX5_store_87 rfl (lv_at hl 0 rfl) ?_
        refine va_get (D := D) (ci := 5) (v := .int (nI ms)) (C := RX5) (T := TX5) (N := 24) hx hb hts (fun w h => List.mem_cons_of_mem _ (List.mem_append_right _ h)) hown hK hP 0 rfl rfl 8 (by decide) (hts (.fieldLink RX5 85 "FirstStatesModel" "stores" "I") (List.mem_of_getElem? (i := 1) rfl)) (fun _ h9 => h9) rfl dX5_store_88 ?_
        refine lv_aload_n hx hb dX5_store_91 rfl (lv_at hl 0 rfl) ?_
        refine va_get (D := D) (ci := 5) (v := .int (nI mn)) (C := RX5) (T := TX5) (N := 24) hx hb hts (fun w h => List.mem_cons_of_mem _ (List.mem_append_right _ h)) hown hK hP 0 rfl rfl 0 (by decide) (hts (.fieldLink RX5 74 "FirstStatesModel" "nodes" "I") (List.mem_of_getElem? (i := 2) rfl)) (fun _ h9 => h9) rfl dX5_store_92 ?_
        refine fx_iast (ar := nI) hx hb hK hP hD hS 10 (f := mre) (k := ms) (v := mn) rfl (by omega) (by decide) rfl dX5_store_95 (fun H locs hP hD hS => ?_)
        have hP : va_P D vwCl (wM z cI cZ mn mi ms mtk mso mwh mfi mse mth mpu (va_up mno ms mn) (va_up mlo ms ln) (va_up mbe ms v) (va_up mre ms mn) mis mca mpa mva mle mst mtn mln mne mgo) H := hP
        have hD : va_D A (wM z cI cZ mn mi ms mtk mso mwh mfi mse mth mpu (va_up mno ms mn) (va_up mlo ms ln) (va_up mbe ms v) (va_up mre ms mn) mis mca mpa mva mle mst mtn mln mne mgo) := fx_D hD rfl
        refine lv_aload_n hx hb dX5_store_96 rfl (lv_at hl 0 rfl) ?_
        refine lv_dup hx hb dX5_store_97 rfl ?_
        refine va_get (D := D) (ci := 5) (v := .int (nI ms)) (C := RX5) (T := TX5) (N := 24) hx hb hts (fun w h => List.mem_cons_of_mem _ (List.mem_append_right _ h)) hown hK hP 0 rfl rfl 8 (by decide) (hts (.fieldLink RX5 85 "FirstStatesModel" "stores" "I") (List.mem_of_getElem? (i := 1) rfl)) (fun _ h9 => h9) rfl dX5_store_98 ?_
        refine lv_iconst (v := nI 1) hx hb dX5_store_101 (by decide) ?_
        refine lv_iadd hx hb dX5_store_102 ?_
        refine fx_eqi (nI_add _ _) ?_
        refine va_put (D := D) (ci := 5) (v := .int (nI (ms + 1))) (ty := .int) (C := RX5) (T := TX5) (N := 24) hx hb hts (fun w h => List.mem_cons_of_mem _ (List.mem_append_right _ h)) tyX5 tyX5_ok nmX5 hown hK hP hD hS 0 rfl rfl 8 (by decide) (hts (.fieldLink RX5 85 "FirstStatesModel" "stores" "I") (List.mem_of_getElem? (i := 1) rfl)) (fun _ h9 => h9) rfl (by decide +kernel) rfl rfl (Nat.le_of_ble_eq_true rfl) dX5_store_103 (fun H locs hP hD hS => ?_)
        have hP : va_P D vwCl (wM z cI cZ mn mi (ms + 1) mtk mso mwh mfi mse mth mpu (va_up mno ms mn) (va_up mlo ms ln) (va_up mbe ms v) (va_up mre ms mn) mis mca mpa mva mle mst mtn mln mne mgo) H := hP
        have hD : va_D A (wM z cI cZ mn mi (ms + 1) mtk mso mwh mfi mse mth mpu (va_up mno ms mn) (va_up mlo ms ln) (va_up mbe ms v) (va_up mre ms mn) mis mca mpa mva mle mst mtn mln mne mgo) := fx_D hD rfl
        refine lv_aload_n hx hb dX5_store_106 rfl (lv_at hl 0 rfl) ?_
        refine lv_iconst (v := nI 3) hx hb dX5_store_107 (by decide) ?_
        refine lv_aload_n hx hb dX5_store_108 rfl (lv_at hl 0 rfl) ?_
        refine va_get (D := D) (ci := 5) (v := .int (nI (ms + 1))) (C := RX5) (T := TX5) (N := 24) hx hb hts (fun w h => List.mem_cons_of_mem _ (List.mem_append_right _ h)) hown hK hP 0 rfl rfl 8 (by decide) (hts (.fieldLink RX5 85 "FirstStatesModel" "stores" "I") (List.mem_of_getElem? (i := 1) rfl)) (fun _ h9 => h9) rfl dX5_store_109 ?_
        refine lv_iconst (v := nI 1) hx hb dX5_store_112 (by decide) ?_
        refine lv_isub hx hb dX5_store_113 ?_
        refine fx_eqi (x := (nI (ms + 1)) - (nI 1)) (y := nI ms) (by rw [pk_sub (by omega)]; rfl) ?_
        refine lv_iconst (v := nI 0) hx hb dX5_store_114 (by decide) ?_
        refine lv_iconst (v := nI 0) hx hb dX5_store_115 (by decide) ?_
        refine lv_iconst (v := nI 0) hx hb dX5_store_116 (by decide) ?_
        refine fx_callV (As := [.int (nI 3), .int (nI ms), .int (nI 0), .int (nI 0), .int (nI 0)]) (rest := []) ⟨hx, hb, hml, hown, hts⟩ (c_X5_add l D cI cJ cZ z mn mi (ms + 1) mtk mso mwh mfi mse mth mpu (va_up mno ms mn) (va_up mlo ms ln) (va_up mbe ms v) (va_up mre ms mn) mis mca mpa mva mle mst mtn mln mne mgo 3 ms 0 0 0 (by first | assumption | omega) (by first | assumption | omega)) (cwV 5 hts gX5_store_X5_add rfl rfl rfl kv_X5_add ⟨Nat.le_of_ble_eq_true rfl, Nat.le_of_ble_eq_true rfl⟩) hK hP hD hS hA hZ 0 rfl rfl rfl rfl hl.1 rfl (lv_room (Nat.le_of_ble_eq_true rfl)) dX5_store_117 ⟨Nat.zero_le _, Nat.zero_le _⟩ (fun u_2 H locs hu_2 hP hD hS => ?_)
        have hP : va_P D vwCl (wM z cI cZ (mn + 1) mi (ms + 1) 0 (va_up mso mn 3) (va_up mwh mn ms) (va_up mfi mn 0) (va_up mse mn 0) (va_up mth mn 0) mpu (va_up mno ms mn) (va_up mlo ms ln) (va_up mbe ms v) (va_up mre ms mn) mis (mixF (fun jj => decide (jj < 2 ^ (ms + 1))) mca 64) (mixF (fun _ => 2) mpa 6) mva mle mst mtn mln mne mgo) H := hP
        have hD : va_D A (wM z cI cZ (mn + 1) mi (ms + 1) 0 (va_up mso mn 3) (va_up mwh mn ms) (va_up mfi mn 0) (va_up mse mn 0) (va_up mth mn 0) mpu (va_up mno ms mn) (va_up mlo ms ln) (va_up mbe ms v) (va_up mre ms mn) mis (mixF (fun jj => decide (jj < 2 ^ (ms + 1))) mca 64) (mixF (fun _ => 2) mpa 6) mva mle mst mtn mln mne mgo) := fx_D hD rfl
        exact hri () _ H locs 120 ls .int rfl rfl trivial rfl hP hD hS dX5_store_120
      have f_44 : mn = 32 := (nI_eq (a := mn) (b := 32) (by first | omega | exact b_and1 _ | exact b_ct _ _ (by omega) | exact b_andr _ (by omega)) (by first | omega | exact b_and1 _ | exact b_ct _ _ (by omega) | exact b_andr _ (by omega))).mp c_44
      exfalso; omega
    have f_23 : (inB (nI v) (nI 0) (nI 1)) = false := bI_0.mp c_23
    exfalso; rw [inB_nI (by omega) (by omega) (by omega)] at f_23; simp at f_23; omega
  have f_3 : ¬ ln = 4 := fun h => c_3 ((lI_9 (by first | omega | exact b_and1 _ | exact b_ct _ _ (by omega) | exact b_andr _ (by omega))).mpr h)
  refine lv_iload_n hx hb dX5_store_6 rfl (lv_at hl 1 rfl) ?_
  refine lv_iconst (v := nI 0) hx hb dX5_store_7 (by decide) ?_
  refine lv_iconst (v := nI 3) hx hb dX5_store_8 (by decide) ?_
  refine fx_callS (As := [.int (lI ln), .int (nI 0), .int (nI 3)]) (rest := []) ⟨hx, hb, hml, hown, hts⟩ (c_X5_in l D cI cJ cZ (wM z cI cZ mn mi ms mtk mso mwh mfi mse mth mpu mno mlo mbe mre mis mca mpa mva mle mst mtn mln mne mgo) (lI ln) (nI 0) (nI 3)) (va_cwS 3 hts gX5_store_X5_in rfl rfl rfl ks_X5_in ⟨Nat.le_of_ble_eq_true rfl, Nat.le_of_ble_eq_true rfl⟩) hK hP hD hS hA hZ rfl hl.1 rfl (lv_room (Nat.le_of_ble_eq_true rfl)) dX5_store_9 ⟨Nat.zero_le _, Nat.zero_le _⟩ (fun u_3 H locs hu_3 hP hD hS => ?_)
  refine lv_if_ne (tgt := 17) hx hb dX5_store_12 (by decide) (fun c_12 => ?_) (fun c_12 => ?_)
  · have f_12 : (inB (lI ln) (nI 0) (nI 3)) = true := bI_n0.mp c_12
    refine lv_iload_n hx hb dX5_store_17 rfl (lv_at hl 2 rfl) ?_
    refine lv_iconst (v := nI 0) hx hb dX5_store_18 (by decide) ?_
    refine lv_iconst (v := nI 1) hx hb dX5_store_19 (by decide) ?_
    refine fx_callS (As := [.int (nI v), .int (nI 0), .int (nI 1)]) (rest := []) ⟨hx, hb, hml, hown, hts⟩ (c_X5_in l D cI cJ cZ (wM z cI cZ mn mi ms mtk mso mwh mfi mse mth mpu mno mlo mbe mre mis mca mpa mva mle mst mtn mln mne mgo) (nI v) (nI 0) (nI 1)) (va_cwS 3 hts gX5_store_X5_in rfl rfl rfl ks_X5_in ⟨Nat.le_of_ble_eq_true rfl, Nat.le_of_ble_eq_true rfl⟩) hK hP hD hS hA hZ rfl hl.1 rfl (lv_room (Nat.le_of_ble_eq_true rfl)) dX5_store_20 ⟨Nat.zero_le _, Nat.zero_le _⟩ (fun u_4 H locs hu_4 hP hD hS => ?_)
    refine lv_if_ne (tgt := 29) hx hb dX5_store_23 (by decide) (fun c_23 => ?_) (fun c_23 => ?_)
    · have f_23 : (inB (nI v) (nI 0) (nI 1)) = true := bI_n0.mp c_23
      refine lv_aload_n hx hb dX5_store_29 rfl (lv_at hl 0 rfl) ?_
      refine va_get (D := D) (ci := 5) (v := .int (nI ms)) (C := RX5) (T := TX5) (N := 24) hx hb hts (fun w h => List.mem_cons_of_mem _ (List.mem_append_right _ h)) hown hK hP 0 rfl rfl 8 (by decide) (hts (.fieldLink RX5 85 "FirstStatesModel" "stores" "I") (List.mem_of_getElem? (i := 1) rfl)) (fun _ h9 => h9) rfl dX5_store_30 ?_
      refine lv_bipush (v := nI 6) hx hb dX5_store_33 (by decide) ?_
      refine lv_icmp_eq (tgt := 47) hx hb dX5_store_35 (by decide) (fun c_35 => ?_) (fun c_35 => ?_)
      · have f_35 : ms = 6 := (nI_eq (a := ms) (b := 6) (by first | omega | exact b_and1 _ | exact b_ct _ _ (by omega) | exact b_andr _ (by omega)) (by first | omega | exact b_and1 _ | exact b_ct _ _ (by omega) | exact b_andr _ (by omega))).mp c_35
        exfalso; omega
      have f_35 : ¬ ms = 6 := fun h => c_35 ((nI_eq (a := ms) (b := 6) (by first | omega | exact b_and1 _ | exact b_ct _ _ (by omega) | exact b_andr _ (by omega)) (by first | omega | exact b_and1 _ | exact b_ct _ _ (by omega) | exact b_andr _ (by omega))).mpr h)
      refine lv_aload_n hx hb dX5_store_38 rfl (lv_at hl 0 rfl) ?_
      refine va_get (D := D) (ci := 5) (v := .int (nI mn)) (C := RX5) (T := TX5) (N := 24) hx hb hts (fun w h => List.mem_cons_of_mem _ (List.mem_append_right _ h)) hown hK hP 0 rfl rfl 0 (by decide) (hts (.fieldLink RX5 74 "FirstStatesModel" "nodes" "I") (List.mem_of_getElem? (i := 2) rfl)) (fun _ h9 => h9) rfl dX5_store_39 ?_
      refine lv_bipush (v := nI 32) hx hb dX5_store_42 (by decide) ?_
      refine lv_icmp_ne (tgt := 50) hx hb dX5_store_44 (by decide) (fun c_44 => ?_) (fun c_44 => ?_)
      · have f_44 : ¬ mn = 32 := fun h => c_44 ((nI_eq (a := mn) (b := 32) (by first | omega | exact b_and1 _ | exact b_ct _ _ (by omega) | exact b_andr _ (by omega)) (by first | omega | exact b_and1 _ | exact b_ct _ _ (by omega) | exact b_andr _ (by omega))).mpr h)
        refine lv_aload_n hx hb dX5_store_50 rfl (lv_at hl 0 rfl) ?_
        refine va_get (D := D) (ci := 5) (v := .ref (z 7)) (C := RX5) (T := TX5) (N := 24) hx hb hts (fun w h => List.mem_cons_of_mem _ (List.mem_append_right _ h)) hown hK hP 0 rfl rfl 9 (by decide) (hts (.fieldLink RX5 28 "FirstStatesModel" "node" "[I") (List.mem_of_getElem? (i := 3) rfl)) (fun _ h9 => h9) rfl dX5_store_51 ?_
        refine lv_aload_n hx hb dX5_store_54 rfl (lv_at hl 0 rfl) ?_
        refine va_get (D := D) (ci := 5) (v := .int (nI ms)) (C := RX5) (T := TX5) (N := 24) hx hb hts (fun w h => List.mem_cons_of_mem _ (List.mem_append_right _ h)) hown hK hP 0 rfl rfl 8 (by decide) (hts (.fieldLink RX5 85 "FirstStatesModel" "stores" "I") (List.mem_of_getElem? (i := 1) rfl)) (fun _ h9 => h9) rfl dX5_store_55 ?_
        refine lv_aload_n hx hb dX5_store_58 rfl (lv_at hl 0 rfl) ?_
        refine va_get (D := D) (ci := 5) (v := .int (nI mn)) (C := RX5) (T := TX5) (N := 24) hx hb hts (fun w h => List.mem_cons_of_mem _ (List.mem_append_right _ h)) hown hK hP 0 rfl rfl 0 (by decide) (hts (.fieldLink RX5 74 "FirstStatesModel" "nodes" "I") (List.mem_of_getElem? (i := 2) rfl)) (fun _ h9 => h9) rfl dX5_store_59 ?_
        refine fx_iast (ar := nI) hx hb hK hP hD hS 7 (f := mno) (k := ms) (v := mn) rfl (by omega) (by decide) rfl dX5_store_62 (fun H locs hP hD hS => ?_)
        have hP : va_P D vwCl (wM z cI cZ mn mi ms mtk mso mwh mfi mse mth mpu (va_up mno ms mn) mlo mbe mre mis mca mpa mva mle mst mtn mln mne mgo) H := hP
        have hD : va_D A (wM z cI cZ mn mi ms mtk mso mwh mfi mse mth mpu (va_up mno ms mn) mlo mbe mre mis mca mpa mva mle mst mtn mln mne mgo) := fx_D hD rfl
        refine lv_aload_n hx hb dX5_store_63 rfl (lv_at hl 0 rfl) ?_
        refine va_get (D := D) (ci := 5) (v := .ref (z 8)) (C := RX5) (T := TX5) (N := 24) hx hb hts (fun w h => List.mem_cons_of_mem _ (List.mem_append_right _ h)) hown hK hP 0 rfl rfl 10 (by decide) (hts (.fieldLink RX5 31 "FirstStatesModel" "lineOf" "[I") (List.mem_of_getElem? (i := 4) rfl)) (fun _ h9 => h9) rfl dX5_store_64 ?_
        refine lv_aload_n hx hb dX5_store_67 rfl (lv_at hl 0 rfl) ?_
        refine va_get (D := D) (ci := 5) (v := .int (nI ms)) (C := RX5) (T := TX5) (N := 24) hx hb hts (fun w h => List.mem_cons_of_mem _ (List.mem_append_right _ h)) hown hK hP 0 rfl rfl 8 (by decide) (hts (.fieldLink RX5 85 "FirstStatesModel" "stores" "I") (List.mem_of_getElem? (i := 1) rfl)) (fun _ h9 => h9) rfl dX5_store_68 ?_
        refine lv_iload_n hx hb dX5_store_71 rfl (lv_at hl 1 rfl) ?_
        refine fx_iast (ar := lI) hx hb hK hP hD hS 8 (f := mlo) (k := ms) (v := ln) rfl (by omega) (by decide) rfl dX5_store_72 (fun H locs hP hD hS => ?_)
        have hP : va_P D vwCl (wM z cI cZ mn mi ms mtk mso mwh mfi mse mth mpu (va_up mno ms mn) (va_up mlo ms ln) mbe mre mis mca mpa mva mle mst mtn mln mne mgo) H := hP
        have hD : va_D A (wM z cI cZ mn mi ms mtk mso mwh mfi mse mth mpu (va_up mno ms mn) (va_up mlo ms ln) mbe mre mis mca mpa mva mle mst mtn mln mne mgo) := fx_D hD rfl
        refine lv_aload_n hx hb dX5_store_73 rfl (lv_at hl 0 rfl) ?_
        refine va_get (D := D) (ci := 5) (v := .ref (z 9)) (C := RX5) (T := TX5) (N := 24) hx hb hts (fun w h => List.mem_cons_of_mem _ (List.mem_append_right _ h)) hown hK hP 0 rfl rfl 11 (by decide) (hts (.fieldLink RX5 34 "FirstStatesModel" "begins" "[I") (List.mem_of_getElem? (i := 5) rfl)) (fun _ h9 => h9) rfl dX5_store_74 ?_
        refine lv_aload_n hx hb dX5_store_77 rfl (lv_at hl 0 rfl) ?_
        refine va_get (D := D) (ci := 5) (v := .int (nI ms)) (C := RX5) (T := TX5) (N := 24) hx hb hts (fun w h => List.mem_cons_of_mem _ (List.mem_append_right _ h)) hown hK hP 0 rfl rfl 8 (by decide) (hts (.fieldLink RX5 85 "FirstStatesModel" "stores" "I") (List.mem_of_getElem? (i := 1) rfl)) (fun _ h9 => h9) rfl dX5_store_78 ?_
        refine lv_iload_n hx hb dX5_store_81 rfl (lv_at hl 2 rfl) ?_
        refine fx_iast (ar := nI) hx hb hK hP hD hS 9 (f := mbe) (k := ms) (v := v) rfl (by omega) (by decide) rfl dX5_store_82 (fun H locs hP hD hS => ?_)
        have hP : va_P D vwCl (wM z cI cZ mn mi ms mtk mso mwh mfi mse mth mpu (va_up mno ms mn) (va_up mlo ms ln) (va_up mbe ms v) mre mis mca mpa mva mle mst mtn mln mne mgo) H := hP
        have hD : va_D A (wM z cI cZ mn mi ms mtk mso mwh mfi mse mth mpu (va_up mno ms mn) (va_up mlo ms ln) (va_up mbe ms v) mre mis mca mpa mva mle mst mtn mln mne mgo) := fx_D hD rfl
        refine lv_aload_n hx hb dX5_store_83 rfl (lv_at hl 0 rfl) ?_
        refine va_get (D := D) (ci := 5) (v := .ref (z 10)) (C := RX5) (T := TX5) (N := 24) hx hb hts (fun w h => List.mem_cons_of_mem _ (List.mem_append_right _ h)) hown hK hP 0 rfl rfl 12 (by decide) (hts (.fieldLink RX5 37 "FirstStatesModel" "read" "[I") (List.mem_of_getElem? (i := 6) rfl)) (fun _ h9 => h9) rfl dX5_store_84 ?_
        refine lv_aload_n hx hb dX5_store_87 rfl (lv_at hl 0 rfl) ?_
        refine va_get (D := D) (ci := 5) (v := .int (nI ms)) (C := RX5) (T := TX5) (N := 24) hx hb hts (fun w h => List.mem_cons_of_mem _ (List.mem_append_right _ h)) hown hK hP 0 rfl rfl 8 (by decide) (hts (.fieldLink RX5 85 "FirstStatesModel" "stores" "I") (List.mem_of_getElem? (i := 1) rfl)) (fun _ h9 => h9) rfl dX5_store_88 ?_
        refine lv_aload_n hx hb dX5_store_91 rfl (lv_at hl 0 rfl) ?_
        refine va_get (D := D) (ci := 5) (v := .int (nI mn)) (C := RX5) (T := TX5) (N := 24) hx hb hts (fun w h => List.mem_cons_of_mem _ (List.mem_append_right _ h)) hown hK hP 0 rfl rfl 0 (by decide) (hts (.fieldLink RX5 74 "FirstStatesModel" "nodes" "I") (List.mem_of_getElem? (i := 2) rfl)) (fun _ h9 => h9) rfl dX5_store_92 ?_
        refine fx_iast (ar := nI) hx hb hK hP hD hS 10 (f := mre) (k := ms) (v := mn) rfl (by omega) (by decide) rfl dX5_store_95 (fun H locs hP hD hS => ?_)
        have hP : va_P D vwCl (wM z cI cZ mn mi ms mtk mso mwh mfi mse mth mpu (va_up mno ms mn) (va_up mlo ms ln) (va_up mbe ms v) (va_up mre ms mn) mis mca mpa mva mle mst mtn mln mne mgo) H := hP
        have hD : va_D A (wM z cI cZ mn mi ms mtk mso mwh mfi mse mth mpu (va_up mno ms mn) (va_up mlo ms ln) (va_up mbe ms v) (va_up mre ms mn) mis mca mpa mva mle mst mtn mln mne mgo) := fx_D hD rfl
        refine lv_aload_n hx hb dX5_store_96 rfl (lv_at hl 0 rfl) ?_
        refine lv_dup hx hb dX5_store_97 rfl ?_
        refine va_get (D := D) (ci := 5) (v := .int (nI ms)) (C := RX5) (T := TX5) (N := 24) hx hb hts (fun w h => List.mem_cons_of_mem _ (List.mem_append_right _ h)) hown hK hP 0 rfl rfl 8 (by decide) (hts (.fieldLink RX5 85 "FirstStatesModel" "stores" "I") (List.mem_of_getElem? (i := 1) rfl)) (fun _ h9 => h9) rfl dX5_store_98 ?_
        refine lv_iconst (v := nI 1) hx hb dX5_store_101 (by decide) ?_
        refine lv_iadd hx hb dX5_store_102 ?_
        refine fx_eqi (nI_add _ _) ?_
        refine va_put (D := D) (ci := 5) (v := .int (nI (ms + 1))) (ty := .int) (C := RX5) (T := TX5) (N := 24) hx hb hts (fun w h => List.mem_cons_of_mem _ (List.mem_append_right _ h)) tyX5 tyX5_ok nmX5 hown hK hP hD hS 0 rfl rfl 8 (by decide) (hts (.fieldLink RX5 85 "FirstStatesModel" "stores" "I") (List.mem_of_getElem? (i := 1) rfl)) (fun _ h9 => h9) rfl (by decide +kernel) rfl rfl (Nat.le_of_ble_eq_true rfl) dX5_store_103 (fun H locs hP hD hS => ?_)
        have hP : va_P D vwCl (wM z cI cZ mn mi (ms + 1) mtk mso mwh mfi mse mth mpu (va_up mno ms mn) (va_up mlo ms ln) (va_up mbe ms v) (va_up mre ms mn) mis mca mpa mva mle mst mtn mln mne mgo) H := hP
        have hD : va_D A (wM z cI cZ mn mi (ms + 1) mtk mso mwh mfi mse mth mpu (va_up mno ms mn) (va_up mlo ms ln) (va_up mbe ms v) (va_up mre ms mn) mis mca mpa mva mle mst mtn mln mne mgo) := fx_D hD rfl
        refine lv_aload_n hx hb dX5_store_106 rfl (lv_at hl 0 rfl) ?_
        refine lv_iconst (v := nI 3) hx hb dX5_store_107 (by decide) ?_
        refine lv_aload_n hx hb dX5_store_108 rfl (lv_at hl 0 rfl) ?_
        refine va_get (D := D) (ci := 5) (v := .int (nI (ms + 1))) (C := RX5) (T := TX5) (N := 24) hx hb hts (fun w h => List.mem_cons_of_mem _ (List.mem_append_right _ h)) hown hK hP 0 rfl rfl 8 (by decide) (hts (.fieldLink RX5 85 "FirstStatesModel" "stores" "I") (List.mem_of_getElem? (i := 1) rfl)) (fun _ h9 => h9) rfl dX5_store_109 ?_
        refine lv_iconst (v := nI 1) hx hb dX5_store_112 (by decide) ?_
        refine lv_isub hx hb dX5_store_113 ?_
        refine fx_eqi (x := (nI (ms + 1)) - (nI 1)) (y := nI ms) (by rw [pk_sub (by omega)]; rfl) ?_
        refine lv_iconst (v := nI 0) hx hb dX5_store_114 (by decide) ?_
        refine lv_iconst (v := nI 0) hx hb dX5_store_115 (by decide) ?_
        refine lv_iconst (v := nI 0) hx hb dX5_store_116 (by decide) ?_
        refine fx_callV (As := [.int (nI 3), .int (nI ms), .int (nI 0), .int (nI 0), .int (nI 0)]) (rest := []) ⟨hx, hb, hml, hown, hts⟩ (c_X5_add l D cI cJ cZ z mn mi (ms + 1) mtk mso mwh mfi mse mth mpu (va_up mno ms mn) (va_up mlo ms ln) (va_up mbe ms v) (va_up mre ms mn) mis mca mpa mva mle mst mtn mln mne mgo 3 ms 0 0 0 (by first | assumption | omega) (by first | assumption | omega)) (cwV 5 hts gX5_store_X5_add rfl rfl rfl kv_X5_add ⟨Nat.le_of_ble_eq_true rfl, Nat.le_of_ble_eq_true rfl⟩) hK hP hD hS hA hZ 0 rfl rfl rfl rfl hl.1 rfl (lv_room (Nat.le_of_ble_eq_true rfl)) dX5_store_117 ⟨Nat.zero_le _, Nat.zero_le _⟩ (fun u_5 H locs hu_5 hP hD hS => ?_)
        have hP : va_P D vwCl (wM z cI cZ (mn + 1) mi (ms + 1) 0 (va_up mso mn 3) (va_up mwh mn ms) (va_up mfi mn 0) (va_up mse mn 0) (va_up mth mn 0) mpu (va_up mno ms mn) (va_up mlo ms ln) (va_up mbe ms v) (va_up mre ms mn) mis (mixF (fun jj => decide (jj < 2 ^ (ms + 1))) mca 64) (mixF (fun _ => 2) mpa 6) mva mle mst mtn mln mne mgo) H := hP
        have hD : va_D A (wM z cI cZ (mn + 1) mi (ms + 1) 0 (va_up mso mn 3) (va_up mwh mn ms) (va_up mfi mn 0) (va_up mse mn 0) (va_up mth mn 0) mpu (va_up mno ms mn) (va_up mlo ms ln) (va_up mbe ms v) (va_up mre ms mn) mis (mixF (fun jj => decide (jj < 2 ^ (ms + 1))) mca 64) (mixF (fun _ => 2) mpa 6) mva mle mst mtn mln mne mgo) := fx_D hD rfl
        exact hri () _ H locs 120 ls .int rfl rfl trivial rfl hP hD hS dX5_store_120
      have f_44 : mn = 32 := (nI_eq (a := mn) (b := 32) (by first | omega | exact b_and1 _ | exact b_ct _ _ (by omega) | exact b_andr _ (by omega)) (by first | omega | exact b_and1 _ | exact b_ct _ _ (by omega) | exact b_andr _ (by omega))).mp c_44
      exfalso; omega
    have f_23 : (inB (nI v) (nI 0) (nI 1)) = false := bI_0.mp c_23
    exfalso; rw [inB_nI (by omega) (by omega) (by omega)] at f_23; simp at f_23; omega
  have f_12 : (inB (lI ln) (nI 0) (nI 3)) = false := bI_0.mp c_12
  exfalso; rw [lI_lt (by omega), inB_nI (by omega) (by omega) (by omega)] at f_12; simp at f_12; omega
set_option maxHeartbeats 4000000 in
set_option maxRecDepth 100000 in
theorem c_X5_reads_u (l : Launch) (D : va_G) (cI cJ cZ : ClassId) (z : Nat → Nat) (mn : Nat) (mi : Nat) (ms : Nat) (mtk : Nat) (mso : Nat → Nat) (mwh : Nat → Nat) (mfi : Nat → Nat) (mse : Nat → Nat) (mth : Nat → Nat) (mpu : Nat → Nat) (mno : Nat → Nat) (mlo : Nat → Nat) (mbe : Nat → Nat) (mre : Nat → Nat) (mis : Nat → Bool) (mca : Nat → Bool) (mpa : Nat → Nat) (mva : Nat → Nat) (mle : Nat → Nat) (mst : Nat → Bool) (mtn : Nat → Bool) (mln : Nat → Nat) (mne : Nat → Int32) (mgo : Nat → Int32) (x : Int32) (y : Int32) (hmn : mn ≤ 32) (hu : (isN mn x && isN mn y) = false) : Ct l D cI cJ cZ yX5_reads wsX5_reads ({ frames := 2, cells := 0, slots := 0, locals := 43 } : Room) 0 0 [.ref (z 0), .int x, .int y] (wM z cI cZ mn mi ms mtk mso mwh mfi mse mth mpu mno mlo mbe mre mis mca mpa mva mle mst mtn mln mne mgo) (S := Unit) (fun u => True) (fun u => some (.int (-1))) (fun u => (wM z cI cZ mn mi ms mtk mso mwh mfi mse mth mpu mno mlo mbe mre mis mca mpa mva mle mst mtn mln mne mgo)) := by
  refine Ct.ofW (cc := cX5_reads) (maxL := 4) (ret := (some .int)) (R_C := RX5) (by decide +kernel) rfl rfl (Nat.le_of_ble_eq_true rfl) rfl ?_
  intro p e s m args below meth c A Q ls H locs hx hb hml hown hts hK hA hP hD hS hZ hl hri hrl hrv
  refine lv_aload_n hx hb dX5_reads_0 rfl (lv_at hl 0 rfl) ?_
  refine lv_iload_n hx hb dX5_reads_1 rfl (lv_at hl 1 rfl) ?_
  refine fx_callV (As := [.int x]) (rest := []) ⟨hx, hb, hml, hown, hts⟩ (c_X5_isNode l D cI cJ cZ z mn mi ms mtk mso mwh mfi mse mth mpu mno mlo mbe mre mis mca mpa mva mle mst mtn mln mne mgo x (by first | assumption | omega)) (cwV 1 hts gX5_reads_X5_isNode rfl rfl rfl kv_X5_isNode ⟨Nat.le_of_ble_eq_true rfl, Nat.le_of_ble_eq_true rfl⟩) hK hP hD hS hA hZ 0 rfl rfl rfl rfl hl.1 rfl (lv_room (Nat.le_of_ble_eq_true rfl)) dX5_reads_2 ⟨Nat.zero_le _, Nat.zero_le _⟩ (fun u_1 H locs hu_1 hP hD hS => ?_)
  refine lv_if_eq (tgt := 16) hx hb dX5_reads_5 (by decide) (fun c_5 => ?_) (fun c_5 => ?_)
  · have f_5 : (isN mn x) = false := bI_0.mp c_5
    refine lv_iconst (v := (-1)) hx hb dX5_reads_16 (by decide) ?_
    exact hri () _ H locs 17 ls .int rfl rfl trivial rfl hP hD hS dX5_reads_17
  have f_5 : (isN mn x) = true := bI_n0.mp c_5
  refine lv_aload_n hx hb dX5_reads_8 rfl (lv_at hl 0 rfl) ?_
  refine lv_iload_n hx hb dX5_reads_9 rfl (lv_at hl 2 rfl) ?_
  refine fx_callV (As := [.int y]) (rest := []) ⟨hx, hb, hml, hown, hts⟩ (c_X5_isNode l D cI cJ cZ z mn mi ms mtk mso mwh mfi mse mth mpu mno mlo mbe mre mis mca mpa mva mle mst mtn mln mne mgo y (by first | assumption | omega)) (cwV 1 hts gX5_reads_X5_isNode rfl rfl rfl kv_X5_isNode ⟨Nat.le_of_ble_eq_true rfl, Nat.le_of_ble_eq_true rfl⟩) hK hP hD hS hA hZ 0 rfl rfl rfl rfl hl.1 rfl (lv_room (Nat.le_of_ble_eq_true rfl)) dX5_reads_10 ⟨Nat.zero_le _, Nat.zero_le _⟩ (fun u_2 H locs hu_2 hP hD hS => ?_)
  refine lv_if_ne (tgt := 18) hx hb dX5_reads_13 (by decide) (fun c_13 => ?_) (fun c_13 => ?_)
  · have f_13 : (isN mn y) = true := bI_n0.mp c_13
    exfalso; simp [f_5, f_13] at hu
  have f_13 : (isN mn y) = false := bI_0.mp c_13
  refine lv_iconst (v := (-1)) hx hb dX5_reads_16 (by decide) ?_
  exact hri () _ H locs 17 ls .int rfl rfl trivial rfl hP hD hS dX5_reads_17
set_option maxHeartbeats 4000000 in
set_option maxRecDepth 100000 in
theorem c_X5_reads_s (l : Launch) (D : va_G) (cI cJ cZ : ClassId) (z : Nat → Nat) (mn : Nat) (mi : Nat) (ms : Nat) (mtk : Nat) (mso : Nat → Nat) (mwh : Nat → Nat) (mfi : Nat → Nat) (mse : Nat → Nat) (mth : Nat → Nat) (mpu : Nat → Nat) (mno : Nat → Nat) (mlo : Nat → Nat) (mbe : Nat → Nat) (mre : Nat → Nat) (mis : Nat → Bool) (mca : Nat → Bool) (mpa : Nat → Nat) (mva : Nat → Nat) (mle : Nat → Nat) (mst : Nat → Bool) (mtn : Nat → Bool) (mln : Nat → Nat) (mne : Nat → Int32) (mgo : Nat → Int32) (k : Nat) (n : Nat) (hmn : mn ≤ 32) (hk : k < mn) (hn : n < mn) (hso : mso k ≤ 3) (h3 : ¬ mso k = 3) : Ct l D cI cJ cZ yX5_reads wsX5_reads ({ frames := 2, cells := 0, slots := 0, locals := 43 } : Room) 0 0 [.ref (z 0), .int (nI k), .int (nI n)] (wM z cI cZ mn mi ms mtk mso mwh mfi mse mth mpu mno mlo mbe mre mis mca mpa mva mle mst mtn mln mne mgo) (S := Unit) (fun u => True) (fun u => some (.int (-3))) (fun u => (wM z cI cZ mn mi ms mtk mso mwh mfi mse mth mpu mno mlo mbe mre mis mca mpa mva mle mst mtn mln mne mgo)) := by
  refine Ct.ofW (cc := cX5_reads) (maxL := 4) (ret := (some .int)) (R_C := RX5) (by decide +kernel) rfl rfl (Nat.le_of_ble_eq_true rfl) rfl ?_
  intro p e s m args below meth c A Q ls H locs hx hb hml hown hts hK hA hP hD hS hZ hl hri hrl hrv
  refine lv_aload_n hx hb dX5_reads_0 rfl (lv_at hl 0 rfl) ?_
  refine lv_iload_n hx hb dX5_reads_1 rfl (lv_at hl 1 rfl) ?_
  refine fx_callV (As := [.int (nI k)]) (rest := []) ⟨hx, hb, hml, hown, hts⟩ (c_X5_isNode l D cI cJ cZ z mn mi ms mtk mso mwh mfi mse mth mpu mno mlo mbe mre mis mca mpa mva mle mst mtn mln mne mgo (nI k) (by first | assumption | omega)) (cwV 1 hts gX5_reads_X5_isNode rfl rfl rfl kv_X5_isNode ⟨Nat.le_of_ble_eq_true rfl, Nat.le_of_ble_eq_true rfl⟩) hK hP hD hS hA hZ 0 rfl rfl rfl rfl hl.1 rfl (lv_room (Nat.le_of_ble_eq_true rfl)) dX5_reads_2 ⟨Nat.zero_le _, Nat.zero_le _⟩ (fun u_1 H locs hu_1 hP hD hS => ?_)
  refine lv_if_eq (tgt := 16) hx hb dX5_reads_5 (by decide) (fun c_5 => ?_) (fun c_5 => ?_)
  · have f_5 : (isN mn (nI k)) = false := bI_0.mp c_5
    exfalso; rw [isN_nI (by omega) (by omega)] at f_5; simp at f_5; omega
  have f_5 : (isN mn (nI k)) = true := bI_n0.mp c_5
  refine lv_aload_n hx hb dX5_reads_8 rfl (lv_at hl 0 rfl) ?_
  refine lv_iload_n hx hb dX5_reads_9 rfl (lv_at hl 2 rfl) ?_
  refine fx_callV (As := [.int (nI n)]) (rest := []) ⟨hx, hb, hml, hown, hts⟩ (c_X5_isNode l D cI cJ cZ z mn mi ms mtk mso mwh mfi mse mth mpu mno mlo mbe mre mis mca mpa mva mle mst mtn mln mne mgo (nI n) (by first | assumption | omega)) (cwV 1 hts gX5_reads_X5_isNode rfl rfl rfl kv_X5_isNode ⟨Nat.le_of_ble_eq_true rfl, Nat.le_of_ble_eq_true rfl⟩) hK hP hD hS hA hZ 0 rfl rfl rfl rfl hl.1 rfl (lv_room (Nat.le_of_ble_eq_true rfl)) dX5_reads_10 ⟨Nat.zero_le _, Nat.zero_le _⟩ (fun u_2 H locs hu_2 hP hD hS => ?_)
  refine lv_if_ne (tgt := 18) hx hb dX5_reads_13 (by decide) (fun c_13 => ?_) (fun c_13 => ?_)
  · have f_13 : (isN mn (nI n)) = true := bI_n0.mp c_13
    refine lv_aload_n hx hb dX5_reads_18 rfl (lv_at hl 0 rfl) ?_
    refine va_get (D := D) (ci := 5) (v := .ref (z 1)) (C := RX5) (T := TX5) (N := 24) hx hb hts (fun w h => List.mem_cons_of_mem _ (List.mem_append_right _ h)) hown hK hP 0 rfl rfl 1 (by decide) (hts (.fieldLink RX5 7 "FirstStatesModel" "sort" "[I") (List.mem_of_getElem? (i := 1) rfl)) (fun _ h9 => h9) rfl dX5_reads_19 ?_
    refine lv_iload_n hx hb dX5_reads_22 rfl (lv_at hl 1 rfl) ?_
    refine fx_iald (ar := nI) hx hb hK hP 1 (f := mso) (k := k) rfl (by omega) (by decide) dX5_reads_23 ?_
    refine lv_iconst (v := nI 3) hx hb dX5_reads_24 (by decide) ?_
    refine lv_icmp_eq (tgt := 31) hx hb dX5_reads_25 (by decide) (fun c_25 => ?_) (fun c_25 => ?_)
    · have f_25 : mso k = 3 := (nI_eq (a := mso k) (b := 3) (by first | omega | exact b_and1 _ | exact b_ct _ _ (by omega) | exact b_andr _ (by omega)) (by first | omega | exact b_and1 _ | exact b_ct _ _ (by omega) | exact b_andr _ (by omega))).mp c_25
      exfalso; omega
    have f_25 : ¬ mso k = 3 := fun h => c_25 ((nI_eq (a := mso k) (b := 3) (by first | omega | exact b_and1 _ | exact b_ct _ _ (by omega) | exact b_andr _ (by omega)) (by first | omega | exact b_and1 _ | exact b_ct _ _ (by omega) | exact b_andr _ (by omega))).mpr h)
    refine lv_bipush (v := (-3)) hx hb dX5_reads_28 (by decide) ?_
    exact hri () _ H locs 30 ls .int rfl rfl trivial rfl hP hD hS dX5_reads_30
  have f_13 : (isN mn (nI n)) = false := bI_0.mp c_13
  exfalso; rw [isN_nI (by omega) (by omega)] at f_13; simp at f_13; omega
set_option maxHeartbeats 4000000 in
set_option maxRecDepth 100000 in
theorem c_X5_reads_e (l : Launch) (D : va_G) (cI cJ cZ : ClassId) (z : Nat → Nat) (mn : Nat) (mi : Nat) (ms : Nat) (mtk : Nat) (mso : Nat → Nat) (mwh : Nat → Nat) (mfi : Nat → Nat) (mse : Nat → Nat) (mth : Nat → Nat) (mpu : Nat → Nat) (mno : Nat → Nat) (mlo : Nat → Nat) (mbe : Nat → Nat) (mre : Nat → Nat) (mis : Nat → Bool) (mca : Nat → Bool) (mpa : Nat → Nat) (mva : Nat → Nat) (mle : Nat → Nat) (mst : Nat → Bool) (mtn : Nat → Bool) (mln : Nat → Nat) (mne : Nat → Int32) (mgo : Nat → Int32) (k : Nat) (n : Nat) (hmn : mn ≤ 32) (hms : ms ≤ 6) (hk : k < mn) (hn : n < mn) (h3 : mso k = 3) (hs : mwh k < ms) (hr : mre (mwh k) = n) : Ct l D cI cJ cZ yX5_reads wsX5_reads ({ frames := 2, cells := 0, slots := 0, locals := 43 } : Room) 0 0 [.ref (z 0), .int (nI k), .int (nI n)] (wM z cI cZ mn mi ms mtk mso mwh mfi mse mth mpu mno mlo mbe mre mis mca mpa mva mle mst mtn mln mne mgo) (S := Unit) (fun u => True) (fun u => some (.int (nI (mre (mwh k))))) (fun u => (wM z cI cZ mn mi ms mtk mso mwh mfi mse mth mpu mno mlo mbe mre mis mca mpa mva mle mst mtn mln mne mgo)) := by
  refine Ct.ofW (cc := cX5_reads) (maxL := 4) (ret := (some .int)) (R_C := RX5) (by decide +kernel) rfl rfl (Nat.le_of_ble_eq_true rfl) rfl ?_
  intro p e s m args below meth c A Q ls H locs hx hb hml hown hts hK hA hP hD hS hZ hl hri hrl hrv
  refine lv_aload_n hx hb dX5_reads_0 rfl (lv_at hl 0 rfl) ?_
  refine lv_iload_n hx hb dX5_reads_1 rfl (lv_at hl 1 rfl) ?_
  refine fx_callV (As := [.int (nI k)]) (rest := []) ⟨hx, hb, hml, hown, hts⟩ (c_X5_isNode l D cI cJ cZ z mn mi ms mtk mso mwh mfi mse mth mpu mno mlo mbe mre mis mca mpa mva mle mst mtn mln mne mgo (nI k) (by first | assumption | omega)) (cwV 1 hts gX5_reads_X5_isNode rfl rfl rfl kv_X5_isNode ⟨Nat.le_of_ble_eq_true rfl, Nat.le_of_ble_eq_true rfl⟩) hK hP hD hS hA hZ 0 rfl rfl rfl rfl hl.1 rfl (lv_room (Nat.le_of_ble_eq_true rfl)) dX5_reads_2 ⟨Nat.zero_le _, Nat.zero_le _⟩ (fun u_1 H locs hu_1 hP hD hS => ?_)
  refine lv_if_eq (tgt := 16) hx hb dX5_reads_5 (by decide) (fun c_5 => ?_) (fun c_5 => ?_)
  · have f_5 : (isN mn (nI k)) = false := bI_0.mp c_5
    exfalso; rw [isN_nI (by omega) (by omega)] at f_5; simp at f_5; omega
  have f_5 : (isN mn (nI k)) = true := bI_n0.mp c_5
  refine lv_aload_n hx hb dX5_reads_8 rfl (lv_at hl 0 rfl) ?_
  refine lv_iload_n hx hb dX5_reads_9 rfl (lv_at hl 2 rfl) ?_
  refine fx_callV (As := [.int (nI n)]) (rest := []) ⟨hx, hb, hml, hown, hts⟩ (c_X5_isNode l D cI cJ cZ z mn mi ms mtk mso mwh mfi mse mth mpu mno mlo mbe mre mis mca mpa mva mle mst mtn mln mne mgo (nI n) (by first | assumption | omega)) (cwV 1 hts gX5_reads_X5_isNode rfl rfl rfl kv_X5_isNode ⟨Nat.le_of_ble_eq_true rfl, Nat.le_of_ble_eq_true rfl⟩) hK hP hD hS hA hZ 0 rfl rfl rfl rfl hl.1 rfl (lv_room (Nat.le_of_ble_eq_true rfl)) dX5_reads_10 ⟨Nat.zero_le _, Nat.zero_le _⟩ (fun u_2 H locs hu_2 hP hD hS => ?_)
  refine lv_if_ne (tgt := 18) hx hb dX5_reads_13 (by decide) (fun c_13 => ?_) (fun c_13 => ?_)
  · have f_13 : (isN mn (nI n)) = true := bI_n0.mp c_13
    refine lv_aload_n hx hb dX5_reads_18 rfl (lv_at hl 0 rfl) ?_
    refine va_get (D := D) (ci := 5) (v := .ref (z 1)) (C := RX5) (T := TX5) (N := 24) hx hb hts (fun w h => List.mem_cons_of_mem _ (List.mem_append_right _ h)) hown hK hP 0 rfl rfl 1 (by decide) (hts (.fieldLink RX5 7 "FirstStatesModel" "sort" "[I") (List.mem_of_getElem? (i := 1) rfl)) (fun _ h9 => h9) rfl dX5_reads_19 ?_
    refine lv_iload_n hx hb dX5_reads_22 rfl (lv_at hl 1 rfl) ?_
    refine fx_iald (ar := nI) hx hb hK hP 1 (f := mso) (k := k) rfl (by omega) (by decide) dX5_reads_23 ?_
    refine lv_iconst (v := nI 3) hx hb dX5_reads_24 (by decide) ?_
    refine lv_icmp_eq (tgt := 31) hx hb dX5_reads_25 (by decide) (fun c_25 => ?_) (fun c_25 => ?_)
    · have f_25 : mso k = 3 := (nI_eq (a := mso k) (b := 3) (by first | omega | exact b_and1 _ | exact b_ct _ _ (by omega) | exact b_andr _ (by omega)) (by first | omega | exact b_and1 _ | exact b_ct _ _ (by omega) | exact b_andr _ (by omega))).mp c_25
      refine lv_aload_n hx hb dX5_reads_31 rfl (lv_at hl 0 rfl) ?_
      refine va_get (D := D) (ci := 5) (v := .ref (z 10)) (C := RX5) (T := TX5) (N := 24) hx hb hts (fun w h => List.mem_cons_of_mem _ (List.mem_append_right _ h)) hown hK hP 0 rfl rfl 12 (by decide) (hts (.fieldLink RX5 37 "FirstStatesModel" "read" "[I") (List.mem_of_getElem? (i := 2) rfl)) (fun _ h9 => h9) rfl dX5_reads_32 ?_
      refine lv_aload_n hx hb dX5_reads_35 rfl (lv_at hl 0 rfl) ?_
      refine va_get (D := D) (ci := 5) (v := .ref (z 2)) (C := RX5) (T := TX5) (N := 24) hx hb hts (fun w h => List.mem_cons_of_mem _ (List.mem_append_right _ h)) hown hK hP 0 rfl rfl 2 (by decide) (hts (.fieldLink RX5 13 "FirstStatesModel" "which" "[I") (List.mem_of_getElem? (i := 3) rfl)) (fun _ h9 => h9) rfl dX5_reads_36 ?_
      refine lv_iload_n hx hb dX5_reads_39 rfl (lv_at hl 1 rfl) ?_
      refine fx_iald (ar := nI) hx hb hK hP 2 (f := mwh) (k := k) rfl (by omega) (by decide) dX5_reads_40 ?_
      refine fx_iald (ar := nI) hx hb hK hP 10 (f := mre) (k := (mwh k)) rfl (by omega) (by decide) dX5_reads_41 ?_
      refine lv_istore_n (lv' := [(3, .int (nI (mre (mwh k)))), (0, .ref (z 0)), (1, .int (nI k)), (2, .int (nI n))]) hx hb dX5_reads_42 rfl hl (by decide) rfl (fun ls hl => ?_)
      refine lv_iload_n hx hb dX5_reads_43 rfl (lv_at hl 0 rfl) ?_
      refine lv_iload_n hx hb dX5_reads_44 rfl (lv_at hl 3 rfl) ?_
      refine lv_icmp_eq (tgt := 64) hx hb dX5_reads_45 (by decide) (fun c_45 => ?_) (fun c_45 => ?_)
      · have f_45 : mre (mwh k) = n := (nI_eq (a := mre (mwh k)) (b := n) (by first | omega | exact b_and1 _ | exact b_ct _ _ (by omega) | exact b_andr _ (by omega)) (by first | omega | exact b_and1 _ | exact b_ct _ _ (by omega) | exact b_andr _ (by omega))).mp c_45
        refine lv_iload_n hx hb dX5_reads_64 rfl (lv_at hl 0 rfl) ?_
        exact hri () _ H locs 65 ls .int rfl rfl trivial rfl hP hD hS dX5_reads_65
      have f_45 : ¬ mre (mwh k) = n := fun h => c_45 ((nI_eq (a := mre (mwh k)) (b := n) (by first | omega | exact b_and1 _ | exact b_ct _ _ (by omega) | exact b_andr _ (by omega)) (by first | omega | exact b_and1 _ | exact b_ct _ _ (by omega) | exact b_andr _ (by omega))).mpr h)
      exfalso; omega
    have f_25 : ¬ mso k = 3 := fun h => c_25 ((nI_eq (a := mso k) (b := 3) (by first | omega | exact b_and1 _ | exact b_ct _ _ (by omega) | exact b_andr _ (by omega)) (by first | omega | exact b_and1 _ | exact b_ct _ _ (by omega) | exact b_andr _ (by omega))).mpr h)
    exfalso; omega
  have f_13 : (isN mn (nI n)) = false := bI_0.mp c_13
  exfalso; rw [isN_nI (by omega) (by omega)] at f_13; simp at f_13; omega
set_option maxHeartbeats 4000000 in
set_option maxRecDepth 100000 in
theorem c_X5_reads (l : Launch) (D : va_G) (cI cJ cZ : ClassId) (z : Nat → Nat) (mn : Nat) (mi : Nat) (ms : Nat) (mtk : Nat) (mso : Nat → Nat) (mwh : Nat → Nat) (mfi : Nat → Nat) (mse : Nat → Nat) (mth : Nat → Nat) (mpu : Nat → Nat) (mno : Nat → Nat) (mlo : Nat → Nat) (mbe : Nat → Nat) (mre : Nat → Nat) (mis : Nat → Bool) (mca : Nat → Bool) (mpa : Nat → Nat) (mva : Nat → Nat) (mle : Nat → Nat) (mst : Nat → Bool) (mtn : Nat → Bool) (mln : Nat → Nat) (mne : Nat → Int32) (mgo : Nat → Int32) (k : Nat) (n : Nat) (hmn : mn ≤ 32) (hms : ms ≤ 6) (hk : k < mn) (hn : n < mn) (h3 : mso k = 3) (hs : mwh k < ms) (hr1 : mre (mwh k) < mn) (hr : ¬ mre (mwh k) = n) : Ct l D cI cJ cZ yX5_reads wsX5_reads ({ frames := 2, cells := 0, slots := 0, locals := 43 } : Room) 0 0 [.ref (z 0), .int (nI k), .int (nI n)] (wM z cI cZ mn mi ms mtk mso mwh mfi mse mth mpu mno mlo mbe mre mis mca mpa mva mle mst mtn mln mne mgo) (S := Unit) (fun u => True) (fun u => some (.int (nI (mre (mwh k))))) (fun u => (wM z cI cZ mn mi ms 0 mso mwh mfi mse mth mpu mno mlo mbe (va_up mre (mwh k) n) mis (mixF (fun jj => decide (jj < 2 ^ ms)) mca 64) (mixF (fun _ => 2) mpa 6) mva mle mst mtn mln mne mgo)) := by
  refine Ct.ofW (cc := cX5_reads) (maxL := 4) (ret := (some .int)) (R_C := RX5) (by decide +kernel) rfl rfl (Nat.le_of_ble_eq_true rfl) rfl ?_
  intro p e s m args below meth c A Q ls H locs hx hb hml hown hts hK hA hP hD hS hZ hl hri hrl hrv
  refine lv_aload_n hx hb dX5_reads_0 rfl (lv_at hl 0 rfl) ?_
  refine lv_iload_n hx hb dX5_reads_1 rfl (lv_at hl 1 rfl) ?_
  refine fx_callV (As := [.int (nI k)]) (rest := []) ⟨hx, hb, hml, hown, hts⟩ (c_X5_isNode l D cI cJ cZ z mn mi ms mtk mso mwh mfi mse mth mpu mno mlo mbe mre mis mca mpa mva mle mst mtn mln mne mgo (nI k) (by first | assumption | omega)) (cwV 1 hts gX5_reads_X5_isNode rfl rfl rfl kv_X5_isNode ⟨Nat.le_of_ble_eq_true rfl, Nat.le_of_ble_eq_true rfl⟩) hK hP hD hS hA hZ 0 rfl rfl rfl rfl hl.1 rfl (lv_room (Nat.le_of_ble_eq_true rfl)) dX5_reads_2 ⟨Nat.zero_le _, Nat.zero_le _⟩ (fun u_1 H locs hu_1 hP hD hS => ?_)
  refine lv_if_eq (tgt := 16) hx hb dX5_reads_5 (by decide) (fun c_5 => ?_) (fun c_5 => ?_)
  · have f_5 : (isN mn (nI k)) = false := bI_0.mp c_5
    exfalso; rw [isN_nI (by omega) (by omega)] at f_5; simp at f_5; omega
  have f_5 : (isN mn (nI k)) = true := bI_n0.mp c_5
  refine lv_aload_n hx hb dX5_reads_8 rfl (lv_at hl 0 rfl) ?_
  refine lv_iload_n hx hb dX5_reads_9 rfl (lv_at hl 2 rfl) ?_
  refine fx_callV (As := [.int (nI n)]) (rest := []) ⟨hx, hb, hml, hown, hts⟩ (c_X5_isNode l D cI cJ cZ z mn mi ms mtk mso mwh mfi mse mth mpu mno mlo mbe mre mis mca mpa mva mle mst mtn mln mne mgo (nI n) (by first | assumption | omega)) (cwV 1 hts gX5_reads_X5_isNode rfl rfl rfl kv_X5_isNode ⟨Nat.le_of_ble_eq_true rfl, Nat.le_of_ble_eq_true rfl⟩) hK hP hD hS hA hZ 0 rfl rfl rfl rfl hl.1 rfl (lv_room (Nat.le_of_ble_eq_true rfl)) dX5_reads_10 ⟨Nat.zero_le _, Nat.zero_le _⟩ (fun u_2 H locs hu_2 hP hD hS => ?_)
  refine lv_if_ne (tgt := 18) hx hb dX5_reads_13 (by decide) (fun c_13 => ?_) (fun c_13 => ?_)
  · have f_13 : (isN mn (nI n)) = true := bI_n0.mp c_13
    refine lv_aload_n hx hb dX5_reads_18 rfl (lv_at hl 0 rfl) ?_
    refine va_get (D := D) (ci := 5) (v := .ref (z 1)) (C := RX5) (T := TX5) (N := 24) hx hb hts (fun w h => List.mem_cons_of_mem _ (List.mem_append_right _ h)) hown hK hP 0 rfl rfl 1 (by decide) (hts (.fieldLink RX5 7 "FirstStatesModel" "sort" "[I") (List.mem_of_getElem? (i := 1) rfl)) (fun _ h9 => h9) rfl dX5_reads_19 ?_
    refine lv_iload_n hx hb dX5_reads_22 rfl (lv_at hl 1 rfl) ?_
    refine fx_iald (ar := nI) hx hb hK hP 1 (f := mso) (k := k) rfl (by omega) (by decide) dX5_reads_23 ?_
    refine lv_iconst (v := nI 3) hx hb dX5_reads_24 (by decide) ?_
    refine lv_icmp_eq (tgt := 31) hx hb dX5_reads_25 (by decide) (fun c_25 => ?_) (fun c_25 => ?_)
    · have f_25 : mso k = 3 := (nI_eq (a := mso k) (b := 3) (by first | omega | exact b_and1 _ | exact b_ct _ _ (by omega) | exact b_andr _ (by omega)) (by first | omega | exact b_and1 _ | exact b_ct _ _ (by omega) | exact b_andr _ (by omega))).mp c_25
      refine lv_aload_n hx hb dX5_reads_31 rfl (lv_at hl 0 rfl) ?_
      refine va_get (D := D) (ci := 5) (v := .ref (z 10)) (C := RX5) (T := TX5) (N := 24) hx hb hts (fun w h => List.mem_cons_of_mem _ (List.mem_append_right _ h)) hown hK hP 0 rfl rfl 12 (by decide) (hts (.fieldLink RX5 37 "FirstStatesModel" "read" "[I") (List.mem_of_getElem? (i := 2) rfl)) (fun _ h9 => h9) rfl dX5_reads_32 ?_
      refine lv_aload_n hx hb dX5_reads_35 rfl (lv_at hl 0 rfl) ?_
      refine va_get (D := D) (ci := 5) (v := .ref (z 2)) (C := RX5) (T := TX5) (N := 24) hx hb hts (fun w h => List.mem_cons_of_mem _ (List.mem_append_right _ h)) hown hK hP 0 rfl rfl 2 (by decide) (hts (.fieldLink RX5 13 "FirstStatesModel" "which" "[I") (List.mem_of_getElem? (i := 3) rfl)) (fun _ h9 => h9) rfl dX5_reads_36 ?_
      refine lv_iload_n hx hb dX5_reads_39 rfl (lv_at hl 1 rfl) ?_
      refine fx_iald (ar := nI) hx hb hK hP 2 (f := mwh) (k := k) rfl (by omega) (by decide) dX5_reads_40 ?_
      refine fx_iald (ar := nI) hx hb hK hP 10 (f := mre) (k := (mwh k)) rfl (by omega) (by decide) dX5_reads_41 ?_
      refine lv_istore_n (lv' := [(3, .int (nI (mre (mwh k)))), (0, .ref (z 0)), (1, .int (nI k)), (2, .int (nI n))]) hx hb dX5_reads_42 rfl hl (by decide) rfl (fun ls hl => ?_)
      refine lv_iload_n hx hb dX5_reads_43 rfl (lv_at hl 0 rfl) ?_
      refine lv_iload_n hx hb dX5_reads_44 rfl (lv_at hl 3 rfl) ?_
      refine lv_icmp_eq (tgt := 64) hx hb dX5_reads_45 (by decide) (fun c_45 => ?_) (fun c_45 => ?_)
      · have f_45 : mre (mwh k) = n := (nI_eq (a := mre (mwh k)) (b := n) (by first | omega | exact b_and1 _ | exact b_ct _ _ (by omega) | exact b_andr _ (by omega)) (by first | omega | exact b_and1 _ | exact b_ct _ _ (by omega) | exact b_andr _ (by omega))).mp c_45
        exfalso; omega
      have f_45 : ¬ mre (mwh k) = n := fun h => c_45 ((nI_eq (a := mre (mwh k)) (b := n) (by first | omega | exact b_and1 _ | exact b_ct _ _ (by omega) | exact b_andr _ (by omega)) (by first | omega | exact b_and1 _ | exact b_ct _ _ (by omega) | exact b_andr _ (by omega))).mpr h)
      refine lv_aload_n hx hb dX5_reads_48 rfl (lv_at hl 1 rfl) ?_
      refine va_get (D := D) (ci := 5) (v := .ref (z 10)) (C := RX5) (T := TX5) (N := 24) hx hb hts (fun w h => List.mem_cons_of_mem _ (List.mem_append_right _ h)) hown hK hP 0 rfl rfl 12 (by decide) (hts (.fieldLink RX5 37 "FirstStatesModel" "read" "[I") (List.mem_of_getElem? (i := 2) rfl)) (fun _ h9 => h9) rfl dX5_reads_49 ?_
      refine lv_aload_n hx hb dX5_reads_52 rfl (lv_at hl 1 rfl) ?_
      refine va_get (D := D) (ci := 5) (v := .ref (z 2)) (C := RX5) (T := TX5) (N := 24) hx hb hts (fun w h => List.mem_cons_of_mem _ (List.mem_append_right _ h)) hown hK hP 0 rfl rfl 2 (by decide) (hts (.fieldLink RX5 13 "FirstStatesModel" "which" "[I") (List.mem_of_getElem? (i := 3) rfl)) (fun _ h9 => h9) rfl dX5_reads_53 ?_
      refine lv_iload_n hx hb dX5_reads_56 rfl (lv_at hl 2 rfl) ?_
      refine fx_iald (ar := nI) hx hb hK hP 2 (f := mwh) (k := k) rfl (by omega) (by decide) dX5_reads_57 ?_
      refine lv_iload_n hx hb dX5_reads_58 rfl (lv_at hl 3 rfl) ?_
      refine fx_iast (ar := nI) hx hb hK hP hD hS 10 (f := mre) (k := (mwh k)) (v := n) rfl (by omega) (by decide) rfl dX5_reads_59 (fun H locs hP hD hS => ?_)
      have hP : va_P D vwCl (wM z cI cZ mn mi ms mtk mso mwh mfi mse mth mpu mno mlo mbe (va_up mre (mwh k) n) mis mca mpa mva mle mst mtn mln mne mgo) H := hP
      have hD : va_D A (wM z cI cZ mn mi ms mtk mso mwh mfi mse mth mpu mno mlo mbe (va_up mre (mwh k) n) mis mca mpa mva mle mst mtn mln mne mgo) := fx_D hD rfl
      refine lv_aload_n hx hb dX5_reads_60 rfl (lv_at hl 1 rfl) ?_
      refine fx_callV (As := []) (rest := []) ⟨hx, hb, hml, hown, hts⟩ (c_X5_begin l D cI cJ cZ z mn mi ms mtk mso mwh mfi mse mth mpu mno mlo mbe (va_up mre (mwh k) n) mis mca mpa mva mle mst mtn mln mne mgo (by first | assumption | omega)) (cwV 0 hts gX5_reads_X5_begin rfl rfl rfl kv_X5_begin ⟨Nat.le_of_ble_eq_true rfl, Nat.le_of_ble_eq_true rfl⟩) hK hP hD hS hA hZ 0 rfl rfl rfl rfl hl.1 rfl (lv_room (Nat.le_of_ble_eq_true rfl)) dX5_reads_61 ⟨Nat.zero_le _, Nat.zero_le _⟩ (fun u_3 H locs hu_3 hP hD hS => ?_)
      have hP : va_P D vwCl (wM z cI cZ mn mi ms 0 mso mwh mfi mse mth mpu mno mlo mbe (va_up mre (mwh k) n) mis (mixF (fun jj => decide (jj < 2 ^ ms)) mca 64) (mixF (fun _ => 2) mpa 6) mva mle mst mtn mln mne mgo) H := hP
      have hD : va_D A (wM z cI cZ mn mi ms 0 mso mwh mfi mse mth mpu mno mlo mbe (va_up mre (mwh k) n) mis (mixF (fun jj => decide (jj < 2 ^ ms)) mca 64) (mixF (fun _ => 2) mpa 6) mva mle mst mtn mln mne mgo) := fx_D hD rfl
      refine lv_iload_n hx hb dX5_reads_64 rfl (lv_at hl 0 rfl) ?_
      exact hri () _ H locs 65 ls .int rfl rfl trivial rfl hP hD hS dX5_reads_65
    have f_25 : ¬ mso k = 3 := fun h => c_25 ((nI_eq (a := mso k) (b := 3) (by first | omega | exact b_and1 _ | exact b_ct _ _ (by omega) | exact b_andr _ (by omega)) (by first | omega | exact b_and1 _ | exact b_ct _ _ (by omega) | exact b_andr _ (by omega))).mpr h)
    exfalso; omega
  have f_13 : (isN mn (nI n)) = false := bI_0.mp c_13
  exfalso; rw [isN_nI (by omega) (by omega)] at f_13; simp at f_13; omega
set_option maxHeartbeats 4000000 in
set_option maxRecDepth 100000 in
theorem c_X5_about_u (l : Launch) (D : va_G) (cI cJ cZ : ClassId) (z : Nat → Nat) (mn : Nat) (mi : Nat) (ms : Nat) (mtk : Nat) (mso : Nat → Nat) (mwh : Nat → Nat) (mfi : Nat → Nat) (mse : Nat → Nat) (mth : Nat → Nat) (mpu : Nat → Nat) (mno : Nat → Nat) (mlo : Nat → Nat) (mbe : Nat → Nat) (mre : Nat → Nat) (mis : Nat → Bool) (mca : Nat → Bool) (mpa : Nat → Nat) (mva : Nat → Nat) (mle : Nat → Nat) (mst : Nat → Bool) (mtn : Nat → Bool) (mln : Nat → Nat) (mne : Nat → Int32) (mgo : Nat → Int32) (x : Int32) (y : Int32) (hmn : mn ≤ 32) (hu : isN mn x = false) : Ct l D cI cJ cZ yX5_about wsX5_about ({ frames := 2, cells := 0, slots := 0, locals := 43 } : Room) 0 0 [.ref (z 0), .int x, .int y] (wM z cI cZ mn mi ms mtk mso mwh mfi mse mth mpu mno mlo mbe mre mis mca mpa mva mle mst mtn mln mne mgo) (S := Unit) (fun u => True) (fun u => some (.int (-1))) (fun u => (wM z cI cZ mn mi ms mtk mso mwh mfi mse mth mpu mno mlo mbe mre mis mca mpa mva mle mst mtn mln mne mgo)) := by
  refine Ct.ofW (cc := cX5_about) (maxL := 4) (ret := (some .int)) (R_C := RX5) (by decide +kernel) rfl rfl (Nat.le_of_ble_eq_true rfl) rfl ?_
  intro p e s m args below meth c A Q ls H locs hx hb hml hown hts hK hA hP hD hS hZ hl hri hrl hrv
  refine lv_aload_n hx hb dX5_about_0 rfl (lv_at hl 0 rfl) ?_
  refine lv_iload_n hx hb dX5_about_1 rfl (lv_at hl 1 rfl) ?_
  refine fx_callV (As := [.int x]) (rest := []) ⟨hx, hb, hml, hown, hts⟩ (c_X5_isNode l D cI cJ cZ z mn mi ms mtk mso mwh mfi mse mth mpu mno mlo mbe mre mis mca mpa mva mle mst mtn mln mne mgo x (by first | assumption | omega)) (cwV 1 hts gX5_about_X5_isNode rfl rfl rfl kv_X5_isNode ⟨Nat.le_of_ble_eq_true rfl, Nat.le_of_ble_eq_true rfl⟩) hK hP hD hS hA hZ 0 rfl rfl rfl rfl hl.1 rfl (lv_room (Nat.le_of_ble_eq_true rfl)) dX5_about_2 ⟨Nat.zero_le _, Nat.zero_le _⟩ (fun u_1 H locs hu_1 hP hD hS => ?_)
  refine lv_if_ne (tgt := 10) hx hb dX5_about_5 (by decide) (fun c_5 => ?_) (fun c_5 => ?_)
  · have f_5 : (isN mn x) = true := bI_n0.mp c_5
    exfalso; rw [hu] at f_5; cases f_5
  have f_5 : (isN mn x) = false := bI_0.mp c_5
  refine lv_iconst (v := (-1)) hx hb dX5_about_8 (by decide) ?_
  exact hri () _ H locs 9 ls .int rfl rfl trivial rfl hP hD hS dX5_about_9
set_option maxHeartbeats 4000000 in
set_option maxRecDepth 100000 in
theorem c_X5_about_o (l : Launch) (D : va_G) (cI cJ cZ : ClassId) (z : Nat → Nat) (mn : Nat) (mi : Nat) (ms : Nat) (mtk : Nat) (mso : Nat → Nat) (mwh : Nat → Nat) (mfi : Nat → Nat) (mse : Nat → Nat) (mth : Nat → Nat) (mpu : Nat → Nat) (mno : Nat → Nat) (mlo : Nat → Nat) (mbe : Nat → Nat) (mre : Nat → Nat) (mis : Nat → Bool) (mca : Nat → Bool) (mpa : Nat → Nat) (mva : Nat → Nat) (mle : Nat → Nat) (mst : Nat → Bool) (mtn : Nat → Bool) (mln : Nat → Nat) (mne : Nat → Int32) (mgo : Nat → Int32) (k : Nat) (y : Int32) (hmn : mn ≤ 32) (hk : k < mn) (hso : mso k ≤ 3) (hxx : y.toInt < 0 ∨ 4 < y.toInt) : Ct l D cI cJ cZ yX5_about wsX5_about ({ frames := 2, cells := 0, slots := 0, locals := 43 } : Room) 0 0 [.ref (z 0), .int (nI k), .int y] (wM z cI cZ mn mi ms mtk mso mwh mfi mse mth mpu mno mlo mbe mre mis mca mpa mva mle mst mtn mln mne mgo) (S := Unit) (fun u => True) (fun u => some (.int (-2))) (fun u => (wM z cI cZ mn mi ms mtk mso mwh mfi mse mth mpu mno mlo mbe mre mis mca mpa mva mle mst mtn mln mne mgo)) := by
  refine Ct.ofW (cc := cX5_about) (maxL := 4) (ret := (some .int)) (R_C := RX5) (by decide +kernel) rfl rfl (Nat.le_of_ble_eq_true rfl) rfl ?_
  intro p e s m args below meth c A Q ls H locs hx hb hml hown hts hK hA hP hD hS hZ hl hri hrl hrv
  refine lv_aload_n hx hb dX5_about_0 rfl (lv_at hl 0 rfl) ?_
  refine lv_iload_n hx hb dX5_about_1 rfl (lv_at hl 1 rfl) ?_
  refine fx_callV (As := [.int (nI k)]) (rest := []) ⟨hx, hb, hml, hown, hts⟩ (c_X5_isNode l D cI cJ cZ z mn mi ms mtk mso mwh mfi mse mth mpu mno mlo mbe mre mis mca mpa mva mle mst mtn mln mne mgo (nI k) (by first | assumption | omega)) (cwV 1 hts gX5_about_X5_isNode rfl rfl rfl kv_X5_isNode ⟨Nat.le_of_ble_eq_true rfl, Nat.le_of_ble_eq_true rfl⟩) hK hP hD hS hA hZ 0 rfl rfl rfl rfl hl.1 rfl (lv_room (Nat.le_of_ble_eq_true rfl)) dX5_about_2 ⟨Nat.zero_le _, Nat.zero_le _⟩ (fun u_1 H locs hu_1 hP hD hS => ?_)
  refine lv_if_ne (tgt := 10) hx hb dX5_about_5 (by decide) (fun c_5 => ?_) (fun c_5 => ?_)
  · have f_5 : (isN mn (nI k)) = true := bI_n0.mp c_5
    refine lv_aload_n hx hb dX5_about_10 rfl (lv_at hl 0 rfl) ?_
    refine va_get (D := D) (ci := 5) (v := .ref (z 1)) (C := RX5) (T := TX5) (N := 24) hx hb hts (fun w h => List.mem_cons_of_mem _ (List.mem_append_right _ h)) hown hK hP 0 rfl rfl 1 (by decide) (hts (.fieldLink RX5 7 "FirstStatesModel" "sort" "[I") (List.mem_of_getElem? (i := 1) rfl)) (fun _ h9 => h9) rfl dX5_about_11 ?_
    refine lv_iload_n hx hb dX5_about_14 rfl (lv_at hl 1 rfl) ?_
    refine fx_iald (ar := nI) hx hb hK hP 1 (f := mso) (k := k) rfl (by omega) (by decide) dX5_about_15 ?_
    refine lv_iconst (v := nI 3) hx hb dX5_about_16 (by decide) ?_
    refine lv_icmp_ne (tgt := 24) hx hb dX5_about_17 (by decide) (fun c_17 => ?_) (fun c_17 => ?_)
    · have f_17 : ¬ mso k = 3 := fun h => c_17 ((nI_eq (a := mso k) (b := 3) (by first | omega | exact b_and1 _ | exact b_ct _ _ (by omega) | exact b_andr _ (by omega)) (by first | omega | exact b_and1 _ | exact b_ct _ _ (by omega) | exact b_andr _ (by omega))).mpr h)
      refine lv_iconst (v := nI 0) hx hb dX5_about_24 (by decide) ?_
      refine lv_istore_n (lv' := [(3, .int (nI 0)), (0, .ref (z 0)), (1, .int (nI k)), (2, .int y)]) hx hb dX5_about_25 rfl hl (by decide) rfl (fun ls hl => ?_)
      refine lv_iload_n hx hb dX5_about_26 rfl (lv_at hl 3 rfl) ?_
      refine lv_tableOut (tgt := 152) hx hb dX5_about_27 hxx (by decide) ?_
      refine lv_bipush (v := (-2)) hx hb dX5_about_152 (by decide) ?_
      exact hri () _ H locs 154 ls .int rfl rfl trivial rfl hP hD hS dX5_about_154
    have f_17 : mso k = 3 := (nI_eq (a := mso k) (b := 3) (by first | omega | exact b_and1 _ | exact b_ct _ _ (by omega) | exact b_andr _ (by omega)) (by first | omega | exact b_and1 _ | exact b_ct _ _ (by omega) | exact b_andr _ (by omega))).mp c_17
    refine lv_iconst (v := nI 1) hx hb dX5_about_20 (by decide) ?_
    refine lv_goto (tgt := 25) hx hb dX5_about_21 (by decide) ?_
    refine lv_istore_n (lv' := [(3, .int (nI 1)), (0, .ref (z 0)), (1, .int (nI k)), (2, .int y)]) hx hb dX5_about_25 rfl hl (by decide) rfl (fun ls hl => ?_)
    refine lv_iload_n hx hb dX5_about_26 rfl (lv_at hl 3 rfl) ?_
    refine lv_tableOut (tgt := 152) hx hb dX5_about_27 hxx (by decide) ?_
    refine lv_bipush (v := (-2)) hx hb dX5_about_152 (by decide) ?_
    exact hri () _ H locs 154 ls .int rfl rfl trivial rfl hP hD hS dX5_about_154
  have f_5 : (isN mn (nI k)) = false := bI_0.mp c_5
  exfalso; rw [isN_nI (by omega) (by omega)] at f_5; simp at f_5; omega
set_option maxHeartbeats 4000000 in
set_option maxRecDepth 100000 in
theorem c_X5_about (l : Launch) (D : va_G) (cI cJ cZ : ClassId) (z : Nat → Nat) (mn : Nat) (mi : Nat) (ms : Nat) (mtk : Nat) (mso : Nat → Nat) (mwh : Nat → Nat) (mfi : Nat → Nat) (mse : Nat → Nat) (mth : Nat → Nat) (mpu : Nat → Nat) (mno : Nat → Nat) (mlo : Nat → Nat) (mbe : Nat → Nat) (mre : Nat → Nat) (mis : Nat → Bool) (mca : Nat → Bool) (mpa : Nat → Nat) (mva : Nat → Nat) (mle : Nat → Nat) (mst : Nat → Bool) (mtn : Nat → Bool) (mln : Nat → Nat) (mne : Nat → Int32) (mgo : Nat → Int32) (k : Nat) (wt : Nat) (hmn : mn ≤ 32) (hk : k < mn) (hms : ms ≤ 6) (hw : wt ≤ 4) (hso : mso k ≤ 3) (hs : mso k = 3 → mwh k < ms) : Ct l D cI cJ cZ yX5_about wsX5_about ({ frames := 2, cells := 0, slots := 0, locals := 43 } : Room) 0 0 [.ref (z 0), .int (nI k), .int (nI wt)] (wM z cI cZ mn mi ms mtk mso mwh mfi mse mth mpu mno mlo mbe mre mis mca mpa mva mle mst mtn mln mne mgo) (S := Unit) (fun u => True) (fun u => some (.int (abA mso mwh mwh mlo mbe mre k wt))) (fun u => (wM z cI cZ mn mi ms mtk mso mwh mfi mse mth mpu mno mlo mbe mre mis mca mpa mva mle mst mtn mln mne mgo)) := by
  refine Ct.ofW (cc := cX5_about) (maxL := 4) (ret := (some .int)) (R_C := RX5) (by decide +kernel) rfl rfl (Nat.le_of_ble_eq_true rfl) rfl ?_
  intro p e s m args below meth c A Q ls H locs hx hb hml hown hts hK hA hP hD hS hZ hl hri hrl hrv
  refine lv_aload_n hx hb dX5_about_0 rfl (lv_at hl 0 rfl) ?_
  refine lv_iload_n hx hb dX5_about_1 rfl (lv_at hl 1 rfl) ?_
  refine fx_callV (As := [.int (nI k)]) (rest := []) ⟨hx, hb, hml, hown, hts⟩ (c_X5_isNode l D cI cJ cZ z mn mi ms mtk mso mwh mfi mse mth mpu mno mlo mbe mre mis mca mpa mva mle mst mtn mln mne mgo (nI k) (by first | assumption | omega)) (cwV 1 hts gX5_about_X5_isNode rfl rfl rfl kv_X5_isNode ⟨Nat.le_of_ble_eq_true rfl, Nat.le_of_ble_eq_true rfl⟩) hK hP hD hS hA hZ 0 rfl rfl rfl rfl hl.1 rfl (lv_room (Nat.le_of_ble_eq_true rfl)) dX5_about_2 ⟨Nat.zero_le _, Nat.zero_le _⟩ (fun u_1 H locs hu_1 hP hD hS => ?_)
  refine lv_if_ne (tgt := 10) hx hb dX5_about_5 (by decide) (fun c_5 => ?_) (fun c_5 => ?_)
  · have f_5 : (isN mn (nI k)) = true := bI_n0.mp c_5
    refine lv_aload_n hx hb dX5_about_10 rfl (lv_at hl 0 rfl) ?_
    refine va_get (D := D) (ci := 5) (v := .ref (z 1)) (C := RX5) (T := TX5) (N := 24) hx hb hts (fun w h => List.mem_cons_of_mem _ (List.mem_append_right _ h)) hown hK hP 0 rfl rfl 1 (by decide) (hts (.fieldLink RX5 7 "FirstStatesModel" "sort" "[I") (List.mem_of_getElem? (i := 1) rfl)) (fun _ h9 => h9) rfl dX5_about_11 ?_
    refine lv_iload_n hx hb dX5_about_14 rfl (lv_at hl 1 rfl) ?_
    refine fx_iald (ar := nI) hx hb hK hP 1 (f := mso) (k := k) rfl (by omega) (by decide) dX5_about_15 ?_
    refine lv_iconst (v := nI 3) hx hb dX5_about_16 (by decide) ?_
    refine lv_icmp_ne (tgt := 24) hx hb dX5_about_17 (by decide) (fun c_17 => ?_) (fun c_17 => ?_)
    · have f_17 : ¬ mso k = 3 := fun h => c_17 ((nI_eq (a := mso k) (b := 3) (by first | omega | exact b_and1 _ | exact b_ct _ _ (by omega) | exact b_andr _ (by omega)) (by first | omega | exact b_and1 _ | exact b_ct _ _ (by omega) | exact b_andr _ (by omega))).mpr h)
      refine lv_iconst (v := nI 0) hx hb dX5_about_24 (by decide) ?_
      refine lv_istore_n (lv' := [(3, .int (nI 0)), (0, .ref (z 0)), (1, .int (nI k)), (2, .int (nI wt))]) hx hb dX5_about_25 rfl hl (by decide) rfl (fun ls hl => ?_)
      refine lv_iload_n hx hb dX5_about_26 rfl (lv_at hl 3 rfl) ?_
      have h_27 : wt = 0 ∨ wt = 1 ∨ wt = 2 ∨ wt = 3 ∨ wt = 4 := by omega
      rcases h_27 with h_27 | h_27 | h_27 | h_27 | h_27
      · refine lv_tableIn (off := 33) (tgt := 60) hx hb dX5_about_27 (by rw [h_27]; decide) (by rw [h_27]; decide) (by rw [h_27]; decide) (by decide) ?_
        refine lv_aload_n hx hb dX5_about_60 rfl (lv_at hl 1 rfl) ?_
        refine va_get (D := D) (ci := 5) (v := .ref (z 1)) (C := RX5) (T := TX5) (N := 24) hx hb hts (fun w h => List.mem_cons_of_mem _ (List.mem_append_right _ h)) hown hK hP 0 rfl rfl 1 (by decide) (hts (.fieldLink RX5 7 "FirstStatesModel" "sort" "[I") (List.mem_of_getElem? (i := 1) rfl)) (fun _ h9 => h9) rfl dX5_about_61 ?_
        refine lv_iload_n hx hb dX5_about_64 rfl (lv_at hl 2 rfl) ?_
        refine fx_iald (ar := nI) hx hb hK hP 1 (f := mso) (k := k) rfl (by omega) (by decide) dX5_about_65 ?_
        exact hri () _ H locs 66 ls .int rfl rfl trivial (by simp [abA, f_17, h_27]) hP hD hS dX5_about_66
      · refine lv_tableIn (off := 40) (tgt := 67) hx hb dX5_about_27 (by rw [h_27]; decide) (by rw [h_27]; decide) (by rw [h_27]; decide) (by decide) ?_
        refine lv_aload_n hx hb dX5_about_67 rfl (lv_at hl 1 rfl) ?_
        refine va_get (D := D) (ci := 5) (v := .ref (z 1)) (C := RX5) (T := TX5) (N := 24) hx hb hts (fun w h => List.mem_cons_of_mem _ (List.mem_append_right _ h)) hown hK hP 0 rfl rfl 1 (by decide) (hts (.fieldLink RX5 7 "FirstStatesModel" "sort" "[I") (List.mem_of_getElem? (i := 1) rfl)) (fun _ h9 => h9) rfl dX5_about_68 ?_
        refine lv_iload_n hx hb dX5_about_71 rfl (lv_at hl 2 rfl) ?_
        refine fx_iald (ar := nI) hx hb hK hP 1 (f := mso) (k := k) rfl (by omega) (by decide) dX5_about_72 ?_
        refine lv_iconst (v := nI 2) hx hb dX5_about_73 (by decide) ?_
        refine lv_icmp_ne (tgt := 86) hx hb dX5_about_74 (by decide) (fun c_74 => ?_) (fun c_74 => ?_)
        · have f_74 : ¬ mso k = 2 := fun h => c_74 ((nI_eq (a := mso k) (b := 2) (by first | omega | exact b_and1 _ | exact b_ct _ _ (by omega) | exact b_andr _ (by omega)) (by first | omega | exact b_and1 _ | exact b_ct _ _ (by omega) | exact b_andr _ (by omega))).mpr h)
          refine lv_bipush (v := (-9)) hx hb dX5_about_86 (by decide) ?_
          exact hri () _ H locs 88 ls .int rfl rfl trivial (by simp [abA, f_17, h_27, f_74]) hP hD hS dX5_about_88
        have f_74 : mso k = 2 := (nI_eq (a := mso k) (b := 2) (by first | omega | exact b_and1 _ | exact b_ct _ _ (by omega) | exact b_andr _ (by omega)) (by first | omega | exact b_and1 _ | exact b_ct _ _ (by omega) | exact b_andr _ (by omega))).mp c_74
        refine lv_aload_n hx hb dX5_about_77 rfl (lv_at hl 1 rfl) ?_
        refine va_get (D := D) (ci := 5) (v := .ref (z 2)) (C := RX5) (T := TX5) (N := 24) hx hb hts (fun w h => List.mem_cons_of_mem _ (List.mem_append_right _ h)) hown hK hP 0 rfl rfl 2 (by decide) (hts (.fieldLink RX5 13 "FirstStatesModel" "which" "[I") (List.mem_of_getElem? (i := 2) rfl)) (fun _ h9 => h9) rfl dX5_about_78 ?_
        refine lv_iload_n hx hb dX5_about_81 rfl (lv_at hl 2 rfl) ?_
        refine fx_iald (ar := nI) hx hb hK hP 2 (f := mwh) (k := k) rfl (by omega) (by decide) dX5_about_82 ?_
        refine lv_goto (tgt := 88) hx hb dX5_about_83 (by decide) ?_
        exact hri () _ H locs 88 ls .int rfl rfl trivial (by simp [abA, f_17, h_27, f_74]) hP hD hS dX5_about_88
      · refine lv_tableIn (off := 62) (tgt := 89) hx hb dX5_about_27 (by rw [h_27]; decide) (by rw [h_27]; decide) (by rw [h_27]; decide) (by decide) ?_
        refine lv_iload_n hx hb dX5_about_89 rfl (lv_at hl 0 rfl) ?_
        refine lv_if_eq (tgt := 107) hx hb dX5_about_90 (by decide) (fun c_90 => ?_) (fun c_90 => ?_)
        · have f_90 : 0 = 0 := (nI_eq (a := 0) (b := 0) (by first | omega | exact b_and1 _ | exact b_ct _ _ (by omega) | exact b_andr _ (by omega)) (by first | omega | exact b_and1 _ | exact b_ct _ _ (by omega) | exact b_andr _ (by omega))).mp c_90
          refine lv_bipush (v := (-9)) hx hb dX5_about_107 (by decide) ?_
          exact hri () _ H locs 109 ls .int rfl rfl trivial (by simp [abA, f_17, h_27]) hP hD hS dX5_about_109
        have f_90 : ¬ 0 = 0 := fun h => c_90 ((nI_eq (a := 0) (b := 0) (by first | omega | exact b_and1 _ | exact b_ct _ _ (by omega) | exact b_andr _ (by omega)) (by first | omega | exact b_and1 _ | exact b_ct _ _ (by omega) | exact b_andr _ (by omega))).mpr h)
        exfalso; omega
      · refine lv_tableIn (off := 83) (tgt := 110) hx hb dX5_about_27 (by rw [h_27]; decide) (by rw [h_27]; decide) (by rw [h_27]; decide) (by decide) ?_
        refine lv_iload_n hx hb dX5_about_110 rfl (lv_at hl 0 rfl) ?_
        refine lv_if_eq (tgt := 128) hx hb dX5_about_111 (by decide) (fun c_111 => ?_) (fun c_111 => ?_)
        · have f_111 : 0 = 0 := (nI_eq (a := 0) (b := 0) (by first | omega | exact b_and1 _ | exact b_ct _ _ (by omega) | exact b_andr _ (by omega)) (by first | omega | exact b_and1 _ | exact b_ct _ _ (by omega) | exact b_andr _ (by omega))).mp c_111
          refine lv_bipush (v := (-9)) hx hb dX5_about_128 (by decide) ?_
          exact hri () _ H locs 130 ls .int rfl rfl trivial (by simp [abA, f_17, h_27]) hP hD hS dX5_about_130
        have f_111 : ¬ 0 = 0 := fun h => c_111 ((nI_eq (a := 0) (b := 0) (by first | omega | exact b_and1 _ | exact b_ct _ _ (by omega) | exact b_andr _ (by omega)) (by first | omega | exact b_and1 _ | exact b_ct _ _ (by omega) | exact b_andr _ (by omega))).mpr h)
        exfalso; omega
      refine lv_tableIn (off := 104) (tgt := 131) hx hb dX5_about_27 (by rw [h_27]; decide) (by rw [h_27]; decide) (by rw [h_27]; decide) (by decide) ?_
      refine lv_iload_n hx hb dX5_about_131 rfl (lv_at hl 0 rfl) ?_
      refine lv_if_eq (tgt := 149) hx hb dX5_about_132 (by decide) (fun c_132 => ?_) (fun c_132 => ?_)
      · have f_132 : 0 = 0 := (nI_eq (a := 0) (b := 0) (by first | omega | exact b_and1 _ | exact b_ct _ _ (by omega) | exact b_andr _ (by omega)) (by first | omega | exact b_and1 _ | exact b_ct _ _ (by omega) | exact b_andr _ (by omega))).mp c_132
        refine lv_bipush (v := (-9)) hx hb dX5_about_149 (by decide) ?_
        exact hri () _ H locs 151 ls .int rfl rfl trivial (by simp [abA, f_17, h_27]) hP hD hS dX5_about_151
      have f_132 : ¬ 0 = 0 := fun h => c_132 ((nI_eq (a := 0) (b := 0) (by first | omega | exact b_and1 _ | exact b_ct _ _ (by omega) | exact b_andr _ (by omega)) (by first | omega | exact b_and1 _ | exact b_ct _ _ (by omega) | exact b_andr _ (by omega))).mpr h)
      exfalso; omega
    have f_17 : mso k = 3 := (nI_eq (a := mso k) (b := 3) (by first | omega | exact b_and1 _ | exact b_ct _ _ (by omega) | exact b_andr _ (by omega)) (by first | omega | exact b_and1 _ | exact b_ct _ _ (by omega) | exact b_andr _ (by omega))).mp c_17
    refine lv_iconst (v := nI 1) hx hb dX5_about_20 (by decide) ?_
    refine lv_goto (tgt := 25) hx hb dX5_about_21 (by decide) ?_
    refine lv_istore_n (lv' := [(3, .int (nI 1)), (0, .ref (z 0)), (1, .int (nI k)), (2, .int (nI wt))]) hx hb dX5_about_25 rfl hl (by decide) rfl (fun ls hl => ?_)
    refine lv_iload_n hx hb dX5_about_26 rfl (lv_at hl 3 rfl) ?_
    have h_27 : wt = 0 ∨ wt = 1 ∨ wt = 2 ∨ wt = 3 ∨ wt = 4 := by omega
    rcases h_27 with h_27 | h_27 | h_27 | h_27 | h_27
    · refine lv_tableIn (off := 33) (tgt := 60) hx hb dX5_about_27 (by rw [h_27]; decide) (by rw [h_27]; decide) (by rw [h_27]; decide) (by decide) ?_
      refine lv_aload_n hx hb dX5_about_60 rfl (lv_at hl 1 rfl) ?_
      refine va_get (D := D) (ci := 5) (v := .ref (z 1)) (C := RX5) (T := TX5) (N := 24) hx hb hts (fun w h => List.mem_cons_of_mem _ (List.mem_append_right _ h)) hown hK hP 0 rfl rfl 1 (by decide) (hts (.fieldLink RX5 7 "FirstStatesModel" "sort" "[I") (List.mem_of_getElem? (i := 1) rfl)) (fun _ h9 => h9) rfl dX5_about_61 ?_
      refine lv_iload_n hx hb dX5_about_64 rfl (lv_at hl 2 rfl) ?_
      refine fx_iald (ar := nI) hx hb hK hP 1 (f := mso) (k := k) rfl (by omega) (by decide) dX5_about_65 ?_
      exact hri () _ H locs 66 ls .int rfl rfl trivial (by simp [abA, f_17, h_27]) hP hD hS dX5_about_66
    · refine lv_tableIn (off := 40) (tgt := 67) hx hb dX5_about_27 (by rw [h_27]; decide) (by rw [h_27]; decide) (by rw [h_27]; decide) (by decide) ?_
      refine lv_aload_n hx hb dX5_about_67 rfl (lv_at hl 1 rfl) ?_
      refine va_get (D := D) (ci := 5) (v := .ref (z 1)) (C := RX5) (T := TX5) (N := 24) hx hb hts (fun w h => List.mem_cons_of_mem _ (List.mem_append_right _ h)) hown hK hP 0 rfl rfl 1 (by decide) (hts (.fieldLink RX5 7 "FirstStatesModel" "sort" "[I") (List.mem_of_getElem? (i := 1) rfl)) (fun _ h9 => h9) rfl dX5_about_68 ?_
      refine lv_iload_n hx hb dX5_about_71 rfl (lv_at hl 2 rfl) ?_
      refine fx_iald (ar := nI) hx hb hK hP 1 (f := mso) (k := k) rfl (by omega) (by decide) dX5_about_72 ?_
      refine lv_iconst (v := nI 2) hx hb dX5_about_73 (by decide) ?_
      refine lv_icmp_ne (tgt := 86) hx hb dX5_about_74 (by decide) (fun c_74 => ?_) (fun c_74 => ?_)
      · have f_74 : ¬ mso k = 2 := fun h => c_74 ((nI_eq (a := mso k) (b := 2) (by first | omega | exact b_and1 _ | exact b_ct _ _ (by omega) | exact b_andr _ (by omega)) (by first | omega | exact b_and1 _ | exact b_ct _ _ (by omega) | exact b_andr _ (by omega))).mpr h)
        refine lv_bipush (v := (-9)) hx hb dX5_about_86 (by decide) ?_
        exact hri () _ H locs 88 ls .int rfl rfl trivial (by simp [abA, f_17, h_27, f_74]) hP hD hS dX5_about_88
      have f_74 : mso k = 2 := (nI_eq (a := mso k) (b := 2) (by first | omega | exact b_and1 _ | exact b_ct _ _ (by omega) | exact b_andr _ (by omega)) (by first | omega | exact b_and1 _ | exact b_ct _ _ (by omega) | exact b_andr _ (by omega))).mp c_74
      exfalso; omega
    · refine lv_tableIn (off := 62) (tgt := 89) hx hb dX5_about_27 (by rw [h_27]; decide) (by rw [h_27]; decide) (by rw [h_27]; decide) (by decide) ?_
      refine lv_iload_n hx hb dX5_about_89 rfl (lv_at hl 0 rfl) ?_
      refine lv_if_eq (tgt := 107) hx hb dX5_about_90 (by decide) (fun c_90 => ?_) (fun c_90 => ?_)
      · have f_90 : 1 = 0 := (nI_eq (a := 1) (b := 0) (by first | omega | exact b_and1 _ | exact b_ct _ _ (by omega) | exact b_andr _ (by omega)) (by first | omega | exact b_and1 _ | exact b_ct _ _ (by omega) | exact b_andr _ (by omega))).mp c_90
        exfalso; omega
      have f_90 : ¬ 1 = 0 := fun h => c_90 ((nI_eq (a := 1) (b := 0) (by first | omega | exact b_and1 _ | exact b_ct _ _ (by omega) | exact b_andr _ (by omega)) (by first | omega | exact b_and1 _ | exact b_ct _ _ (by omega) | exact b_andr _ (by omega))).mpr h)
      have hs1 := hs f_17
      refine lv_aload_n hx hb dX5_about_93 rfl (lv_at hl 1 rfl) ?_
      refine va_get (D := D) (ci := 5) (v := .ref (z 8)) (C := RX5) (T := TX5) (N := 24) hx hb hts (fun w h => List.mem_cons_of_mem _ (List.mem_append_right _ h)) hown hK hP 0 rfl rfl 10 (by decide) (hts (.fieldLink RX5 31 "FirstStatesModel" "lineOf" "[I") (List.mem_of_getElem? (i := 3) rfl)) (fun _ h9 => h9) rfl dX5_about_94 ?_
      refine lv_aload_n hx hb dX5_about_97 rfl (lv_at hl 1 rfl) ?_
      refine va_get (D := D) (ci := 5) (v := .ref (z 2)) (C := RX5) (T := TX5) (N := 24) hx hb hts (fun w h => List.mem_cons_of_mem _ (List.mem_append_right _ h)) hown hK hP 0 rfl rfl 2 (by decide) (hts (.fieldLink RX5 13 "FirstStatesModel" "which" "[I") (List.mem_of_getElem? (i := 2) rfl)) (fun _ h9 => h9) rfl dX5_about_98 ?_
      refine lv_iload_n hx hb dX5_about_101 rfl (lv_at hl 2 rfl) ?_
      refine fx_iald (ar := nI) hx hb hK hP 2 (f := mwh) (k := k) rfl (by omega) (by decide) dX5_about_102 ?_
      refine fx_iald (ar := lI) hx hb hK hP 8 (f := mlo) (k := (mwh k)) rfl (by omega) (by decide) dX5_about_103 ?_
      refine lv_goto (tgt := 109) hx hb dX5_about_104 (by decide) ?_
      exact hri () _ H locs 109 ls .int rfl rfl trivial (by simp [abA, f_17, h_27]) hP hD hS dX5_about_109
    · refine lv_tableIn (off := 83) (tgt := 110) hx hb dX5_about_27 (by rw [h_27]; decide) (by rw [h_27]; decide) (by rw [h_27]; decide) (by decide) ?_
      refine lv_iload_n hx hb dX5_about_110 rfl (lv_at hl 0 rfl) ?_
      refine lv_if_eq (tgt := 128) hx hb dX5_about_111 (by decide) (fun c_111 => ?_) (fun c_111 => ?_)
      · have f_111 : 1 = 0 := (nI_eq (a := 1) (b := 0) (by first | omega | exact b_and1 _ | exact b_ct _ _ (by omega) | exact b_andr _ (by omega)) (by first | omega | exact b_and1 _ | exact b_ct _ _ (by omega) | exact b_andr _ (by omega))).mp c_111
        exfalso; omega
      have f_111 : ¬ 1 = 0 := fun h => c_111 ((nI_eq (a := 1) (b := 0) (by first | omega | exact b_and1 _ | exact b_ct _ _ (by omega) | exact b_andr _ (by omega)) (by first | omega | exact b_and1 _ | exact b_ct _ _ (by omega) | exact b_andr _ (by omega))).mpr h)
      have hs1 := hs f_17
      refine lv_aload_n hx hb dX5_about_114 rfl (lv_at hl 1 rfl) ?_
      refine va_get (D := D) (ci := 5) (v := .ref (z 9)) (C := RX5) (T := TX5) (N := 24) hx hb hts (fun w h => List.mem_cons_of_mem _ (List.mem_append_right _ h)) hown hK hP 0 rfl rfl 11 (by decide) (hts (.fieldLink RX5 34 "FirstStatesModel" "begins" "[I") (List.mem_of_getElem? (i := 4) rfl)) (fun _ h9 => h9) rfl dX5_about_115 ?_
      refine lv_aload_n hx hb dX5_about_118 rfl (lv_at hl 1 rfl) ?_
      refine va_get (D := D) (ci := 5) (v := .ref (z 2)) (C := RX5) (T := TX5) (N := 24) hx hb hts (fun w h => List.mem_cons_of_mem _ (List.mem_append_right _ h)) hown hK hP 0 rfl rfl 2 (by decide) (hts (.fieldLink RX5 13 "FirstStatesModel" "which" "[I") (List.mem_of_getElem? (i := 2) rfl)) (fun _ h9 => h9) rfl dX5_about_119 ?_
      refine lv_iload_n hx hb dX5_about_122 rfl (lv_at hl 2 rfl) ?_
      refine fx_iald (ar := nI) hx hb hK hP 2 (f := mwh) (k := k) rfl (by omega) (by decide) dX5_about_123 ?_
      refine fx_iald (ar := nI) hx hb hK hP 9 (f := mbe) (k := (mwh k)) rfl (by omega) (by decide) dX5_about_124 ?_
      refine lv_goto (tgt := 130) hx hb dX5_about_125 (by decide) ?_
      exact hri () _ H locs 130 ls .int rfl rfl trivial (by simp [abA, f_17, h_27]) hP hD hS dX5_about_130
    refine lv_tableIn (off := 104) (tgt := 131) hx hb dX5_about_27 (by rw [h_27]; decide) (by rw [h_27]; decide) (by rw [h_27]; decide) (by decide) ?_
    refine lv_iload_n hx hb dX5_about_131 rfl (lv_at hl 0 rfl) ?_
    refine lv_if_eq (tgt := 149) hx hb dX5_about_132 (by decide) (fun c_132 => ?_) (fun c_132 => ?_)
    · have f_132 : 1 = 0 := (nI_eq (a := 1) (b := 0) (by first | omega | exact b_and1 _ | exact b_ct _ _ (by omega) | exact b_andr _ (by omega)) (by first | omega | exact b_and1 _ | exact b_ct _ _ (by omega) | exact b_andr _ (by omega))).mp c_132
      exfalso; omega
    have f_132 : ¬ 1 = 0 := fun h => c_132 ((nI_eq (a := 1) (b := 0) (by first | omega | exact b_and1 _ | exact b_ct _ _ (by omega) | exact b_andr _ (by omega)) (by first | omega | exact b_and1 _ | exact b_ct _ _ (by omega) | exact b_andr _ (by omega))).mpr h)
    have hs1 := hs f_17
    refine lv_aload_n hx hb dX5_about_135 rfl (lv_at hl 1 rfl) ?_
    refine va_get (D := D) (ci := 5) (v := .ref (z 10)) (C := RX5) (T := TX5) (N := 24) hx hb hts (fun w h => List.mem_cons_of_mem _ (List.mem_append_right _ h)) hown hK hP 0 rfl rfl 12 (by decide) (hts (.fieldLink RX5 37 "FirstStatesModel" "read" "[I") (List.mem_of_getElem? (i := 5) rfl)) (fun _ h9 => h9) rfl dX5_about_136 ?_
    refine lv_aload_n hx hb dX5_about_139 rfl (lv_at hl 1 rfl) ?_
    refine va_get (D := D) (ci := 5) (v := .ref (z 2)) (C := RX5) (T := TX5) (N := 24) hx hb hts (fun w h => List.mem_cons_of_mem _ (List.mem_append_right _ h)) hown hK hP 0 rfl rfl 2 (by decide) (hts (.fieldLink RX5 13 "FirstStatesModel" "which" "[I") (List.mem_of_getElem? (i := 2) rfl)) (fun _ h9 => h9) rfl dX5_about_140 ?_
    refine lv_iload_n hx hb dX5_about_143 rfl (lv_at hl 2 rfl) ?_
    refine fx_iald (ar := nI) hx hb hK hP 2 (f := mwh) (k := k) rfl (by omega) (by decide) dX5_about_144 ?_
    refine fx_iald (ar := nI) hx hb hK hP 10 (f := mre) (k := (mwh k)) rfl (by omega) (by decide) dX5_about_145 ?_
    refine lv_goto (tgt := 151) hx hb dX5_about_146 (by decide) ?_
    exact hri () _ H locs 151 ls .int rfl rfl trivial (by simp [abA, f_17, h_27]) hP hD hS dX5_about_151
  have f_5 : (isN mn (nI k)) = false := bI_0.mp c_5
  exfalso; rw [isN_nI (by omega) (by omega)] at f_5; simp at f_5; omega
