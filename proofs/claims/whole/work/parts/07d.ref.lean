/-! Contracts of the reference. -/
set_option maxHeartbeats 4000000 in
set_option maxRecDepth 100000 in
theorem c_X5_step (l : Launch) (D : va_G) (cI cJ cZ : ClassId) (z : Nat → Nat) (mn : Nat) (mi : Nat) (ms : Nat) (mtk : Nat) (mso : Nat → Nat) (mwh : Nat → Nat) (mfi : Nat → Nat) (mse : Nat → Nat) (mth : Nat → Nat) (mpu : Nat → Nat) (mno : Nat → Nat) (mlo : Nat → Nat) (mbe : Nat → Nat) (mre : Nat → Nat) (mis : Nat → Bool) (mca : Nat → Bool) (mpa : Nat → Nat) (mva : Nat → Nat) (mle : Nat → Nat) (mst : Nat → Bool) (mtn : Nat → Bool) (mln : Nat → Nat) (mne : Nat → Int32) (mgo : Nat → Int32) (rs : Nat) (ao : Bool) (hmi : mi ≤ 4) (hms : ms ≤ 6) (hpu : ∀ i, i < mi → mpu i ≤ 2) (hbe : ∀ i, i < ms → mbe i ≤ 1) (hrs : rs < 64) (hle : ∀ r, r < 2 ^ ms → ∀ y, y < 2 ^ mi → mle (16 * r + y) < 64) : Ct l D cI cJ cZ yX5_step wsX5_step ({ frames := 1, cells := 0, slots := 0, locals := 24 } : Room) 0 0 [.ref (z 0), .int (nI rs), .int (bI ao)] (wM z cI cZ mn mi ms mtk mso mwh mfi mse mth mpu mno mlo mbe mre mis mca mpa mva mle mst mtn mln mne mgo) (S := (Nat → Bool) × (Nat → Bool)) (fun u => ∀ t, t < 64 → u.1 t = stpF mpu (trg mle mbe ms rs) ao mi ms mst t) (fun u => none) (fun u => (wM z cI cZ mn mi ms mtk mso mwh mfi mse mth mpu mno mlo mbe mre mis mca mpa mva mle u.1 u.2 mln mne mgo)) := by
  refine Ct.ofW (cc := cX5_step) (maxL := 6) (ret := none) (R_C := RX5) (by decide +kernel) rfl rfl (Nat.le_of_ble_eq_true rfl) rfl ?_
  intro p e s m args below meth c A Q ls H locs hx hb hml hown hts hK hA hP hD hS hZ hl hri hrl hrv
  refine lv_iconst (v := nI 0) hx hb dX5_step_0 (by decide) ?_
  refine lv_istore_n (lv' := [(3, .int (nI 0)), (0, .ref (z 0)), (1, .int (nI rs)), (2, .int (bI ao))]) hx hb dX5_step_1 rfl hl (by decide) rfl (fun ls hl => ?_)
  have hp6 : 2 ^ ms ≤ 64 := Nat.pow_le_pow_right (by omega) hms
  have hp4 : 2 ^ mi ≤ 16 := Nat.pow_le_pow_right (n := 2) (by omega) (show mi ≤ 4 by omega)
  refine lv_iconst (v := nI 0) hx hb dX5_step_2 (by decide) ?_
  refine lv_istore (lv' := [(4, .int (nI 0)), (3, .int (nI 0)), (0, .ref (z 0)), (1, .int (nI rs)), (2, .int (bI ao))]) hx hb dX5_step_3 hl (by decide) rfl (fun ls hl => ?_)
  have L_5 : ∀ (fuel : Nat) (i : Nat) (hi : i ≤ ms) (hfu : ms - i < fuel) (H : Heap) (locs : List Loc), va_P D vwCl (wM z cI cZ mn mi ms mtk mso mwh mfi mse mth mpu mno mlo mbe mre mis mca mpa mva mle mst mtn mln mne mgo) H → va_D A (wM z cI cZ mn mi ms mtk mso mwh mfi mse mth mpu mno mlo mbe mre mis mca mpa mva mle mst mtn mln mne mgo) → va_S A s.heap H locs → ∀ ls : Array Slot, lv_has ls 6 [(0, .ref (z 0)), (1, .int (nI rs)), (2, .int (bI ao)), (3, .int (nI (bN (fun jj => rs.testBit jj && decide (mbe jj = 1)) i))), (4, .int (nI i))] → W p l e ({ frames := 1, cells := 0, slots := 0, locals := 24 } : Room) s m args below meth c H locs 0 0 Q (F0 m 5 ls []) := by
    intro fuel
    induction fuel with
    | zero => intro i hi hfu; exact absurd hfu (Nat.not_lt_zero _)
    | succ fuel ih_5 =>
      intro i hi hfu H locs hP hD hS ls hl
      refine lv_iload hx hb dX5_step_5 (lv_at hl 4 rfl) ?_
      refine lv_aload_n hx hb dX5_step_7 rfl (lv_at hl 0 rfl) ?_
      refine va_get (D := D) (ci := 5) (v := .int (nI ms)) (C := RX5) (T := TX5) (N := 24) hx hb hts (fun w h => List.mem_cons_of_mem _ (List.mem_append_right _ h)) hown hK hP 0 rfl rfl 8 (by decide) (hts (.fieldLink RX5 85 "FirstStatesModel" "stores" "I") (List.mem_of_getElem? (i := 1) rfl)) (fun _ h9 => h9) rfl dX5_step_8 ?_
      refine lv_icmp_ge (tgt := 40) hx hb dX5_step_11 (by decide) (fun c_11 => ?_) (fun c_11 => ?_)
      · have f_11 : ms ≤ i := (nI_leI (a := ms) (b := i) (by first | omega | exact b_and1 _ | exact b_ct _ _ (by omega) | exact b_andr _ (by omega)) (by first | omega | exact b_and1 _ | exact b_ct _ _ (by omega) | exact b_andr _ (by omega))).mp c_11
        have e_s : i = ms := by omega
        refine lv_iconst (v := nI 0) hx hb dX5_step_40 (by decide) ?_
        refine lv_istore (lv' := [(4, .int (nI 0)), (0, .ref (z 0)), (1, .int (nI rs)), (2, .int (bI ao)), (3, .int (nI (bN (fun jj => rs.testBit jj && decide (mbe jj = 1)) i)))]) hx hb dX5_step_41 hl (by decide) rfl (fun ls hl => ?_)
        have L_43 : ∀ (fuel : Nat) (i : Nat) (hi : i ≤ 64) (hfu : 64 - i < fuel) (H : Heap) (locs : List Loc), va_P D vwCl (wM z cI cZ mn mi ms mtk mso mwh mfi mse mth mpu mno mlo mbe mre mis mca mpa mva mle mst (mixF (fun _ => false) mtn i) mln mne mgo) H → va_D A (wM z cI cZ mn mi ms mtk mso mwh mfi mse mth mpu mno mlo mbe mre mis mca mpa mva mle mst (mixF (fun _ => false) mtn i) mln mne mgo) → va_S A s.heap H locs → ∀ ls : Array Slot, lv_has ls 6 [(0, .ref (z 0)), (1, .int (nI rs)), (2, .int (bI ao)), (3, .int (nI (bN (fun jj => rs.testBit jj && decide (mbe jj = 1)) ms))), (4, .int (nI i))] → W p l e ({ frames := 1, cells := 0, slots := 0, locals := 24 } : Room) s m args below meth c H locs 0 0 Q (F0 m 43 ls []) := by
          intro fuel
          induction fuel with
          | zero => intro i hi hfu; exact absurd hfu (Nat.not_lt_zero _)
          | succ fuel ih_43 =>
            intro i hi hfu H locs hP hD hS ls hl
            refine lv_iload hx hb dX5_step_43 (lv_at hl 4 rfl) ?_
            refine lv_bipush (v := nI 64) hx hb dX5_step_45 (by decide) ?_
            refine lv_icmp_ge (tgt := 64) hx hb dX5_step_47 (by decide) (fun c_47 => ?_) (fun c_47 => ?_)
            · have f_47 : 64 ≤ i := (nI_leI (a := 64) (b := i) (by first | omega | exact b_and1 _ | exact b_ct _ _ (by omega) | exact b_andr _ (by omega)) (by first | omega | exact b_and1 _ | exact b_ct _ _ (by omega) | exact b_andr _ (by omega))).mp c_47
              refine lv_iconst (v := nI 0) hx hb dX5_step_64 (by decide) ?_
              refine lv_istore (lv' := [(4, .int (nI 0)), (0, .ref (z 0)), (1, .int (nI rs)), (2, .int (bI ao)), (3, .int (nI (bN (fun jj => rs.testBit jj && decide (mbe jj = 1)) ms)))]) hx hb dX5_step_65 hl (by decide) rfl (fun ls hl => ?_)
              have L_67 : ∀ (fuel : Nat) (y : Nat) (tn : Nat → Bool) (hy : y ≤ 2 ^ mi) (htn : ∀ t, t < 64 → tn t = stpB mpu (trg mle mbe ms rs) ao mi ms mst t y) (hfu : 2 ^ mi - y < fuel) (H : Heap) (locs : List Loc), va_P D vwCl (wM z cI cZ mn mi ms mtk mso mwh mfi mse mth mpu mno mlo mbe mre mis mca mpa mva mle mst tn mln mne mgo) H → va_D A (wM z cI cZ mn mi ms mtk mso mwh mfi mse mth mpu mno mlo mbe mre mis mca mpa mva mle mst tn mln mne mgo) → va_S A s.heap H locs → ∀ ls : Array Slot, lv_has ls 6 [(0, .ref (z 0)), (1, .int (nI rs)), (2, .int (bI ao)), (3, .int (nI (bN (fun jj => rs.testBit jj && decide (mbe jj = 1)) ms))), (4, .int (nI y))] → W p l e ({ frames := 1, cells := 0, slots := 0, locals := 24 } : Room) s m args below meth c H locs 0 0 Q (F0 m 67 ls []) := by
                intro fuel
                induction fuel with
                | zero => intro y tn hy htn hfu; exact absurd hfu (Nat.not_lt_zero _)
                | succ fuel ih_67 =>
                  intro y tn hy htn hfu H locs hP hD hS ls hl
                  refine lv_iload hx hb dX5_step_67 (lv_at hl 4 rfl) ?_
                  refine lv_iconst (v := nI 1) hx hb dX5_step_69 (by decide) ?_
                  refine lv_aload_n hx hb dX5_step_70 rfl (lv_at hl 0 rfl) ?_
                  refine va_get (D := D) (ci := 5) (v := .int (nI mi)) (C := RX5) (T := TX5) (N := 24) hx hb hts (fun w h => List.mem_cons_of_mem _ (List.mem_append_right _ h)) hown hK hP 0 rfl rfl 6 (by decide) (hts (.fieldLink RX5 88 "FirstStatesModel" "inputs" "I") (List.mem_of_getElem? (i := 4) rfl)) (fun _ h9 => h9) rfl dX5_step_71 ?_
                  refine lv_ishl hx hb dX5_step_74 ?_
                  refine fx_eqi (y := nI (2 ^ mi)) (fx_shl1 (by first | omega | exact b_and1 _ | exact b_ct _ _ (by omega) | exact b_andr _ (by omega))) ?_
                  refine lv_icmp_ge (tgt := 149) hx hb dX5_step_75 (by decide) (fun c_75 => ?_) (fun c_75 => ?_)
                  · have f_75 : 2 ^ mi ≤ y := (nI_leI (a := 2 ^ mi) (b := y) (by first | omega | exact b_and1 _ | exact b_ct _ _ (by omega) | exact b_andr _ (by omega)) (by first | omega | exact b_and1 _ | exact b_ct _ _ (by omega) | exact b_andr _ (by omega))).mp c_75
                    have e_y : y = 2 ^ mi := by omega
                    refine lv_iconst (v := nI 0) hx hb dX5_step_149 (by decide) ?_
                    refine lv_istore (lv' := [(4, .int (nI 0)), (0, .ref (z 0)), (1, .int (nI rs)), (2, .int (bI ao)), (3, .int (nI (bN (fun jj => rs.testBit jj && decide (mbe jj = 1)) ms)))]) hx hb dX5_step_150 hl (by decide) rfl (fun ls hl => ?_)
                    have L_152 : ∀ (fuel : Nat) (i : Nat) (hi : i ≤ 64) (hfu : 64 - i < fuel) (H : Heap) (locs : List Loc), va_P D vwCl (wM z cI cZ mn mi ms mtk mso mwh mfi mse mth mpu mno mlo mbe mre mis mca mpa mva mle (mixF tn mst i) tn mln mne mgo) H → va_D A (wM z cI cZ mn mi ms mtk mso mwh mfi mse mth mpu mno mlo mbe mre mis mca mpa mva mle (mixF tn mst i) tn mln mne mgo) → va_S A s.heap H locs → ∀ ls : Array Slot, lv_has ls 6 [(0, .ref (z 0)), (4, .int (nI i))] → W p l e ({ frames := 1, cells := 0, slots := 0, locals := 24 } : Room) s m args below meth c H locs 0 0 Q (F0 m 152 ls []) := by
                      intro fuel
                      induction fuel with
                      | zero => intro i hi hfu; exact absurd hfu (Nat.not_lt_zero _)
                      | succ fuel ih_152 =>
                        intro i hi hfu H locs hP hD hS ls hl
                        refine lv_iload hx hb dX5_step_152 (lv_at hl 1 rfl) ?_
                        refine lv_bipush (v := nI 64) hx hb dX5_step_154 (by decide) ?_
                        refine lv_icmp_ge (tgt := 179) hx hb dX5_step_156 (by decide) (fun c_156 => ?_) (fun c_156 => ?_)
                        · have f_156 : 64 ≤ i := (nI_leI (a := 64) (b := i) (by first | omega | exact b_and1 _ | exact b_ct _ _ (by omega) | exact b_andr _ (by omega)) (by first | omega | exact b_and1 _ | exact b_ct _ _ (by omega) | exact b_andr _ (by omega))).mp c_156
                          exact hrv (mixF tn mst i, tn) H locs 179 ls rfl (fun t2 ht2 => by show mixF tn mst i t2 = _; rw [show mixF tn mst i t2 = tn t2 from if_pos (by omega), htn t2 ht2, e_y]; rfl) rfl hP (fx_D hD rfl) hS dX5_step_179
                        have f_156 : ¬ 64 ≤ i := fun h => c_156 ((nI_leI (a := 64) (b := i) (by first | omega | exact b_and1 _ | exact b_ct _ _ (by omega) | exact b_andr _ (by omega)) (by first | omega | exact b_and1 _ | exact b_ct _ _ (by omega) | exact b_andr _ (by omega))).mpr h)
                        refine lv_aload_n hx hb dX5_step_159 rfl (lv_at hl 0 rfl) ?_
                        refine va_get (D := D) (ci := 5) (v := .ref (z 16)) (C := RX5) (T := TX5) (N := 24) hx hb hts (fun w h => List.mem_cons_of_mem _ (List.mem_append_right _ h)) hown hK hP 0 rfl rfl 19 (by decide) (hts (.fieldLink RX5 56 "FirstStatesModel" "set" "[Z") (List.mem_of_getElem? (i := 5) rfl)) (fun _ h9 => h9) rfl dX5_step_160 ?_
                        refine lv_iload hx hb dX5_step_163 (lv_at hl 1 rfl) ?_
                        refine lv_aload_n hx hb dX5_step_165 rfl (lv_at hl 0 rfl) ?_
                        refine va_get (D := D) (ci := 5) (v := .ref (z 17)) (C := RX5) (T := TX5) (N := 24) hx hb hts (fun w h => List.mem_cons_of_mem _ (List.mem_append_right _ h)) hown hK hP 0 rfl rfl 20 (by decide) (hts (.fieldLink RX5 59 "FirstStatesModel" "then" "[Z") (List.mem_of_getElem? (i := 3) rfl)) (fun _ h9 => h9) rfl dX5_step_166 ?_
                        refine lv_iload hx hb dX5_step_169 (lv_at hl 1 rfl) ?_
                        refine fx_zald (ar := bI) hx hb hK hP 17 (f := tn) (k := i) rfl (by omega) (by decide) dX5_step_171 ?_
                        refine fx_zast hx hb hK hP hD hS 16 (f := (mixF tn mst i)) (k := i) (v := (tn i)) rfl (by omega) (by decide) rfl dX5_step_172 (fun H locs hP hD hS => ?_)
                        have hP : va_P D vwCl (wM z cI cZ mn mi ms mtk mso mwh mfi mse mth mpu mno mlo mbe mre mis mca mpa mva mle (va_up (mixF tn mst i) i (tn i)) tn mln mne mgo) H := hP
                        have hD : va_D A (wM z cI cZ mn mi ms mtk mso mwh mfi mse mth mpu mno mlo mbe mre mis mca mpa mva mle (va_up (mixF tn mst i) i (tn i)) tn mln mne mgo) := fx_D hD rfl
                        refine lv_iinc (v := nI (i + 1)) (lv' := [(4, .int (nI (i + 1))), (0, .ref (z 0))]) hx hb dX5_step_173 hl (k := 1) rfl (by exact nI_1 _) (by decide) rfl (fun ls hl => ?_)
                        refine lv_goto (tgt := 152) hx hb dX5_step_176 (by decide) ?_
                        have e_1 : va_up (mixF tn mst i) i (tn i) = mixF tn mst (i + 1) := by first | rfl | (exact mix_up _ _ _ _ rfl)
                        exact ih_152 (i + 1) (by first | assumption | omega) (by omega) H locs (fx_Pe (w' := (wM z cI cZ mn mi ms mtk mso mwh mfi mse mth mpu mno mlo mbe mre mis mca mpa mva mle (mixF tn mst (i + 1)) tn mln mne mgo)) hP (congrArg (fun w9 : Nat → Bool => (wM z cI cZ mn mi ms mtk mso mwh mfi mse mth mpu mno mlo mbe mre mis mca mpa mva mle w9 tn mln mne mgo)) e_1)) (fx_D hD rfl) hS ls (lv_sub hl [1, 0] rfl)
                    have e_2 : mst = mixF tn mst 0 := by first | rfl | (exact (mix_0 _ _).symm)
                    exact L_152 (64 - 0 + 1) 0 (Nat.zero_le _) (Nat.lt_succ_self _) H locs (fx_Pe (w' := (wM z cI cZ mn mi ms mtk mso mwh mfi mse mth mpu mno mlo mbe mre mis mca mpa mva mle (mixF tn mst 0) tn mln mne mgo)) hP (congrArg (fun w9 : Nat → Bool => (wM z cI cZ mn mi ms mtk mso mwh mfi mse mth mpu mno mlo mbe mre mis mca mpa mva mle w9 tn mln mne mgo)) e_2)) (fx_D hD rfl) hS ls (lv_sub hl [1, 0] rfl)
                  have f_75 : ¬ 2 ^ mi ≤ y := fun h => c_75 ((nI_leI (a := 2 ^ mi) (b := y) (by first | omega | exact b_and1 _ | exact b_ct _ _ (by omega) | exact b_andr _ (by omega)) (by first | omega | exact b_and1 _ | exact b_ct _ _ (by omega) | exact b_andr _ (by omega))).mpr h)
                  refine lv_aload_n hx hb dX5_step_78 rfl (lv_at hl 0 rfl) ?_
                  refine lv_iload hx hb dX5_step_79 (lv_at hl 4 rfl) ?_
                  refine lv_iload_n hx hb dX5_step_81 rfl (lv_at hl 2 rfl) ?_
                  refine fx_callV (As := [.int (nI y), .int (bI ao)]) (rest := []) ⟨hx, hb, hml, hown, hts⟩ (c_X5_isPut l D cI cJ cZ z mn mi ms mtk mso mwh mfi mse mth mpu mno mlo mbe mre mis mca mpa mva mle mst tn mln mne mgo y ao (by first | assumption | omega) (by first | assumption | omega) (by first | assumption | omega)) (cwV 2 hts gX5_step_X5_isPut rfl rfl rfl kv_X5_isPut ⟨Nat.le_of_ble_eq_true rfl, Nat.le_of_ble_eq_true rfl⟩) hK hP hD hS hA hZ 0 rfl rfl rfl rfl hl.1 rfl (lv_room (Nat.le_of_ble_eq_true rfl)) dX5_step_82 ⟨Nat.zero_le _, Nat.zero_le _⟩ (fun u_3 H locs hu_3 hP hD hS => ?_)
                  refine lv_if_eq (tgt := 143) hx hb dX5_step_85 (by decide) (fun c_85 => ?_) (fun c_85 => ?_)
                  · have f_85 : (putT mpu y ao mi) = false := bI_0.mp c_85
                    refine lv_iinc (v := nI (y + 1)) (lv' := [(4, .int (nI (y + 1))), (0, .ref (z 0)), (1, .int (nI rs)), (2, .int (bI ao)), (3, .int (nI (bN (fun jj => rs.testBit jj && decide (mbe jj = 1)) ms)))]) hx hb dX5_step_143 hl (k := 4) rfl (by exact nI_1 _) (by decide) rfl (fun ls hl => ?_)
                    refine lv_goto (tgt := 67) hx hb dX5_step_146 (by decide) ?_
                    exact ih_67 (y + 1) tn (by first | assumption | omega) (fun t ht => by rw [htn t ht]; show _ = (stpB _ _ _ _ _ _ _ y || (putT mpu y ao mi && _)); rw [f_85, Bool.false_and, Bool.or_false]) (by omega) H locs hP hD hS ls (lv_sub hl [1, 2, 3, 4, 0] rfl)
                  have f_85 : (putT mpu y ao mi) = true := bI_n0.mp c_85
                  refine lv_iconst (v := nI 0) hx hb dX5_step_88 (by decide) ?_
                  refine lv_istore (lv' := [(5, .int (nI 0)), (0, .ref (z 0)), (1, .int (nI rs)), (2, .int (bI ao)), (3, .int (nI (bN (fun jj => rs.testBit jj && decide (mbe jj = 1)) ms))), (4, .int (nI y))]) hx hb dX5_step_89 hl (by decide) rfl (fun ls hl => ?_)
                  have L_91 : ∀ (fuel : Nat) (r : Nat) (tq : Nat → Bool) (hr : r ≤ 2 ^ ms) (htq : ∀ t, t < 64 → tq t = (stpB mpu (trg mle mbe ms rs) ao mi ms mst t y || hitB mst (trg mle mbe ms rs) y t r)) (hfu : 2 ^ ms - r < fuel) (H : Heap) (locs : List Loc), va_P D vwCl (wM z cI cZ mn mi ms mtk mso mwh mfi mse mth mpu mno mlo mbe mre mis mca mpa mva mle mst tq mln mne mgo) H → va_D A (wM z cI cZ mn mi ms mtk mso mwh mfi mse mth mpu mno mlo mbe mre mis mca mpa mva mle mst tq mln mne mgo) → va_S A s.heap H locs → ∀ ls : Array Slot, lv_has ls 6 [(0, .ref (z 0)), (1, .int (nI rs)), (2, .int (bI ao)), (3, .int (nI (bN (fun jj => rs.testBit jj && decide (mbe jj = 1)) ms))), (4, .int (nI y)), (5, .int (nI r))] → W p l e ({ frames := 1, cells := 0, slots := 0, locals := 24 } : Room) s m args below meth c H locs 0 0 Q (F0 m 91 ls []) := by
                    intro fuel
                    induction fuel with
                    | zero => intro r tq hr htq hfu; exact absurd hfu (Nat.not_lt_zero _)
                    | succ fuel ih_91 =>
                      intro r tq hr htq hfu H locs hP hD hS ls hl
                      refine lv_iload hx hb dX5_step_91 (lv_at hl 5 rfl) ?_
                      refine lv_iconst (v := nI 1) hx hb dX5_step_93 (by decide) ?_
                      refine lv_aload_n hx hb dX5_step_94 rfl (lv_at hl 0 rfl) ?_
                      refine va_get (D := D) (ci := 5) (v := .int (nI ms)) (C := RX5) (T := TX5) (N := 24) hx hb hts (fun w h => List.mem_cons_of_mem _ (List.mem_append_right _ h)) hown hK hP 0 rfl rfl 8 (by decide) (hts (.fieldLink RX5 85 "FirstStatesModel" "stores" "I") (List.mem_of_getElem? (i := 1) rfl)) (fun _ h9 => h9) rfl dX5_step_95 ?_
                      refine lv_ishl hx hb dX5_step_98 ?_
                      refine fx_eqi (y := nI (2 ^ ms)) (fx_shl1 (by first | omega | exact b_and1 _ | exact b_ct _ _ (by omega) | exact b_andr _ (by omega))) ?_
                      refine lv_icmp_ge (tgt := 143) hx hb dX5_step_99 (by decide) (fun c_99 => ?_) (fun c_99 => ?_)
                      · have f_99 : 2 ^ ms ≤ r := (nI_leI (a := 2 ^ ms) (b := r) (by first | omega | exact b_and1 _ | exact b_ct _ _ (by omega) | exact b_andr _ (by omega)) (by first | omega | exact b_and1 _ | exact b_ct _ _ (by omega) | exact b_andr _ (by omega))).mp c_99
                        have e_r : r = 2 ^ ms := by omega
                        refine lv_iinc (v := nI (y + 1)) (lv' := [(4, .int (nI (y + 1))), (0, .ref (z 0)), (1, .int (nI rs)), (2, .int (bI ao)), (3, .int (nI (bN (fun jj => rs.testBit jj && decide (mbe jj = 1)) ms))), (5, .int (nI r))]) hx hb dX5_step_143 hl (k := 4) rfl (by exact nI_1 _) (by decide) rfl (fun ls hl => ?_)
                        refine lv_goto (tgt := 67) hx hb dX5_step_146 (by decide) ?_
                        exact ih_67 (y + 1) tq (by first | assumption | omega) (fun t ht => by rw [htq t ht, e_r]; show _ = (stpB _ _ _ _ _ _ _ y || (putT mpu y ao mi && _)); rw [f_85, Bool.true_and]) (by omega) H locs hP hD hS ls (lv_sub hl [1, 2, 3, 4, 0] rfl)
                      have f_99 : ¬ 2 ^ ms ≤ r := fun h => c_99 ((nI_leI (a := 2 ^ ms) (b := r) (by first | omega | exact b_and1 _ | exact b_ct _ _ (by omega) | exact b_andr _ (by omega)) (by first | omega | exact b_and1 _ | exact b_ct _ _ (by omega) | exact b_andr _ (by omega))).mpr h)
                      refine lv_aload_n hx hb dX5_step_102 rfl (lv_at hl 0 rfl) ?_
                      refine va_get (D := D) (ci := 5) (v := .ref (z 16)) (C := RX5) (T := TX5) (N := 24) hx hb hts (fun w h => List.mem_cons_of_mem _ (List.mem_append_right _ h)) hown hK hP 0 rfl rfl 19 (by decide) (hts (.fieldLink RX5 56 "FirstStatesModel" "set" "[Z") (List.mem_of_getElem? (i := 5) rfl)) (fun _ h9 => h9) rfl dX5_step_103 ?_
                      refine lv_iload hx hb dX5_step_106 (lv_at hl 5 rfl) ?_
                      refine fx_zald (ar := bI) hx hb hK hP 16 (f := mst) (k := r) rfl (by omega) (by decide) dX5_step_108 ?_
                      refine lv_if_eq (tgt := 137) hx hb dX5_step_109 (by decide) (fun c_109 => ?_) (fun c_109 => ?_)
                      · have f_109 : (mst r) = false := bI_0.mp c_109
                        refine lv_iinc (v := nI (r + 1)) (lv' := [(5, .int (nI (r + 1))), (0, .ref (z 0)), (1, .int (nI rs)), (2, .int (bI ao)), (3, .int (nI (bN (fun jj => rs.testBit jj && decide (mbe jj = 1)) ms))), (4, .int (nI y))]) hx hb dX5_step_137 hl (k := 5) rfl (by exact nI_1 _) (by decide) rfl (fun ls hl => ?_)
                        refine lv_goto (tgt := 91) hx hb dX5_step_140 (by decide) ?_
                        exact ih_91 (r + 1) tq (by first | assumption | omega) (fun t ht => by rw [htq t ht]; show _ = (_ || (hitB mst (trg mle mbe ms rs) y t r || (mst r && decide ((trg mle mbe ms rs) r y = t)))); rw [f_109, Bool.false_and, Bool.or_false]) (by omega) H locs hP hD hS ls (lv_sub hl [1, 2, 3, 4, 5, 0] rfl)
                      have f_109 : (mst r) = true := bI_n0.mp c_109
                      have hle1 := hle r (by omega) y (by omega)
                      refine lv_aload_n hx hb dX5_step_112 rfl (lv_at hl 0 rfl) ?_
                      refine va_get (D := D) (ci := 5) (v := .ref (z 17)) (C := RX5) (T := TX5) (N := 24) hx hb hts (fun w h => List.mem_cons_of_mem _ (List.mem_append_right _ h)) hown hK hP 0 rfl rfl 20 (by decide) (hts (.fieldLink RX5 59 "FirstStatesModel" "then" "[Z") (List.mem_of_getElem? (i := 3) rfl)) (fun _ h9 => h9) rfl dX5_step_113 ?_
                      refine lv_aload_n hx hb dX5_step_116 rfl (lv_at hl 0 rfl) ?_
                      refine va_get (D := D) (ci := 5) (v := .ref (z 15)) (C := RX5) (T := TX5) (N := 24) hx hb hts (fun w h => List.mem_cons_of_mem _ (List.mem_append_right _ h)) hown hK hP 0 rfl rfl 18 (by decide) (hts (.fieldLink RX5 53 "FirstStatesModel" "leads" "[I") (List.mem_of_getElem? (i := 6) rfl)) (fun _ h9 => h9) rfl dX5_step_117 ?_
                      refine lv_bipush (v := nI 16) hx hb dX5_step_120 (by decide) ?_
                      refine lv_iload hx hb dX5_step_122 (lv_at hl 5 rfl) ?_
                      refine lv_imul hx hb dX5_step_124 ?_
                      refine fx_eqi (pk_mul _ _) ?_
                      refine lv_iload hx hb dX5_step_125 (lv_at hl 4 rfl) ?_
                      refine lv_iadd hx hb dX5_step_127 ?_
                      refine fx_eqi (nI_add _ _) ?_
                      refine fx_iald (ar := nI) hx hb hK hP 15 (f := mle) (k := ((16 * r) + y)) rfl (by omega) (by decide) dX5_step_128 ?_
                      refine lv_iload_n hx hb dX5_step_129 rfl (lv_at hl 1 rfl) ?_
                      refine lv_iconst (v := (-1)) hx hb dX5_step_130 (by decide) ?_
                      refine lv_ixor hx hb dX5_step_131 ?_
                      refine lv_iand hx hb dX5_step_132 ?_
                      refine fx_eqi (x := (nI (mle ((16 * r) + y))) &&& ((nI rs) ^^^ (-1))) (y := nI (mle (16 * r + y) &&& (63 ^^^ rs))) (not63 _ hle1 _ hrs) ?_
                      refine lv_iload_n hx hb dX5_step_133 rfl (lv_at hl 3 rfl) ?_
                      refine lv_ior hx hb dX5_step_134 ?_
                      refine fx_eqi (fx_orI _ _) ?_
                      refine lv_iconst (v := nI 1) hx hb dX5_step_135 (by decide) ?_
                      refine fx_zast hx hb hK hP hD hS 17 (f := tq) (k := ((mle (16 * r + y) &&& (63 ^^^ rs)) ||| (bN (fun jj => rs.testBit jj && decide (mbe jj = 1)) ms))) (v := true) rfl (trg_lt hms hle1) (by decide) rfl dX5_step_136 (fun H locs hP hD hS => ?_)
                      have hP : va_P D vwCl (wM z cI cZ mn mi ms mtk mso mwh mfi mse mth mpu mno mlo mbe mre mis mca mpa mva mle mst (va_up tq ((mle (16 * r + y) &&& (63 ^^^ rs)) ||| (bN (fun jj => rs.testBit jj && decide (mbe jj = 1)) ms)) true) mln mne mgo) H := hP
                      have hD : va_D A (wM z cI cZ mn mi ms mtk mso mwh mfi mse mth mpu mno mlo mbe mre mis mca mpa mva mle mst (va_up tq ((mle (16 * r + y) &&& (63 ^^^ rs)) ||| (bN (fun jj => rs.testBit jj && decide (mbe jj = 1)) ms)) true) mln mne mgo) := fx_D hD rfl
                      refine lv_iinc (v := nI (r + 1)) (lv' := [(5, .int (nI (r + 1))), (0, .ref (z 0)), (1, .int (nI rs)), (2, .int (bI ao)), (3, .int (nI (bN (fun jj => rs.testBit jj && decide (mbe jj = 1)) ms))), (4, .int (nI y))]) hx hb dX5_step_137 hl (k := 5) rfl (by exact nI_1 _) (by decide) rfl (fun ls hl => ?_)
                      refine lv_goto (tgt := 91) hx hb dX5_step_140 (by decide) ?_
                      exact ih_91 (r + 1) (va_up tq ((mle (16 * r + y) &&& (63 ^^^ rs)) ||| (bN (fun jj => rs.testBit jj && decide (mbe jj = 1)) ms)) true) (by first | assumption | omega) (fun t ht => by show (if t = (trg mle mbe ms rs) r y then true else tq t) = (_ || (hitB mst (trg mle mbe ms rs) y t r || (mst r && decide ((trg mle mbe ms rs) r y = t)))); rw [f_109, htq t ht]; by_cases e : t = (trg mle mbe ms rs) r y; (rw [if_pos e, decide_eq_true e.symm]; simp); rw [if_neg e, decide_eq_false (fun h => e h.symm)]; simp) (by omega) H locs hP hD hS ls (lv_sub hl [1, 2, 3, 4, 5, 0] rfl)
                  exact L_91 (2 ^ ms - 0 + 1) 0 tn (Nat.zero_le _) (fun t ht => by rw [htn t ht]; exact (Bool.or_false _).symm) (Nat.lt_succ_self _) H locs hP hD hS ls (lv_sub hl [1, 2, 3, 4, 5, 0] rfl)
              exact L_67 (2 ^ mi - 0 + 1) 0 (mixF (fun _ => false) mtn i) (Nat.zero_le _) (fun t ht => if_pos (by omega)) (Nat.lt_succ_self _) H locs hP hD hS ls (lv_sub hl [1, 2, 3, 4, 0] rfl)
            have f_47 : ¬ 64 ≤ i := fun h => c_47 ((nI_leI (a := 64) (b := i) (by first | omega | exact b_and1 _ | exact b_ct _ _ (by omega) | exact b_andr _ (by omega)) (by first | omega | exact b_and1 _ | exact b_ct _ _ (by omega) | exact b_andr _ (by omega))).mpr h)
            refine lv_aload_n hx hb dX5_step_50 rfl (lv_at hl 0 rfl) ?_
            refine va_get (D := D) (ci := 5) (v := .ref (z 17)) (C := RX5) (T := TX5) (N := 24) hx hb hts (fun w h => List.mem_cons_of_mem _ (List.mem_append_right _ h)) hown hK hP 0 rfl rfl 20 (by decide) (hts (.fieldLink RX5 59 "FirstStatesModel" "then" "[Z") (List.mem_of_getElem? (i := 3) rfl)) (fun _ h9 => h9) rfl dX5_step_51 ?_
            refine lv_iload hx hb dX5_step_54 (lv_at hl 4 rfl) ?_
            refine lv_iconst (v := nI 0) hx hb dX5_step_56 (by decide) ?_
            refine fx_zast hx hb hK hP hD hS 17 (f := (mixF (fun _ => false) mtn i)) (k := i) (v := false) rfl (by omega) (by decide) rfl dX5_step_57 (fun H locs hP hD hS => ?_)
            have hP : va_P D vwCl (wM z cI cZ mn mi ms mtk mso mwh mfi mse mth mpu mno mlo mbe mre mis mca mpa mva mle mst (va_up (mixF (fun _ => false) mtn i) i false) mln mne mgo) H := hP
            have hD : va_D A (wM z cI cZ mn mi ms mtk mso mwh mfi mse mth mpu mno mlo mbe mre mis mca mpa mva mle mst (va_up (mixF (fun _ => false) mtn i) i false) mln mne mgo) := fx_D hD rfl
            refine lv_iinc (v := nI (i + 1)) (lv' := [(4, .int (nI (i + 1))), (0, .ref (z 0)), (1, .int (nI rs)), (2, .int (bI ao)), (3, .int (nI (bN (fun jj => rs.testBit jj && decide (mbe jj = 1)) ms)))]) hx hb dX5_step_58 hl (k := 4) rfl (by exact nI_1 _) (by decide) rfl (fun ls hl => ?_)
            refine lv_goto (tgt := 43) hx hb dX5_step_61 (by decide) ?_
            have e_4 : va_up (mixF (fun _ => false) mtn i) i false = mixF (fun _ => false) mtn (i + 1) := by first | rfl | (exact mix_up _ _ _ _ rfl)
            exact ih_43 (i + 1) (by first | assumption | omega) (by omega) H locs (fx_Pe (w' := (wM z cI cZ mn mi ms mtk mso mwh mfi mse mth mpu mno mlo mbe mre mis mca mpa mva mle mst (mixF (fun _ => false) mtn (i + 1)) mln mne mgo)) hP (congrArg (fun w9 : Nat → Bool => (wM z cI cZ mn mi ms mtk mso mwh mfi mse mth mpu mno mlo mbe mre mis mca mpa mva mle mst w9 mln mne mgo)) e_4)) (fx_D hD rfl) hS ls (lv_sub hl [1, 2, 3, 4, 0] rfl)
        have e_5 : mtn = mixF (fun _ => false) mtn 0 := by first | rfl | (exact (mix_0 _ _).symm)
        have e_6 : nI (bN (fun jj => rs.testBit jj && decide (mbe jj = 1)) i) = nI (bN (fun jj => rs.testBit jj && decide (mbe jj = 1)) ms) := by first | rfl | (rw [e_s])
        exact L_43 (64 - 0 + 1) 0 (Nat.zero_le _) (Nat.lt_succ_self _) H locs (fx_Pe (w' := (wM z cI cZ mn mi ms mtk mso mwh mfi mse mth mpu mno mlo mbe mre mis mca mpa mva mle mst (mixF (fun _ => false) mtn 0) mln mne mgo)) hP (congrArg (fun w9 : Nat → Bool => (wM z cI cZ mn mi ms mtk mso mwh mfi mse mth mpu mno mlo mbe mre mis mca mpa mva mle mst w9 mln mne mgo)) e_5)) (fx_D hD rfl) hS ls (lv_sub (fx_hl (l' := [(4, .int (nI 0)), (0, .ref (z 0)), (1, .int (nI rs)), (2, .int (bI ao)), (3, .int (nI (bN (fun jj => rs.testBit jj && decide (mbe jj = 1)) ms)))]) hl (congrArg (fun w9 : Int32 => ([(4, .int (nI 0)), (0, .ref (z 0)), (1, .int (nI rs)), (2, .int (bI ao)), (3, .int w9)] : List (Nat × Value))) e_6)) [1, 2, 3, 4, 0] rfl)
      have f_11 : ¬ ms ≤ i := fun h => c_11 ((nI_leI (a := ms) (b := i) (by first | omega | exact b_and1 _ | exact b_ct _ _ (by omega) | exact b_andr _ (by omega)) (by first | omega | exact b_and1 _ | exact b_ct _ _ (by omega) | exact b_andr _ (by omega))).mpr h)
      have hbe1 := hbe i (by omega)
      have hb1 := @Nat.and_le_right (rs >>> i) 1
      have hmm : (rs >>> i &&& 1) * mbe i ≤ 1 * 1 := Nat.mul_le_mul hb1 hbe1
      refine lv_iload_n hx hb dX5_step_14 rfl (lv_at hl 3 rfl) ?_
      refine lv_iload_n hx hb dX5_step_15 rfl (lv_at hl 1 rfl) ?_
      refine lv_iload hx hb dX5_step_16 (lv_at hl 4 rfl) ?_
      refine lv_ishr hx hb dX5_step_18 ?_
      refine fx_eqi (y := nI (rs >>> i)) (fx_shr (by first | omega | exact b_and1 _ | exact b_ct _ _ (by omega) | exact b_andr _ (by omega)) (by first | omega | exact b_and1 _ | exact b_ct _ _ (by omega) | exact b_andr _ (by omega))) ?_
      refine lv_iconst (v := nI 1) hx hb dX5_step_19 (by decide) ?_
      refine lv_iand hx hb dX5_step_20 ?_
      refine fx_eqi (fx_andI _ _) ?_
      refine lv_aload_n hx hb dX5_step_21 rfl (lv_at hl 0 rfl) ?_
      refine va_get (D := D) (ci := 5) (v := .ref (z 9)) (C := RX5) (T := TX5) (N := 24) hx hb hts (fun w h => List.mem_cons_of_mem _ (List.mem_append_right _ h)) hown hK hP 0 rfl rfl 11 (by decide) (hts (.fieldLink RX5 34 "FirstStatesModel" "begins" "[I") (List.mem_of_getElem? (i := 2) rfl)) (fun _ h9 => h9) rfl dX5_step_22 ?_
      refine lv_iload hx hb dX5_step_25 (lv_at hl 4 rfl) ?_
      refine fx_iald (ar := nI) hx hb hK hP 9 (f := mbe) (k := i) rfl (by omega) (by decide) dX5_step_27 ?_
      refine lv_imul hx hb dX5_step_28 ?_
      refine fx_eqi (pk_mul _ _) ?_
      refine lv_iload hx hb dX5_step_29 (lv_at hl 4 rfl) ?_
      refine lv_ishl hx hb dX5_step_31 ?_
      refine fx_eqi (y := nI ((((rs >>> i) &&& 1) * (mbe i)) <<< i)) (fx_shl (by first | omega | exact b_and1 _ | exact b_ct _ _ (by omega) | exact b_andr _ (by omega))) ?_
      refine lv_ior hx hb dX5_step_32 ?_
      refine fx_eqi (fx_orI _ _) ?_
      refine lv_istore_n (lv' := [(3, .int (nI ((bN (fun jj => rs.testBit jj && decide (mbe jj = 1)) i) ||| ((((rs >>> i) &&& 1) * (mbe i)) <<< i)))), (0, .ref (z 0)), (1, .int (nI rs)), (2, .int (bI ao)), (4, .int (nI i))]) hx hb dX5_step_33 rfl hl (by decide) rfl (fun ls hl => ?_)
      refine lv_iinc (v := nI (i + 1)) (lv' := [(4, .int (nI (i + 1))), (3, .int (nI ((bN (fun jj => rs.testBit jj && decide (mbe jj = 1)) i) ||| ((((rs >>> i) &&& 1) * (mbe i)) <<< i)))), (0, .ref (z 0)), (1, .int (nI rs)), (2, .int (bI ao))]) hx hb dX5_step_34 hl (k := 4) rfl (by exact nI_1 _) (by decide) rfl (fun ls hl => ?_)
      refine lv_goto (tgt := 5) hx hb dX5_step_37 (by decide) ?_
      have e_7 : nI ((bN (fun jj => rs.testBit jj && decide (mbe jj = 1)) i) ||| ((((rs >>> i) &&& 1) * (mbe i)) <<< i)) = nI (bN (fun jj => rs.testBit jj && decide (mbe jj = 1)) (i + 1)) := by first | rfl | (exact congrArg nI (bN_mul rfl (hbe i (by omega))))
      exact ih_5 (i + 1) (by first | assumption | omega) (by omega) H locs hP hD hS ls (lv_sub (fx_hl (l' := [(4, .int (nI (i + 1))), (3, .int (nI (bN (fun jj => rs.testBit jj && decide (mbe jj = 1)) (i + 1)))), (0, .ref (z 0)), (1, .int (nI rs)), (2, .int (bI ao))]) hl (congrArg (fun w9 : Int32 => ([(4, .int (nI (i + 1))), (3, .int w9), (0, .ref (z 0)), (1, .int (nI rs)), (2, .int (bI ao))] : List (Nat × Value))) e_7)) [2, 3, 4, 1, 0] rfl)
  exact L_5 (ms - 0 + 1) 0 (Nat.zero_le _) (Nat.lt_succ_self _) H locs hP hD hS ls (lv_sub hl [2, 3, 4, 1, 0] rfl)
set_option maxHeartbeats 4000000 in
set_option maxRecDepth 100000 in
theorem c_X5_many (l : Launch) (D : va_G) (cI cJ cZ : ClassId) (z : Nat → Nat) (mn : Nat) (mi : Nat) (ms : Nat) (mtk : Nat) (mso : Nat → Nat) (mwh : Nat → Nat) (mfi : Nat → Nat) (mse : Nat → Nat) (mth : Nat → Nat) (mpu : Nat → Nat) (mno : Nat → Nat) (mlo : Nat → Nat) (mbe : Nat → Nat) (mre : Nat → Nat) (mis : Nat → Bool) (mca : Nat → Bool) (mpa : Nat → Nat) (mva : Nat → Nat) (mle : Nat → Nat) (mst : Nat → Bool) (mtn : Nat → Bool) (mln : Nat → Nat) (mne : Nat → Int32) (mgo : Nat → Int32) : Ct l D cI cJ cZ yX5_many wsX5_many ({ frames := 0, cells := 0, slots := 0, locals := 0 } : Room) 0 0 [.ref (z 0)] (wM z cI cZ mn mi ms mtk mso mwh mfi mse mth mpu mno mlo mbe mre mis mca mpa mva mle mst mtn mln mne mgo) (S := Unit) (fun u => True) (fun u => some (.int (nI (ct mst 64)))) (fun u => (wM z cI cZ mn mi ms mtk mso mwh mfi mse mth mpu mno mlo mbe mre mis mca mpa mva mle mst mtn mln mne mgo)) := by
  refine Ct.ofW (cc := cX5_many) (maxL := 3) (ret := (some .int)) (R_C := RX5) (by decide +kernel) rfl rfl (Nat.le_of_ble_eq_true rfl) rfl ?_
  intro p e s m args below meth c A Q ls H locs hx hb hml hown hts hK hA hP hD hS hZ hl hri hrl hrv
  refine lv_iconst (v := nI 0) hx hb dX5_many_0 (by decide) ?_
  refine lv_istore_n (lv' := [(1, .int (nI 0)), (0, .ref (z 0))]) hx hb dX5_many_1 rfl hl (by decide) rfl (fun ls hl => ?_)
  refine lv_iconst (v := nI 0) hx hb dX5_many_2 (by decide) ?_
  refine lv_istore_n (lv' := [(2, .int (nI 0)), (1, .int (nI 0)), (0, .ref (z 0))]) hx hb dX5_many_3 rfl hl (by decide) rfl (fun ls hl => ?_)
  have L_4 : ∀ (fuel : Nat) (i : Nat) (hi : i ≤ 64) (hfu : 64 - i < fuel) (H : Heap) (locs : List Loc), va_P D vwCl (wM z cI cZ mn mi ms mtk mso mwh mfi mse mth mpu mno mlo mbe mre mis mca mpa mva mle mst mtn mln mne mgo) H → va_D A (wM z cI cZ mn mi ms mtk mso mwh mfi mse mth mpu mno mlo mbe mre mis mca mpa mva mle mst mtn mln mne mgo) → va_S A s.heap H locs → ∀ ls : Array Slot, lv_has ls 3 [(0, .ref (z 0)), (1, .int (nI (ct mst i))), (2, .int (nI i))] → W p l e ({ frames := 0, cells := 0, slots := 0, locals := 0 } : Room) s m args below meth c H locs 0 0 Q (F0 m 4 ls []) := by
    intro fuel
    induction fuel with
    | zero => intro i hi hfu; exact absurd hfu (Nat.not_lt_zero _)
    | succ fuel ih_4 =>
      intro i hi hfu H locs hP hD hS ls hl
      refine lv_iload_n hx hb dX5_many_4 rfl (lv_at hl 2 rfl) ?_
      refine lv_bipush (v := nI 64) hx hb dX5_many_5 (by decide) ?_
      refine lv_icmp_ge (tgt := 33) hx hb dX5_many_7 (by decide) (fun c_7 => ?_) (fun c_7 => ?_)
      · have f_7 : 64 ≤ i := (nI_leI (a := 64) (b := i) (by first | omega | exact b_and1 _ | exact b_ct _ _ (by omega) | exact b_andr _ (by omega)) (by first | omega | exact b_and1 _ | exact b_ct _ _ (by omega) | exact b_andr _ (by omega))).mp c_7
        refine lv_iload_n hx hb dX5_many_33 rfl (lv_at hl 1 rfl) ?_
        exact hri () _ H locs 34 ls .int rfl rfl trivial (by rw [show i = 64 by omega]) hP hD hS dX5_many_34
      have f_7 : ¬ 64 ≤ i := fun h => c_7 ((nI_leI (a := 64) (b := i) (by first | omega | exact b_and1 _ | exact b_ct _ _ (by omega) | exact b_andr _ (by omega)) (by first | omega | exact b_and1 _ | exact b_ct _ _ (by omega) | exact b_andr _ (by omega))).mpr h)
      refine lv_iload_n hx hb dX5_many_10 rfl (lv_at hl 1 rfl) ?_
      refine lv_aload_n hx hb dX5_many_11 rfl (lv_at hl 0 rfl) ?_
      refine va_get (D := D) (ci := 5) (v := .ref (z 16)) (C := RX5) (T := TX5) (N := 24) hx hb hts (fun w h => List.mem_cons_of_mem _ (List.mem_append_right _ h)) hown hK hP 0 rfl rfl 19 (by decide) (hts (.fieldLink RX5 56 "FirstStatesModel" "set" "[Z") (List.mem_of_getElem? (i := 1) rfl)) (fun _ h9 => h9) rfl dX5_many_12 ?_
      refine lv_iload_n hx hb dX5_many_15 rfl (lv_at hl 2 rfl) ?_
      refine fx_zald (ar := bI) hx hb hK hP 16 (f := mst) (k := i) rfl (by omega) (by decide) dX5_many_16 ?_
      refine lv_if_eq (tgt := 24) hx hb dX5_many_17 (by decide) (fun c_17 => ?_) (fun c_17 => ?_)
      · have f_17 : (mst i) = false := bI_0.mp c_17
        refine lv_iconst (v := nI 0) hx hb dX5_many_24 (by decide) ?_
        refine lv_iadd hx hb dX5_many_25 ?_
        refine fx_eqi (nI_add _ _) ?_
        refine lv_istore_n (lv' := [(1, .int (nI ((ct mst i) + 0))), (0, .ref (z 0)), (2, .int (nI i))]) hx hb dX5_many_26 rfl hl (by decide) rfl (fun ls hl => ?_)
        refine lv_iinc (v := nI (i + 1)) (lv' := [(2, .int (nI (i + 1))), (1, .int (nI ((ct mst i) + 0))), (0, .ref (z 0))]) hx hb dX5_many_27 hl (k := 2) rfl (by exact nI_1 _) (by decide) rfl (fun ls hl => ?_)
        refine lv_goto (tgt := 4) hx hb dX5_many_30 (by decide) ?_
        have e_1 : nI ((ct mst i) + 0) = nI (ct mst (i + 1)) := by first | rfl | (simp [ct, f_17])
        exact ih_4 (i + 1) (by first | assumption | omega) (by omega) H locs hP hD hS ls (lv_sub (fx_hl (l' := [(2, .int (nI (i + 1))), (1, .int (nI (ct mst (i + 1)))), (0, .ref (z 0))]) hl (congrArg (fun w9 : Int32 => ([(2, .int (nI (i + 1))), (1, .int w9), (0, .ref (z 0))] : List (Nat × Value))) e_1)) [2, 1, 0] rfl)
      have f_17 : (mst i) = true := bI_n0.mp c_17
      refine lv_iconst (v := nI 1) hx hb dX5_many_20 (by decide) ?_
      refine lv_goto (tgt := 25) hx hb dX5_many_21 (by decide) ?_
      refine lv_iadd hx hb dX5_many_25 ?_
      refine fx_eqi (nI_add _ _) ?_
      refine lv_istore_n (lv' := [(1, .int (nI ((ct mst i) + 1))), (0, .ref (z 0)), (2, .int (nI i))]) hx hb dX5_many_26 rfl hl (by decide) rfl (fun ls hl => ?_)
      refine lv_iinc (v := nI (i + 1)) (lv' := [(2, .int (nI (i + 1))), (1, .int (nI ((ct mst i) + 1))), (0, .ref (z 0))]) hx hb dX5_many_27 hl (k := 2) rfl (by exact nI_1 _) (by decide) rfl (fun ls hl => ?_)
      refine lv_goto (tgt := 4) hx hb dX5_many_30 (by decide) ?_
      have e_2 : nI ((ct mst i) + 1) = nI (ct mst (i + 1)) := by first | rfl | (simp [ct, f_17])
      exact ih_4 (i + 1) (by first | assumption | omega) (by omega) H locs hP hD hS ls (lv_sub (fx_hl (l' := [(2, .int (nI (i + 1))), (1, .int (nI (ct mst (i + 1)))), (0, .ref (z 0))]) hl (congrArg (fun w9 : Int32 => ([(2, .int (nI (i + 1))), (1, .int w9), (0, .ref (z 0))] : List (Nat × Value))) e_2)) [2, 1, 0] rfl)
  exact L_4 (64 - 0 + 1) 0 (Nat.zero_le _) (Nat.lt_succ_self _) H locs hP hD hS ls (lv_sub hl [2, 1, 0] rfl)
set_option maxHeartbeats 4000000 in
set_option maxRecDepth 100000 in
theorem c_X5_resets (l : Launch) (D : va_G) (cI cJ cZ : ClassId) (z : Nat → Nat) (mn : Nat) (mi : Nat) (ms : Nat) (mtk : Nat) (mso : Nat → Nat) (mwh : Nat → Nat) (mfi : Nat → Nat) (mse : Nat → Nat) (mth : Nat → Nat) (mpu : Nat → Nat) (mno : Nat → Nat) (mlo : Nat → Nat) (mbe : Nat → Nat) (mre : Nat → Nat) (mis : Nat → Bool) (mca : Nat → Bool) (mpa : Nat → Nat) (mva : Nat → Nat) (mle : Nat → Nat) (mst : Nat → Bool) (mtn : Nat → Bool) (mln : Nat → Nat) (mne : Nat → Int32) (mgo : Nat → Int32) (hms : ms ≤ 6) (hlo : ∀ i, i < ms → mlo i ≤ 4) : Ct l D cI cJ cZ yX5_resets wsX5_resets ({ frames := 0, cells := 0, slots := 0, locals := 0 } : Room) 0 0 [.ref (z 0)] (wM z cI cZ mn mi ms mtk mso mwh mfi mse mth mpu mno mlo mbe mre mis mca mpa mva mle mst mtn mln mne mgo) (S := Unit) (fun u => True) (fun u => some (.int (nI (bN (rsP mlo mis) ms)))) (fun u => (wM z cI cZ mn mi ms mtk mso mwh mfi mse mth mpu mno mlo mbe mre mis mca mpa mva mle mst mtn mln mne mgo)) := by
  refine Ct.ofW (cc := cX5_resets) (maxL := 3) (ret := (some .int)) (R_C := RX5) (by decide +kernel) rfl rfl (Nat.le_of_ble_eq_true rfl) rfl ?_
  intro p e s m args below meth c A Q ls H locs hx hb hml hown hts hK hA hP hD hS hZ hl hri hrl hrv
  refine lv_iconst (v := nI 0) hx hb dX5_resets_0 (by decide) ?_
  refine lv_istore_n (lv' := [(1, .int (nI 0)), (0, .ref (z 0))]) hx hb dX5_resets_1 rfl hl (by decide) rfl (fun ls hl => ?_)
  refine lv_iconst (v := nI 0) hx hb dX5_resets_2 (by decide) ?_
  refine lv_istore_n (lv' := [(2, .int (nI 0)), (1, .int (nI 0)), (0, .ref (z 0))]) hx hb dX5_resets_3 rfl hl (by decide) rfl (fun ls hl => ?_)
  have L_4 : ∀ (fuel : Nat) (i : Nat) (hi : i ≤ ms) (hfu : ms - i < fuel) (H : Heap) (locs : List Loc), va_P D vwCl (wM z cI cZ mn mi ms mtk mso mwh mfi mse mth mpu mno mlo mbe mre mis mca mpa mva mle mst mtn mln mne mgo) H → va_D A (wM z cI cZ mn mi ms mtk mso mwh mfi mse mth mpu mno mlo mbe mre mis mca mpa mva mle mst mtn mln mne mgo) → va_S A s.heap H locs → ∀ ls : Array Slot, lv_has ls 3 [(0, .ref (z 0)), (1, .int (nI (bN (rsP mlo mis) i))), (2, .int (nI i))] → W p l e ({ frames := 0, cells := 0, slots := 0, locals := 0 } : Room) s m args below meth c H locs 0 0 Q (F0 m 4 ls []) := by
    intro fuel
    induction fuel with
    | zero => intro i hi hfu; exact absurd hfu (Nat.not_lt_zero _)
    | succ fuel ih_4 =>
      intro i hi hfu H locs hP hD hS ls hl
      refine lv_iload_n hx hb dX5_resets_4 rfl (lv_at hl 2 rfl) ?_
      refine lv_aload_n hx hb dX5_resets_5 rfl (lv_at hl 0 rfl) ?_
      refine va_get (D := D) (ci := 5) (v := .int (nI ms)) (C := RX5) (T := TX5) (N := 24) hx hb hts (fun w h => List.mem_cons_of_mem _ (List.mem_append_right _ h)) hown hK hP 0 rfl rfl 8 (by decide) (hts (.fieldLink RX5 85 "FirstStatesModel" "stores" "I") (List.mem_of_getElem? (i := 1) rfl)) (fun _ h9 => h9) rfl dX5_resets_6 ?_
      refine lv_icmp_ge (tgt := 53) hx hb dX5_resets_9 (by decide) (fun c_9 => ?_) (fun c_9 => ?_)
      · have f_9 : ms ≤ i := (nI_leI (a := ms) (b := i) (by first | omega | exact b_and1 _ | exact b_ct _ _ (by omega) | exact b_andr _ (by omega)) (by first | omega | exact b_and1 _ | exact b_ct _ _ (by omega) | exact b_andr _ (by omega))).mp c_9
        refine lv_iload_n hx hb dX5_resets_53 rfl (lv_at hl 1 rfl) ?_
        exact hri () _ H locs 54 ls .int rfl rfl trivial (by rw [show ms = i by omega]) hP hD hS dX5_resets_54
      have f_9 : ¬ ms ≤ i := fun h => c_9 ((nI_leI (a := ms) (b := i) (by first | omega | exact b_and1 _ | exact b_ct _ _ (by omega) | exact b_andr _ (by omega)) (by first | omega | exact b_and1 _ | exact b_ct _ _ (by omega) | exact b_andr _ (by omega))).mpr h)
      have hlo1 := hlo i (by omega)
      refine lv_iload_n hx hb dX5_resets_12 rfl (lv_at hl 1 rfl) ?_
      refine lv_aload_n hx hb dX5_resets_13 rfl (lv_at hl 0 rfl) ?_
      refine va_get (D := D) (ci := 5) (v := .ref (z 8)) (C := RX5) (T := TX5) (N := 24) hx hb hts (fun w h => List.mem_cons_of_mem _ (List.mem_append_right _ h)) hown hK hP 0 rfl rfl 10 (by decide) (hts (.fieldLink RX5 31 "FirstStatesModel" "lineOf" "[I") (List.mem_of_getElem? (i := 2) rfl)) (fun _ h9 => h9) rfl dX5_resets_14 ?_
      refine lv_iload_n hx hb dX5_resets_17 rfl (lv_at hl 2 rfl) ?_
      refine fx_iald (ar := lI) hx hb hK hP 8 (f := mlo) (k := i) rfl (by omega) (by decide) dX5_resets_18 ?_
      refine lv_bipush (v := (-9)) hx hb dX5_resets_19 (by decide) ?_
      refine lv_icmp_eq (tgt := 44) hx hb dX5_resets_21 (by decide) (fun c_21 => ?_) (fun c_21 => ?_)
      · have f_21 : (mlo i) = 4 := (lI_9 (by first | omega | exact b_and1 _ | exact b_ct _ _ (by omega) | exact b_andr _ (by omega))).mp c_21
        refine lv_iconst (v := nI 0) hx hb dX5_resets_44 (by decide) ?_
        refine lv_ior hx hb dX5_resets_45 ?_
        refine fx_eqi (fx_orI _ _) ?_
        refine lv_istore_n (lv' := [(1, .int (nI ((bN (rsP mlo mis) i) ||| 0))), (0, .ref (z 0)), (2, .int (nI i))]) hx hb dX5_resets_46 rfl hl (by decide) rfl (fun ls hl => ?_)
        refine lv_iinc (v := nI (i + 1)) (lv' := [(2, .int (nI (i + 1))), (1, .int (nI ((bN (rsP mlo mis) i) ||| 0))), (0, .ref (z 0))]) hx hb dX5_resets_47 hl (k := 2) rfl (by exact nI_1 _) (by decide) rfl (fun ls hl => ?_)
        refine lv_goto (tgt := 4) hx hb dX5_resets_50 (by decide) ?_
        have e_1 : nI ((bN (rsP mlo mis) i) ||| 0) = nI (bN (rsP mlo mis) (i + 1)) := by first | rfl | (simp [bN, rsP, f_21])
        exact ih_4 (i + 1) (by first | assumption | omega) (by omega) H locs hP hD hS ls (lv_sub (fx_hl (l' := [(2, .int (nI (i + 1))), (1, .int (nI (bN (rsP mlo mis) (i + 1)))), (0, .ref (z 0))]) hl (congrArg (fun w9 : Int32 => ([(2, .int (nI (i + 1))), (1, .int w9), (0, .ref (z 0))] : List (Nat × Value))) e_1)) [2, 1, 0] rfl)
      have f_21 : ¬ (mlo i) = 4 := fun h => c_21 ((lI_9 (by first | omega | exact b_and1 _ | exact b_ct _ _ (by omega) | exact b_andr _ (by omega))).mpr h)
      refine lv_aload_n hx hb dX5_resets_24 rfl (lv_at hl 0 rfl) ?_
      refine va_get (D := D) (ci := 5) (v := .ref (z 11)) (C := RX5) (T := TX5) (N := 24) hx hb hts (fun w h => List.mem_cons_of_mem _ (List.mem_append_right _ h)) hown hK hP 0 rfl rfl 13 (by decide) (hts (.fieldLink RX5 40 "FirstStatesModel" "isOn" "[Z") (List.mem_of_getElem? (i := 3) rfl)) (fun _ h9 => h9) rfl dX5_resets_25 ?_
      refine lv_aload_n hx hb dX5_resets_28 rfl (lv_at hl 0 rfl) ?_
      refine va_get (D := D) (ci := 5) (v := .ref (z 8)) (C := RX5) (T := TX5) (N := 24) hx hb hts (fun w h => List.mem_cons_of_mem _ (List.mem_append_right _ h)) hown hK hP 0 rfl rfl 10 (by decide) (hts (.fieldLink RX5 31 "FirstStatesModel" "lineOf" "[I") (List.mem_of_getElem? (i := 2) rfl)) (fun _ h9 => h9) rfl dX5_resets_29 ?_
      refine lv_iload_n hx hb dX5_resets_32 rfl (lv_at hl 2 rfl) ?_
      refine fx_iald (ar := lI) hx hb hK hP 8 (f := mlo) (k := i) rfl (by omega) (by decide) dX5_resets_33 ?_
      refine fx_eqi (x := lI (mlo i)) (y := nI (mlo i)) (lI_lt (by omega)) ?_
      refine fx_zald (ar := bI) hx hb hK hP 11 (f := mis) (k := (mlo i)) rfl (by omega) (by decide) dX5_resets_34 ?_
      refine lv_if_eq (tgt := 44) hx hb dX5_resets_35 (by decide) (fun c_35 => ?_) (fun c_35 => ?_)
      · have f_35 : (mis (mlo i)) = false := bI_0.mp c_35
        refine lv_iconst (v := nI 0) hx hb dX5_resets_44 (by decide) ?_
        refine lv_ior hx hb dX5_resets_45 ?_
        refine fx_eqi (fx_orI _ _) ?_
        refine lv_istore_n (lv' := [(1, .int (nI ((bN (rsP mlo mis) i) ||| 0))), (0, .ref (z 0)), (2, .int (nI i))]) hx hb dX5_resets_46 rfl hl (by decide) rfl (fun ls hl => ?_)
        refine lv_iinc (v := nI (i + 1)) (lv' := [(2, .int (nI (i + 1))), (1, .int (nI ((bN (rsP mlo mis) i) ||| 0))), (0, .ref (z 0))]) hx hb dX5_resets_47 hl (k := 2) rfl (by exact nI_1 _) (by decide) rfl (fun ls hl => ?_)
        refine lv_goto (tgt := 4) hx hb dX5_resets_50 (by decide) ?_
        have e_2 : nI ((bN (rsP mlo mis) i) ||| 0) = nI (bN (rsP mlo mis) (i + 1)) := by first | rfl | (simp [bN, rsP, f_21, f_35])
        exact ih_4 (i + 1) (by first | assumption | omega) (by omega) H locs hP hD hS ls (lv_sub (fx_hl (l' := [(2, .int (nI (i + 1))), (1, .int (nI (bN (rsP mlo mis) (i + 1)))), (0, .ref (z 0))]) hl (congrArg (fun w9 : Int32 => ([(2, .int (nI (i + 1))), (1, .int w9), (0, .ref (z 0))] : List (Nat × Value))) e_2)) [2, 1, 0] rfl)
      have f_35 : (mis (mlo i)) = true := bI_n0.mp c_35
      refine lv_iconst (v := nI 1) hx hb dX5_resets_38 (by decide) ?_
      refine lv_iload_n hx hb dX5_resets_39 rfl (lv_at hl 2 rfl) ?_
      refine lv_ishl hx hb dX5_resets_40 ?_
      refine fx_eqi (y := nI (2 ^ i)) (fx_shl1 (by first | omega | exact b_and1 _ | exact b_ct _ _ (by omega) | exact b_andr _ (by omega))) ?_
      refine lv_goto (tgt := 45) hx hb dX5_resets_41 (by decide) ?_
      refine lv_ior hx hb dX5_resets_45 ?_
      refine fx_eqi (fx_orI _ _) ?_
      refine lv_istore_n (lv' := [(1, .int (nI ((bN (rsP mlo mis) i) ||| (2 ^ i)))), (0, .ref (z 0)), (2, .int (nI i))]) hx hb dX5_resets_46 rfl hl (by decide) rfl (fun ls hl => ?_)
      refine lv_iinc (v := nI (i + 1)) (lv' := [(2, .int (nI (i + 1))), (1, .int (nI ((bN (rsP mlo mis) i) ||| (2 ^ i)))), (0, .ref (z 0))]) hx hb dX5_resets_47 hl (k := 2) rfl (by exact nI_1 _) (by decide) rfl (fun ls hl => ?_)
      refine lv_goto (tgt := 4) hx hb dX5_resets_50 (by decide) ?_
      have e_3 : nI ((bN (rsP mlo mis) i) ||| (2 ^ i)) = nI (bN (rsP mlo mis) (i + 1)) := by first | rfl | (simp [bN, rsP, f_21, f_35])
      exact ih_4 (i + 1) (by first | assumption | omega) (by omega) H locs hP hD hS ls (lv_sub (fx_hl (l' := [(2, .int (nI (i + 1))), (1, .int (nI (bN (rsP mlo mis) (i + 1)))), (0, .ref (z 0))]) hl (congrArg (fun w9 : Int32 => ([(2, .int (nI (i + 1))), (1, .int w9), (0, .ref (z 0))] : List (Nat × Value))) e_3)) [2, 1, 0] rfl)
  exact L_4 (ms - 0 + 1) 0 (Nat.zero_le _) (Nat.lt_succ_self _) H locs hP hD hS ls (lv_sub hl [2, 1, 0] rfl)
set_option maxHeartbeats 4000000 in
set_option maxRecDepth 100000 in
theorem c_X5_load (l : Launch) (D : va_G) (cI cJ cZ : ClassId) (z : Nat → Nat) (mn : Nat) (mi : Nat) (ms : Nat) (mtk : Nat) (mso : Nat → Nat) (mwh : Nat → Nat) (mfi : Nat → Nat) (mse : Nat → Nat) (mth : Nat → Nat) (mpu : Nat → Nat) (mno : Nat → Nat) (mlo : Nat → Nat) (mbe : Nat → Nat) (mre : Nat → Nat) (mis : Nat → Bool) (mca : Nat → Bool) (mpa : Nat → Nat) (mva : Nat → Nat) (mle : Nat → Nat) (mst : Nat → Bool) (mtn : Nat → Bool) (mln : Nat → Nat) (mne : Nat → Int32) (mgo : Nat → Int32) (ao : Bool) (hms : ms ≤ 6) : Ct l D cI cJ cZ yX5_load wsX5_load ({ frames := 0, cells := 0, slots := 0, locals := 0 } : Room) 0 0 [.ref (z 0), .int (bI ao)] (wM z cI cZ mn mi ms mtk mso mwh mfi mse mth mpu mno mlo mbe mre mis mca mpa mva mle mst mtn mln mne mgo) (S := Unit) (fun u => True) (fun u => none) (fun u => (wM z cI cZ mn mi ms mtk mso mwh mfi mse mth mpu mno mlo mbe mre mis mca mpa mva mle (mixF (fun jj => if ao = true then decide (jj < 2 ^ ms) else mca jj) mst 64) mtn mln mne mgo)) := by
  refine Ct.ofW (cc := cX5_load) (maxL := 3) (ret := none) (R_C := RX5) (by decide +kernel) rfl rfl (Nat.le_of_ble_eq_true rfl) rfl ?_
  intro p e s m args below meth c A Q ls H locs hx hb hml hown hts hK hA hP hD hS hZ hl hri hrl hrv
  have hp6 : 2 ^ ms ≤ 64 := Nat.pow_le_pow_right (by omega) hms
  refine lv_iconst (v := nI 0) hx hb dX5_load_0 (by decide) ?_
  refine lv_istore_n (lv' := [(2, .int (nI 0)), (0, .ref (z 0)), (1, .int (bI ao))]) hx hb dX5_load_1 rfl hl (by decide) rfl (fun ls hl => ?_)
  have L_2 : ∀ (fuel : Nat) (i : Nat) (hi : i ≤ 64) (hfu : 64 - i < fuel) (H : Heap) (locs : List Loc), va_P D vwCl (wM z cI cZ mn mi ms mtk mso mwh mfi mse mth mpu mno mlo mbe mre mis mca mpa mva mle (mixF (fun jj => if ao = true then decide (jj < 2 ^ ms) else mca jj) mst i) mtn mln mne mgo) H → va_D A (wM z cI cZ mn mi ms mtk mso mwh mfi mse mth mpu mno mlo mbe mre mis mca mpa mva mle (mixF (fun jj => if ao = true then decide (jj < 2 ^ ms) else mca jj) mst i) mtn mln mne mgo) → va_S A s.heap H locs → ∀ ls : Array Slot, lv_has ls 3 [(0, .ref (z 0)), (1, .int (bI ao)), (2, .int (nI i))] → W p l e ({ frames := 0, cells := 0, slots := 0, locals := 0 } : Room) s m args below meth c H locs 0 0 Q (F0 m 2 ls []) := by
    intro fuel
    induction fuel with
    | zero => intro i hi hfu; exact absurd hfu (Nat.not_lt_zero _)
    | succ fuel ih_2 =>
      intro i hi hfu H locs hP hD hS ls hl
      refine lv_iload_n hx hb dX5_load_2 rfl (lv_at hl 2 rfl) ?_
      refine lv_bipush (v := nI 64) hx hb dX5_load_3 (by decide) ?_
      refine lv_icmp_ge (tgt := 48) hx hb dX5_load_5 (by decide) (fun c_5 => ?_) (fun c_5 => ?_)
      · have f_5 : 64 ≤ i := (nI_leI (a := 64) (b := i) (by first | omega | exact b_and1 _ | exact b_ct _ _ (by omega) | exact b_andr _ (by omega)) (by first | omega | exact b_and1 _ | exact b_ct _ _ (by omega) | exact b_andr _ (by omega))).mp c_5
        have e_1 : mixF (fun jj => if ao = true then decide (jj < 2 ^ ms) else mca jj) mst i = mixF (fun jj => if ao = true then decide (jj < 2 ^ ms) else mca jj) mst 64 := by first | rfl | (rw [show i = 64 by omega])
        exact hrv () H locs 48 ls rfl trivial rfl (fx_Pe (w' := (wM z cI cZ mn mi ms mtk mso mwh mfi mse mth mpu mno mlo mbe mre mis mca mpa mva mle (mixF (fun jj => if ao = true then decide (jj < 2 ^ ms) else mca jj) mst 64) mtn mln mne mgo)) hP (congrArg (fun w9 : Nat → Bool => (wM z cI cZ mn mi ms mtk mso mwh mfi mse mth mpu mno mlo mbe mre mis mca mpa mva mle w9 mtn mln mne mgo)) e_1)) (fx_D hD rfl) hS dX5_load_48
      have f_5 : ¬ 64 ≤ i := fun h => c_5 ((nI_leI (a := 64) (b := i) (by first | omega | exact b_and1 _ | exact b_ct _ _ (by omega) | exact b_andr _ (by omega)) (by first | omega | exact b_and1 _ | exact b_ct _ _ (by omega) | exact b_andr _ (by omega))).mpr h)
      refine lv_aload_n hx hb dX5_load_8 rfl (lv_at hl 0 rfl) ?_
      refine va_get (D := D) (ci := 5) (v := .ref (z 16)) (C := RX5) (T := TX5) (N := 24) hx hb hts (fun w h => List.mem_cons_of_mem _ (List.mem_append_right _ h)) hown hK hP 0 rfl rfl 19 (by decide) (hts (.fieldLink RX5 56 "FirstStatesModel" "set" "[Z") (List.mem_of_getElem? (i := 1) rfl)) (fun _ h9 => h9) rfl dX5_load_9 ?_
      refine lv_iload_n hx hb dX5_load_12 rfl (lv_at hl 2 rfl) ?_
      refine lv_iload_n hx hb dX5_load_13 rfl (lv_at hl 1 rfl) ?_
      refine lv_if_eq (tgt := 35) hx hb dX5_load_14 (by decide) (fun c_14 => ?_) (fun c_14 => ?_)
      · have f_14 : ao = false := bI_0.mp c_14
        refine lv_aload_n hx hb dX5_load_35 rfl (lv_at hl 0 rfl) ?_
        refine va_get (D := D) (ci := 5) (v := .ref (z 12)) (C := RX5) (T := TX5) (N := 24) hx hb hts (fun w h => List.mem_cons_of_mem _ (List.mem_append_right _ h)) hown hK hP 0 rfl rfl 15 (by decide) (hts (.fieldLink RX5 44 "FirstStatesModel" "can" "[Z") (List.mem_of_getElem? (i := 3) rfl)) (fun _ h9 => h9) rfl dX5_load_36 ?_
        refine lv_iload_n hx hb dX5_load_39 rfl (lv_at hl 2 rfl) ?_
        refine fx_zald (ar := bI) hx hb hK hP 12 (f := mca) (k := i) rfl (by omega) (by decide) dX5_load_40 ?_
        refine fx_zast hx hb hK hP hD hS 16 (f := (mixF (fun jj => if ao = true then decide (jj < 2 ^ ms) else mca jj) mst i)) (k := i) (v := (mca i)) rfl (by omega) (by decide) rfl dX5_load_41 (fun H locs hP hD hS => ?_)
        have hP : va_P D vwCl (wM z cI cZ mn mi ms mtk mso mwh mfi mse mth mpu mno mlo mbe mre mis mca mpa mva mle (va_up (mixF (fun jj => if ao = true then decide (jj < 2 ^ ms) else mca jj) mst i) i (mca i)) mtn mln mne mgo) H := hP
        have hD : va_D A (wM z cI cZ mn mi ms mtk mso mwh mfi mse mth mpu mno mlo mbe mre mis mca mpa mva mle (va_up (mixF (fun jj => if ao = true then decide (jj < 2 ^ ms) else mca jj) mst i) i (mca i)) mtn mln mne mgo) := fx_D hD rfl
        refine lv_iinc (v := nI (i + 1)) (lv' := [(2, .int (nI (i + 1))), (0, .ref (z 0)), (1, .int (bI ao))]) hx hb dX5_load_42 hl (k := 2) rfl (by exact nI_1 _) (by decide) rfl (fun ls hl => ?_)
        refine lv_goto (tgt := 2) hx hb dX5_load_45 (by decide) ?_
        have e_2 : va_up (mixF (fun jj => if ao = true then decide (jj < 2 ^ ms) else mca jj) mst i) i (mca i) = mixF (fun jj => if ao = true then decide (jj < 2 ^ ms) else mca jj) mst (i + 1) := by first | rfl | (refine mix_up _ _ _ _ ?_; simp [f_14])
        exact ih_2 (i + 1) (by first | assumption | omega) (by omega) H locs (fx_Pe (w' := (wM z cI cZ mn mi ms mtk mso mwh mfi mse mth mpu mno mlo mbe mre mis mca mpa mva mle (mixF (fun jj => if ao = true then decide (jj < 2 ^ ms) else mca jj) mst (i + 1)) mtn mln mne mgo)) hP (congrArg (fun w9 : Nat → Bool => (wM z cI cZ mn mi ms mtk mso mwh mfi mse mth mpu mno mlo mbe mre mis mca mpa mva mle w9 mtn mln mne mgo)) e_2)) (fx_D hD rfl) hS ls (lv_sub hl [1, 2, 0] rfl)
      have f_14 : ao = true := bI_n0.mp c_14
      refine lv_iload_n hx hb dX5_load_17 rfl (lv_at hl 2 rfl) ?_
      refine lv_iconst (v := nI 1) hx hb dX5_load_18 (by decide) ?_
      refine lv_aload_n hx hb dX5_load_19 rfl (lv_at hl 0 rfl) ?_
      refine va_get (D := D) (ci := 5) (v := .int (nI ms)) (C := RX5) (T := TX5) (N := 24) hx hb hts (fun w h => List.mem_cons_of_mem _ (List.mem_append_right _ h)) hown hK hP 0 rfl rfl 8 (by decide) (hts (.fieldLink RX5 85 "FirstStatesModel" "stores" "I") (List.mem_of_getElem? (i := 2) rfl)) (fun _ h9 => h9) rfl dX5_load_20 ?_
      refine lv_ishl hx hb dX5_load_23 ?_
      refine fx_eqi (y := nI (2 ^ ms)) (fx_shl1 (by first | omega | exact b_and1 _ | exact b_ct _ _ (by omega) | exact b_andr _ (by omega))) ?_
      refine lv_icmp_ge (tgt := 31) hx hb dX5_load_24 (by decide) (fun c_24 => ?_) (fun c_24 => ?_)
      · have f_24 : 2 ^ ms ≤ i := (nI_leI (a := 2 ^ ms) (b := i) (by first | omega | exact b_and1 _ | exact b_ct _ _ (by omega) | exact b_andr _ (by omega)) (by first | omega | exact b_and1 _ | exact b_ct _ _ (by omega) | exact b_andr _ (by omega))).mp c_24
        refine lv_iconst (v := nI 0) hx hb dX5_load_31 (by decide) ?_
        refine lv_goto (tgt := 41) hx hb dX5_load_32 (by decide) ?_
        refine fx_zast hx hb hK hP hD hS 16 (f := (mixF (fun jj => if ao = true then decide (jj < 2 ^ ms) else mca jj) mst i)) (k := i) (v := false) rfl (by omega) (by decide) rfl dX5_load_41 (fun H locs hP hD hS => ?_)
        have hP : va_P D vwCl (wM z cI cZ mn mi ms mtk mso mwh mfi mse mth mpu mno mlo mbe mre mis mca mpa mva mle (va_up (mixF (fun jj => if ao = true then decide (jj < 2 ^ ms) else mca jj) mst i) i false) mtn mln mne mgo) H := hP
        have hD : va_D A (wM z cI cZ mn mi ms mtk mso mwh mfi mse mth mpu mno mlo mbe mre mis mca mpa mva mle (va_up (mixF (fun jj => if ao = true then decide (jj < 2 ^ ms) else mca jj) mst i) i false) mtn mln mne mgo) := fx_D hD rfl
        refine lv_iinc (v := nI (i + 1)) (lv' := [(2, .int (nI (i + 1))), (0, .ref (z 0)), (1, .int (bI ao))]) hx hb dX5_load_42 hl (k := 2) rfl (by exact nI_1 _) (by decide) rfl (fun ls hl => ?_)
        refine lv_goto (tgt := 2) hx hb dX5_load_45 (by decide) ?_
        have e_3 : va_up (mixF (fun jj => if ao = true then decide (jj < 2 ^ ms) else mca jj) mst i) i false = mixF (fun jj => if ao = true then decide (jj < 2 ^ ms) else mca jj) mst (i + 1) := by first | rfl | (refine mix_up _ _ _ _ ?_; simp [f_14]; omega)
        exact ih_2 (i + 1) (by first | assumption | omega) (by omega) H locs (fx_Pe (w' := (wM z cI cZ mn mi ms mtk mso mwh mfi mse mth mpu mno mlo mbe mre mis mca mpa mva mle (mixF (fun jj => if ao = true then decide (jj < 2 ^ ms) else mca jj) mst (i + 1)) mtn mln mne mgo)) hP (congrArg (fun w9 : Nat → Bool => (wM z cI cZ mn mi ms mtk mso mwh mfi mse mth mpu mno mlo mbe mre mis mca mpa mva mle w9 mtn mln mne mgo)) e_3)) (fx_D hD rfl) hS ls (lv_sub hl [1, 2, 0] rfl)
      have f_24 : ¬ 2 ^ ms ≤ i := fun h => c_24 ((nI_leI (a := 2 ^ ms) (b := i) (by first | omega | exact b_and1 _ | exact b_ct _ _ (by omega) | exact b_andr _ (by omega)) (by first | omega | exact b_and1 _ | exact b_ct _ _ (by omega) | exact b_andr _ (by omega))).mpr h)
      refine lv_iconst (v := nI 1) hx hb dX5_load_27 (by decide) ?_
      refine lv_goto (tgt := 41) hx hb dX5_load_28 (by decide) ?_
      refine fx_zast hx hb hK hP hD hS 16 (f := (mixF (fun jj => if ao = true then decide (jj < 2 ^ ms) else mca jj) mst i)) (k := i) (v := true) rfl (by omega) (by decide) rfl dX5_load_41 (fun H locs hP hD hS => ?_)
      have hP : va_P D vwCl (wM z cI cZ mn mi ms mtk mso mwh mfi mse mth mpu mno mlo mbe mre mis mca mpa mva mle (va_up (mixF (fun jj => if ao = true then decide (jj < 2 ^ ms) else mca jj) mst i) i true) mtn mln mne mgo) H := hP
      have hD : va_D A (wM z cI cZ mn mi ms mtk mso mwh mfi mse mth mpu mno mlo mbe mre mis mca mpa mva mle (va_up (mixF (fun jj => if ao = true then decide (jj < 2 ^ ms) else mca jj) mst i) i true) mtn mln mne mgo) := fx_D hD rfl
      refine lv_iinc (v := nI (i + 1)) (lv' := [(2, .int (nI (i + 1))), (0, .ref (z 0)), (1, .int (bI ao))]) hx hb dX5_load_42 hl (k := 2) rfl (by exact nI_1 _) (by decide) rfl (fun ls hl => ?_)
      refine lv_goto (tgt := 2) hx hb dX5_load_45 (by decide) ?_
      have e_4 : va_up (mixF (fun jj => if ao = true then decide (jj < 2 ^ ms) else mca jj) mst i) i true = mixF (fun jj => if ao = true then decide (jj < 2 ^ ms) else mca jj) mst (i + 1) := by first | rfl | (refine mix_up _ _ _ _ ?_; simp [f_14]; omega)
      exact ih_2 (i + 1) (by first | assumption | omega) (by omega) H locs (fx_Pe (w' := (wM z cI cZ mn mi ms mtk mso mwh mfi mse mth mpu mno mlo mbe mre mis mca mpa mva mle (mixF (fun jj => if ao = true then decide (jj < 2 ^ ms) else mca jj) mst (i + 1)) mtn mln mne mgo)) hP (congrArg (fun w9 : Nat → Bool => (wM z cI cZ mn mi ms mtk mso mwh mfi mse mth mpu mno mlo mbe mre mis mca mpa mva mle w9 mtn mln mne mgo)) e_4)) (fx_D hD rfl) hS ls (lv_sub hl [1, 2, 0] rfl)
  have e_5 : mst = mixF (fun jj => if ao = true then decide (jj < 2 ^ ms) else mca jj) mst 0 := by first | rfl | (exact (mix_0 _ _).symm)
  exact L_2 (64 - 0 + 1) 0 (Nat.zero_le _) (Nat.lt_succ_self _) H locs (fx_Pe (w' := (wM z cI cZ mn mi ms mtk mso mwh mfi mse mth mpu mno mlo mbe mre mis mca mpa mva mle (mixF (fun jj => if ao = true then decide (jj < 2 ^ ms) else mca jj) mst 0) mtn mln mne mgo)) hP (congrArg (fun w9 : Nat → Bool => (wM z cI cZ mn mi ms mtk mso mwh mfi mse mth mpu mno mlo mbe mre mis mca mpa mva mle w9 mtn mln mne mgo)) e_5)) (fx_D hD rfl) hS ls (lv_sub hl [1, 2, 0] rfl)
