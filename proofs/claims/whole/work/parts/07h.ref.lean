/-! Contracts of the reference. -/
set_option maxHeartbeats 4000000 in
set_option maxRecDepth 100000 in
theorem c_X5_mend_o (l : Launch) (D : va_G) (cI cJ cZ : ClassId) (z : Nat → Nat) (mn : Nat) (mi : Nat) (ms : Nat) (mtk : Nat) (mso : Nat → Nat) (mwh : Nat → Nat) (mfi : Nat → Nat) (mse : Nat → Nat) (mth : Nat → Nat) (mpu : Nat → Nat) (mno : Nat → Nat) (mlo : Nat → Nat) (mbe : Nat → Nat) (mre : Nat → Nat) (mis : Nat → Bool) (mca : Nat → Bool) (mpa : Nat → Nat) (mva : Nat → Nat) (mle : Nat → Nat) (mst : Nat → Bool) (mtn : Nat → Bool) (mln : Nat → Nat) (mne : Nat → Int32) (mgo : Nat → Int32) (x : Int32) (hx0 : tickB x = false) : Ct l D cI cJ cZ yX5_mend wsX5_mend ({ frames := 1, cells := 0, slots := 0, locals := 22 } : Room) 0 0 [.ref (z 0), .int x] (wM z cI cZ mn mi ms mtk mso mwh mfi mse mth mpu mno mlo mbe mre mis mca mpa mva mle mst mtn mln mne mgo) (S := Unit) (fun u => True) (fun u => some (.int (-2))) (fun u => (wM z cI cZ mn mi ms mtk mso mwh mfi mse mth mpu mno mlo mbe mre mis mca mpa mva mle mst mtn mln mne mgo)) := by
  refine Ct.ofW (cc := cX5_mend) (maxL := 6) (ret := (some .int)) (R_C := RX5) (by decide +kernel) rfl rfl (Nat.le_of_ble_eq_true rfl) rfl ?_
  intro p e s m args below meth c A Q ls H locs hx hb hml hown hts hK hA hP hD hS hZ hl hri hrl hrv
  refine lv_iload_n hx hb dX5_mend_0 rfl (lv_at hl 1 rfl) ?_
  refine lv_iconst (v := nI 1) hx hb dX5_mend_1 (by decide) ?_
  refine lv_bipush (v := nI 64) hx hb dX5_mend_2 (by decide) ?_
  refine fx_callS (As := [.int x, .int (nI 1), .int (nI 64)]) (rest := []) ⟨hx, hb, hml, hown, hts⟩ (c_X5_in l D cI cJ cZ (wM z cI cZ mn mi ms mtk mso mwh mfi mse mth mpu mno mlo mbe mre mis mca mpa mva mle mst mtn mln mne mgo) x (nI 1) (nI 64)) (va_cwS 3 hts gX5_mend_X5_in rfl rfl rfl ks_X5_in ⟨Nat.le_of_ble_eq_true rfl, Nat.le_of_ble_eq_true rfl⟩) hK hP hD hS hA hZ rfl hl.1 rfl (lv_room (Nat.le_of_ble_eq_true rfl)) dX5_mend_4 ⟨Nat.zero_le _, Nat.zero_le _⟩ (fun u_1 H locs hu_1 hP hD hS => ?_)
  refine lv_if_ne (tgt := 13) hx hb dX5_mend_7 (by decide) (fun c_7 => ?_) (fun c_7 => ?_)
  · have f_7 : (inB x (nI 1) (nI 64)) = true := bI_n0.mp c_7
    exfalso; rw [show inB x (nI 1) (nI 64) = tickB x from rfl, hx0] at f_7; cases f_7
  have f_7 : (inB x (nI 1) (nI 64)) = false := bI_0.mp c_7
  refine lv_bipush (v := (-2)) hx hb dX5_mend_10 (by decide) ?_
  exact hri () _ H locs 12 ls .int rfl rfl trivial rfl hP hD hS dX5_mend_12
set_option maxHeartbeats 4000000 in
set_option maxRecDepth 100000 in
theorem c_X5_mend (l : Launch) (D : va_G) (cI cJ cZ : ClassId) (z : Nat → Nat) (mn : Nat) (mi : Nat) (ms : Nat) (mtk : Nat) (mso : Nat → Nat) (mwh : Nat → Nat) (mfi : Nat → Nat) (mse : Nat → Nat) (mth : Nat → Nat) (mpu : Nat → Nat) (mno : Nat → Nat) (mlo : Nat → Nat) (mbe : Nat → Nat) (mre : Nat → Nat) (mis : Nat → Bool) (mca : Nat → Bool) (mpa : Nat → Nat) (mva : Nat → Nat) (mle : Nat → Nat) (mst : Nat → Bool) (mtn : Nat → Bool) (mln : Nat → Nat) (mne : Nat → Int32) (mgo : Nat → Int32) (n : Nat) (hmn : mn ≤ 32) (hmi : mi ≤ 4) (hms : ms ≤ 6) (hso : ∀ j, j < mn → mso j ≤ 3) (hwk : ∀ j, j < mn → mso j = 2 → mwh j ≤ 4) (hg : ∀ j, j < mn → mso j = 2 → mfi j < j ∧ mse j < j ∧ mth j < j) (hwf : ∀ j, j < mn → mso j = 1 → mwh j ≤ 1) (hwi : ∀ j, j < mn → mso j = 0 → mwh j < mi) (hws : ∀ j, j < mn → mso j = 3 → mwh j < ms) (hpu : ∀ i, i < mi → mpu i ≤ 2) (hre : ∀ i, i < ms → mre i < mn) (hbe : ∀ i, i < ms → mbe i ≤ 1) (hlo : ∀ i, i < ms → mlo i ≤ 4) (hn1 : 1 ≤ n) (hn64 : n ≤ 64) : Ct l D cI cJ cZ yX5_mend wsX5_mend ({ frames := 3, cells := 0, slots := 0, locals := 70 } : Room) 0 0 [.ref (z 0), .int (nI n)] (wM z cI cZ mn mi ms mtk mso mwh mfi mse mth mpu mno mlo mbe mre mis mca mpa mva mle mst mtn mln mne mgo) (S := (Nat → Nat) × (Nat → Nat) × (Nat → Bool) × (Nat → Bool)) (fun u => True) (fun u => some (.int (oI (meT (fun kq => decide (kq &&& (bN (fun jj => !decide (mlo jj = 4)) ms) = 0) && decide (ct (iterN (stpF mpu (trC mso mwh mfi mse mth mre mbe mn ms ((bN (fun jj => !decide (mlo jj = 4)) ms) ||| kq)) false mi ms) n (allP ms)) 64 = 1)) (fun kq => ct (fun jj => kq.testBit jj) 6) (2 ^ ms))))) (fun u => (wM z cI cZ mn mi ms mtk mso mwh mfi mse mth mpu mno mlo mbe mre mis mca mpa u.1 u.2.1 u.2.2.1 u.2.2.2 mln mne mgo)) := by
  refine Ct.ofW (cc := cX5_mend) (maxL := 6) (ret := (some .int)) (R_C := RX5) (by decide +kernel) rfl rfl (Nat.le_of_ble_eq_true rfl) rfl ?_
  intro p e s m args below meth c A Q ls H locs hx hb hml hown hts hK hA hP hD hS hZ hl hri hrl hrv
  refine lv_iload_n hx hb dX5_mend_0 rfl (lv_at hl 1 rfl) ?_
  refine lv_iconst (v := nI 1) hx hb dX5_mend_1 (by decide) ?_
  refine lv_bipush (v := nI 64) hx hb dX5_mend_2 (by decide) ?_
  refine fx_callS (As := [.int (nI n), .int (nI 1), .int (nI 64)]) (rest := []) ⟨hx, hb, hml, hown, hts⟩ (c_X5_in l D cI cJ cZ (wM z cI cZ mn mi ms mtk mso mwh mfi mse mth mpu mno mlo mbe mre mis mca mpa mva mle mst mtn mln mne mgo) (nI n) (nI 1) (nI 64)) (va_cwS 3 hts gX5_mend_X5_in rfl rfl rfl ks_X5_in ⟨Nat.le_of_ble_eq_true rfl, Nat.le_of_ble_eq_true rfl⟩) hK hP hD hS hA hZ rfl hl.1 rfl (lv_room (Nat.le_of_ble_eq_true rfl)) dX5_mend_4 ⟨Nat.zero_le _, Nat.zero_le _⟩ (fun u_1 H locs hu_1 hP hD hS => ?_)
  refine lv_if_ne (tgt := 13) hx hb dX5_mend_7 (by decide) (fun c_7 => ?_) (fun c_7 => ?_)
  · have f_7 : (inB (nI n) (nI 1) (nI 64)) = true := bI_n0.mp c_7
    have hp6 : 2 ^ ms ≤ 64 := Nat.pow_le_pow_right (by omega) hms
    refine lv_aload_n hx hb dX5_mend_13 rfl (lv_at hl 0 rfl) ?_
    refine fx_callV (As := []) (rest := []) ⟨hx, hb, hml, hown, hts⟩ (c_X5_layLeads l D cI cJ cZ z mn mi ms mtk mso mwh mfi mse mth mpu mno mlo mbe mre mis mca mpa mva mle mst mtn mln mne mgo (by first | assumption | omega) (by first | assumption | omega) (by first | assumption | omega) (by first | assumption | omega) (by first | assumption | omega) (by first | assumption | omega) (by first | assumption | omega) (by first | assumption | omega) (by first | assumption | omega) (by first | assumption | omega)) (cwV 0 hts gX5_mend_X5_layLeads rfl rfl rfl kv_X5_layLeads ⟨Nat.le_of_ble_eq_true rfl, Nat.le_of_ble_eq_true rfl⟩) hK hP hD hS hA hZ 0 rfl rfl rfl rfl hl.1 rfl (lv_room (Nat.le_of_ble_eq_true rfl)) dX5_mend_14 ⟨Nat.zero_le _, Nat.zero_le _⟩ (fun u_2 H locs hu_2 hP hD hS => ?_)
    have hu_2 : ∀ r, r < 2 ^ ms → ∀ y, y < 2 ^ mi → u_2.2 (16 * r + y) = toN mso mwh mfi mse mth mre mn ms r y := hu_2
    have hP : va_P D vwCl (wM z cI cZ mn mi ms mtk mso mwh mfi mse mth mpu mno mlo mbe mre mis mca mpa u_2.1 u_2.2 mst mtn mln mne mgo) H := hP
    have hD : va_D A (wM z cI cZ mn mi ms mtk mso mwh mfi mse mth mpu mno mlo mbe mre mis mca mpa u_2.1 u_2.2 mst mtn mln mne mgo) := fx_D hD rfl
    have hle0 : ∀ r, r < 2 ^ ms → ∀ y, y < 2 ^ mi → u_2.2 (16 * r + y) < 64 := fun r hr y hy => by rw [hu_2 r hr y hy]; exact toN_lt hg hwf hre hms
    have hlay := hu_2
    refine lv_iconst (v := nI 0) hx hb dX5_mend_17 (by decide) ?_
    refine lv_istore_n (lv' := [(2, .int (nI 0)), (0, .ref (z 0)), (1, .int (nI n))]) hx hb dX5_mend_18 rfl hl (by decide) rfl (fun ls hl => ?_)
    refine lv_iconst (v := nI 0) hx hb dX5_mend_19 (by decide) ?_
    refine lv_istore_n (lv' := [(3, .int (nI 0)), (2, .int (nI 0)), (0, .ref (z 0)), (1, .int (nI n))]) hx hb dX5_mend_20 rfl hl (by decide) rfl (fun ls hl => ?_)
    have L_21 : ∀ (fuel : Nat) (i : Nat) (hi : i ≤ ms) (hfu : ms - i < fuel) (H : Heap) (locs : List Loc), va_P D vwCl (wM z cI cZ mn mi ms mtk mso mwh mfi mse mth mpu mno mlo mbe mre mis mca mpa u_2.1 u_2.2 mst mtn mln mne mgo) H → va_D A (wM z cI cZ mn mi ms mtk mso mwh mfi mse mth mpu mno mlo mbe mre mis mca mpa u_2.1 u_2.2 mst mtn mln mne mgo) → va_S A s.heap H locs → ∀ ls : Array Slot, lv_has ls 6 [(0, .ref (z 0)), (1, .int (nI n)), (2, .int (nI (bN (fun jj => !decide (mlo jj = 4)) i))), (3, .int (nI i))] → W p l e ({ frames := 3, cells := 0, slots := 0, locals := 70 } : Room) s m args below meth c H locs 0 0 Q (F0 m 21 ls []) := by
      intro fuel
      induction fuel with
      | zero => intro i hi hfu; exact absurd hfu (Nat.not_lt_zero _)
      | succ fuel ih_21 =>
        intro i hi hfu H locs hP hD hS ls hl
        refine lv_iload_n hx hb dX5_mend_21 rfl (lv_at hl 3 rfl) ?_
        refine lv_aload_n hx hb dX5_mend_22 rfl (lv_at hl 0 rfl) ?_
        refine va_get (D := D) (ci := 5) (v := .int (nI ms)) (C := RX5) (T := TX5) (N := 24) hx hb hts (fun w h => List.mem_cons_of_mem _ (List.mem_append_right _ h)) hown hK hP 0 rfl rfl 8 (by decide) (hts (.fieldLink RX5 85 "FirstStatesModel" "stores" "I") (List.mem_of_getElem? (i := 1) rfl)) (fun _ h9 => h9) rfl dX5_mend_23 ?_
        refine lv_icmp_ge (tgt := 56) hx hb dX5_mend_26 (by decide) (fun c_26 => ?_) (fun c_26 => ?_)
        · have f_26 : ms ≤ i := (nI_leI (a := ms) (b := i) (by first | omega | exact b_and1 _ | exact b_ct _ _ (by omega) | exact b_andr _ (by omega)) (by first | omega | exact b_and1 _ | exact b_ct _ _ (by omega) | exact b_andr _ (by omega))).mp c_26
          have e_i : i = ms := by omega
          refine lv_bipush (v := (-9)) hx hb dX5_mend_56 (by decide) ?_
          refine lv_istore_n (lv' := [(3, .int (-9)), (0, .ref (z 0)), (1, .int (nI n)), (2, .int (nI (bN (fun jj => !decide (mlo jj = 4)) i)))]) hx hb dX5_mend_58 rfl hl (by decide) rfl (fun ls hl => ?_)
          refine lv_iconst (v := nI 0) hx hb dX5_mend_59 (by decide) ?_
          refine lv_istore (lv' := [(4, .int (nI 0)), (3, .int (-9)), (0, .ref (z 0)), (1, .int (nI n)), (2, .int (nI (bN (fun jj => !decide (mlo jj = 4)) i)))]) hx hb dX5_mend_60 hl (by decide) rfl (fun ls hl => ?_)
          have L_62 : ∀ (fuel : Nat) (k : Nat) (bo : Option Nat) (sv : Nat → Bool) (tv : Nat → Bool) (hk : k ≤ 2 ^ ms) (hbo : bo = meT (fun kq => decide (kq &&& (bN (fun jj => !decide (mlo jj = 4)) ms) = 0) && decide (ct (iterN (stpF mpu (trC mso mwh mfi mse mth mre mbe mn ms ((bN (fun jj => !decide (mlo jj = 4)) ms) ||| kq)) false mi ms) n (allP ms)) 64 = 1)) (fun kq => ct (fun jj => kq.testBit jj) 6) k) (hbb : ∀ b, bo = some b → b < 64) (hfu : 2 ^ ms - k < fuel) (H : Heap) (locs : List Loc), va_P D vwCl (wM z cI cZ mn mi ms mtk mso mwh mfi mse mth mpu mno mlo mbe mre mis mca mpa u_2.1 u_2.2 sv tv mln mne mgo) H → va_D A (wM z cI cZ mn mi ms mtk mso mwh mfi mse mth mpu mno mlo mbe mre mis mca mpa u_2.1 u_2.2 sv tv mln mne mgo) → va_S A s.heap H locs → ∀ ls : Array Slot, lv_has ls 6 [(0, .ref (z 0)), (1, .int (nI n)), (2, .int (nI (bN (fun jj => !decide (mlo jj = 4)) ms))), (3, .int (oI bo)), (4, .int (nI k))] → W p l e ({ frames := 3, cells := 0, slots := 0, locals := 70 } : Room) s m args below meth c H locs 0 0 Q (F0 m 62 ls []) := by
            intro fuel
            induction fuel with
            | zero => intro k bo sv tv hk hbo hbb hfu; exact absurd hfu (Nat.not_lt_zero _)
            | succ fuel ih_62 =>
              intro k bo sv tv hk hbo hbb hfu H locs hP hD hS ls hl
              refine lv_iload hx hb dX5_mend_62 (lv_at hl 4 rfl) ?_
              refine lv_iconst (v := nI 1) hx hb dX5_mend_64 (by decide) ?_
              refine lv_aload_n hx hb dX5_mend_65 rfl (lv_at hl 0 rfl) ?_
              refine va_get (D := D) (ci := 5) (v := .int (nI ms)) (C := RX5) (T := TX5) (N := 24) hx hb hts (fun w h => List.mem_cons_of_mem _ (List.mem_append_right _ h)) hown hK hP 0 rfl rfl 8 (by decide) (hts (.fieldLink RX5 85 "FirstStatesModel" "stores" "I") (List.mem_of_getElem? (i := 1) rfl)) (fun _ h9 => h9) rfl dX5_mend_66 ?_
              refine lv_ishl hx hb dX5_mend_69 ?_
              refine fx_eqi (y := nI (2 ^ ms)) (fx_shl1 (by first | omega | exact b_and1 _ | exact b_ct _ _ (by omega) | exact b_andr _ (by omega))) ?_
              refine lv_icmp_ge (tgt := 148) hx hb dX5_mend_70 (by decide) (fun c_70 => ?_) (fun c_70 => ?_)
              · have f_70 : 2 ^ ms ≤ k := (nI_leI (a := 2 ^ ms) (b := k) (by first | omega | exact b_and1 _ | exact b_ct _ _ (by omega) | exact b_andr _ (by omega)) (by first | omega | exact b_and1 _ | exact b_ct _ _ (by omega) | exact b_andr _ (by omega))).mp c_70
                refine lv_iload_n hx hb dX5_mend_148 rfl (lv_at hl 3 rfl) ?_
                exact hri (u_2.1, u_2.2, sv, tv) _ H locs 149 ls .int rfl rfl trivial (by rw [hbo, show k = 2 ^ ms by omega]) hP (fx_D hD rfl) hS dX5_mend_149
              have f_70 : ¬ 2 ^ ms ≤ k := fun h => c_70 ((nI_leI (a := 2 ^ ms) (b := k) (by first | omega | exact b_and1 _ | exact b_ct _ _ (by omega) | exact b_andr _ (by omega)) (by first | omega | exact b_and1 _ | exact b_ct _ _ (by omega) | exact b_andr _ (by omega))).mpr h)
              have hln : bN (fun jj => !decide (mlo jj = 4)) ms < 64 := Nat.lt_of_lt_of_le (bN_lt _ _) (Nat.pow_le_pow_right (n := 2) (by omega) hms)
              refine lv_iload hx hb dX5_mend_73 (lv_at hl 4 rfl) ?_
              refine lv_iload_n hx hb dX5_mend_75 rfl (lv_at hl 2 rfl) ?_
              refine lv_iand hx hb dX5_mend_76 ?_
              refine fx_eqi (fx_andI _ _) ?_
              refine lv_if_ne (tgt := 142) hx hb dX5_mend_77 (by decide) (fun c_77 => ?_) (fun c_77 => ?_)
              · have f_77 : ¬ k &&& (bN (fun jj => !decide (mlo jj = 4)) ms) = 0 := fun h => c_77 ((nI_eq (a := k &&& (bN (fun jj => !decide (mlo jj = 4)) ms)) (b := 0) (by first | omega | exact b_and1 _ | exact b_ct _ _ (by omega) | exact b_andr _ (by omega)) (by first | omega | exact b_and1 _ | exact b_ct _ _ (by omega) | exact b_andr _ (by omega))).mpr h)
                refine lv_iinc (v := nI (k + 1)) (lv' := [(4, .int (nI (k + 1))), (0, .ref (z 0)), (1, .int (nI n)), (2, .int (nI (bN (fun jj => !decide (mlo jj = 4)) ms))), (3, .int (oI bo))]) hx hb dX5_mend_142 hl (k := 4) rfl (by exact nI_1 _) (by decide) rfl (fun ls hl => ?_)
                refine lv_goto (tgt := 62) hx hb dX5_mend_145 (by decide) ?_
                exact ih_62 (k + 1) bo sv tv (by first | assumption | omega) (hbo.trans (me_no (by show (decide (k &&& _ = 0) && _) = false; rw [decide_eq_false f_77]; rfl)).symm) hbb (by omega) H locs hP hD hS ls (lv_sub hl [1, 2, 3, 4, 0] rfl)
              have f_77 : k &&& (bN (fun jj => !decide (mlo jj = 4)) ms) = 0 := (nI_eq (a := k &&& (bN (fun jj => !decide (mlo jj = 4)) ms)) (b := 0) (by first | omega | exact b_and1 _ | exact b_ct _ _ (by omega) | exact b_andr _ (by omega)) (by first | omega | exact b_and1 _ | exact b_ct _ _ (by omega) | exact b_andr _ (by omega))).mp c_77
              rcases bo with _ | b
              · have hl : lv_has ls 6 [(0, .ref (z 0)), (1, .int (nI n)), (2, .int (nI (bN (fun jj => !decide (mlo jj = 4)) ms))), (3, .int (-9)), (4, .int (nI k))] := hl
                refine lv_iload_n hx hb dX5_mend_80 rfl (lv_at hl 3 rfl) ?_
                refine lv_bipush (v := (-9)) hx hb dX5_mend_81 (by decide) ?_
                refine lv_icmp_eq (tgt := 98) hx hb dX5_mend_83 (by decide) (fun c_83 => ?_) (fun c_83 => ?_)
                · refine lv_aload_n hx hb dX5_mend_98 rfl (lv_at hl 0 rfl) ?_
                  refine lv_iconst (v := nI 1) hx hb dX5_mend_99 (by decide) ?_
                  refine fx_callV (As := [.int (bI true)]) (rest := []) ⟨hx, hb, hml, hown, hts⟩ (c_X5_load l D cI cJ cZ z mn mi ms mtk mso mwh mfi mse mth mpu mno mlo mbe mre mis mca mpa u_2.1 u_2.2 sv tv mln mne mgo true (by first | assumption | omega)) (cwV 1 hts gX5_mend_X5_load rfl rfl rfl kv_X5_load ⟨Nat.le_of_ble_eq_true rfl, Nat.le_of_ble_eq_true rfl⟩) hK hP hD hS hA hZ 0 rfl rfl rfl rfl hl.1 rfl (lv_room (Nat.le_of_ble_eq_true rfl)) dX5_mend_100 ⟨Nat.zero_le _, Nat.zero_le _⟩ (fun u_3 H locs hu_3 hP hD hS => ?_)
                  have hP : va_P D vwCl (wM z cI cZ mn mi ms mtk mso mwh mfi mse mth mpu mno mlo mbe mre mis mca mpa u_2.1 u_2.2 (mixF (fun jj => if true = true then decide (jj < 2 ^ ms) else mca jj) sv 64) tv mln mne mgo) H := hP
                  have hD : va_D A (wM z cI cZ mn mi ms mtk mso mwh mfi mse mth mpu mno mlo mbe mre mis mca mpa u_2.1 u_2.2 (mixF (fun jj => if true = true then decide (jj < 2 ^ ms) else mca jj) sv 64) tv mln mne mgo) := fx_D hD rfl
                  have hor : (bN (fun jj => !decide (mlo jj = 4)) ms) ||| k < 64 := Nat.or_lt_two_pow (n := 6) hln (by omega)
                  have hTC : ∀ r, r < 2 ^ ms → ∀ y, y < 2 ^ mi → trg u_2.2 mbe ms ((bN (fun jj => !decide (mlo jj = 4)) ms) ||| k) r y = trC mso mwh mfi mse mth mre mbe mn ms ((bN (fun jj => !decide (mlo jj = 4)) ms) ||| k) r y := fun r hr y hy => by unfold trg trC; rw [hlay r hr y hy]
                  refine lv_iconst (v := nI 0) hx hb dX5_mend_103 (by decide) ?_
                  refine lv_istore (lv' := [(5, .int (nI 0)), (0, .ref (z 0)), (1, .int (nI n)), (2, .int (nI (bN (fun jj => !decide (mlo jj = 4)) ms))), (3, .int (-9)), (4, .int (nI k))]) hx hb dX5_mend_104 hl (by decide) rfl (fun ls hl => ?_)
                  have L_106 : ∀ (fuel : Nat) (t : Nat) (sw : Nat → Bool) (tw : Nat → Bool) (ht : t ≤ n) (hsv : ∀ r, r < 64 → sw r = iterN (stpF mpu (trC mso mwh mfi mse mth mre mbe mn ms ((bN (fun jj => !decide (mlo jj = 4)) ms) ||| k)) false mi ms) t (allP ms) r) (hfu : n - t < fuel) (H : Heap) (locs : List Loc), va_P D vwCl (wM z cI cZ mn mi ms mtk mso mwh mfi mse mth mpu mno mlo mbe mre mis mca mpa u_2.1 u_2.2 sw tw mln mne mgo) H → va_D A (wM z cI cZ mn mi ms mtk mso mwh mfi mse mth mpu mno mlo mbe mre mis mca mpa u_2.1 u_2.2 sw tw mln mne mgo) → va_S A s.heap H locs → ∀ ls : Array Slot, lv_has ls 6 [(0, .ref (z 0)), (1, .int (nI n)), (2, .int (nI (bN (fun jj => !decide (mlo jj = 4)) ms))), (3, .int (-9)), (4, .int (nI k)), (5, .int (nI t))] → W p l e ({ frames := 3, cells := 0, slots := 0, locals := 70 } : Room) s m args below meth c H locs 0 0 Q (F0 m 106 ls []) := by
                    intro fuel
                    induction fuel with
                    | zero => intro t sw tw ht hsv hfu; exact absurd hfu (Nat.not_lt_zero _)
                    | succ fuel ih_106 =>
                      intro t sw tw ht hsv hfu H locs hP hD hS ls hl
                      refine lv_iload hx hb dX5_mend_106 (lv_at hl 5 rfl) ?_
                      refine lv_iload_n hx hb dX5_mend_108 rfl (lv_at hl 1 rfl) ?_
                      refine lv_icmp_ge (tgt := 127) hx hb dX5_mend_109 (by decide) (fun c_109 => ?_) (fun c_109 => ?_)
                      · have f_109 : n ≤ t := (nI_leI (a := n) (b := t) (by first | omega | exact b_and1 _ | exact b_ct _ _ (by omega) | exact b_andr _ (by omega)) (by first | omega | exact b_and1 _ | exact b_ct _ _ (by omega) | exact b_andr _ (by omega))).mp c_109
                        have e_t : t = n := by omega
                        have hsvc : ct sw 64 = ct (iterN (stpF mpu (trC mso mwh mfi mse mth mre mbe mn ms ((bN (fun jj => !decide (mlo jj = 4)) ms) ||| k)) false mi ms) n (allP ms)) 64 := ct_cong (fun r hr => by rw [hsv r hr, e_t])
                        have hctb := ct_le sw 64
                        refine lv_aload_n hx hb dX5_mend_127 rfl (lv_at hl 0 rfl) ?_
                        refine fx_callV (As := []) (rest := []) ⟨hx, hb, hml, hown, hts⟩ (c_X5_many l D cI cJ cZ z mn mi ms mtk mso mwh mfi mse mth mpu mno mlo mbe mre mis mca mpa u_2.1 u_2.2 sw tw mln mne mgo) (cwV 0 hts gX5_mend_X5_many rfl rfl rfl kv_X5_many ⟨Nat.le_of_ble_eq_true rfl, Nat.le_of_ble_eq_true rfl⟩) hK hP hD hS hA hZ 0 rfl rfl rfl rfl hl.1 rfl (lv_room (Nat.le_of_ble_eq_true rfl)) dX5_mend_128 ⟨Nat.zero_le _, Nat.zero_le _⟩ (fun u_4 H locs hu_4 hP hD hS => ?_)
                        refine lv_iconst (v := nI 1) hx hb dX5_mend_131 (by decide) ?_
                        refine lv_icmp_ne (tgt := 140) hx hb dX5_mend_132 (by decide) (fun c_132 => ?_) (fun c_132 => ?_)
                        · have f_132 : ¬ ct sw 64 = 1 := fun h => c_132 ((nI_eq (a := ct sw 64) (b := 1) (by first | omega | exact b_and1 _ | exact b_ct _ _ (by omega) | exact b_andr _ (by omega)) (by first | omega | exact b_and1 _ | exact b_ct _ _ (by omega) | exact b_andr _ (by omega))).mpr h)
                          refine lv_iload_n hx hb dX5_mend_140 rfl (lv_at hl 3 rfl) ?_
                          refine lv_istore_n (lv' := [(3, .int (-9)), (0, .ref (z 0)), (1, .int (nI n)), (2, .int (nI (bN (fun jj => !decide (mlo jj = 4)) ms))), (4, .int (nI k)), (5, .int (nI t))]) hx hb dX5_mend_141 rfl hl (by decide) rfl (fun ls hl => ?_)
                          refine lv_iinc (v := nI (k + 1)) (lv' := [(4, .int (nI (k + 1))), (3, .int (-9)), (0, .ref (z 0)), (1, .int (nI n)), (2, .int (nI (bN (fun jj => !decide (mlo jj = 4)) ms))), (5, .int (nI t))]) hx hb dX5_mend_142 hl (k := 4) rfl (by exact nI_1 _) (by decide) rfl (fun ls hl => ?_)
                          refine lv_goto (tgt := 62) hx hb dX5_mend_145 (by decide) ?_
                          exact ih_62 (k + 1) none sw tw (by first | assumption | omega) (hbo.trans (me_no (by show (_ && decide (ct _ 64 = 1)) = false; rw [← hsvc, decide_eq_false f_132]; exact Bool.and_false _)).symm) (fun b2 h2 => by cases h2) (by omega) H locs hP hD hS ls (lv_sub hl [2, 3, 4, 1, 0] rfl)
                        have f_132 : ct sw 64 = 1 := (nI_eq (a := ct sw 64) (b := 1) (by first | omega | exact b_and1 _ | exact b_ct _ _ (by omega) | exact b_andr _ (by omega)) (by first | omega | exact b_and1 _ | exact b_ct _ _ (by omega) | exact b_andr _ (by omega))).mp c_132
                        refine lv_iload hx hb dX5_mend_135 (lv_at hl 4 rfl) ?_
                        refine lv_goto (tgt := 141) hx hb dX5_mend_137 (by decide) ?_
                        refine lv_istore_n (lv' := [(3, .int (nI k)), (0, .ref (z 0)), (1, .int (nI n)), (2, .int (nI (bN (fun jj => !decide (mlo jj = 4)) ms))), (4, .int (nI k)), (5, .int (nI t))]) hx hb dX5_mend_141 rfl hl (by decide) rfl (fun ls hl => ?_)
                        refine lv_iinc (v := nI (k + 1)) (lv' := [(4, .int (nI (k + 1))), (3, .int (nI k)), (0, .ref (z 0)), (1, .int (nI n)), (2, .int (nI (bN (fun jj => !decide (mlo jj = 4)) ms))), (5, .int (nI t))]) hx hb dX5_mend_142 hl (k := 4) rfl (by exact nI_1 _) (by decide) rfl (fun ls hl => ?_)
                        refine lv_goto (tgt := 62) hx hb dX5_mend_145 (by decide) ?_
                        exact ih_62 (k + 1) (some k) sw tw (by first | assumption | omega) (me_new (by show (decide (k &&& _ = 0) && decide (ct _ 64 = 1)) = true; rw [← hsvc, decide_eq_true f_132, decide_eq_true f_77]; rfl) hbo) (fun b2 h2 => by cases h2; omega) (by omega) H locs hP hD hS ls (lv_sub hl [2, 3, 4, 1, 0] rfl)
                      have f_109 : ¬ n ≤ t := fun h => c_109 ((nI_leI (a := n) (b := t) (by first | omega | exact b_and1 _ | exact b_ct _ _ (by omega) | exact b_andr _ (by omega)) (by first | omega | exact b_and1 _ | exact b_ct _ _ (by omega) | exact b_andr _ (by omega))).mpr h)
                      refine lv_aload_n hx hb dX5_mend_112 rfl (lv_at hl 0 rfl) ?_
                      refine lv_iload_n hx hb dX5_mend_113 rfl (lv_at hl 2 rfl) ?_
                      refine lv_iload hx hb dX5_mend_114 (lv_at hl 4 rfl) ?_
                      refine lv_ior hx hb dX5_mend_116 ?_
                      refine fx_eqi (fx_orI _ _) ?_
                      refine lv_iconst (v := nI 0) hx hb dX5_mend_117 (by decide) ?_
                      refine fx_callV (As := [.int (nI ((bN (fun jj => !decide (mlo jj = 4)) ms) ||| k)), .int (bI false)]) (rest := []) ⟨hx, hb, hml, hown, hts⟩ (c_X5_step l D cI cJ cZ z mn mi ms mtk mso mwh mfi mse mth mpu mno mlo mbe mre mis mca mpa u_2.1 u_2.2 sw tw mln mne mgo ((bN (fun jj => !decide (mlo jj = 4)) ms) ||| k) false (by first | assumption | omega) (by first | assumption | omega) (by first | assumption | omega) (by first | assumption | omega) hor hle0) (cwV 2 hts gX5_mend_X5_step rfl rfl rfl kv_X5_step ⟨Nat.le_of_ble_eq_true rfl, Nat.le_of_ble_eq_true rfl⟩) hK hP hD hS hA hZ 0 rfl rfl rfl rfl hl.1 rfl (lv_room (Nat.le_of_ble_eq_true rfl)) dX5_mend_118 ⟨Nat.zero_le _, Nat.zero_le _⟩ (fun u_5 H locs hu_5 hP hD hS => ?_)
                      have hu_5 : ∀ t, t < 64 → u_5.1 t = stpF mpu (trg u_2.2 mbe ms ((bN (fun jj => !decide (mlo jj = 4)) ms) ||| k)) false mi ms sw t := hu_5
                      have hP : va_P D vwCl (wM z cI cZ mn mi ms mtk mso mwh mfi mse mth mpu mno mlo mbe mre mis mca mpa u_2.1 u_2.2 u_5.1 u_5.2 mln mne mgo) H := hP
                      have hD : va_D A (wM z cI cZ mn mi ms mtk mso mwh mfi mse mth mpu mno mlo mbe mre mis mca mpa u_2.1 u_2.2 u_5.1 u_5.2 mln mne mgo) := fx_D hD rfl
                      have hst1 := hu_5
                      refine lv_iinc (v := nI (t + 1)) (lv' := [(5, .int (nI (t + 1))), (0, .ref (z 0)), (1, .int (nI n)), (2, .int (nI (bN (fun jj => !decide (mlo jj = 4)) ms))), (3, .int (-9)), (4, .int (nI k))]) hx hb dX5_mend_121 hl (k := 5) rfl (by exact nI_1 _) (by decide) rfl (fun ls hl => ?_)
                      refine lv_goto (tgt := 106) hx hb dX5_mend_124 (by decide) ?_
                      exact ih_106 (t + 1) u_5.1 u_5.2 (by first | assumption | omega) (fun r hr => by rw [hst1 r hr]; exact stpB_cong hTC (fun q hq => hsv q (by omega))) (by omega) H locs hP hD hS ls (lv_sub hl [1, 2, 3, 4, 5, 0] rfl)
                  exact L_106 (n - 0 + 1) 0 (mixF (fun jj => if true = true then decide (jj < 2 ^ ms) else mca jj) sv 64) tv (Nat.zero_le _) (fun r hr => if_pos hr) (Nat.lt_succ_self _) H locs hP hD hS ls (lv_sub hl [1, 2, 3, 4, 5, 0] rfl)
                exfalso; exact c_83 rfl
              have hl : lv_has ls 6 [(0, .ref (z 0)), (1, .int (nI n)), (2, .int (nI (bN (fun jj => !decide (mlo jj = 4)) ms))), (3, .int (nI b)), (4, .int (nI k))] := hl
              have hb64 := hbb b rfl
              refine lv_iload_n hx hb dX5_mend_80 rfl (lv_at hl 3 rfl) ?_
              refine lv_bipush (v := (-9)) hx hb dX5_mend_81 (by decide) ?_
              refine lv_icmp_eq (tgt := 98) hx hb dX5_mend_83 (by decide) (fun c_83 => ?_) (fun c_83 => ?_)
              · exfalso; exact nI_n9 (by omega) c_83
              refine lv_iload hx hb dX5_mend_86 (lv_at hl 4 rfl) ?_
              refine fx_callS (As := [.int (nI k)]) (rest := []) ⟨hx, hb, hml, hown, hts⟩ (c_X5_ones l D cI cJ cZ (wM z cI cZ mn mi ms mtk mso mwh mfi mse mth mpu mno mlo mbe mre mis mca mpa u_2.1 u_2.2 sv tv mln mne mgo) k (by first | assumption | omega)) (va_cwS 1 hts gX5_mend_X5_ones rfl rfl rfl ks_X5_ones ⟨Nat.le_of_ble_eq_true rfl, Nat.le_of_ble_eq_true rfl⟩) hK hP hD hS hA hZ rfl hl.1 rfl (lv_room (Nat.le_of_ble_eq_true rfl)) dX5_mend_88 ⟨Nat.zero_le _, Nat.zero_le _⟩ (fun u_6 H locs hu_6 hP hD hS => ?_)
              refine lv_iload_n hx hb dX5_mend_91 rfl (lv_at hl 3 rfl) ?_
              refine fx_callS (As := [.int (nI b)]) (rest := [.int (nI (ct (fun jj => k.testBit jj) 6))]) ⟨hx, hb, hml, hown, hts⟩ (c_X5_ones l D cI cJ cZ (wM z cI cZ mn mi ms mtk mso mwh mfi mse mth mpu mno mlo mbe mre mis mca mpa u_2.1 u_2.2 sv tv mln mne mgo) b (by first | assumption | omega)) (va_cwS 1 hts gX5_mend_X5_ones rfl rfl rfl ks_X5_ones ⟨Nat.le_of_ble_eq_true rfl, Nat.le_of_ble_eq_true rfl⟩) hK hP hD hS hA hZ rfl hl.1 rfl (lv_room (Nat.le_of_ble_eq_true rfl)) dX5_mend_92 ⟨Nat.zero_le _, Nat.zero_le _⟩ (fun u_7 H locs hu_7 hP hD hS => ?_)
              refine lv_icmp_ge (tgt := 142) hx hb dX5_mend_95 (by decide) (fun c_95 => ?_) (fun c_95 => ?_)
              · have f_95 : ct (fun jj => b.testBit jj) 6 ≤ ct (fun jj => k.testBit jj) 6 := (nI_leI (a := ct (fun jj => b.testBit jj) 6) (b := ct (fun jj => k.testBit jj) 6) (by first | omega | exact b_and1 _ | exact b_ct _ _ (by omega) | exact b_andr _ (by omega)) (by first | omega | exact b_and1 _ | exact b_ct _ _ (by omega) | exact b_andr _ (by omega))).mp c_95
                refine lv_iinc (v := nI (k + 1)) (lv' := [(4, .int (nI (k + 1))), (0, .ref (z 0)), (1, .int (nI n)), (2, .int (nI (bN (fun jj => !decide (mlo jj = 4)) ms))), (3, .int (nI b))]) hx hb dX5_mend_142 hl (k := 4) rfl (by exact nI_1 _) (by decide) rfl (fun ls hl => ?_)
                refine lv_goto (tgt := 62) hx hb dX5_mend_145 (by decide) ?_
                exact ih_62 (k + 1) (some b) sv tv (by first | assumption | omega) (me_more hbo (Nat.not_lt.mpr f_95)) (fun b2 h2 => by cases h2; omega) (by omega) H locs hP hD hS ls (lv_sub hl [1, 2, 3, 4, 0] rfl)
              have f_95 : ¬ ct (fun jj => b.testBit jj) 6 ≤ ct (fun jj => k.testBit jj) 6 := fun h => c_95 ((nI_leI (a := ct (fun jj => b.testBit jj) 6) (b := ct (fun jj => k.testBit jj) 6) (by first | omega | exact b_and1 _ | exact b_ct _ _ (by omega) | exact b_andr _ (by omega)) (by first | omega | exact b_and1 _ | exact b_ct _ _ (by omega) | exact b_andr _ (by omega))).mpr h)
              refine lv_aload_n hx hb dX5_mend_98 rfl (lv_at hl 0 rfl) ?_
              refine lv_iconst (v := nI 1) hx hb dX5_mend_99 (by decide) ?_
              refine fx_callV (As := [.int (bI true)]) (rest := []) ⟨hx, hb, hml, hown, hts⟩ (c_X5_load l D cI cJ cZ z mn mi ms mtk mso mwh mfi mse mth mpu mno mlo mbe mre mis mca mpa u_2.1 u_2.2 sv tv mln mne mgo true (by first | assumption | omega)) (cwV 1 hts gX5_mend_X5_load rfl rfl rfl kv_X5_load ⟨Nat.le_of_ble_eq_true rfl, Nat.le_of_ble_eq_true rfl⟩) hK hP hD hS hA hZ 0 rfl rfl rfl rfl hl.1 rfl (lv_room (Nat.le_of_ble_eq_true rfl)) dX5_mend_100 ⟨Nat.zero_le _, Nat.zero_le _⟩ (fun u_8 H locs hu_8 hP hD hS => ?_)
              have hP : va_P D vwCl (wM z cI cZ mn mi ms mtk mso mwh mfi mse mth mpu mno mlo mbe mre mis mca mpa u_2.1 u_2.2 (mixF (fun jj => if true = true then decide (jj < 2 ^ ms) else mca jj) sv 64) tv mln mne mgo) H := hP
              have hD : va_D A (wM z cI cZ mn mi ms mtk mso mwh mfi mse mth mpu mno mlo mbe mre mis mca mpa u_2.1 u_2.2 (mixF (fun jj => if true = true then decide (jj < 2 ^ ms) else mca jj) sv 64) tv mln mne mgo) := fx_D hD rfl
              have hor : (bN (fun jj => !decide (mlo jj = 4)) ms) ||| k < 64 := Nat.or_lt_two_pow (n := 6) hln (by omega)
              have hTC : ∀ r, r < 2 ^ ms → ∀ y, y < 2 ^ mi → trg u_2.2 mbe ms ((bN (fun jj => !decide (mlo jj = 4)) ms) ||| k) r y = trC mso mwh mfi mse mth mre mbe mn ms ((bN (fun jj => !decide (mlo jj = 4)) ms) ||| k) r y := fun r hr y hy => by unfold trg trC; rw [hlay r hr y hy]
              refine lv_iconst (v := nI 0) hx hb dX5_mend_103 (by decide) ?_
              refine lv_istore (lv' := [(5, .int (nI 0)), (0, .ref (z 0)), (1, .int (nI n)), (2, .int (nI (bN (fun jj => !decide (mlo jj = 4)) ms))), (3, .int (nI b)), (4, .int (nI k))]) hx hb dX5_mend_104 hl (by decide) rfl (fun ls hl => ?_)
              have L_106 : ∀ (fuel : Nat) (t : Nat) (sw : Nat → Bool) (tw : Nat → Bool) (ht : t ≤ n) (hsv : ∀ r, r < 64 → sw r = iterN (stpF mpu (trC mso mwh mfi mse mth mre mbe mn ms ((bN (fun jj => !decide (mlo jj = 4)) ms) ||| k)) false mi ms) t (allP ms) r) (hfu : n - t < fuel) (H : Heap) (locs : List Loc), va_P D vwCl (wM z cI cZ mn mi ms mtk mso mwh mfi mse mth mpu mno mlo mbe mre mis mca mpa u_2.1 u_2.2 sw tw mln mne mgo) H → va_D A (wM z cI cZ mn mi ms mtk mso mwh mfi mse mth mpu mno mlo mbe mre mis mca mpa u_2.1 u_2.2 sw tw mln mne mgo) → va_S A s.heap H locs → ∀ ls : Array Slot, lv_has ls 6 [(0, .ref (z 0)), (1, .int (nI n)), (2, .int (nI (bN (fun jj => !decide (mlo jj = 4)) ms))), (3, .int (nI b)), (4, .int (nI k)), (5, .int (nI t))] → W p l e ({ frames := 3, cells := 0, slots := 0, locals := 70 } : Room) s m args below meth c H locs 0 0 Q (F0 m 106 ls []) := by
                intro fuel
                induction fuel with
                | zero => intro t sw tw ht hsv hfu; exact absurd hfu (Nat.not_lt_zero _)
                | succ fuel ih_106 =>
                  intro t sw tw ht hsv hfu H locs hP hD hS ls hl
                  refine lv_iload hx hb dX5_mend_106 (lv_at hl 5 rfl) ?_
                  refine lv_iload_n hx hb dX5_mend_108 rfl (lv_at hl 1 rfl) ?_
                  refine lv_icmp_ge (tgt := 127) hx hb dX5_mend_109 (by decide) (fun c_109 => ?_) (fun c_109 => ?_)
                  · have f_109 : n ≤ t := (nI_leI (a := n) (b := t) (by first | omega | exact b_and1 _ | exact b_ct _ _ (by omega) | exact b_andr _ (by omega)) (by first | omega | exact b_and1 _ | exact b_ct _ _ (by omega) | exact b_andr _ (by omega))).mp c_109
                    have e_t : t = n := by omega
                    have hsvc : ct sw 64 = ct (iterN (stpF mpu (trC mso mwh mfi mse mth mre mbe mn ms ((bN (fun jj => !decide (mlo jj = 4)) ms) ||| k)) false mi ms) n (allP ms)) 64 := ct_cong (fun r hr => by rw [hsv r hr, e_t])
                    have hctb := ct_le sw 64
                    refine lv_aload_n hx hb dX5_mend_127 rfl (lv_at hl 0 rfl) ?_
                    refine fx_callV (As := []) (rest := []) ⟨hx, hb, hml, hown, hts⟩ (c_X5_many l D cI cJ cZ z mn mi ms mtk mso mwh mfi mse mth mpu mno mlo mbe mre mis mca mpa u_2.1 u_2.2 sw tw mln mne mgo) (cwV 0 hts gX5_mend_X5_many rfl rfl rfl kv_X5_many ⟨Nat.le_of_ble_eq_true rfl, Nat.le_of_ble_eq_true rfl⟩) hK hP hD hS hA hZ 0 rfl rfl rfl rfl hl.1 rfl (lv_room (Nat.le_of_ble_eq_true rfl)) dX5_mend_128 ⟨Nat.zero_le _, Nat.zero_le _⟩ (fun u_9 H locs hu_9 hP hD hS => ?_)
                    refine lv_iconst (v := nI 1) hx hb dX5_mend_131 (by decide) ?_
                    refine lv_icmp_ne (tgt := 140) hx hb dX5_mend_132 (by decide) (fun c_132 => ?_) (fun c_132 => ?_)
                    · have f_132 : ¬ ct sw 64 = 1 := fun h => c_132 ((nI_eq (a := ct sw 64) (b := 1) (by first | omega | exact b_and1 _ | exact b_ct _ _ (by omega) | exact b_andr _ (by omega)) (by first | omega | exact b_and1 _ | exact b_ct _ _ (by omega) | exact b_andr _ (by omega))).mpr h)
                      refine lv_iload_n hx hb dX5_mend_140 rfl (lv_at hl 3 rfl) ?_
                      refine lv_istore_n (lv' := [(3, .int (nI b)), (0, .ref (z 0)), (1, .int (nI n)), (2, .int (nI (bN (fun jj => !decide (mlo jj = 4)) ms))), (4, .int (nI k)), (5, .int (nI t))]) hx hb dX5_mend_141 rfl hl (by decide) rfl (fun ls hl => ?_)
                      refine lv_iinc (v := nI (k + 1)) (lv' := [(4, .int (nI (k + 1))), (3, .int (nI b)), (0, .ref (z 0)), (1, .int (nI n)), (2, .int (nI (bN (fun jj => !decide (mlo jj = 4)) ms))), (5, .int (nI t))]) hx hb dX5_mend_142 hl (k := 4) rfl (by exact nI_1 _) (by decide) rfl (fun ls hl => ?_)
                      refine lv_goto (tgt := 62) hx hb dX5_mend_145 (by decide) ?_
                      exact ih_62 (k + 1) (some b) sw tw (by first | assumption | omega) (hbo.trans (me_no (by show (_ && decide (ct _ 64 = 1)) = false; rw [← hsvc, decide_eq_false f_132]; exact Bool.and_false _)).symm) (fun b2 h2 => by cases h2; omega) (by omega) H locs hP hD hS ls (lv_sub hl [2, 3, 4, 1, 0] rfl)
                    have f_132 : ct sw 64 = 1 := (nI_eq (a := ct sw 64) (b := 1) (by first | omega | exact b_and1 _ | exact b_ct _ _ (by omega) | exact b_andr _ (by omega)) (by first | omega | exact b_and1 _ | exact b_ct _ _ (by omega) | exact b_andr _ (by omega))).mp c_132
                    refine lv_iload hx hb dX5_mend_135 (lv_at hl 4 rfl) ?_
                    refine lv_goto (tgt := 141) hx hb dX5_mend_137 (by decide) ?_
                    refine lv_istore_n (lv' := [(3, .int (nI k)), (0, .ref (z 0)), (1, .int (nI n)), (2, .int (nI (bN (fun jj => !decide (mlo jj = 4)) ms))), (4, .int (nI k)), (5, .int (nI t))]) hx hb dX5_mend_141 rfl hl (by decide) rfl (fun ls hl => ?_)
                    refine lv_iinc (v := nI (k + 1)) (lv' := [(4, .int (nI (k + 1))), (3, .int (nI k)), (0, .ref (z 0)), (1, .int (nI n)), (2, .int (nI (bN (fun jj => !decide (mlo jj = 4)) ms))), (5, .int (nI t))]) hx hb dX5_mend_142 hl (k := 4) rfl (by exact nI_1 _) (by decide) rfl (fun ls hl => ?_)
                    refine lv_goto (tgt := 62) hx hb dX5_mend_145 (by decide) ?_
                    exact ih_62 (k + 1) (some k) sw tw (by first | assumption | omega) (me_less (by show (decide (k &&& _ = 0) && decide (ct _ 64 = 1)) = true; rw [← hsvc, decide_eq_true f_132, decide_eq_true f_77]; rfl) hbo (Nat.not_le.mp f_95)) (fun b2 h2 => by cases h2; omega) (by omega) H locs hP hD hS ls (lv_sub hl [2, 3, 4, 1, 0] rfl)
                  have f_109 : ¬ n ≤ t := fun h => c_109 ((nI_leI (a := n) (b := t) (by first | omega | exact b_and1 _ | exact b_ct _ _ (by omega) | exact b_andr _ (by omega)) (by first | omega | exact b_and1 _ | exact b_ct _ _ (by omega) | exact b_andr _ (by omega))).mpr h)
                  refine lv_aload_n hx hb dX5_mend_112 rfl (lv_at hl 0 rfl) ?_
                  refine lv_iload_n hx hb dX5_mend_113 rfl (lv_at hl 2 rfl) ?_
                  refine lv_iload hx hb dX5_mend_114 (lv_at hl 4 rfl) ?_
                  refine lv_ior hx hb dX5_mend_116 ?_
                  refine fx_eqi (fx_orI _ _) ?_
                  refine lv_iconst (v := nI 0) hx hb dX5_mend_117 (by decide) ?_
                  refine fx_callV (As := [.int (nI ((bN (fun jj => !decide (mlo jj = 4)) ms) ||| k)), .int (bI false)]) (rest := []) ⟨hx, hb, hml, hown, hts⟩ (c_X5_step l D cI cJ cZ z mn mi ms mtk mso mwh mfi mse mth mpu mno mlo mbe mre mis mca mpa u_2.1 u_2.2 sw tw mln mne mgo ((bN (fun jj => !decide (mlo jj = 4)) ms) ||| k) false (by first | assumption | omega) (by first | assumption | omega) (by first | assumption | omega) (by first | assumption | omega) hor hle0) (cwV 2 hts gX5_mend_X5_step rfl rfl rfl kv_X5_step ⟨Nat.le_of_ble_eq_true rfl, Nat.le_of_ble_eq_true rfl⟩) hK hP hD hS hA hZ 0 rfl rfl rfl rfl hl.1 rfl (lv_room (Nat.le_of_ble_eq_true rfl)) dX5_mend_118 ⟨Nat.zero_le _, Nat.zero_le _⟩ (fun u_10 H locs hu_10 hP hD hS => ?_)
                  have hu_10 : ∀ t, t < 64 → u_10.1 t = stpF mpu (trg u_2.2 mbe ms ((bN (fun jj => !decide (mlo jj = 4)) ms) ||| k)) false mi ms sw t := hu_10
                  have hP : va_P D vwCl (wM z cI cZ mn mi ms mtk mso mwh mfi mse mth mpu mno mlo mbe mre mis mca mpa u_2.1 u_2.2 u_10.1 u_10.2 mln mne mgo) H := hP
                  have hD : va_D A (wM z cI cZ mn mi ms mtk mso mwh mfi mse mth mpu mno mlo mbe mre mis mca mpa u_2.1 u_2.2 u_10.1 u_10.2 mln mne mgo) := fx_D hD rfl
                  have hst1 := hu_10
                  refine lv_iinc (v := nI (t + 1)) (lv' := [(5, .int (nI (t + 1))), (0, .ref (z 0)), (1, .int (nI n)), (2, .int (nI (bN (fun jj => !decide (mlo jj = 4)) ms))), (3, .int (nI b)), (4, .int (nI k))]) hx hb dX5_mend_121 hl (k := 5) rfl (by exact nI_1 _) (by decide) rfl (fun ls hl => ?_)
                  refine lv_goto (tgt := 106) hx hb dX5_mend_124 (by decide) ?_
                  exact ih_106 (t + 1) u_10.1 u_10.2 (by first | assumption | omega) (fun r hr => by rw [hst1 r hr]; exact stpB_cong hTC (fun q hq => hsv q (by omega))) (by omega) H locs hP hD hS ls (lv_sub hl [1, 2, 3, 4, 5, 0] rfl)
              exact L_106 (n - 0 + 1) 0 (mixF (fun jj => if true = true then decide (jj < 2 ^ ms) else mca jj) sv 64) tv (Nat.zero_le _) (fun r hr => if_pos hr) (Nat.lt_succ_self _) H locs hP hD hS ls (lv_sub hl [1, 2, 3, 4, 5, 0] rfl)
          have e_11 : nI (bN (fun jj => !decide (mlo jj = 4)) i) = nI (bN (fun jj => !decide (mlo jj = 4)) ms) := by first | rfl | (rw [e_i])
          exact L_62 (2 ^ ms - 0 + 1) 0 none mst mtn (Nat.zero_le _) rfl (fun b h => by cases h) (Nat.lt_succ_self _) H locs hP hD hS ls (lv_sub (fx_hl (l' := [(4, .int (nI 0)), (3, .int (-9)), (0, .ref (z 0)), (1, .int (nI n)), (2, .int (nI (bN (fun jj => !decide (mlo jj = 4)) ms)))]) hl (congrArg (fun w9 : Int32 => ([(4, .int (nI 0)), (3, .int (-9)), (0, .ref (z 0)), (1, .int (nI n)), (2, .int w9)] : List (Nat × Value))) e_11)) [2, 3, 4, 1, 0] rfl)
        have f_26 : ¬ ms ≤ i := fun h => c_26 ((nI_leI (a := ms) (b := i) (by first | omega | exact b_and1 _ | exact b_ct _ _ (by omega) | exact b_andr _ (by omega)) (by first | omega | exact b_and1 _ | exact b_ct _ _ (by omega) | exact b_andr _ (by omega))).mpr h)
        have hlo1 := hlo i (by omega)
        refine lv_iload_n hx hb dX5_mend_29 rfl (lv_at hl 2 rfl) ?_
        refine lv_aload_n hx hb dX5_mend_30 rfl (lv_at hl 0 rfl) ?_
        refine va_get (D := D) (ci := 5) (v := .ref (z 8)) (C := RX5) (T := TX5) (N := 24) hx hb hts (fun w h => List.mem_cons_of_mem _ (List.mem_append_right _ h)) hown hK hP 0 rfl rfl 10 (by decide) (hts (.fieldLink RX5 31 "FirstStatesModel" "lineOf" "[I") (List.mem_of_getElem? (i := 2) rfl)) (fun _ h9 => h9) rfl dX5_mend_31 ?_
        refine lv_iload_n hx hb dX5_mend_34 rfl (lv_at hl 3 rfl) ?_
        refine fx_iald (ar := lI) hx hb hK hP 8 (f := mlo) (k := i) rfl (by omega) (by decide) dX5_mend_35 ?_
        refine lv_bipush (v := (-9)) hx hb dX5_mend_36 (by decide) ?_
        refine lv_icmp_eq (tgt := 47) hx hb dX5_mend_38 (by decide) (fun c_38 => ?_) (fun c_38 => ?_)
        · have f_38 : (mlo i) = 4 := (lI_9 (by first | omega | exact b_and1 _ | exact b_ct _ _ (by omega) | exact b_andr _ (by omega))).mp c_38
          refine lv_iconst (v := nI 0) hx hb dX5_mend_47 (by decide) ?_
          refine lv_ior hx hb dX5_mend_48 ?_
          refine fx_eqi (fx_orI _ _) ?_
          refine lv_istore_n (lv' := [(2, .int (nI ((bN (fun jj => !decide (mlo jj = 4)) i) ||| 0))), (0, .ref (z 0)), (1, .int (nI n)), (3, .int (nI i))]) hx hb dX5_mend_49 rfl hl (by decide) rfl (fun ls hl => ?_)
          refine lv_iinc (v := nI (i + 1)) (lv' := [(3, .int (nI (i + 1))), (2, .int (nI ((bN (fun jj => !decide (mlo jj = 4)) i) ||| 0))), (0, .ref (z 0)), (1, .int (nI n))]) hx hb dX5_mend_50 hl (k := 3) rfl (by exact nI_1 _) (by decide) rfl (fun ls hl => ?_)
          refine lv_goto (tgt := 21) hx hb dX5_mend_53 (by decide) ?_
          have e_12 : nI ((bN (fun jj => !decide (mlo jj = 4)) i) ||| 0) = nI (bN (fun jj => !decide (mlo jj = 4)) (i + 1)) := by first | rfl | (simp [bN, f_38])
          exact ih_21 (i + 1) (by first | assumption | omega) (by omega) H locs hP hD hS ls (lv_sub (fx_hl (l' := [(3, .int (nI (i + 1))), (2, .int (nI (bN (fun jj => !decide (mlo jj = 4)) (i + 1)))), (0, .ref (z 0)), (1, .int (nI n))]) hl (congrArg (fun w9 : Int32 => ([(3, .int (nI (i + 1))), (2, .int w9), (0, .ref (z 0)), (1, .int (nI n))] : List (Nat × Value))) e_12)) [2, 3, 1, 0] rfl)
        have f_38 : ¬ (mlo i) = 4 := fun h => c_38 ((lI_9 (by first | omega | exact b_and1 _ | exact b_ct _ _ (by omega) | exact b_andr _ (by omega))).mpr h)
        refine lv_iconst (v := nI 1) hx hb dX5_mend_41 (by decide) ?_
        refine lv_iload_n hx hb dX5_mend_42 rfl (lv_at hl 3 rfl) ?_
        refine lv_ishl hx hb dX5_mend_43 ?_
        refine fx_eqi (y := nI (2 ^ i)) (fx_shl1 (by first | omega | exact b_and1 _ | exact b_ct _ _ (by omega) | exact b_andr _ (by omega))) ?_
        refine lv_goto (tgt := 48) hx hb dX5_mend_44 (by decide) ?_
        refine lv_ior hx hb dX5_mend_48 ?_
        refine fx_eqi (fx_orI _ _) ?_
        refine lv_istore_n (lv' := [(2, .int (nI ((bN (fun jj => !decide (mlo jj = 4)) i) ||| (2 ^ i)))), (0, .ref (z 0)), (1, .int (nI n)), (3, .int (nI i))]) hx hb dX5_mend_49 rfl hl (by decide) rfl (fun ls hl => ?_)
        refine lv_iinc (v := nI (i + 1)) (lv' := [(3, .int (nI (i + 1))), (2, .int (nI ((bN (fun jj => !decide (mlo jj = 4)) i) ||| (2 ^ i)))), (0, .ref (z 0)), (1, .int (nI n))]) hx hb dX5_mend_50 hl (k := 3) rfl (by exact nI_1 _) (by decide) rfl (fun ls hl => ?_)
        refine lv_goto (tgt := 21) hx hb dX5_mend_53 (by decide) ?_
        have e_13 : nI ((bN (fun jj => !decide (mlo jj = 4)) i) ||| (2 ^ i)) = nI (bN (fun jj => !decide (mlo jj = 4)) (i + 1)) := by first | rfl | (simp [bN, f_38])
        exact ih_21 (i + 1) (by first | assumption | omega) (by omega) H locs hP hD hS ls (lv_sub (fx_hl (l' := [(3, .int (nI (i + 1))), (2, .int (nI (bN (fun jj => !decide (mlo jj = 4)) (i + 1)))), (0, .ref (z 0)), (1, .int (nI n))]) hl (congrArg (fun w9 : Int32 => ([(3, .int (nI (i + 1))), (2, .int w9), (0, .ref (z 0)), (1, .int (nI n))] : List (Nat × Value))) e_13)) [2, 3, 1, 0] rfl)
    exact L_21 (ms - 0 + 1) 0 (Nat.zero_le _) (Nat.lt_succ_self _) H locs hP hD hS ls (lv_sub hl [2, 3, 1, 0] rfl)
  have f_7 : (inB (nI n) (nI 1) (nI 64)) = false := bI_0.mp c_7
  exfalso; rw [inB_nI (by omega) (by omega) (by omega)] at f_7; simp at f_7; omega
set_option maxHeartbeats 4000000 in
set_option maxRecDepth 100000 in
theorem c_X5_need_u (l : Launch) (D : va_G) (cI cJ cZ : ClassId) (z : Nat → Nat) (mn : Nat) (mi : Nat) (ms : Nat) (mtk : Nat) (mso : Nat → Nat) (mwh : Nat → Nat) (mfi : Nat → Nat) (mse : Nat → Nat) (mth : Nat → Nat) (mpu : Nat → Nat) (mno : Nat → Nat) (mlo : Nat → Nat) (mbe : Nat → Nat) (mre : Nat → Nat) (mis : Nat → Bool) (mca : Nat → Bool) (mpa : Nat → Nat) (mva : Nat → Nat) (mle : Nat → Nat) (mst : Nat → Bool) (mtn : Nat → Bool) (mln : Nat → Nat) (mne : Nat → Int32) (mgo : Nat → Int32) (x : Int32) (y : Int32) (zz : Int32) (hu : (isN 4 x && isN 4 y) = false) : Ct l D cI cJ cZ yX5_need wsX5_need ({ frames := 1, cells := 0, slots := 0, locals := 22 } : Room) 0 0 [.ref (z 0), .int x, .int y, .int zz] (wM z cI cZ mn mi ms mtk mso mwh mfi mse mth mpu mno mlo mbe mre mis mca mpa mva mle mst mtn mln mne mgo) (S := Unit) (fun u => True) (fun u => some (.int (-1))) (fun u => (wM z cI cZ mn mi ms mtk mso mwh mfi mse mth mpu mno mlo mbe mre mis mca mpa mva mle mst mtn mln mne mgo)) := by
  refine Ct.ofW (cc := cX5_need) (maxL := 5) (ret := (some .int)) (R_C := RX5) (by decide +kernel) rfl rfl (Nat.le_of_ble_eq_true rfl) rfl ?_
  intro p e s m args below meth c A Q ls H locs hx hb hml hown hts hK hA hP hD hS hZ hl hri hrl hrv
  refine lv_iload_n hx hb dX5_need_0 rfl (lv_at hl 1 rfl) ?_
  refine lv_iconst (v := nI 0) hx hb dX5_need_1 (by decide) ?_
  refine lv_iconst (v := nI 3) hx hb dX5_need_2 (by decide) ?_
  refine fx_callS (As := [.int x, .int (nI 0), .int (nI 3)]) (rest := []) ⟨hx, hb, hml, hown, hts⟩ (c_X5_in l D cI cJ cZ (wM z cI cZ mn mi ms mtk mso mwh mfi mse mth mpu mno mlo mbe mre mis mca mpa mva mle mst mtn mln mne mgo) x (nI 0) (nI 3)) (va_cwS 3 hts gX5_need_X5_in rfl rfl rfl ks_X5_in ⟨Nat.le_of_ble_eq_true rfl, Nat.le_of_ble_eq_true rfl⟩) hK hP hD hS hA hZ rfl hl.1 rfl (lv_room (Nat.le_of_ble_eq_true rfl)) dX5_need_3 ⟨Nat.zero_le _, Nat.zero_le _⟩ (fun u_1 H locs hu_1 hP hD hS => ?_)
  refine lv_if_eq (tgt := 18) hx hb dX5_need_6 (by decide) (fun c_6 => ?_) (fun c_6 => ?_)
  · have f_6 : (inB x (nI 0) (nI 3)) = false := bI_0.mp c_6
    refine lv_iconst (v := (-1)) hx hb dX5_need_18 (by decide) ?_
    exact hri () _ H locs 19 ls .int rfl rfl trivial rfl hP hD hS dX5_need_19
  have f_6 : (inB x (nI 0) (nI 3)) = true := bI_n0.mp c_6
  refine lv_iload_n hx hb dX5_need_9 rfl (lv_at hl 2 rfl) ?_
  refine lv_iconst (v := nI 0) hx hb dX5_need_10 (by decide) ?_
  refine lv_iconst (v := nI 3) hx hb dX5_need_11 (by decide) ?_
  refine fx_callS (As := [.int y, .int (nI 0), .int (nI 3)]) (rest := []) ⟨hx, hb, hml, hown, hts⟩ (c_X5_in l D cI cJ cZ (wM z cI cZ mn mi ms mtk mso mwh mfi mse mth mpu mno mlo mbe mre mis mca mpa mva mle mst mtn mln mne mgo) y (nI 0) (nI 3)) (va_cwS 3 hts gX5_need_X5_in rfl rfl rfl ks_X5_in ⟨Nat.le_of_ble_eq_true rfl, Nat.le_of_ble_eq_true rfl⟩) hK hP hD hS hA hZ rfl hl.1 rfl (lv_room (Nat.le_of_ble_eq_true rfl)) dX5_need_12 ⟨Nat.zero_le _, Nat.zero_le _⟩ (fun u_2 H locs hu_2 hP hD hS => ?_)
  refine lv_if_ne (tgt := 20) hx hb dX5_need_15 (by decide) (fun c_15 => ?_) (fun c_15 => ?_)
  · have f_15 : (inB y (nI 0) (nI 3)) = true := bI_n0.mp c_15
    exfalso; rw [inB_3] at f_6 f_15; simp [f_6, f_15] at hu
  have f_15 : (inB y (nI 0) (nI 3)) = false := bI_0.mp c_15
  refine lv_iconst (v := (-1)) hx hb dX5_need_18 (by decide) ?_
  exact hri () _ H locs 19 ls .int rfl rfl trivial rfl hP hD hS dX5_need_19
set_option maxHeartbeats 4000000 in
set_option maxRecDepth 100000 in
theorem c_X5_need_o (l : Launch) (D : va_G) (cI cJ cZ : ClassId) (z : Nat → Nat) (mn : Nat) (mi : Nat) (ms : Nat) (mtk : Nat) (mso : Nat → Nat) (mwh : Nat → Nat) (mfi : Nat → Nat) (mse : Nat → Nat) (mth : Nat → Nat) (mpu : Nat → Nat) (mno : Nat → Nat) (mlo : Nat → Nat) (mbe : Nat → Nat) (mre : Nat → Nat) (mis : Nat → Bool) (mca : Nat → Bool) (mpa : Nat → Nat) (mva : Nat → Nat) (mle : Nat → Nat) (mst : Nat → Bool) (mtn : Nat → Bool) (mln : Nat → Nat) (mne : Nat → Int32) (mgo : Nat → Int32) (a : Nat) (b : Nat) (zz : Int32) (ha : a < 4) (hb4 : b < 4) (hz9 : ¬ zz = (-9)) (hz : zz < 0 ∨ ¬ zz ≤ nI 20) : Ct l D cI cJ cZ yX5_need wsX5_need ({ frames := 1, cells := 0, slots := 0, locals := 22 } : Room) 0 0 [.ref (z 0), .int (nI a), .int (nI b), .int zz] (wM z cI cZ mn mi ms mtk mso mwh mfi mse mth mpu mno mlo mbe mre mis mca mpa mva mle mst mtn mln mne mgo) (S := Unit) (fun u => True) (fun u => some (.int (-2))) (fun u => (wM z cI cZ mn mi ms mtk mso mwh mfi mse mth mpu mno mlo mbe mre mis mca mpa mva mle mst mtn mln mne mgo)) := by
  refine Ct.ofW (cc := cX5_need) (maxL := 5) (ret := (some .int)) (R_C := RX5) (by decide +kernel) rfl rfl (Nat.le_of_ble_eq_true rfl) rfl ?_
  intro p e s m args below meth c A Q ls H locs hx hb hml hown hts hK hA hP hD hS hZ hl hri hrl hrv
  refine lv_iload_n hx hb dX5_need_0 rfl (lv_at hl 1 rfl) ?_
  refine lv_iconst (v := nI 0) hx hb dX5_need_1 (by decide) ?_
  refine lv_iconst (v := nI 3) hx hb dX5_need_2 (by decide) ?_
  refine fx_callS (As := [.int (nI a), .int (nI 0), .int (nI 3)]) (rest := []) ⟨hx, hb, hml, hown, hts⟩ (c_X5_in l D cI cJ cZ (wM z cI cZ mn mi ms mtk mso mwh mfi mse mth mpu mno mlo mbe mre mis mca mpa mva mle mst mtn mln mne mgo) (nI a) (nI 0) (nI 3)) (va_cwS 3 hts gX5_need_X5_in rfl rfl rfl ks_X5_in ⟨Nat.le_of_ble_eq_true rfl, Nat.le_of_ble_eq_true rfl⟩) hK hP hD hS hA hZ rfl hl.1 rfl (lv_room (Nat.le_of_ble_eq_true rfl)) dX5_need_3 ⟨Nat.zero_le _, Nat.zero_le _⟩ (fun u_1 H locs hu_1 hP hD hS => ?_)
  refine lv_if_eq (tgt := 18) hx hb dX5_need_6 (by decide) (fun c_6 => ?_) (fun c_6 => ?_)
  · have f_6 : (inB (nI a) (nI 0) (nI 3)) = false := bI_0.mp c_6
    exfalso; rw [inB_nI (by omega) (by omega) (by omega)] at f_6; simp at f_6; omega
  have f_6 : (inB (nI a) (nI 0) (nI 3)) = true := bI_n0.mp c_6
  refine lv_iload_n hx hb dX5_need_9 rfl (lv_at hl 2 rfl) ?_
  refine lv_iconst (v := nI 0) hx hb dX5_need_10 (by decide) ?_
  refine lv_iconst (v := nI 3) hx hb dX5_need_11 (by decide) ?_
  refine fx_callS (As := [.int (nI b), .int (nI 0), .int (nI 3)]) (rest := []) ⟨hx, hb, hml, hown, hts⟩ (c_X5_in l D cI cJ cZ (wM z cI cZ mn mi ms mtk mso mwh mfi mse mth mpu mno mlo mbe mre mis mca mpa mva mle mst mtn mln mne mgo) (nI b) (nI 0) (nI 3)) (va_cwS 3 hts gX5_need_X5_in rfl rfl rfl ks_X5_in ⟨Nat.le_of_ble_eq_true rfl, Nat.le_of_ble_eq_true rfl⟩) hK hP hD hS hA hZ rfl hl.1 rfl (lv_room (Nat.le_of_ble_eq_true rfl)) dX5_need_12 ⟨Nat.zero_le _, Nat.zero_le _⟩ (fun u_2 H locs hu_2 hP hD hS => ?_)
  refine lv_if_ne (tgt := 20) hx hb dX5_need_15 (by decide) (fun c_15 => ?_) (fun c_15 => ?_)
  · have f_15 : (inB (nI b) (nI 0) (nI 3)) = true := bI_n0.mp c_15
    refine lv_iload_n hx hb dX5_need_20 rfl (lv_at hl 3 rfl) ?_
    refine lv_bipush (v := (-9)) hx hb dX5_need_21 (by decide) ?_
    refine lv_icmp_eq (tgt := 39) hx hb dX5_need_23 (by decide) (fun c_23 => ?_) (fun c_23 => ?_)
    · exfalso; exact hz9 c_23
    refine lv_iload_n hx hb dX5_need_26 rfl (lv_at hl 3 rfl) ?_
    refine lv_iconst (v := nI 0) hx hb dX5_need_27 (by decide) ?_
    refine lv_bipush (v := nI 20) hx hb dX5_need_28 (by decide) ?_
    refine fx_callS (As := [.int zz, .int (nI 0), .int (nI 20)]) (rest := []) ⟨hx, hb, hml, hown, hts⟩ (c_X5_in l D cI cJ cZ (wM z cI cZ mn mi ms mtk mso mwh mfi mse mth mpu mno mlo mbe mre mis mca mpa mva mle mst mtn mln mne mgo) zz (nI 0) (nI 20)) (va_cwS 3 hts gX5_need_X5_in rfl rfl rfl ks_X5_in ⟨Nat.le_of_ble_eq_true rfl, Nat.le_of_ble_eq_true rfl⟩) hK hP hD hS hA hZ rfl hl.1 rfl (lv_room (Nat.le_of_ble_eq_true rfl)) dX5_need_30 ⟨Nat.zero_le _, Nat.zero_le _⟩ (fun u_3 H locs hu_3 hP hD hS => ?_)
    refine lv_if_ne (tgt := 39) hx hb dX5_need_33 (by decide) (fun c_33 => ?_) (fun c_33 => ?_)
    · have f_33 : (inB zz (nI 0) (nI 20)) = true := bI_n0.mp c_33
      exfalso; rw [inB_01] at f_33; simp at f_33; rcases hz with h | h; exact absurd h (Int32.not_lt.mpr f_33.1); exact h f_33.2
    have f_33 : (inB zz (nI 0) (nI 20)) = false := bI_0.mp c_33
    refine lv_bipush (v := (-2)) hx hb dX5_need_36 (by decide) ?_
    exact hri () _ H locs 38 ls .int rfl rfl trivial rfl hP hD hS dX5_need_38
  have f_15 : (inB (nI b) (nI 0) (nI 3)) = false := bI_0.mp c_15
  exfalso; rw [inB_nI (by omega) (by omega) (by omega)] at f_15; simp at f_15; omega
set_option maxHeartbeats 4000000 in
set_option maxRecDepth 100000 in
theorem c_X5_need (l : Launch) (D : va_G) (cI cJ cZ : ClassId) (z : Nat → Nat) (mn : Nat) (mi : Nat) (ms : Nat) (mtk : Nat) (mso : Nat → Nat) (mwh : Nat → Nat) (mfi : Nat → Nat) (mse : Nat → Nat) (mth : Nat → Nat) (mpu : Nat → Nat) (mno : Nat → Nat) (mlo : Nat → Nat) (mbe : Nat → Nat) (mre : Nat → Nat) (mis : Nat → Bool) (mca : Nat → Bool) (mpa : Nat → Nat) (mva : Nat → Nat) (mle : Nat → Nat) (mst : Nat → Bool) (mtn : Nat → Bool) (mln : Nat → Nat) (mne : Nat → Int32) (mgo : Nat → Int32) (a : Nat) (b : Nat) (zz : Int32) (ha : a < 4) (hb4 : b < 4) (hz : zz = (-9) ∨ (¬ zz < 0 ∧ zz ≤ nI 20)) : Ct l D cI cJ cZ yX5_need wsX5_need ({ frames := 1, cells := 0, slots := 0, locals := 22 } : Room) 0 0 [.ref (z 0), .int (nI a), .int (nI b), .int zz] (wM z cI cZ mn mi ms mtk mso mwh mfi mse mth mpu mno mlo mbe mre mis mca mpa mva mle mst mtn mln mne mgo) (S := Unit) (fun u => True) (fun u => some (.int (mne (4 * a + b)))) (fun u => (wM z cI cZ mn mi ms mtk mso mwh mfi mse mth mpu mno mlo mbe mre mis mca mpa mva mle mst mtn mln (va_up mne (4 * a + b) zz) mgo)) := by
  refine Ct.ofW (cc := cX5_need) (maxL := 5) (ret := (some .int)) (R_C := RX5) (by decide +kernel) rfl rfl (Nat.le_of_ble_eq_true rfl) rfl ?_
  intro p e s m args below meth c A Q ls H locs hx hb hml hown hts hK hA hP hD hS hZ hl hri hrl hrv
  refine lv_iload_n hx hb dX5_need_0 rfl (lv_at hl 1 rfl) ?_
  refine lv_iconst (v := nI 0) hx hb dX5_need_1 (by decide) ?_
  refine lv_iconst (v := nI 3) hx hb dX5_need_2 (by decide) ?_
  refine fx_callS (As := [.int (nI a), .int (nI 0), .int (nI 3)]) (rest := []) ⟨hx, hb, hml, hown, hts⟩ (c_X5_in l D cI cJ cZ (wM z cI cZ mn mi ms mtk mso mwh mfi mse mth mpu mno mlo mbe mre mis mca mpa mva mle mst mtn mln mne mgo) (nI a) (nI 0) (nI 3)) (va_cwS 3 hts gX5_need_X5_in rfl rfl rfl ks_X5_in ⟨Nat.le_of_ble_eq_true rfl, Nat.le_of_ble_eq_true rfl⟩) hK hP hD hS hA hZ rfl hl.1 rfl (lv_room (Nat.le_of_ble_eq_true rfl)) dX5_need_3 ⟨Nat.zero_le _, Nat.zero_le _⟩ (fun u_1 H locs hu_1 hP hD hS => ?_)
  refine lv_if_eq (tgt := 18) hx hb dX5_need_6 (by decide) (fun c_6 => ?_) (fun c_6 => ?_)
  · have f_6 : (inB (nI a) (nI 0) (nI 3)) = false := bI_0.mp c_6
    exfalso; rw [inB_nI (by omega) (by omega) (by omega)] at f_6; simp at f_6; omega
  have f_6 : (inB (nI a) (nI 0) (nI 3)) = true := bI_n0.mp c_6
  refine lv_iload_n hx hb dX5_need_9 rfl (lv_at hl 2 rfl) ?_
  refine lv_iconst (v := nI 0) hx hb dX5_need_10 (by decide) ?_
  refine lv_iconst (v := nI 3) hx hb dX5_need_11 (by decide) ?_
  refine fx_callS (As := [.int (nI b), .int (nI 0), .int (nI 3)]) (rest := []) ⟨hx, hb, hml, hown, hts⟩ (c_X5_in l D cI cJ cZ (wM z cI cZ mn mi ms mtk mso mwh mfi mse mth mpu mno mlo mbe mre mis mca mpa mva mle mst mtn mln mne mgo) (nI b) (nI 0) (nI 3)) (va_cwS 3 hts gX5_need_X5_in rfl rfl rfl ks_X5_in ⟨Nat.le_of_ble_eq_true rfl, Nat.le_of_ble_eq_true rfl⟩) hK hP hD hS hA hZ rfl hl.1 rfl (lv_room (Nat.le_of_ble_eq_true rfl)) dX5_need_12 ⟨Nat.zero_le _, Nat.zero_le _⟩ (fun u_2 H locs hu_2 hP hD hS => ?_)
  refine lv_if_ne (tgt := 20) hx hb dX5_need_15 (by decide) (fun c_15 => ?_) (fun c_15 => ?_)
  · have f_15 : (inB (nI b) (nI 0) (nI 3)) = true := bI_n0.mp c_15
    refine lv_iload_n hx hb dX5_need_20 rfl (lv_at hl 3 rfl) ?_
    refine lv_bipush (v := (-9)) hx hb dX5_need_21 (by decide) ?_
    refine lv_icmp_eq (tgt := 39) hx hb dX5_need_23 (by decide) (fun c_23 => ?_) (fun c_23 => ?_)
    · refine lv_aload_n hx hb dX5_need_39 rfl (lv_at hl 0 rfl) ?_
      refine va_get (D := D) (ci := 5) (v := .ref (z 19)) (C := RX5) (T := TX5) (N := 24) hx hb hts (fun w h => List.mem_cons_of_mem _ (List.mem_append_right _ h)) hown hK hP 0 rfl rfl 22 (by decide) (hts (.fieldLink RX5 65 "FirstStatesModel" "needs" "[I") (List.mem_of_getElem? (i := 1) rfl)) (fun _ h9 => h9) rfl dX5_need_40 ?_
      refine lv_iconst (v := nI 4) hx hb dX5_need_43 (by decide) ?_
      refine lv_iload_n hx hb dX5_need_44 rfl (lv_at hl 1 rfl) ?_
      refine lv_imul hx hb dX5_need_45 ?_
      refine fx_eqi (pk_mul _ _) ?_
      refine lv_iload_n hx hb dX5_need_46 rfl (lv_at hl 2 rfl) ?_
      refine lv_iadd hx hb dX5_need_47 ?_
      refine fx_eqi (nI_add _ _) ?_
      refine fx_iald (ar := rI) hx hb hK hP 19 (f := mne) (k := ((4 * a) + b)) rfl (by omega) (by decide) dX5_need_48 ?_
      refine lv_istore (lv' := [(4, .int (mne ((4 * a) + b))), (0, .ref (z 0)), (1, .int (nI a)), (2, .int (nI b)), (3, .int zz)]) hx hb dX5_need_49 hl (by decide) rfl (fun ls hl => ?_)
      refine lv_aload_n hx hb dX5_need_51 rfl (lv_at hl 1 rfl) ?_
      refine va_get (D := D) (ci := 5) (v := .ref (z 19)) (C := RX5) (T := TX5) (N := 24) hx hb hts (fun w h => List.mem_cons_of_mem _ (List.mem_append_right _ h)) hown hK hP 0 rfl rfl 22 (by decide) (hts (.fieldLink RX5 65 "FirstStatesModel" "needs" "[I") (List.mem_of_getElem? (i := 1) rfl)) (fun _ h9 => h9) rfl dX5_need_52 ?_
      refine lv_iconst (v := nI 4) hx hb dX5_need_55 (by decide) ?_
      refine lv_iload_n hx hb dX5_need_56 rfl (lv_at hl 2 rfl) ?_
      refine lv_imul hx hb dX5_need_57 ?_
      refine fx_eqi (pk_mul _ _) ?_
      refine lv_iload_n hx hb dX5_need_58 rfl (lv_at hl 3 rfl) ?_
      refine lv_iadd hx hb dX5_need_59 ?_
      refine fx_eqi (nI_add _ _) ?_
      refine lv_iload_n hx hb dX5_need_60 rfl (lv_at hl 4 rfl) ?_
      refine fx_iast (ar := rI) hx hb hK hP hD hS 19 (f := mne) (k := ((4 * a) + b)) (v := zz) rfl (by omega) (by decide) rfl dX5_need_61 (fun H locs hP hD hS => ?_)
      have hP : va_P D vwCl (wM z cI cZ mn mi ms mtk mso mwh mfi mse mth mpu mno mlo mbe mre mis mca mpa mva mle mst mtn mln (va_up mne ((4 * a) + b) zz) mgo) H := hP
      have hD : va_D A (wM z cI cZ mn mi ms mtk mso mwh mfi mse mth mpu mno mlo mbe mre mis mca mpa mva mle mst mtn mln (va_up mne ((4 * a) + b) zz) mgo) := fx_D hD rfl
      refine lv_iload hx hb dX5_need_62 (lv_at hl 0 rfl) ?_
      exact hri () _ H locs 64 ls .int rfl rfl trivial rfl hP (fx_D hD rfl) hS dX5_need_64
    refine lv_iload_n hx hb dX5_need_26 rfl (lv_at hl 3 rfl) ?_
    refine lv_iconst (v := nI 0) hx hb dX5_need_27 (by decide) ?_
    refine lv_bipush (v := nI 20) hx hb dX5_need_28 (by decide) ?_
    refine fx_callS (As := [.int zz, .int (nI 0), .int (nI 20)]) (rest := []) ⟨hx, hb, hml, hown, hts⟩ (c_X5_in l D cI cJ cZ (wM z cI cZ mn mi ms mtk mso mwh mfi mse mth mpu mno mlo mbe mre mis mca mpa mva mle mst mtn mln mne mgo) zz (nI 0) (nI 20)) (va_cwS 3 hts gX5_need_X5_in rfl rfl rfl ks_X5_in ⟨Nat.le_of_ble_eq_true rfl, Nat.le_of_ble_eq_true rfl⟩) hK hP hD hS hA hZ rfl hl.1 rfl (lv_room (Nat.le_of_ble_eq_true rfl)) dX5_need_30 ⟨Nat.zero_le _, Nat.zero_le _⟩ (fun u_3 H locs hu_3 hP hD hS => ?_)
    refine lv_if_ne (tgt := 39) hx hb dX5_need_33 (by decide) (fun c_33 => ?_) (fun c_33 => ?_)
    · have f_33 : (inB zz (nI 0) (nI 20)) = true := bI_n0.mp c_33
      refine lv_aload_n hx hb dX5_need_39 rfl (lv_at hl 0 rfl) ?_
      refine va_get (D := D) (ci := 5) (v := .ref (z 19)) (C := RX5) (T := TX5) (N := 24) hx hb hts (fun w h => List.mem_cons_of_mem _ (List.mem_append_right _ h)) hown hK hP 0 rfl rfl 22 (by decide) (hts (.fieldLink RX5 65 "FirstStatesModel" "needs" "[I") (List.mem_of_getElem? (i := 1) rfl)) (fun _ h9 => h9) rfl dX5_need_40 ?_
      refine lv_iconst (v := nI 4) hx hb dX5_need_43 (by decide) ?_
      refine lv_iload_n hx hb dX5_need_44 rfl (lv_at hl 1 rfl) ?_
      refine lv_imul hx hb dX5_need_45 ?_
      refine fx_eqi (pk_mul _ _) ?_
      refine lv_iload_n hx hb dX5_need_46 rfl (lv_at hl 2 rfl) ?_
      refine lv_iadd hx hb dX5_need_47 ?_
      refine fx_eqi (nI_add _ _) ?_
      refine fx_iald (ar := rI) hx hb hK hP 19 (f := mne) (k := ((4 * a) + b)) rfl (by omega) (by decide) dX5_need_48 ?_
      refine lv_istore (lv' := [(4, .int (mne ((4 * a) + b))), (0, .ref (z 0)), (1, .int (nI a)), (2, .int (nI b)), (3, .int zz)]) hx hb dX5_need_49 hl (by decide) rfl (fun ls hl => ?_)
      refine lv_aload_n hx hb dX5_need_51 rfl (lv_at hl 1 rfl) ?_
      refine va_get (D := D) (ci := 5) (v := .ref (z 19)) (C := RX5) (T := TX5) (N := 24) hx hb hts (fun w h => List.mem_cons_of_mem _ (List.mem_append_right _ h)) hown hK hP 0 rfl rfl 22 (by decide) (hts (.fieldLink RX5 65 "FirstStatesModel" "needs" "[I") (List.mem_of_getElem? (i := 1) rfl)) (fun _ h9 => h9) rfl dX5_need_52 ?_
      refine lv_iconst (v := nI 4) hx hb dX5_need_55 (by decide) ?_
      refine lv_iload_n hx hb dX5_need_56 rfl (lv_at hl 2 rfl) ?_
      refine lv_imul hx hb dX5_need_57 ?_
      refine fx_eqi (pk_mul _ _) ?_
      refine lv_iload_n hx hb dX5_need_58 rfl (lv_at hl 3 rfl) ?_
      refine lv_iadd hx hb dX5_need_59 ?_
      refine fx_eqi (nI_add _ _) ?_
      refine lv_iload_n hx hb dX5_need_60 rfl (lv_at hl 4 rfl) ?_
      refine fx_iast (ar := rI) hx hb hK hP hD hS 19 (f := mne) (k := ((4 * a) + b)) (v := zz) rfl (by omega) (by decide) rfl dX5_need_61 (fun H locs hP hD hS => ?_)
      have hP : va_P D vwCl (wM z cI cZ mn mi ms mtk mso mwh mfi mse mth mpu mno mlo mbe mre mis mca mpa mva mle mst mtn mln (va_up mne ((4 * a) + b) zz) mgo) H := hP
      have hD : va_D A (wM z cI cZ mn mi ms mtk mso mwh mfi mse mth mpu mno mlo mbe mre mis mca mpa mva mle mst mtn mln (va_up mne ((4 * a) + b) zz) mgo) := fx_D hD rfl
      refine lv_iload hx hb dX5_need_62 (lv_at hl 0 rfl) ?_
      exact hri () _ H locs 64 ls .int rfl rfl trivial rfl hP (fx_D hD rfl) hS dX5_need_64
    have f_33 : (inB zz (nI 0) (nI 20)) = false := bI_0.mp c_33
    exfalso; rcases hz with h | h; exact c_23 h; (rw [inB_01] at f_33; simp at f_33; exact absurd h.2 (Int32.not_le.mpr (f_33 (Int32.not_lt.mp h.1))))
  have f_15 : (inB (nI b) (nI 0) (nI 3)) = false := bI_0.mp c_15
  exfalso; rw [inB_nI (by omega) (by omega) (by omega)] at f_15; simp at f_15; omega
set_option maxHeartbeats 4000000 in
set_option maxRecDepth 100000 in
theorem c_X5_layGoes (l : Launch) (D : va_G) (cI cJ cZ : ClassId) (z : Nat → Nat) (mn : Nat) (mi : Nat) (ms : Nat) (mtk : Nat) (mso : Nat → Nat) (mwh : Nat → Nat) (mfi : Nat → Nat) (mse : Nat → Nat) (mth : Nat → Nat) (mpu : Nat → Nat) (mno : Nat → Nat) (mlo : Nat → Nat) (mbe : Nat → Nat) (mre : Nat → Nat) (mis : Nat → Bool) (mca : Nat → Bool) (mpa : Nat → Nat) (mva : Nat → Nat) (mle : Nat → Nat) (mst : Nat → Bool) (mtn : Nat → Bool) (mln : Nat → Nat) (mne : Nat → Int32) (mgo : Nat → Int32) : Ct l D cI cJ cZ yX5_layGoes wsX5_layGoes ({ frames := 0, cells := 0, slots := 0, locals := 0 } : Room) 0 0 [.ref (z 0)] (wM z cI cZ mn mi ms mtk mso mwh mfi mse mth mpu mno mlo mbe mre mis mca mpa mva mle mst mtn mln mne mgo) (S := Unit) (fun u => True) (fun u => none) (fun u => (wM z cI cZ mn mi ms mtk mso mwh mfi mse mth mpu mno mlo mbe mre mis mca mpa mva mle mst mtn mln mne (iterN (fun tt => gl2 mne tt 16) 8 (iterN (fun tt => gl1 mne tt 16) 4 (mixF (fun _ => 0) mgo 4))))) := by
  refine Ct.ofW (cc := cX5_layGoes) (maxL := 4) (ret := none) (R_C := RX5) (by decide +kernel) rfl rfl (Nat.le_of_ble_eq_true rfl) rfl ?_
  intro p e s m args below meth c A Q ls H locs hx hb hml hown hts hK hA hP hD hS hZ hl hri hrl hrv
  refine lv_iconst (v := nI 0) hx hb dX5_layGoes_0 (by decide) ?_
  refine lv_istore_n (lv' := [(1, .int (nI 0)), (0, .ref (z 0))]) hx hb dX5_layGoes_1 rfl hl (by decide) rfl (fun ls hl => ?_)
  have L_2 : ∀ (fuel : Nat) (i : Nat) (hi : i ≤ 4) (hfu : 4 - i < fuel) (H : Heap) (locs : List Loc), va_P D vwCl (wM z cI cZ mn mi ms mtk mso mwh mfi mse mth mpu mno mlo mbe mre mis mca mpa mva mle mst mtn mln mne (mixF (fun _ => 0) mgo i)) H → va_D A (wM z cI cZ mn mi ms mtk mso mwh mfi mse mth mpu mno mlo mbe mre mis mca mpa mva mle mst mtn mln mne (mixF (fun _ => 0) mgo i)) → va_S A s.heap H locs → ∀ ls : Array Slot, lv_has ls 4 [(0, .ref (z 0)), (1, .int (nI i))] → W p l e ({ frames := 0, cells := 0, slots := 0, locals := 0 } : Room) s m args below meth c H locs 0 0 Q (F0 m 2 ls []) := by
    intro fuel
    induction fuel with
    | zero => intro i hi hfu; exact absurd hfu (Nat.not_lt_zero _)
    | succ fuel ih_2 =>
      intro i hi hfu H locs hP hD hS ls hl
      refine lv_iload_n hx hb dX5_layGoes_2 rfl (lv_at hl 1 rfl) ?_
      refine lv_iconst (v := nI 4) hx hb dX5_layGoes_3 (by decide) ?_
      refine lv_icmp_ge (tgt := 20) hx hb dX5_layGoes_4 (by decide) (fun c_4 => ?_) (fun c_4 => ?_)
      · have f_4 : 4 ≤ i := (nI_leI (a := 4) (b := i) (by first | omega | exact b_and1 _ | exact b_ct _ _ (by omega) | exact b_andr _ (by omega)) (by first | omega | exact b_and1 _ | exact b_ct _ _ (by omega) | exact b_andr _ (by omega))).mp c_4
        have e_i : i = 4 := by omega
        refine lv_iconst (v := nI 0) hx hb dX5_layGoes_20 (by decide) ?_
        refine lv_istore_n (lv' := [(1, .int (nI 0)), (0, .ref (z 0))]) hx hb dX5_layGoes_21 rfl hl (by decide) rfl (fun ls hl => ?_)
        have L_22 : ∀ (fuel : Nat) (r : Nat) (hr : r ≤ 4) (hfu : 4 - r < fuel) (H : Heap) (locs : List Loc), va_P D vwCl (wM z cI cZ mn mi ms mtk mso mwh mfi mse mth mpu mno mlo mbe mre mis mca mpa mva mle mst mtn mln mne (iterN (fun tt => gl1 mne tt 16) r (mixF (fun _ => 0) mgo 4))) H → va_D A (wM z cI cZ mn mi ms mtk mso mwh mfi mse mth mpu mno mlo mbe mre mis mca mpa mva mle mst mtn mln mne (iterN (fun tt => gl1 mne tt 16) r (mixF (fun _ => 0) mgo 4))) → va_S A s.heap H locs → ∀ ls : Array Slot, lv_has ls 4 [(0, .ref (z 0)), (1, .int (nI r))] → W p l e ({ frames := 0, cells := 0, slots := 0, locals := 0 } : Room) s m args below meth c H locs 0 0 Q (F0 m 22 ls []) := by
          intro fuel
          induction fuel with
          | zero => intro r hr hfu; exact absurd hfu (Nat.not_lt_zero _)
          | succ fuel ih_22 =>
            intro r hr hfu H locs hP hD hS ls hl
            refine lv_iload_n hx hb dX5_layGoes_22 rfl (lv_at hl 1 rfl) ?_
            refine lv_iconst (v := nI 4) hx hb dX5_layGoes_23 (by decide) ?_
            refine lv_icmp_ge (tgt := 110) hx hb dX5_layGoes_24 (by decide) (fun c_24 => ?_) (fun c_24 => ?_)
            · have f_24 : 4 ≤ r := (nI_leI (a := 4) (b := r) (by first | omega | exact b_and1 _ | exact b_ct _ _ (by omega) | exact b_andr _ (by omega)) (by first | omega | exact b_and1 _ | exact b_ct _ _ (by omega) | exact b_andr _ (by omega))).mp c_24
              have e_r : r = 4 := by omega
              refine lv_iconst (v := nI 0) hx hb dX5_layGoes_110 (by decide) ?_
              refine lv_istore_n (lv' := [(1, .int (nI 0)), (0, .ref (z 0))]) hx hb dX5_layGoes_111 rfl hl (by decide) rfl (fun ls hl => ?_)
              have L_112 : ∀ (fuel : Nat) (w : Nat) (hw : w ≤ 8) (hfu : 8 - w < fuel) (H : Heap) (locs : List Loc), va_P D vwCl (wM z cI cZ mn mi ms mtk mso mwh mfi mse mth mpu mno mlo mbe mre mis mca mpa mva mle mst mtn mln mne (iterN (fun tt => gl2 mne tt 16) w (iterN (fun tt => gl1 mne tt 16) 4 (mixF (fun _ => 0) mgo 4)))) H → va_D A (wM z cI cZ mn mi ms mtk mso mwh mfi mse mth mpu mno mlo mbe mre mis mca mpa mva mle mst mtn mln mne (iterN (fun tt => gl2 mne tt 16) w (iterN (fun tt => gl1 mne tt 16) 4 (mixF (fun _ => 0) mgo 4)))) → va_S A s.heap H locs → ∀ ls : Array Slot, lv_has ls 4 [(0, .ref (z 0)), (1, .int (nI w))] → W p l e ({ frames := 0, cells := 0, slots := 0, locals := 0 } : Room) s m args below meth c H locs 0 0 Q (F0 m 112 ls []) := by
                intro fuel
                induction fuel with
                | zero => intro w hw hfu; exact absurd hfu (Nat.not_lt_zero _)
                | succ fuel ih_112 =>
                  intro w hw hfu H locs hP hD hS ls hl
                  refine lv_iload_n hx hb dX5_layGoes_112 rfl (lv_at hl 1 rfl) ?_
                  refine lv_bipush (v := nI 8) hx hb dX5_layGoes_113 (by decide) ?_
                  refine lv_icmp_ge (tgt := 232) hx hb dX5_layGoes_115 (by decide) (fun c_115 => ?_) (fun c_115 => ?_)
                  · have f_115 : 8 ≤ w := (nI_leI (a := 8) (b := w) (by first | omega | exact b_and1 _ | exact b_ct _ _ (by omega) | exact b_andr _ (by omega)) (by first | omega | exact b_and1 _ | exact b_ct _ _ (by omega) | exact b_andr _ (by omega))).mp c_115
                    have e_1 : iterN (fun tt => gl2 mne tt 16) w (iterN (fun tt => gl1 mne tt 16) 4 (mixF (fun _ => 0) mgo 4)) = iterN (fun tt => gl2 mne tt 16) 8 (iterN (fun tt => gl1 mne tt 16) 4 (mixF (fun _ => 0) mgo 4)) := by first | rfl | (rw [show w = 8 by omega])
                    exact hrv () H locs 232 ls rfl trivial rfl (fx_Pe (w' := (wM z cI cZ mn mi ms mtk mso mwh mfi mse mth mpu mno mlo mbe mre mis mca mpa mva mle mst mtn mln mne (iterN (fun tt => gl2 mne tt 16) 8 (iterN (fun tt => gl1 mne tt 16) 4 (mixF (fun _ => 0) mgo 4))))) hP (congrArg (fun w9 : Nat → Int32 => (wM z cI cZ mn mi ms mtk mso mwh mfi mse mth mpu mno mlo mbe mre mis mca mpa mva mle mst mtn mln mne w9)) e_1)) (fx_D hD rfl) hS dX5_layGoes_232
                  have f_115 : ¬ 8 ≤ w := fun h => c_115 ((nI_leI (a := 8) (b := w) (by first | omega | exact b_and1 _ | exact b_ct _ _ (by omega) | exact b_andr _ (by omega)) (by first | omega | exact b_and1 _ | exact b_ct _ _ (by omega) | exact b_andr _ (by omega))).mpr h)
                  refine lv_iconst (v := nI 0) hx hb dX5_layGoes_118 (by decide) ?_
                  refine lv_istore_n (lv' := [(2, .int (nI 0)), (0, .ref (z 0)), (1, .int (nI w))]) hx hb dX5_layGoes_119 rfl hl (by decide) rfl (fun ls hl => ?_)
                  have L_120 : ∀ (fuel : Nat) (k : Nat) (hk : k ≤ 16) (hfu : 16 - k < fuel) (H : Heap) (locs : List Loc), va_P D vwCl (wM z cI cZ mn mi ms mtk mso mwh mfi mse mth mpu mno mlo mbe mre mis mca mpa mva mle mst mtn mln mne (gl2 mne (iterN (fun tt => gl2 mne tt 16) w (iterN (fun tt => gl1 mne tt 16) 4 (mixF (fun _ => 0) mgo 4))) k)) H → va_D A (wM z cI cZ mn mi ms mtk mso mwh mfi mse mth mpu mno mlo mbe mre mis mca mpa mva mle mst mtn mln mne (gl2 mne (iterN (fun tt => gl2 mne tt 16) w (iterN (fun tt => gl1 mne tt 16) 4 (mixF (fun _ => 0) mgo 4))) k)) → va_S A s.heap H locs → ∀ ls : Array Slot, lv_has ls 4 [(0, .ref (z 0)), (1, .int (nI w)), (2, .int (nI k))] → W p l e ({ frames := 0, cells := 0, slots := 0, locals := 0 } : Room) s m args below meth c H locs 0 0 Q (F0 m 120 ls []) := by
                    intro fuel
                    induction fuel with
                    | zero => intro k hk hfu; exact absurd hfu (Nat.not_lt_zero _)
                    | succ fuel ih_120 =>
                      intro k hk hfu H locs hP hD hS ls hl
                      refine lv_iload_n hx hb dX5_layGoes_120 rfl (lv_at hl 2 rfl) ?_
                      refine lv_bipush (v := nI 16) hx hb dX5_layGoes_121 (by decide) ?_
                      refine lv_icmp_ge (tgt := 226) hx hb dX5_layGoes_123 (by decide) (fun c_123 => ?_) (fun c_123 => ?_)
                      · have f_123 : 16 ≤ k := (nI_leI (a := 16) (b := k) (by first | omega | exact b_and1 _ | exact b_ct _ _ (by omega) | exact b_andr _ (by omega)) (by first | omega | exact b_and1 _ | exact b_ct _ _ (by omega) | exact b_andr _ (by omega))).mp c_123
                        have e_k2 : k = 16 := by omega
                        refine lv_iinc (v := nI (w + 1)) (lv' := [(1, .int (nI (w + 1))), (0, .ref (z 0)), (2, .int (nI k))]) hx hb dX5_layGoes_226 hl (k := 1) rfl (by exact nI_1 _) (by decide) rfl (fun ls hl => ?_)
                        refine lv_goto (tgt := 112) hx hb dX5_layGoes_229 (by decide) ?_
                        have e_2 : gl2 mne (iterN (fun tt => gl2 mne tt 16) w (iterN (fun tt => gl1 mne tt 16) 4 (mixF (fun _ => 0) mgo 4))) k = iterN (fun tt => gl2 mne tt 16) (w + 1) (iterN (fun tt => gl1 mne tt 16) 4 (mixF (fun _ => 0) mgo 4)) := by first | rfl | (rw [e_k2]; rfl)
                        exact ih_112 (w + 1) (by first | assumption | omega) (by omega) H locs (fx_Pe (w' := (wM z cI cZ mn mi ms mtk mso mwh mfi mse mth mpu mno mlo mbe mre mis mca mpa mva mle mst mtn mln mne (iterN (fun tt => gl2 mne tt 16) (w + 1) (iterN (fun tt => gl1 mne tt 16) 4 (mixF (fun _ => 0) mgo 4))))) hP (congrArg (fun w9 : Nat → Int32 => (wM z cI cZ mn mi ms mtk mso mwh mfi mse mth mpu mno mlo mbe mre mis mca mpa mva mle mst mtn mln mne w9)) e_2)) (fx_D hD rfl) hS ls (lv_sub hl [1, 0] rfl)
                      have f_123 : ¬ 16 ≤ k := fun h => c_123 ((nI_leI (a := 16) (b := k) (by first | omega | exact b_and1 _ | exact b_ct _ _ (by omega) | exact b_andr _ (by omega)) (by first | omega | exact b_and1 _ | exact b_ct _ _ (by omega) | exact b_andr _ (by omega))).mpr h)
                      have hk4 : k / 4 < 4 := by omega
                      have hkm : k % 4 < 4 := by omega
                      refine lv_aload_n hx hb dX5_layGoes_126 rfl (lv_at hl 0 rfl) ?_
                      refine va_get (D := D) (ci := 5) (v := .ref (z 19)) (C := RX5) (T := TX5) (N := 24) hx hb hts (fun w h => List.mem_cons_of_mem _ (List.mem_append_right _ h)) hown hK hP 0 rfl rfl 22 (by decide) (hts (.fieldLink RX5 65 "FirstStatesModel" "needs" "[I") (List.mem_of_getElem? (i := 2) rfl)) (fun _ h9 => h9) rfl dX5_layGoes_127 ?_
                      refine lv_iload_n hx hb dX5_layGoes_130 rfl (lv_at hl 2 rfl) ?_
                      refine fx_iald (ar := rI) hx hb hK hP 19 (f := mne) (k := k) rfl (by omega) (by decide) dX5_layGoes_131 ?_
                      refine lv_bipush (v := (-9)) hx hb dX5_layGoes_132 (by decide) ?_
                      refine lv_icmp_eq (tgt := 193) hx hb dX5_layGoes_134 (by decide) (fun c_134 => ?_) (fun c_134 => ?_)
                      · refine lv_iconst (v := nI 0) hx hb dX5_layGoes_193 (by decide) ?_
                        refine lv_istore_n (lv' := [(3, .int (nI 0)), (0, .ref (z 0)), (1, .int (nI w)), (2, .int (nI k))]) hx hb dX5_layGoes_194 rfl hl (by decide) rfl (fun ls hl => ?_)
                        refine lv_aload_n hx hb dX5_layGoes_195 rfl (lv_at hl 1 rfl) ?_
                        refine va_get (D := D) (ci := 5) (v := .ref (z 20)) (C := RX5) (T := TX5) (N := 24) hx hb hts (fun w h => List.mem_cons_of_mem _ (List.mem_append_right _ h)) hown hK hP 0 rfl rfl 23 (by decide) (hts (.fieldLink RX5 68 "FirstStatesModel" "goes" "[I") (List.mem_of_getElem? (i := 1) rfl)) (fun _ h9 => h9) rfl dX5_layGoes_196 ?_
                        refine lv_iload_n hx hb dX5_layGoes_199 rfl (lv_at hl 3 rfl) ?_
                        refine lv_iconst (v := nI 4) hx hb dX5_layGoes_200 (by decide) ?_
                        refine lv_idiv hx hb dX5_layGoes_201 (by decide) ?_
                        refine fx_eqi (y := nI (k / 4)) (pk_div (by first | omega | exact b_and1 _ | exact b_ct _ _ (by omega) | exact b_andr _ (by omega)) (by decide) (by decide)) ?_
                        refine lv_iload_n hx hb dX5_layGoes_202 rfl (lv_at hl 0 rfl) ?_
                        refine lv_if_eq (tgt := 211) hx hb dX5_layGoes_203 (by decide) (fun c_203 => ?_) (fun c_203 => ?_)
                        · have f_203 : 0 = 0 := (nI_eq (a := 0) (b := 0) (by first | omega | exact b_and1 _ | exact b_ct _ _ (by omega) | exact b_andr _ (by omega)) (by first | omega | exact b_and1 _ | exact b_ct _ _ (by omega) | exact b_andr _ (by omega))).mp c_203
                          refine lv_aload_n hx hb dX5_layGoes_211 rfl (lv_at hl 1 rfl) ?_
                          refine va_get (D := D) (ci := 5) (v := .ref (z 20)) (C := RX5) (T := TX5) (N := 24) hx hb hts (fun w h => List.mem_cons_of_mem _ (List.mem_append_right _ h)) hown hK hP 0 rfl rfl 23 (by decide) (hts (.fieldLink RX5 68 "FirstStatesModel" "goes" "[I") (List.mem_of_getElem? (i := 1) rfl)) (fun _ h9 => h9) rfl dX5_layGoes_212 ?_
                          refine lv_iload_n hx hb dX5_layGoes_215 rfl (lv_at hl 3 rfl) ?_
                          refine lv_iconst (v := nI 4) hx hb dX5_layGoes_216 (by decide) ?_
                          refine lv_idiv hx hb dX5_layGoes_217 (by decide) ?_
                          refine fx_eqi (y := nI (k / 4)) (pk_div (by first | omega | exact b_and1 _ | exact b_ct _ _ (by omega) | exact b_andr _ (by omega)) (by decide) (by decide)) ?_
                          refine fx_iald (ar := rI) hx hb hK hP 20 (f := (gl2 mne (iterN (fun tt => gl2 mne tt 16) w (iterN (fun tt => gl1 mne tt 16) 4 (mixF (fun _ => 0) mgo 4))) k)) (k := (k / 4)) rfl (by omega) (by decide) dX5_layGoes_218 ?_
                          refine fx_iast (ar := rI) hx hb hK hP hD hS 20 (f := (gl2 mne (iterN (fun tt => gl2 mne tt 16) w (iterN (fun tt => gl1 mne tt 16) 4 (mixF (fun _ => 0) mgo 4))) k)) (k := (k / 4)) (v := ((gl2 mne (iterN (fun tt => gl2 mne tt 16) w (iterN (fun tt => gl1 mne tt 16) 4 (mixF (fun _ => 0) mgo 4))) k) (k / 4))) rfl (by omega) (by decide) rfl dX5_layGoes_219 (fun H locs hP hD hS => ?_)
                          have hP : va_P D vwCl (wM z cI cZ mn mi ms mtk mso mwh mfi mse mth mpu mno mlo mbe mre mis mca mpa mva mle mst mtn mln mne (va_up (gl2 mne (iterN (fun tt => gl2 mne tt 16) w (iterN (fun tt => gl1 mne tt 16) 4 (mixF (fun _ => 0) mgo 4))) k) (k / 4) ((gl2 mne (iterN (fun tt => gl2 mne tt 16) w (iterN (fun tt => gl1 mne tt 16) 4 (mixF (fun _ => 0) mgo 4))) k) (k / 4)))) H := hP
                          have hD : va_D A (wM z cI cZ mn mi ms mtk mso mwh mfi mse mth mpu mno mlo mbe mre mis mca mpa mva mle mst mtn mln mne (va_up (gl2 mne (iterN (fun tt => gl2 mne tt 16) w (iterN (fun tt => gl1 mne tt 16) 4 (mixF (fun _ => 0) mgo 4))) k) (k / 4) ((gl2 mne (iterN (fun tt => gl2 mne tt 16) w (iterN (fun tt => gl1 mne tt 16) 4 (mixF (fun _ => 0) mgo 4))) k) (k / 4)))) := fx_D hD rfl
                          refine lv_iinc (v := nI (k + 1)) (lv' := [(2, .int (nI (k + 1))), (3, .int (nI 0)), (0, .ref (z 0)), (1, .int (nI w))]) hx hb dX5_layGoes_220 hl (k := 3) rfl (by exact nI_1 _) (by decide) rfl (fun ls hl => ?_)
                          refine lv_goto (tgt := 120) hx hb dX5_layGoes_223 (by decide) ?_
                          have e_3 : va_up (gl2 mne (iterN (fun tt => gl2 mne tt 16) w (iterN (fun tt => gl1 mne tt 16) 4 (mixF (fun _ => 0) mgo 4))) k) (k / 4) ((gl2 mne (iterN (fun tt => gl2 mne tt 16) w (iterN (fun tt => gl1 mne tt 16) 4 (mixF (fun _ => 0) mgo 4))) k) (k / 4)) = gl2 mne (iterN (fun tt => gl2 mne tt 16) w (iterN (fun tt => gl1 mne tt 16) 4 (mixF (fun _ => 0) mgo 4))) (k + 1) := by first | rfl | (show _ = gr2 mne _ k; unfold gr2; rw [if_pos c_134])
                          exact ih_120 (k + 1) (by first | assumption | omega) (by omega) H locs (fx_Pe (w' := (wM z cI cZ mn mi ms mtk mso mwh mfi mse mth mpu mno mlo mbe mre mis mca mpa mva mle mst mtn mln mne (gl2 mne (iterN (fun tt => gl2 mne tt 16) w (iterN (fun tt => gl1 mne tt 16) 4 (mixF (fun _ => 0) mgo 4))) (k + 1)))) hP (congrArg (fun w9 : Nat → Int32 => (wM z cI cZ mn mi ms mtk mso mwh mfi mse mth mpu mno mlo mbe mre mis mca mpa mva mle mst mtn mln mne w9)) e_3)) (fx_D hD rfl) hS ls (lv_sub hl [2, 3, 0] rfl)
                        have f_203 : ¬ 0 = 0 := fun h => c_203 ((nI_eq (a := 0) (b := 0) (by first | omega | exact b_and1 _ | exact b_ct _ _ (by omega) | exact b_andr _ (by omega)) (by first | omega | exact b_and1 _ | exact b_ct _ _ (by omega) | exact b_andr _ (by omega))).mpr h)
                        exfalso; omega
                      refine lv_aload_n hx hb dX5_layGoes_137 rfl (lv_at hl 0 rfl) ?_
                      refine va_get (D := D) (ci := 5) (v := .ref (z 20)) (C := RX5) (T := TX5) (N := 24) hx hb hts (fun w h => List.mem_cons_of_mem _ (List.mem_append_right _ h)) hown hK hP 0 rfl rfl 23 (by decide) (hts (.fieldLink RX5 68 "FirstStatesModel" "goes" "[I") (List.mem_of_getElem? (i := 1) rfl)) (fun _ h9 => h9) rfl dX5_layGoes_138 ?_
                      refine lv_iload_n hx hb dX5_layGoes_141 rfl (lv_at hl 2 rfl) ?_
                      refine lv_iconst (v := nI 4) hx hb dX5_layGoes_142 (by decide) ?_
                      refine lv_idiv hx hb dX5_layGoes_143 (by decide) ?_
                      refine fx_eqi (y := nI (k / 4)) (pk_div (by first | omega | exact b_and1 _ | exact b_ct _ _ (by omega) | exact b_andr _ (by omega)) (by decide) (by decide)) ?_
                      refine fx_iald (ar := rI) hx hb hK hP 20 (f := (gl2 mne (iterN (fun tt => gl2 mne tt 16) w (iterN (fun tt => gl1 mne tt 16) 4 (mixF (fun _ => 0) mgo 4))) k)) (k := (k / 4)) rfl (by omega) (by decide) dX5_layGoes_144 ?_
                      refine lv_bipush (v := (-9)) hx hb dX5_layGoes_145 (by decide) ?_
                      refine lv_icmp_eq (tgt := 193) hx hb dX5_layGoes_147 (by decide) (fun c_147 => ?_) (fun c_147 => ?_)
                      · refine lv_iconst (v := nI 0) hx hb dX5_layGoes_193 (by decide) ?_
                        refine lv_istore_n (lv' := [(3, .int (nI 0)), (0, .ref (z 0)), (1, .int (nI w)), (2, .int (nI k))]) hx hb dX5_layGoes_194 rfl hl (by decide) rfl (fun ls hl => ?_)
                        refine lv_aload_n hx hb dX5_layGoes_195 rfl (lv_at hl 1 rfl) ?_
                        refine va_get (D := D) (ci := 5) (v := .ref (z 20)) (C := RX5) (T := TX5) (N := 24) hx hb hts (fun w h => List.mem_cons_of_mem _ (List.mem_append_right _ h)) hown hK hP 0 rfl rfl 23 (by decide) (hts (.fieldLink RX5 68 "FirstStatesModel" "goes" "[I") (List.mem_of_getElem? (i := 1) rfl)) (fun _ h9 => h9) rfl dX5_layGoes_196 ?_
                        refine lv_iload_n hx hb dX5_layGoes_199 rfl (lv_at hl 3 rfl) ?_
                        refine lv_iconst (v := nI 4) hx hb dX5_layGoes_200 (by decide) ?_
                        refine lv_idiv hx hb dX5_layGoes_201 (by decide) ?_
                        refine fx_eqi (y := nI (k / 4)) (pk_div (by first | omega | exact b_and1 _ | exact b_ct _ _ (by omega) | exact b_andr _ (by omega)) (by decide) (by decide)) ?_
                        refine lv_iload_n hx hb dX5_layGoes_202 rfl (lv_at hl 0 rfl) ?_
                        refine lv_if_eq (tgt := 211) hx hb dX5_layGoes_203 (by decide) (fun c_203 => ?_) (fun c_203 => ?_)
                        · have f_203 : 0 = 0 := (nI_eq (a := 0) (b := 0) (by first | omega | exact b_and1 _ | exact b_ct _ _ (by omega) | exact b_andr _ (by omega)) (by first | omega | exact b_and1 _ | exact b_ct _ _ (by omega) | exact b_andr _ (by omega))).mp c_203
                          refine lv_aload_n hx hb dX5_layGoes_211 rfl (lv_at hl 1 rfl) ?_
                          refine va_get (D := D) (ci := 5) (v := .ref (z 20)) (C := RX5) (T := TX5) (N := 24) hx hb hts (fun w h => List.mem_cons_of_mem _ (List.mem_append_right _ h)) hown hK hP 0 rfl rfl 23 (by decide) (hts (.fieldLink RX5 68 "FirstStatesModel" "goes" "[I") (List.mem_of_getElem? (i := 1) rfl)) (fun _ h9 => h9) rfl dX5_layGoes_212 ?_
                          refine lv_iload_n hx hb dX5_layGoes_215 rfl (lv_at hl 3 rfl) ?_
                          refine lv_iconst (v := nI 4) hx hb dX5_layGoes_216 (by decide) ?_
                          refine lv_idiv hx hb dX5_layGoes_217 (by decide) ?_
                          refine fx_eqi (y := nI (k / 4)) (pk_div (by first | omega | exact b_and1 _ | exact b_ct _ _ (by omega) | exact b_andr _ (by omega)) (by decide) (by decide)) ?_
                          refine fx_iald (ar := rI) hx hb hK hP 20 (f := (gl2 mne (iterN (fun tt => gl2 mne tt 16) w (iterN (fun tt => gl1 mne tt 16) 4 (mixF (fun _ => 0) mgo 4))) k)) (k := (k / 4)) rfl (by omega) (by decide) dX5_layGoes_218 ?_
                          refine fx_iast (ar := rI) hx hb hK hP hD hS 20 (f := (gl2 mne (iterN (fun tt => gl2 mne tt 16) w (iterN (fun tt => gl1 mne tt 16) 4 (mixF (fun _ => 0) mgo 4))) k)) (k := (k / 4)) (v := ((gl2 mne (iterN (fun tt => gl2 mne tt 16) w (iterN (fun tt => gl1 mne tt 16) 4 (mixF (fun _ => 0) mgo 4))) k) (k / 4))) rfl (by omega) (by decide) rfl dX5_layGoes_219 (fun H locs hP hD hS => ?_)
                          have hP : va_P D vwCl (wM z cI cZ mn mi ms mtk mso mwh mfi mse mth mpu mno mlo mbe mre mis mca mpa mva mle mst mtn mln mne (va_up (gl2 mne (iterN (fun tt => gl2 mne tt 16) w (iterN (fun tt => gl1 mne tt 16) 4 (mixF (fun _ => 0) mgo 4))) k) (k / 4) ((gl2 mne (iterN (fun tt => gl2 mne tt 16) w (iterN (fun tt => gl1 mne tt 16) 4 (mixF (fun _ => 0) mgo 4))) k) (k / 4)))) H := hP
                          have hD : va_D A (wM z cI cZ mn mi ms mtk mso mwh mfi mse mth mpu mno mlo mbe mre mis mca mpa mva mle mst mtn mln mne (va_up (gl2 mne (iterN (fun tt => gl2 mne tt 16) w (iterN (fun tt => gl1 mne tt 16) 4 (mixF (fun _ => 0) mgo 4))) k) (k / 4) ((gl2 mne (iterN (fun tt => gl2 mne tt 16) w (iterN (fun tt => gl1 mne tt 16) 4 (mixF (fun _ => 0) mgo 4))) k) (k / 4)))) := fx_D hD rfl
                          refine lv_iinc (v := nI (k + 1)) (lv' := [(2, .int (nI (k + 1))), (3, .int (nI 0)), (0, .ref (z 0)), (1, .int (nI w))]) hx hb dX5_layGoes_220 hl (k := 3) rfl (by exact nI_1 _) (by decide) rfl (fun ls hl => ?_)
                          refine lv_goto (tgt := 120) hx hb dX5_layGoes_223 (by decide) ?_
                          have e_4 : va_up (gl2 mne (iterN (fun tt => gl2 mne tt 16) w (iterN (fun tt => gl1 mne tt 16) 4 (mixF (fun _ => 0) mgo 4))) k) (k / 4) ((gl2 mne (iterN (fun tt => gl2 mne tt 16) w (iterN (fun tt => gl1 mne tt 16) 4 (mixF (fun _ => 0) mgo 4))) k) (k / 4)) = gl2 mne (iterN (fun tt => gl2 mne tt 16) w (iterN (fun tt => gl1 mne tt 16) 4 (mixF (fun _ => 0) mgo 4))) (k + 1) := by first | rfl | (show _ = gr2 mne _ k; unfold gr2; rw [if_neg c_134, if_pos c_147])
                          exact ih_120 (k + 1) (by first | assumption | omega) (by omega) H locs (fx_Pe (w' := (wM z cI cZ mn mi ms mtk mso mwh mfi mse mth mpu mno mlo mbe mre mis mca mpa mva mle mst mtn mln mne (gl2 mne (iterN (fun tt => gl2 mne tt 16) w (iterN (fun tt => gl1 mne tt 16) 4 (mixF (fun _ => 0) mgo 4))) (k + 1)))) hP (congrArg (fun w9 : Nat → Int32 => (wM z cI cZ mn mi ms mtk mso mwh mfi mse mth mpu mno mlo mbe mre mis mca mpa mva mle mst mtn mln mne w9)) e_4)) (fx_D hD rfl) hS ls (lv_sub hl [2, 3, 0] rfl)
                        have f_203 : ¬ 0 = 0 := fun h => c_203 ((nI_eq (a := 0) (b := 0) (by first | omega | exact b_and1 _ | exact b_ct _ _ (by omega) | exact b_andr _ (by omega)) (by first | omega | exact b_and1 _ | exact b_ct _ _ (by omega) | exact b_andr _ (by omega))).mpr h)
                        exfalso; omega
                      refine lv_aload_n hx hb dX5_layGoes_150 rfl (lv_at hl 0 rfl) ?_
                      refine va_get (D := D) (ci := 5) (v := .ref (z 20)) (C := RX5) (T := TX5) (N := 24) hx hb hts (fun w h => List.mem_cons_of_mem _ (List.mem_append_right _ h)) hown hK hP 0 rfl rfl 23 (by decide) (hts (.fieldLink RX5 68 "FirstStatesModel" "goes" "[I") (List.mem_of_getElem? (i := 1) rfl)) (fun _ h9 => h9) rfl dX5_layGoes_151 ?_
                      refine lv_iload_n hx hb dX5_layGoes_154 rfl (lv_at hl 2 rfl) ?_
                      refine lv_iconst (v := nI 4) hx hb dX5_layGoes_155 (by decide) ?_
                      refine lv_irem hx hb dX5_layGoes_156 (by decide) ?_
                      refine fx_eqi (y := nI (k % 4)) (pk_rem (by first | omega | exact b_and1 _ | exact b_ct _ _ (by omega) | exact b_andr _ (by omega)) (by decide) (by decide)) ?_
                      refine fx_iald (ar := rI) hx hb hK hP 20 (f := (gl2 mne (iterN (fun tt => gl2 mne tt 16) w (iterN (fun tt => gl1 mne tt 16) 4 (mixF (fun _ => 0) mgo 4))) k)) (k := (k % 4)) rfl (by omega) (by decide) dX5_layGoes_157 ?_
                      refine lv_bipush (v := (-9)) hx hb dX5_layGoes_158 (by decide) ?_
                      refine lv_icmp_eq (tgt := 189) hx hb dX5_layGoes_160 (by decide) (fun c_160 => ?_) (fun c_160 => ?_)
                      · refine lv_iconst (v := nI 1) hx hb dX5_layGoes_189 (by decide) ?_
                        refine lv_goto (tgt := 194) hx hb dX5_layGoes_190 (by decide) ?_
                        refine lv_istore_n (lv' := [(3, .int (nI 1)), (0, .ref (z 0)), (1, .int (nI w)), (2, .int (nI k))]) hx hb dX5_layGoes_194 rfl hl (by decide) rfl (fun ls hl => ?_)
                        refine lv_aload_n hx hb dX5_layGoes_195 rfl (lv_at hl 1 rfl) ?_
                        refine va_get (D := D) (ci := 5) (v := .ref (z 20)) (C := RX5) (T := TX5) (N := 24) hx hb hts (fun w h => List.mem_cons_of_mem _ (List.mem_append_right _ h)) hown hK hP 0 rfl rfl 23 (by decide) (hts (.fieldLink RX5 68 "FirstStatesModel" "goes" "[I") (List.mem_of_getElem? (i := 1) rfl)) (fun _ h9 => h9) rfl dX5_layGoes_196 ?_
                        refine lv_iload_n hx hb dX5_layGoes_199 rfl (lv_at hl 3 rfl) ?_
                        refine lv_iconst (v := nI 4) hx hb dX5_layGoes_200 (by decide) ?_
                        refine lv_idiv hx hb dX5_layGoes_201 (by decide) ?_
                        refine fx_eqi (y := nI (k / 4)) (pk_div (by first | omega | exact b_and1 _ | exact b_ct _ _ (by omega) | exact b_andr _ (by omega)) (by decide) (by decide)) ?_
                        refine lv_iload_n hx hb dX5_layGoes_202 rfl (lv_at hl 0 rfl) ?_
                        refine lv_if_eq (tgt := 211) hx hb dX5_layGoes_203 (by decide) (fun c_203 => ?_) (fun c_203 => ?_)
                        · have f_203 : 1 = 0 := (nI_eq (a := 1) (b := 0) (by first | omega | exact b_and1 _ | exact b_ct _ _ (by omega) | exact b_andr _ (by omega)) (by first | omega | exact b_and1 _ | exact b_ct _ _ (by omega) | exact b_andr _ (by omega))).mp c_203
                          exfalso; omega
                        have f_203 : ¬ 1 = 0 := fun h => c_203 ((nI_eq (a := 1) (b := 0) (by first | omega | exact b_and1 _ | exact b_ct _ _ (by omega) | exact b_andr _ (by omega)) (by first | omega | exact b_and1 _ | exact b_ct _ _ (by omega) | exact b_andr _ (by omega))).mpr h)
                        refine lv_bipush (v := (-9)) hx hb dX5_layGoes_206 (by decide) ?_
                        refine lv_goto (tgt := 219) hx hb dX5_layGoes_208 (by decide) ?_
                        refine fx_iast (ar := rI) hx hb hK hP hD hS 20 (f := (gl2 mne (iterN (fun tt => gl2 mne tt 16) w (iterN (fun tt => gl1 mne tt 16) 4 (mixF (fun _ => 0) mgo 4))) k)) (k := (k / 4)) (v := (-9)) rfl (by omega) (by decide) rfl dX5_layGoes_219 (fun H locs hP hD hS => ?_)
                        have hP : va_P D vwCl (wM z cI cZ mn mi ms mtk mso mwh mfi mse mth mpu mno mlo mbe mre mis mca mpa mva mle mst mtn mln mne (va_up (gl2 mne (iterN (fun tt => gl2 mne tt 16) w (iterN (fun tt => gl1 mne tt 16) 4 (mixF (fun _ => 0) mgo 4))) k) (k / 4) (-9))) H := hP
                        have hD : va_D A (wM z cI cZ mn mi ms mtk mso mwh mfi mse mth mpu mno mlo mbe mre mis mca mpa mva mle mst mtn mln mne (va_up (gl2 mne (iterN (fun tt => gl2 mne tt 16) w (iterN (fun tt => gl1 mne tt 16) 4 (mixF (fun _ => 0) mgo 4))) k) (k / 4) (-9))) := fx_D hD rfl
                        refine lv_iinc (v := nI (k + 1)) (lv' := [(2, .int (nI (k + 1))), (3, .int (nI 1)), (0, .ref (z 0)), (1, .int (nI w))]) hx hb dX5_layGoes_220 hl (k := 3) rfl (by exact nI_1 _) (by decide) rfl (fun ls hl => ?_)
                        refine lv_goto (tgt := 120) hx hb dX5_layGoes_223 (by decide) ?_
                        have e_5 : va_up (gl2 mne (iterN (fun tt => gl2 mne tt 16) w (iterN (fun tt => gl1 mne tt 16) 4 (mixF (fun _ => 0) mgo 4))) k) (k / 4) (-9) = gl2 mne (iterN (fun tt => gl2 mne tt 16) w (iterN (fun tt => gl1 mne tt 16) 4 (mixF (fun _ => 0) mgo 4))) (k + 1) := by first | rfl | (show _ = gr2 mne _ k; unfold gr2; rw [if_neg c_134, if_neg c_147, if_pos c_160])
                        exact ih_120 (k + 1) (by first | assumption | omega) (by omega) H locs (fx_Pe (w' := (wM z cI cZ mn mi ms mtk mso mwh mfi mse mth mpu mno mlo mbe mre mis mca mpa mva mle mst mtn mln mne (gl2 mne (iterN (fun tt => gl2 mne tt 16) w (iterN (fun tt => gl1 mne tt 16) 4 (mixF (fun _ => 0) mgo 4))) (k + 1)))) hP (congrArg (fun w9 : Nat → Int32 => (wM z cI cZ mn mi ms mtk mso mwh mfi mse mth mpu mno mlo mbe mre mis mca mpa mva mle mst mtn mln mne w9)) e_5)) (fx_D hD rfl) hS ls (lv_sub hl [2, 3, 0] rfl)
                      refine lv_aload_n hx hb dX5_layGoes_163 rfl (lv_at hl 0 rfl) ?_
                      refine va_get (D := D) (ci := 5) (v := .ref (z 20)) (C := RX5) (T := TX5) (N := 24) hx hb hts (fun w h => List.mem_cons_of_mem _ (List.mem_append_right _ h)) hown hK hP 0 rfl rfl 23 (by decide) (hts (.fieldLink RX5 68 "FirstStatesModel" "goes" "[I") (List.mem_of_getElem? (i := 1) rfl)) (fun _ h9 => h9) rfl dX5_layGoes_164 ?_
                      refine lv_iload_n hx hb dX5_layGoes_167 rfl (lv_at hl 2 rfl) ?_
                      refine lv_iconst (v := nI 4) hx hb dX5_layGoes_168 (by decide) ?_
                      refine lv_irem hx hb dX5_layGoes_169 (by decide) ?_
                      refine fx_eqi (y := nI (k % 4)) (pk_rem (by first | omega | exact b_and1 _ | exact b_ct _ _ (by omega) | exact b_andr _ (by omega)) (by decide) (by decide)) ?_
                      refine fx_iald (ar := rI) hx hb hK hP 20 (f := (gl2 mne (iterN (fun tt => gl2 mne tt 16) w (iterN (fun tt => gl1 mne tt 16) 4 (mixF (fun _ => 0) mgo 4))) k)) (k := (k % 4)) rfl (by omega) (by decide) dX5_layGoes_170 ?_
                      refine lv_aload_n hx hb dX5_layGoes_171 rfl (lv_at hl 0 rfl) ?_
                      refine va_get (D := D) (ci := 5) (v := .ref (z 19)) (C := RX5) (T := TX5) (N := 24) hx hb hts (fun w h => List.mem_cons_of_mem _ (List.mem_append_right _ h)) hown hK hP 0 rfl rfl 22 (by decide) (hts (.fieldLink RX5 65 "FirstStatesModel" "needs" "[I") (List.mem_of_getElem? (i := 2) rfl)) (fun _ h9 => h9) rfl dX5_layGoes_172 ?_
                      refine lv_iload_n hx hb dX5_layGoes_175 rfl (lv_at hl 2 rfl) ?_
                      refine fx_iald (ar := rI) hx hb hK hP 19 (f := mne) (k := k) rfl (by omega) (by decide) dX5_layGoes_176 ?_
                      refine lv_iadd hx hb dX5_layGoes_177 ?_
                      refine lv_aload_n hx hb dX5_layGoes_178 rfl (lv_at hl 0 rfl) ?_
                      refine va_get (D := D) (ci := 5) (v := .ref (z 20)) (C := RX5) (T := TX5) (N := 24) hx hb hts (fun w h => List.mem_cons_of_mem _ (List.mem_append_right _ h)) hown hK hP 0 rfl rfl 23 (by decide) (hts (.fieldLink RX5 68 "FirstStatesModel" "goes" "[I") (List.mem_of_getElem? (i := 1) rfl)) (fun _ h9 => h9) rfl dX5_layGoes_179 ?_
                      refine lv_iload_n hx hb dX5_layGoes_182 rfl (lv_at hl 2 rfl) ?_
                      refine lv_iconst (v := nI 4) hx hb dX5_layGoes_183 (by decide) ?_
                      refine lv_idiv hx hb dX5_layGoes_184 (by decide) ?_
                      refine fx_eqi (y := nI (k / 4)) (pk_div (by first | omega | exact b_and1 _ | exact b_ct _ _ (by omega) | exact b_andr _ (by omega)) (by decide) (by decide)) ?_
                      refine fx_iald (ar := rI) hx hb hK hP 20 (f := (gl2 mne (iterN (fun tt => gl2 mne tt 16) w (iterN (fun tt => gl1 mne tt 16) 4 (mixF (fun _ => 0) mgo 4))) k)) (k := (k / 4)) rfl (by omega) (by decide) dX5_layGoes_185 ?_
                      refine lv_icmp_le (tgt := 193) hx hb dX5_layGoes_186 (by decide) (fun c_186 => ?_) (fun c_186 => ?_)
                      · refine lv_iconst (v := nI 0) hx hb dX5_layGoes_193 (by decide) ?_
                        refine lv_istore_n (lv' := [(3, .int (nI 0)), (0, .ref (z 0)), (1, .int (nI w)), (2, .int (nI k))]) hx hb dX5_layGoes_194 rfl hl (by decide) rfl (fun ls hl => ?_)
                        refine lv_aload_n hx hb dX5_layGoes_195 rfl (lv_at hl 1 rfl) ?_
                        refine va_get (D := D) (ci := 5) (v := .ref (z 20)) (C := RX5) (T := TX5) (N := 24) hx hb hts (fun w h => List.mem_cons_of_mem _ (List.mem_append_right _ h)) hown hK hP 0 rfl rfl 23 (by decide) (hts (.fieldLink RX5 68 "FirstStatesModel" "goes" "[I") (List.mem_of_getElem? (i := 1) rfl)) (fun _ h9 => h9) rfl dX5_layGoes_196 ?_
                        refine lv_iload_n hx hb dX5_layGoes_199 rfl (lv_at hl 3 rfl) ?_
                        refine lv_iconst (v := nI 4) hx hb dX5_layGoes_200 (by decide) ?_
                        refine lv_idiv hx hb dX5_layGoes_201 (by decide) ?_
                        refine fx_eqi (y := nI (k / 4)) (pk_div (by first | omega | exact b_and1 _ | exact b_ct _ _ (by omega) | exact b_andr _ (by omega)) (by decide) (by decide)) ?_
                        refine lv_iload_n hx hb dX5_layGoes_202 rfl (lv_at hl 0 rfl) ?_
                        refine lv_if_eq (tgt := 211) hx hb dX5_layGoes_203 (by decide) (fun c_203 => ?_) (fun c_203 => ?_)
                        · have f_203 : 0 = 0 := (nI_eq (a := 0) (b := 0) (by first | omega | exact b_and1 _ | exact b_ct _ _ (by omega) | exact b_andr _ (by omega)) (by first | omega | exact b_and1 _ | exact b_ct _ _ (by omega) | exact b_andr _ (by omega))).mp c_203
                          refine lv_aload_n hx hb dX5_layGoes_211 rfl (lv_at hl 1 rfl) ?_
                          refine va_get (D := D) (ci := 5) (v := .ref (z 20)) (C := RX5) (T := TX5) (N := 24) hx hb hts (fun w h => List.mem_cons_of_mem _ (List.mem_append_right _ h)) hown hK hP 0 rfl rfl 23 (by decide) (hts (.fieldLink RX5 68 "FirstStatesModel" "goes" "[I") (List.mem_of_getElem? (i := 1) rfl)) (fun _ h9 => h9) rfl dX5_layGoes_212 ?_
                          refine lv_iload_n hx hb dX5_layGoes_215 rfl (lv_at hl 3 rfl) ?_
                          refine lv_iconst (v := nI 4) hx hb dX5_layGoes_216 (by decide) ?_
                          refine lv_idiv hx hb dX5_layGoes_217 (by decide) ?_
                          refine fx_eqi (y := nI (k / 4)) (pk_div (by first | omega | exact b_and1 _ | exact b_ct _ _ (by omega) | exact b_andr _ (by omega)) (by decide) (by decide)) ?_
                          refine fx_iald (ar := rI) hx hb hK hP 20 (f := (gl2 mne (iterN (fun tt => gl2 mne tt 16) w (iterN (fun tt => gl1 mne tt 16) 4 (mixF (fun _ => 0) mgo 4))) k)) (k := (k / 4)) rfl (by omega) (by decide) dX5_layGoes_218 ?_
                          refine fx_iast (ar := rI) hx hb hK hP hD hS 20 (f := (gl2 mne (iterN (fun tt => gl2 mne tt 16) w (iterN (fun tt => gl1 mne tt 16) 4 (mixF (fun _ => 0) mgo 4))) k)) (k := (k / 4)) (v := ((gl2 mne (iterN (fun tt => gl2 mne tt 16) w (iterN (fun tt => gl1 mne tt 16) 4 (mixF (fun _ => 0) mgo 4))) k) (k / 4))) rfl (by omega) (by decide) rfl dX5_layGoes_219 (fun H locs hP hD hS => ?_)
                          have hP : va_P D vwCl (wM z cI cZ mn mi ms mtk mso mwh mfi mse mth mpu mno mlo mbe mre mis mca mpa mva mle mst mtn mln mne (va_up (gl2 mne (iterN (fun tt => gl2 mne tt 16) w (iterN (fun tt => gl1 mne tt 16) 4 (mixF (fun _ => 0) mgo 4))) k) (k / 4) ((gl2 mne (iterN (fun tt => gl2 mne tt 16) w (iterN (fun tt => gl1 mne tt 16) 4 (mixF (fun _ => 0) mgo 4))) k) (k / 4)))) H := hP
                          have hD : va_D A (wM z cI cZ mn mi ms mtk mso mwh mfi mse mth mpu mno mlo mbe mre mis mca mpa mva mle mst mtn mln mne (va_up (gl2 mne (iterN (fun tt => gl2 mne tt 16) w (iterN (fun tt => gl1 mne tt 16) 4 (mixF (fun _ => 0) mgo 4))) k) (k / 4) ((gl2 mne (iterN (fun tt => gl2 mne tt 16) w (iterN (fun tt => gl1 mne tt 16) 4 (mixF (fun _ => 0) mgo 4))) k) (k / 4)))) := fx_D hD rfl
                          refine lv_iinc (v := nI (k + 1)) (lv' := [(2, .int (nI (k + 1))), (3, .int (nI 0)), (0, .ref (z 0)), (1, .int (nI w))]) hx hb dX5_layGoes_220 hl (k := 3) rfl (by exact nI_1 _) (by decide) rfl (fun ls hl => ?_)
                          refine lv_goto (tgt := 120) hx hb dX5_layGoes_223 (by decide) ?_
                          have e_6 : va_up (gl2 mne (iterN (fun tt => gl2 mne tt 16) w (iterN (fun tt => gl1 mne tt 16) 4 (mixF (fun _ => 0) mgo 4))) k) (k / 4) ((gl2 mne (iterN (fun tt => gl2 mne tt 16) w (iterN (fun tt => gl1 mne tt 16) 4 (mixF (fun _ => 0) mgo 4))) k) (k / 4)) = gl2 mne (iterN (fun tt => gl2 mne tt 16) w (iterN (fun tt => gl1 mne tt 16) 4 (mixF (fun _ => 0) mgo 4))) (k + 1) := by first | rfl | (show _ = gr2 mne _ k; unfold gr2; rw [if_neg c_134, if_neg c_147, if_neg c_160, if_pos c_186])
                          exact ih_120 (k + 1) (by first | assumption | omega) (by omega) H locs (fx_Pe (w' := (wM z cI cZ mn mi ms mtk mso mwh mfi mse mth mpu mno mlo mbe mre mis mca mpa mva mle mst mtn mln mne (gl2 mne (iterN (fun tt => gl2 mne tt 16) w (iterN (fun tt => gl1 mne tt 16) 4 (mixF (fun _ => 0) mgo 4))) (k + 1)))) hP (congrArg (fun w9 : Nat → Int32 => (wM z cI cZ mn mi ms mtk mso mwh mfi mse mth mpu mno mlo mbe mre mis mca mpa mva mle mst mtn mln mne w9)) e_6)) (fx_D hD rfl) hS ls (lv_sub hl [2, 3, 0] rfl)
                        have f_203 : ¬ 0 = 0 := fun h => c_203 ((nI_eq (a := 0) (b := 0) (by first | omega | exact b_and1 _ | exact b_ct _ _ (by omega) | exact b_andr _ (by omega)) (by first | omega | exact b_and1 _ | exact b_ct _ _ (by omega) | exact b_andr _ (by omega))).mpr h)
                        exfalso; omega
                      refine lv_iconst (v := nI 1) hx hb dX5_layGoes_189 (by decide) ?_
                      refine lv_goto (tgt := 194) hx hb dX5_layGoes_190 (by decide) ?_
                      refine lv_istore_n (lv' := [(3, .int (nI 1)), (0, .ref (z 0)), (1, .int (nI w)), (2, .int (nI k))]) hx hb dX5_layGoes_194 rfl hl (by decide) rfl (fun ls hl => ?_)
                      refine lv_aload_n hx hb dX5_layGoes_195 rfl (lv_at hl 1 rfl) ?_
                      refine va_get (D := D) (ci := 5) (v := .ref (z 20)) (C := RX5) (T := TX5) (N := 24) hx hb hts (fun w h => List.mem_cons_of_mem _ (List.mem_append_right _ h)) hown hK hP 0 rfl rfl 23 (by decide) (hts (.fieldLink RX5 68 "FirstStatesModel" "goes" "[I") (List.mem_of_getElem? (i := 1) rfl)) (fun _ h9 => h9) rfl dX5_layGoes_196 ?_
                      refine lv_iload_n hx hb dX5_layGoes_199 rfl (lv_at hl 3 rfl) ?_
                      refine lv_iconst (v := nI 4) hx hb dX5_layGoes_200 (by decide) ?_
                      refine lv_idiv hx hb dX5_layGoes_201 (by decide) ?_
                      refine fx_eqi (y := nI (k / 4)) (pk_div (by first | omega | exact b_and1 _ | exact b_ct _ _ (by omega) | exact b_andr _ (by omega)) (by decide) (by decide)) ?_
                      refine lv_iload_n hx hb dX5_layGoes_202 rfl (lv_at hl 0 rfl) ?_
                      refine lv_if_eq (tgt := 211) hx hb dX5_layGoes_203 (by decide) (fun c_203 => ?_) (fun c_203 => ?_)
                      · have f_203 : 1 = 0 := (nI_eq (a := 1) (b := 0) (by first | omega | exact b_and1 _ | exact b_ct _ _ (by omega) | exact b_andr _ (by omega)) (by first | omega | exact b_and1 _ | exact b_ct _ _ (by omega) | exact b_andr _ (by omega))).mp c_203
                        exfalso; omega
                      have f_203 : ¬ 1 = 0 := fun h => c_203 ((nI_eq (a := 1) (b := 0) (by first | omega | exact b_and1 _ | exact b_ct _ _ (by omega) | exact b_andr _ (by omega)) (by first | omega | exact b_and1 _ | exact b_ct _ _ (by omega) | exact b_andr _ (by omega))).mpr h)
                      refine lv_bipush (v := (-9)) hx hb dX5_layGoes_206 (by decide) ?_
                      refine lv_goto (tgt := 219) hx hb dX5_layGoes_208 (by decide) ?_
                      refine fx_iast (ar := rI) hx hb hK hP hD hS 20 (f := (gl2 mne (iterN (fun tt => gl2 mne tt 16) w (iterN (fun tt => gl1 mne tt 16) 4 (mixF (fun _ => 0) mgo 4))) k)) (k := (k / 4)) (v := (-9)) rfl (by omega) (by decide) rfl dX5_layGoes_219 (fun H locs hP hD hS => ?_)
                      have hP : va_P D vwCl (wM z cI cZ mn mi ms mtk mso mwh mfi mse mth mpu mno mlo mbe mre mis mca mpa mva mle mst mtn mln mne (va_up (gl2 mne (iterN (fun tt => gl2 mne tt 16) w (iterN (fun tt => gl1 mne tt 16) 4 (mixF (fun _ => 0) mgo 4))) k) (k / 4) (-9))) H := hP
                      have hD : va_D A (wM z cI cZ mn mi ms mtk mso mwh mfi mse mth mpu mno mlo mbe mre mis mca mpa mva mle mst mtn mln mne (va_up (gl2 mne (iterN (fun tt => gl2 mne tt 16) w (iterN (fun tt => gl1 mne tt 16) 4 (mixF (fun _ => 0) mgo 4))) k) (k / 4) (-9))) := fx_D hD rfl
                      refine lv_iinc (v := nI (k + 1)) (lv' := [(2, .int (nI (k + 1))), (3, .int (nI 1)), (0, .ref (z 0)), (1, .int (nI w))]) hx hb dX5_layGoes_220 hl (k := 3) rfl (by exact nI_1 _) (by decide) rfl (fun ls hl => ?_)
                      refine lv_goto (tgt := 120) hx hb dX5_layGoes_223 (by decide) ?_
                      have e_7 : va_up (gl2 mne (iterN (fun tt => gl2 mne tt 16) w (iterN (fun tt => gl1 mne tt 16) 4 (mixF (fun _ => 0) mgo 4))) k) (k / 4) (-9) = gl2 mne (iterN (fun tt => gl2 mne tt 16) w (iterN (fun tt => gl1 mne tt 16) 4 (mixF (fun _ => 0) mgo 4))) (k + 1) := by first | rfl | (show _ = gr2 mne _ k; unfold gr2; rw [if_neg c_134, if_neg c_147, if_neg c_160, if_neg c_186])
                      exact ih_120 (k + 1) (by first | assumption | omega) (by omega) H locs (fx_Pe (w' := (wM z cI cZ mn mi ms mtk mso mwh mfi mse mth mpu mno mlo mbe mre mis mca mpa mva mle mst mtn mln mne (gl2 mne (iterN (fun tt => gl2 mne tt 16) w (iterN (fun tt => gl1 mne tt 16) 4 (mixF (fun _ => 0) mgo 4))) (k + 1)))) hP (congrArg (fun w9 : Nat → Int32 => (wM z cI cZ mn mi ms mtk mso mwh mfi mse mth mpu mno mlo mbe mre mis mca mpa mva mle mst mtn mln mne w9)) e_7)) (fx_D hD rfl) hS ls (lv_sub hl [2, 3, 0] rfl)
                  exact L_120 (16 - 0 + 1) 0 (Nat.zero_le _) (Nat.lt_succ_self _) H locs hP (fx_D hD rfl) hS ls (lv_sub hl [1, 2, 0] rfl)
              have e_8 : iterN (fun tt => gl1 mne tt 16) r (mixF (fun _ => 0) mgo 4) = iterN (fun tt => gl2 mne tt 16) 0 (iterN (fun tt => gl1 mne tt 16) 4 (mixF (fun _ => 0) mgo 4)) := by first | rfl | (rw [e_r]; rfl)
              exact L_112 (8 - 0 + 1) 0 (Nat.zero_le _) (Nat.lt_succ_self _) H locs (fx_Pe (w' := (wM z cI cZ mn mi ms mtk mso mwh mfi mse mth mpu mno mlo mbe mre mis mca mpa mva mle mst mtn mln mne (iterN (fun tt => gl2 mne tt 16) 0 (iterN (fun tt => gl1 mne tt 16) 4 (mixF (fun _ => 0) mgo 4))))) hP (congrArg (fun w9 : Nat → Int32 => (wM z cI cZ mn mi ms mtk mso mwh mfi mse mth mpu mno mlo mbe mre mis mca mpa mva mle mst mtn mln mne w9)) e_8)) (fx_D hD rfl) hS ls (lv_sub hl [1, 0] rfl)
            have f_24 : ¬ 4 ≤ r := fun h => c_24 ((nI_leI (a := 4) (b := r) (by first | omega | exact b_and1 _ | exact b_ct _ _ (by omega) | exact b_andr _ (by omega)) (by first | omega | exact b_and1 _ | exact b_ct _ _ (by omega) | exact b_andr _ (by omega))).mpr h)
            refine lv_iconst (v := nI 0) hx hb dX5_layGoes_27 (by decide) ?_
            refine lv_istore_n (lv' := [(2, .int (nI 0)), (0, .ref (z 0)), (1, .int (nI r))]) hx hb dX5_layGoes_28 rfl hl (by decide) rfl (fun ls hl => ?_)
            have L_29 : ∀ (fuel : Nat) (k : Nat) (hk : k ≤ 16) (hfu : 16 - k < fuel) (H : Heap) (locs : List Loc), va_P D vwCl (wM z cI cZ mn mi ms mtk mso mwh mfi mse mth mpu mno mlo mbe mre mis mca mpa mva mle mst mtn mln mne (gl1 mne (iterN (fun tt => gl1 mne tt 16) r (mixF (fun _ => 0) mgo 4)) k)) H → va_D A (wM z cI cZ mn mi ms mtk mso mwh mfi mse mth mpu mno mlo mbe mre mis mca mpa mva mle mst mtn mln mne (gl1 mne (iterN (fun tt => gl1 mne tt 16) r (mixF (fun _ => 0) mgo 4)) k)) → va_S A s.heap H locs → ∀ ls : Array Slot, lv_has ls 4 [(0, .ref (z 0)), (1, .int (nI r)), (2, .int (nI k))] → W p l e ({ frames := 0, cells := 0, slots := 0, locals := 0 } : Room) s m args below meth c H locs 0 0 Q (F0 m 29 ls []) := by
              intro fuel
              induction fuel with
              | zero => intro k hk hfu; exact absurd hfu (Nat.not_lt_zero _)
              | succ fuel ih_29 =>
                intro k hk hfu H locs hP hD hS ls hl
                refine lv_iload_n hx hb dX5_layGoes_29 rfl (lv_at hl 2 rfl) ?_
                refine lv_bipush (v := nI 16) hx hb dX5_layGoes_30 (by decide) ?_
                refine lv_icmp_ge (tgt := 104) hx hb dX5_layGoes_32 (by decide) (fun c_32 => ?_) (fun c_32 => ?_)
                · have f_32 : 16 ≤ k := (nI_leI (a := 16) (b := k) (by first | omega | exact b_and1 _ | exact b_ct _ _ (by omega) | exact b_andr _ (by omega)) (by first | omega | exact b_and1 _ | exact b_ct _ _ (by omega) | exact b_andr _ (by omega))).mp c_32
                  have e_k : k = 16 := by omega
                  refine lv_iinc (v := nI (r + 1)) (lv' := [(1, .int (nI (r + 1))), (0, .ref (z 0)), (2, .int (nI k))]) hx hb dX5_layGoes_104 hl (k := 1) rfl (by exact nI_1 _) (by decide) rfl (fun ls hl => ?_)
                  refine lv_goto (tgt := 22) hx hb dX5_layGoes_107 (by decide) ?_
                  have e_9 : gl1 mne (iterN (fun tt => gl1 mne tt 16) r (mixF (fun _ => 0) mgo 4)) k = iterN (fun tt => gl1 mne tt 16) (r + 1) (mixF (fun _ => 0) mgo 4) := by first | rfl | (rw [e_k]; rfl)
                  exact ih_22 (r + 1) (by first | assumption | omega) (by omega) H locs (fx_Pe (w' := (wM z cI cZ mn mi ms mtk mso mwh mfi mse mth mpu mno mlo mbe mre mis mca mpa mva mle mst mtn mln mne (iterN (fun tt => gl1 mne tt 16) (r + 1) (mixF (fun _ => 0) mgo 4)))) hP (congrArg (fun w9 : Nat → Int32 => (wM z cI cZ mn mi ms mtk mso mwh mfi mse mth mpu mno mlo mbe mre mis mca mpa mva mle mst mtn mln mne w9)) e_9)) (fx_D hD rfl) hS ls (lv_sub hl [1, 0] rfl)
                have f_32 : ¬ 16 ≤ k := fun h => c_32 ((nI_leI (a := 16) (b := k) (by first | omega | exact b_and1 _ | exact b_ct _ _ (by omega) | exact b_andr _ (by omega)) (by first | omega | exact b_and1 _ | exact b_ct _ _ (by omega) | exact b_andr _ (by omega))).mpr h)
                have hk4 : k / 4 < 4 := by omega
                have hkm : k % 4 < 4 := by omega
                refine lv_aload_n hx hb dX5_layGoes_35 rfl (lv_at hl 0 rfl) ?_
                refine va_get (D := D) (ci := 5) (v := .ref (z 19)) (C := RX5) (T := TX5) (N := 24) hx hb hts (fun w h => List.mem_cons_of_mem _ (List.mem_append_right _ h)) hown hK hP 0 rfl rfl 22 (by decide) (hts (.fieldLink RX5 65 "FirstStatesModel" "needs" "[I") (List.mem_of_getElem? (i := 2) rfl)) (fun _ h9 => h9) rfl dX5_layGoes_36 ?_
                refine lv_iload_n hx hb dX5_layGoes_39 rfl (lv_at hl 2 rfl) ?_
                refine fx_iald (ar := rI) hx hb hK hP 19 (f := mne) (k := k) rfl (by omega) (by decide) dX5_layGoes_40 ?_
                refine lv_istore_n (lv' := [(3, .int (mne k)), (0, .ref (z 0)), (1, .int (nI r)), (2, .int (nI k))]) hx hb dX5_layGoes_41 rfl hl (by decide) rfl (fun ls hl => ?_)
                refine lv_aload_n hx hb dX5_layGoes_42 rfl (lv_at hl 1 rfl) ?_
                refine va_get (D := D) (ci := 5) (v := .ref (z 20)) (C := RX5) (T := TX5) (N := 24) hx hb hts (fun w h => List.mem_cons_of_mem _ (List.mem_append_right _ h)) hown hK hP 0 rfl rfl 23 (by decide) (hts (.fieldLink RX5 68 "FirstStatesModel" "goes" "[I") (List.mem_of_getElem? (i := 1) rfl)) (fun _ h9 => h9) rfl dX5_layGoes_43 ?_
                refine lv_iload_n hx hb dX5_layGoes_46 rfl (lv_at hl 3 rfl) ?_
                refine lv_iconst (v := nI 4) hx hb dX5_layGoes_47 (by decide) ?_
                refine lv_idiv hx hb dX5_layGoes_48 (by decide) ?_
                refine fx_eqi (y := nI (k / 4)) (pk_div (by first | omega | exact b_and1 _ | exact b_ct _ _ (by omega) | exact b_andr _ (by omega)) (by decide) (by decide)) ?_
                refine lv_iload_n hx hb dX5_layGoes_49 rfl (lv_at hl 0 rfl) ?_
                refine lv_bipush (v := (-9)) hx hb dX5_layGoes_50 (by decide) ?_
                refine lv_icmp_eq (tgt := 89) hx hb dX5_layGoes_52 (by decide) (fun c_52 => ?_) (fun c_52 => ?_)
                · refine lv_aload_n hx hb dX5_layGoes_89 rfl (lv_at hl 1 rfl) ?_
                  refine va_get (D := D) (ci := 5) (v := .ref (z 20)) (C := RX5) (T := TX5) (N := 24) hx hb hts (fun w h => List.mem_cons_of_mem _ (List.mem_append_right _ h)) hown hK hP 0 rfl rfl 23 (by decide) (hts (.fieldLink RX5 68 "FirstStatesModel" "goes" "[I") (List.mem_of_getElem? (i := 1) rfl)) (fun _ h9 => h9) rfl dX5_layGoes_90 ?_
                  refine lv_iload_n hx hb dX5_layGoes_93 rfl (lv_at hl 3 rfl) ?_
                  refine lv_iconst (v := nI 4) hx hb dX5_layGoes_94 (by decide) ?_
                  refine lv_idiv hx hb dX5_layGoes_95 (by decide) ?_
                  refine fx_eqi (y := nI (k / 4)) (pk_div (by first | omega | exact b_and1 _ | exact b_ct _ _ (by omega) | exact b_andr _ (by omega)) (by decide) (by decide)) ?_
                  refine fx_iald (ar := rI) hx hb hK hP 20 (f := (gl1 mne (iterN (fun tt => gl1 mne tt 16) r (mixF (fun _ => 0) mgo 4)) k)) (k := (k / 4)) rfl (by omega) (by decide) dX5_layGoes_96 ?_
                  refine fx_iast (ar := rI) hx hb hK hP hD hS 20 (f := (gl1 mne (iterN (fun tt => gl1 mne tt 16) r (mixF (fun _ => 0) mgo 4)) k)) (k := (k / 4)) (v := ((gl1 mne (iterN (fun tt => gl1 mne tt 16) r (mixF (fun _ => 0) mgo 4)) k) (k / 4))) rfl (by omega) (by decide) rfl dX5_layGoes_97 (fun H locs hP hD hS => ?_)
                  have hP : va_P D vwCl (wM z cI cZ mn mi ms mtk mso mwh mfi mse mth mpu mno mlo mbe mre mis mca mpa mva mle mst mtn mln mne (va_up (gl1 mne (iterN (fun tt => gl1 mne tt 16) r (mixF (fun _ => 0) mgo 4)) k) (k / 4) ((gl1 mne (iterN (fun tt => gl1 mne tt 16) r (mixF (fun _ => 0) mgo 4)) k) (k / 4)))) H := hP
                  have hD : va_D A (wM z cI cZ mn mi ms mtk mso mwh mfi mse mth mpu mno mlo mbe mre mis mca mpa mva mle mst mtn mln mne (va_up (gl1 mne (iterN (fun tt => gl1 mne tt 16) r (mixF (fun _ => 0) mgo 4)) k) (k / 4) ((gl1 mne (iterN (fun tt => gl1 mne tt 16) r (mixF (fun _ => 0) mgo 4)) k) (k / 4)))) := fx_D hD rfl
                  refine lv_iinc (v := nI (k + 1)) (lv' := [(2, .int (nI (k + 1))), (3, .int (mne k)), (0, .ref (z 0)), (1, .int (nI r))]) hx hb dX5_layGoes_98 hl (k := 3) rfl (by exact nI_1 _) (by decide) rfl (fun ls hl => ?_)
                  refine lv_goto (tgt := 29) hx hb dX5_layGoes_101 (by decide) ?_
                  have e_10 : va_up (gl1 mne (iterN (fun tt => gl1 mne tt 16) r (mixF (fun _ => 0) mgo 4)) k) (k / 4) ((gl1 mne (iterN (fun tt => gl1 mne tt 16) r (mixF (fun _ => 0) mgo 4)) k) (k / 4)) = gl1 mne (iterN (fun tt => gl1 mne tt 16) r (mixF (fun _ => 0) mgo 4)) (k + 1) := by first | rfl | (show _ = gr1 mne _ k; unfold gr1; rw [if_pos c_52])
                  exact ih_29 (k + 1) (by first | assumption | omega) (by omega) H locs (fx_Pe (w' := (wM z cI cZ mn mi ms mtk mso mwh mfi mse mth mpu mno mlo mbe mre mis mca mpa mva mle mst mtn mln mne (gl1 mne (iterN (fun tt => gl1 mne tt 16) r (mixF (fun _ => 0) mgo 4)) (k + 1)))) hP (congrArg (fun w9 : Nat → Int32 => (wM z cI cZ mn mi ms mtk mso mwh mfi mse mth mpu mno mlo mbe mre mis mca mpa mva mle mst mtn mln mne w9)) e_10)) (fx_D hD rfl) hS ls (lv_sub hl [2, 3, 0] rfl)
                refine lv_aload_n hx hb dX5_layGoes_55 rfl (lv_at hl 1 rfl) ?_
                refine va_get (D := D) (ci := 5) (v := .ref (z 20)) (C := RX5) (T := TX5) (N := 24) hx hb hts (fun w h => List.mem_cons_of_mem _ (List.mem_append_right _ h)) hown hK hP 0 rfl rfl 23 (by decide) (hts (.fieldLink RX5 68 "FirstStatesModel" "goes" "[I") (List.mem_of_getElem? (i := 1) rfl)) (fun _ h9 => h9) rfl dX5_layGoes_56 ?_
                refine lv_iload_n hx hb dX5_layGoes_59 rfl (lv_at hl 3 rfl) ?_
                refine lv_iconst (v := nI 4) hx hb dX5_layGoes_60 (by decide) ?_
                refine lv_irem hx hb dX5_layGoes_61 (by decide) ?_
                refine fx_eqi (y := nI (k % 4)) (pk_rem (by first | omega | exact b_and1 _ | exact b_ct _ _ (by omega) | exact b_andr _ (by omega)) (by decide) (by decide)) ?_
                refine fx_iald (ar := rI) hx hb hK hP 20 (f := (gl1 mne (iterN (fun tt => gl1 mne tt 16) r (mixF (fun _ => 0) mgo 4)) k)) (k := (k % 4)) rfl (by omega) (by decide) dX5_layGoes_62 ?_
                refine lv_iload_n hx hb dX5_layGoes_63 rfl (lv_at hl 0 rfl) ?_
                refine lv_iadd hx hb dX5_layGoes_64 ?_
                refine lv_aload_n hx hb dX5_layGoes_65 rfl (lv_at hl 1 rfl) ?_
                refine va_get (D := D) (ci := 5) (v := .ref (z 20)) (C := RX5) (T := TX5) (N := 24) hx hb hts (fun w h => List.mem_cons_of_mem _ (List.mem_append_right _ h)) hown hK hP 0 rfl rfl 23 (by decide) (hts (.fieldLink RX5 68 "FirstStatesModel" "goes" "[I") (List.mem_of_getElem? (i := 1) rfl)) (fun _ h9 => h9) rfl dX5_layGoes_66 ?_
                refine lv_iload_n hx hb dX5_layGoes_69 rfl (lv_at hl 3 rfl) ?_
                refine lv_iconst (v := nI 4) hx hb dX5_layGoes_70 (by decide) ?_
                refine lv_idiv hx hb dX5_layGoes_71 (by decide) ?_
                refine fx_eqi (y := nI (k / 4)) (pk_div (by first | omega | exact b_and1 _ | exact b_ct _ _ (by omega) | exact b_andr _ (by omega)) (by decide) (by decide)) ?_
                refine fx_iald (ar := rI) hx hb hK hP 20 (f := (gl1 mne (iterN (fun tt => gl1 mne tt 16) r (mixF (fun _ => 0) mgo 4)) k)) (k := (k / 4)) rfl (by omega) (by decide) dX5_layGoes_72 ?_
                refine lv_icmp_le (tgt := 89) hx hb dX5_layGoes_73 (by decide) (fun c_73 => ?_) (fun c_73 => ?_)
                · refine lv_aload_n hx hb dX5_layGoes_89 rfl (lv_at hl 1 rfl) ?_
                  refine va_get (D := D) (ci := 5) (v := .ref (z 20)) (C := RX5) (T := TX5) (N := 24) hx hb hts (fun w h => List.mem_cons_of_mem _ (List.mem_append_right _ h)) hown hK hP 0 rfl rfl 23 (by decide) (hts (.fieldLink RX5 68 "FirstStatesModel" "goes" "[I") (List.mem_of_getElem? (i := 1) rfl)) (fun _ h9 => h9) rfl dX5_layGoes_90 ?_
                  refine lv_iload_n hx hb dX5_layGoes_93 rfl (lv_at hl 3 rfl) ?_
                  refine lv_iconst (v := nI 4) hx hb dX5_layGoes_94 (by decide) ?_
                  refine lv_idiv hx hb dX5_layGoes_95 (by decide) ?_
                  refine fx_eqi (y := nI (k / 4)) (pk_div (by first | omega | exact b_and1 _ | exact b_ct _ _ (by omega) | exact b_andr _ (by omega)) (by decide) (by decide)) ?_
                  refine fx_iald (ar := rI) hx hb hK hP 20 (f := (gl1 mne (iterN (fun tt => gl1 mne tt 16) r (mixF (fun _ => 0) mgo 4)) k)) (k := (k / 4)) rfl (by omega) (by decide) dX5_layGoes_96 ?_
                  refine fx_iast (ar := rI) hx hb hK hP hD hS 20 (f := (gl1 mne (iterN (fun tt => gl1 mne tt 16) r (mixF (fun _ => 0) mgo 4)) k)) (k := (k / 4)) (v := ((gl1 mne (iterN (fun tt => gl1 mne tt 16) r (mixF (fun _ => 0) mgo 4)) k) (k / 4))) rfl (by omega) (by decide) rfl dX5_layGoes_97 (fun H locs hP hD hS => ?_)
                  have hP : va_P D vwCl (wM z cI cZ mn mi ms mtk mso mwh mfi mse mth mpu mno mlo mbe mre mis mca mpa mva mle mst mtn mln mne (va_up (gl1 mne (iterN (fun tt => gl1 mne tt 16) r (mixF (fun _ => 0) mgo 4)) k) (k / 4) ((gl1 mne (iterN (fun tt => gl1 mne tt 16) r (mixF (fun _ => 0) mgo 4)) k) (k / 4)))) H := hP
                  have hD : va_D A (wM z cI cZ mn mi ms mtk mso mwh mfi mse mth mpu mno mlo mbe mre mis mca mpa mva mle mst mtn mln mne (va_up (gl1 mne (iterN (fun tt => gl1 mne tt 16) r (mixF (fun _ => 0) mgo 4)) k) (k / 4) ((gl1 mne (iterN (fun tt => gl1 mne tt 16) r (mixF (fun _ => 0) mgo 4)) k) (k / 4)))) := fx_D hD rfl
                  refine lv_iinc (v := nI (k + 1)) (lv' := [(2, .int (nI (k + 1))), (3, .int (mne k)), (0, .ref (z 0)), (1, .int (nI r))]) hx hb dX5_layGoes_98 hl (k := 3) rfl (by exact nI_1 _) (by decide) rfl (fun ls hl => ?_)
                  refine lv_goto (tgt := 29) hx hb dX5_layGoes_101 (by decide) ?_
                  have e_11 : va_up (gl1 mne (iterN (fun tt => gl1 mne tt 16) r (mixF (fun _ => 0) mgo 4)) k) (k / 4) ((gl1 mne (iterN (fun tt => gl1 mne tt 16) r (mixF (fun _ => 0) mgo 4)) k) (k / 4)) = gl1 mne (iterN (fun tt => gl1 mne tt 16) r (mixF (fun _ => 0) mgo 4)) (k + 1) := by first | rfl | (show _ = gr1 mne _ k; unfold gr1; rw [if_neg c_52, if_pos c_73])
                  exact ih_29 (k + 1) (by first | assumption | omega) (by omega) H locs (fx_Pe (w' := (wM z cI cZ mn mi ms mtk mso mwh mfi mse mth mpu mno mlo mbe mre mis mca mpa mva mle mst mtn mln mne (gl1 mne (iterN (fun tt => gl1 mne tt 16) r (mixF (fun _ => 0) mgo 4)) (k + 1)))) hP (congrArg (fun w9 : Nat → Int32 => (wM z cI cZ mn mi ms mtk mso mwh mfi mse mth mpu mno mlo mbe mre mis mca mpa mva mle mst mtn mln mne w9)) e_11)) (fx_D hD rfl) hS ls (lv_sub hl [2, 3, 0] rfl)
                refine lv_aload_n hx hb dX5_layGoes_76 rfl (lv_at hl 1 rfl) ?_
                refine va_get (D := D) (ci := 5) (v := .ref (z 20)) (C := RX5) (T := TX5) (N := 24) hx hb hts (fun w h => List.mem_cons_of_mem _ (List.mem_append_right _ h)) hown hK hP 0 rfl rfl 23 (by decide) (hts (.fieldLink RX5 68 "FirstStatesModel" "goes" "[I") (List.mem_of_getElem? (i := 1) rfl)) (fun _ h9 => h9) rfl dX5_layGoes_77 ?_
                refine lv_iload_n hx hb dX5_layGoes_80 rfl (lv_at hl 3 rfl) ?_
                refine lv_iconst (v := nI 4) hx hb dX5_layGoes_81 (by decide) ?_
                refine lv_irem hx hb dX5_layGoes_82 (by decide) ?_
                refine fx_eqi (y := nI (k % 4)) (pk_rem (by first | omega | exact b_and1 _ | exact b_ct _ _ (by omega) | exact b_andr _ (by omega)) (by decide) (by decide)) ?_
                refine fx_iald (ar := rI) hx hb hK hP 20 (f := (gl1 mne (iterN (fun tt => gl1 mne tt 16) r (mixF (fun _ => 0) mgo 4)) k)) (k := (k % 4)) rfl (by omega) (by decide) dX5_layGoes_83 ?_
                refine lv_iload_n hx hb dX5_layGoes_84 rfl (lv_at hl 0 rfl) ?_
                refine lv_iadd hx hb dX5_layGoes_85 ?_
                refine lv_goto (tgt := 97) hx hb dX5_layGoes_86 (by decide) ?_
                refine fx_iast (ar := rI) hx hb hK hP hD hS 20 (f := (gl1 mne (iterN (fun tt => gl1 mne tt 16) r (mixF (fun _ => 0) mgo 4)) k)) (k := (k / 4)) (v := (((gl1 mne (iterN (fun tt => gl1 mne tt 16) r (mixF (fun _ => 0) mgo 4)) k) (k % 4)) + (mne k))) rfl (by omega) (by decide) rfl dX5_layGoes_97 (fun H locs hP hD hS => ?_)
                have hP : va_P D vwCl (wM z cI cZ mn mi ms mtk mso mwh mfi mse mth mpu mno mlo mbe mre mis mca mpa mva mle mst mtn mln mne (va_up (gl1 mne (iterN (fun tt => gl1 mne tt 16) r (mixF (fun _ => 0) mgo 4)) k) (k / 4) (((gl1 mne (iterN (fun tt => gl1 mne tt 16) r (mixF (fun _ => 0) mgo 4)) k) (k % 4)) + (mne k)))) H := hP
                have hD : va_D A (wM z cI cZ mn mi ms mtk mso mwh mfi mse mth mpu mno mlo mbe mre mis mca mpa mva mle mst mtn mln mne (va_up (gl1 mne (iterN (fun tt => gl1 mne tt 16) r (mixF (fun _ => 0) mgo 4)) k) (k / 4) (((gl1 mne (iterN (fun tt => gl1 mne tt 16) r (mixF (fun _ => 0) mgo 4)) k) (k % 4)) + (mne k)))) := fx_D hD rfl
                refine lv_iinc (v := nI (k + 1)) (lv' := [(2, .int (nI (k + 1))), (3, .int (mne k)), (0, .ref (z 0)), (1, .int (nI r))]) hx hb dX5_layGoes_98 hl (k := 3) rfl (by exact nI_1 _) (by decide) rfl (fun ls hl => ?_)
                refine lv_goto (tgt := 29) hx hb dX5_layGoes_101 (by decide) ?_
                have e_12 : va_up (gl1 mne (iterN (fun tt => gl1 mne tt 16) r (mixF (fun _ => 0) mgo 4)) k) (k / 4) (((gl1 mne (iterN (fun tt => gl1 mne tt 16) r (mixF (fun _ => 0) mgo 4)) k) (k % 4)) + (mne k)) = gl1 mne (iterN (fun tt => gl1 mne tt 16) r (mixF (fun _ => 0) mgo 4)) (k + 1) := by first | rfl | (show _ = gr1 mne _ k; unfold gr1; rw [if_neg c_52, if_neg c_73])
                exact ih_29 (k + 1) (by first | assumption | omega) (by omega) H locs (fx_Pe (w' := (wM z cI cZ mn mi ms mtk mso mwh mfi mse mth mpu mno mlo mbe mre mis mca mpa mva mle mst mtn mln mne (gl1 mne (iterN (fun tt => gl1 mne tt 16) r (mixF (fun _ => 0) mgo 4)) (k + 1)))) hP (congrArg (fun w9 : Nat → Int32 => (wM z cI cZ mn mi ms mtk mso mwh mfi mse mth mpu mno mlo mbe mre mis mca mpa mva mle mst mtn mln mne w9)) e_12)) (fx_D hD rfl) hS ls (lv_sub hl [2, 3, 0] rfl)
            exact L_29 (16 - 0 + 1) 0 (Nat.zero_le _) (Nat.lt_succ_self _) H locs hP (fx_D hD rfl) hS ls (lv_sub hl [1, 2, 0] rfl)
        have e_13 : mixF (fun _ => 0) mgo i = iterN (fun tt => gl1 mne tt 16) 0 (mixF (fun _ => 0) mgo 4) := by first | rfl | (rw [e_i]; rfl)
        exact L_22 (4 - 0 + 1) 0 (Nat.zero_le _) (Nat.lt_succ_self _) H locs (fx_Pe (w' := (wM z cI cZ mn mi ms mtk mso mwh mfi mse mth mpu mno mlo mbe mre mis mca mpa mva mle mst mtn mln mne (iterN (fun tt => gl1 mne tt 16) 0 (mixF (fun _ => 0) mgo 4)))) hP (congrArg (fun w9 : Nat → Int32 => (wM z cI cZ mn mi ms mtk mso mwh mfi mse mth mpu mno mlo mbe mre mis mca mpa mva mle mst mtn mln mne w9)) e_13)) (fx_D hD rfl) hS ls (lv_sub hl [1, 0] rfl)
      have f_4 : ¬ 4 ≤ i := fun h => c_4 ((nI_leI (a := 4) (b := i) (by first | omega | exact b_and1 _ | exact b_ct _ _ (by omega) | exact b_andr _ (by omega)) (by first | omega | exact b_and1 _ | exact b_ct _ _ (by omega) | exact b_andr _ (by omega))).mpr h)
      refine lv_aload_n hx hb dX5_layGoes_7 rfl (lv_at hl 0 rfl) ?_
      refine va_get (D := D) (ci := 5) (v := .ref (z 20)) (C := RX5) (T := TX5) (N := 24) hx hb hts (fun w h => List.mem_cons_of_mem _ (List.mem_append_right _ h)) hown hK hP 0 rfl rfl 23 (by decide) (hts (.fieldLink RX5 68 "FirstStatesModel" "goes" "[I") (List.mem_of_getElem? (i := 1) rfl)) (fun _ h9 => h9) rfl dX5_layGoes_8 ?_
      refine lv_iload_n hx hb dX5_layGoes_11 rfl (lv_at hl 1 rfl) ?_
      refine lv_iconst (v := nI 0) hx hb dX5_layGoes_12 (by decide) ?_
      refine fx_iast (ar := rI) hx hb hK hP hD hS 20 (f := (mixF (fun _ => 0) mgo i)) (k := i) (v := (nI 0)) rfl (by omega) (by decide) rfl dX5_layGoes_13 (fun H locs hP hD hS => ?_)
      have hP : va_P D vwCl (wM z cI cZ mn mi ms mtk mso mwh mfi mse mth mpu mno mlo mbe mre mis mca mpa mva mle mst mtn mln mne (va_up (mixF (fun _ => 0) mgo i) i (nI 0))) H := hP
      have hD : va_D A (wM z cI cZ mn mi ms mtk mso mwh mfi mse mth mpu mno mlo mbe mre mis mca mpa mva mle mst mtn mln mne (va_up (mixF (fun _ => 0) mgo i) i (nI 0))) := fx_D hD rfl
      refine lv_iinc (v := nI (i + 1)) (lv' := [(1, .int (nI (i + 1))), (0, .ref (z 0))]) hx hb dX5_layGoes_14 hl (k := 1) rfl (by exact nI_1 _) (by decide) rfl (fun ls hl => ?_)
      refine lv_goto (tgt := 2) hx hb dX5_layGoes_17 (by decide) ?_
      have e_14 : va_up (mixF (fun _ => 0) mgo i) i (nI 0) = mixF (fun _ => 0) mgo (i + 1) := by first | rfl | (exact mix_up _ _ _ _ rfl)
      exact ih_2 (i + 1) (by first | assumption | omega) (by omega) H locs (fx_Pe (w' := (wM z cI cZ mn mi ms mtk mso mwh mfi mse mth mpu mno mlo mbe mre mis mca mpa mva mle mst mtn mln mne (mixF (fun _ => 0) mgo (i + 1)))) hP (congrArg (fun w9 : Nat → Int32 => (wM z cI cZ mn mi ms mtk mso mwh mfi mse mth mpu mno mlo mbe mre mis mca mpa mva mle mst mtn mln mne w9)) e_14)) (fx_D hD rfl) hS ls (lv_sub hl [1, 0] rfl)
  have e_15 : mgo = mixF (fun _ => 0) mgo 0 := by first | rfl | (exact (mix_0 _ _).symm)
  exact L_2 (4 - 0 + 1) 0 (Nat.zero_le _) (Nat.lt_succ_self _) H locs (fx_Pe (w' := (wM z cI cZ mn mi ms mtk mso mwh mfi mse mth mpu mno mlo mbe mre mis mca mpa mva mle mst mtn mln mne (mixF (fun _ => 0) mgo 0))) hP (congrArg (fun w9 : Nat → Int32 => (wM z cI cZ mn mi ms mtk mso mwh mfi mse mth mpu mno mlo mbe mre mis mca mpa mva mle mst mtn mln mne w9)) e_15)) (fx_D hD rfl) hS ls (lv_sub hl [1, 0] rfl)
set_option maxHeartbeats 4000000 in
set_option maxRecDepth 100000 in
theorem c_X5_go_u (l : Launch) (D : va_G) (cI cJ cZ : ClassId) (z : Nat → Nat) (mn : Nat) (mi : Nat) (ms : Nat) (mtk : Nat) (mso : Nat → Nat) (mwh : Nat → Nat) (mfi : Nat → Nat) (mse : Nat → Nat) (mth : Nat → Nat) (mpu : Nat → Nat) (mno : Nat → Nat) (mlo : Nat → Nat) (mbe : Nat → Nat) (mre : Nat → Nat) (mis : Nat → Bool) (mca : Nat → Bool) (mpa : Nat → Nat) (mva : Nat → Nat) (mle : Nat → Nat) (mst : Nat → Bool) (mtn : Nat → Bool) (mln : Nat → Nat) (mne : Nat → Int32) (mgo : Nat → Int32) (x : Int32) (hl4 : isN 4 x = false) : Ct l D cI cJ cZ yX5_go wsX5_go ({ frames := 1, cells := 0, slots := 0, locals := 22 } : Room) 0 0 [.ref (z 0), .int x] (wM z cI cZ mn mi ms mtk mso mwh mfi mse mth mpu mno mlo mbe mre mis mca mpa mva mle mst mtn mln mne mgo) (S := Unit) (fun u => True) (fun u => some (.int (-1))) (fun u => (wM z cI cZ mn mi ms mtk mso mwh mfi mse mth mpu mno mlo mbe mre mis mca mpa mva mle mst mtn mln mne mgo)) := by
  refine Ct.ofW (cc := cX5_go) (maxL := 2) (ret := (some .int)) (R_C := RX5) (by decide +kernel) rfl rfl (Nat.le_of_ble_eq_true rfl) rfl ?_
  intro p e s m args below meth c A Q ls H locs hx hb hml hown hts hK hA hP hD hS hZ hl hri hrl hrv
  refine lv_iload_n hx hb dX5_go_0 rfl (lv_at hl 1 rfl) ?_
  refine lv_iconst (v := nI 0) hx hb dX5_go_1 (by decide) ?_
  refine lv_iconst (v := nI 3) hx hb dX5_go_2 (by decide) ?_
  refine fx_callS (As := [.int x, .int (nI 0), .int (nI 3)]) (rest := []) ⟨hx, hb, hml, hown, hts⟩ (c_X5_in l D cI cJ cZ (wM z cI cZ mn mi ms mtk mso mwh mfi mse mth mpu mno mlo mbe mre mis mca mpa mva mle mst mtn mln mne mgo) x (nI 0) (nI 3)) (va_cwS 3 hts gX5_go_X5_in rfl rfl rfl ks_X5_in ⟨Nat.le_of_ble_eq_true rfl, Nat.le_of_ble_eq_true rfl⟩) hK hP hD hS hA hZ rfl hl.1 rfl (lv_room (Nat.le_of_ble_eq_true rfl)) dX5_go_3 ⟨Nat.zero_le _, Nat.zero_le _⟩ (fun u_1 H locs hu_1 hP hD hS => ?_)
  refine lv_if_ne (tgt := 11) hx hb dX5_go_6 (by decide) (fun c_6 => ?_) (fun c_6 => ?_)
  · have f_6 : (inB x (nI 0) (nI 3)) = true := bI_n0.mp c_6
    exfalso; rw [inB_3, hl4] at f_6; cases f_6
  have f_6 : (inB x (nI 0) (nI 3)) = false := bI_0.mp c_6
  refine lv_iconst (v := (-1)) hx hb dX5_go_9 (by decide) ?_
  exact hri () _ H locs 10 ls .int rfl rfl trivial rfl hP hD hS dX5_go_10
set_option maxHeartbeats 4000000 in
set_option maxRecDepth 100000 in
theorem c_X5_go (l : Launch) (D : va_G) (cI cJ cZ : ClassId) (z : Nat → Nat) (mn : Nat) (mi : Nat) (ms : Nat) (mtk : Nat) (mso : Nat → Nat) (mwh : Nat → Nat) (mfi : Nat → Nat) (mse : Nat → Nat) (mth : Nat → Nat) (mpu : Nat → Nat) (mno : Nat → Nat) (mlo : Nat → Nat) (mbe : Nat → Nat) (mre : Nat → Nat) (mis : Nat → Bool) (mca : Nat → Bool) (mpa : Nat → Nat) (mva : Nat → Nat) (mle : Nat → Nat) (mst : Nat → Bool) (mtn : Nat → Bool) (mln : Nat → Nat) (mne : Nat → Int32) (mgo : Nat → Int32) (k : Nat) (hk : k < 4) : Ct l D cI cJ cZ yX5_go wsX5_go ({ frames := 1, cells := 0, slots := 0, locals := 23 } : Room) 0 0 [.ref (z 0), .int (nI k)] (wM z cI cZ mn mi ms mtk mso mwh mfi mse mth mpu mno mlo mbe mre mis mca mpa mva mle mst mtn mln mne mgo) (S := Unit) (fun u => True) (fun u => some (.int ((iterN (fun tt => gl2 mne tt 16) 8 (iterN (fun tt => gl1 mne tt 16) 4 (mixF (fun _ => 0) mgo 4))) k))) (fun u => (wM z cI cZ mn mi ms mtk mso mwh mfi mse mth mpu mno mlo mbe mre mis mca mpa mva mle mst mtn mln mne (iterN (fun tt => gl2 mne tt 16) 8 (iterN (fun tt => gl1 mne tt 16) 4 (mixF (fun _ => 0) mgo 4))))) := by
  refine Ct.ofW (cc := cX5_go) (maxL := 2) (ret := (some .int)) (R_C := RX5) (by decide +kernel) rfl rfl (Nat.le_of_ble_eq_true rfl) rfl ?_
  intro p e s m args below meth c A Q ls H locs hx hb hml hown hts hK hA hP hD hS hZ hl hri hrl hrv
  refine lv_iload_n hx hb dX5_go_0 rfl (lv_at hl 1 rfl) ?_
  refine lv_iconst (v := nI 0) hx hb dX5_go_1 (by decide) ?_
  refine lv_iconst (v := nI 3) hx hb dX5_go_2 (by decide) ?_
  refine fx_callS (As := [.int (nI k), .int (nI 0), .int (nI 3)]) (rest := []) ⟨hx, hb, hml, hown, hts⟩ (c_X5_in l D cI cJ cZ (wM z cI cZ mn mi ms mtk mso mwh mfi mse mth mpu mno mlo mbe mre mis mca mpa mva mle mst mtn mln mne mgo) (nI k) (nI 0) (nI 3)) (va_cwS 3 hts gX5_go_X5_in rfl rfl rfl ks_X5_in ⟨Nat.le_of_ble_eq_true rfl, Nat.le_of_ble_eq_true rfl⟩) hK hP hD hS hA hZ rfl hl.1 rfl (lv_room (Nat.le_of_ble_eq_true rfl)) dX5_go_3 ⟨Nat.zero_le _, Nat.zero_le _⟩ (fun u_1 H locs hu_1 hP hD hS => ?_)
  refine lv_if_ne (tgt := 11) hx hb dX5_go_6 (by decide) (fun c_6 => ?_) (fun c_6 => ?_)
  · have f_6 : (inB (nI k) (nI 0) (nI 3)) = true := bI_n0.mp c_6
    refine lv_aload_n hx hb dX5_go_11 rfl (lv_at hl 0 rfl) ?_
    refine fx_callV (As := []) (rest := []) ⟨hx, hb, hml, hown, hts⟩ (c_X5_layGoes l D cI cJ cZ z mn mi ms mtk mso mwh mfi mse mth mpu mno mlo mbe mre mis mca mpa mva mle mst mtn mln mne mgo) (cwV 0 hts gX5_go_X5_layGoes rfl rfl rfl kv_X5_layGoes ⟨Nat.le_of_ble_eq_true rfl, Nat.le_of_ble_eq_true rfl⟩) hK hP hD hS hA hZ 0 rfl rfl rfl rfl hl.1 rfl (lv_room (Nat.le_of_ble_eq_true rfl)) dX5_go_12 ⟨Nat.zero_le _, Nat.zero_le _⟩ (fun u_2 H locs hu_2 hP hD hS => ?_)
    have hP : va_P D vwCl (wM z cI cZ mn mi ms mtk mso mwh mfi mse mth mpu mno mlo mbe mre mis mca mpa mva mle mst mtn mln mne (iterN (fun tt => gl2 mne tt 16) 8 (iterN (fun tt => gl1 mne tt 16) 4 (mixF (fun _ => 0) mgo 4)))) H := hP
    have hD : va_D A (wM z cI cZ mn mi ms mtk mso mwh mfi mse mth mpu mno mlo mbe mre mis mca mpa mva mle mst mtn mln mne (iterN (fun tt => gl2 mne tt 16) 8 (iterN (fun tt => gl1 mne tt 16) 4 (mixF (fun _ => 0) mgo 4)))) := fx_D hD rfl
    refine lv_aload_n hx hb dX5_go_15 rfl (lv_at hl 0 rfl) ?_
    refine va_get (D := D) (ci := 5) (v := .ref (z 20)) (C := RX5) (T := TX5) (N := 24) hx hb hts (fun w h => List.mem_cons_of_mem _ (List.mem_append_right _ h)) hown hK hP 0 rfl rfl 23 (by decide) (hts (.fieldLink RX5 68 "FirstStatesModel" "goes" "[I") (List.mem_of_getElem? (i := 1) rfl)) (fun _ h9 => h9) rfl dX5_go_16 ?_
    refine lv_iload_n hx hb dX5_go_19 rfl (lv_at hl 1 rfl) ?_
    refine fx_iald (ar := rI) hx hb hK hP 20 (f := (iterN (fun tt => gl2 mne tt 16) 8 (iterN (fun tt => gl1 mne tt 16) 4 (mixF (fun _ => 0) mgo 4)))) (k := k) rfl (by omega) (by decide) dX5_go_20 ?_
    exact hri () _ H locs 21 ls .int rfl rfl trivial rfl hP hD hS dX5_go_21
  have f_6 : (inB (nI k) (nI 0) (nI 3)) = false := bI_0.mp c_6
  exfalso; rw [inB_nI (by omega) (by omega) (by omega)] at f_6; simp at f_6; omega
set_option maxHeartbeats 4000000 in
set_option maxRecDepth 100000 in
theorem c_X5_gone_o (l : Launch) (D : va_G) (cI cJ cZ : ClassId) (z : Nat → Nat) (mn : Nat) (mi : Nat) (ms : Nat) (mtk : Nat) (mso : Nat → Nat) (mwh : Nat → Nat) (mfi : Nat → Nat) (mse : Nat → Nat) (mth : Nat → Nat) (mpu : Nat → Nat) (mno : Nat → Nat) (mlo : Nat → Nat) (mbe : Nat → Nat) (mre : Nat → Nat) (mis : Nat → Bool) (mca : Nat → Bool) (mpa : Nat → Nat) (mva : Nat → Nat) (mle : Nat → Nat) (mst : Nat → Bool) (mtn : Nat → Bool) (mln : Nat → Nat) (mne : Nat → Int32) (mgo : Nat → Int32) (x : Int32) (hx0 : x < 0) : Ct l D cI cJ cZ yX5_gone wsX5_gone ({ frames := 0, cells := 0, slots := 0, locals := 0 } : Room) 0 0 [.ref (z 0), .int x] (wM z cI cZ mn mi ms mtk mso mwh mfi mse mth mpu mno mlo mbe mre mis mca mpa mva mle mst mtn mln mne mgo) (S := Unit) (fun u => True) (fun u => some (.int (-2))) (fun u => (wM z cI cZ mn mi ms mtk mso mwh mfi mse mth mpu mno mlo mbe mre mis mca mpa mva mle mst mtn mln mne mgo)) := by
  refine Ct.ofW (cc := cX5_gone) (maxL := 4) (ret := (some .int)) (R_C := RX5) (by decide +kernel) rfl rfl (Nat.le_of_ble_eq_true rfl) rfl ?_
  intro p e s m args below meth c A Q ls H locs hx hb hml hown hts hK hA hP hD hS hZ hl hri hrl hrv
  refine lv_iload_n hx hb dX5_gone_0 rfl (lv_at hl 1 rfl) ?_
  refine lv_if_ge (tgt := 7) hx hb dX5_gone_1 (by decide) (fun c_1 => ?_) (fun c_1 => ?_)
  · exfalso; exact absurd hx0 (Int32.not_lt.mpr c_1)
  refine lv_bipush (v := (-2)) hx hb dX5_gone_4 (by decide) ?_
  exact hri () _ H locs 6 ls .int rfl rfl trivial rfl hP hD hS dX5_gone_6
set_option maxHeartbeats 4000000 in
set_option maxRecDepth 100000 in
theorem c_X5_gone (l : Launch) (D : va_G) (cI cJ cZ : ClassId) (z : Nat → Nat) (mn : Nat) (mi : Nat) (ms : Nat) (mtk : Nat) (mso : Nat → Nat) (mwh : Nat → Nat) (mfi : Nat → Nat) (mse : Nat → Nat) (mth : Nat → Nat) (mpu : Nat → Nat) (mno : Nat → Nat) (mlo : Nat → Nat) (mbe : Nat → Nat) (mre : Nat → Nat) (mis : Nat → Bool) (mca : Nat → Bool) (mpa : Nat → Nat) (mva : Nat → Nat) (mle : Nat → Nat) (mst : Nat → Bool) (mtn : Nat → Bool) (mln : Nat → Nat) (mne : Nat → Int32) (mgo : Nat → Int32) (x : Int32) (hx0 : ¬ x < 0) : Ct l D cI cJ cZ yX5_gone wsX5_gone ({ frames := 1, cells := 0, slots := 0, locals := 23 } : Room) 0 0 [.ref (z 0), .int x] (wM z cI cZ mn mi ms mtk mso mwh mfi mse mth mpu mno mlo mbe mre mis mca mpa mva mle mst mtn mln mne mgo) (S := Unit) (fun u => True) (fun u => some (.int (nI (ct (goneP (iterN (fun tt => gl2 mne tt 16) 8 (iterN (fun tt => gl1 mne tt 16) 4 (mixF (fun _ => 0) mgo 4))) x) 4)))) (fun u => (wM z cI cZ mn mi ms mtk mso mwh mfi mse mth mpu mno mlo mbe mre mis mca mpa mva mle mst mtn mln mne (iterN (fun tt => gl2 mne tt 16) 8 (iterN (fun tt => gl1 mne tt 16) 4 (mixF (fun _ => 0) mgo 4))))) := by
  refine Ct.ofW (cc := cX5_gone) (maxL := 4) (ret := (some .int)) (R_C := RX5) (by decide +kernel) rfl rfl (Nat.le_of_ble_eq_true rfl) rfl ?_
  intro p e s m args below meth c A Q ls H locs hx hb hml hown hts hK hA hP hD hS hZ hl hri hrl hrv
  refine lv_iload_n hx hb dX5_gone_0 rfl (lv_at hl 1 rfl) ?_
  refine lv_if_ge (tgt := 7) hx hb dX5_gone_1 (by decide) (fun c_1 => ?_) (fun c_1 => ?_)
  · refine lv_aload_n hx hb dX5_gone_7 rfl (lv_at hl 0 rfl) ?_
    refine fx_callV (As := []) (rest := []) ⟨hx, hb, hml, hown, hts⟩ (c_X5_layGoes l D cI cJ cZ z mn mi ms mtk mso mwh mfi mse mth mpu mno mlo mbe mre mis mca mpa mva mle mst mtn mln mne mgo) (cwV 0 hts gX5_gone_X5_layGoes rfl rfl rfl kv_X5_layGoes ⟨Nat.le_of_ble_eq_true rfl, Nat.le_of_ble_eq_true rfl⟩) hK hP hD hS hA hZ 0 rfl rfl rfl rfl hl.1 rfl (lv_room (Nat.le_of_ble_eq_true rfl)) dX5_gone_8 ⟨Nat.zero_le _, Nat.zero_le _⟩ (fun u_1 H locs hu_1 hP hD hS => ?_)
    have hP : va_P D vwCl (wM z cI cZ mn mi ms mtk mso mwh mfi mse mth mpu mno mlo mbe mre mis mca mpa mva mle mst mtn mln mne (iterN (fun tt => gl2 mne tt 16) 8 (iterN (fun tt => gl1 mne tt 16) 4 (mixF (fun _ => 0) mgo 4)))) H := hP
    have hD : va_D A (wM z cI cZ mn mi ms mtk mso mwh mfi mse mth mpu mno mlo mbe mre mis mca mpa mva mle mst mtn mln mne (iterN (fun tt => gl2 mne tt 16) 8 (iterN (fun tt => gl1 mne tt 16) 4 (mixF (fun _ => 0) mgo 4)))) := fx_D hD rfl
    refine lv_iconst (v := nI 0) hx hb dX5_gone_11 (by decide) ?_
    refine lv_istore_n (lv' := [(2, .int (nI 0)), (0, .ref (z 0)), (1, .int x)]) hx hb dX5_gone_12 rfl hl (by decide) rfl (fun ls hl => ?_)
    refine lv_iconst (v := nI 0) hx hb dX5_gone_13 (by decide) ?_
    refine lv_istore_n (lv' := [(3, .int (nI 0)), (2, .int (nI 0)), (0, .ref (z 0)), (1, .int x)]) hx hb dX5_gone_14 rfl hl (by decide) rfl (fun ls hl => ?_)
    have L_15 : ∀ (fuel : Nat) (i : Nat) (hi : i ≤ 4) (hfu : 4 - i < fuel) (H : Heap) (locs : List Loc), va_P D vwCl (wM z cI cZ mn mi ms mtk mso mwh mfi mse mth mpu mno mlo mbe mre mis mca mpa mva mle mst mtn mln mne (iterN (fun tt => gl2 mne tt 16) 8 (iterN (fun tt => gl1 mne tt 16) 4 (mixF (fun _ => 0) mgo 4)))) H → va_D A (wM z cI cZ mn mi ms mtk mso mwh mfi mse mth mpu mno mlo mbe mre mis mca mpa mva mle mst mtn mln mne (iterN (fun tt => gl2 mne tt 16) 8 (iterN (fun tt => gl1 mne tt 16) 4 (mixF (fun _ => 0) mgo 4)))) → va_S A s.heap H locs → ∀ ls : Array Slot, lv_has ls 4 [(0, .ref (z 0)), (1, .int x), (2, .int (nI (ct (goneP (iterN (fun tt => gl2 mne tt 16) 8 (iterN (fun tt => gl1 mne tt 16) 4 (mixF (fun _ => 0) mgo 4))) x) i))), (3, .int (nI i))] → W p l e ({ frames := 1, cells := 0, slots := 0, locals := 23 } : Room) s m args below meth c H locs 0 0 Q (F0 m 15 ls []) := by
      intro fuel
      induction fuel with
      | zero => intro i hi hfu; exact absurd hfu (Nat.not_lt_zero _)
      | succ fuel ih_15 =>
        intro i hi hfu H locs hP hD hS ls hl
        refine lv_iload_n hx hb dX5_gone_15 rfl (lv_at hl 3 rfl) ?_
        refine lv_iconst (v := nI 4) hx hb dX5_gone_16 (by decide) ?_
        refine lv_icmp_ge (tgt := 55) hx hb dX5_gone_17 (by decide) (fun c_17 => ?_) (fun c_17 => ?_)
        · have f_17 : 4 ≤ i := (nI_leI (a := 4) (b := i) (by first | omega | exact b_and1 _ | exact b_ct _ _ (by omega) | exact b_andr _ (by omega)) (by first | omega | exact b_and1 _ | exact b_ct _ _ (by omega) | exact b_andr _ (by omega))).mp c_17
          refine lv_iload_n hx hb dX5_gone_55 rfl (lv_at hl 2 rfl) ?_
          exact hri () _ H locs 56 ls .int rfl rfl trivial (by rw [show i = 4 by omega]) hP hD hS dX5_gone_56
        have f_17 : ¬ 4 ≤ i := fun h => c_17 ((nI_leI (a := 4) (b := i) (by first | omega | exact b_and1 _ | exact b_ct _ _ (by omega) | exact b_andr _ (by omega)) (by first | omega | exact b_and1 _ | exact b_ct _ _ (by omega) | exact b_andr _ (by omega))).mpr h)
        refine lv_iload_n hx hb dX5_gone_20 rfl (lv_at hl 2 rfl) ?_
        refine lv_aload_n hx hb dX5_gone_21 rfl (lv_at hl 0 rfl) ?_
        refine va_get (D := D) (ci := 5) (v := .ref (z 20)) (C := RX5) (T := TX5) (N := 24) hx hb hts (fun w h => List.mem_cons_of_mem _ (List.mem_append_right _ h)) hown hK hP 0 rfl rfl 23 (by decide) (hts (.fieldLink RX5 68 "FirstStatesModel" "goes" "[I") (List.mem_of_getElem? (i := 1) rfl)) (fun _ h9 => h9) rfl dX5_gone_22 ?_
        refine lv_iload_n hx hb dX5_gone_25 rfl (lv_at hl 3 rfl) ?_
        refine fx_iald (ar := rI) hx hb hK hP 20 (f := (iterN (fun tt => gl2 mne tt 16) 8 (iterN (fun tt => gl1 mne tt 16) 4 (mixF (fun _ => 0) mgo 4)))) (k := i) rfl (by omega) (by decide) dX5_gone_26 ?_
        refine lv_bipush (v := (-9)) hx hb dX5_gone_27 (by decide) ?_
        refine lv_icmp_eq (tgt := 46) hx hb dX5_gone_29 (by decide) (fun c_29 => ?_) (fun c_29 => ?_)
        · refine lv_iconst (v := nI 0) hx hb dX5_gone_46 (by decide) ?_
          refine lv_iadd hx hb dX5_gone_47 ?_
          refine fx_eqi (nI_add _ _) ?_
          refine lv_istore_n (lv' := [(2, .int (nI ((ct (goneP (iterN (fun tt => gl2 mne tt 16) 8 (iterN (fun tt => gl1 mne tt 16) 4 (mixF (fun _ => 0) mgo 4))) x) i) + 0))), (0, .ref (z 0)), (1, .int x), (3, .int (nI i))]) hx hb dX5_gone_48 rfl hl (by decide) rfl (fun ls hl => ?_)
          refine lv_iinc (v := nI (i + 1)) (lv' := [(3, .int (nI (i + 1))), (2, .int (nI ((ct (goneP (iterN (fun tt => gl2 mne tt 16) 8 (iterN (fun tt => gl1 mne tt 16) 4 (mixF (fun _ => 0) mgo 4))) x) i) + 0))), (0, .ref (z 0)), (1, .int x)]) hx hb dX5_gone_49 hl (k := 3) rfl (by exact nI_1 _) (by decide) rfl (fun ls hl => ?_)
          refine lv_goto (tgt := 15) hx hb dX5_gone_52 (by decide) ?_
          have e_2 : nI ((ct (goneP (iterN (fun tt => gl2 mne tt 16) 8 (iterN (fun tt => gl1 mne tt 16) 4 (mixF (fun _ => 0) mgo 4))) x) i) + 0) = nI (ct (goneP (iterN (fun tt => gl2 mne tt 16) 8 (iterN (fun tt => gl1 mne tt 16) 4 (mixF (fun _ => 0) mgo 4))) x) (i + 1)) := by first | rfl | (simp [ct, goneP, c_29])
          exact ih_15 (i + 1) (by first | assumption | omega) (by omega) H locs hP hD hS ls (lv_sub (fx_hl (l' := [(3, .int (nI (i + 1))), (2, .int (nI (ct (goneP (iterN (fun tt => gl2 mne tt 16) 8 (iterN (fun tt => gl1 mne tt 16) 4 (mixF (fun _ => 0) mgo 4))) x) (i + 1)))), (0, .ref (z 0)), (1, .int x)]) hl (congrArg (fun w9 : Int32 => ([(3, .int (nI (i + 1))), (2, .int w9), (0, .ref (z 0)), (1, .int x)] : List (Nat × Value))) e_2)) [2, 3, 1, 0] rfl)
        refine lv_aload_n hx hb dX5_gone_32 rfl (lv_at hl 0 rfl) ?_
        refine va_get (D := D) (ci := 5) (v := .ref (z 20)) (C := RX5) (T := TX5) (N := 24) hx hb hts (fun w h => List.mem_cons_of_mem _ (List.mem_append_right _ h)) hown hK hP 0 rfl rfl 23 (by decide) (hts (.fieldLink RX5 68 "FirstStatesModel" "goes" "[I") (List.mem_of_getElem? (i := 1) rfl)) (fun _ h9 => h9) rfl dX5_gone_33 ?_
        refine lv_iload_n hx hb dX5_gone_36 rfl (lv_at hl 3 rfl) ?_
        refine fx_iald (ar := rI) hx hb hK hP 20 (f := (iterN (fun tt => gl2 mne tt 16) 8 (iterN (fun tt => gl1 mne tt 16) 4 (mixF (fun _ => 0) mgo 4)))) (k := i) rfl (by omega) (by decide) dX5_gone_37 ?_
        refine lv_iload_n hx hb dX5_gone_38 rfl (lv_at hl 1 rfl) ?_
        refine lv_icmp_gt (tgt := 46) hx hb dX5_gone_39 (by decide) (fun c_39 => ?_) (fun c_39 => ?_)
        · refine lv_iconst (v := nI 0) hx hb dX5_gone_46 (by decide) ?_
          refine lv_iadd hx hb dX5_gone_47 ?_
          refine fx_eqi (nI_add _ _) ?_
          refine lv_istore_n (lv' := [(2, .int (nI ((ct (goneP (iterN (fun tt => gl2 mne tt 16) 8 (iterN (fun tt => gl1 mne tt 16) 4 (mixF (fun _ => 0) mgo 4))) x) i) + 0))), (0, .ref (z 0)), (1, .int x), (3, .int (nI i))]) hx hb dX5_gone_48 rfl hl (by decide) rfl (fun ls hl => ?_)
          refine lv_iinc (v := nI (i + 1)) (lv' := [(3, .int (nI (i + 1))), (2, .int (nI ((ct (goneP (iterN (fun tt => gl2 mne tt 16) 8 (iterN (fun tt => gl1 mne tt 16) 4 (mixF (fun _ => 0) mgo 4))) x) i) + 0))), (0, .ref (z 0)), (1, .int x)]) hx hb dX5_gone_49 hl (k := 3) rfl (by exact nI_1 _) (by decide) rfl (fun ls hl => ?_)
          refine lv_goto (tgt := 15) hx hb dX5_gone_52 (by decide) ?_
          have e_3 : nI ((ct (goneP (iterN (fun tt => gl2 mne tt 16) 8 (iterN (fun tt => gl1 mne tt 16) 4 (mixF (fun _ => 0) mgo 4))) x) i) + 0) = nI (ct (goneP (iterN (fun tt => gl2 mne tt 16) 8 (iterN (fun tt => gl1 mne tt 16) 4 (mixF (fun _ => 0) mgo 4))) x) (i + 1)) := by first | rfl | (simp [ct, goneP, c_29, c_39])
          exact ih_15 (i + 1) (by first | assumption | omega) (by omega) H locs hP hD hS ls (lv_sub (fx_hl (l' := [(3, .int (nI (i + 1))), (2, .int (nI (ct (goneP (iterN (fun tt => gl2 mne tt 16) 8 (iterN (fun tt => gl1 mne tt 16) 4 (mixF (fun _ => 0) mgo 4))) x) (i + 1)))), (0, .ref (z 0)), (1, .int x)]) hl (congrArg (fun w9 : Int32 => ([(3, .int (nI (i + 1))), (2, .int w9), (0, .ref (z 0)), (1, .int x)] : List (Nat × Value))) e_3)) [2, 3, 1, 0] rfl)
        refine lv_iconst (v := nI 1) hx hb dX5_gone_42 (by decide) ?_
        refine lv_goto (tgt := 47) hx hb dX5_gone_43 (by decide) ?_
        refine lv_iadd hx hb dX5_gone_47 ?_
        refine fx_eqi (nI_add _ _) ?_
        refine lv_istore_n (lv' := [(2, .int (nI ((ct (goneP (iterN (fun tt => gl2 mne tt 16) 8 (iterN (fun tt => gl1 mne tt 16) 4 (mixF (fun _ => 0) mgo 4))) x) i) + 1))), (0, .ref (z 0)), (1, .int x), (3, .int (nI i))]) hx hb dX5_gone_48 rfl hl (by decide) rfl (fun ls hl => ?_)
        refine lv_iinc (v := nI (i + 1)) (lv' := [(3, .int (nI (i + 1))), (2, .int (nI ((ct (goneP (iterN (fun tt => gl2 mne tt 16) 8 (iterN (fun tt => gl1 mne tt 16) 4 (mixF (fun _ => 0) mgo 4))) x) i) + 1))), (0, .ref (z 0)), (1, .int x)]) hx hb dX5_gone_49 hl (k := 3) rfl (by exact nI_1 _) (by decide) rfl (fun ls hl => ?_)
        refine lv_goto (tgt := 15) hx hb dX5_gone_52 (by decide) ?_
        have e_4 : nI ((ct (goneP (iterN (fun tt => gl2 mne tt 16) 8 (iterN (fun tt => gl1 mne tt 16) 4 (mixF (fun _ => 0) mgo 4))) x) i) + 1) = nI (ct (goneP (iterN (fun tt => gl2 mne tt 16) 8 (iterN (fun tt => gl1 mne tt 16) 4 (mixF (fun _ => 0) mgo 4))) x) (i + 1)) := by first | rfl | (simp [ct, goneP, c_29, c_39])
        exact ih_15 (i + 1) (by first | assumption | omega) (by omega) H locs hP hD hS ls (lv_sub (fx_hl (l' := [(3, .int (nI (i + 1))), (2, .int (nI (ct (goneP (iterN (fun tt => gl2 mne tt 16) 8 (iterN (fun tt => gl1 mne tt 16) 4 (mixF (fun _ => 0) mgo 4))) x) (i + 1)))), (0, .ref (z 0)), (1, .int x)]) hl (congrArg (fun w9 : Int32 => ([(3, .int (nI (i + 1))), (2, .int w9), (0, .ref (z 0)), (1, .int x)] : List (Nat × Value))) e_4)) [2, 3, 1, 0] rfl)
    exact L_15 (4 - 0 + 1) 0 (Nat.zero_le _) (Nat.lt_succ_self _) H locs hP hD hS ls (lv_sub hl [2, 3, 1, 0] rfl)
  exfalso; exact hx0 (Int32.not_le.mp c_1)
set_option maxHeartbeats 4000000 in
set_option maxRecDepth 100000 in
theorem c_X5_count_o (l : Launch) (D : va_G) (cI cJ cZ : ClassId) (z : Nat → Nat) (mn : Nat) (mi : Nat) (ms : Nat) (mtk : Nat) (mso : Nat → Nat) (mwh : Nat → Nat) (mfi : Nat → Nat) (mse : Nat → Nat) (mth : Nat → Nat) (mpu : Nat → Nat) (mno : Nat → Nat) (mlo : Nat → Nat) (mbe : Nat → Nat) (mre : Nat → Nat) (mis : Nat → Bool) (mca : Nat → Bool) (mpa : Nat → Nat) (mva : Nat → Nat) (mle : Nat → Nat) (mst : Nat → Bool) (mtn : Nat → Bool) (mln : Nat → Nat) (mne : Nat → Int32) (mgo : Nat → Int32) (x : Int32) (hxx : x.toInt < 0 ∨ 5 < x.toInt) : Ct l D cI cJ cZ yX5_count wsX5_count ({ frames := 0, cells := 0, slots := 0, locals := 0 } : Room) 0 0 [.ref (z 0), .int x] (wM z cI cZ mn mi ms mtk mso mwh mfi mse mth mpu mno mlo mbe mre mis mca mpa mva mle mst mtn mln mne mgo) (S := Unit) (fun u => True) (fun u => some (.int (-2))) (fun u => (wM z cI cZ mn mi ms mtk mso mwh mfi mse mth mpu mno mlo mbe mre mis mca mpa mva mle mst mtn mln mne mgo)) := by
  refine Ct.ofW (cc := cX5_count) (maxL := 4) (ret := (some .int)) (R_C := RX5) (by decide +kernel) rfl rfl (Nat.le_of_ble_eq_true rfl) rfl ?_
  intro p e s m args below meth c A Q ls H locs hx hb hml hown hts hK hA hP hD hS hZ hl hri hrl hrv
  refine lv_iconst (v := nI 0) hx hb dX5_count_0 (by decide) ?_
  refine lv_istore_n (lv' := [(2, .int (nI 0)), (0, .ref (z 0)), (1, .int x)]) hx hb dX5_count_1 rfl hl (by decide) rfl (fun ls hl => ?_)
  refine lv_iload_n hx hb dX5_count_2 rfl (lv_at hl 2 rfl) ?_
  refine lv_tableOut (tgt := 127) hx hb dX5_count_3 hxx (by decide) ?_
  refine lv_bipush (v := (-2)) hx hb dX5_count_127 (by decide) ?_
  exact hri () _ H locs 129 ls .int rfl rfl trivial rfl hP hD hS dX5_count_129
set_option maxHeartbeats 4000000 in
set_option maxRecDepth 100000 in
theorem c_X5_count (l : Launch) (D : va_G) (cI cJ cZ : ClassId) (z : Nat → Nat) (mn : Nat) (mi : Nat) (ms : Nat) (mtk : Nat) (mso : Nat → Nat) (mwh : Nat → Nat) (mfi : Nat → Nat) (mse : Nat → Nat) (mth : Nat → Nat) (mpu : Nat → Nat) (mno : Nat → Nat) (mlo : Nat → Nat) (mbe : Nat → Nat) (mre : Nat → Nat) (mis : Nat → Bool) (mca : Nat → Bool) (mpa : Nat → Nat) (mva : Nat → Nat) (mle : Nat → Nat) (mst : Nat → Bool) (mtn : Nat → Bool) (mln : Nat → Nat) (mne : Nat → Int32) (mgo : Nat → Int32) (k : Nat) (hk : k ≤ 5) : Ct l D cI cJ cZ yX5_count wsX5_count ({ frames := 0, cells := 0, slots := 0, locals := 0 } : Room) 0 0 [.ref (z 0), .int (nI k)] (wM z cI cZ mn mi ms mtk mso mwh mfi mse mth mpu mno mlo mbe mre mis mca mpa mva mle mst mtn mln mne mgo) (S := Unit) (fun u => True) (fun u => some (.int (if k = 0 then nI mn else if k = 1 then nI ms else if k = 2 then nI mi else if k = 3 then nI mtk else if k = 4 then nI (ct mis 4) else nI (ct (fun jj => !decide (mne jj = (-9))) 16)))) (fun u => (wM z cI cZ mn mi ms mtk mso mwh mfi mse mth mpu mno mlo mbe mre mis mca mpa mva mle mst mtn mln mne mgo)) := by
  refine Ct.ofW (cc := cX5_count) (maxL := 4) (ret := (some .int)) (R_C := RX5) (by decide +kernel) rfl rfl (Nat.le_of_ble_eq_true rfl) rfl ?_
  intro p e s m args below meth c A Q ls H locs hx hb hml hown hts hK hA hP hD hS hZ hl hri hrl hrv
  refine lv_iconst (v := nI 0) hx hb dX5_count_0 (by decide) ?_
  refine lv_istore_n (lv' := [(2, .int (nI 0)), (0, .ref (z 0)), (1, .int (nI k))]) hx hb dX5_count_1 rfl hl (by decide) rfl (fun ls hl => ?_)
  refine lv_iload_n hx hb dX5_count_2 rfl (lv_at hl 2 rfl) ?_
  have h_3 : k = 0 ∨ k = 1 ∨ k = 2 ∨ k = 3 ∨ k = 4 ∨ k = 5 := by omega
  rcases h_3 with h_3 | h_3 | h_3 | h_3 | h_3 | h_3
  · refine lv_tableIn (off := 37) (tgt := 40) hx hb dX5_count_3 (by rw [h_3]; decide) (by rw [h_3]; decide) (by rw [h_3]; decide) (by decide) ?_
    refine lv_aload_n hx hb dX5_count_40 rfl (lv_at hl 1 rfl) ?_
    refine va_get (D := D) (ci := 5) (v := .int (nI mn)) (C := RX5) (T := TX5) (N := 24) hx hb hts (fun w h => List.mem_cons_of_mem _ (List.mem_append_right _ h)) hown hK hP 0 rfl rfl 0 (by decide) (hts (.fieldLink RX5 74 "FirstStatesModel" "nodes" "I") (List.mem_of_getElem? (i := 1) rfl)) (fun _ h9 => h9) rfl dX5_count_41 ?_
    exact hri () _ H locs 44 ls .int rfl rfl trivial (by simp [h_3]) hP hD hS dX5_count_44
  · refine lv_tableIn (off := 42) (tgt := 45) hx hb dX5_count_3 (by rw [h_3]; decide) (by rw [h_3]; decide) (by rw [h_3]; decide) (by decide) ?_
    refine lv_aload_n hx hb dX5_count_45 rfl (lv_at hl 1 rfl) ?_
    refine va_get (D := D) (ci := 5) (v := .int (nI ms)) (C := RX5) (T := TX5) (N := 24) hx hb hts (fun w h => List.mem_cons_of_mem _ (List.mem_append_right _ h)) hown hK hP 0 rfl rfl 8 (by decide) (hts (.fieldLink RX5 85 "FirstStatesModel" "stores" "I") (List.mem_of_getElem? (i := 2) rfl)) (fun _ h9 => h9) rfl dX5_count_46 ?_
    exact hri () _ H locs 49 ls .int rfl rfl trivial (by simp [h_3]) hP hD hS dX5_count_49
  · refine lv_tableIn (off := 47) (tgt := 50) hx hb dX5_count_3 (by rw [h_3]; decide) (by rw [h_3]; decide) (by rw [h_3]; decide) (by decide) ?_
    refine lv_aload_n hx hb dX5_count_50 rfl (lv_at hl 1 rfl) ?_
    refine va_get (D := D) (ci := 5) (v := .int (nI mi)) (C := RX5) (T := TX5) (N := 24) hx hb hts (fun w h => List.mem_cons_of_mem _ (List.mem_append_right _ h)) hown hK hP 0 rfl rfl 6 (by decide) (hts (.fieldLink RX5 88 "FirstStatesModel" "inputs" "I") (List.mem_of_getElem? (i := 3) rfl)) (fun _ h9 => h9) rfl dX5_count_51 ?_
    exact hri () _ H locs 54 ls .int rfl rfl trivial (by simp [h_3]) hP hD hS dX5_count_54
  · refine lv_tableIn (off := 52) (tgt := 55) hx hb dX5_count_3 (by rw [h_3]; decide) (by rw [h_3]; decide) (by rw [h_3]; decide) (by decide) ?_
    refine lv_aload_n hx hb dX5_count_55 rfl (lv_at hl 1 rfl) ?_
    refine va_get (D := D) (ci := 5) (v := .int (nI mtk)) (C := RX5) (T := TX5) (N := 24) hx hb hts (fun w h => List.mem_cons_of_mem _ (List.mem_append_right _ h)) hown hK hP 0 rfl rfl 14 (by decide) (hts (.fieldLink RX5 82 "FirstStatesModel" "ticks" "I") (List.mem_of_getElem? (i := 4) rfl)) (fun _ h9 => h9) rfl dX5_count_56 ?_
    exact hri () _ H locs 59 ls .int rfl rfl trivial (by simp [h_3]) hP hD hS dX5_count_59
  · refine lv_tableIn (off := 57) (tgt := 60) hx hb dX5_count_3 (by rw [h_3]; decide) (by rw [h_3]; decide) (by rw [h_3]; decide) (by decide) ?_
    refine lv_iconst (v := nI 0) hx hb dX5_count_60 (by decide) ?_
    refine lv_istore_n (lv' := [(3, .int (nI 0)), (2, .int (nI 0)), (0, .ref (z 0)), (1, .int (nI k))]) hx hb dX5_count_61 rfl hl (by decide) rfl (fun ls hl => ?_)
    have L_62 : ∀ (fuel : Nat) (i : Nat) (hi : i ≤ 4) (hfu : 4 - i < fuel) (H : Heap) (locs : List Loc), va_P D vwCl (wM z cI cZ mn mi ms mtk mso mwh mfi mse mth mpu mno mlo mbe mre mis mca mpa mva mle mst mtn mln mne mgo) H → va_D A (wM z cI cZ mn mi ms mtk mso mwh mfi mse mth mpu mno mlo mbe mre mis mca mpa mva mle mst mtn mln mne mgo) → va_S A s.heap H locs → ∀ ls : Array Slot, lv_has ls 4 [(0, .ref (z 0)), (2, .int (nI (ct mis i))), (3, .int (nI i))] → W p l e ({ frames := 0, cells := 0, slots := 0, locals := 0 } : Room) s m args below meth c H locs 0 0 Q (F0 m 62 ls []) := by
      intro fuel
      induction fuel with
      | zero => intro i hi hfu; exact absurd hfu (Nat.not_lt_zero _)
      | succ fuel ih_62 =>
        intro i hi hfu H locs hP hD hS ls hl
        refine lv_iload_n hx hb dX5_count_62 rfl (lv_at hl 2 rfl) ?_
        refine lv_iconst (v := nI 4) hx hb dX5_count_63 (by decide) ?_
        refine lv_icmp_ge (tgt := 90) hx hb dX5_count_64 (by decide) (fun c_64 => ?_) (fun c_64 => ?_)
        · have f_64 : 4 ≤ i := (nI_leI (a := 4) (b := i) (by first | omega | exact b_and1 _ | exact b_ct _ _ (by omega) | exact b_andr _ (by omega)) (by first | omega | exact b_and1 _ | exact b_ct _ _ (by omega) | exact b_andr _ (by omega))).mp c_64
          refine lv_iload_n hx hb dX5_count_90 rfl (lv_at hl 1 rfl) ?_
          exact hri () _ H locs 91 ls .int rfl rfl trivial (by rw [h_3, show i = 4 by omega]; rfl) hP hD hS dX5_count_91
        have f_64 : ¬ 4 ≤ i := fun h => c_64 ((nI_leI (a := 4) (b := i) (by first | omega | exact b_and1 _ | exact b_ct _ _ (by omega) | exact b_andr _ (by omega)) (by first | omega | exact b_and1 _ | exact b_ct _ _ (by omega) | exact b_andr _ (by omega))).mpr h)
        refine lv_iload_n hx hb dX5_count_67 rfl (lv_at hl 1 rfl) ?_
        refine lv_aload_n hx hb dX5_count_68 rfl (lv_at hl 0 rfl) ?_
        refine va_get (D := D) (ci := 5) (v := .ref (z 11)) (C := RX5) (T := TX5) (N := 24) hx hb hts (fun w h => List.mem_cons_of_mem _ (List.mem_append_right _ h)) hown hK hP 0 rfl rfl 13 (by decide) (hts (.fieldLink RX5 40 "FirstStatesModel" "isOn" "[Z") (List.mem_of_getElem? (i := 5) rfl)) (fun _ h9 => h9) rfl dX5_count_69 ?_
        refine lv_iload_n hx hb dX5_count_72 rfl (lv_at hl 2 rfl) ?_
        refine fx_zald (ar := bI) hx hb hK hP 11 (f := mis) (k := i) rfl (by omega) (by decide) dX5_count_73 ?_
        refine lv_if_eq (tgt := 81) hx hb dX5_count_74 (by decide) (fun c_74 => ?_) (fun c_74 => ?_)
        · have f_74 : (mis i) = false := bI_0.mp c_74
          refine lv_iconst (v := nI 0) hx hb dX5_count_81 (by decide) ?_
          refine lv_iadd hx hb dX5_count_82 ?_
          refine fx_eqi (nI_add _ _) ?_
          refine lv_istore_n (lv' := [(2, .int (nI ((ct mis i) + 0))), (0, .ref (z 0)), (3, .int (nI i))]) hx hb dX5_count_83 rfl hl (by decide) rfl (fun ls hl => ?_)
          refine lv_iinc (v := nI (i + 1)) (lv' := [(3, .int (nI (i + 1))), (2, .int (nI ((ct mis i) + 0))), (0, .ref (z 0))]) hx hb dX5_count_84 hl (k := 2) rfl (by exact nI_1 _) (by decide) rfl (fun ls hl => ?_)
          refine lv_goto (tgt := 62) hx hb dX5_count_87 (by decide) ?_
          have e_1 : nI ((ct mis i) + 0) = nI (ct mis (i + 1)) := by first | rfl | (simp [ct, f_74])
          exact ih_62 (i + 1) (by first | assumption | omega) (by omega) H locs hP hD hS ls (lv_sub (fx_hl (l' := [(3, .int (nI (i + 1))), (2, .int (nI (ct mis (i + 1)))), (0, .ref (z 0))]) hl (congrArg (fun w9 : Int32 => ([(3, .int (nI (i + 1))), (2, .int w9), (0, .ref (z 0))] : List (Nat × Value))) e_1)) [2, 1, 0] rfl)
        have f_74 : (mis i) = true := bI_n0.mp c_74
        refine lv_iconst (v := nI 1) hx hb dX5_count_77 (by decide) ?_
        refine lv_goto (tgt := 82) hx hb dX5_count_78 (by decide) ?_
        refine lv_iadd hx hb dX5_count_82 ?_
        refine fx_eqi (nI_add _ _) ?_
        refine lv_istore_n (lv' := [(2, .int (nI ((ct mis i) + 1))), (0, .ref (z 0)), (3, .int (nI i))]) hx hb dX5_count_83 rfl hl (by decide) rfl (fun ls hl => ?_)
        refine lv_iinc (v := nI (i + 1)) (lv' := [(3, .int (nI (i + 1))), (2, .int (nI ((ct mis i) + 1))), (0, .ref (z 0))]) hx hb dX5_count_84 hl (k := 2) rfl (by exact nI_1 _) (by decide) rfl (fun ls hl => ?_)
        refine lv_goto (tgt := 62) hx hb dX5_count_87 (by decide) ?_
        have e_2 : nI ((ct mis i) + 1) = nI (ct mis (i + 1)) := by first | rfl | (simp [ct, f_74])
        exact ih_62 (i + 1) (by first | assumption | omega) (by omega) H locs hP hD hS ls (lv_sub (fx_hl (l' := [(3, .int (nI (i + 1))), (2, .int (nI (ct mis (i + 1)))), (0, .ref (z 0))]) hl (congrArg (fun w9 : Int32 => ([(3, .int (nI (i + 1))), (2, .int w9), (0, .ref (z 0))] : List (Nat × Value))) e_2)) [2, 1, 0] rfl)
    exact L_62 (4 - 0 + 1) 0 (Nat.zero_le _) (Nat.lt_succ_self _) H locs hP hD hS ls (lv_sub hl [2, 1, 0] rfl)
  refine lv_tableIn (off := 89) (tgt := 92) hx hb dX5_count_3 (by rw [h_3]; decide) (by rw [h_3]; decide) (by rw [h_3]; decide) (by decide) ?_
  refine lv_iconst (v := nI 0) hx hb dX5_count_92 (by decide) ?_
  refine lv_istore_n (lv' := [(3, .int (nI 0)), (2, .int (nI 0)), (0, .ref (z 0)), (1, .int (nI k))]) hx hb dX5_count_93 rfl hl (by decide) rfl (fun ls hl => ?_)
  have L_94 : ∀ (fuel : Nat) (i : Nat) (hi : i ≤ 16) (hfu : 16 - i < fuel) (H : Heap) (locs : List Loc), va_P D vwCl (wM z cI cZ mn mi ms mtk mso mwh mfi mse mth mpu mno mlo mbe mre mis mca mpa mva mle mst mtn mln mne mgo) H → va_D A (wM z cI cZ mn mi ms mtk mso mwh mfi mse mth mpu mno mlo mbe mre mis mca mpa mva mle mst mtn mln mne mgo) → va_S A s.heap H locs → ∀ ls : Array Slot, lv_has ls 4 [(0, .ref (z 0)), (2, .int (nI (ct (fun jj => !decide (mne jj = (-9))) i))), (3, .int (nI i))] → W p l e ({ frames := 0, cells := 0, slots := 0, locals := 0 } : Room) s m args below meth c H locs 0 0 Q (F0 m 94 ls []) := by
    intro fuel
    induction fuel with
    | zero => intro i hi hfu; exact absurd hfu (Nat.not_lt_zero _)
    | succ fuel ih_94 =>
      intro i hi hfu H locs hP hD hS ls hl
      refine lv_iload_n hx hb dX5_count_94 rfl (lv_at hl 2 rfl) ?_
      refine lv_bipush (v := nI 16) hx hb dX5_count_95 (by decide) ?_
      refine lv_icmp_ge (tgt := 125) hx hb dX5_count_97 (by decide) (fun c_97 => ?_) (fun c_97 => ?_)
      · have f_97 : 16 ≤ i := (nI_leI (a := 16) (b := i) (by first | omega | exact b_and1 _ | exact b_ct _ _ (by omega) | exact b_andr _ (by omega)) (by first | omega | exact b_and1 _ | exact b_ct _ _ (by omega) | exact b_andr _ (by omega))).mp c_97
        refine lv_iload_n hx hb dX5_count_125 rfl (lv_at hl 1 rfl) ?_
        exact hri () _ H locs 126 ls .int rfl rfl trivial (by rw [h_3, show i = 16 by omega]; rfl) hP hD hS dX5_count_126
      have f_97 : ¬ 16 ≤ i := fun h => c_97 ((nI_leI (a := 16) (b := i) (by first | omega | exact b_and1 _ | exact b_ct _ _ (by omega) | exact b_andr _ (by omega)) (by first | omega | exact b_and1 _ | exact b_ct _ _ (by omega) | exact b_andr _ (by omega))).mpr h)
      refine lv_iload_n hx hb dX5_count_100 rfl (lv_at hl 1 rfl) ?_
      refine lv_aload_n hx hb dX5_count_101 rfl (lv_at hl 0 rfl) ?_
      refine va_get (D := D) (ci := 5) (v := .ref (z 19)) (C := RX5) (T := TX5) (N := 24) hx hb hts (fun w h => List.mem_cons_of_mem _ (List.mem_append_right _ h)) hown hK hP 0 rfl rfl 22 (by decide) (hts (.fieldLink RX5 65 "FirstStatesModel" "needs" "[I") (List.mem_of_getElem? (i := 6) rfl)) (fun _ h9 => h9) rfl dX5_count_102 ?_
      refine lv_iload_n hx hb dX5_count_105 rfl (lv_at hl 2 rfl) ?_
      refine fx_iald (ar := rI) hx hb hK hP 19 (f := mne) (k := i) rfl (by omega) (by decide) dX5_count_106 ?_
      refine lv_bipush (v := (-9)) hx hb dX5_count_107 (by decide) ?_
      refine lv_icmp_eq (tgt := 116) hx hb dX5_count_109 (by decide) (fun c_109 => ?_) (fun c_109 => ?_)
      · refine lv_iconst (v := nI 0) hx hb dX5_count_116 (by decide) ?_
        refine lv_iadd hx hb dX5_count_117 ?_
        refine fx_eqi (nI_add _ _) ?_
        refine lv_istore_n (lv' := [(2, .int (nI ((ct (fun jj => !decide (mne jj = (-9))) i) + 0))), (0, .ref (z 0)), (3, .int (nI i))]) hx hb dX5_count_118 rfl hl (by decide) rfl (fun ls hl => ?_)
        refine lv_iinc (v := nI (i + 1)) (lv' := [(3, .int (nI (i + 1))), (2, .int (nI ((ct (fun jj => !decide (mne jj = (-9))) i) + 0))), (0, .ref (z 0))]) hx hb dX5_count_119 hl (k := 2) rfl (by exact nI_1 _) (by decide) rfl (fun ls hl => ?_)
        refine lv_goto (tgt := 94) hx hb dX5_count_122 (by decide) ?_
        have e_3 : nI ((ct (fun jj => !decide (mne jj = (-9))) i) + 0) = nI (ct (fun jj => !decide (mne jj = (-9))) (i + 1)) := by first | rfl | (simp [ct, c_109])
        exact ih_94 (i + 1) (by first | assumption | omega) (by omega) H locs hP hD hS ls (lv_sub (fx_hl (l' := [(3, .int (nI (i + 1))), (2, .int (nI (ct (fun jj => !decide (mne jj = (-9))) (i + 1)))), (0, .ref (z 0))]) hl (congrArg (fun w9 : Int32 => ([(3, .int (nI (i + 1))), (2, .int w9), (0, .ref (z 0))] : List (Nat × Value))) e_3)) [2, 1, 0] rfl)
      refine lv_iconst (v := nI 1) hx hb dX5_count_112 (by decide) ?_
      refine lv_goto (tgt := 117) hx hb dX5_count_113 (by decide) ?_
      refine lv_iadd hx hb dX5_count_117 ?_
      refine fx_eqi (nI_add _ _) ?_
      refine lv_istore_n (lv' := [(2, .int (nI ((ct (fun jj => !decide (mne jj = (-9))) i) + 1))), (0, .ref (z 0)), (3, .int (nI i))]) hx hb dX5_count_118 rfl hl (by decide) rfl (fun ls hl => ?_)
      refine lv_iinc (v := nI (i + 1)) (lv' := [(3, .int (nI (i + 1))), (2, .int (nI ((ct (fun jj => !decide (mne jj = (-9))) i) + 1))), (0, .ref (z 0))]) hx hb dX5_count_119 hl (k := 2) rfl (by exact nI_1 _) (by decide) rfl (fun ls hl => ?_)
      refine lv_goto (tgt := 94) hx hb dX5_count_122 (by decide) ?_
      have e_4 : nI ((ct (fun jj => !decide (mne jj = (-9))) i) + 1) = nI (ct (fun jj => !decide (mne jj = (-9))) (i + 1)) := by first | rfl | (simp [ct, c_109])
      exact ih_94 (i + 1) (by first | assumption | omega) (by omega) H locs hP hD hS ls (lv_sub (fx_hl (l' := [(3, .int (nI (i + 1))), (2, .int (nI (ct (fun jj => !decide (mne jj = (-9))) (i + 1)))), (0, .ref (z 0))]) hl (congrArg (fun w9 : Int32 => ([(3, .int (nI (i + 1))), (2, .int w9), (0, .ref (z 0))] : List (Nat × Value))) e_4)) [2, 1, 0] rfl)
  exact L_94 (16 - 0 + 1) 0 (Nat.zero_le _) (Nat.lt_succ_self _) H locs hP hD hS ls (lv_sub hl [2, 1, 0] rfl)
