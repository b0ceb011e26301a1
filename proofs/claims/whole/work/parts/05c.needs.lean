/-! Contracts of Needs. -/
set_option maxHeartbeats 4000000 in
set_option maxRecDepth 100000 in
theorem c_X1_change (l : Launch) (D : va_G) (cI cJ cZ : ClassId) (q : Nat → Nat) (xro : Int64) (xtk : Nat) (xli : Nat) (cn : Nat) (ci : Nat) (cs : Nat) (cso : Nat → Nat) (cki : Nat → Nat) (cfa : Nat → Nat) (cfb : Nat → Nat) (cfc : Nat → Nat) (cva : Nat → Nat) (csn : Nat → Nat) (csd : Nat → Nat) (csl : Nat → Nat) (csb : Nat → Nat) (csr : Nat → Nat) (csc : Nat → Nat) (won : Nat → Int64) (wle : Nat → Int64) (pte : Nat → Nat) (pho : Nat → Nat) (nwa : Nat → Int32) (nti : Nat → Int32) (a : Nat) (b : Nat) (x : Int32) (ha : a < 4) (hb4 : b < 4) : Ct l D cI cJ cZ yX1_change wsX1_change ({ frames := 0, cells := 0, slots := 0, locals := 0 } : Room) 0 0 [.ref (q 20), .int (nI a), .int (nI b), .int x] (wA q cI cJ xro xtk xli cn ci cs cso cki cfa cfb cfc cva csn csd csl csb csr csc won wle pte pho nwa nti) (S := Unit) (fun u => True) (fun u => some (.int (nwa (4 * a + b)))) (fun u => (wA q cI cJ xro xtk xli cn ci cs cso cki cfa cfb cfc cva csn csd csl csb csr csc won wle pte pho (va_up nwa (4 * a + b) x) nti)) := by
  refine Ct.ofW (cc := cX1_change) (maxL := 5) (ret := (some .int)) (R_C := RX1) (by decide +kernel) rfl rfl (Nat.le_of_ble_eq_true rfl) rfl ?_
  intro p e s m args below meth c A Q ls H locs hx hb hml hown hts hK hA hP hD hS hZ hl hri hrl hrv
  refine lv_aload_n hx hb dX1_change_0 rfl (lv_at hl 0 rfl) ?_
  refine va_get (D := D) (ci := 1) (v := .ref (q 21)) (C := RX1) (T := TX1) (N := 2) hx hb hts (fun w h => List.mem_cons_of_mem _ (List.mem_append_right _ h)) hown hK hP 20 rfl rfl 0 (by decide) (hts (.fieldLink RX1 9 "FirstStates$Needs" "waits" "[I") (List.mem_of_getElem? (i := 1) rfl)) (fun _ h9 => h9) rfl dX1_change_1 ?_
  refine lv_iconst (v := nI 4) hx hb dX1_change_4 (by decide) ?_
  refine lv_iload_n hx hb dX1_change_5 rfl (lv_at hl 1 rfl) ?_
  refine lv_imul hx hb dX1_change_6 ?_
  refine fx_eqi (pk_mul _ _) ?_
  refine lv_iload_n hx hb dX1_change_7 rfl (lv_at hl 2 rfl) ?_
  refine lv_iadd hx hb dX1_change_8 ?_
  refine fx_eqi (nI_add _ _) ?_
  refine fx_iald (ar := rI) hx hb hK hP 21 (f := nwa) (k := ((4 * a) + b)) rfl (by omega) (by decide) dX1_change_9 ?_
  refine lv_istore (lv' := [(4, .int (nwa ((4 * a) + b))), (0, .ref (q 20)), (1, .int (nI a)), (2, .int (nI b)), (3, .int x)]) hx hb dX1_change_10 hl (by decide) rfl (fun ls hl => ?_)
  refine lv_aload_n hx hb dX1_change_12 rfl (lv_at hl 1 rfl) ?_
  refine va_get (D := D) (ci := 1) (v := .ref (q 21)) (C := RX1) (T := TX1) (N := 2) hx hb hts (fun w h => List.mem_cons_of_mem _ (List.mem_append_right _ h)) hown hK hP 20 rfl rfl 0 (by decide) (hts (.fieldLink RX1 9 "FirstStates$Needs" "waits" "[I") (List.mem_of_getElem? (i := 1) rfl)) (fun _ h9 => h9) rfl dX1_change_13 ?_
  refine lv_iconst (v := nI 4) hx hb dX1_change_16 (by decide) ?_
  refine lv_iload_n hx hb dX1_change_17 rfl (lv_at hl 2 rfl) ?_
  refine lv_imul hx hb dX1_change_18 ?_
  refine fx_eqi (pk_mul _ _) ?_
  refine lv_iload_n hx hb dX1_change_19 rfl (lv_at hl 3 rfl) ?_
  refine lv_iadd hx hb dX1_change_20 ?_
  refine fx_eqi (nI_add _ _) ?_
  refine lv_iload_n hx hb dX1_change_21 rfl (lv_at hl 4 rfl) ?_
  refine fx_iast (ar := rI) hx hb hK hP hD hS 21 (f := nwa) (k := ((4 * a) + b)) (v := x) rfl (by omega) (by decide) rfl dX1_change_22 (fun H locs hP hD hS => ?_)
  have hP : va_P D vwCl (wA q cI cJ xro xtk xli cn ci cs cso cki cfa cfb cfc cva csn csd csl csb csr csc won wle pte pho (va_up nwa ((4 * a) + b) x) nti) H := hP
  have hD : va_D A (wA q cI cJ xro xtk xli cn ci cs cso cki cfa cfb cfc cva csn csd csl csb csr csc won wle pte pho (va_up nwa ((4 * a) + b) x) nti) := fx_D hD rfl
  refine lv_iload hx hb dX1_change_23 (lv_at hl 0 rfl) ?_
  exact hri () _ H locs 25 ls .int rfl rfl trivial rfl hP (fx_D hD rfl) hS dX1_change_25
set_option maxHeartbeats 4000000 in
set_option maxRecDepth 100000 in
theorem c_X1_standing (l : Launch) (D : va_G) (cI cJ cZ : ClassId) (q : Nat → Nat) (xro : Int64) (xtk : Nat) (xli : Nat) (cn : Nat) (ci : Nat) (cs : Nat) (cso : Nat → Nat) (cki : Nat → Nat) (cfa : Nat → Nat) (cfb : Nat → Nat) (cfc : Nat → Nat) (cva : Nat → Nat) (csn : Nat → Nat) (csd : Nat → Nat) (csl : Nat → Nat) (csb : Nat → Nat) (csr : Nat → Nat) (csc : Nat → Nat) (won : Nat → Int64) (wle : Nat → Int64) (pte : Nat → Nat) (pho : Nat → Nat) (nwa : Nat → Int32) (nti : Nat → Int32) : Ct l D cI cJ cZ yX1_standing wsX1_standing ({ frames := 0, cells := 0, slots := 0, locals := 0 } : Room) 0 0 [.ref (q 20)] (wA q cI cJ xro xtk xli cn ci cs cso cki cfa cfb cfc cva csn csd csl csb csr csc won wle pte pho nwa nti) (S := Unit) (fun u => True) (fun u => some (.int (nI (ct (fun jj => !decide (nwa jj = (-9))) 16)))) (fun u => (wA q cI cJ xro xtk xli cn ci cs cso cki cfa cfb cfc cva csn csd csl csb csr csc won wle pte pho nwa nti)) := by
  refine Ct.ofW (cc := cX1_standing) (maxL := 3) (ret := (some .int)) (R_C := RX1) (by decide +kernel) rfl rfl (Nat.le_of_ble_eq_true rfl) rfl ?_
  intro p e s m args below meth c A Q ls H locs hx hb hml hown hts hK hA hP hD hS hZ hl hri hrl hrv
  refine lv_iconst (v := nI 0) hx hb dX1_standing_0 (by decide) ?_
  refine lv_istore_n (lv' := [(1, .int (nI 0)), (0, .ref (q 20))]) hx hb dX1_standing_1 rfl hl (by decide) rfl (fun ls hl => ?_)
  refine lv_iconst (v := nI 0) hx hb dX1_standing_2 (by decide) ?_
  refine lv_istore_n (lv' := [(2, .int (nI 0)), (1, .int (nI 0)), (0, .ref (q 20))]) hx hb dX1_standing_3 rfl hl (by decide) rfl (fun ls hl => ?_)
  have L_4 : ∀ (fuel : Nat) (i : Nat) (hi : i ≤ 16) (hfu : 16 - i < fuel) (H : Heap) (locs : List Loc), va_P D vwCl (wA q cI cJ xro xtk xli cn ci cs cso cki cfa cfb cfc cva csn csd csl csb csr csc won wle pte pho nwa nti) H → va_D A (wA q cI cJ xro xtk xli cn ci cs cso cki cfa cfb cfc cva csn csd csl csb csr csc won wle pte pho nwa nti) → va_S A s.heap H locs → ∀ ls : Array Slot, lv_has ls 3 [(0, .ref (q 20)), (1, .int (nI (ct (fun jj => !decide (nwa jj = (-9))) i))), (2, .int (nI i))] → W p l e ({ frames := 0, cells := 0, slots := 0, locals := 0 } : Room) s m args below meth c H locs 0 0 Q (F0 m 4 ls []) := by
    intro fuel
    induction fuel with
    | zero => intro i hi hfu; exact absurd hfu (Nat.not_lt_zero _)
    | succ fuel ih_4 =>
      intro i hi hfu H locs hP hD hS ls hl
      refine lv_iload_n hx hb dX1_standing_4 rfl (lv_at hl 2 rfl) ?_
      refine lv_bipush (v := nI 16) hx hb dX1_standing_5 (by decide) ?_
      refine lv_icmp_ge (tgt := 30) hx hb dX1_standing_7 (by decide) (fun c_7 => ?_) (fun c_7 => ?_)
      · have f_7 : 16 ≤ i := (nI_leI (a := 16) (b := i) (by first | omega | exact b_and1 _ | exact b_ct _ _ (by omega) | exact b_andr _ (by omega)) (by first | omega | exact b_and1 _ | exact b_ct _ _ (by omega) | exact b_andr _ (by omega))).mp c_7
        have e_i : i = 16 := by omega
        subst e_i
        refine lv_iload_n hx hb dX1_standing_30 rfl (lv_at hl 1 rfl) ?_
        exact hri () _ H locs 31 ls .int rfl rfl trivial rfl hP hD hS dX1_standing_31
      have f_7 : ¬ 16 ≤ i := fun h => c_7 ((nI_leI (a := 16) (b := i) (by first | omega | exact b_and1 _ | exact b_ct _ _ (by omega) | exact b_andr _ (by omega)) (by first | omega | exact b_and1 _ | exact b_ct _ _ (by omega) | exact b_andr _ (by omega))).mpr h)
      refine lv_aload_n hx hb dX1_standing_10 rfl (lv_at hl 0 rfl) ?_
      refine va_get (D := D) (ci := 1) (v := .ref (q 21)) (C := RX1) (T := TX1) (N := 2) hx hb hts (fun w h => List.mem_cons_of_mem _ (List.mem_append_right _ h)) hown hK hP 20 rfl rfl 0 (by decide) (hts (.fieldLink RX1 9 "FirstStates$Needs" "waits" "[I") (List.mem_of_getElem? (i := 1) rfl)) (fun _ h9 => h9) rfl dX1_standing_11 ?_
      refine lv_iload_n hx hb dX1_standing_14 rfl (lv_at hl 2 rfl) ?_
      refine fx_iald (ar := rI) hx hb hK hP 21 (f := nwa) (k := i) rfl (by omega) (by decide) dX1_standing_15 ?_
      refine lv_bipush (v := (-9)) hx hb dX1_standing_16 (by decide) ?_
      refine lv_icmp_eq (tgt := 24) hx hb dX1_standing_18 (by decide) (fun c_18 => ?_) (fun c_18 => ?_)
      · refine lv_iinc (v := nI (i + 1)) (lv' := [(2, .int (nI (i + 1))), (0, .ref (q 20)), (1, .int (nI (ct (fun jj => !decide (nwa jj = (-9))) i)))]) hx hb dX1_standing_24 hl (k := 2) rfl (by exact nI_1 _) (by decide) rfl (fun ls hl => ?_)
        refine lv_goto (tgt := 4) hx hb dX1_standing_27 (by decide) ?_
        have e_1 : nI (ct (fun jj => !decide (nwa jj = (-9))) i) = nI (ct (fun jj => !decide (nwa jj = (-9))) (i + 1)) := by first | rfl | (simp [ct, f_7, c_18])
        exact ih_4 (i + 1) (by first | assumption | omega) (by omega) H locs hP hD hS ls (lv_sub (fx_hl (l' := [(2, .int (nI (i + 1))), (0, .ref (q 20)), (1, .int (nI (ct (fun jj => !decide (nwa jj = (-9))) (i + 1))))]) hl (congrArg (fun w9 : Int32 => ([(2, .int (nI (i + 1))), (0, .ref (q 20)), (1, .int w9)] : List (Nat × Value))) e_1)) [1, 2, 0] rfl)
      refine lv_iinc (v := nI ((ct (fun jj => !decide (nwa jj = (-9))) i) + 1)) (lv' := [(1, .int (nI ((ct (fun jj => !decide (nwa jj = (-9))) i) + 1))), (0, .ref (q 20)), (2, .int (nI i))]) hx hb dX1_standing_21 hl (k := 1) rfl (by exact nI_1 _) (by decide) rfl (fun ls hl => ?_)
      refine lv_iinc (v := nI (i + 1)) (lv' := [(2, .int (nI (i + 1))), (1, .int (nI ((ct (fun jj => !decide (nwa jj = (-9))) i) + 1))), (0, .ref (q 20))]) hx hb dX1_standing_24 hl (k := 2) rfl (by exact nI_1 _) (by decide) rfl (fun ls hl => ?_)
      refine lv_goto (tgt := 4) hx hb dX1_standing_27 (by decide) ?_
      have e_2 : nI ((ct (fun jj => !decide (nwa jj = (-9))) i) + 1) = nI (ct (fun jj => !decide (nwa jj = (-9))) (i + 1)) := by first | rfl | (simp [ct, f_7, c_18])
      exact ih_4 (i + 1) (by first | assumption | omega) (by omega) H locs hP hD hS ls (lv_sub (fx_hl (l' := [(2, .int (nI (i + 1))), (1, .int (nI (ct (fun jj => !decide (nwa jj = (-9))) (i + 1)))), (0, .ref (q 20))]) hl (congrArg (fun w9 : Int32 => ([(2, .int (nI (i + 1))), (1, .int w9), (0, .ref (q 20))] : List (Nat × Value))) e_2)) [2, 1, 0] rfl)
  have e_3 : nI 0 = nI (ct (fun jj => !decide (nwa jj = (-9))) 0) := by first | rfl | (simp [ct, Nat.add_zero])
  exact L_4 (16 - 0 + 1) 0 (Nat.zero_le _) (Nat.lt_succ_self _) H locs hP hD hS ls (lv_sub (fx_hl (l' := [(2, .int (nI 0)), (1, .int (nI (ct (fun jj => !decide (nwa jj = (-9))) 0))), (0, .ref (q 20))]) hl (congrArg (fun w9 : Int32 => ([(2, .int (nI 0)), (1, .int w9), (0, .ref (q 20))] : List (Nat × Value))) e_3)) [2, 1, 0] rfl)
set_option maxHeartbeats 4000000 in
set_option maxRecDepth 100000 in
theorem c_X1_delayAll (l : Launch) (D : va_G) (cI cJ cZ : ClassId) (q : Nat → Nat) (xro : Int64) (xtk : Nat) (xli : Nat) (cn : Nat) (ci : Nat) (cs : Nat) (cso : Nat → Nat) (cki : Nat → Nat) (cfa : Nat → Nat) (cfb : Nat → Nat) (cfc : Nat → Nat) (cva : Nat → Nat) (csn : Nat → Nat) (csd : Nat → Nat) (csl : Nat → Nat) (csb : Nat → Nat) (csr : Nat → Nat) (csc : Nat → Nat) (won : Nat → Int64) (wle : Nat → Int64) (pte : Nat → Nat) (pho : Nat → Nat) (nwa : Nat → Int32) (nti : Nat → Int32) (gu : Bool) : Ct l D cI cJ cZ yX1_delayAll wsX1_delayAll ({ frames := 0, cells := 0, slots := 0, locals := 0 } : Room) 0 0 [.ref (q 20), .int (bI gu)] (wA q cI cJ xro xtk xli cn ci cs cso cki cfa cfb cfc cva csn csd csl csb csr csc won wle pte pho nwa nti) (S := Unit) (fun u => True) (fun u => none) (fun u => (wA q cI cJ xro xtk xli cn ci cs cso cki cfa cfb cfc cva csn csd csl csb csr csc won wle pte pho nwa (dlyT gu nwa nti 16))) := by
  refine Ct.ofW (cc := cX1_delayAll) (maxL := 5) (ret := none) (R_C := RX1) (by decide +kernel) rfl rfl (Nat.le_of_ble_eq_true rfl) rfl ?_
  intro p e s m args below meth c A Q ls H locs hx hb hml hown hts hK hA hP hD hS hZ hl hri hrl hrv
  refine lv_iconst (v := nI 0) hx hb dX1_delayAll_0 (by decide) ?_
  refine lv_istore_n (lv' := [(2, .int (nI 0)), (0, .ref (q 20)), (1, .int (bI gu))]) hx hb dX1_delayAll_1 rfl hl (by decide) rfl (fun ls hl => ?_)
  have L_2 : ∀ (fuel : Nat) (a : Nat) (ha : a ≤ 4) (hfu : 4 - a < fuel) (H : Heap) (locs : List Loc), va_P D vwCl (wA q cI cJ xro xtk xli cn ci cs cso cki cfa cfb cfc cva csn csd csl csb csr csc won wle pte pho nwa (dlyT gu nwa nti (4 * a))) H → va_D A (wA q cI cJ xro xtk xli cn ci cs cso cki cfa cfb cfc cva csn csd csl csb csr csc won wle pte pho nwa (dlyT gu nwa nti (4 * a))) → va_S A s.heap H locs → ∀ ls : Array Slot, lv_has ls 5 [(0, .ref (q 20)), (1, .int (bI gu)), (2, .int (nI a))] → W p l e ({ frames := 0, cells := 0, slots := 0, locals := 0 } : Room) s m args below meth c H locs 0 0 Q (F0 m 2 ls []) := by
    intro fuel
    induction fuel with
    | zero => intro a ha hfu; exact absurd hfu (Nat.not_lt_zero _)
    | succ fuel ih_2 =>
      intro a ha hfu H locs hP hD hS ls hl
      refine lv_iload_n hx hb dX1_delayAll_2 rfl (lv_at hl 2 rfl) ?_
      refine lv_iconst (v := nI 4) hx hb dX1_delayAll_3 (by decide) ?_
      refine lv_icmp_ge (tgt := 123) hx hb dX1_delayAll_4 (by decide) (fun c_4 => ?_) (fun c_4 => ?_)
      · have f_4 : 4 ≤ a := (nI_leI (a := 4) (b := a) (by first | omega | exact b_and1 _ | exact b_ct _ _ (by omega) | exact b_andr _ (by omega)) (by first | omega | exact b_and1 _ | exact b_ct _ _ (by omega) | exact b_andr _ (by omega))).mp c_4
        have e_a : a = 4 := by omega
        subst e_a
        exact hrv () H locs 123 ls rfl trivial rfl hP (fx_D hD rfl) hS dX1_delayAll_123
      have f_4 : ¬ 4 ≤ a := fun h => c_4 ((nI_leI (a := 4) (b := a) (by first | omega | exact b_and1 _ | exact b_ct _ _ (by omega) | exact b_andr _ (by omega)) (by first | omega | exact b_and1 _ | exact b_ct _ _ (by omega) | exact b_andr _ (by omega))).mpr h)
      refine lv_iconst (v := nI 0) hx hb dX1_delayAll_7 (by decide) ?_
      refine lv_istore_n (lv' := [(3, .int (nI 0)), (0, .ref (q 20)), (1, .int (bI gu)), (2, .int (nI a))]) hx hb dX1_delayAll_8 rfl hl (by decide) rfl (fun ls hl => ?_)
      have L_9 : ∀ (fuel : Nat) (b : Nat) (hb4 : b ≤ 4) (hfu : 4 - b < fuel) (H : Heap) (locs : List Loc), va_P D vwCl (wA q cI cJ xro xtk xli cn ci cs cso cki cfa cfb cfc cva csn csd csl csb csr csc won wle pte pho nwa (dlyT gu nwa nti (4 * a + b))) H → va_D A (wA q cI cJ xro xtk xli cn ci cs cso cki cfa cfb cfc cva csn csd csl csb csr csc won wle pte pho nwa (dlyT gu nwa nti (4 * a + b))) → va_S A s.heap H locs → ∀ ls : Array Slot, lv_has ls 5 [(0, .ref (q 20)), (1, .int (bI gu)), (2, .int (nI a)), (3, .int (nI b))] → W p l e ({ frames := 0, cells := 0, slots := 0, locals := 0 } : Room) s m args below meth c H locs 0 0 Q (F0 m 9 ls []) := by
        intro fuel
        induction fuel with
        | zero => intro b hb4 hfu; exact absurd hfu (Nat.not_lt_zero _)
        | succ fuel ih_9 =>
          intro b hb4 hfu H locs hP hD hS ls hl
          refine lv_iload_n hx hb dX1_delayAll_9 rfl (lv_at hl 3 rfl) ?_
          refine lv_iconst (v := nI 4) hx hb dX1_delayAll_10 (by decide) ?_
          refine lv_icmp_ge (tgt := 117) hx hb dX1_delayAll_11 (by decide) (fun c_11 => ?_) (fun c_11 => ?_)
          · have f_11 : 4 ≤ b := (nI_leI (a := 4) (b := b) (by first | omega | exact b_and1 _ | exact b_ct _ _ (by omega) | exact b_andr _ (by omega)) (by first | omega | exact b_and1 _ | exact b_ct _ _ (by omega) | exact b_andr _ (by omega))).mp c_11
            have e_b : b = 4 := by omega
            refine lv_iinc (v := nI (a + 1)) (lv' := [(2, .int (nI (a + 1))), (0, .ref (q 20)), (1, .int (bI gu)), (3, .int (nI b))]) hx hb dX1_delayAll_117 hl (k := 2) rfl (by exact nI_1 _) (by decide) rfl (fun ls hl => ?_)
            refine lv_goto (tgt := 2) hx hb dX1_delayAll_120 (by decide) ?_
            have e_1 : dlyT gu nwa nti (4 * a + b) = dlyT gu nwa nti (4 * (a + 1)) := by first | rfl | (rw [e_b]; rfl)
            exact ih_2 (a + 1) (by first | assumption | omega) (by omega) H locs (fx_Pe (w' := (wA q cI cJ xro xtk xli cn ci cs cso cki cfa cfb cfc cva csn csd csl csb csr csc won wle pte pho nwa (dlyT gu nwa nti (4 * (a + 1))))) hP (congrArg (fun w9 : Nat → Int32 => (wA q cI cJ xro xtk xli cn ci cs cso cki cfa cfb cfc cva csn csd csl csb csr csc won wle pte pho nwa w9)) e_1)) (fx_D hD rfl) hS ls (lv_sub hl [1, 2, 0] rfl)
          have f_11 : ¬ 4 ≤ b := fun h => c_11 ((nI_leI (a := 4) (b := b) (by first | omega | exact b_and1 _ | exact b_ct _ _ (by omega) | exact b_andr _ (by omega)) (by first | omega | exact b_and1 _ | exact b_ct _ _ (by omega) | exact b_andr _ (by omega))).mpr h)
          refine lv_aload_n hx hb dX1_delayAll_14 rfl (lv_at hl 0 rfl) ?_
          refine va_get (D := D) (ci := 1) (v := .ref (q 21)) (C := RX1) (T := TX1) (N := 2) hx hb hts (fun w h => List.mem_cons_of_mem _ (List.mem_append_right _ h)) hown hK hP 20 rfl rfl 0 (by decide) (hts (.fieldLink RX1 9 "FirstStates$Needs" "waits" "[I") (List.mem_of_getElem? (i := 1) rfl)) (fun _ h9 => h9) rfl dX1_delayAll_15 ?_
          refine lv_iconst (v := nI 4) hx hb dX1_delayAll_18 (by decide) ?_
          refine lv_iload_n hx hb dX1_delayAll_19 rfl (lv_at hl 2 rfl) ?_
          refine lv_imul hx hb dX1_delayAll_20 ?_
          refine fx_eqi (pk_mul _ _) ?_
          refine lv_iload_n hx hb dX1_delayAll_21 rfl (lv_at hl 3 rfl) ?_
          refine lv_iadd hx hb dX1_delayAll_22 ?_
          refine fx_eqi (nI_add _ _) ?_
          refine fx_iald (ar := rI) hx hb hK hP 21 (f := nwa) (k := ((4 * a) + b)) rfl (by omega) (by decide) dX1_delayAll_23 ?_
          refine lv_istore (lv' := [(4, .int (nwa ((4 * a) + b))), (0, .ref (q 20)), (1, .int (bI gu)), (2, .int (nI a)), (3, .int (nI b))]) hx hb dX1_delayAll_24 hl (by decide) rfl (fun ls hl => ?_)
          refine lv_iload hx hb dX1_delayAll_26 (lv_at hl 0 rfl) ?_
          refine lv_bipush (v := (-9)) hx hb dX1_delayAll_28 (by decide) ?_
          refine lv_icmp_eq (tgt := 111) hx hb dX1_delayAll_30 (by decide) (fun c_30 => ?_) (fun c_30 => ?_)
          · refine lv_iinc (v := nI (b + 1)) (lv' := [(3, .int (nI (b + 1))), (4, .int (nwa ((4 * a) + b))), (0, .ref (q 20)), (1, .int (bI gu)), (2, .int (nI a))]) hx hb dX1_delayAll_111 hl (k := 4) rfl (by exact nI_1 _) (by decide) rfl (fun ls hl => ?_)
            refine lv_goto (tgt := 9) hx hb dX1_delayAll_114 (by decide) ?_
            have e_2 : dlyT gu nwa nti (4 * a + b) = dlyT gu nwa nti (4 * a + (b + 1)) := by first | rfl | (show _ = rlx gu nwa (dlyT gu nwa nti (4 * a + b)) (4 * a + b); rw [rlx_k (by omega), if_pos c_30])
            exact ih_9 (b + 1) (by first | assumption | omega) (by omega) H locs (fx_Pe (w' := (wA q cI cJ xro xtk xli cn ci cs cso cki cfa cfb cfc cva csn csd csl csb csr csc won wle pte pho nwa (dlyT gu nwa nti (4 * a + (b + 1))))) hP (congrArg (fun w9 : Nat → Int32 => (wA q cI cJ xro xtk xli cn ci cs cso cki cfa cfb cfc cva csn csd csl csb csr csc won wle pte pho nwa w9)) e_2)) (fx_D hD rfl) hS ls (lv_sub hl [2, 3, 4, 0] rfl)
          refine lv_aload_n hx hb dX1_delayAll_33 rfl (lv_at hl 1 rfl) ?_
          refine va_get (D := D) (ci := 1) (v := .ref (q 22)) (C := RX1) (T := TX1) (N := 2) hx hb hts (fun w h => List.mem_cons_of_mem _ (List.mem_append_right _ h)) hown hK hP 20 rfl rfl 1 (by decide) (hts (.fieldLink RX1 15 "FirstStates$Needs" "times" "[I") (List.mem_of_getElem? (i := 2) rfl)) (fun _ h9 => h9) rfl dX1_delayAll_34 ?_
          refine lv_iload_n hx hb dX1_delayAll_37 rfl (lv_at hl 3 rfl) ?_
          refine fx_iald (ar := rI) hx hb hK hP 22 (f := (dlyT gu nwa nti (4 * a + b))) (k := a) rfl (by omega) (by decide) dX1_delayAll_38 ?_
          refine lv_bipush (v := (-9)) hx hb dX1_delayAll_39 (by decide) ?_
          refine lv_icmp_ne (tgt := 47) hx hb dX1_delayAll_41 (by decide) (fun c_41 => ?_) (fun c_41 => ?_)
          · refine lv_aload_n hx hb dX1_delayAll_47 rfl (lv_at hl 1 rfl) ?_
            refine va_get (D := D) (ci := 1) (v := .ref (q 22)) (C := RX1) (T := TX1) (N := 2) hx hb hts (fun w h => List.mem_cons_of_mem _ (List.mem_append_right _ h)) hown hK hP 20 rfl rfl 1 (by decide) (hts (.fieldLink RX1 15 "FirstStates$Needs" "times" "[I") (List.mem_of_getElem? (i := 2) rfl)) (fun _ h9 => h9) rfl dX1_delayAll_48 ?_
            refine lv_iload_n hx hb dX1_delayAll_51 rfl (lv_at hl 4 rfl) ?_
            refine fx_iald (ar := rI) hx hb hK hP 22 (f := (dlyT gu nwa nti (4 * a + b))) (k := b) rfl (by omega) (by decide) dX1_delayAll_52 ?_
            refine lv_bipush (v := (-9)) hx hb dX1_delayAll_53 (by decide) ?_
            refine lv_icmp_ne (tgt := 69) hx hb dX1_delayAll_55 (by decide) (fun c_55 => ?_) (fun c_55 => ?_)
            · refine lv_aload_n hx hb dX1_delayAll_69 rfl (lv_at hl 1 rfl) ?_
              refine va_get (D := D) (ci := 1) (v := .ref (q 22)) (C := RX1) (T := TX1) (N := 2) hx hb hts (fun w h => List.mem_cons_of_mem _ (List.mem_append_right _ h)) hown hK hP 20 rfl rfl 1 (by decide) (hts (.fieldLink RX1 15 "FirstStates$Needs" "times" "[I") (List.mem_of_getElem? (i := 2) rfl)) (fun _ h9 => h9) rfl dX1_delayAll_70 ?_
              refine lv_iload_n hx hb dX1_delayAll_73 rfl (lv_at hl 4 rfl) ?_
              refine fx_iald (ar := rI) hx hb hK hP 22 (f := (dlyT gu nwa nti (4 * a + b))) (k := b) rfl (by omega) (by decide) dX1_delayAll_74 ?_
              refine lv_iload hx hb dX1_delayAll_75 (lv_at hl 0 rfl) ?_
              refine lv_iadd hx hb dX1_delayAll_77 ?_
              refine lv_aload_n hx hb dX1_delayAll_78 rfl (lv_at hl 1 rfl) ?_
              refine va_get (D := D) (ci := 1) (v := .ref (q 22)) (C := RX1) (T := TX1) (N := 2) hx hb hts (fun w h => List.mem_cons_of_mem _ (List.mem_append_right _ h)) hown hK hP 20 rfl rfl 1 (by decide) (hts (.fieldLink RX1 15 "FirstStates$Needs" "times" "[I") (List.mem_of_getElem? (i := 2) rfl)) (fun _ h9 => h9) rfl dX1_delayAll_79 ?_
              refine lv_iload_n hx hb dX1_delayAll_82 rfl (lv_at hl 3 rfl) ?_
              refine fx_iald (ar := rI) hx hb hK hP 22 (f := (dlyT gu nwa nti (4 * a + b))) (k := a) rfl (by omega) (by decide) dX1_delayAll_83 ?_
              refine lv_icmp_le (tgt := 111) hx hb dX1_delayAll_84 (by decide) (fun c_84 => ?_) (fun c_84 => ?_)
              · refine lv_iinc (v := nI (b + 1)) (lv' := [(3, .int (nI (b + 1))), (4, .int (nwa ((4 * a) + b))), (0, .ref (q 20)), (1, .int (bI gu)), (2, .int (nI a))]) hx hb dX1_delayAll_111 hl (k := 4) rfl (by exact nI_1 _) (by decide) rfl (fun ls hl => ?_)
                refine lv_goto (tgt := 9) hx hb dX1_delayAll_114 (by decide) ?_
                have e_3 : dlyT gu nwa nti (4 * a + b) = dlyT gu nwa nti (4 * a + (b + 1)) := by first | rfl | (show _ = rlx gu nwa (dlyT gu nwa nti (4 * a + b)) (4 * a + b); rw [rlx_k (by omega), if_neg c_30, if_neg c_41, if_neg c_55, if_pos c_84])
                exact ih_9 (b + 1) (by first | assumption | omega) (by omega) H locs (fx_Pe (w' := (wA q cI cJ xro xtk xli cn ci cs cso cki cfa cfb cfc cva csn csd csl csb csr csc won wle pte pho nwa (dlyT gu nwa nti (4 * a + (b + 1))))) hP (congrArg (fun w9 : Nat → Int32 => (wA q cI cJ xro xtk xli cn ci cs cso cki cfa cfb cfc cva csn csd csl csb csr csc won wle pte pho nwa w9)) e_3)) (fx_D hD rfl) hS ls (lv_sub hl [2, 3, 4, 0] rfl)
              refine lv_aload_n hx hb dX1_delayAll_87 rfl (lv_at hl 1 rfl) ?_
              refine va_get (D := D) (ci := 1) (v := .ref (q 22)) (C := RX1) (T := TX1) (N := 2) hx hb hts (fun w h => List.mem_cons_of_mem _ (List.mem_append_right _ h)) hown hK hP 20 rfl rfl 1 (by decide) (hts (.fieldLink RX1 15 "FirstStates$Needs" "times" "[I") (List.mem_of_getElem? (i := 2) rfl)) (fun _ h9 => h9) rfl dX1_delayAll_88 ?_
              refine lv_iload_n hx hb dX1_delayAll_91 rfl (lv_at hl 3 rfl) ?_
              refine lv_iload_n hx hb dX1_delayAll_92 rfl (lv_at hl 2 rfl) ?_
              refine lv_if_eq (tgt := 101) hx hb dX1_delayAll_93 (by decide) (fun c_93 => ?_) (fun c_93 => ?_)
              · have f_93 : gu = false := bI_0.mp c_93
                refine lv_aload_n hx hb dX1_delayAll_101 rfl (lv_at hl 1 rfl) ?_
                refine va_get (D := D) (ci := 1) (v := .ref (q 22)) (C := RX1) (T := TX1) (N := 2) hx hb hts (fun w h => List.mem_cons_of_mem _ (List.mem_append_right _ h)) hown hK hP 20 rfl rfl 1 (by decide) (hts (.fieldLink RX1 15 "FirstStates$Needs" "times" "[I") (List.mem_of_getElem? (i := 2) rfl)) (fun _ h9 => h9) rfl dX1_delayAll_102 ?_
                refine lv_iload_n hx hb dX1_delayAll_105 rfl (lv_at hl 4 rfl) ?_
                refine fx_iald (ar := rI) hx hb hK hP 22 (f := (dlyT gu nwa nti (4 * a + b))) (k := b) rfl (by omega) (by decide) dX1_delayAll_106 ?_
                refine lv_iload hx hb dX1_delayAll_107 (lv_at hl 0 rfl) ?_
                refine lv_iadd hx hb dX1_delayAll_109 ?_
                refine fx_iast (ar := rI) hx hb hK hP hD hS 22 (f := (dlyT gu nwa nti (4 * a + b))) (k := a) (v := (((dlyT gu nwa nti (4 * a + b)) b) + (nwa ((4 * a) + b)))) rfl (by omega) (by decide) rfl dX1_delayAll_110 (fun H locs hP hD hS => ?_)
                have hP : va_P D vwCl (wA q cI cJ xro xtk xli cn ci cs cso cki cfa cfb cfc cva csn csd csl csb csr csc won wle pte pho nwa (va_up (dlyT gu nwa nti (4 * a + b)) a (((dlyT gu nwa nti (4 * a + b)) b) + (nwa ((4 * a) + b))))) H := hP
                have hD : va_D A (wA q cI cJ xro xtk xli cn ci cs cso cki cfa cfb cfc cva csn csd csl csb csr csc won wle pte pho nwa (va_up (dlyT gu nwa nti (4 * a + b)) a (((dlyT gu nwa nti (4 * a + b)) b) + (nwa ((4 * a) + b))))) := fx_D hD rfl
                refine lv_iinc (v := nI (b + 1)) (lv' := [(3, .int (nI (b + 1))), (4, .int (nwa ((4 * a) + b))), (0, .ref (q 20)), (1, .int (bI gu)), (2, .int (nI a))]) hx hb dX1_delayAll_111 hl (k := 4) rfl (by exact nI_1 _) (by decide) rfl (fun ls hl => ?_)
                refine lv_goto (tgt := 9) hx hb dX1_delayAll_114 (by decide) ?_
                have e_4 : va_up (dlyT gu nwa nti (4 * a + b)) a (((dlyT gu nwa nti (4 * a + b)) b) + (nwa ((4 * a) + b))) = dlyT gu nwa nti (4 * a + (b + 1)) := by first | rfl | (show _ = rlx gu nwa (dlyT gu nwa nti (4 * a + b)) (4 * a + b); rw [rlx_k (by omega), if_neg c_30, if_neg c_41, if_neg c_55, if_neg c_84]; simp [f_93])
                exact ih_9 (b + 1) (by first | assumption | omega) (by omega) H locs (fx_Pe (w' := (wA q cI cJ xro xtk xli cn ci cs cso cki cfa cfb cfc cva csn csd csl csb csr csc won wle pte pho nwa (dlyT gu nwa nti (4 * a + (b + 1))))) hP (congrArg (fun w9 : Nat → Int32 => (wA q cI cJ xro xtk xli cn ci cs cso cki cfa cfb cfc cva csn csd csl csb csr csc won wle pte pho nwa w9)) e_4)) (fx_D hD rfl) hS ls (lv_sub hl [2, 3, 4, 0] rfl)
              have f_93 : gu = true := bI_n0.mp c_93
              refine lv_bipush (v := (-9)) hx hb dX1_delayAll_96 (by decide) ?_
              refine lv_goto (tgt := 110) hx hb dX1_delayAll_98 (by decide) ?_
              refine fx_iast (ar := rI) hx hb hK hP hD hS 22 (f := (dlyT gu nwa nti (4 * a + b))) (k := a) (v := (-9)) rfl (by omega) (by decide) rfl dX1_delayAll_110 (fun H locs hP hD hS => ?_)
              have hP : va_P D vwCl (wA q cI cJ xro xtk xli cn ci cs cso cki cfa cfb cfc cva csn csd csl csb csr csc won wle pte pho nwa (va_up (dlyT gu nwa nti (4 * a + b)) a (-9))) H := hP
              have hD : va_D A (wA q cI cJ xro xtk xli cn ci cs cso cki cfa cfb cfc cva csn csd csl csb csr csc won wle pte pho nwa (va_up (dlyT gu nwa nti (4 * a + b)) a (-9))) := fx_D hD rfl
              refine lv_iinc (v := nI (b + 1)) (lv' := [(3, .int (nI (b + 1))), (4, .int (nwa ((4 * a) + b))), (0, .ref (q 20)), (1, .int (bI gu)), (2, .int (nI a))]) hx hb dX1_delayAll_111 hl (k := 4) rfl (by exact nI_1 _) (by decide) rfl (fun ls hl => ?_)
              refine lv_goto (tgt := 9) hx hb dX1_delayAll_114 (by decide) ?_
              have e_5 : va_up (dlyT gu nwa nti (4 * a + b)) a (-9) = dlyT gu nwa nti (4 * a + (b + 1)) := by first | rfl | (show _ = rlx gu nwa (dlyT gu nwa nti (4 * a + b)) (4 * a + b); rw [rlx_k (by omega), if_neg c_30, if_neg c_41, if_neg c_55, if_neg c_84]; simp [f_93])
              exact ih_9 (b + 1) (by first | assumption | omega) (by omega) H locs (fx_Pe (w' := (wA q cI cJ xro xtk xli cn ci cs cso cki cfa cfb cfc cva csn csd csl csb csr csc won wle pte pho nwa (dlyT gu nwa nti (4 * a + (b + 1))))) hP (congrArg (fun w9 : Nat → Int32 => (wA q cI cJ xro xtk xli cn ci cs cso cki cfa cfb cfc cva csn csd csl csb csr csc won wle pte pho nwa w9)) e_5)) (fx_D hD rfl) hS ls (lv_sub hl [2, 3, 4, 0] rfl)
            refine lv_aload_n hx hb dX1_delayAll_58 rfl (lv_at hl 1 rfl) ?_
            refine va_get (D := D) (ci := 1) (v := .ref (q 22)) (C := RX1) (T := TX1) (N := 2) hx hb hts (fun w h => List.mem_cons_of_mem _ (List.mem_append_right _ h)) hown hK hP 20 rfl rfl 1 (by decide) (hts (.fieldLink RX1 15 "FirstStates$Needs" "times" "[I") (List.mem_of_getElem? (i := 2) rfl)) (fun _ h9 => h9) rfl dX1_delayAll_59 ?_
            refine lv_iload_n hx hb dX1_delayAll_62 rfl (lv_at hl 3 rfl) ?_
            refine lv_bipush (v := (-9)) hx hb dX1_delayAll_63 (by decide) ?_
            refine fx_iast (ar := rI) hx hb hK hP hD hS 22 (f := (dlyT gu nwa nti (4 * a + b))) (k := a) (v := (-9)) rfl (by omega) (by decide) rfl dX1_delayAll_65 (fun H locs hP hD hS => ?_)
            have hP : va_P D vwCl (wA q cI cJ xro xtk xli cn ci cs cso cki cfa cfb cfc cva csn csd csl csb csr csc won wle pte pho nwa (va_up (dlyT gu nwa nti (4 * a + b)) a (-9))) H := hP
            have hD : va_D A (wA q cI cJ xro xtk xli cn ci cs cso cki cfa cfb cfc cva csn csd csl csb csr csc won wle pte pho nwa (va_up (dlyT gu nwa nti (4 * a + b)) a (-9))) := fx_D hD rfl
            refine lv_goto (tgt := 111) hx hb dX1_delayAll_66 (by decide) ?_
            refine lv_iinc (v := nI (b + 1)) (lv' := [(3, .int (nI (b + 1))), (4, .int (nwa ((4 * a) + b))), (0, .ref (q 20)), (1, .int (bI gu)), (2, .int (nI a))]) hx hb dX1_delayAll_111 hl (k := 4) rfl (by exact nI_1 _) (by decide) rfl (fun ls hl => ?_)
            refine lv_goto (tgt := 9) hx hb dX1_delayAll_114 (by decide) ?_
            have e_6 : va_up (dlyT gu nwa nti (4 * a + b)) a (-9) = dlyT gu nwa nti (4 * a + (b + 1)) := by first | rfl | (show _ = rlx gu nwa (dlyT gu nwa nti (4 * a + b)) (4 * a + b); rw [rlx_k (by omega), if_neg c_30, if_neg c_41, if_pos c_55])
            exact ih_9 (b + 1) (by first | assumption | omega) (by omega) H locs (fx_Pe (w' := (wA q cI cJ xro xtk xli cn ci cs cso cki cfa cfb cfc cva csn csd csl csb csr csc won wle pte pho nwa (dlyT gu nwa nti (4 * a + (b + 1))))) hP (congrArg (fun w9 : Nat → Int32 => (wA q cI cJ xro xtk xli cn ci cs cso cki cfa cfb cfc cva csn csd csl csb csr csc won wle pte pho nwa w9)) e_6)) (fx_D hD rfl) hS ls (lv_sub hl [2, 3, 4, 0] rfl)
          refine lv_goto (tgt := 111) hx hb dX1_delayAll_44 (by decide) ?_
          refine lv_iinc (v := nI (b + 1)) (lv' := [(3, .int (nI (b + 1))), (4, .int (nwa ((4 * a) + b))), (0, .ref (q 20)), (1, .int (bI gu)), (2, .int (nI a))]) hx hb dX1_delayAll_111 hl (k := 4) rfl (by exact nI_1 _) (by decide) rfl (fun ls hl => ?_)
          refine lv_goto (tgt := 9) hx hb dX1_delayAll_114 (by decide) ?_
          have e_7 : dlyT gu nwa nti (4 * a + b) = dlyT gu nwa nti (4 * a + (b + 1)) := by first | rfl | (show _ = rlx gu nwa (dlyT gu nwa nti (4 * a + b)) (4 * a + b); rw [rlx_k (by omega), if_neg c_30, if_pos c_41])
          exact ih_9 (b + 1) (by first | assumption | omega) (by omega) H locs (fx_Pe (w' := (wA q cI cJ xro xtk xli cn ci cs cso cki cfa cfb cfc cva csn csd csl csb csr csc won wle pte pho nwa (dlyT gu nwa nti (4 * a + (b + 1))))) hP (congrArg (fun w9 : Nat → Int32 => (wA q cI cJ xro xtk xli cn ci cs cso cki cfa cfb cfc cva csn csd csl csb csr csc won wle pte pho nwa w9)) e_7)) (fx_D hD rfl) hS ls (lv_sub hl [2, 3, 4, 0] rfl)
      exact L_9 (4 - 0 + 1) 0 (Nat.zero_le _) (Nat.lt_succ_self _) H locs hP (fx_D hD rfl) hS ls (lv_sub hl [1, 2, 3, 0] rfl)
  exact L_2 (4 - 0 + 1) 0 (Nat.zero_le _) (Nat.lt_succ_self _) H locs hP (fx_D hD rfl) hS ls (lv_sub hl [1, 2, 0] rfl)
set_option maxHeartbeats 4000000 in
set_option maxRecDepth 100000 in
theorem c_X1_reckon (l : Launch) (D : va_G) (cI cJ cZ : ClassId) (q : Nat → Nat) (xro : Int64) (xtk : Nat) (xli : Nat) (cn : Nat) (ci : Nat) (cs : Nat) (cso : Nat → Nat) (cki : Nat → Nat) (cfa : Nat → Nat) (cfb : Nat → Nat) (cfc : Nat → Nat) (cva : Nat → Nat) (csn : Nat → Nat) (csd : Nat → Nat) (csl : Nat → Nat) (csb : Nat → Nat) (csr : Nat → Nat) (csc : Nat → Nat) (won : Nat → Int64) (wle : Nat → Int64) (pte : Nat → Nat) (pho : Nat → Nat) (nwa : Nat → Int32) (nti : Nat → Int32) : Ct l D cI cJ cZ yX1_reckon wsX1_reckon ({ frames := 1, cells := 0, slots := 0, locals := 24 } : Room) 0 0 [.ref (q 20)] (wA q cI cJ xro xtk xli cn ci cs cso cki cfa cfb cfc cva csn csd csl csb csr csc won wle pte pho nwa nti) (S := Unit) (fun u => True) (fun u => none) (fun u => (wA q cI cJ xro xtk xli cn ci cs cso cki cfa cfb cfc cva csn csd csl csb csr csc won wle pte pho nwa (rndT true nwa (rndT false nwa (mixF (fun _ => 0) nti 4) 4) 4))) := by
  refine Ct.ofW (cc := cX1_reckon) (maxL := 2) (ret := none) (R_C := RX1) (by decide +kernel) rfl rfl (Nat.le_of_ble_eq_true rfl) rfl ?_
  intro p e s m args below meth c A Q ls H locs hx hb hml hown hts hK hA hP hD hS hZ hl hri hrl hrv
  refine lv_iconst (v := nI 0) hx hb dX1_reckon_0 (by decide) ?_
  refine lv_istore_n (lv' := [(1, .int (nI 0)), (0, .ref (q 20))]) hx hb dX1_reckon_1 rfl hl (by decide) rfl (fun ls hl => ?_)
  have L_2 : ∀ (fuel : Nat) (i : Nat) (hi : i ≤ 4) (hfu : 4 - i < fuel) (H : Heap) (locs : List Loc), va_P D vwCl (wA q cI cJ xro xtk xli cn ci cs cso cki cfa cfb cfc cva csn csd csl csb csr csc won wle pte pho nwa (mixF (fun _ => 0) nti i)) H → va_D A (wA q cI cJ xro xtk xli cn ci cs cso cki cfa cfb cfc cva csn csd csl csb csr csc won wle pte pho nwa (mixF (fun _ => 0) nti i)) → va_S A s.heap H locs → ∀ ls : Array Slot, lv_has ls 2 [(0, .ref (q 20)), (1, .int (nI i))] → W p l e ({ frames := 1, cells := 0, slots := 0, locals := 24 } : Room) s m args below meth c H locs 0 0 Q (F0 m 2 ls []) := by
    intro fuel
    induction fuel with
    | zero => intro i hi hfu; exact absurd hfu (Nat.not_lt_zero _)
    | succ fuel ih_2 =>
      intro i hi hfu H locs hP hD hS ls hl
      refine lv_iload_n hx hb dX1_reckon_2 rfl (lv_at hl 1 rfl) ?_
      refine lv_iconst (v := nI 4) hx hb dX1_reckon_3 (by decide) ?_
      refine lv_icmp_ge (tgt := 20) hx hb dX1_reckon_4 (by decide) (fun c_4 => ?_) (fun c_4 => ?_)
      · have f_4 : 4 ≤ i := (nI_leI (a := 4) (b := i) (by first | omega | exact b_and1 _ | exact b_ct _ _ (by omega) | exact b_andr _ (by omega)) (by first | omega | exact b_and1 _ | exact b_ct _ _ (by omega) | exact b_andr _ (by omega))).mp c_4
        have e_i : i = 4 := by omega
        refine lv_iconst (v := nI 0) hx hb dX1_reckon_20 (by decide) ?_
        refine lv_istore_n (lv' := [(1, .int (nI 0)), (0, .ref (q 20))]) hx hb dX1_reckon_21 rfl hl (by decide) rfl (fun ls hl => ?_)
        have L_22 : ∀ (fuel : Nat) (k : Nat) (hk : k ≤ 4) (hfu : 4 - k < fuel) (H : Heap) (locs : List Loc), va_P D vwCl (wA q cI cJ xro xtk xli cn ci cs cso cki cfa cfb cfc cva csn csd csl csb csr csc won wle pte pho nwa (rndT false nwa (mixF (fun _ => 0) nti 4) k)) H → va_D A (wA q cI cJ xro xtk xli cn ci cs cso cki cfa cfb cfc cva csn csd csl csb csr csc won wle pte pho nwa (rndT false nwa (mixF (fun _ => 0) nti 4) k)) → va_S A s.heap H locs → ∀ ls : Array Slot, lv_has ls 2 [(0, .ref (q 20)), (1, .int (nI k))] → W p l e ({ frames := 1, cells := 0, slots := 0, locals := 24 } : Room) s m args below meth c H locs 0 0 Q (F0 m 22 ls []) := by
          intro fuel
          induction fuel with
          | zero => intro k hk hfu; exact absurd hfu (Nat.not_lt_zero _)
          | succ fuel ih_22 =>
            intro k hk hfu H locs hP hD hS ls hl
            refine lv_iload_n hx hb dX1_reckon_22 rfl (lv_at hl 1 rfl) ?_
            refine lv_iconst (v := nI 4) hx hb dX1_reckon_23 (by decide) ?_
            refine lv_icmp_ge (tgt := 38) hx hb dX1_reckon_24 (by decide) (fun c_24 => ?_) (fun c_24 => ?_)
            · have f_24 : 4 ≤ k := (nI_leI (a := 4) (b := k) (by first | omega | exact b_and1 _ | exact b_ct _ _ (by omega) | exact b_andr _ (by omega)) (by first | omega | exact b_and1 _ | exact b_ct _ _ (by omega) | exact b_andr _ (by omega))).mp c_24
              have e_k : k = 4 := by omega
              refine lv_iconst (v := nI 0) hx hb dX1_reckon_38 (by decide) ?_
              refine lv_istore_n (lv' := [(1, .int (nI 0)), (0, .ref (q 20))]) hx hb dX1_reckon_39 rfl hl (by decide) rfl (fun ls hl => ?_)
              have L_40 : ∀ (fuel : Nat) (n : Nat) (hn : n ≤ 4) (hfu : 4 - n < fuel) (H : Heap) (locs : List Loc), va_P D vwCl (wA q cI cJ xro xtk xli cn ci cs cso cki cfa cfb cfc cva csn csd csl csb csr csc won wle pte pho nwa (rndT true nwa (rndT false nwa (mixF (fun _ => 0) nti 4) 4) n)) H → va_D A (wA q cI cJ xro xtk xli cn ci cs cso cki cfa cfb cfc cva csn csd csl csb csr csc won wle pte pho nwa (rndT true nwa (rndT false nwa (mixF (fun _ => 0) nti 4) 4) n)) → va_S A s.heap H locs → ∀ ls : Array Slot, lv_has ls 2 [(0, .ref (q 20)), (1, .int (nI n))] → W p l e ({ frames := 1, cells := 0, slots := 0, locals := 24 } : Room) s m args below meth c H locs 0 0 Q (F0 m 40 ls []) := by
                intro fuel
                induction fuel with
                | zero => intro n hn hfu; exact absurd hfu (Nat.not_lt_zero _)
                | succ fuel ih_40 =>
                  intro n hn hfu H locs hP hD hS ls hl
                  refine lv_iload_n hx hb dX1_reckon_40 rfl (lv_at hl 1 rfl) ?_
                  refine lv_iconst (v := nI 4) hx hb dX1_reckon_41 (by decide) ?_
                  refine lv_icmp_ge (tgt := 56) hx hb dX1_reckon_42 (by decide) (fun c_42 => ?_) (fun c_42 => ?_)
                  · have f_42 : 4 ≤ n := (nI_leI (a := 4) (b := n) (by first | omega | exact b_and1 _ | exact b_ct _ _ (by omega) | exact b_andr _ (by omega)) (by first | omega | exact b_and1 _ | exact b_ct _ _ (by omega) | exact b_andr _ (by omega))).mp c_42
                    have e_n : n = 4 := by omega
                    have e_1 : rndT true nwa (rndT false nwa (mixF (fun _ => 0) nti 4) 4) n = rndT true nwa (rndT false nwa (mixF (fun _ => 0) nti 4) 4) 4 := by first | rfl | (rw [e_n])
                    exact hrv () H locs 56 ls rfl trivial rfl (fx_Pe (w' := (wA q cI cJ xro xtk xli cn ci cs cso cki cfa cfb cfc cva csn csd csl csb csr csc won wle pte pho nwa (rndT true nwa (rndT false nwa (mixF (fun _ => 0) nti 4) 4) 4))) hP (congrArg (fun w9 : Nat → Int32 => (wA q cI cJ xro xtk xli cn ci cs cso cki cfa cfb cfc cva csn csd csl csb csr csc won wle pte pho nwa w9)) e_1)) (fx_D hD rfl) hS dX1_reckon_56
                  have f_42 : ¬ 4 ≤ n := fun h => c_42 ((nI_leI (a := 4) (b := n) (by first | omega | exact b_and1 _ | exact b_ct _ _ (by omega) | exact b_andr _ (by omega)) (by first | omega | exact b_and1 _ | exact b_ct _ _ (by omega) | exact b_andr _ (by omega))).mpr h)
                  refine lv_aload_n hx hb dX1_reckon_45 rfl (lv_at hl 0 rfl) ?_
                  refine lv_iconst (v := nI 1) hx hb dX1_reckon_46 (by decide) ?_
                  refine fx_callV (As := [.int (bI true)]) (rest := []) ⟨hx, hb, hml, hown, hts⟩ (c_X1_delayAll l D cI cJ cZ q xro xtk xli cn ci cs cso cki cfa cfb cfc cva csn csd csl csb csr csc won wle pte pho nwa (rndT true nwa (rndT false nwa (mixF (fun _ => 0) nti 4) 4) n) true) (cwV 1 hts gX1_reckon_X1_delayAll rfl rfl rfl kv_X1_delayAll ⟨Nat.le_of_ble_eq_true rfl, Nat.le_of_ble_eq_true rfl⟩) hK hP hD hS hA hZ 20 rfl rfl rfl rfl hl.1 rfl (lv_room (Nat.le_of_ble_eq_true rfl)) dX1_reckon_47 ⟨Nat.zero_le _, Nat.zero_le _⟩ (fun u_2 H locs hu_2 hP hD hS => ?_)
                  have hP : va_P D vwCl (wA q cI cJ xro xtk xli cn ci cs cso cki cfa cfb cfc cva csn csd csl csb csr csc won wle pte pho nwa (dlyT true nwa (rndT true nwa (rndT false nwa (mixF (fun _ => 0) nti 4) 4) n) 16)) H := hP
                  have hD : va_D A (wA q cI cJ xro xtk xli cn ci cs cso cki cfa cfb cfc cva csn csd csl csb csr csc won wle pte pho nwa (dlyT true nwa (rndT true nwa (rndT false nwa (mixF (fun _ => 0) nti 4) 4) n) 16)) := fx_D hD rfl
                  refine lv_iinc (v := nI (n + 1)) (lv' := [(1, .int (nI (n + 1))), (0, .ref (q 20))]) hx hb dX1_reckon_50 hl (k := 1) rfl (by exact nI_1 _) (by decide) rfl (fun ls hl => ?_)
                  refine lv_goto (tgt := 40) hx hb dX1_reckon_53 (by decide) ?_
                  have e_3 : dlyT true nwa (rndT true nwa (rndT false nwa (mixF (fun _ => 0) nti 4) 4) n) 16 = rndT true nwa (rndT false nwa (mixF (fun _ => 0) nti 4) 4) (n + 1) := by first | rfl | (rw [e_k]; rfl)
                  exact ih_40 (n + 1) (by first | assumption | omega) (by omega) H locs (fx_Pe (w' := (wA q cI cJ xro xtk xli cn ci cs cso cki cfa cfb cfc cva csn csd csl csb csr csc won wle pte pho nwa (rndT true nwa (rndT false nwa (mixF (fun _ => 0) nti 4) 4) (n + 1)))) hP (congrArg (fun w9 : Nat → Int32 => (wA q cI cJ xro xtk xli cn ci cs cso cki cfa cfb cfc cva csn csd csl csb csr csc won wle pte pho nwa w9)) e_3)) (fx_D hD rfl) hS ls (lv_sub hl [1, 0] rfl)
              have e_4 : rndT false nwa (mixF (fun _ => 0) nti 4) k = rndT true nwa (rndT false nwa (mixF (fun _ => 0) nti 4) 4) 0 := by first | rfl | (rw [e_k]; rfl)
              exact L_40 (4 - 0 + 1) 0 (Nat.zero_le _) (Nat.lt_succ_self _) H locs (fx_Pe (w' := (wA q cI cJ xro xtk xli cn ci cs cso cki cfa cfb cfc cva csn csd csl csb csr csc won wle pte pho nwa (rndT true nwa (rndT false nwa (mixF (fun _ => 0) nti 4) 4) 0))) hP (congrArg (fun w9 : Nat → Int32 => (wA q cI cJ xro xtk xli cn ci cs cso cki cfa cfb cfc cva csn csd csl csb csr csc won wle pte pho nwa w9)) e_4)) (fx_D hD rfl) hS ls (lv_sub hl [1, 0] rfl)
            have f_24 : ¬ 4 ≤ k := fun h => c_24 ((nI_leI (a := 4) (b := k) (by first | omega | exact b_and1 _ | exact b_ct _ _ (by omega) | exact b_andr _ (by omega)) (by first | omega | exact b_and1 _ | exact b_ct _ _ (by omega) | exact b_andr _ (by omega))).mpr h)
            refine lv_aload_n hx hb dX1_reckon_27 rfl (lv_at hl 0 rfl) ?_
            refine lv_iconst (v := nI 0) hx hb dX1_reckon_28 (by decide) ?_
            refine fx_callV (As := [.int (bI false)]) (rest := []) ⟨hx, hb, hml, hown, hts⟩ (c_X1_delayAll l D cI cJ cZ q xro xtk xli cn ci cs cso cki cfa cfb cfc cva csn csd csl csb csr csc won wle pte pho nwa (rndT false nwa (mixF (fun _ => 0) nti 4) k) false) (cwV 1 hts gX1_reckon_X1_delayAll rfl rfl rfl kv_X1_delayAll ⟨Nat.le_of_ble_eq_true rfl, Nat.le_of_ble_eq_true rfl⟩) hK hP hD hS hA hZ 20 rfl rfl rfl rfl hl.1 rfl (lv_room (Nat.le_of_ble_eq_true rfl)) dX1_reckon_29 ⟨Nat.zero_le _, Nat.zero_le _⟩ (fun u_5 H locs hu_5 hP hD hS => ?_)
            have hP : va_P D vwCl (wA q cI cJ xro xtk xli cn ci cs cso cki cfa cfb cfc cva csn csd csl csb csr csc won wle pte pho nwa (dlyT false nwa (rndT false nwa (mixF (fun _ => 0) nti 4) k) 16)) H := hP
            have hD : va_D A (wA q cI cJ xro xtk xli cn ci cs cso cki cfa cfb cfc cva csn csd csl csb csr csc won wle pte pho nwa (dlyT false nwa (rndT false nwa (mixF (fun _ => 0) nti 4) k) 16)) := fx_D hD rfl
            refine lv_iinc (v := nI (k + 1)) (lv' := [(1, .int (nI (k + 1))), (0, .ref (q 20))]) hx hb dX1_reckon_32 hl (k := 1) rfl (by exact nI_1 _) (by decide) rfl (fun ls hl => ?_)
            refine lv_goto (tgt := 22) hx hb dX1_reckon_35 (by decide) ?_
            have e_6 : dlyT false nwa (rndT false nwa (mixF (fun _ => 0) nti 4) k) 16 = rndT false nwa (mixF (fun _ => 0) nti 4) (k + 1) := by first | rfl | (rw [e_i]; rfl)
            exact ih_22 (k + 1) (by first | assumption | omega) (by omega) H locs (fx_Pe (w' := (wA q cI cJ xro xtk xli cn ci cs cso cki cfa cfb cfc cva csn csd csl csb csr csc won wle pte pho nwa (rndT false nwa (mixF (fun _ => 0) nti 4) (k + 1)))) hP (congrArg (fun w9 : Nat → Int32 => (wA q cI cJ xro xtk xli cn ci cs cso cki cfa cfb cfc cva csn csd csl csb csr csc won wle pte pho nwa w9)) e_6)) (fx_D hD rfl) hS ls (lv_sub hl [1, 0] rfl)
        have e_7 : mixF (fun _ => 0) nti i = rndT false nwa (mixF (fun _ => 0) nti 4) 0 := by first | rfl | (rw [e_i]; rfl)
        exact L_22 (4 - 0 + 1) 0 (Nat.zero_le _) (Nat.lt_succ_self _) H locs (fx_Pe (w' := (wA q cI cJ xro xtk xli cn ci cs cso cki cfa cfb cfc cva csn csd csl csb csr csc won wle pte pho nwa (rndT false nwa (mixF (fun _ => 0) nti 4) 0))) hP (congrArg (fun w9 : Nat → Int32 => (wA q cI cJ xro xtk xli cn ci cs cso cki cfa cfb cfc cva csn csd csl csb csr csc won wle pte pho nwa w9)) e_7)) (fx_D hD rfl) hS ls (lv_sub hl [1, 0] rfl)
      have f_4 : ¬ 4 ≤ i := fun h => c_4 ((nI_leI (a := 4) (b := i) (by first | omega | exact b_and1 _ | exact b_ct _ _ (by omega) | exact b_andr _ (by omega)) (by first | omega | exact b_and1 _ | exact b_ct _ _ (by omega) | exact b_andr _ (by omega))).mpr h)
      refine lv_aload_n hx hb dX1_reckon_7 rfl (lv_at hl 0 rfl) ?_
      refine va_get (D := D) (ci := 1) (v := .ref (q 22)) (C := RX1) (T := TX1) (N := 2) hx hb hts (fun w h => List.mem_cons_of_mem _ (List.mem_append_right _ h)) hown hK hP 20 rfl rfl 1 (by decide) (hts (.fieldLink RX1 15 "FirstStates$Needs" "times" "[I") (List.mem_of_getElem? (i := 1) rfl)) (fun _ h9 => h9) rfl dX1_reckon_8 ?_
      refine lv_iload_n hx hb dX1_reckon_11 rfl (lv_at hl 1 rfl) ?_
      refine lv_iconst (v := nI 0) hx hb dX1_reckon_12 (by decide) ?_
      refine fx_iast (ar := rI) hx hb hK hP hD hS 22 (f := (mixF (fun _ => 0) nti i)) (k := i) (v := (nI 0)) rfl (by omega) (by decide) rfl dX1_reckon_13 (fun H locs hP hD hS => ?_)
      have hP : va_P D vwCl (wA q cI cJ xro xtk xli cn ci cs cso cki cfa cfb cfc cva csn csd csl csb csr csc won wle pte pho nwa (va_up (mixF (fun _ => 0) nti i) i (nI 0))) H := hP
      have hD : va_D A (wA q cI cJ xro xtk xli cn ci cs cso cki cfa cfb cfc cva csn csd csl csb csr csc won wle pte pho nwa (va_up (mixF (fun _ => 0) nti i) i (nI 0))) := fx_D hD rfl
      refine lv_iinc (v := nI (i + 1)) (lv' := [(1, .int (nI (i + 1))), (0, .ref (q 20))]) hx hb dX1_reckon_14 hl (k := 1) rfl (by exact nI_1 _) (by decide) rfl (fun ls hl => ?_)
      refine lv_goto (tgt := 2) hx hb dX1_reckon_17 (by decide) ?_
      have e_8 : va_up (mixF (fun _ => 0) nti i) i (nI 0) = mixF (fun _ => 0) nti (i + 1) := by first | rfl | (exact mix_up _ _ _ _ rfl)
      exact ih_2 (i + 1) (by first | assumption | omega) (by omega) H locs (fx_Pe (w' := (wA q cI cJ xro xtk xli cn ci cs cso cki cfa cfb cfc cva csn csd csl csb csr csc won wle pte pho nwa (mixF (fun _ => 0) nti (i + 1)))) hP (congrArg (fun w9 : Nat → Int32 => (wA q cI cJ xro xtk xli cn ci cs cso cki cfa cfb cfc cva csn csd csl csb csr csc won wle pte pho nwa w9)) e_8)) (fx_D hD rfl) hS ls (lv_sub hl [1, 0] rfl)
  have e_9 : nti = mixF (fun _ => 0) nti 0 := by first | rfl | (exact (mix_0 _ _).symm)
  exact L_2 (4 - 0 + 1) 0 (Nat.zero_le _) (Nat.lt_succ_self _) H locs (fx_Pe (w' := (wA q cI cJ xro xtk xli cn ci cs cso cki cfa cfb cfc cva csn csd csl csb csr csc won wle pte pho nwa (mixF (fun _ => 0) nti 0))) hP (congrArg (fun w9 : Nat → Int32 => (wA q cI cJ xro xtk xli cn ci cs cso cki cfa cfb cfc cva csn csd csl csb csr csc won wle pte pho nwa w9)) e_9)) (fx_D hD rfl) hS ls (lv_sub hl [1, 0] rfl)
