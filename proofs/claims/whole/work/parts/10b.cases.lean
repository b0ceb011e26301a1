/-! The law, call by call. -/
section LK
variable {l : Launch} {D : va_G} {cI cJ cZ : ClassId} {q z : Nat → Nat} {nn : Nat} {w1 w2 : va_W}
theorem jj_input (h : St q z cI cJ cZ nn w1 w2)  : Jt l D cI cJ cZ q z nn yX4_input wsX4_input 2 yX5_input wsX5_input 1 [] w1 w2 := by
  obtain ⟨xro, xtk, xli, cn, ci, cs, cso, cki, cfa, cfb, cfc, cva, csn, csd, csl, csb, csr, csc, won, wle, pte, pho, nwa, nti, mso, mwh, mfi, mse, mth, mpu, mno, mlo, mbe, mre, mis, mca, mpa, mva, mle, mst, mtn, mln, mne, mgo, hI, rfl, rfl⟩ := h
  exact j_input hI 
theorem jj_fixed (h : St q z cI cJ cZ nn w1 w2) (x : Int32) : Jt l D cI cJ cZ q z nn yX4_fixed wsX4_fixed 3 yX5_fixed wsX5_fixed 2 [.int x] w1 w2 := by
  obtain ⟨xro, xtk, xli, cn, ci, cs, cso, cki, cfa, cfb, cfc, cva, csn, csd, csl, csb, csr, csc, won, wle, pte, pho, nwa, nti, mso, mwh, mfi, mse, mth, mpu, mno, mlo, mbe, mre, mis, mca, mpa, mva, mle, mst, mtn, mln, mne, mgo, hI, rfl, rfl⟩ := h
  exact j_fixed hI x
theorem jj_gate (h : St q z cI cJ cZ nn w1 w2) (k x y zz : Int32) : Jt l D cI cJ cZ q z nn yX4_gate wsX4_gate 8 yX5_gate wsX5_gate 5 [.int k, .int x, .int y, .int zz] w1 w2 := by
  obtain ⟨xro, xtk, xli, cn, ci, cs, cso, cki, cfa, cfb, cfc, cva, csn, csd, csl, csb, csr, csc, won, wle, pte, pho, nwa, nti, mso, mwh, mfi, mse, mth, mpu, mno, mlo, mbe, mre, mis, mca, mpa, mva, mle, mst, mtn, mln, mne, mgo, hI, rfl, rfl⟩ := h
  exact j_gate hI k x y zz
theorem jj_store (h : St q z cI cJ cZ nn w1 w2) (x y : Int32) : Jt l D cI cJ cZ q z nn yX4_store wsX4_store 4 yX5_store wsX5_store 3 [.int x, .int y] w1 w2 := by
  obtain ⟨xro, xtk, xli, cn, ci, cs, cso, cki, cfa, cfb, cfc, cva, csn, csd, csl, csb, csr, csc, won, wle, pte, pho, nwa, nti, mso, mwh, mfi, mse, mth, mpu, mno, mlo, mbe, mre, mis, mca, mpa, mva, mle, mst, mtn, mln, mne, mgo, hI, rfl, rfl⟩ := h
  exact j_store hI x y
theorem jj_reads (h : St q z cI cJ cZ nn w1 w2) (x y : Int32) : Jt l D cI cJ cZ q z nn yX4_reads wsX4_reads 5 yX5_reads wsX5_reads 4 [.int x, .int y] w1 w2 := by
  obtain ⟨xro, xtk, xli, cn, ci, cs, cso, cki, cfa, cfb, cfc, cva, csn, csd, csl, csb, csr, csc, won, wle, pte, pho, nwa, nti, mso, mwh, mfi, mse, mth, mpu, mno, mlo, mbe, mre, mis, mca, mpa, mva, mle, mst, mtn, mln, mne, mgo, hI, rfl, rfl⟩ := h
  exact j_reads hI x y
theorem jj_about (h : St q z cI cJ cZ nn w1 w2) (x y : Int32) : Jt l D cI cJ cZ q z nn yX4_about wsX4_about 3 yX5_about wsX5_about 4 [.int x, .int y] w1 w2 := by
  obtain ⟨xro, xtk, xli, cn, ci, cs, cso, cki, cfa, cfb, cfc, cva, csn, csd, csl, csb, csr, csc, won, wle, pte, pho, nwa, nti, mso, mwh, mfi, mse, mth, mpu, mno, mlo, mbe, mre, mis, mca, mpa, mva, mle, mst, mtn, mln, mne, mgo, hI, rfl, rfl⟩ := h
  exact j_about hI x y
theorem jj_line (h : St q z cI cJ cZ nn w1 w2) (x : Int32) (on : Bool) : Jt l D cI cJ cZ q z nn yX4_line wsX4_line 5 yX5_line wsX5_line 4 [.int x, .int (bI on)] w1 w2 := by
  obtain ⟨xro, xtk, xli, cn, ci, cs, cso, cki, cfa, cfb, cfc, cva, csn, csd, csl, csb, csr, csc, won, wle, pte, pho, nwa, nti, mso, mwh, mfi, mse, mth, mpu, mno, mlo, mbe, mre, mis, mca, mpa, mva, mle, mst, mtn, mln, mne, mgo, hI, rfl, rfl⟩ := h
  exact j_line hI x on
theorem jj_set (h : St q z cI cJ cZ nn w1 w2) (x y : Int32) : Jt l D cI cJ cZ q z nn yX4_set wsX4_set 4 yX5_set wsX5_set 4 [.int x, .int y] w1 w2 := by
  obtain ⟨xro, xtk, xli, cn, ci, cs, cso, cki, cfa, cfb, cfc, cva, csn, csd, csl, csb, csr, csc, won, wle, pte, pho, nwa, nti, mso, mwh, mfi, mse, mth, mpu, mno, mlo, mbe, mre, mis, mca, mpa, mva, mle, mst, mtn, mln, mne, mgo, hI, rfl, rfl⟩ := h
  exact j_set hI x y
theorem jj_tick (h : St q z cI cJ cZ nn w1 w2) (hnn : nn ≤ 600) (x : Int32) : Jt l D cI cJ cZ q z nn yX4_tick wsX4_tick 4 yX5_tick wsX5_tick 5 [.int x] w1 w2 := by
  obtain ⟨xro, xtk, xli, cn, ci, cs, cso, cki, cfa, cfb, cfc, cva, csn, csd, csl, csb, csr, csc, won, wle, pte, pho, nwa, nti, mso, mwh, mfi, mse, mth, mpu, mno, mlo, mbe, mre, mis, mca, mpa, mva, mle, mst, mtn, mln, mne, mgo, hI, rfl, rfl⟩ := h
  exact j_tick hI hnn x
theorem jj_fresh (h : St q z cI cJ cZ nn w1 w2)  : Jt l D cI cJ cZ q z nn yX4_fresh wsX4_fresh 2 yX5_fresh wsX5_fresh 2 [] w1 w2 := by
  obtain ⟨xro, xtk, xli, cn, ci, cs, cso, cki, cfa, cfb, cfc, cva, csn, csd, csl, csb, csr, csc, won, wle, pte, pho, nwa, nti, mso, mwh, mfi, mse, mth, mpu, mno, mlo, mbe, mre, mis, mca, mpa, mva, mle, mst, mtn, mln, mne, mgo, hI, rfl, rfl⟩ := h
  exact j_fresh hI 
theorem jj_possible (h : St q z cI cJ cZ nn w1 w2)  : Jt l D cI cJ cZ q z nn yX4_possible wsX4_possible 1 yX5_possible wsX5_possible 1 [] w1 w2 := by
  obtain ⟨xro, xtk, xli, cn, ci, cs, cso, cki, cfa, cfb, cfc, cva, csn, csd, csl, csb, csr, csc, won, wle, pte, pho, nwa, nti, mso, mwh, mfi, mse, mth, mpu, mno, mlo, mbe, mre, mis, mca, mpa, mva, mle, mst, mtn, mln, mne, mgo, hI, rfl, rfl⟩ := h
  exact j_possible hI 
theorem jj_row (h : St q z cI cJ cZ nn w1 w2) (x : Int32) : Jt l D cI cJ cZ q z nn yX4_row wsX4_row 4 yX5_row wsX5_row 4 [.int x] w1 w2 := by
  obtain ⟨xro, xtk, xli, cn, ci, cs, cso, cki, cfa, cfb, cfc, cva, csn, csd, csl, csb, csr, csc, won, wle, pte, pho, nwa, nti, mso, mwh, mfi, mse, mth, mpu, mno, mlo, mbe, mre, mis, mca, mpa, mva, mle, mst, mtn, mln, mne, mgo, hI, rfl, rfl⟩ := h
  exact j_row hI x
theorem jj_sure (h : St q z cI cJ cZ nn w1 w2) (x : Int32) : Jt l D cI cJ cZ q z nn yX4_sure wsX4_sure 2 yX5_sure wsX5_sure 2 [.int x] w1 w2 := by
  obtain ⟨xro, xtk, xli, cn, ci, cs, cso, cki, cfa, cfb, cfc, cva, csn, csd, csl, csb, csr, csc, won, wle, pte, pho, nwa, nti, mso, mwh, mfi, mse, mth, mpu, mno, mlo, mbe, mre, mis, mca, mpa, mva, mle, mst, mtn, mln, mne, mgo, hI, rfl, rfl⟩ := h
  exact j_sure hI x
theorem jj_told (h : St q z cI cJ cZ nn w1 w2) (x : Int32) : Jt l D cI cJ cZ q z nn yX4_told wsX4_told 2 yX5_told wsX5_told 2 [.int x] w1 w2 := by
  obtain ⟨xro, xtk, xli, cn, ci, cs, cso, cki, cfa, cfb, cfc, cva, csn, csd, csl, csb, csr, csc, won, wle, pte, pho, nwa, nti, mso, mwh, mfi, mse, mth, mpu, mno, mlo, mbe, mre, mis, mca, mpa, mva, mle, mst, mtn, mln, mne, mgo, hI, rfl, rfl⟩ := h
  exact j_told hI x
theorem jj_known (h : St q z cI cJ cZ nn w1 w2) (b : Bool) : Jt l D cI cJ cZ q z nn yX4_known wsX4_known 2 yX5_known wsX5_known 4 [.int (bI b)] w1 w2 := by
  obtain ⟨xro, xtk, xli, cn, ci, cs, cso, cki, cfa, cfb, cfc, cva, csn, csd, csl, csb, csr, csc, won, wle, pte, pho, nwa, nti, mso, mwh, mfi, mse, mth, mpu, mno, mlo, mbe, mre, mis, mca, mpa, mva, mle, mst, mtn, mln, mne, mgo, hI, rfl, rfl⟩ := h
  exact j_known hI b
theorem jj_settles (h : St q z cI cJ cZ nn w1 w2)  : Jt l D cI cJ cZ q z nn yX4_settles wsX4_settles 1 yX5_settles wsX5_settles 1 [] w1 w2 := by
  obtain ⟨xro, xtk, xli, cn, ci, cs, cso, cki, cfa, cfb, cfc, cva, csn, csd, csl, csb, csr, csc, won, wle, pte, pho, nwa, nti, mso, mwh, mfi, mse, mth, mpu, mno, mlo, mbe, mre, mis, mca, mpa, mva, mle, mst, mtn, mln, mne, mgo, hI, rfl, rfl⟩ := h
  exact j_settles hI 
theorem jj_next (h : St q z cI cJ cZ nn w1 w2) (x : Int32) : Jt l D cI cJ cZ q z nn yX4_next wsX4_next 3 yX5_next wsX5_next 6 [.int x] w1 w2 := by
  obtain ⟨xro, xtk, xli, cn, ci, cs, cso, cki, cfa, cfb, cfc, cva, csn, csd, csl, csb, csr, csc, won, wle, pte, pho, nwa, nti, mso, mwh, mfi, mse, mth, mpu, mno, mlo, mbe, mre, mis, mca, mpa, mva, mle, mst, mtn, mln, mne, mgo, hI, rfl, rfl⟩ := h
  exact j_next hI x
theorem jj_depends (h : St q z cI cJ cZ nn w1 w2) (x y : Int32) : Jt l D cI cJ cZ q z nn yX4_depends wsX4_depends 3 yX5_depends wsX5_depends 3 [.int x, .int y] w1 w2 := by
  obtain ⟨xro, xtk, xli, cn, ci, cs, cso, cki, cfa, cfb, cfc, cva, csn, csd, csl, csb, csr, csc, won, wle, pte, pho, nwa, nti, mso, mwh, mfi, mse, mth, mpu, mno, mlo, mbe, mre, mis, mca, mpa, mva, mle, mst, mtn, mln, mne, mgo, hI, rfl, rfl⟩ := h
  exact j_depends hI x y
theorem jj_crossings (h : St q z cI cJ cZ nn w1 w2)  : Jt l D cI cJ cZ q z nn yX4_crossings wsX4_crossings 4 yX5_crossings wsX5_crossings 1 [] w1 w2 := by
  obtain ⟨xro, xtk, xli, cn, ci, cs, cso, cki, cfa, cfb, cfc, cva, csn, csd, csl, csb, csr, csc, won, wle, pte, pho, nwa, nti, mso, mwh, mfi, mse, mth, mpu, mno, mlo, mbe, mre, mis, mca, mpa, mva, mle, mst, mtn, mln, mne, mgo, hI, rfl, rfl⟩ := h
  exact j_crossings hI 
theorem jj_crossing (h : St q z cI cJ cZ nn w1 w2) (x : Int32) : Jt l D cI cJ cZ q z nn yX4_crossing wsX4_crossing 5 yX5_crossing wsX5_crossing 2 [.int x] w1 w2 := by
  obtain ⟨xro, xtk, xli, cn, ci, cs, cso, cki, cfa, cfb, cfc, cva, csn, csd, csl, csb, csr, csc, won, wle, pte, pho, nwa, nti, mso, mwh, mfi, mse, mth, mpu, mno, mlo, mbe, mre, mis, mca, mpa, mva, mle, mst, mtn, mln, mne, mgo, hI, rfl, rfl⟩ := h
  exact j_crossing hI x
theorem jj_alone (h : St q z cI cJ cZ nn w1 w2) (x : Int32) : Jt l D cI cJ cZ q z nn yX4_alone wsX4_alone 2 yX5_alone wsX5_alone 4 [.int x] w1 w2 := by
  obtain ⟨xro, xtk, xli, cn, ci, cs, cso, cki, cfa, cfb, cfc, cva, csn, csd, csl, csb, csr, csc, won, wle, pte, pho, nwa, nti, mso, mwh, mfi, mse, mth, mpu, mno, mlo, mbe, mre, mis, mca, mpa, mva, mle, mst, mtn, mln, mne, mgo, hI, rfl, rfl⟩ := h
  exact j_alone hI x
theorem jj_mend (h : St q z cI cJ cZ nn w1 w2) (x : Int32) : Jt l D cI cJ cZ q z nn yX4_mend wsX4_mend 5 yX5_mend wsX5_mend 6 [.int x] w1 w2 := by
  obtain ⟨xro, xtk, xli, cn, ci, cs, cso, cki, cfa, cfb, cfc, cva, csn, csd, csl, csb, csr, csc, won, wle, pte, pho, nwa, nti, mso, mwh, mfi, mse, mth, mpu, mno, mlo, mbe, mre, mis, mca, mpa, mva, mle, mst, mtn, mln, mne, mgo, hI, rfl, rfl⟩ := h
  exact j_mend hI x
theorem jj_need (h : St q z cI cJ cZ nn w1 w2) (x y zz : Int32) : Jt l D cI cJ cZ q z nn yX4_need wsX4_need 4 yX5_need wsX5_need 5 [.int x, .int y, .int zz] w1 w2 := by
  obtain ⟨xro, xtk, xli, cn, ci, cs, cso, cki, cfa, cfb, cfc, cva, csn, csd, csl, csb, csr, csc, won, wle, pte, pho, nwa, nti, mso, mwh, mfi, mse, mth, mpu, mno, mlo, mbe, mre, mis, mca, mpa, mva, mle, mst, mtn, mln, mne, mgo, hI, rfl, rfl⟩ := h
  exact j_need hI x y zz
theorem jj_go (h : St q z cI cJ cZ nn w1 w2) (x : Int32) : Jt l D cI cJ cZ q z nn yX4_go wsX4_go 2 yX5_go wsX5_go 2 [.int x] w1 w2 := by
  obtain ⟨xro, xtk, xli, cn, ci, cs, cso, cki, cfa, cfb, cfc, cva, csn, csd, csl, csb, csr, csc, won, wle, pte, pho, nwa, nti, mso, mwh, mfi, mse, mth, mpu, mno, mlo, mbe, mre, mis, mca, mpa, mva, mle, mst, mtn, mln, mne, mgo, hI, rfl, rfl⟩ := h
  exact j_go hI x
theorem jj_gone (h : St q z cI cJ cZ nn w1 w2) (x : Int32) : Jt l D cI cJ cZ q z nn yX4_gone wsX4_gone 4 yX5_gone wsX5_gone 4 [.int x] w1 w2 := by
  obtain ⟨xro, xtk, xli, cn, ci, cs, cso, cki, cfa, cfb, cfc, cva, csn, csd, csl, csb, csr, csc, won, wle, pte, pho, nwa, nti, mso, mwh, mfi, mse, mth, mpu, mno, mlo, mbe, mre, mis, mca, mpa, mva, mle, mst, mtn, mln, mne, mgo, hI, rfl, rfl⟩ := h
  exact j_gone hI x
theorem jj_count (h : St q z cI cJ cZ nn w1 w2) (x : Int32) : Jt l D cI cJ cZ q z nn yX4_count wsX4_count 2 yX5_count wsX5_count 4 [.int x] w1 w2 := by
  obtain ⟨xro, xtk, xli, cn, ci, cs, cso, cki, cfa, cfb, cfc, cva, csn, csd, csl, csb, csr, csc, won, wle, pte, pho, nwa, nti, mso, mwh, mfi, mse, mth, mpu, mno, mlo, mbe, mre, mis, mca, mpa, mva, mle, mst, mtn, mln, mne, mgo, hI, rfl, rfl⟩ := h
  exact j_count hI x
end LK
section LQ
variable {p : Program} {l : Launch} {e : Env} {s : State} {m : MethodId} {below : List Frame} {meth : Method} {c : Code} {H : Heap} {locs : List Loc} {Q : State → Prop} {b L : Nat} {xs : Nat → Int32} {D : va_G} {cI cJ cZ : ClassId} {q z : Nat → Nat} {w1 w2 : va_W}
variable {ls : Array Slot} {rest : List Value} {pc : Nat}
/-- x != 0 -/
theorem law_ne {x : Int32} (hx : p.tables.exec = Jvm.exec) (hb : c.code = cL_law) (d0 : decode cL_law pc = .ok (.ifCond .eq 7, 3)) (d1 : decode cL_law (pc + 3) = .ok (.iconst 1, 1)) (d2 : decode cL_law (pc + 3 + 1) = .ok (.goto 4, 3)) (d3 : decode cL_law (pc + 7) = .ok (.iconst 0, 1))
    (kk : W p l e room_1 s m #[Value.ref b] below meth c H locs 44 1986 Q (F0 m (pc + 8) ls (.int (bI (!decide (x = 0))) :: rest))) : W p l e room_1 s m #[Value.ref b] below meth c H locs 44 1986 Q (F0 m pc ls (.int x :: rest)) := by
  refine lv_if_eq (tgt := pc + 7) hx hb d0 (by omega) (fun e0 => ?_) (fun e0 => ?_)
  · refine lv_iconst (v := nI 0) hx hb d3 (by decide) ?_
    rw [decide_eq_true e0] at kk
    exact kk
  · refine lv_iconst (v := nI 1) hx hb d1 (by decide) ?_
    refine lv_goto (tgt := pc + 8) hx hb d2 (by omega) ?_
    rw [decide_eq_false e0] at kk
    exact kk
set_option maxHeartbeats 4000000 in
theorem lc_input (C : LC p s m c b L xs D cI cJ cZ) (hL : L ≤ 2560) {nn : Nat} (hnn : 5 * nn + 5 ≤ L) (h : St q z cI cJ cZ nn w1 w2) (hP : va_P D vwCl (w1 ++ w2) H) (hD : va_D (lA s) (w1 ++ w2)) (hS : va_S (lA s) s.heap H locs) (hl : lv_has ls 4 [(0, .ref b), (1, .ref (q 0)), (2, .ref (z 0)), (3, .int (nI (5 * nn)))])
    (kk : ∀ (w1 w2 : va_W) (H : Heap) (locs : List Loc), St q z cI cJ cZ (nn + 1) w1 w2 → va_P D vwCl (w1 ++ w2) H → va_D (lA s) (w1 ++ w2) → va_S (lA s) s.heap H locs → W p l e room_1 s m #[Value.ref b] below meth c H locs 44 1986 Q (F0 m 842 ls [])) : W p l e room_1 s m #[Value.ref b] below meth c H locs 44 1986 Q (F0 m 152 ls []) := by
  have hx := C.1
  have hb : c.code = cL_law := C.2.1
  obtain ⟨v, rm1, w1', f1, i1, c1, rm2, S2, ps, w2', f2, c2, st⟩ := jj_input (l := l) (D := D) h 
  refine lv_aload_n hx hb dL_law_152 rfl (lv_at hl 1 rfl) ?_
  refine law_c1 (As := []) (rest := []) C h.isA h.isM c1 (fun hts => cwV 0 hts gL_law_X4_input rfl f1.1 f1.2.1 kv_X4_input ⟨f1.2.2.1, f1.2.2.2⟩) hP hD hS rfl hl.1 rfl (lv_room (Nat.le_of_ble_eq_true rfl)) dL_law_153 (fun u1 H locs _ hP hD hS => ?_)
  refine lv_aload_n hx hb dL_law_156 rfl (lv_at hl 2 rfl) ?_
  refine law_c2 (As := []) (rest := [.int v]) C i1 h.isM c2 (fun hts => cwV 0 hts gL_law_X5_input rfl f2.1 f2.2.1 kv_X5_input ⟨f2.2.2.1, f2.2.2.2⟩) hP hD hS rfl hl.1 rfl (lv_room (Nat.le_of_ble_eq_true rfl)) dL_law_157 (fun u2 H locs hu hP hD hS => ?_)
  exact lv_icmp_eq (tgt := 842) hx hb dL_law_160 (by decide) (fun _ => kk _ _ H locs (st u2 hu) hP hD hS) (fun ne => absurd rfl ne)
set_option maxHeartbeats 4000000 in
theorem lc_fixed (C : LC p s m c b L xs D cI cJ cZ) (hL : L ≤ 2560) {nn : Nat} (hnn : 5 * nn + 5 ≤ L) (h : St q z cI cJ cZ nn w1 w2) (hP : va_P D vwCl (w1 ++ w2) H) (hD : va_D (lA s) (w1 ++ w2)) (hS : va_S (lA s) s.heap H locs) (hl : lv_has ls 4 [(0, .ref b), (1, .ref (q 0)), (2, .ref (z 0)), (3, .int (nI (5 * nn)))])
    (kk : ∀ (w1 w2 : va_W) (H : Heap) (locs : List Loc), St q z cI cJ cZ (nn + 1) w1 w2 → va_P D vwCl (w1 ++ w2) H → va_D (lA s) (w1 ++ w2) → va_S (lA s) s.heap H locs → W p l e room_1 s m #[Value.ref b] below meth c H locs 44 1986 Q (F0 m 842 ls [])) : W p l e room_1 s m #[Value.ref b] below meth c H locs 44 1986 Q (F0 m 165 ls []) := by
  have hx := C.1
  have hb : c.code = cL_law := C.2.1
  obtain ⟨v, rm1, w1', f1, i1, c1, rm2, S2, ps, w2', f2, c2, st⟩ := jj_fixed (l := l) (D := D) h (sx xs nn 1)
  refine lv_aload_n hx hb dL_law_165 rfl (lv_at hl 1 rfl) ?_
  refine law_arg (j := 1) C hL hnn (by decide) hS hl dL_law_166 dL_law_167 dL_law_168 (by decide) dL_law_169 dL_law_170 ?_
  refine law_c1 (As := [.int (sx xs nn 1)]) (rest := []) C h.isA h.isM c1 (fun hts => cwV 1 hts gL_law_X4_fixed rfl f1.1 f1.2.1 kv_X4_fixed ⟨f1.2.2.1, f1.2.2.2⟩) hP hD hS rfl hl.1 rfl (lv_room (Nat.le_of_ble_eq_true rfl)) dL_law_171 (fun u1 H locs _ hP hD hS => ?_)
  refine lv_aload_n hx hb dL_law_174 rfl (lv_at hl 2 rfl) ?_
  refine law_arg (j := 1) C hL hnn (by decide) hS hl dL_law_175 dL_law_176 dL_law_177 (by decide) dL_law_178 dL_law_179 ?_
  refine law_c2 (As := [.int (sx xs nn 1)]) (rest := [.int v]) C i1 h.isM c2 (fun hts => cwV 1 hts gL_law_X5_fixed rfl f2.1 f2.2.1 kv_X5_fixed ⟨f2.2.2.1, f2.2.2.2⟩) hP hD hS rfl hl.1 rfl (lv_room (Nat.le_of_ble_eq_true rfl)) dL_law_180 (fun u2 H locs hu hP hD hS => ?_)
  exact lv_icmp_eq (tgt := 842) hx hb dL_law_183 (by decide) (fun _ => kk _ _ H locs (st u2 hu) hP hD hS) (fun ne => absurd rfl ne)
set_option maxHeartbeats 4000000 in
theorem lc_gate (C : LC p s m c b L xs D cI cJ cZ) (hL : L ≤ 2560) {nn : Nat} (hnn : 5 * nn + 5 ≤ L) (h : St q z cI cJ cZ nn w1 w2) (hP : va_P D vwCl (w1 ++ w2) H) (hD : va_D (lA s) (w1 ++ w2)) (hS : va_S (lA s) s.heap H locs) (hl : lv_has ls 4 [(0, .ref b), (1, .ref (q 0)), (2, .ref (z 0)), (3, .int (nI (5 * nn)))])
    (kk : ∀ (w1 w2 : va_W) (H : Heap) (locs : List Loc), St q z cI cJ cZ (nn + 1) w1 w2 → va_P D vwCl (w1 ++ w2) H → va_D (lA s) (w1 ++ w2) → va_S (lA s) s.heap H locs → W p l e room_1 s m #[Value.ref b] below meth c H locs 44 1986 Q (F0 m 842 ls [])) : W p l e room_1 s m #[Value.ref b] below meth c H locs 44 1986 Q (F0 m 188 ls []) := by
  have hx := C.1
  have hb : c.code = cL_law := C.2.1
  obtain ⟨v, rm1, w1', f1, i1, c1, rm2, S2, ps, w2', f2, c2, st⟩ := jj_gate (l := l) (D := D) h (sx xs nn 1) (sx xs nn 2) (sx xs nn 3) (sx xs nn 4)
  refine lv_aload_n hx hb dL_law_188 rfl (lv_at hl 1 rfl) ?_
  refine law_arg (j := 1) C hL hnn (by decide) hS hl dL_law_189 dL_law_190 dL_law_191 (by decide) dL_law_192 dL_law_193 ?_
  refine law_arg (j := 2) C hL hnn (by decide) hS hl dL_law_194 dL_law_195 dL_law_196 (by decide) dL_law_197 dL_law_198 ?_
  refine law_arg (j := 3) C hL hnn (by decide) hS hl dL_law_199 dL_law_200 dL_law_201 (by decide) dL_law_202 dL_law_203 ?_
  refine law_arg (j := 4) C hL hnn (by decide) hS hl dL_law_204 dL_law_205 dL_law_206 (by decide) dL_law_207 dL_law_208 ?_
  refine law_c1 (As := [.int (sx xs nn 1), .int (sx xs nn 2), .int (sx xs nn 3), .int (sx xs nn 4)]) (rest := []) C h.isA h.isM c1 (fun hts => cwV 4 hts gL_law_X4_gate rfl f1.1 f1.2.1 kv_X4_gate ⟨f1.2.2.1, f1.2.2.2⟩) hP hD hS rfl hl.1 rfl (lv_room (Nat.le_of_ble_eq_true rfl)) dL_law_209 (fun u1 H locs _ hP hD hS => ?_)
  refine lv_aload_n hx hb dL_law_212 rfl (lv_at hl 2 rfl) ?_
  refine law_arg (j := 1) C hL hnn (by decide) hS hl dL_law_213 dL_law_214 dL_law_215 (by decide) dL_law_216 dL_law_217 ?_
  refine law_arg (j := 2) C hL hnn (by decide) hS hl dL_law_218 dL_law_219 dL_law_220 (by decide) dL_law_221 dL_law_222 ?_
  refine law_arg (j := 3) C hL hnn (by decide) hS hl dL_law_223 dL_law_224 dL_law_225 (by decide) dL_law_226 dL_law_227 ?_
  refine law_arg (j := 4) C hL hnn (by decide) hS hl dL_law_228 dL_law_229 dL_law_230 (by decide) dL_law_231 dL_law_232 ?_
  refine law_c2 (As := [.int (sx xs nn 1), .int (sx xs nn 2), .int (sx xs nn 3), .int (sx xs nn 4)]) (rest := [.int v]) C i1 h.isM c2 (fun hts => cwV 4 hts gL_law_X5_gate rfl f2.1 f2.2.1 kv_X5_gate ⟨f2.2.2.1, f2.2.2.2⟩) hP hD hS rfl hl.1 rfl (lv_room (Nat.le_of_ble_eq_true rfl)) dL_law_233 (fun u2 H locs hu hP hD hS => ?_)
  exact lv_icmp_eq (tgt := 842) hx hb dL_law_236 (by decide) (fun _ => kk _ _ H locs (st u2 hu) hP hD hS) (fun ne => absurd rfl ne)
set_option maxHeartbeats 4000000 in
theorem lc_store (C : LC p s m c b L xs D cI cJ cZ) (hL : L ≤ 2560) {nn : Nat} (hnn : 5 * nn + 5 ≤ L) (h : St q z cI cJ cZ nn w1 w2) (hP : va_P D vwCl (w1 ++ w2) H) (hD : va_D (lA s) (w1 ++ w2)) (hS : va_S (lA s) s.heap H locs) (hl : lv_has ls 4 [(0, .ref b), (1, .ref (q 0)), (2, .ref (z 0)), (3, .int (nI (5 * nn)))])
    (kk : ∀ (w1 w2 : va_W) (H : Heap) (locs : List Loc), St q z cI cJ cZ (nn + 1) w1 w2 → va_P D vwCl (w1 ++ w2) H → va_D (lA s) (w1 ++ w2) → va_S (lA s) s.heap H locs → W p l e room_1 s m #[Value.ref b] below meth c H locs 44 1986 Q (F0 m 842 ls [])) : W p l e room_1 s m #[Value.ref b] below meth c H locs 44 1986 Q (F0 m 241 ls []) := by
  have hx := C.1
  have hb : c.code = cL_law := C.2.1
  obtain ⟨v, rm1, w1', f1, i1, c1, rm2, S2, ps, w2', f2, c2, st⟩ := jj_store (l := l) (D := D) h (sx xs nn 1) (sx xs nn 2)
  refine lv_aload_n hx hb dL_law_241 rfl (lv_at hl 1 rfl) ?_
  refine law_arg (j := 1) C hL hnn (by decide) hS hl dL_law_242 dL_law_243 dL_law_244 (by decide) dL_law_245 dL_law_246 ?_
  refine law_arg (j := 2) C hL hnn (by decide) hS hl dL_law_247 dL_law_248 dL_law_249 (by decide) dL_law_250 dL_law_251 ?_
  refine law_c1 (As := [.int (sx xs nn 1), .int (sx xs nn 2)]) (rest := []) C h.isA h.isM c1 (fun hts => cwV 2 hts gL_law_X4_store rfl f1.1 f1.2.1 kv_X4_store ⟨f1.2.2.1, f1.2.2.2⟩) hP hD hS rfl hl.1 rfl (lv_room (Nat.le_of_ble_eq_true rfl)) dL_law_252 (fun u1 H locs _ hP hD hS => ?_)
  refine lv_aload_n hx hb dL_law_255 rfl (lv_at hl 2 rfl) ?_
  refine law_arg (j := 1) C hL hnn (by decide) hS hl dL_law_256 dL_law_257 dL_law_258 (by decide) dL_law_259 dL_law_260 ?_
  refine law_arg (j := 2) C hL hnn (by decide) hS hl dL_law_261 dL_law_262 dL_law_263 (by decide) dL_law_264 dL_law_265 ?_
  refine law_c2 (As := [.int (sx xs nn 1), .int (sx xs nn 2)]) (rest := [.int v]) C i1 h.isM c2 (fun hts => cwV 2 hts gL_law_X5_store rfl f2.1 f2.2.1 kv_X5_store ⟨f2.2.2.1, f2.2.2.2⟩) hP hD hS rfl hl.1 rfl (lv_room (Nat.le_of_ble_eq_true rfl)) dL_law_266 (fun u2 H locs hu hP hD hS => ?_)
  exact lv_icmp_eq (tgt := 842) hx hb dL_law_269 (by decide) (fun _ => kk _ _ H locs (st u2 hu) hP hD hS) (fun ne => absurd rfl ne)
set_option maxHeartbeats 4000000 in
theorem lc_reads (C : LC p s m c b L xs D cI cJ cZ) (hL : L ≤ 2560) {nn : Nat} (hnn : 5 * nn + 5 ≤ L) (h : St q z cI cJ cZ nn w1 w2) (hP : va_P D vwCl (w1 ++ w2) H) (hD : va_D (lA s) (w1 ++ w2)) (hS : va_S (lA s) s.heap H locs) (hl : lv_has ls 4 [(0, .ref b), (1, .ref (q 0)), (2, .ref (z 0)), (3, .int (nI (5 * nn)))])
    (kk : ∀ (w1 w2 : va_W) (H : Heap) (locs : List Loc), St q z cI cJ cZ (nn + 1) w1 w2 → va_P D vwCl (w1 ++ w2) H → va_D (lA s) (w1 ++ w2) → va_S (lA s) s.heap H locs → W p l e room_1 s m #[Value.ref b] below meth c H locs 44 1986 Q (F0 m 842 ls [])) : W p l e room_1 s m #[Value.ref b] below meth c H locs 44 1986 Q (F0 m 274 ls []) := by
  have hx := C.1
  have hb : c.code = cL_law := C.2.1
  obtain ⟨v, rm1, w1', f1, i1, c1, rm2, S2, ps, w2', f2, c2, st⟩ := jj_reads (l := l) (D := D) h (sx xs nn 1) (sx xs nn 2)
  refine lv_aload_n hx hb dL_law_274 rfl (lv_at hl 1 rfl) ?_
  refine law_arg (j := 1) C hL hnn (by decide) hS hl dL_law_275 dL_law_276 dL_law_277 (by decide) dL_law_278 dL_law_279 ?_
  refine law_arg (j := 2) C hL hnn (by decide) hS hl dL_law_280 dL_law_281 dL_law_282 (by decide) dL_law_283 dL_law_284 ?_
  refine law_c1 (As := [.int (sx xs nn 1), .int (sx xs nn 2)]) (rest := []) C h.isA h.isM c1 (fun hts => cwV 2 hts gL_law_X4_reads rfl f1.1 f1.2.1 kv_X4_reads ⟨f1.2.2.1, f1.2.2.2⟩) hP hD hS rfl hl.1 rfl (lv_room (Nat.le_of_ble_eq_true rfl)) dL_law_285 (fun u1 H locs _ hP hD hS => ?_)
  refine lv_aload_n hx hb dL_law_288 rfl (lv_at hl 2 rfl) ?_
  refine law_arg (j := 1) C hL hnn (by decide) hS hl dL_law_289 dL_law_290 dL_law_291 (by decide) dL_law_292 dL_law_293 ?_
  refine law_arg (j := 2) C hL hnn (by decide) hS hl dL_law_294 dL_law_295 dL_law_296 (by decide) dL_law_297 dL_law_298 ?_
  refine law_c2 (As := [.int (sx xs nn 1), .int (sx xs nn 2)]) (rest := [.int v]) C i1 h.isM c2 (fun hts => cwV 2 hts gL_law_X5_reads rfl f2.1 f2.2.1 kv_X5_reads ⟨f2.2.2.1, f2.2.2.2⟩) hP hD hS rfl hl.1 rfl (lv_room (Nat.le_of_ble_eq_true rfl)) dL_law_299 (fun u2 H locs hu hP hD hS => ?_)
  exact lv_icmp_eq (tgt := 842) hx hb dL_law_302 (by decide) (fun _ => kk _ _ H locs (st u2 hu) hP hD hS) (fun ne => absurd rfl ne)
set_option maxHeartbeats 4000000 in
theorem lc_about (C : LC p s m c b L xs D cI cJ cZ) (hL : L ≤ 2560) {nn : Nat} (hnn : 5 * nn + 5 ≤ L) (h : St q z cI cJ cZ nn w1 w2) (hP : va_P D vwCl (w1 ++ w2) H) (hD : va_D (lA s) (w1 ++ w2)) (hS : va_S (lA s) s.heap H locs) (hl : lv_has ls 4 [(0, .ref b), (1, .ref (q 0)), (2, .ref (z 0)), (3, .int (nI (5 * nn)))])
    (kk : ∀ (w1 w2 : va_W) (H : Heap) (locs : List Loc), St q z cI cJ cZ (nn + 1) w1 w2 → va_P D vwCl (w1 ++ w2) H → va_D (lA s) (w1 ++ w2) → va_S (lA s) s.heap H locs → W p l e room_1 s m #[Value.ref b] below meth c H locs 44 1986 Q (F0 m 842 ls [])) : W p l e room_1 s m #[Value.ref b] below meth c H locs 44 1986 Q (F0 m 307 ls []) := by
  have hx := C.1
  have hb : c.code = cL_law := C.2.1
  obtain ⟨v, rm1, w1', f1, i1, c1, rm2, S2, ps, w2', f2, c2, st⟩ := jj_about (l := l) (D := D) h (sx xs nn 1) (sx xs nn 2)
  refine lv_aload_n hx hb dL_law_307 rfl (lv_at hl 1 rfl) ?_
  refine law_arg (j := 1) C hL hnn (by decide) hS hl dL_law_308 dL_law_309 dL_law_310 (by decide) dL_law_311 dL_law_312 ?_
  refine law_arg (j := 2) C hL hnn (by decide) hS hl dL_law_313 dL_law_314 dL_law_315 (by decide) dL_law_316 dL_law_317 ?_
  refine law_c1 (As := [.int (sx xs nn 1), .int (sx xs nn 2)]) (rest := []) C h.isA h.isM c1 (fun hts => cwV 2 hts gL_law_X4_about rfl f1.1 f1.2.1 kv_X4_about ⟨f1.2.2.1, f1.2.2.2⟩) hP hD hS rfl hl.1 rfl (lv_room (Nat.le_of_ble_eq_true rfl)) dL_law_318 (fun u1 H locs _ hP hD hS => ?_)
  refine lv_aload_n hx hb dL_law_321 rfl (lv_at hl 2 rfl) ?_
  refine law_arg (j := 1) C hL hnn (by decide) hS hl dL_law_322 dL_law_323 dL_law_324 (by decide) dL_law_325 dL_law_326 ?_
  refine law_arg (j := 2) C hL hnn (by decide) hS hl dL_law_327 dL_law_328 dL_law_329 (by decide) dL_law_330 dL_law_331 ?_
  refine law_c2 (As := [.int (sx xs nn 1), .int (sx xs nn 2)]) (rest := [.int v]) C i1 h.isM c2 (fun hts => cwV 2 hts gL_law_X5_about rfl f2.1 f2.2.1 kv_X5_about ⟨f2.2.2.1, f2.2.2.2⟩) hP hD hS rfl hl.1 rfl (lv_room (Nat.le_of_ble_eq_true rfl)) dL_law_332 (fun u2 H locs hu hP hD hS => ?_)
  exact lv_icmp_eq (tgt := 842) hx hb dL_law_335 (by decide) (fun _ => kk _ _ H locs (st u2 hu) hP hD hS) (fun ne => absurd rfl ne)
set_option maxHeartbeats 4000000 in
theorem lc_line (C : LC p s m c b L xs D cI cJ cZ) (hL : L ≤ 2560) {nn : Nat} (hnn : 5 * nn + 5 ≤ L) (h : St q z cI cJ cZ nn w1 w2) (hP : va_P D vwCl (w1 ++ w2) H) (hD : va_D (lA s) (w1 ++ w2)) (hS : va_S (lA s) s.heap H locs) (hl : lv_has ls 4 [(0, .ref b), (1, .ref (q 0)), (2, .ref (z 0)), (3, .int (nI (5 * nn)))])
    (kk : ∀ (w1 w2 : va_W) (H : Heap) (locs : List Loc), St q z cI cJ cZ (nn + 1) w1 w2 → va_P D vwCl (w1 ++ w2) H → va_D (lA s) (w1 ++ w2) → va_S (lA s) s.heap H locs → W p l e room_1 s m #[Value.ref b] below meth c H locs 44 1986 Q (F0 m 842 ls [])) : W p l e room_1 s m #[Value.ref b] below meth c H locs 44 1986 Q (F0 m 340 ls []) := by
  have hx := C.1
  have hb : c.code = cL_law := C.2.1
  obtain ⟨v, rm1, w1', f1, i1, c1, rm2, S2, ps, w2', f2, c2, st⟩ := jj_line (l := l) (D := D) h (sx xs nn 1) (!decide (sx xs nn 2 = 0))
  refine lv_aload_n hx hb dL_law_340 rfl (lv_at hl 1 rfl) ?_
  refine law_arg (j := 1) C hL hnn (by decide) hS hl dL_law_341 dL_law_342 dL_law_343 (by decide) dL_law_344 dL_law_345 ?_
  refine law_arg (j := 2) C hL hnn (by decide) hS hl dL_law_346 dL_law_347 dL_law_348 (by decide) dL_law_349 dL_law_350 ?_
  refine law_ne hx hb dL_law_351 dL_law_354 dL_law_355 dL_law_358 ?_
  refine law_c1 (As := [.int (sx xs nn 1), .int (bI (!decide (sx xs nn 2 = 0)))]) (rest := []) C h.isA h.isM c1 (fun hts => cwV 2 hts gL_law_X4_line rfl f1.1 f1.2.1 kv_X4_line ⟨f1.2.2.1, f1.2.2.2⟩) hP hD hS rfl hl.1 rfl (lv_room (Nat.le_of_ble_eq_true rfl)) dL_law_359 (fun u1 H locs _ hP hD hS => ?_)
  refine lv_aload_n hx hb dL_law_362 rfl (lv_at hl 2 rfl) ?_
  refine law_arg (j := 1) C hL hnn (by decide) hS hl dL_law_363 dL_law_364 dL_law_365 (by decide) dL_law_366 dL_law_367 ?_
  refine law_arg (j := 2) C hL hnn (by decide) hS hl dL_law_368 dL_law_369 dL_law_370 (by decide) dL_law_371 dL_law_372 ?_
  refine law_ne hx hb dL_law_373 dL_law_376 dL_law_377 dL_law_380 ?_
  refine law_c2 (As := [.int (sx xs nn 1), .int (bI (!decide (sx xs nn 2 = 0)))]) (rest := [.int v]) C i1 h.isM c2 (fun hts => cwV 2 hts gL_law_X5_line rfl f2.1 f2.2.1 kv_X5_line ⟨f2.2.2.1, f2.2.2.2⟩) hP hD hS rfl hl.1 rfl (lv_room (Nat.le_of_ble_eq_true rfl)) dL_law_381 (fun u2 H locs hu hP hD hS => ?_)
  exact lv_icmp_eq (tgt := 842) hx hb dL_law_384 (by decide) (fun _ => kk _ _ H locs (st u2 hu) hP hD hS) (fun ne => absurd rfl ne)
set_option maxHeartbeats 4000000 in
theorem lc_set (C : LC p s m c b L xs D cI cJ cZ) (hL : L ≤ 2560) {nn : Nat} (hnn : 5 * nn + 5 ≤ L) (h : St q z cI cJ cZ nn w1 w2) (hP : va_P D vwCl (w1 ++ w2) H) (hD : va_D (lA s) (w1 ++ w2)) (hS : va_S (lA s) s.heap H locs) (hl : lv_has ls 4 [(0, .ref b), (1, .ref (q 0)), (2, .ref (z 0)), (3, .int (nI (5 * nn)))])
    (kk : ∀ (w1 w2 : va_W) (H : Heap) (locs : List Loc), St q z cI cJ cZ (nn + 1) w1 w2 → va_P D vwCl (w1 ++ w2) H → va_D (lA s) (w1 ++ w2) → va_S (lA s) s.heap H locs → W p l e room_1 s m #[Value.ref b] below meth c H locs 44 1986 Q (F0 m 842 ls [])) : W p l e room_1 s m #[Value.ref b] below meth c H locs 44 1986 Q (F0 m 389 ls []) := by
  have hx := C.1
  have hb : c.code = cL_law := C.2.1
  obtain ⟨v, rm1, w1', f1, i1, c1, rm2, S2, ps, w2', f2, c2, st⟩ := jj_set (l := l) (D := D) h (sx xs nn 1) (sx xs nn 2)
  refine lv_aload_n hx hb dL_law_389 rfl (lv_at hl 1 rfl) ?_
  refine law_arg (j := 1) C hL hnn (by decide) hS hl dL_law_390 dL_law_391 dL_law_392 (by decide) dL_law_393 dL_law_394 ?_
  refine law_arg (j := 2) C hL hnn (by decide) hS hl dL_law_395 dL_law_396 dL_law_397 (by decide) dL_law_398 dL_law_399 ?_
  refine law_c1 (As := [.int (sx xs nn 1), .int (sx xs nn 2)]) (rest := []) C h.isA h.isM c1 (fun hts => cwV 2 hts gL_law_X4_set rfl f1.1 f1.2.1 kv_X4_set ⟨f1.2.2.1, f1.2.2.2⟩) hP hD hS rfl hl.1 rfl (lv_room (Nat.le_of_ble_eq_true rfl)) dL_law_400 (fun u1 H locs _ hP hD hS => ?_)
  refine lv_aload_n hx hb dL_law_403 rfl (lv_at hl 2 rfl) ?_
  refine law_arg (j := 1) C hL hnn (by decide) hS hl dL_law_404 dL_law_405 dL_law_406 (by decide) dL_law_407 dL_law_408 ?_
  refine law_arg (j := 2) C hL hnn (by decide) hS hl dL_law_409 dL_law_410 dL_law_411 (by decide) dL_law_412 dL_law_413 ?_
  refine law_c2 (As := [.int (sx xs nn 1), .int (sx xs nn 2)]) (rest := [.int v]) C i1 h.isM c2 (fun hts => cwV 2 hts gL_law_X5_set rfl f2.1 f2.2.1 kv_X5_set ⟨f2.2.2.1, f2.2.2.2⟩) hP hD hS rfl hl.1 rfl (lv_room (Nat.le_of_ble_eq_true rfl)) dL_law_414 (fun u2 H locs hu hP hD hS => ?_)
  exact lv_icmp_eq (tgt := 842) hx hb dL_law_417 (by decide) (fun _ => kk _ _ H locs (st u2 hu) hP hD hS) (fun ne => absurd rfl ne)
set_option maxHeartbeats 4000000 in
theorem lc_tick (C : LC p s m c b L xs D cI cJ cZ) (hL : L ≤ 2560) {nn : Nat} (hnn : 5 * nn + 5 ≤ L) (h : St q z cI cJ cZ nn w1 w2) (hP : va_P D vwCl (w1 ++ w2) H) (hD : va_D (lA s) (w1 ++ w2)) (hS : va_S (lA s) s.heap H locs) (hl : lv_has ls 4 [(0, .ref b), (1, .ref (q 0)), (2, .ref (z 0)), (3, .int (nI (5 * nn)))])
    (kk : ∀ (w1 w2 : va_W) (H : Heap) (locs : List Loc), St q z cI cJ cZ (nn + 1) w1 w2 → va_P D vwCl (w1 ++ w2) H → va_D (lA s) (w1 ++ w2) → va_S (lA s) s.heap H locs → W p l e room_1 s m #[Value.ref b] below meth c H locs 44 1986 Q (F0 m 842 ls [])) : W p l e room_1 s m #[Value.ref b] below meth c H locs 44 1986 Q (F0 m 422 ls []) := by
  have hx := C.1
  have hb : c.code = cL_law := C.2.1
  obtain ⟨v, rm1, w1', f1, i1, c1, rm2, S2, ps, w2', f2, c2, st⟩ := jj_tick (l := l) (D := D) h (by omega) (sx xs nn 1)
  refine lv_aload_n hx hb dL_law_422 rfl (lv_at hl 1 rfl) ?_
  refine law_arg (j := 1) C hL hnn (by decide) hS hl dL_law_423 dL_law_424 dL_law_425 (by decide) dL_law_426 dL_law_427 ?_
  refine law_c1 (As := [.int (sx xs nn 1)]) (rest := []) C h.isA h.isM c1 (fun hts => cwV 1 hts gL_law_X4_tick rfl f1.1 f1.2.1 kv_X4_tick ⟨f1.2.2.1, f1.2.2.2⟩) hP hD hS rfl hl.1 rfl (lv_room (Nat.le_of_ble_eq_true rfl)) dL_law_428 (fun u1 H locs _ hP hD hS => ?_)
  refine lv_aload_n hx hb dL_law_431 rfl (lv_at hl 2 rfl) ?_
  refine law_arg (j := 1) C hL hnn (by decide) hS hl dL_law_432 dL_law_433 dL_law_434 (by decide) dL_law_435 dL_law_436 ?_
  refine law_c2 (As := [.int (sx xs nn 1)]) (rest := [.int v]) C i1 h.isM c2 (fun hts => cwV 1 hts gL_law_X5_tick rfl f2.1 f2.2.1 kv_X5_tick ⟨f2.2.2.1, f2.2.2.2⟩) hP hD hS rfl hl.1 rfl (lv_room (Nat.le_of_ble_eq_true rfl)) dL_law_437 (fun u2 H locs hu hP hD hS => ?_)
  exact lv_icmp_eq (tgt := 842) hx hb dL_law_440 (by decide) (fun _ => kk _ _ H locs (st u2 hu) hP hD hS) (fun ne => absurd rfl ne)
set_option maxHeartbeats 4000000 in
theorem lc_fresh (C : LC p s m c b L xs D cI cJ cZ) (hL : L ≤ 2560) {nn : Nat} (hnn : 5 * nn + 5 ≤ L) (h : St q z cI cJ cZ nn w1 w2) (hP : va_P D vwCl (w1 ++ w2) H) (hD : va_D (lA s) (w1 ++ w2)) (hS : va_S (lA s) s.heap H locs) (hl : lv_has ls 4 [(0, .ref b), (1, .ref (q 0)), (2, .ref (z 0)), (3, .int (nI (5 * nn)))])
    (kk : ∀ (w1 w2 : va_W) (H : Heap) (locs : List Loc), St q z cI cJ cZ (nn + 1) w1 w2 → va_P D vwCl (w1 ++ w2) H → va_D (lA s) (w1 ++ w2) → va_S (lA s) s.heap H locs → W p l e room_1 s m #[Value.ref b] below meth c H locs 44 1986 Q (F0 m 842 ls [])) : W p l e room_1 s m #[Value.ref b] below meth c H locs 44 1986 Q (F0 m 445 ls []) := by
  have hx := C.1
  have hb : c.code = cL_law := C.2.1
  obtain ⟨v, rm1, w1', f1, i1, c1, rm2, S2, ps, w2', f2, c2, st⟩ := jj_fresh (l := l) (D := D) h 
  refine lv_aload_n hx hb dL_law_445 rfl (lv_at hl 1 rfl) ?_
  refine law_c1 (As := []) (rest := []) C h.isA h.isM c1 (fun hts => cwV 0 hts gL_law_X4_fresh rfl f1.1 f1.2.1 kv_X4_fresh ⟨f1.2.2.1, f1.2.2.2⟩) hP hD hS rfl hl.1 rfl (lv_room (Nat.le_of_ble_eq_true rfl)) dL_law_446 (fun u1 H locs _ hP hD hS => ?_)
  refine lv_aload_n hx hb dL_law_449 rfl (lv_at hl 2 rfl) ?_
  refine law_c2 (As := []) (rest := [.int v]) C i1 h.isM c2 (fun hts => cwV 0 hts gL_law_X5_fresh rfl f2.1 f2.2.1 kv_X5_fresh ⟨f2.2.2.1, f2.2.2.2⟩) hP hD hS rfl hl.1 rfl (lv_room (Nat.le_of_ble_eq_true rfl)) dL_law_450 (fun u2 H locs hu hP hD hS => ?_)
  exact lv_icmp_eq (tgt := 842) hx hb dL_law_453 (by decide) (fun _ => kk _ _ H locs (st u2 hu) hP hD hS) (fun ne => absurd rfl ne)
set_option maxHeartbeats 4000000 in
theorem lc_possible (C : LC p s m c b L xs D cI cJ cZ) (hL : L ≤ 2560) {nn : Nat} (hnn : 5 * nn + 5 ≤ L) (h : St q z cI cJ cZ nn w1 w2) (hP : va_P D vwCl (w1 ++ w2) H) (hD : va_D (lA s) (w1 ++ w2)) (hS : va_S (lA s) s.heap H locs) (hl : lv_has ls 4 [(0, .ref b), (1, .ref (q 0)), (2, .ref (z 0)), (3, .int (nI (5 * nn)))])
    (kk : ∀ (w1 w2 : va_W) (H : Heap) (locs : List Loc), St q z cI cJ cZ (nn + 1) w1 w2 → va_P D vwCl (w1 ++ w2) H → va_D (lA s) (w1 ++ w2) → va_S (lA s) s.heap H locs → W p l e room_1 s m #[Value.ref b] below meth c H locs 44 1986 Q (F0 m 842 ls [])) : W p l e room_1 s m #[Value.ref b] below meth c H locs 44 1986 Q (F0 m 458 ls []) := by
  have hx := C.1
  have hb : c.code = cL_law := C.2.1
  obtain ⟨v, rm1, w1', f1, i1, c1, rm2, S2, ps, w2', f2, c2, st⟩ := jj_possible (l := l) (D := D) h 
  refine lv_aload_n hx hb dL_law_458 rfl (lv_at hl 1 rfl) ?_
  refine law_c1 (As := []) (rest := []) C h.isA h.isM c1 (fun hts => cwV 0 hts gL_law_X4_possible rfl f1.1 f1.2.1 kv_X4_possible ⟨f1.2.2.1, f1.2.2.2⟩) hP hD hS rfl hl.1 rfl (lv_room (Nat.le_of_ble_eq_true rfl)) dL_law_459 (fun u1 H locs _ hP hD hS => ?_)
  refine lv_aload_n hx hb dL_law_462 rfl (lv_at hl 2 rfl) ?_
  refine law_c2 (As := []) (rest := [.int v]) C i1 h.isM c2 (fun hts => cwV 0 hts gL_law_X5_possible rfl f2.1 f2.2.1 kv_X5_possible ⟨f2.2.2.1, f2.2.2.2⟩) hP hD hS rfl hl.1 rfl (lv_room (Nat.le_of_ble_eq_true rfl)) dL_law_463 (fun u2 H locs hu hP hD hS => ?_)
  exact lv_icmp_eq (tgt := 842) hx hb dL_law_466 (by decide) (fun _ => kk _ _ H locs (st u2 hu) hP hD hS) (fun ne => absurd rfl ne)
set_option maxHeartbeats 4000000 in
theorem lc_row (C : LC p s m c b L xs D cI cJ cZ) (hL : L ≤ 2560) {nn : Nat} (hnn : 5 * nn + 5 ≤ L) (h : St q z cI cJ cZ nn w1 w2) (hP : va_P D vwCl (w1 ++ w2) H) (hD : va_D (lA s) (w1 ++ w2)) (hS : va_S (lA s) s.heap H locs) (hl : lv_has ls 4 [(0, .ref b), (1, .ref (q 0)), (2, .ref (z 0)), (3, .int (nI (5 * nn)))])
    (kk : ∀ (w1 w2 : va_W) (H : Heap) (locs : List Loc), St q z cI cJ cZ (nn + 1) w1 w2 → va_P D vwCl (w1 ++ w2) H → va_D (lA s) (w1 ++ w2) → va_S (lA s) s.heap H locs → W p l e room_1 s m #[Value.ref b] below meth c H locs 44 1986 Q (F0 m 842 ls [])) : W p l e room_1 s m #[Value.ref b] below meth c H locs 44 1986 Q (F0 m 471 ls []) := by
  have hx := C.1
  have hb : c.code = cL_law := C.2.1
  obtain ⟨v, rm1, w1', f1, i1, c1, rm2, S2, ps, w2', f2, c2, st⟩ := jj_row (l := l) (D := D) h (sx xs nn 1)
  refine lv_aload_n hx hb dL_law_471 rfl (lv_at hl 1 rfl) ?_
  refine law_arg (j := 1) C hL hnn (by decide) hS hl dL_law_472 dL_law_473 dL_law_474 (by decide) dL_law_475 dL_law_476 ?_
  refine law_c1 (As := [.int (sx xs nn 1)]) (rest := []) C h.isA h.isM c1 (fun hts => cwV 1 hts gL_law_X4_row rfl f1.1 f1.2.1 kv_X4_row ⟨f1.2.2.1, f1.2.2.2⟩) hP hD hS rfl hl.1 rfl (lv_room (Nat.le_of_ble_eq_true rfl)) dL_law_477 (fun u1 H locs _ hP hD hS => ?_)
  refine lv_aload_n hx hb dL_law_480 rfl (lv_at hl 2 rfl) ?_
  refine law_arg (j := 1) C hL hnn (by decide) hS hl dL_law_481 dL_law_482 dL_law_483 (by decide) dL_law_484 dL_law_485 ?_
  refine law_c2 (As := [.int (sx xs nn 1)]) (rest := [.int v]) C i1 h.isM c2 (fun hts => cwV 1 hts gL_law_X5_row rfl f2.1 f2.2.1 kv_X5_row ⟨f2.2.2.1, f2.2.2.2⟩) hP hD hS rfl hl.1 rfl (lv_room (Nat.le_of_ble_eq_true rfl)) dL_law_486 (fun u2 H locs hu hP hD hS => ?_)
  exact lv_icmp_eq (tgt := 842) hx hb dL_law_489 (by decide) (fun _ => kk _ _ H locs (st u2 hu) hP hD hS) (fun ne => absurd rfl ne)
set_option maxHeartbeats 4000000 in
theorem lc_sure (C : LC p s m c b L xs D cI cJ cZ) (hL : L ≤ 2560) {nn : Nat} (hnn : 5 * nn + 5 ≤ L) (h : St q z cI cJ cZ nn w1 w2) (hP : va_P D vwCl (w1 ++ w2) H) (hD : va_D (lA s) (w1 ++ w2)) (hS : va_S (lA s) s.heap H locs) (hl : lv_has ls 4 [(0, .ref b), (1, .ref (q 0)), (2, .ref (z 0)), (3, .int (nI (5 * nn)))])
    (kk : ∀ (w1 w2 : va_W) (H : Heap) (locs : List Loc), St q z cI cJ cZ (nn + 1) w1 w2 → va_P D vwCl (w1 ++ w2) H → va_D (lA s) (w1 ++ w2) → va_S (lA s) s.heap H locs → W p l e room_1 s m #[Value.ref b] below meth c H locs 44 1986 Q (F0 m 842 ls [])) : W p l e room_1 s m #[Value.ref b] below meth c H locs 44 1986 Q (F0 m 494 ls []) := by
  have hx := C.1
  have hb : c.code = cL_law := C.2.1
  obtain ⟨v, rm1, w1', f1, i1, c1, rm2, S2, ps, w2', f2, c2, st⟩ := jj_sure (l := l) (D := D) h (sx xs nn 1)
  refine lv_aload_n hx hb dL_law_494 rfl (lv_at hl 1 rfl) ?_
  refine law_arg (j := 1) C hL hnn (by decide) hS hl dL_law_495 dL_law_496 dL_law_497 (by decide) dL_law_498 dL_law_499 ?_
  refine law_c1 (As := [.int (sx xs nn 1)]) (rest := []) C h.isA h.isM c1 (fun hts => cwV 1 hts gL_law_X4_sure rfl f1.1 f1.2.1 kv_X4_sure ⟨f1.2.2.1, f1.2.2.2⟩) hP hD hS rfl hl.1 rfl (lv_room (Nat.le_of_ble_eq_true rfl)) dL_law_500 (fun u1 H locs _ hP hD hS => ?_)
  refine lv_aload_n hx hb dL_law_503 rfl (lv_at hl 2 rfl) ?_
  refine law_arg (j := 1) C hL hnn (by decide) hS hl dL_law_504 dL_law_505 dL_law_506 (by decide) dL_law_507 dL_law_508 ?_
  refine law_c2 (As := [.int (sx xs nn 1)]) (rest := [.int v]) C i1 h.isM c2 (fun hts => cwV 1 hts gL_law_X5_sure rfl f2.1 f2.2.1 kv_X5_sure ⟨f2.2.2.1, f2.2.2.2⟩) hP hD hS rfl hl.1 rfl (lv_room (Nat.le_of_ble_eq_true rfl)) dL_law_509 (fun u2 H locs hu hP hD hS => ?_)
  exact lv_icmp_eq (tgt := 842) hx hb dL_law_512 (by decide) (fun _ => kk _ _ H locs (st u2 hu) hP hD hS) (fun ne => absurd rfl ne)
set_option maxHeartbeats 4000000 in
theorem lc_told (C : LC p s m c b L xs D cI cJ cZ) (hL : L ≤ 2560) {nn : Nat} (hnn : 5 * nn + 5 ≤ L) (h : St q z cI cJ cZ nn w1 w2) (hP : va_P D vwCl (w1 ++ w2) H) (hD : va_D (lA s) (w1 ++ w2)) (hS : va_S (lA s) s.heap H locs) (hl : lv_has ls 4 [(0, .ref b), (1, .ref (q 0)), (2, .ref (z 0)), (3, .int (nI (5 * nn)))])
    (kk : ∀ (w1 w2 : va_W) (H : Heap) (locs : List Loc), St q z cI cJ cZ (nn + 1) w1 w2 → va_P D vwCl (w1 ++ w2) H → va_D (lA s) (w1 ++ w2) → va_S (lA s) s.heap H locs → W p l e room_1 s m #[Value.ref b] below meth c H locs 44 1986 Q (F0 m 842 ls [])) : W p l e room_1 s m #[Value.ref b] below meth c H locs 44 1986 Q (F0 m 517 ls []) := by
  have hx := C.1
  have hb : c.code = cL_law := C.2.1
  obtain ⟨v, rm1, w1', f1, i1, c1, rm2, S2, ps, w2', f2, c2, st⟩ := jj_told (l := l) (D := D) h (sx xs nn 1)
  refine lv_aload_n hx hb dL_law_517 rfl (lv_at hl 1 rfl) ?_
  refine law_arg (j := 1) C hL hnn (by decide) hS hl dL_law_518 dL_law_519 dL_law_520 (by decide) dL_law_521 dL_law_522 ?_
  refine law_c1 (As := [.int (sx xs nn 1)]) (rest := []) C h.isA h.isM c1 (fun hts => cwV 1 hts gL_law_X4_told rfl f1.1 f1.2.1 kv_X4_told ⟨f1.2.2.1, f1.2.2.2⟩) hP hD hS rfl hl.1 rfl (lv_room (Nat.le_of_ble_eq_true rfl)) dL_law_523 (fun u1 H locs _ hP hD hS => ?_)
  refine lv_aload_n hx hb dL_law_526 rfl (lv_at hl 2 rfl) ?_
  refine law_arg (j := 1) C hL hnn (by decide) hS hl dL_law_527 dL_law_528 dL_law_529 (by decide) dL_law_530 dL_law_531 ?_
  refine law_c2 (As := [.int (sx xs nn 1)]) (rest := [.int v]) C i1 h.isM c2 (fun hts => cwV 1 hts gL_law_X5_told rfl f2.1 f2.2.1 kv_X5_told ⟨f2.2.2.1, f2.2.2.2⟩) hP hD hS rfl hl.1 rfl (lv_room (Nat.le_of_ble_eq_true rfl)) dL_law_532 (fun u2 H locs hu hP hD hS => ?_)
  exact lv_icmp_eq (tgt := 842) hx hb dL_law_535 (by decide) (fun _ => kk _ _ H locs (st u2 hu) hP hD hS) (fun ne => absurd rfl ne)
set_option maxHeartbeats 4000000 in
theorem lc_known (C : LC p s m c b L xs D cI cJ cZ) (hL : L ≤ 2560) {nn : Nat} (hnn : 5 * nn + 5 ≤ L) (h : St q z cI cJ cZ nn w1 w2) (hP : va_P D vwCl (w1 ++ w2) H) (hD : va_D (lA s) (w1 ++ w2)) (hS : va_S (lA s) s.heap H locs) (hl : lv_has ls 4 [(0, .ref b), (1, .ref (q 0)), (2, .ref (z 0)), (3, .int (nI (5 * nn)))])
    (kk : ∀ (w1 w2 : va_W) (H : Heap) (locs : List Loc), St q z cI cJ cZ (nn + 1) w1 w2 → va_P D vwCl (w1 ++ w2) H → va_D (lA s) (w1 ++ w2) → va_S (lA s) s.heap H locs → W p l e room_1 s m #[Value.ref b] below meth c H locs 44 1986 Q (F0 m 842 ls [])) : W p l e room_1 s m #[Value.ref b] below meth c H locs 44 1986 Q (F0 m 540 ls []) := by
  have hx := C.1
  have hb : c.code = cL_law := C.2.1
  obtain ⟨v, rm1, w1', f1, i1, c1, rm2, S2, ps, w2', f2, c2, st⟩ := jj_known (l := l) (D := D) h (!decide (sx xs nn 1 = 0))
  refine lv_aload_n hx hb dL_law_540 rfl (lv_at hl 1 rfl) ?_
  refine law_arg (j := 1) C hL hnn (by decide) hS hl dL_law_541 dL_law_542 dL_law_543 (by decide) dL_law_544 dL_law_545 ?_
  refine law_ne hx hb dL_law_546 dL_law_549 dL_law_550 dL_law_553 ?_
  refine law_c1 (As := [.int (bI (!decide (sx xs nn 1 = 0)))]) (rest := []) C h.isA h.isM c1 (fun hts => cwV 1 hts gL_law_X4_known rfl f1.1 f1.2.1 kv_X4_known ⟨f1.2.2.1, f1.2.2.2⟩) hP hD hS rfl hl.1 rfl (lv_room (Nat.le_of_ble_eq_true rfl)) dL_law_554 (fun u1 H locs _ hP hD hS => ?_)
  refine lv_aload_n hx hb dL_law_557 rfl (lv_at hl 2 rfl) ?_
  refine law_arg (j := 1) C hL hnn (by decide) hS hl dL_law_558 dL_law_559 dL_law_560 (by decide) dL_law_561 dL_law_562 ?_
  refine law_ne hx hb dL_law_563 dL_law_566 dL_law_567 dL_law_570 ?_
  refine law_c2 (As := [.int (bI (!decide (sx xs nn 1 = 0)))]) (rest := [.int v]) C i1 h.isM c2 (fun hts => cwV 1 hts gL_law_X5_known rfl f2.1 f2.2.1 kv_X5_known ⟨f2.2.2.1, f2.2.2.2⟩) hP hD hS rfl hl.1 rfl (lv_room (Nat.le_of_ble_eq_true rfl)) dL_law_571 (fun u2 H locs hu hP hD hS => ?_)
  exact lv_icmp_eq (tgt := 842) hx hb dL_law_574 (by decide) (fun _ => kk _ _ H locs (st u2 hu) hP hD hS) (fun ne => absurd rfl ne)
set_option maxHeartbeats 4000000 in
theorem lc_settles (C : LC p s m c b L xs D cI cJ cZ) (hL : L ≤ 2560) {nn : Nat} (hnn : 5 * nn + 5 ≤ L) (h : St q z cI cJ cZ nn w1 w2) (hP : va_P D vwCl (w1 ++ w2) H) (hD : va_D (lA s) (w1 ++ w2)) (hS : va_S (lA s) s.heap H locs) (hl : lv_has ls 4 [(0, .ref b), (1, .ref (q 0)), (2, .ref (z 0)), (3, .int (nI (5 * nn)))])
    (kk : ∀ (w1 w2 : va_W) (H : Heap) (locs : List Loc), St q z cI cJ cZ (nn + 1) w1 w2 → va_P D vwCl (w1 ++ w2) H → va_D (lA s) (w1 ++ w2) → va_S (lA s) s.heap H locs → W p l e room_1 s m #[Value.ref b] below meth c H locs 44 1986 Q (F0 m 842 ls [])) : W p l e room_1 s m #[Value.ref b] below meth c H locs 44 1986 Q (F0 m 579 ls []) := by
  have hx := C.1
  have hb : c.code = cL_law := C.2.1
  obtain ⟨v, rm1, w1', f1, i1, c1, rm2, S2, ps, w2', f2, c2, st⟩ := jj_settles (l := l) (D := D) h 
  refine lv_aload_n hx hb dL_law_579 rfl (lv_at hl 1 rfl) ?_
  refine law_c1 (As := []) (rest := []) C h.isA h.isM c1 (fun hts => cwV 0 hts gL_law_X4_settles rfl f1.1 f1.2.1 kv_X4_settles ⟨f1.2.2.1, f1.2.2.2⟩) hP hD hS rfl hl.1 rfl (lv_room (Nat.le_of_ble_eq_true rfl)) dL_law_580 (fun u1 H locs _ hP hD hS => ?_)
  refine lv_aload_n hx hb dL_law_583 rfl (lv_at hl 2 rfl) ?_
  refine law_c2 (As := []) (rest := [.int v]) C i1 h.isM c2 (fun hts => cwV 0 hts gL_law_X5_settles rfl f2.1 f2.2.1 kv_X5_settles ⟨f2.2.2.1, f2.2.2.2⟩) hP hD hS rfl hl.1 rfl (lv_room (Nat.le_of_ble_eq_true rfl)) dL_law_584 (fun u2 H locs hu hP hD hS => ?_)
  exact lv_icmp_eq (tgt := 842) hx hb dL_law_587 (by decide) (fun _ => kk _ _ H locs (st u2 hu) hP hD hS) (fun ne => absurd rfl ne)
set_option maxHeartbeats 4000000 in
theorem lc_next (C : LC p s m c b L xs D cI cJ cZ) (hL : L ≤ 2560) {nn : Nat} (hnn : 5 * nn + 5 ≤ L) (h : St q z cI cJ cZ nn w1 w2) (hP : va_P D vwCl (w1 ++ w2) H) (hD : va_D (lA s) (w1 ++ w2)) (hS : va_S (lA s) s.heap H locs) (hl : lv_has ls 4 [(0, .ref b), (1, .ref (q 0)), (2, .ref (z 0)), (3, .int (nI (5 * nn)))])
    (kk : ∀ (w1 w2 : va_W) (H : Heap) (locs : List Loc), St q z cI cJ cZ (nn + 1) w1 w2 → va_P D vwCl (w1 ++ w2) H → va_D (lA s) (w1 ++ w2) → va_S (lA s) s.heap H locs → W p l e room_1 s m #[Value.ref b] below meth c H locs 44 1986 Q (F0 m 842 ls [])) : W p l e room_1 s m #[Value.ref b] below meth c H locs 44 1986 Q (F0 m 592 ls []) := by
  have hx := C.1
  have hb : c.code = cL_law := C.2.1
  obtain ⟨v, rm1, w1', f1, i1, c1, rm2, S2, ps, w2', f2, c2, st⟩ := jj_next (l := l) (D := D) h (sx xs nn 1)
  refine lv_aload_n hx hb dL_law_592 rfl (lv_at hl 1 rfl) ?_
  refine law_arg (j := 1) C hL hnn (by decide) hS hl dL_law_593 dL_law_594 dL_law_595 (by decide) dL_law_596 dL_law_597 ?_
  refine law_c1 (As := [.int (sx xs nn 1)]) (rest := []) C h.isA h.isM c1 (fun hts => cwV 1 hts gL_law_X4_next rfl f1.1 f1.2.1 kv_X4_next ⟨f1.2.2.1, f1.2.2.2⟩) hP hD hS rfl hl.1 rfl (lv_room (Nat.le_of_ble_eq_true rfl)) dL_law_598 (fun u1 H locs _ hP hD hS => ?_)
  refine lv_aload_n hx hb dL_law_601 rfl (lv_at hl 2 rfl) ?_
  refine law_arg (j := 1) C hL hnn (by decide) hS hl dL_law_602 dL_law_603 dL_law_604 (by decide) dL_law_605 dL_law_606 ?_
  refine law_c2 (As := [.int (sx xs nn 1)]) (rest := [.int v]) C i1 h.isM c2 (fun hts => cwV 1 hts gL_law_X5_next rfl f2.1 f2.2.1 kv_X5_next ⟨f2.2.2.1, f2.2.2.2⟩) hP hD hS rfl hl.1 rfl (lv_room (Nat.le_of_ble_eq_true rfl)) dL_law_607 (fun u2 H locs hu hP hD hS => ?_)
  exact lv_icmp_eq (tgt := 842) hx hb dL_law_610 (by decide) (fun _ => kk _ _ H locs (st u2 hu) hP hD hS) (fun ne => absurd rfl ne)
set_option maxHeartbeats 4000000 in
theorem lc_depends (C : LC p s m c b L xs D cI cJ cZ) (hL : L ≤ 2560) {nn : Nat} (hnn : 5 * nn + 5 ≤ L) (h : St q z cI cJ cZ nn w1 w2) (hP : va_P D vwCl (w1 ++ w2) H) (hD : va_D (lA s) (w1 ++ w2)) (hS : va_S (lA s) s.heap H locs) (hl : lv_has ls 4 [(0, .ref b), (1, .ref (q 0)), (2, .ref (z 0)), (3, .int (nI (5 * nn)))])
    (kk : ∀ (w1 w2 : va_W) (H : Heap) (locs : List Loc), St q z cI cJ cZ (nn + 1) w1 w2 → va_P D vwCl (w1 ++ w2) H → va_D (lA s) (w1 ++ w2) → va_S (lA s) s.heap H locs → W p l e room_1 s m #[Value.ref b] below meth c H locs 44 1986 Q (F0 m 842 ls [])) : W p l e room_1 s m #[Value.ref b] below meth c H locs 44 1986 Q (F0 m 615 ls []) := by
  have hx := C.1
  have hb : c.code = cL_law := C.2.1
  obtain ⟨v, rm1, w1', f1, i1, c1, rm2, S2, ps, w2', f2, c2, st⟩ := jj_depends (l := l) (D := D) h (sx xs nn 1) (sx xs nn 2)
  refine lv_aload_n hx hb dL_law_615 rfl (lv_at hl 1 rfl) ?_
  refine law_arg (j := 1) C hL hnn (by decide) hS hl dL_law_616 dL_law_617 dL_law_618 (by decide) dL_law_619 dL_law_620 ?_
  refine law_arg (j := 2) C hL hnn (by decide) hS hl dL_law_621 dL_law_622 dL_law_623 (by decide) dL_law_624 dL_law_625 ?_
  refine law_c1 (As := [.int (sx xs nn 1), .int (sx xs nn 2)]) (rest := []) C h.isA h.isM c1 (fun hts => cwV 2 hts gL_law_X4_depends rfl f1.1 f1.2.1 kv_X4_depends ⟨f1.2.2.1, f1.2.2.2⟩) hP hD hS rfl hl.1 rfl (lv_room (Nat.le_of_ble_eq_true rfl)) dL_law_626 (fun u1 H locs _ hP hD hS => ?_)
  refine lv_aload_n hx hb dL_law_629 rfl (lv_at hl 2 rfl) ?_
  refine law_arg (j := 1) C hL hnn (by decide) hS hl dL_law_630 dL_law_631 dL_law_632 (by decide) dL_law_633 dL_law_634 ?_
  refine law_arg (j := 2) C hL hnn (by decide) hS hl dL_law_635 dL_law_636 dL_law_637 (by decide) dL_law_638 dL_law_639 ?_
  refine law_c2 (As := [.int (sx xs nn 1), .int (sx xs nn 2)]) (rest := [.int v]) C i1 h.isM c2 (fun hts => cwV 2 hts gL_law_X5_depends rfl f2.1 f2.2.1 kv_X5_depends ⟨f2.2.2.1, f2.2.2.2⟩) hP hD hS rfl hl.1 rfl (lv_room (Nat.le_of_ble_eq_true rfl)) dL_law_640 (fun u2 H locs hu hP hD hS => ?_)
  exact lv_icmp_eq (tgt := 842) hx hb dL_law_643 (by decide) (fun _ => kk _ _ H locs (st u2 hu) hP hD hS) (fun ne => absurd rfl ne)
set_option maxHeartbeats 4000000 in
theorem lc_crossings (C : LC p s m c b L xs D cI cJ cZ) (hL : L ≤ 2560) {nn : Nat} (hnn : 5 * nn + 5 ≤ L) (h : St q z cI cJ cZ nn w1 w2) (hP : va_P D vwCl (w1 ++ w2) H) (hD : va_D (lA s) (w1 ++ w2)) (hS : va_S (lA s) s.heap H locs) (hl : lv_has ls 4 [(0, .ref b), (1, .ref (q 0)), (2, .ref (z 0)), (3, .int (nI (5 * nn)))])
    (kk : ∀ (w1 w2 : va_W) (H : Heap) (locs : List Loc), St q z cI cJ cZ (nn + 1) w1 w2 → va_P D vwCl (w1 ++ w2) H → va_D (lA s) (w1 ++ w2) → va_S (lA s) s.heap H locs → W p l e room_1 s m #[Value.ref b] below meth c H locs 44 1986 Q (F0 m 842 ls [])) : W p l e room_1 s m #[Value.ref b] below meth c H locs 44 1986 Q (F0 m 648 ls []) := by
  have hx := C.1
  have hb : c.code = cL_law := C.2.1
  obtain ⟨v, rm1, w1', f1, i1, c1, rm2, S2, ps, w2', f2, c2, st⟩ := jj_crossings (l := l) (D := D) h 
  refine lv_aload_n hx hb dL_law_648 rfl (lv_at hl 1 rfl) ?_
  refine law_c1 (As := []) (rest := []) C h.isA h.isM c1 (fun hts => cwV 0 hts gL_law_X4_crossings rfl f1.1 f1.2.1 kv_X4_crossings ⟨f1.2.2.1, f1.2.2.2⟩) hP hD hS rfl hl.1 rfl (lv_room (Nat.le_of_ble_eq_true rfl)) dL_law_649 (fun u1 H locs _ hP hD hS => ?_)
  refine lv_aload_n hx hb dL_law_652 rfl (lv_at hl 2 rfl) ?_
  refine law_c2 (As := []) (rest := [.int v]) C i1 h.isM c2 (fun hts => cwV 0 hts gL_law_X5_crossings rfl f2.1 f2.2.1 kv_X5_crossings ⟨f2.2.2.1, f2.2.2.2⟩) hP hD hS rfl hl.1 rfl (lv_room (Nat.le_of_ble_eq_true rfl)) dL_law_653 (fun u2 H locs hu hP hD hS => ?_)
  exact lv_icmp_eq (tgt := 842) hx hb dL_law_656 (by decide) (fun _ => kk _ _ H locs (st u2 hu) hP hD hS) (fun ne => absurd rfl ne)
set_option maxHeartbeats 4000000 in
theorem lc_crossing (C : LC p s m c b L xs D cI cJ cZ) (hL : L ≤ 2560) {nn : Nat} (hnn : 5 * nn + 5 ≤ L) (h : St q z cI cJ cZ nn w1 w2) (hP : va_P D vwCl (w1 ++ w2) H) (hD : va_D (lA s) (w1 ++ w2)) (hS : va_S (lA s) s.heap H locs) (hl : lv_has ls 4 [(0, .ref b), (1, .ref (q 0)), (2, .ref (z 0)), (3, .int (nI (5 * nn)))])
    (kk : ∀ (w1 w2 : va_W) (H : Heap) (locs : List Loc), St q z cI cJ cZ (nn + 1) w1 w2 → va_P D vwCl (w1 ++ w2) H → va_D (lA s) (w1 ++ w2) → va_S (lA s) s.heap H locs → W p l e room_1 s m #[Value.ref b] below meth c H locs 44 1986 Q (F0 m 842 ls [])) : W p l e room_1 s m #[Value.ref b] below meth c H locs 44 1986 Q (F0 m 661 ls []) := by
  have hx := C.1
  have hb : c.code = cL_law := C.2.1
  obtain ⟨v, rm1, w1', f1, i1, c1, rm2, S2, ps, w2', f2, c2, st⟩ := jj_crossing (l := l) (D := D) h (sx xs nn 1)
  refine lv_aload_n hx hb dL_law_661 rfl (lv_at hl 1 rfl) ?_
  refine law_arg (j := 1) C hL hnn (by decide) hS hl dL_law_662 dL_law_663 dL_law_664 (by decide) dL_law_665 dL_law_666 ?_
  refine law_c1 (As := [.int (sx xs nn 1)]) (rest := []) C h.isA h.isM c1 (fun hts => cwV 1 hts gL_law_X4_crossing rfl f1.1 f1.2.1 kv_X4_crossing ⟨f1.2.2.1, f1.2.2.2⟩) hP hD hS rfl hl.1 rfl (lv_room (Nat.le_of_ble_eq_true rfl)) dL_law_667 (fun u1 H locs _ hP hD hS => ?_)
  refine lv_aload_n hx hb dL_law_670 rfl (lv_at hl 2 rfl) ?_
  refine law_arg (j := 1) C hL hnn (by decide) hS hl dL_law_671 dL_law_672 dL_law_673 (by decide) dL_law_674 dL_law_675 ?_
  refine law_c2 (As := [.int (sx xs nn 1)]) (rest := [.int v]) C i1 h.isM c2 (fun hts => cwV 1 hts gL_law_X5_crossing rfl f2.1 f2.2.1 kv_X5_crossing ⟨f2.2.2.1, f2.2.2.2⟩) hP hD hS rfl hl.1 rfl (lv_room (Nat.le_of_ble_eq_true rfl)) dL_law_676 (fun u2 H locs hu hP hD hS => ?_)
  exact lv_icmp_eq (tgt := 842) hx hb dL_law_679 (by decide) (fun _ => kk _ _ H locs (st u2 hu) hP hD hS) (fun ne => absurd rfl ne)
set_option maxHeartbeats 4000000 in
theorem lc_alone (C : LC p s m c b L xs D cI cJ cZ) (hL : L ≤ 2560) {nn : Nat} (hnn : 5 * nn + 5 ≤ L) (h : St q z cI cJ cZ nn w1 w2) (hP : va_P D vwCl (w1 ++ w2) H) (hD : va_D (lA s) (w1 ++ w2)) (hS : va_S (lA s) s.heap H locs) (hl : lv_has ls 4 [(0, .ref b), (1, .ref (q 0)), (2, .ref (z 0)), (3, .int (nI (5 * nn)))])
    (kk : ∀ (w1 w2 : va_W) (H : Heap) (locs : List Loc), St q z cI cJ cZ (nn + 1) w1 w2 → va_P D vwCl (w1 ++ w2) H → va_D (lA s) (w1 ++ w2) → va_S (lA s) s.heap H locs → W p l e room_1 s m #[Value.ref b] below meth c H locs 44 1986 Q (F0 m 842 ls [])) : W p l e room_1 s m #[Value.ref b] below meth c H locs 44 1986 Q (F0 m 684 ls []) := by
  have hx := C.1
  have hb : c.code = cL_law := C.2.1
  obtain ⟨v, rm1, w1', f1, i1, c1, rm2, S2, ps, w2', f2, c2, st⟩ := jj_alone (l := l) (D := D) h (sx xs nn 1)
  refine lv_aload_n hx hb dL_law_684 rfl (lv_at hl 1 rfl) ?_
  refine law_arg (j := 1) C hL hnn (by decide) hS hl dL_law_685 dL_law_686 dL_law_687 (by decide) dL_law_688 dL_law_689 ?_
  refine law_c1 (As := [.int (sx xs nn 1)]) (rest := []) C h.isA h.isM c1 (fun hts => cwV 1 hts gL_law_X4_alone rfl f1.1 f1.2.1 kv_X4_alone ⟨f1.2.2.1, f1.2.2.2⟩) hP hD hS rfl hl.1 rfl (lv_room (Nat.le_of_ble_eq_true rfl)) dL_law_690 (fun u1 H locs _ hP hD hS => ?_)
  refine lv_aload_n hx hb dL_law_693 rfl (lv_at hl 2 rfl) ?_
  refine law_arg (j := 1) C hL hnn (by decide) hS hl dL_law_694 dL_law_695 dL_law_696 (by decide) dL_law_697 dL_law_698 ?_
  refine law_c2 (As := [.int (sx xs nn 1)]) (rest := [.int v]) C i1 h.isM c2 (fun hts => cwV 1 hts gL_law_X5_alone rfl f2.1 f2.2.1 kv_X5_alone ⟨f2.2.2.1, f2.2.2.2⟩) hP hD hS rfl hl.1 rfl (lv_room (Nat.le_of_ble_eq_true rfl)) dL_law_699 (fun u2 H locs hu hP hD hS => ?_)
  exact lv_icmp_eq (tgt := 842) hx hb dL_law_702 (by decide) (fun _ => kk _ _ H locs (st u2 hu) hP hD hS) (fun ne => absurd rfl ne)
set_option maxHeartbeats 4000000 in
theorem lc_mend (C : LC p s m c b L xs D cI cJ cZ) (hL : L ≤ 2560) {nn : Nat} (hnn : 5 * nn + 5 ≤ L) (h : St q z cI cJ cZ nn w1 w2) (hP : va_P D vwCl (w1 ++ w2) H) (hD : va_D (lA s) (w1 ++ w2)) (hS : va_S (lA s) s.heap H locs) (hl : lv_has ls 4 [(0, .ref b), (1, .ref (q 0)), (2, .ref (z 0)), (3, .int (nI (5 * nn)))])
    (kk : ∀ (w1 w2 : va_W) (H : Heap) (locs : List Loc), St q z cI cJ cZ (nn + 1) w1 w2 → va_P D vwCl (w1 ++ w2) H → va_D (lA s) (w1 ++ w2) → va_S (lA s) s.heap H locs → W p l e room_1 s m #[Value.ref b] below meth c H locs 44 1986 Q (F0 m 842 ls [])) : W p l e room_1 s m #[Value.ref b] below meth c H locs 44 1986 Q (F0 m 707 ls []) := by
  have hx := C.1
  have hb : c.code = cL_law := C.2.1
  obtain ⟨v, rm1, w1', f1, i1, c1, rm2, S2, ps, w2', f2, c2, st⟩ := jj_mend (l := l) (D := D) h (sx xs nn 1)
  refine lv_aload_n hx hb dL_law_707 rfl (lv_at hl 1 rfl) ?_
  refine law_arg (j := 1) C hL hnn (by decide) hS hl dL_law_708 dL_law_709 dL_law_710 (by decide) dL_law_711 dL_law_712 ?_
  refine law_c1 (As := [.int (sx xs nn 1)]) (rest := []) C h.isA h.isM c1 (fun hts => cwV 1 hts gL_law_X4_mend rfl f1.1 f1.2.1 kv_X4_mend ⟨f1.2.2.1, f1.2.2.2⟩) hP hD hS rfl hl.1 rfl (lv_room (Nat.le_of_ble_eq_true rfl)) dL_law_713 (fun u1 H locs _ hP hD hS => ?_)
  refine lv_aload_n hx hb dL_law_716 rfl (lv_at hl 2 rfl) ?_
  refine law_arg (j := 1) C hL hnn (by decide) hS hl dL_law_717 dL_law_718 dL_law_719 (by decide) dL_law_720 dL_law_721 ?_
  refine law_c2 (As := [.int (sx xs nn 1)]) (rest := [.int v]) C i1 h.isM c2 (fun hts => cwV 1 hts gL_law_X5_mend rfl f2.1 f2.2.1 kv_X5_mend ⟨f2.2.2.1, f2.2.2.2⟩) hP hD hS rfl hl.1 rfl (lv_room (Nat.le_of_ble_eq_true rfl)) dL_law_722 (fun u2 H locs hu hP hD hS => ?_)
  exact lv_icmp_eq (tgt := 842) hx hb dL_law_725 (by decide) (fun _ => kk _ _ H locs (st u2 hu) hP hD hS) (fun ne => absurd rfl ne)
set_option maxHeartbeats 4000000 in
theorem lc_need (C : LC p s m c b L xs D cI cJ cZ) (hL : L ≤ 2560) {nn : Nat} (hnn : 5 * nn + 5 ≤ L) (h : St q z cI cJ cZ nn w1 w2) (hP : va_P D vwCl (w1 ++ w2) H) (hD : va_D (lA s) (w1 ++ w2)) (hS : va_S (lA s) s.heap H locs) (hl : lv_has ls 4 [(0, .ref b), (1, .ref (q 0)), (2, .ref (z 0)), (3, .int (nI (5 * nn)))])
    (kk : ∀ (w1 w2 : va_W) (H : Heap) (locs : List Loc), St q z cI cJ cZ (nn + 1) w1 w2 → va_P D vwCl (w1 ++ w2) H → va_D (lA s) (w1 ++ w2) → va_S (lA s) s.heap H locs → W p l e room_1 s m #[Value.ref b] below meth c H locs 44 1986 Q (F0 m 842 ls [])) : W p l e room_1 s m #[Value.ref b] below meth c H locs 44 1986 Q (F0 m 730 ls []) := by
  have hx := C.1
  have hb : c.code = cL_law := C.2.1
  obtain ⟨v, rm1, w1', f1, i1, c1, rm2, S2, ps, w2', f2, c2, st⟩ := jj_need (l := l) (D := D) h (sx xs nn 1) (sx xs nn 2) (sx xs nn 3)
  refine lv_aload_n hx hb dL_law_730 rfl (lv_at hl 1 rfl) ?_
  refine law_arg (j := 1) C hL hnn (by decide) hS hl dL_law_731 dL_law_732 dL_law_733 (by decide) dL_law_734 dL_law_735 ?_
  refine law_arg (j := 2) C hL hnn (by decide) hS hl dL_law_736 dL_law_737 dL_law_738 (by decide) dL_law_739 dL_law_740 ?_
  refine law_arg (j := 3) C hL hnn (by decide) hS hl dL_law_741 dL_law_742 dL_law_743 (by decide) dL_law_744 dL_law_745 ?_
  refine law_c1 (As := [.int (sx xs nn 1), .int (sx xs nn 2), .int (sx xs nn 3)]) (rest := []) C h.isA h.isM c1 (fun hts => cwV 3 hts gL_law_X4_need rfl f1.1 f1.2.1 kv_X4_need ⟨f1.2.2.1, f1.2.2.2⟩) hP hD hS rfl hl.1 rfl (lv_room (Nat.le_of_ble_eq_true rfl)) dL_law_746 (fun u1 H locs _ hP hD hS => ?_)
  refine lv_aload_n hx hb dL_law_749 rfl (lv_at hl 2 rfl) ?_
  refine law_arg (j := 1) C hL hnn (by decide) hS hl dL_law_750 dL_law_751 dL_law_752 (by decide) dL_law_753 dL_law_754 ?_
  refine law_arg (j := 2) C hL hnn (by decide) hS hl dL_law_755 dL_law_756 dL_law_757 (by decide) dL_law_758 dL_law_759 ?_
  refine law_arg (j := 3) C hL hnn (by decide) hS hl dL_law_760 dL_law_761 dL_law_762 (by decide) dL_law_763 dL_law_764 ?_
  refine law_c2 (As := [.int (sx xs nn 1), .int (sx xs nn 2), .int (sx xs nn 3)]) (rest := [.int v]) C i1 h.isM c2 (fun hts => cwV 3 hts gL_law_X5_need rfl f2.1 f2.2.1 kv_X5_need ⟨f2.2.2.1, f2.2.2.2⟩) hP hD hS rfl hl.1 rfl (lv_room (Nat.le_of_ble_eq_true rfl)) dL_law_765 (fun u2 H locs hu hP hD hS => ?_)
  exact lv_icmp_eq (tgt := 842) hx hb dL_law_768 (by decide) (fun _ => kk _ _ H locs (st u2 hu) hP hD hS) (fun ne => absurd rfl ne)
set_option maxHeartbeats 4000000 in
theorem lc_go (C : LC p s m c b L xs D cI cJ cZ) (hL : L ≤ 2560) {nn : Nat} (hnn : 5 * nn + 5 ≤ L) (h : St q z cI cJ cZ nn w1 w2) (hP : va_P D vwCl (w1 ++ w2) H) (hD : va_D (lA s) (w1 ++ w2)) (hS : va_S (lA s) s.heap H locs) (hl : lv_has ls 4 [(0, .ref b), (1, .ref (q 0)), (2, .ref (z 0)), (3, .int (nI (5 * nn)))])
    (kk : ∀ (w1 w2 : va_W) (H : Heap) (locs : List Loc), St q z cI cJ cZ (nn + 1) w1 w2 → va_P D vwCl (w1 ++ w2) H → va_D (lA s) (w1 ++ w2) → va_S (lA s) s.heap H locs → W p l e room_1 s m #[Value.ref b] below meth c H locs 44 1986 Q (F0 m 842 ls [])) : W p l e room_1 s m #[Value.ref b] below meth c H locs 44 1986 Q (F0 m 773 ls []) := by
  have hx := C.1
  have hb : c.code = cL_law := C.2.1
  obtain ⟨v, rm1, w1', f1, i1, c1, rm2, S2, ps, w2', f2, c2, st⟩ := jj_go (l := l) (D := D) h (sx xs nn 1)
  refine lv_aload_n hx hb dL_law_773 rfl (lv_at hl 1 rfl) ?_
  refine law_arg (j := 1) C hL hnn (by decide) hS hl dL_law_774 dL_law_775 dL_law_776 (by decide) dL_law_777 dL_law_778 ?_
  refine law_c1 (As := [.int (sx xs nn 1)]) (rest := []) C h.isA h.isM c1 (fun hts => cwV 1 hts gL_law_X4_go rfl f1.1 f1.2.1 kv_X4_go ⟨f1.2.2.1, f1.2.2.2⟩) hP hD hS rfl hl.1 rfl (lv_room (Nat.le_of_ble_eq_true rfl)) dL_law_779 (fun u1 H locs _ hP hD hS => ?_)
  refine lv_aload_n hx hb dL_law_782 rfl (lv_at hl 2 rfl) ?_
  refine law_arg (j := 1) C hL hnn (by decide) hS hl dL_law_783 dL_law_784 dL_law_785 (by decide) dL_law_786 dL_law_787 ?_
  refine law_c2 (As := [.int (sx xs nn 1)]) (rest := [.int v]) C i1 h.isM c2 (fun hts => cwV 1 hts gL_law_X5_go rfl f2.1 f2.2.1 kv_X5_go ⟨f2.2.2.1, f2.2.2.2⟩) hP hD hS rfl hl.1 rfl (lv_room (Nat.le_of_ble_eq_true rfl)) dL_law_788 (fun u2 H locs hu hP hD hS => ?_)
  exact lv_icmp_eq (tgt := 842) hx hb dL_law_791 (by decide) (fun _ => kk _ _ H locs (st u2 hu) hP hD hS) (fun ne => absurd rfl ne)
set_option maxHeartbeats 4000000 in
theorem lc_gone (C : LC p s m c b L xs D cI cJ cZ) (hL : L ≤ 2560) {nn : Nat} (hnn : 5 * nn + 5 ≤ L) (h : St q z cI cJ cZ nn w1 w2) (hP : va_P D vwCl (w1 ++ w2) H) (hD : va_D (lA s) (w1 ++ w2)) (hS : va_S (lA s) s.heap H locs) (hl : lv_has ls 4 [(0, .ref b), (1, .ref (q 0)), (2, .ref (z 0)), (3, .int (nI (5 * nn)))])
    (kk : ∀ (w1 w2 : va_W) (H : Heap) (locs : List Loc), St q z cI cJ cZ (nn + 1) w1 w2 → va_P D vwCl (w1 ++ w2) H → va_D (lA s) (w1 ++ w2) → va_S (lA s) s.heap H locs → W p l e room_1 s m #[Value.ref b] below meth c H locs 44 1986 Q (F0 m 842 ls [])) : W p l e room_1 s m #[Value.ref b] below meth c H locs 44 1986 Q (F0 m 796 ls []) := by
  have hx := C.1
  have hb : c.code = cL_law := C.2.1
  obtain ⟨v, rm1, w1', f1, i1, c1, rm2, S2, ps, w2', f2, c2, st⟩ := jj_gone (l := l) (D := D) h (sx xs nn 1)
  refine lv_aload_n hx hb dL_law_796 rfl (lv_at hl 1 rfl) ?_
  refine law_arg (j := 1) C hL hnn (by decide) hS hl dL_law_797 dL_law_798 dL_law_799 (by decide) dL_law_800 dL_law_801 ?_
  refine law_c1 (As := [.int (sx xs nn 1)]) (rest := []) C h.isA h.isM c1 (fun hts => cwV 1 hts gL_law_X4_gone rfl f1.1 f1.2.1 kv_X4_gone ⟨f1.2.2.1, f1.2.2.2⟩) hP hD hS rfl hl.1 rfl (lv_room (Nat.le_of_ble_eq_true rfl)) dL_law_802 (fun u1 H locs _ hP hD hS => ?_)
  refine lv_aload_n hx hb dL_law_805 rfl (lv_at hl 2 rfl) ?_
  refine law_arg (j := 1) C hL hnn (by decide) hS hl dL_law_806 dL_law_807 dL_law_808 (by decide) dL_law_809 dL_law_810 ?_
  refine law_c2 (As := [.int (sx xs nn 1)]) (rest := [.int v]) C i1 h.isM c2 (fun hts => cwV 1 hts gL_law_X5_gone rfl f2.1 f2.2.1 kv_X5_gone ⟨f2.2.2.1, f2.2.2.2⟩) hP hD hS rfl hl.1 rfl (lv_room (Nat.le_of_ble_eq_true rfl)) dL_law_811 (fun u2 H locs hu hP hD hS => ?_)
  exact lv_icmp_eq (tgt := 842) hx hb dL_law_814 (by decide) (fun _ => kk _ _ H locs (st u2 hu) hP hD hS) (fun ne => absurd rfl ne)
set_option maxHeartbeats 4000000 in
theorem lc_count (C : LC p s m c b L xs D cI cJ cZ) (hL : L ≤ 2560) {nn : Nat} (hnn : 5 * nn + 5 ≤ L) (h : St q z cI cJ cZ nn w1 w2) (hP : va_P D vwCl (w1 ++ w2) H) (hD : va_D (lA s) (w1 ++ w2)) (hS : va_S (lA s) s.heap H locs) (hl : lv_has ls 4 [(0, .ref b), (1, .ref (q 0)), (2, .ref (z 0)), (3, .int (nI (5 * nn)))])
    (kk : ∀ (w1 w2 : va_W) (H : Heap) (locs : List Loc), St q z cI cJ cZ (nn + 1) w1 w2 → va_P D vwCl (w1 ++ w2) H → va_D (lA s) (w1 ++ w2) → va_S (lA s) s.heap H locs → W p l e room_1 s m #[Value.ref b] below meth c H locs 44 1986 Q (F0 m 842 ls [])) : W p l e room_1 s m #[Value.ref b] below meth c H locs 44 1986 Q (F0 m 819 ls []) := by
  have hx := C.1
  have hb : c.code = cL_law := C.2.1
  obtain ⟨v, rm1, w1', f1, i1, c1, rm2, S2, ps, w2', f2, c2, st⟩ := jj_count (l := l) (D := D) h (sx xs nn 1)
  refine lv_aload_n hx hb dL_law_819 rfl (lv_at hl 1 rfl) ?_
  refine law_arg (j := 1) C hL hnn (by decide) hS hl dL_law_820 dL_law_821 dL_law_822 (by decide) dL_law_823 dL_law_824 ?_
  refine law_c1 (As := [.int (sx xs nn 1)]) (rest := []) C h.isA h.isM c1 (fun hts => cwV 1 hts gL_law_X4_count rfl f1.1 f1.2.1 kv_X4_count ⟨f1.2.2.1, f1.2.2.2⟩) hP hD hS rfl hl.1 rfl (lv_room (Nat.le_of_ble_eq_true rfl)) dL_law_825 (fun u1 H locs _ hP hD hS => ?_)
  refine lv_aload_n hx hb dL_law_828 rfl (lv_at hl 2 rfl) ?_
  refine law_arg (j := 1) C hL hnn (by decide) hS hl dL_law_829 dL_law_830 dL_law_831 (by decide) dL_law_832 dL_law_833 ?_
  refine law_c2 (As := [.int (sx xs nn 1)]) (rest := [.int v]) C i1 h.isM c2 (fun hts => cwV 1 hts gL_law_X5_count rfl f2.1 f2.2.1 kv_X5_count ⟨f2.2.2.1, f2.2.2.2⟩) hP hD hS rfl hl.1 rfl (lv_room (Nat.le_of_ble_eq_true rfl)) dL_law_834 (fun u2 H locs hu hP hD hS => ?_)
  exact lv_icmp_eq (tgt := 842) hx hb dL_law_837 (by decide) (fun _ => kk _ _ H locs (st u2 hu) hP hD hS) (fun ne => absurd rfl ne)
end LQ
