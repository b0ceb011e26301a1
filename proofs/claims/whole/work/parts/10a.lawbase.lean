/-! The law: calls beside the other side's cells, the bundle of what stands all through, the start. -/
section FV
variable {p : Program} {l : Launch} {e : Env} {R : Room} {s : State} {m : MethodId} {args : Array Value} {below : List Frame} {meth : Method} {c : Code} {H : Heap} {locs : List Loc} {cells slots : Nat} {Q : State → Prop}
variable {cc : ByteArray} {pc : Nat} {ls : Array Slot} {rest : List Value} {D : va_G} {cI cJ cZ : ClassId} {ws : va_W} {A : Nat → Prop}
variable {y : MethodName} {bytes : ByteArray} {maxL nL mc ms n index : Nat} {ret : Option FieldType} {wd : List Cond} {rm : Room} {Ts : List Cond} {own C : String} {b : Nat} {As : List Value} {st0 : List Value}
theorem fx_callVF {wc wr : va_W} {S : Type} {post : S → Prop} {rv : S → Option Value} {w' : S → va_W} (F : CallFix p m c cc nL s args Ts own) (hM : Ct l D cI cJ cZ y wd rm 0 0 (.ref b :: As) wc post rv w') (cw : CallW R s args own C index y bytes maxL ret wd rm 0 0 n)
    (hK : xK D cI cJ cZ s) (hP : va_P D vwCl ws H) (hD : va_D A ws) (hS : va_S A s.heap H locs) (hA : ∀ q, s.heap.size ≤ q → A q) (hZ : xZ A s s.heap) (isC isR : List Nat) (hC0 : isC.filterMap (fun i => ws[i]?) = wc) (hCn : va_nd isC = true) (hC : isC.map (fun i => ws[i]?) = wc.map some) (hR : isR.map (fun i => ws[i]?) = wr.map some) (hnd : va_nd isR = true) (hdis : ∀ i ∈ isR, i ∉ isC)
    (q0 : Nat) {ci : Nat} {fs : List Value} {qc : vw_C} (he : wc[q0]? = some (b, .inr (ci, fs))) (hc : vwCl[ci]? = some qc) (hcn : qc.1 = C)
    (hn : As.length = n) (hsize : ls.size = nL) (hst : st0 = As.reverse ++ .ref b :: rest) (hW : 2 * (F0 m pc ls st0).monitorRoom + (rest.map fun v => v.category).sum ≤ 8) (hdg : decode cc pc = .ok (.invokevirtual index, 3)) (hf : cells ≤ R.cells ∧ slots ≤ R.slots)
    (kk : ∀ (u : S) (H1 : Heap) (locs1 : List Loc), post u → va_P D vwCl (wr ++ w' u) H1 → va_D A (wr ++ w' u) → va_S A s.heap H1 locs1 → W p l e R s m args below meth c H1 locs1 cells slots Q (F0 m (pc + 3) ls ((rv u).toList ++ rest))) : W p l e R s m args below meth c H locs cells slots Q (F0 m pc ls st0) :=
  fx_goF (av := .ref b :: As) (va_runV (As := As) F (hM H.size) cw ⟨fx_blind, by rw [← hcn]; exact va_recv hK (hP.sub isC hC0) hc he, fun U hU hW => fx_preF hK (hP.sub isC hC0) (hD.sub isC hCn hC) (va_free hD hS hA isC hC) hS hZ _ U hU hW⟩ rfl hn hsize hst hW hdg hf) hP hD hS hA isC isR hC hR hnd hdis kk
/-- the same of the constructor that calls a nest mate's -/
theorem fx_callIE {wc wr : va_W} {S : Type} {post : S → Prop} {rv : S → Option Value} {w' : S → va_W} (F : CallFix p m c cc nL s args Ts own) (hM : CtE l D cI cJ cZ y wd rm mc ms (.ref b :: As) wc post rv w') (cw : CallB R s args own index y bytes maxL none wd rm mc ms n ∧ y.name = "<init>" ∧ (Cond.instanceMethod y).before args s = true)
    (hK : xK D cI cJ cZ s) (hP : va_P D vwCl ws H) (hD : va_D A ws) (hS : va_S A s.heap H locs) (hA : ∀ q, s.heap.size ≤ q → A q) (hZ : xZ A s s.heap) (hN : xN s) (isC isR : List Nat) (hC0 : isC.filterMap (fun i => ws[i]?) = wc) (hCn : va_nd isC = true) (hC : isC.map (fun i => ws[i]?) = wc.map some) (hR : isR.map (fun i => ws[i]?) = wr.map some) (hnd : va_nd isR = true) (hdis : ∀ i ∈ isR, i ∉ isC)
    (hn : As.length = n) (hsize : ls.size = nL) (hst : st0 = As.reverse ++ .ref b :: rest) (hW : 2 * (F0 m pc ls st0).monitorRoom + (rest.map fun v => v.category).sum ≤ 8) (hdg : decode cc pc = .ok (.invokespecial index, 3)) (hf : cells + mc ≤ R.cells ∧ slots + ms ≤ R.slots)
    (kk : ∀ (u : S) (H1 : Heap) (locs1 : List Loc), post u → va_P D vwCl (wr ++ w' u) H1 → va_D A (wr ++ w' u) → va_S A s.heap H1 locs1 → W p l e R s m args below meth c H1 locs1 (cells + mc) (slots + ms) Q (F0 m (pc + 3) ls ((rv u).toList ++ rest))) : W p l e R s m args below meth c H locs cells slots Q (F0 m pc ls st0) :=
  fx_goF (av := .ref b :: As) (va_runI (As := As) F (hM H.size) cw ⟨fx_blindE, fun U hU hW => by
    obtain ⟨a1, a2, a3, a4, a5, a6⟩ := fx_preF hK (hP.sub isC hC0) (hD.sub isC hCn hC) (va_free hD hS hA isC hC) hS hZ (.ref b :: As) U hU hW
    exact ⟨a1, a2, a3, a4, a5, a6, va_Nw.warmM hW hN⟩⟩ rfl hn hsize hst hW hdg hf) hP hD hS hA isC isR hC hR hnd hdis kk
end FV
def isM (z : Nat → Nat) (cI cZ : ClassId) (w : va_W) : Prop := ∃ (mn : Nat) (mi : Nat) (ms : Nat) (mtk : Nat) (mso : Nat → Nat) (mwh : Nat → Nat) (mfi : Nat → Nat) (mse : Nat → Nat) (mth : Nat → Nat) (mpu : Nat → Nat) (mno : Nat → Nat) (mlo : Nat → Nat) (mbe : Nat → Nat) (mre : Nat → Nat) (mis : Nat → Bool) (mca : Nat → Bool) (mpa : Nat → Nat) (mva : Nat → Nat) (mle : Nat → Nat) (mst : Nat → Bool) (mtn : Nat → Bool) (mln : Nat → Nat) (mne : Nat → Int32) (mgo : Nat → Int32), w = wM z cI cZ mn mi ms mtk mso mwh mfi mse mth mpu mno mlo mbe mre mis mca mpa mva mle mst mtn mln mne mgo
theorem St.isA {q z : Nat → Nat} {cI cJ cZ : ClassId} {nn : Nat} {w1 w2 : va_W} (h : St q z cI cJ cZ nn w1 w2) : isA q cI cJ w1 := by
  obtain ⟨xro, xtk, xli, cn, ci, cs, cso, cki, cfa, cfb, cfc, cva, csn, csd, csl, csb, csr, csc, won, wle, pte, pho, nwa, nti, mso, mwh, mfi, mse, mth, mpu, mno, mlo, mbe, mre, mis, mca, mpa, mva, mle, mst, mtn, mln, mne, mgo, hI, rfl, rfl⟩ := h
  exact isA.mk
theorem St.isM {q z : Nat → Nat} {cI cJ cZ : ClassId} {nn : Nat} {w1 w2 : va_W} (h : St q z cI cJ cZ nn w1 w2) : isM z cI cZ w2 := by
  obtain ⟨xro, xtk, xli, cn, ci, cs, cso, cki, cfa, cfb, cfc, cva, csn, csd, csl, csb, csr, csc, won, wle, pte, pho, nwa, nti, mso, mwh, mfi, mse, mth, mpu, mno, mlo, mbe, mre, mis, mca, mpa, mva, mle, mst, mtn, mln, mne, mgo, hI, rfl, rfl⟩ := h
  exact ⟨cn, ci, cs, xtk, mso, mwh, mfi, mse, mth, mpu, mno, mlo, mbe, mre, mis, mca, mpa, mva, mle, mst, mtn, mln, mne, mgo, rfl⟩
theorem St.up {q z : Nat → Nat} {cI cJ cZ : ClassId} {nn : Nat} {w1 w2 : va_W} (h : St q z cI cJ cZ nn w1 w2) : St q z cI cJ cZ (nn + 1) w1 w2 := by
  obtain ⟨xro, xtk, xli, cn, ci, cs, cso, cki, cfa, cfb, cfc, cva, csn, csd, csl, csb, csr, csc, won, wle, pte, pho, nwa, nti, mso, mwh, mfi, mse, mth, mpu, mno, mlo, mbe, mre, mis, mca, mpa, mva, mle, mst, mtn, mln, mne, mgo, hI, rfl, rfl⟩ := h
  exact St.mk (inv_up hI)
abbrev lA (s : State) : Nat → Prop := fun q => s.heap.size ≤ q
/-- what stands all through the law's body -/
def LC (p : Program) (s : State) (m : MethodId) (c : Code) (b L : Nat) (xs : Nat → Int32) (D : va_G) (cI cJ cZ : ClassId) : Prop :=
  p.tables.exec = Jvm.exec ∧ c.code = cL_law ∧ c.maxLocals = 4 ∧ s.vm.findClass RL = some m.cls ∧ (∀ w ∈ wsL_law, w.before #[Value.ref b] s = true) ∧ va_X b L xs s s.heap ∧ b < s.heap.size ∧ xK D cI cJ cZ s ∧ xZ (lA s) s s.heap
abbrev sx (xs : Nat → Int32) (nn j : Nat) : Int32 := xs (nI (5 * nn) + nI j).toNatClampNeg
theorem sx_in {nn j L : Nat} (h : 5 * nn + 5 ≤ L) (hj : j < 5) (hL : L ≤ 2560) : vp_in (nI (5 * nn) + nI j) L := by
  rw [nI_add]
  exact vp_in_nI (by omega) (by omega)
section LW
variable {p : Program} {l : Launch} {e : Env} {s : State} {m : MethodId} {below : List Frame} {meth : Method} {c : Code} {H : Heap} {locs : List Loc} {Q : State → Prop} {b L : Nat} {xs : Nat → Int32} {D : va_G} {cI cJ cZ : ClassId} {q z : Nat → Nat} {w1 w2 : va_W}
variable {y : MethodName} {bytes : ByteArray} {maxL n index pc : Nat} {ret : Option FieldType} {wd : List Cond} {rm : Room} {As : List Value} {ls : Array Slot} {st0 rest : List Value} {v : Int32}
/-- the class's call -/
theorem law_c1 {S : Type} {post : S → Prop} {w' : S → va_W} (C : LC p s m c b L xs D cI cJ cZ) (h1 : isA q cI cJ w1) (h2 : isM z cI cZ w2) (hM : Ct l D cI cJ cZ y wd rm 0 0 (.ref (q 0) :: As) w1 post (fun _ => some (.int v)) w') (cw : (∀ w ∈ wsL_law, w.before #[Value.ref b] s = true) → CallW room_1 s #[Value.ref b] RL RX4 index y bytes maxL ret wd rm 0 0 n)
    (hP : va_P D vwCl (w1 ++ w2) H) (hD : va_D (lA s) (w1 ++ w2)) (hS : va_S (lA s) s.heap H locs)
    (hn : As.length = n) (hsize : ls.size = 4) (hst : st0 = As.reverse ++ .ref (q 0) :: rest) (hW : 2 * (F0 m pc ls st0).monitorRoom + (rest.map fun v => v.category).sum ≤ 8) (hdg : decode cL_law pc = .ok (.invokevirtual index, 3))
    (kk : ∀ (u : S) (H1 : Heap) (locs1 : List Loc), post u → va_P D vwCl (w2 ++ w' u) H1 → va_D (lA s) (w2 ++ w' u) → va_S (lA s) s.heap H1 locs1 → W p l e room_1 s m #[Value.ref b] below meth c H1 locs1 44 1986 Q (F0 m (pc + 3) ls (.int v :: rest))) : W p l e room_1 s m #[Value.ref b] below meth c H locs 44 1986 Q (F0 m pc ls st0) := by
  obtain ⟨hx, hb, hml, hown, hts, hX, hbl, hK, hZ⟩ := C
  obtain ⟨xro, xtk, xli, cn, ci, cs, cso, cki, cfa, cfb, cfc, cva, csn, csd, csl, csb, csr, csc, won, wle, pte, pho, nwa, nti, rfl⟩ := h1
  obtain ⟨mn, mi, ms, mtk, mso, mwh, mfi, mse, mth, mpu, mno, mlo, mbe, mre, mis, mca, mpa, mva, mle, mst, mtn, mln, mne, mgo, rfl⟩ := h2
  exact fx_callVF ⟨hx, hb, hml, hown, hts⟩ hM (cw hts) hK hP hD hS (fun _ h => h) hZ [0, 1, 2, 3, 4, 5, 6, 7, 8, 9, 10, 11, 12, 13, 14, 15, 16, 17, 18, 19, 20, 21, 22] [23, 24, 25, 26, 27, 28, 29, 30, 31, 32, 33, 34, 35, 36, 37, 38, 39, 40, 41, 42, 43] rfl (by decide) rfl rfl (by decide) (by decide) 0 (ci := 4) rfl rfl rfl hn hsize hst hW hdg ⟨Nat.le_of_ble_eq_true rfl, Nat.le_of_ble_eq_true rfl⟩ kk
/-- the reference's -/
theorem law_c2 {S : Type} {post : S → Prop} {w' : S → va_W} (C : LC p s m c b L xs D cI cJ cZ) (h1 : isA q cI cJ w1) (h2 : isM z cI cZ w2) (hM : Ct l D cI cJ cZ y wd rm 0 0 (.ref (z 0) :: As) w2 post (fun _ => some (.int v)) w') (cw : (∀ w ∈ wsL_law, w.before #[Value.ref b] s = true) → CallW room_1 s #[Value.ref b] RL RX5 index y bytes maxL ret wd rm 0 0 n)
    (hP : va_P D vwCl (w2 ++ w1) H) (hD : va_D (lA s) (w2 ++ w1)) (hS : va_S (lA s) s.heap H locs)
    (hn : As.length = n) (hsize : ls.size = 4) (hst : st0 = As.reverse ++ .ref (z 0) :: rest) (hW : 2 * (F0 m pc ls st0).monitorRoom + (rest.map fun v => v.category).sum ≤ 8) (hdg : decode cL_law pc = .ok (.invokevirtual index, 3))
    (kk : ∀ (u : S) (H1 : Heap) (locs1 : List Loc), post u → va_P D vwCl (w1 ++ w' u) H1 → va_D (lA s) (w1 ++ w' u) → va_S (lA s) s.heap H1 locs1 → W p l e room_1 s m #[Value.ref b] below meth c H1 locs1 44 1986 Q (F0 m (pc + 3) ls (.int v :: rest))) : W p l e room_1 s m #[Value.ref b] below meth c H locs 44 1986 Q (F0 m pc ls st0) := by
  obtain ⟨hx, hb, hml, hown, hts, hX, hbl, hK, hZ⟩ := C
  obtain ⟨xro, xtk, xli, cn, ci, cs, cso, cki, cfa, cfb, cfc, cva, csn, csd, csl, csb, csr, csc, won, wle, pte, pho, nwa, nti, rfl⟩ := h1
  obtain ⟨mn, mi, ms, mtk, mso, mwh, mfi, mse, mth, mpu, mno, mlo, mbe, mre, mis, mca, mpa, mva, mle, mst, mtn, mln, mne, mgo, rfl⟩ := h2
  exact fx_callVF ⟨hx, hb, hml, hown, hts⟩ hM (cw hts) hK hP hD hS (fun _ h => h) hZ [0, 1, 2, 3, 4, 5, 6, 7, 8, 9, 10, 11, 12, 13, 14, 15, 16, 17, 18, 19, 20] [21, 22, 23, 24, 25, 26, 27, 28, 29, 30, 31, 32, 33, 34, 35, 36, 37, 38, 39, 40, 41, 42, 43] rfl (by decide) rfl rfl (by decide) (by decide) 0 (ci := 5) rfl rfl rfl hn hsize hst hW hdg ⟨Nat.le_of_ble_eq_true rfl, Nat.le_of_ble_eq_true rfl⟩ kk
/-- script[i + j] -/
theorem law_arg {nn j : Nat} (C : LC p s m c b L xs D cI cJ cZ) (hL : L ≤ 2560) (hnn : 5 * nn + 5 ≤ L) (hj : j < 5) (hS : va_S (lA s) s.heap H locs) {lv : List (Nat × Value)} (hl : lv_has ls 4 ((0, .ref b) :: (1, .ref (q 0)) :: (2, .ref (z 0)) :: (3, .int (nI (5 * nn))) :: lv)) (d0 : decode cL_law pc = .ok (.aload_n 0, 1)) (d1 : decode cL_law (pc + 1) = .ok (.iload_n 3, 1)) {jj : Int} (d2 : decode cL_law (pc + 2) = .ok (.iconst jj, 1)) (hjj : Int32.ofInt jj = nI j) (d3 : decode cL_law (pc + 3) = .ok (.iadd, 1)) (d4 : decode cL_law (pc + 4) = .ok (.iaload, 1))
    (kk : W p l e room_1 s m #[Value.ref b] below meth c H locs 44 1986 Q (F0 m (pc + 5) ls (.int (sx xs nn j) :: rest))) : W p l e room_1 s m #[Value.ref b] below meth c H locs 44 1986 Q (F0 m pc ls rest) := by
  obtain ⟨hx, hb, hml, hown, hts, hX, hbl, hK, hZ⟩ := C
  refine lv_aload_n hx hb d0 rfl (lv_at hl 0 rfl) ?_
  refine lv_iload_n hx hb d1 rfl (lv_at hl 3 rfl) ?_
  refine lv_iconst (v := nI j) hx hb d2 hjj ?_
  refine lv_iadd hx hb d3 ?_
  exact va_sld hx hb hX hbl (Nat.not_le.mpr hbl) hS (sx_in hnn hj hL) d4 kk
end LW
