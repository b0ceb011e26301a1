/-! THE CLAIM OUT OF ONE WALK OF THE LAW'S BODY. Your part is whole_start (and what it stands on); all else here is the same for every law, but numbers. -/
def R_law : String := "FirstStatesLaw"
def lw_P (b : Addr) (xs : List Int32) (args : Array Value) (s : State) : Prop := args = #[.ref b] ∧ s.IntsAt b xs ∧ xs.length ≤ 2560 ∧ (Jvm.Cond.and given_1 narrow_1).before args s = true
def lw_Q (_ : Array Value) (s : State) (o : Outcome) (t : State) : Prop := o = .returned (some (.int 1)) ∧ Framed s o t [] 44 1986
def lw_Z (below : List Frame) (a : Array Value) (s : State) : State → Prop := fun t => ∃ o, t.status = .running ∧ Ended t below o ∧ lw_Q a s o t
/-- the law's own end, with 1 on the stack, nothing written that was there before, its room as the claim has it -/
theorem lw_ret {p : Program} {l : Launch} {e : Env} {s : State} {m : MethodId} {below : List Frame} {meth : Method} {c : Code} {b : Nat} (hx : p.tables.exec = Jvm.exec) (hb : c.code = code) (hr : meth.sig.returnType = ret) (hlocks : meth.locks = false) {pc : Nat} {H : Heap} {ls : Array Slot} (hdg : decode code pc = .ok (.ireturn, 1)) : W p l e room_1 s m #[Value.ref b] below meth c H [] 44 1986 (lw_Z below #[Value.ref b] s) (F0 m pc ls [.int 1]) := by
  intro T hT X
  obtain ⟨fs, hret, hrun, hended, hW, hframe⟩ := X.leave (v := some (.int 1)) (hlocks := hlocks) (fun h => by rw [hr] at h; cases h)
  have hmeth' : T.vm.method? m = some meth := X.method'
  refine ⟨T.setFrames fs, ?_, .returned (some (.int 1)), hrun, hended, rfl, ⟨_, rfl⟩, hW, hframe⟩
  jvm_step X.here [X.here.top, hx, hb, hdg, hmeth', hr, ret, narrow_b1]
  (try refine ⟨rfl, ?_⟩); (try refine ⟨rfl, ?_⟩)
  first | (intro acts; rw [hret _ acts rfl rfl rfl]) | rw [hret _ _ rfl rfl rfl]
  exact Steps.refl _
/-- what holds at the law's entry: the machine, the code, the tables' words (any of lw_tbl by 'hts w (by decide +kernel)'), the script of L ints xs at the cell b, what the Statement gives of the start (any of its parts by flat_of_before) -/
def lw_At (p : Program) (s : State) (m : MethodId) (meth : Method) (c : Code) (b L : Nat) (xs : Nat → Int32) : Prop :=
  p.tables.exec = Jvm.exec ∧ c.code = code ∧ meth.sig.returnType = ret ∧ c.maxLocals = 4 ∧ s.vm.findClass R_law = some m.cls ∧ (∀ w ∈ lw_tbl, w.before #[Value.ref b] s = true) ∧ va_X b L xs s s.heap ∧ b < s.heap.size ∧ meth.locks = false ∧ (Jvm.Cond.and given_1 narrow_1).before #[Value.ref b] s = true
-- ===== YOUR PART BEGINS =====
theorem and31 (y : Int32) : ∃ k, k < 32 ∧ y &&& nI 31 = nI k := by
  refine ⟨y.toBitVec.toNat &&& 31, Nat.lt_of_le_of_lt Nat.and_le_right (by decide), ?_⟩
  rw [← fx_andI]
  have : y = nI y.toBitVec.toNat := by
    apply Int32.toBitVec_inj.mp
    show y.toBitVec = BitVec.ofNat 32 y.toBitVec.toNat
    simp
  rw [← this]
section LP
variable {p : Program} {l : Launch} {e : Env} {s : State} {m : MethodId} {below : List Frame} {meth : Method} {c : Code} {H : Heap} {locs : List Loc} {Q : State → Prop} {b L : Nat} {xs : Nat → Int32} {D : va_G} {cI cJ cZ : ClassId} {q z : Nat → Nat} {w1 w2 : va_W} {ls : Array Slot} {nn : Nat}
set_option maxHeartbeats 4000000 in
/-- the loop's head -/
theorem law_head (C : LC p s m c b L xs D cI cJ cZ) (hr : meth.sig.returnType = ret) (hlocks : meth.locks = false) (hL : L ≤ 2560) (hn : 5 * nn ≤ L + 5) (hS : va_S (lA s) s.heap H locs) (hl : lv_has ls 4 [(0, .ref b), (1, .ref (q 0)), (2, .ref (z 0)), (3, .int (nI (5 * nn)))])
    (kk : 5 * nn + 5 ≤ L → W p l e room_1 s m #[Value.ref b] below meth c H locs 44 1986 (lw_Z below #[Value.ref b] s) (F0 m 26 ls [])) : W p l e room_1 s m #[Value.ref b] below meth c H locs 44 1986 (lw_Z below #[Value.ref b] s) (F0 m 18 ls []) := by
  obtain ⟨hx, hb, hml, hown, hts, hX, hbl, hK, hZ⟩ := C
  refine lv_iload_n hx hb dL_law_18 rfl (lv_at hl 3 rfl) ?_
  refine lv_aload_n hx hb dL_law_19 rfl (lv_at hl 0 rfl) ?_
  refine va_slen hx hb hX hbl (Nat.not_le.mpr hbl) hS dL_law_20 ?_
  refine lv_iconst (v := nI 5) hx hb dL_law_21 (by decide) ?_
  refine lv_isub hx hb dL_law_22 ?_
  refine lv_icmp_gt (tgt := 848) hx hb dL_law_23 (by decide) (fun c0 => ?_) (fun c0 => ?_)
  · refine lv_iconst (v := 1) hx hb dL_law_848 (by decide) ?_
    refine va_forget (fun q hq => hS.2.2 q hq) ?_
    exact lw_ret hx hb hr hlocks dL_law_849
  · refine kk ?_
    have e1 := pk_sub_toInt (a := L) (b := 5) (by omega) (by omega)
    have c1 : ¬ (nI L - nI 5 < nI (5 * nn)) := c0
    rw [Int32.lt_iff_toInt_lt, e1, nI_toInt (by omega)] at c1
    omega
set_option maxHeartbeats 4000000 in
/-- the switch -/
theorem law_switch (C : LC p s m c b L xs D cI cJ cZ) (hL : L ≤ 2560) (hnn : 5 * nn + 5 ≤ L) (h : St q z cI cJ cZ nn w1 w2) (hP : va_P D vwCl (w1 ++ w2) H) (hD : va_D (lA s) (w1 ++ w2)) (hS : va_S (lA s) s.heap H locs) (hl : lv_has ls 4 [(0, .ref b), (1, .ref (q 0)), (2, .ref (z 0)), (3, .int (nI (5 * nn)))])
    (kk : ∀ (w1 w2 : va_W) (H : Heap) (locs : List Loc), St q z cI cJ cZ (nn + 1) w1 w2 → va_P D vwCl (w1 ++ w2) H → va_D (lA s) (w1 ++ w2) → va_S (lA s) s.heap H locs → W p l e room_1 s m #[Value.ref b] below meth c H locs 44 1986 Q (F0 m 842 ls [])) : W p l e room_1 s m #[Value.ref b] below meth c H locs 44 1986 Q (F0 m 26 ls []) := by
  have hx := C.1
  have hb : c.code = cL_law := C.2.1
  have hbl := C.2.2.2.2.2.2.1
  refine lv_aload_n hx hb dL_law_26 rfl (lv_at hl 0 rfl) ?_
  refine lv_iload_n hx hb dL_law_27 rfl (lv_at hl 3 rfl) ?_
  refine va_sld hx hb C.2.2.2.2.2.1 hbl (Nat.not_le.mpr hbl) hS (vp_in_nI (show 5 * nn < L by omega) (by omega)) dL_law_28 ?_
  refine lv_bipush (v := nI 31) hx hb dL_law_29 (by decide) ?_
  refine lv_iand hx hb dL_law_31 ?_
  obtain ⟨k, hk, e0⟩ := and31 (xs (nI (5 * nn)).toNatClampNeg)
  refine fx_eqi e0 ?_
  by_cases h26 : 26 ≤ k
  · exact lv_tableOut (tgt := 842) hx hb dL_law_32 (Or.inr (by rw [nI_toInt (by omega)]; omega)) (by decide) (kk w1 w2 H locs h.up hP hD hS)
  rcases (show k = 0 ∨ k = 1 ∨ k = 2 ∨ k = 3 ∨ k = 4 ∨ k = 5 ∨ k = 6 ∨ k = 7 ∨ k = 8 ∨ k = 9 ∨ k = 10 ∨ k = 11 ∨ k = 12 ∨ k = 13 ∨ k = 14 ∨ k = 15 ∨ k = 16 ∨ k = 17 ∨ k = 18 ∨ k = 19 ∨ k = 20 ∨ k = 21 ∨ k = 22 ∨ k = 23 ∨ k = 24 ∨ k = 25 by omega) with rfl | rfl | rfl | rfl | rfl | rfl | rfl | rfl | rfl | rfl | rfl | rfl | rfl | rfl | rfl | rfl | rfl | rfl | rfl | rfl | rfl | rfl | rfl | rfl | rfl | rfl
  · exact lv_tableIn (off := 120) (tgt := 152) hx hb dL_law_32 (by decide) (by decide) (by decide) (by decide) (lc_input C hL hnn h hP hD hS hl kk)
  · exact lv_tableIn (off := 133) (tgt := 165) hx hb dL_law_32 (by decide) (by decide) (by decide) (by decide) (lc_fixed C hL hnn h hP hD hS hl kk)
  · exact lv_tableIn (off := 156) (tgt := 188) hx hb dL_law_32 (by decide) (by decide) (by decide) (by decide) (lc_gate C hL hnn h hP hD hS hl kk)
  · exact lv_tableIn (off := 209) (tgt := 241) hx hb dL_law_32 (by decide) (by decide) (by decide) (by decide) (lc_store C hL hnn h hP hD hS hl kk)
  · exact lv_tableIn (off := 242) (tgt := 274) hx hb dL_law_32 (by decide) (by decide) (by decide) (by decide) (lc_reads C hL hnn h hP hD hS hl kk)
  · exact lv_tableIn (off := 275) (tgt := 307) hx hb dL_law_32 (by decide) (by decide) (by decide) (by decide) (lc_about C hL hnn h hP hD hS hl kk)
  · exact lv_tableIn (off := 308) (tgt := 340) hx hb dL_law_32 (by decide) (by decide) (by decide) (by decide) (lc_line C hL hnn h hP hD hS hl kk)
  · exact lv_tableIn (off := 357) (tgt := 389) hx hb dL_law_32 (by decide) (by decide) (by decide) (by decide) (lc_set C hL hnn h hP hD hS hl kk)
  · exact lv_tableIn (off := 390) (tgt := 422) hx hb dL_law_32 (by decide) (by decide) (by decide) (by decide) (lc_tick C hL hnn h hP hD hS hl kk)
  · exact lv_tableIn (off := 413) (tgt := 445) hx hb dL_law_32 (by decide) (by decide) (by decide) (by decide) (lc_fresh C hL hnn h hP hD hS hl kk)
  · exact lv_tableIn (off := 426) (tgt := 458) hx hb dL_law_32 (by decide) (by decide) (by decide) (by decide) (lc_possible C hL hnn h hP hD hS hl kk)
  · exact lv_tableIn (off := 439) (tgt := 471) hx hb dL_law_32 (by decide) (by decide) (by decide) (by decide) (lc_row C hL hnn h hP hD hS hl kk)
  · exact lv_tableIn (off := 462) (tgt := 494) hx hb dL_law_32 (by decide) (by decide) (by decide) (by decide) (lc_sure C hL hnn h hP hD hS hl kk)
  · exact lv_tableIn (off := 485) (tgt := 517) hx hb dL_law_32 (by decide) (by decide) (by decide) (by decide) (lc_told C hL hnn h hP hD hS hl kk)
  · exact lv_tableIn (off := 508) (tgt := 540) hx hb dL_law_32 (by decide) (by decide) (by decide) (by decide) (lc_known C hL hnn h hP hD hS hl kk)
  · exact lv_tableIn (off := 547) (tgt := 579) hx hb dL_law_32 (by decide) (by decide) (by decide) (by decide) (lc_settles C hL hnn h hP hD hS hl kk)
  · exact lv_tableIn (off := 560) (tgt := 592) hx hb dL_law_32 (by decide) (by decide) (by decide) (by decide) (lc_next C hL hnn h hP hD hS hl kk)
  · exact lv_tableIn (off := 583) (tgt := 615) hx hb dL_law_32 (by decide) (by decide) (by decide) (by decide) (lc_depends C hL hnn h hP hD hS hl kk)
  · exact lv_tableIn (off := 616) (tgt := 648) hx hb dL_law_32 (by decide) (by decide) (by decide) (by decide) (lc_crossings C hL hnn h hP hD hS hl kk)
  · exact lv_tableIn (off := 629) (tgt := 661) hx hb dL_law_32 (by decide) (by decide) (by decide) (by decide) (lc_crossing C hL hnn h hP hD hS hl kk)
  · exact lv_tableIn (off := 652) (tgt := 684) hx hb dL_law_32 (by decide) (by decide) (by decide) (by decide) (lc_alone C hL hnn h hP hD hS hl kk)
  · exact lv_tableIn (off := 675) (tgt := 707) hx hb dL_law_32 (by decide) (by decide) (by decide) (by decide) (lc_mend C hL hnn h hP hD hS hl kk)
  · exact lv_tableIn (off := 698) (tgt := 730) hx hb dL_law_32 (by decide) (by decide) (by decide) (by decide) (lc_need C hL hnn h hP hD hS hl kk)
  · exact lv_tableIn (off := 741) (tgt := 773) hx hb dL_law_32 (by decide) (by decide) (by decide) (by decide) (lc_go C hL hnn h hP hD hS hl kk)
  · exact lv_tableIn (off := 764) (tgt := 796) hx hb dL_law_32 (by decide) (by decide) (by decide) (by decide) (lc_gone C hL hnn h hP hD hS hl kk)
  · exact lv_tableIn (off := 787) (tgt := 819) hx hb dL_law_32 (by decide) (by decide) (by decide) (by decide) (lc_count C hL hnn h hP hD hS hl kk)
set_option maxHeartbeats 4000000 in
/-- the law's loop -/
theorem law_loop (C : LC p s m c b L xs D cI cJ cZ) (hr : meth.sig.returnType = ret) (hlocks : meth.locks = false) (hL : L ≤ 2560) : ∀ (n nn : Nat), L < 5 * nn + n → 5 * nn ≤ L + 5 → ∀ (w1 w2 : va_W) (H : Heap) (locs : List Loc) (ls : Array Slot), St q z cI cJ cZ nn w1 w2 → va_P D vwCl (w1 ++ w2) H → va_D (lA s) (w1 ++ w2) → va_S (lA s) s.heap H locs → lv_has ls 4 [(0, .ref b), (1, .ref (q 0)), (2, .ref (z 0)), (3, .int (nI (5 * nn)))] → W p l e room_1 s m #[Value.ref b] below meth c H locs 44 1986 (lw_Z below #[Value.ref b] s) (F0 m 18 ls []) := by
  intro n
  induction n with
  | zero =>
    intro nn h1 h2 w1 w2 H locs ls h hP hD hS hl
    exact law_head C hr hlocks hL h2 hS hl (fun h3 => absurd h3 (by omega))
  | succ n ih =>
    intro nn h1 h2 w1 w2 H locs ls h hP hD hS hl
    refine law_head C hr hlocks hL h2 hS hl (fun h3 => ?_)
    refine law_switch C hL h3 h hP hD hS hl (fun w1 w2 H locs h hP hD hS => ?_)
    have hx := C.1
    have hb : c.code = cL_law := C.2.1
    refine lv_iinc (v := nI (5 * (nn + 1))) (lv' := [(3, .int (nI (5 * (nn + 1)))), (0, .ref b), (1, .ref (q 0)), (2, .ref (z 0))]) hx hb dL_law_842 hl (k := 3) rfl (nI_add (5 * nn) 5) (by decide) rfl (fun ls hl => ?_)
    refine lv_goto (tgt := 18) hx hb dL_law_845 (by decide) ?_
    exact ih (nn + 1) (by omega) (by omega) w1 w2 H locs ls h hP hD hS (lv_sub hl [1, 2, 3, 0] rfl)
end LP
