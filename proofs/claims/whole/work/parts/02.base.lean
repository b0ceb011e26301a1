/-! The words that all parts use: how an array holds what it holds, the two worlds, the form of a contract, its call rows. -/
-- an int that is 0 or 1; a line's number, 4 being NONE; an int as it is
def bI (b : Bool) : Int32 := match b with
  | true => nI 1
  | false => nI 0
def lI (k : Nat) : Int32 := if k = 4 then (-9) else nI k
abbrev rI (x : Int32) : Int32 := x
-- an int array that holds e (f j) at j
def eA {α : Type} (e : α → Int32) (f : Nat → α) : Nat → Int32 := fun j => e (f j)
theorem eA_up {α : Type} (e : α → Int32) (f : Nat → α) (k : Nat) (v : α) : upd (eA e f) k (e v) = eA e (va_up f k v) := by
  funext j
  by_cases h : j = k
  · simp [upd, eA, va_up, h]
  · simp [upd, eA, va_up, h]
theorem updL_up (f : Nat → Int64) (k : Nat) (v : Int64) : vp_updL f k v = va_up f k v := rfl
theorem bI_nar (b : Bool) : vp_nar .boolean (bI b) = bI b := by cases b <;> decide
theorem bI_ret (b : Bool) : narrow .boolean (.int (bI b)) = .int (bI b) := by cases b <;> decide
theorem bI_0 {b : Bool} : bI b = 0 ↔ b = false := by cases b <;> decide
theorem bI_n0 {b : Bool} : ¬ bI b = 0 ↔ b = true := by cases b <;> decide
theorem bI_1 {b : Bool} : bI b = nI 1 ↔ b = true := by cases b <;> decide
theorem bI_n1 {b : Bool} : ¬ bI b = nI 1 ↔ b = false := by cases b <;> decide
-- the static array HOLDING of Walk
def holdL (k : Nat) : Int64 := match k with
  | 0 => -6148914691236517206
  | 1 => -3689348814741910324
  | 2 => -1085102592571150096
  | 3 => -71777214294589696
  | 4 => -281470681808896
  | _ => -4294967296
abbrev xK (D : va_G) (cI cJ cZ : ClassId) (U : State) : Prop := va_K D vwCl [(cI, .int), (cJ, .long), (cZ, .boolean)] U
def xZ (A : Nat → Prop) (U : State) (H : Heap) : Prop := ∃ th : Nat, va_Z "FirstStates$Walk" "HOLDING" "[J" (.ref th) A U H ∧ va_T .long th 6 (fun k => .long (holdL k)) A U H
theorem xZ.moved {A : Nat → Prop} {u U : State} {H : Heap} (hvm : u.vm.Alike U.vm) (h : xZ A u H) : xZ A U H := by
  obtain ⟨t, h1, h2⟩ := h
  exact ⟨t, h1.moved hvm, h2.moved hvm⟩
theorem xZ.kept {A : Nat → Prop} {U : State} {H H1 : Heap} (h : xZ A U H) (hq : ∀ a : Nat, a < H.size → ¬ A a → H1[a]? = H[a]?) : xZ A U H1 := by
  obtain ⟨t, h1, h2⟩ := h
  exact ⟨t, h1.kept hq, h2.kept hq⟩
theorem xZ.narrow {A B : Nat → Prop} {U : State} {H : Heap} (h : xZ A U H) (hAB : ∀ q, B q → A q) : xZ B U H := by
  obtain ⟨t, h1, h2⟩ := h
  exact ⟨t, h1.narrow hAB, h2.narrow hAB⟩
/-- a contract: from the world w, with the arguments av, method y answers rv u and leaves the world w' u, for some u with post u -/
def Ct (l : Launch) (D : va_G) (cI cJ cZ : ClassId) (y : MethodName) (ws : List Cond) (rm : Room) (mc ms : Nat) (av : List Value) (w : va_W) {S : Type} (post : S → Prop) (rv : S → Option Value) (w' : S → va_W) : Prop :=
  ∀ sz : Nat, Met l y ws rm (va_Pc av (fun U => U.heap.size = sz ∧ va_P D vwCl w U.heap ∧ xK D cI cJ cZ U ∧ va_D (fun _ => True) w ∧ xZ (va_A w sz) U U.heap)) (fun _ st oc t => (∃ u : S, post u ∧ oc = .returned (rv u) ∧ va_P D vwCl (w' u) t.heap ∧ va_D (va_A w sz) (w' u)) ∧ va_F (va_A w sz) st t) mc ms (va_A w sz)
theorem fx_D {A : Nat → Prop} {w w' : va_W} (h : va_D A w) (e : w'.map Prod.fst = w.map Prod.fst) : va_D A w' := by
  have at' : ∀ (k : Nat) (q : Nat × va_E), w'[k]? = some q → ∃ q' : Nat × va_E, w[k]? = some q' ∧ q'.1 = q.1 := by
    intro k q hq
    have h1 : (w'.map Prod.fst)[k]? = some q.1 := by rw [List.getElem?_map, hq]; rfl
    rw [e, List.getElem?_map] at h1
    cases hk : w[k]? with
    | none => rw [hk] at h1; cases h1
    | some q' => rw [hk] at h1; exact ⟨q', rfl, Option.some.inj h1⟩
  refine ⟨fun i j p q hi hj hpq => ?_, fun k q hq => ?_⟩
  · obtain ⟨p', hp', e1⟩ := at' i p hi
    obtain ⟨q', hq', e2⟩ := at' j q hj
    exact h.1 i j p' q' hp' hq' (by rw [e1, e2, hpq])
  · obtain ⟨q', hq', e2⟩ := at' k q hq
    rw [← e2]
    exact h.2 k q' hq'
theorem fx_Pe {D : va_G} {w w' : va_W} {H : Heap} (h : va_P D vwCl w H) (e : w = w') : va_P D vwCl w' H := e ▸ h
theorem fx_hl {ls : Array Slot} {n : Nat} {l l' : List (Nat × Value)} (h : lv_has ls n l) (e : l = l') : lv_has ls n l' := e ▸ h
section FX
variable {p : Program} {l : Launch} {e : Env} {R : Room} {s : State} {m : MethodId} {args : Array Value} {below : List Frame} {meth : Method} {c : Code} {H : Heap} {locs : List Loc} {cells slots : Nat} {Q : State → Prop}
variable {cc : ByteArray} {pc : Nat} {ls : Array Slot} {rest : List Value} {D : va_G} {cI cJ cZ : ClassId} {ws : va_W} {A : Nat → Prop} {H0 : Heap} {a : Nat}
theorem fx_eqi {x y : Int32} (h : x = y) (k : W p l e R s m args below meth c H locs cells slots Q (F0 m pc ls (.int y :: rest))) : W p l e R s m args below meth c H locs cells slots Q (F0 m pc ls (.int x :: rest)) := h ▸ k
theorem fx_eql {x y : Int64} (h : x = y) (k : W p l e R s m args below meth c H locs cells slots Q (F0 m pc ls (.long y :: rest))) : W p l e R s m args below meth c H locs cells slots Q (F0 m pc ls (.long x :: rest)) := h ▸ k
theorem fx_iald (hx : p.tables.exec = Jvm.exec) (hb : c.code = cc) (hK : xK D cI cJ cZ s) (hP : va_P D vwCl ws H) (q0 : Nat) {α : Type} {ar : α → Int32} {f : Nat → α} {k n : Nat} (ha : ws[q0]? = some (a, .inl (cI, n, .inl (eA ar f)))) (hk : k < n) (hn : n < 2 ^ 31) (hdg : decode cc pc = .ok (.iaload, 1))
    (kk : W p l e R s m args below meth c H locs cells slots Q (F0 m (pc + 1) ls (.int (ar (f k)) :: rest))) : W p l e R s m args below meth c H locs cells slots Q (F0 m pc ls (.int (nI k) :: .ref a :: rest)) :=
  va_iald hx hb hK hP q0 0 ha rfl (vp_in_nI hk hn) hdg (by rw [nI_clamp (by omega)]; exact kk)
theorem fx_zald (hx : p.tables.exec = Jvm.exec) (hb : c.code = cc) (hK : xK D cI cJ cZ s) (hP : va_P D vwCl ws H) (q0 : Nat) {α : Type} {ar : α → Int32} {f : Nat → α} {k n : Nat} (ha : ws[q0]? = some (a, .inl (cZ, n, .inl (eA ar f)))) (hk : k < n) (hn : n < 2 ^ 31) (hdg : decode cc pc = .ok (.baload, 1))
    (kk : W p l e R s m args below meth c H locs cells slots Q (F0 m (pc + 1) ls (.int (ar (f k)) :: rest))) : W p l e R s m args below meth c H locs cells slots Q (F0 m pc ls (.int (nI k) :: .ref a :: rest)) :=
  va_zald hx hb hK hP q0 2 ha rfl (vp_in_nI hk hn) hdg (by rw [nI_clamp (by omega)]; exact kk)
theorem fx_lald (hx : p.tables.exec = Jvm.exec) (hb : c.code = cc) (hK : xK D cI cJ cZ s) (hP : va_P D vwCl ws H) (q0 : Nat) {f : Nat → Int64} {k n : Nat} (ha : ws[q0]? = some (a, .inl (cJ, n, .inr (.inl f)))) (hk : k < n) (hn : n < 2 ^ 31) (hdg : decode cc pc = .ok (.laload, 1))
    (kk : W p l e R s m args below meth c H locs cells slots Q (F0 m (pc + 1) ls (.long (f k) :: rest))) : W p l e R s m args below meth c H locs cells slots Q (F0 m pc ls (.int (nI k) :: .ref a :: rest)) :=
  va_lald hx hb hK hP q0 1 ha rfl (vp_in_nI hk hn) hdg (by rw [nI_clamp (by omega)]; exact kk)
theorem fx_iast (hx : p.tables.exec = Jvm.exec) (hb : c.code = cc) (hK : xK D cI cJ cZ s) (hP : va_P D vwCl ws H) (hD : va_D A ws) (hS : va_S A H0 H locs) (q0 : Nat) {α : Type} {ar : α → Int32} {f : Nat → α} {k n : Nat} {v : α} (ha : ws[q0]? = some (a, .inl (cI, n, .inl (eA ar f)))) (hk : k < n) (hn : n < 2 ^ 31) {x : Int32} (hv : x = ar v) (hdg : decode cc pc = .ok (.iastore, 1))
    (kk : ∀ (H1 : Heap) (locs1 : List Loc), va_P D vwCl (ws.set q0 (a, .inl (cI, n, .inl (eA ar (va_up f k v))))) H1 → va_D A (ws.set q0 (a, .inl (cI, n, .inl (eA ar (va_up f k v))))) → va_S A H0 H1 locs1 → W p l e R s m args below meth c H1 locs1 cells slots Q (F0 m (pc + 1) ls rest)) : W p l e R s m args below meth c H locs cells slots Q (F0 m pc ls (.int x :: .int (nI k) :: .ref a :: rest)) := by
  subst hv
  refine va_iast hx hb hK hP hD hS q0 0 ha rfl (vp_in_nI hk hn) hdg ?_
  rw [nI_clamp (by omega), eA_up]
  exact kk
theorem fx_zast (hx : p.tables.exec = Jvm.exec) (hb : c.code = cc) (hK : xK D cI cJ cZ s) (hP : va_P D vwCl ws H) (hD : va_D A ws) (hS : va_S A H0 H locs) (q0 : Nat) {f : Nat → Bool} {k n : Nat} {v : Bool} (ha : ws[q0]? = some (a, .inl (cZ, n, .inl (eA bI f)))) (hk : k < n) (hn : n < 2 ^ 31) {x : Int32} (hv : x = bI v) (hdg : decode cc pc = .ok (.bastore, 1))
    (kk : ∀ (H1 : Heap) (locs1 : List Loc), va_P D vwCl (ws.set q0 (a, .inl (cZ, n, .inl (eA bI (va_up f k v))))) H1 → va_D A (ws.set q0 (a, .inl (cZ, n, .inl (eA bI (va_up f k v))))) → va_S A H0 H1 locs1 → W p l e R s m args below meth c H1 locs1 cells slots Q (F0 m (pc + 1) ls rest)) : W p l e R s m args below meth c H locs cells slots Q (F0 m pc ls (.int x :: .int (nI k) :: .ref a :: rest)) := by
  subst hv
  refine va_zast hx hb hK hP hD hS q0 2 ha rfl (vp_in_nI hk hn) hdg ?_
  rw [nI_clamp (by omega), bI_nar, eA_up]
  exact kk
theorem fx_last (hx : p.tables.exec = Jvm.exec) (hb : c.code = cc) (hK : xK D cI cJ cZ s) (hP : va_P D vwCl ws H) (hD : va_D A ws) (hS : va_S A H0 H locs) (q0 : Nat) {f : Nat → Int64} {k n : Nat} {v : Int64} (ha : ws[q0]? = some (a, .inl (cJ, n, .inr (.inl f)))) (hk : k < n) (hn : n < 2 ^ 31) (hdg : decode cc pc = .ok (.lastore, 1))
    (kk : ∀ (H1 : Heap) (locs1 : List Loc), va_P D vwCl (ws.set q0 (a, .inl (cJ, n, .inr (.inl (va_up f k v))))) H1 → va_D A (ws.set q0 (a, .inl (cJ, n, .inr (.inl (va_up f k v))))) → va_S A H0 H1 locs1 → W p l e R s m args below meth c H1 locs1 cells slots Q (F0 m (pc + 1) ls rest)) : W p l e R s m args below meth c H locs cells slots Q (F0 m pc ls (.long v :: .int (nI k) :: .ref a :: rest)) := by
  refine va_last hx hb hK hP hD hS q0 1 ha rfl (vp_in_nI hk hn) hdg ?_
  rw [nI_clamp (by omega), updL_up]
  exact kk
/-- HOLDING's cell k -/
theorem fx_hold (hx : p.tables.exec = Jvm.exec) (hb : c.code = cc) {th : Nat} (hT : va_T .long th 6 (fun k => .long (holdL k)) A s s.heap) (hS : va_S A s.heap H locs) {k : Nat} (hk : k < 6) (hdg : decode cc pc = .ok (.laload, 1))
    (kk : W p l e R s m args below meth c H locs cells slots Q (F0 m (pc + 1) ls (.long (holdL k) :: rest))) : W p l e R s m args below meth c H locs cells slots Q (F0 m pc ls (.int (nI k) :: .ref th :: rest)) :=
  va_tl hx hb hT hS (vp_in_nI hk (by omega)) (v := .long (holdL k)) (by show Value.long (holdL (nI k).toNatClampNeg) = _; rw [nI_clamp (by omega)]) hdg kk
/-- what a call needs of the world, and what it gives back -/
theorem fx_back {w : va_W} {locs1 : List Loc} {H1 : Heap} (hS : va_S A s.heap H locs) (hF : ∀ q, va_A w H.size q → A q) (hz : H.size ≤ H1.size) (hk : ∀ q : Nat, q < H.size → ¬ va_A w H.size q → H1[q]? = H[q]?) (hL : ∀ q ∈ locs1, va_A w H.size q.base) : va_S A s.heap H1 (locs ++ locs1) :=
  ⟨Nat.le_trans hS.1 hz, fun q h1 h2 => by rw [hk q (Nat.lt_of_lt_of_le h1 hS.1) (fun z => h2 (hF q z))]; exact hS.2.1 q h1 h2, fun q hq => by
    rcases List.mem_append.mp hq with h | h
    · exact hS.2.2 q h
    · exact hF _ (hL q h)⟩
theorem fx_A {w : va_W} (hD : va_D A w) (hS : va_S A s.heap H locs) (hA : ∀ q, s.heap.size ≤ q → A q) : ∀ q, va_A w H.size q → A q := by
  intro q h
  rcases h with ⟨k, e, h⟩ | h
  · exact hD.2 k _ h
  · exact hA q (Nat.le_trans hS.1 h)
theorem fx_Zc {w : va_W} (hF : ∀ q, va_A w H.size q → A q) (hS : va_S A s.heap H locs) (hZ : xZ A s s.heap) : xZ (va_A w H.size) s H := (hZ.kept hS.2.1).narrow hF
theorem fx_go {w : va_W} {S : Type} {post : S → Prop} {rv : S → Option Value} {w' : S → va_W} {av : List Value} {g : JFrame} {mc ms : Nat}
    (hr : va_Run p l e R s m args below meth c H locs cells slots mc ms g rest ((fun (_ : Array Value) st oc t => (∃ u : S, post u ∧ oc = .returned (rv u) ∧ va_P D vwCl (w' u) t.heap ∧ va_D (va_A w H.size) (w' u)) ∧ va_F (va_A w H.size) st t) av.toArray) (va_A w H.size))
    (hD : va_D A w) (hS : va_S A s.heap H locs) (hA : ∀ q, s.heap.size ≤ q → A q)
    (kk : ∀ (u : S) (H1 : Heap) (locs1 : List Loc), post u → va_P D vwCl (w' u) H1 → va_D A (w' u) → va_S A s.heap H1 locs1 → W p l e R s m args below meth c H1 locs1 (cells + mc) (slots + ms) Q { g with pc := g.pc + 3, stack := (rv u).toList ++ rest }) : W p l e R s m args below meth c H locs cells slots Q g := by
  intro T hT X
  obtain ⟨v, st₀, t, T', L, h0, X', hL, e1, e2, ⟨⟨u, hp, hv, hP1, hD1⟩, hz, hk⟩, st⟩ := hr T hT X
  have hF := fx_A (w := w) hD hS hA
  cases hv
  rw [h0] at hz hk
  obtain ⟨t2, a1, b1⟩ := kk u t.heap (locs ++ L) hp hP1 (hD1.weaken fun _ q _ h => hF q.1 h) (fx_back hS hF hz hk hL) T' e1 X'
  exact ⟨t2, st t2 a1, b1⟩
theorem fx_pre {w : va_W} (hK : xK D cI cJ cZ s) (hP : va_P D vwCl w H) (hD : va_D A w) (hS : va_S A s.heap H locs) (hA : ∀ q, s.heap.size ≤ q → A q) (hZ : xZ A s s.heap) (av : List Value) : ∀ U : State, U.heap = H → s.WarmedH U.vm → va_Pc av (fun U => U.heap.size = H.size ∧ va_P D vwCl w U.heap ∧ xK D cI cJ cZ U ∧ va_D (fun _ => True) w ∧ xZ (va_A w H.size) U U.heap) av.toArray U := fun U hU hW =>
  ⟨rfl, by rw [hU], by rw [hU]; exact hP, va_K.moved hW.alike hK, hD.weaken (fun _ _ _ _ => trivial), by rw [hU]; exact (fx_Zc (fx_A hD hS hA) hS hZ).moved hW.alike⟩
theorem fx_blind {w : va_W} {av : List Value} {sz : Nat} : FrameBlind (va_Pc av (fun U => U.heap.size = sz ∧ va_P D vwCl w U.heap ∧ xK D cI cJ cZ U ∧ va_D (fun _ => True) w ∧ xZ (va_A w sz) U U.heap)) := fun a U g mk q => by
  obtain ⟨q0, q1, qP, qK, qD, qZ⟩ := q
  exact ⟨q0, q1, qP, va_K.moved (u := U) (U := U.calling g mk a) (Vm.Alike.refl U.vm) qK, qD, xZ.moved (u := U) (U := U.calling g mk a) (Vm.Alike.refl U.vm) qZ⟩
variable {y : MethodName} {bytes : ByteArray} {maxL nL mc ms n index : Nat} {ret : Option FieldType} {wd : List Cond} {rm : Room} {Ts : List Cond} {own C : String} {b : Nat} {As : List Value} {st0 : List Value}
theorem fx_callV {w : va_W} {S : Type} {post : S → Prop} {rv : S → Option Value} {w' : S → va_W} (F : CallFix p m c cc nL s args Ts own) (hM : Ct l D cI cJ cZ y wd rm 0 0 (.ref b :: As) w post rv w') (cw : CallW R s args own C index y bytes maxL ret wd rm 0 0 n)
    (hK : xK D cI cJ cZ s) (hP : va_P D vwCl w H) (hD : va_D A w) (hS : va_S A s.heap H locs) (hA : ∀ q, s.heap.size ≤ q → A q) (hZ : xZ A s s.heap) (q0 : Nat) {ci : Nat} {fs : List Value} {qc : vw_C} (he : w[q0]? = some (b, .inr (ci, fs))) (hc : vwCl[ci]? = some qc) (hcn : qc.1 = C)
    (hn : As.length = n) (hsize : ls.size = nL) (hst : st0 = As.reverse ++ .ref b :: rest) (hW : 2 * (F0 m pc ls st0).monitorRoom + (rest.map fun v => v.category).sum ≤ 8) (hdg : decode cc pc = .ok (.invokevirtual index, 3)) (hf : cells ≤ R.cells ∧ slots ≤ R.slots)
    (kk : ∀ (u : S) (H1 : Heap) (locs1 : List Loc), post u → va_P D vwCl (w' u) H1 → va_D A (w' u) → va_S A s.heap H1 locs1 → W p l e R s m args below meth c H1 locs1 cells slots Q (F0 m (pc + 3) ls ((rv u).toList ++ rest))) : W p l e R s m args below meth c H locs cells slots Q (F0 m pc ls st0) :=
  fx_go (av := .ref b :: As) (va_runV (As := As) F (hM H.size) cw ⟨fx_blind, by rw [← hcn]; exact va_recv hK hP hc he, fun U hU hW => fx_pre hK hP hD hS hA hZ _ U hU hW⟩ rfl hn hsize hst hW hdg hf) hD hS hA kk
theorem fx_callS {w : va_W} {S : Type} {post : S → Prop} {rv : S → Option Value} {w' : S → va_W} (F : CallFix p m c cc nL s args Ts own) (hM : Ct l D cI cJ cZ y wd rm 0 0 As w post rv w') (cw : CallB R s args own index y bytes maxL ret wd rm 0 0 n ∧ (Cond.static y).before args s = true)
    (hK : xK D cI cJ cZ s) (hP : va_P D vwCl w H) (hD : va_D A w) (hS : va_S A s.heap H locs) (hA : ∀ q, s.heap.size ≤ q → A q) (hZ : xZ A s s.heap)
    (hn : As.length = n) (hsize : ls.size = nL) (hst : st0 = As.reverse ++ rest) (hW : 2 * (F0 m pc ls st0).monitorRoom + (rest.map fun v => v.category).sum ≤ 8) (hdg : decode cc pc = .ok (.invokestatic index, 3)) (hf : cells ≤ R.cells ∧ slots ≤ R.slots)
    (kk : ∀ (u : S) (H1 : Heap) (locs1 : List Loc), post u → va_P D vwCl (w' u) H1 → va_D A (w' u) → va_S A s.heap H1 locs1 → W p l e R s m args below meth c H1 locs1 cells slots Q (F0 m (pc + 3) ls ((rv u).toList ++ rest))) : W p l e R s m args below meth c H locs cells slots Q (F0 m pc ls st0) :=
  fx_go (av := As) (va_runS (As := As) F (hM H.size) cw ⟨fx_blind, fun U hU hW => fx_pre hK hP hD hS hA hZ _ U hU hW⟩ rfl hn hsize hst hW hdg hf) hD hS hA kk
end FX
/-- a contract out of a walk of the body; Q is the end, which the walk reaches by hret alone -/
theorem Ct.ofW {l : Launch} {D : va_G} {cI cJ cZ : ClassId} {y : MethodName} {ws ws' : List Cond} {rm : Room} {av : List Value} {w : va_W} {S : Type} {post : S → Prop} {rv : S → Option Value} {w' : S → va_W} {cc : ByteArray} {maxL : Nat} {ret : Option FieldType} {R_C : String}
    (hy : plainName y.cls = true) (hw : ws = Cond.code y cc maxL ret :: ws') (hyc : y.cls = R_C) (hlen : (lg_sl av).length ≤ maxL) {lv : List (Nat × Value)} (hlv : lv_args 0 av = lv)
    (body : ∀ (p : Program) (e : Env) (s : State) (m : MethodId) (args : Array Value) (below : List Frame) (meth : Method) (c : Code) (A : Nat → Prop) (Q : State → Prop) (ls : Array Slot) (H : Heap) (locs : List Loc),
      p.tables.exec = Jvm.exec → c.code = cc → c.maxLocals = maxL → s.vm.findClass R_C = some m.cls → (∀ w ∈ ws, w.before args s = true) → xK D cI cJ cZ s → (∀ q, s.heap.size ≤ q → A q) → va_P D vwCl w H → va_D A w → va_S A s.heap H locs → xZ A s s.heap → lv_has ls maxL lv →
      (∀ (u : S) (v : Int32) (H : Heap) (locs : List Loc) (pc : Nat) (lz : Array Slot) (ty : FieldType), ret = some ty → narrow ty (.int v) = .int v → post u → rv u = some (.int v) → va_P D vwCl (w' u) H → va_D A (w' u) → va_S A s.heap H locs → decode cc pc = .ok (.ireturn, 1) → W p l e rm s m args below meth c H locs 0 0 Q (F0 m pc lz [.int v])) →
      (∀ (u : S) (v : Int64) (H : Heap) (locs : List Loc) (pc : Nat) (lz : Array Slot), ret = some .long → post u → rv u = some (.long v) → va_P D vwCl (w' u) H → va_D A (w' u) → va_S A s.heap H locs → decode cc pc = .ok (.lreturn, 1) → W p l e rm s m args below meth c H locs 0 0 Q (F0 m pc lz [.long v])) →
      (∀ (u : S) (H : Heap) (locs : List Loc) (pc : Nat) (lz : Array Slot), ret = none → post u → rv u = none → va_P D vwCl (w' u) H → va_D A (w' u) → va_S A s.heap H locs → decode cc pc = .ok (.return_, 1) → W p l e rm s m args below meth c H locs 0 0 Q (F0 m pc lz [])) →
      W p l e rm s m args below meth c H locs 0 0 Q (F0 m 0 ls [])) : Ct l D cI cJ cZ y ws rm 0 0 av w post rv w' := by
  intro sz
  refine Met.ofW (cc := cc) (maxL := maxL) (ret := ret) hy hw ?_
  intro p e s m args below meth c s₁ B hml hv
  obtain ⟨rfl, hsz, hP, hK, hD0, hZ⟩ := hv
  subst hsz
  have hlocks := B.notSynchronized
  have hr := B.returns
  have hl := lv_entry av (n := maxL) hlen
  rw [hlv] at hl
  rw [lg_entry_eq]
  generalize (lg_sl av ++ List.replicate (maxL - (lg_sl av).length) Slot.unset).toArray = ls at hl ⊢
  refine body p e s m av.toArray below meth c (va_A w s.heap.size) _ ls s.heap [] B.exec B.bytes hml (hyc ▸ findClass_of_methodNamed B.named) (atoms_spec (ws := ws) B.pre) hK (fun q h => Or.inr h) hP hD0.self va_S.rf hZ hl ?_ ?_ ?_
  · intro u v H locs pc lz ty hrt hn hp hrv hP1 hD1 hS1 hdg
    exact W.zret (ty := ty) B.exec B.bytes (hr.trans hrt) hn (fun t ht hW => ⟨⟨u, hp, by rw [hrv], by rw [ht]; exact hP1, hD1⟩, hS1.F ht⟩) hS1.2.2 hdg
  · intro u v H locs pc lz hrt hp hrv hP1 hD1 hS1 hdg
    exact W.lret B.exec B.bytes (hr.trans hrt) (fun t ht hW => ⟨⟨u, hp, by rw [hrv], by rw [ht]; exact hP1, hD1⟩, hS1.F ht⟩) hS1.2.2 hdg
  · intro u H locs pc lz hrt hp hrv hP1 hD1 hS1 hdg
    exact W.vret B.exec B.bytes (hr.trans hrt) (fun t ht hW => ⟨⟨u, hp, by rw [hrv], by rw [ht]; exact hP1, hD1⟩, hS1.F ht⟩) hS1.2.2 hdg
