/-! Constructors: contracts that make cells; rows that make arrays; the call of a constructor beside the rest of the world. -/
section FI
variable {p : Program} {l : Launch} {e : Env} {R : Room} {s : State} {m : MethodId} {args : Array Value} {below : List Frame} {meth : Method} {c : Code} {H : Heap} {locs : List Loc} {cells slots : Nat} {Q : State → Prop}
variable {cc : ByteArray} {pc : Nat} {ls : Array Slot} {rest : List Value} {D : va_G} {cI cJ cZ : ClassId} {ws : va_W} {A : Nat → Prop}
theorem fx_newI (hx : p.tables.exec = Jvm.exec) (hb : c.code = cc) (harr : (Cond.arrayClass .int).before args s = true) (hK : xK D cI cJ cZ s) (hP : va_P D vwCl ws H) (hD : va_D A ws) (hS : va_S A s.heap H locs) (hA : ∀ q, s.heap.size ≤ q → A q) {α : Type} {ar : α → Int32} {v : α} (hv : ar v = 0) {n : Int32} {N : Nat} (hn : ¬ n < 0) (hN : n.toNatClampNeg = N) (hbytes : N * componentBytes .int ≤ 536870912) (hcells : cells + 1 ≤ R.cells) (hslots : slots + N ≤ R.slots) (hdg : decode cc pc = .ok (.newarray .int, 2))
    (kk : ∀ (q : Nat) (H1 : Heap), va_P D vwCl (ws ++ [(q, .inl (cI, N, .inl (eA ar (fun _ => v))))]) H1 → va_D A (ws ++ [(q, .inl (cI, N, .inl (eA ar (fun _ => v))))]) → va_S A s.heap H1 locs → W p l e R s m args below meth c H1 locs (cells + 1) (slots + N) Q (F0 m (pc + 2) ls (.ref q :: rest))) : W p l e R s m args below meth c H locs cells slots Q (F0 m pc ls (.int n :: rest)) := by
  refine va_newa (atype := .int) hx hb harr rfl hK hP hD hS hA (a0 := (N, .inl (eA ar (fun _ => v)))) (fun cA => ?_) hn hN hbytes hcells hslots hdg (fun q cA H1 hK1 hP1 hD1 hS1 => ?_)
  · show arrV cA N (fun _ => .int (ar v)) = _
    rw [hv]
    rfl
  · have h1 : s.vm.findClass _ = some cA := (hK1.2 3 (cA, .int) rfl).2
    have h0 : s.vm.findClass _ = some cI := (hK.2 0 (cI, .int) rfl).2
    cases h1.symm.trans h0
    exact kk q H1 hP1 hD1 hS1
theorem fx_newZ (hx : p.tables.exec = Jvm.exec) (hb : c.code = cc) (harr : (Cond.arrayClass .boolean).before args s = true) (hK : xK D cI cJ cZ s) (hP : va_P D vwCl ws H) (hD : va_D A ws) (hS : va_S A s.heap H locs) (hA : ∀ q, s.heap.size ≤ q → A q) {n : Int32} {N : Nat} (hn : ¬ n < 0) (hN : n.toNatClampNeg = N) (hbytes : N * componentBytes .boolean ≤ 536870912) (hcells : cells + 1 ≤ R.cells) (hslots : slots + N ≤ R.slots) (hdg : decode cc pc = .ok (.newarray .boolean, 2))
    (kk : ∀ (q : Nat) (H1 : Heap), va_P D vwCl (ws ++ [(q, .inl (cZ, N, .inl (eA bI (fun _ => false))))]) H1 → va_D A (ws ++ [(q, .inl (cZ, N, .inl (eA bI (fun _ => false))))]) → va_S A s.heap H1 locs → W p l e R s m args below meth c H1 locs (cells + 1) (slots + N) Q (F0 m (pc + 2) ls (.ref q :: rest))) : W p l e R s m args below meth c H locs cells slots Q (F0 m pc ls (.int n :: rest)) := by
  refine va_newa (atype := .boolean) hx hb harr rfl hK hP hD hS hA (a0 := (N, .inl (eA bI (fun _ => false)))) (fun cA => rfl) hn hN hbytes hcells hslots hdg (fun q cA H1 hK1 hP1 hD1 hS1 => ?_)
  have h1 : s.vm.findClass _ = some cA := (hK1.2 3 (cA, .boolean) rfl).2
  have h0 : s.vm.findClass _ = some cZ := (hK.2 2 (cZ, .boolean) rfl).2
  cases h1.symm.trans h0
  exact kk q H1 hP1 hD1 hS1
theorem fx_newJ (hx : p.tables.exec = Jvm.exec) (hb : c.code = cc) (harr : (Cond.arrayClass .long).before args s = true) (hK : xK D cI cJ cZ s) (hP : va_P D vwCl ws H) (hD : va_D A ws) (hS : va_S A s.heap H locs) (hA : ∀ q, s.heap.size ≤ q → A q) {n : Int32} {N : Nat} (hn : ¬ n < 0) (hN : n.toNatClampNeg = N) (hbytes : N * componentBytes .long ≤ 536870912) (hcells : cells + 1 ≤ R.cells) (hslots : slots + N ≤ R.slots) (hdg : decode cc pc = .ok (.newarray .long, 2))
    (kk : ∀ (q : Nat) (H1 : Heap), va_P D vwCl (ws ++ [(q, .inl (cJ, N, .inr (.inl (fun _ => 0))))]) H1 → va_D A (ws ++ [(q, .inl (cJ, N, .inr (.inl (fun _ => 0))))]) → va_S A s.heap H1 locs → W p l e R s m args below meth c H1 locs (cells + 1) (slots + N) Q (F0 m (pc + 2) ls (.ref q :: rest))) : W p l e R s m args below meth c H locs cells slots Q (F0 m pc ls (.int n :: rest)) := by
  refine va_newa (atype := .long) hx hb harr rfl hK hP hD hS hA (a0 := (N, .inr (.inl (fun _ => 0)))) (fun cA => rfl) hn hN hbytes hcells hslots hdg (fun q cA H1 hK1 hP1 hD1 hS1 => ?_)
  have h1 : s.vm.findClass _ = some cA := (hK1.2 3 (cA, .long) rfl).2
  have h0 : s.vm.findClass _ = some cJ := (hK.2 1 (cJ, .long) rfl).2
  cases h1.symm.trans h0
  exact kk q H1 hP1 hD1 hS1
variable {y : MethodName} {bytes : ByteArray} {maxL nL mc ms n index : Nat} {ret : Option FieldType} {wd : List Cond} {rm : Room} {Ts : List Cond} {own C : String} {b : Nat} {As : List Value} {st0 : List Value}
theorem fx_goF {wc wr : va_W} {S : Type} {post : S → Prop} {rv : S → Option Value} {w' : S → va_W} {av : List Value} {g : JFrame}
    (hr : va_Run p l e R s m args below meth c H locs cells slots mc ms g rest ((fun (_ : Array Value) st oc t => (∃ u : S, post u ∧ oc = .returned (rv u) ∧ va_P D vwCl (w' u) t.heap ∧ va_D (va_A wc H.size) (w' u)) ∧ va_F (va_A wc H.size) st t) av.toArray) (va_A wc H.size))
    (hP : va_P D vwCl ws H) (hD : va_D A ws) (hS : va_S A s.heap H locs) (hA : ∀ q, s.heap.size ≤ q → A q) (isC isR : List Nat) (hC : isC.map (fun i => ws[i]?) = wc.map some) (hR : isR.map (fun i => ws[i]?) = wr.map some) (hn : va_nd isR = true) (hdis : ∀ i ∈ isR, i ∉ isC)
    (kk : ∀ (u : S) (H1 : Heap) (locs1 : List Loc), post u → va_P D vwCl (wr ++ w' u) H1 → va_D A (wr ++ w' u) → va_S A s.heap H1 locs1 → W p l e R s m args below meth c H1 locs1 (cells + mc) (slots + ms) Q { g with pc := g.pc + 3, stack := (rv u).toList ++ rest }) : W p l e R s m args below meth c H locs cells slots Q g := by
  intro T hT X
  obtain ⟨v, st₀, t, T', L, h0, X', hL, e1, e2, ⟨⟨u, hp, hv, hP1, hD1⟩, hz, hk⟩, st⟩ := hr T hT X
  have hF := va_free (wc := wc) hD hS hA isC hC
  cases hv
  rw [h0] at hz hk
  obtain ⟨hP2, hD2⟩ := va_join hP hD isC isR hC hR hn hdis hk hF hP1 hD1
  obtain ⟨t2, a1, b1⟩ := kk u t.heap (locs ++ L) hp hP2 hD2 (fx_back hS hF hz hk hL) T' e1 X'
  exact ⟨t2, st t2 a1, b1⟩
theorem fx_preF {wc : va_W} (hK : xK D cI cJ cZ s) (hP : va_P D vwCl wc H) (hD : va_D A wc) (hF : ∀ q, va_A wc H.size q → A q) (hS : va_S A s.heap H locs) (hZ : xZ A s s.heap) (av : List Value) : ∀ U : State, U.heap = H → s.WarmedH U.vm → va_Pc av (fun U => U.heap.size = H.size ∧ va_P D vwCl wc U.heap ∧ xK D cI cJ cZ U ∧ va_D (fun _ => True) wc ∧ xZ (va_A wc H.size) U U.heap) av.toArray U := fun U hU hW =>
  ⟨rfl, by rw [hU], by rw [hU]; exact hP, va_K.moved hW.alike hK, hD.weaken (fun _ _ _ _ => trivial), by rw [hU]; exact (fx_Zc hF hS hZ).moved hW.alike⟩
/-- the call of a constructor, its cells among more -/
theorem fx_callI {wc wr : va_W} {S : Type} {post : S → Prop} {rv : S → Option Value} {w' : S → va_W} (F : CallFix p m c cc nL s args Ts own) (hM : Ct l D cI cJ cZ y wd rm mc ms (.ref b :: As) wc post rv w') (cw : CallB R s args own index y bytes maxL none wd rm mc ms n ∧ y.name = "<init>" ∧ (Cond.instanceMethod y).before args s = true)
    (hK : xK D cI cJ cZ s) (hP : va_P D vwCl ws H) (hD : va_D A ws) (hS : va_S A s.heap H locs) (hA : ∀ q, s.heap.size ≤ q → A q) (hZ : xZ A s s.heap) (isC isR : List Nat) (hC0 : isC.filterMap (fun i => ws[i]?) = wc) (hCn : va_nd isC = true) (hC : isC.map (fun i => ws[i]?) = wc.map some) (hR : isR.map (fun i => ws[i]?) = wr.map some) (hnd : va_nd isR = true) (hdis : ∀ i ∈ isR, i ∉ isC)
    (hn : As.length = n) (hsize : ls.size = nL) (hst : st0 = As.reverse ++ .ref b :: rest) (hW : 2 * (F0 m pc ls st0).monitorRoom + (rest.map fun v => v.category).sum ≤ 8) (hdg : decode cc pc = .ok (.invokespecial index, 3)) (hf : cells + mc ≤ R.cells ∧ slots + ms ≤ R.slots)
    (kk : ∀ (u : S) (H1 : Heap) (locs1 : List Loc), post u → va_P D vwCl (wr ++ w' u) H1 → va_D A (wr ++ w' u) → va_S A s.heap H1 locs1 → W p l e R s m args below meth c H1 locs1 (cells + mc) (slots + ms) Q (F0 m (pc + 3) ls ((rv u).toList ++ rest))) : W p l e R s m args below meth c H locs cells slots Q (F0 m pc ls st0) :=
  fx_goF (av := .ref b :: As) (va_runI (As := As) F (hM H.size) cw ⟨fx_blind, fun U hU hW => fx_preF hK (hP.sub isC hC0) (hD.sub isC hCn hC) (va_free hD hS hA isC hC) hS hZ _ U hU hW⟩ rfl hn hsize hst hW hdg hf) hP hD hS hA isC isR hC hR hnd hdis kk
/-- the same, of a nest mate -/
theorem fx_callIN {wc wr : va_W} {S : Type} {post : S → Prop} {rv : S → Option Value} {w' : S → va_W} {host : String} (F : CallFix p m c cc nL s args Ts own) (hM : Ct l D cI cJ cZ y wd rm mc ms (.ref b :: As) wc post rv w') (cw : va_CN R s args own index y host bytes maxL none wd rm mc ms n ∧ y.name = "<init>" ∧ (Cond.instanceMethod y).before args s = true)
    (hK : xK D cI cJ cZ s) (hP : va_P D vwCl ws H) (hD : va_D A ws) (hS : va_S A s.heap H locs) (hA : ∀ q, s.heap.size ≤ q → A q) (hZ : xZ A s s.heap) (isC isR : List Nat) (hC0 : isC.filterMap (fun i => ws[i]?) = wc) (hCn : va_nd isC = true) (hC : isC.map (fun i => ws[i]?) = wc.map some) (hR : isR.map (fun i => ws[i]?) = wr.map some) (hnd : va_nd isR = true) (hdis : ∀ i ∈ isR, i ∉ isC)
    (hn : As.length = n) (hsize : ls.size = nL) (hst : st0 = As.reverse ++ .ref b :: rest) (hW : 2 * (F0 m pc ls st0).monitorRoom + (rest.map fun v => v.category).sum ≤ 8) (hdg : decode cc pc = .ok (.invokespecial index, 3)) (hf : cells + mc ≤ R.cells ∧ slots + ms ≤ R.slots)
    (kk : ∀ (u : S) (H1 : Heap) (locs1 : List Loc), post u → va_P D vwCl (wr ++ w' u) H1 → va_D A (wr ++ w' u) → va_S A s.heap H1 locs1 → W p l e R s m args below meth c H1 locs1 (cells + mc) (slots + ms) Q (F0 m (pc + 3) ls ((rv u).toList ++ rest))) : W p l e R s m args below meth c H locs cells slots Q (F0 m pc ls st0) :=
  fx_goF (av := .ref b :: As) (va_runIN (As := As) F (hM H.size) cw ⟨fx_blind, fun U hU hW => fx_preF hK (hP.sub isC hC0) (hD.sub isC hCn hC) (va_free hD hS hA isC hC) hS hZ _ U hU hW⟩ rfl hn hsize hst hW hdg hf) hP hD hS hA isC isR hC hR hnd hdis kk
end FI
/-- a constructor's contract out of a walk of its body -/
theorem Ct.ofI {l : Launch} {D : va_G} {cI cJ cZ : ClassId} {y : MethodName} {ws ws' : List Cond} {rm : Room} {mc ms : Nat} {av : List Value} {w : va_W} {S : Type} {post : S → Prop} {rv : S → Option Value} {w' : S → va_W} {cc : ByteArray} {maxL : Nat} {R_C : String}
    (hy : plainName y.cls = true) (hyn : y.name = "<init>") (hw : ws = Cond.code y cc maxL none :: ws') (hyc : y.cls = R_C) (hlen : (lg_sl av).length ≤ maxL) {lv : List (Nat × Value)} (hlv : lv_args 0 av = lv)
    (body : ∀ (p : Program) (e : Env) (s : State) (m : MethodId) (args : Array Value) (below : List Frame) (meth : Method) (c : Code) (A : Nat → Prop) (Q : State → Prop) (ls : Array Slot) (H : Heap) (locs : List Loc),
      p.tables.exec = Jvm.exec → c.code = cc → c.maxLocals = maxL → s.vm.findClass R_C = some m.cls → (∀ w ∈ ws, w.before args s = true) → xK D cI cJ cZ s → (∀ q, s.heap.size ≤ q → A q) → va_P D vwCl w H → va_D A w → va_S A s.heap H locs → xZ A s s.heap → lv_has ls maxL lv → meth.name = "<init>" →
      (∀ (u : S) (H : Heap) (locs : List Loc) (pc : Nat) (lz : Array Slot), post u → rv u = none → va_P D vwCl (w' u) H → va_D A (w' u) → va_S A s.heap H locs → decode cc pc = .ok (.return_, 1) → W p l e rm s m args below meth c H locs mc ms Q (F0 m pc lz [])) →
      W p l e rm s m args below meth c H locs 0 0 Q (F0 m 0 ls [])) : Ct l D cI cJ cZ y ws rm mc ms av w post rv w' := by
  intro sz
  refine Met.ofW (cc := cc) (maxL := maxL) (ret := none) hy hw ?_
  intro p e s m args below meth c s₁ B hml hv
  obtain ⟨rfl, hsz, hP, hK, hD0, hZ⟩ := hv
  subst hsz
  have hlocks := B.notSynchronized
  have hr := B.returns
  have hin : meth.name = y.name := (name_of_methodNamed B.named B.method).1
  have hl := lv_entry av (n := maxL) hlen
  rw [hlv] at hl
  rw [lg_entry_eq]
  generalize (lg_sl av ++ List.replicate (maxL - (lg_sl av).length) Slot.unset).toArray = ls at hl ⊢
  refine body p e s m av.toArray below meth c (va_A w s.heap.size) _ ls s.heap [] B.exec B.bytes hml (hyc ▸ findClass_of_methodNamed B.named) (atoms_spec (ws := ws) B.pre) hK (fun q h => Or.inr h) hP hD0.self va_S.rf hZ hl (hin.trans hyn) ?_
  intro u H locs pc lz hp hrv hP1 hD1 hS1 hdg
  exact W.vret B.exec B.bytes hr (fun t ht hW => ⟨⟨u, hp, by rw [hrv], by rw [ht]; exact hP1, hD1⟩, hS1.F ht⟩) hS1.2.2 hdg
