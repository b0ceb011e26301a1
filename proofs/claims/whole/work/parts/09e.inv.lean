/-! The invariant of the law's loop, and what each side needs of it. -/
def INV (nn : Nat) (xro : Int64) (xtk xli cn ci cs : Nat) (cso cki cfa cfb cfc cva csn csd csl csb csr pho : Nat → Nat) (nwa : Nat → Int32) (mso mwh mfi mse mth mpu mno mlo mbe mre : Nat → Nat) (mis mca : Nat → Bool) (mpa : Nat → Nat) (mne : Nat → Int32) : Prop :=
  JN cn ci cs cso cki cfa cfb cfc cva csn mso mwh mfi mse mth mpu ∧ JS cn cs cso csn csd csl csb csr mno mlo mbe mre ∧ ct (inP cso) cn = ci ∧ (cn ≤ 32 ∧ ci ≤ 4 ∧ cs ≤ 6) ∧ xtk ≤ 64 * nn ∧ (∀ i, i < ci → mpu i ≤ 2) ∧ (∀ i, i < cs → mpa i = pho i) ∧ (∀ j, j < 6 → pho j ≤ 2) ∧ xli < 16 ∧ (∀ k, k < 4 → mis k = xli.testBit k) ∧ (∀ r, r < 64 → mca r = lbit xro r) ∧ (∀ r, r < 64 → lbit xro r = true → r < 2 ^ cs) ∧ (∀ k, k < 16 → mne k = nwa k) ∧ (∀ k, k < 16 → nwa k = (-9) ∨ ∃ m, m ≤ 20 ∧ nwa k = nI m) ∧ (∀ j, cki j ≤ 4) ∧ (∀ j, cva j ≤ 2)
section IV
variable {nn : Nat} {xro : Int64} {xtk xli cn ci cs : Nat} {cso cki cfa cfb cfc cva csn csd csl csb csr pho : Nat → Nat} {nwa : Nat → Int32} {mso mwh mfi mse mth mpu mno mlo mbe mre : Nat → Nat} {mis mca : Nat → Bool} {mpa : Nat → Nat} {mne : Nat → Int32}
theorem inv_cls (h : INV nn xro xtk xli cn ci cs cso cki cfa cfb cfc cva csn csd csl csb csr pho nwa mso mwh mfi mse mth mpu mno mlo mbe mre mis mca mpa mne) : (∀ j, j < cn → cso j ≤ 3 ∧ cki j ≤ 4 ∧ cva j ≤ 2) ∧ (∀ j, j < cn → cso j = 2 → cfa j < j ∧ cfb j < j ∧ cfc j < j) ∧ (∀ j, j < cn → cso j = 3 → csn j < cs) ∧ ct (fun j => decide (cso j = 0)) cn ≤ 4 ∧ (∀ i, i < cs → csr i < cn) ∧ (∀ i, i < cs → csb i ≤ 1) ∧ (∀ i, i < cs → csl i ≤ 4) := by
  obtain ⟨jn, js, cin, ⟨bn, bi, bs⟩, _⟩ := h
  refine ⟨fun j hj => ?_, fun j hj e => ?_, fun j hj e => ?_, ?_, fun i hi => ?_, fun i hi => ?_, fun i hi => ?_⟩
  · obtain ⟨h1, h2, h3, h4, h5, h6, h7, h8⟩ := jn j hj
    exact ⟨h2, h3, h4⟩
  · obtain ⟨h1, h2, h3, h4, h5, h6, h7, h8⟩ := jn j hj
    obtain ⟨_, _, _, _, a, b, c⟩ := h5 e
    exact ⟨a, b, c⟩
  · obtain ⟨h1, h2, h3, h4, h5, h6, h7, h8⟩ := jn j hj
    exact (h6 e).2
  · show ct (inP cso) cn ≤ 4
    omega
  · obtain ⟨s1, s2, s3, s4, s5, s6, s7, s8, s9, s0⟩ := js i hi
    exact s8
  · obtain ⟨s1, s2, s3, s4, s5, s6, s7, s8, s9, s0⟩ := js i hi
    exact s6
  · obtain ⟨s1, s2, s3, s4, s5, s6, s7, s8, s9, s0⟩ := js i hi
    exact s4
theorem inv_ref (h : INV nn xro xtk xli cn ci cs cso cki cfa cfb cfc cva csn csd csl csb csr pho nwa mso mwh mfi mse mth mpu mno mlo mbe mre mis mca mpa mne) : (∀ j, j < cn → mso j ≤ 3) ∧ (∀ j, j < cn → mso j = 2 → mwh j ≤ 4) ∧ (∀ j, j < cn → mso j = 2 → mfi j < j ∧ mse j < j ∧ mth j < j) ∧ (∀ j, j < cn → mso j = 1 → mwh j ≤ 1) ∧ (∀ j, j < cn → mso j = 0 → mwh j < ci) ∧ (∀ j, j < cn → mso j = 3 → mwh j < cs) ∧ (∀ i, i < cs → mre i < cn) ∧ (∀ i, i < cs → mbe i ≤ 1) ∧ (∀ i, i < cs → mlo i ≤ 4) ∧ (∀ i, i < cs → mpa i ≤ 2) ∧ (∀ i, i < cs → mno i < cn) := by
  obtain ⟨jn, js, cin, ⟨bn, bi, bs⟩, tk, pu, pa, ho, _⟩ := h
  obtain ⟨w1, w2, w3, w4, w5, w6⟩ := wf_of jn
  refine ⟨w1, w2, w3, w4, w5, w6, fun i hi => ?_, fun i hi => ?_, fun i hi => ?_, fun i hi => ?_, fun i hi => ?_⟩
  · obtain ⟨s1, s2, s3, s4, s5, s6, s7, s8, s9, s0⟩ := js i hi
    rw [s7]; exact s8
  · obtain ⟨s1, s2, s3, s4, s5, s6, s7, s8, s9, s0⟩ := js i hi
    rw [s5]; exact s6
  · obtain ⟨s1, s2, s3, s4, s5, s6, s7, s8, s9, s0⟩ := js i hi
    rw [s3]; exact s4
  · rw [pa i hi]; exact ho i (by omega)
  · obtain ⟨s1, s2, s3, s4, s5, s6, s7, s8, s9, s0⟩ := js i hi
    rw [s1]; exact s2
/-! Rows of stores. -/
theorem rs_eq (js : JS cn cs cso csn csd csl csb csr mno mlo mbe mre) (il : ∀ k, k < 4 → mis k = xli.testBit k) : bN (stP csl xli) cs = bN (rsP mlo mis) cs := by
  refine bN_cong fun i hi => ?_
  obtain ⟨s1, s2, s3, s4, s5, s6, s7, s8, s9, s0⟩ := js i hi
  unfold stP rsP
  rw [s3]
  by_cases e : csl i = 4
  · simp [e]
  · rw [il _ (by omega)]
theorem tb15 : ∀ k, k < 4 → (15 : Nat).testBit k = true := by decide
theorem ln_eq (js : JS cn cs cso csn csd csl csb csr mno mlo mbe mre) : bN (stP csl 15) cs = bN (fun jj => !decide (mlo jj = 4)) cs := by
  refine bN_cong fun i hi => ?_
  obtain ⟨s1, s2, s3, s4, s5, s6, s7, s8, s9, s0⟩ := js i hi
  unfold stP
  rw [s3]
  by_cases e : csl i = 4
  · simp [e]
  · rw [tb15 _ (by omega), Bool.and_true]
theorem al_eq (js : JS cn cs cso csn csd csl csb csr mno mlo mbe mre) {k : Nat} (hk : k < 4) : bN (stP csl (2 ^ k)) cs = bN (fun jj => decide (mlo jj = k)) cs := by
  refine bN_cong fun i hi => ?_
  obtain ⟨s1, s2, s3, s4, s5, s6, s7, s8, s9, s0⟩ := js i hi
  unfold stP
  rw [s3, Nat.testBit_two_pow]
  by_cases e : csl i = k
  · simp [e]; omega
  · have : ¬ k = csl i := fun z => e z.symm
    simp [e, this]
/-! What is sure of a node. -/
theorem sureX (jn : JN cn ci cs cso cki cfa cfb cfc cva csn mso mwh mfi mse mth mpu) (cin : ct (inP cso) cn = ci) (bs : cs ≤ 6) (ro : ∀ r, r < 64 → mca r = lbit xro r) (rl : ∀ r, r < 64 → lbit xro r = true → r < 2 ^ cs) {k : Nat} {g : Nat → Int64} {P : Nat → Bool}
    (hg : ∀ way y r, agr cn cso cva mwh false way y → r < 64 → lbit (g way) r = P (worT mso mwh mfi mse mth r y (fun _ => 0) cn k)) :
    anyN (fun jj => !decide (g jj &&& xro = 0)) (2 ^ ct (opP cso cva false) cn) = anyN (fun rr => anyN (fun yy => mca rr && putT mpu yy false ci && P (worT mso mwh mfi mse mth rr yy (fun _ => 0) cn k)) (2 ^ ci)) (2 ^ cs) := by
  have h64 := p64 bs
  apply ite_eqT
  rw [any_iff, any_iff]
  constructor
  · rintro ⟨way, hw, q⟩
    obtain ⟨r, hr, q2⟩ := lb_pos.mp (show ¬ g way &&& xro = 0 by simpa using q)
    rw [lb_and hr, Bool.and_eq_true] at q2
    obtain ⟨y, hy, hp, ha⟩ := way_to jn cin false way
    refine ⟨r, rl r hr q2.2, any_iff.mpr ⟨y, hy, ?_⟩⟩
    rw [ro r hr, q2.2, hp, ← hg way y r ha hr, q2.1]
    rfl
  · rintro ⟨r, hr, q⟩
    obtain ⟨y, hy, q2⟩ := any_iff.mp q
    simp only [Bool.and_eq_true] at q2
    obtain ⟨way, hw, ha⟩ := way_of jn q2.1.2
    refine ⟨way, hw, ?_⟩
    have : ¬ g way &&& xro = 0 := lb_pos.mpr ⟨r, by omega, by rw [lb_and (by omega), hg way y r ha (by omega), q2.2, ← ro r (by omega), q2.1.1]; rfl⟩
    simpa using this
theorem sur_at (jn : JN cn ci cs cso cki cfa cfb cfc cva csn mso mwh mfi mse mth mpu) (bs : cs ≤ 6) {won : Nat → Int64} {k way y r : Nat} (hk : k < cn) (ha : agr cn cso cva mwh false way y) (hr : r < 64) : lbit (surT cso cki cfa cfb cfc cva csn cn won (way + 1) k) r = decide (worT mso mwh mfi mse mth r y (fun _ => 0) cn k = 1) :=
  eval_work jn bs ha hr (Nat.le_refl cn) k hk
theorem sure1 (jn : JN cn ci cs cso cki cfa cfb cfc cva csn mso mwh mfi mse mth mpu) (cin : ct (inP cso) cn = ci) (bs : cs ≤ 6) (ro : ∀ r, r < 64 → mca r = lbit xro r) (rl : ∀ r, r < 64 → lbit xro r = true → r < 2 ^ cs) {won : Nat → Int64} {k : Nat} (hk : k < cn) : anyN (fun jj => !decide (surT cso cki cfa cfb cfc cva csn cn won (jj + 1) k &&& xro = 0)) (2 ^ ct (opP cso cva false) cn) = anyN (fun rr => anyN (fun yy => mca rr && putT mpu yy false ci && decide ((worT mso mwh mfi mse mth rr yy (fun _ => 0) cn) k = 1)) (2 ^ ci)) (2 ^ cs) :=
  sureX (g := fun jj => surT cso cki cfa cfb cfc cva csn cn won (jj + 1) k) (P := fun v => decide (v = 1)) jn cin bs ro rl (fun way y r ha hr => sur_at jn bs hk ha hr)
theorem sure0 (jn : JN cn ci cs cso cki cfa cfb cfc cva csn mso mwh mfi mse mth mpu) (cin : ct (inP cso) cn = ci) (bs : cs ≤ 6) (ro : ∀ r, r < 64 → mca r = lbit xro r) (rl : ∀ r, r < 64 → lbit xro r = true → r < 2 ^ cs) {won : Nat → Int64} {k : Nat} (hk : k < cn) : anyN (fun jj => !decide ((surT cso cki cfa cfb cfc cva csn cn won (jj + 1) k ^^^ (-1)) &&& xro = 0)) (2 ^ ct (opP cso cva false) cn) = anyN (fun rr => anyN (fun yy => mca rr && putT mpu yy false ci && decide ((worT mso mwh mfi mse mth rr yy (fun _ => 0) cn) k = 0)) (2 ^ ci)) (2 ^ cs) := by
  obtain ⟨w1, w2, w3, w4, w5, w6⟩ := wf_of jn
  refine sureX (g := fun jj => surT cso cki cfa cfb cfc cva csn cn won (jj + 1) k ^^^ (-1)) (P := fun v => decide (v = 0)) jn cin bs ro rl (fun way y r ha hr => ?_)
  show lbit (surT cso cki cfa cfb cfc cva csn cn won (way + 1) k ^^^ (-1)) r = _
  rw [lb_not hr, sur_at jn bs hk ha hr]
  have := worT_le (row := r) (y := y) (f := fun _ => 0) w3 w4 (Nat.le_refl cn) k hk
  rcases (show worT mso mwh mfi mse mth r y (fun _ => 0) cn k = 0 ∨ worT mso mwh mfi mse mth r y (fun _ => 0) cn k = 1 by omega) with e | e <;> rw [e] <;> rfl
/-! Stores that are sure. -/
theorem stoX (jn : JN cn ci cs cso cki cfa cfb cfc cva csn mso mwh mfi mse mth mpu) (js : JS cn cs cso csn csd csl csb csr mno mlo mbe mre) (cin : ct (inP cso) cn = ci) (bs : cs ≤ 6) {i : Nat} (hi : i < cs) {P : Nat → Bool} : anyN (fun rr => anyN (fun yy => mca rr && putT mpu yy false ci && P ((worT mso mwh mfi mse mth rr yy (fun _ => 0) cn) (mno i))) (2 ^ ci)) (2 ^ cs) = true ↔ ∃ r, r < 2 ^ cs ∧ mca r = true ∧ P ((r >>> i) &&& 1) = true := by
  obtain ⟨s1, s2, s3, s4, s5, s6, s7, s8, s9, s0⟩ := js i hi
  obtain ⟨h1, h2, h3, h4, h5, h6, h7, h8⟩ := jn (csd i) s2
  have e : ∀ r y, worT mso mwh mfi mse mth r y (fun _ => 0) cn (mno i) = (r >>> i) &&& 1 := fun r y => by
    rw [s1, worT_st (h1.trans s9) s2, (h6 s9).1, s0]
  obtain ⟨y0, hy0, hp0, _⟩ := way_to jn cin false 0
  rw [any_iff]
  constructor
  · rintro ⟨r, hr, q⟩
    obtain ⟨y, hy, q2⟩ := any_iff.mp q
    simp only [Bool.and_eq_true] at q2
    refine ⟨r, hr, q2.1.1, ?_⟩
    rw [← e r y]
    exact q2.2
  · rintro ⟨r, hr, q1, q2⟩
    refine ⟨r, hr, any_iff.mpr ⟨y0, hy0, ?_⟩⟩
    rw [q1, hp0, e, q2]
    rfl
theorem an0 (a k : Nat) : decide ((a >>> k) &&& 1 = 0) = !a.testBit k := by
  cases h : a.testBit k with
  | true => exact decide_eq_false (tb_n0.mpr h)
  | false => exact decide_eq_true (tb_0.mpr h)
theorem sto_eq (jn : JN cn ci cs cso cki cfa cfb cfc cva csn mso mwh mfi mse mth mpu) (js : JS cn cs cso csn csd csl csb csr mno mlo mbe mre) (cin : ct (inP cso) cn = ci) (bs : cs ≤ 6) (ro : ∀ r, r < 64 → mca r = lbit xro r) (rl : ∀ r, r < 64 → lbit xro r = true → r < 2 ^ cs) {i : Nat} (hi : i < cs) : surS xro i = decide ((if (anyN (fun rr => anyN (fun yy => mca rr && putT mpu yy false ci && decide ((worT mso mwh mfi mse mth rr yy (fun _ => 0) cn) (mno i) = 0)) (2 ^ ci)) (2 ^ cs) && anyN (fun rr => anyN (fun yy => mca rr && putT mpu yy false ci && decide ((worT mso mwh mfi mse mth rr yy (fun _ => 0) cn) (mno i) = 1)) (2 ^ ci)) (2 ^ cs)) = true then 2 else if anyN (fun rr => anyN (fun yy => mca rr && putT mpu yy false ci && decide ((worT mso mwh mfi mse mth rr yy (fun _ => 0) cn) (mno i) = 1)) (2 ^ ci)) (2 ^ cs) = true then 1 else 0) < 2) := by
  have h64 := p64 bs
  have z1 := stoX (mca := mca) jn js cin bs hi (P := fun v => decide (v = 1))
  have z0 := stoX (mca := mca) jn js cin bs hi (P := fun v => decide (v = 0))
  have y1 : (¬ holdL i &&& xro = 0) ↔ ∃ r, r < 2 ^ cs ∧ mca r = true ∧ decide ((r >>> i) &&& 1 = 1) = true := by
    rw [lb_pos]
    constructor
    · rintro ⟨r, hr, q⟩
      rw [lb_and hr, lb_hold i (by omega) r hr, Bool.and_eq_true] at q
      exact ⟨r, rl r hr q.2, (ro r hr).trans q.2, (an1 r i).trans q.1⟩
    · rintro ⟨r, hr, q1, q2⟩
      refine ⟨r, by omega, ?_⟩
      rw [lb_and (by omega), lb_hold i (by omega) r (by omega), ← an1, q2, ← ro r (by omega), q1]
      rfl
  have y0 : (¬ holdL i &&& xro = xro) ↔ ∃ r, r < 2 ^ cs ∧ mca r = true ∧ decide ((r >>> i) &&& 1 = 0) = true := by
    constructor
    · intro hne
      refine Classical.byContradiction fun hno => hne (lb_ext fun r hr => ?_)
      rw [lb_and hr, lb_hold i (by omega) r hr]
      cases q : lbit xro r with
      | false => simp
      | true =>
        cases t : r.testBit i with
        | true => rfl
        | false => exact absurd ⟨r, rl r hr q, (ro r hr).trans q, by rw [an0, t]; rfl⟩ hno
    · rintro ⟨r, hr, q1, q2⟩ e
      have e2 : lbit (holdL i &&& xro) r = lbit xro r := by rw [e]
      rw [lb_and (by omega), lb_hold i (by omega) r (by omega), ← ro r (by omega), q1] at e2
      rw [an0] at q2
      cases t : r.testBit i with
      | true => rw [t] at q2; cases q2
      | false => rw [t] at e2; cases e2
  have k1 : decide (holdL i &&& xro = 0) = !anyN (fun rr => anyN (fun yy => mca rr && putT mpu yy false ci && decide ((worT mso mwh mfi mse mth rr yy (fun _ => 0) cn) (mno i) = 1)) (2 ^ ci)) (2 ^ cs) := by
    cases q : anyN (fun rr => anyN (fun yy => mca rr && putT mpu yy false ci && decide ((worT mso mwh mfi mse mth rr yy (fun _ => 0) cn) (mno i) = 1)) (2 ^ ci)) (2 ^ cs) with
    | true => exact decide_eq_false (y1.mpr (z1.mp q))
    | false => exact decide_eq_true (Classical.byContradiction fun n => by
        have := z1.mpr (y1.mp n)
        rw [q] at this
        cases this)
  have k0 : decide (holdL i &&& xro = xro) = !anyN (fun rr => anyN (fun yy => mca rr && putT mpu yy false ci && decide ((worT mso mwh mfi mse mth rr yy (fun _ => 0) cn) (mno i) = 0)) (2 ^ ci)) (2 ^ cs) := by
    cases q : anyN (fun rr => anyN (fun yy => mca rr && putT mpu yy false ci && decide ((worT mso mwh mfi mse mth rr yy (fun _ => 0) cn) (mno i) = 0)) (2 ^ ci)) (2 ^ cs) with
    | true => exact decide_eq_false (y0.mpr (z0.mp q))
    | false => exact decide_eq_true (Classical.byContradiction fun n => by
        have := z0.mpr (y0.mp n)
        rw [q] at this
        cases this)
  unfold surS
  rw [k1, k0]
  generalize anyN (fun rr => anyN (fun yy => mca rr && putT mpu yy false ci && decide ((worT mso mwh mfi mse mth rr yy (fun _ => 0) cn) (mno i) = 0)) (2 ^ ci)) (2 ^ cs) = a
  generalize anyN (fun rr => anyN (fun yy => mca rr && putT mpu yy false ci && decide ((worT mso mwh mfi mse mth rr yy (fun _ => 0) cn) (mno i) = 1)) (2 ^ ci)) (2 ^ cs) = b
  cases a <;> cases b <;> rfl
theorem next_eq (jn : JN cn ci cs cso cki cfa cfb cfc cva csn mso mwh mfi mse mth mpu) (js : JS cn cs cso csn csd csl csb csr mno mlo mbe mre) (bs : cs ≤ 6) {won : Nat → Int64} {rs r : Nat} (hrs : rs < 2 ^ cs) (hr : r < 64) : (ledN (evalT cso cki cfa cfb cfc cva csn false 0 won cn) csr cs r &&& (63 ^^^ rs)) ||| (bN (fun jj => decide (csb jj = 1)) cs &&& rs) = nxT mbe rs (toN mso mwh mfi mse mth mre cn cs r (bN (fun jj => decide (mpu jj = 1)) ci)) cs := by
  have ag : agr cn cso cva mwh false 0 (bN (fun jj => decide (mpu jj = 1)) ci) := by
    intro j hj e
    obtain ⟨h1, h2, h3, h4, h5, h6, h7, h8⟩ := jn j hj
    obtain ⟨g1, g2, g3⟩ := h8 e
    rw [bN_tb, g3, decide_eq_true g2, Bool.true_and]
    unfold inv
    by_cases q : opP cso cva false j = true
    · rw [if_pos q]
      unfold opP at q
      simp only [Bool.and_eq_true, Bool.or_eq_true, decide_eq_true_eq] at q
      have : cva j = 2 := q.2.resolve_left (by decide)
      rw [this]
      simp
    · rw [if_neg q]
  rw [nx_cls bs (fun i hi => (js i hi).2.2.2.2.2.1) (led_lt bs) hrs, led_to jn js bs ag hr]
  exact nxT_cong fun i hi => (js i hi).2.2.2.2.1.symm
theorem cr_eq (jn : JN cn ci cs cso cki cfa cfb cfc cva csn mso mwh mfi mse mth mpu) (js : JS cn cs cso csn csd csl csb csr mno mlo mbe mre) {f g : Nat → Nat} {a b : Nat} (ha : a < cs) (hb4 : b < cs) : crP csl csr (srcT cso cfa cfb cfc csn f cn) a b = crP mlo mre (srcT mso mfi mse mth mwh g cn) a b := by
  obtain ⟨s1, s2, s3, s4, s5, s6, s7, s8, s9, s0⟩ := js a ha
  obtain ⟨t1, t2, t3, t4, t5, t6, t7, t8, t9, t0⟩ := js b hb4
  unfold crP
  rw [s3, t3, t7, srcT_eq jn (g := g) (Nat.le_refl cn) _ t8]
theorem about_eq (jn : JN cn ci cs cso cki cfa cfb cfc cva csn mso mwh mfi mse mth mpu) (js : JS cn cs cso csn csd csl csb csr mno mlo mbe mre) {k wt : Nat} (hk : k < cn) : abA cso cki csn csl csb csr k wt = abA mso mwh mwh mlo mbe mre k wt := by
  obtain ⟨h1, h2, h3, h4, h5, h6, h7, h8⟩ := jn k hk
  unfold abA
  rw [h1]
  by_cases e2 : cso k = 2
  · rw [(h5 e2).1]
    simp [e2]
  · by_cases e3 : cso k = 3
    · obtain ⟨g1, g2⟩ := h6 e3
      obtain ⟨s1, s2, s3, s4, s5, s6, s7, s8, s9, s0⟩ := js _ g2
      rw [g1, s3, s5, s7]
      simp [e2]
    · simp [e2, e3]
theorem mend_ans (jn : JN cn ci cs cso cki cfa cfb cfc cva csn mso mwh mfi mse mth mpu) (js : JS cn cs cso csn csd csl csb csr mno mlo mbe mre) (cin : ct (inP cso) cn = ci) (bs : cs ≤ 6) {won wle : Nat → Int64} {n : Nat} : meO (fun zq kq => decide (kq &&& (bN (stP csl 15) cs) = 0) && (decide (ct (fun jj => kq.testBit jj) 6 = zq) && decide (bct (lvF (aftF csb cs (preT cso cki cfa cfb cfc cva csn csr cn cs false won wle (2 ^ ct (opP cso cva false) cn)).2 ((bN (stP csl 15) cs) ||| kq)) n (alR cs)) = 1))) (2 ^ cs) (cs + 1) 0 = oI (meT (fun kq => decide (kq &&& (bN (fun jj => !decide (mlo jj = 4)) cs) = 0) && decide (ct (iterN (stpF mpu (trC mso mwh mfi mse mth mre mbe cn cs ((bN (fun jj => !decide (mlo jj = 4)) cs) ||| kq)) false ci cs) n (allP cs)) 64 = 1)) (fun kq => ct (fun jj => kq.testBit jj) 6) (2 ^ cs)) := by
  rw [← ln_eq js]
  refine mend_eq bs (fun zq kq hk => ?_)
  rw [lv_eq jn js bs cin (Nat.or_lt_two_pow (bN_lt _ _) hk)]
  generalize decide (kq &&& bN (stP csl 15) cs = 0) = a
  generalize decide (ct (fun jj => kq.testBit jj) 6 = zq) = b
  generalize decide (ct (iterN (stpF mpu (trC mso mwh mfi mse mth mre mbe cn cs (bN (stP csl 15) cs ||| kq)) false ci cs) n (allP cs)) 64 = 1) = c
  cases a <;> cases b <;> cases c <;> rfl
theorem ct_li : ∀ x, x < 16 → ct (fun jj => x.testBit jj) 6 = ct (fun jj => x.testBit jj) 4 := by decide
end IV
