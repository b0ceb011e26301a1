/-! The two sides' words agree: what nodes are. -/
abbrev inP (so : Nat → Nat) : Nat → Bool := fun j => decide (so j = 0)
/-- the nodes, as the class and as the reference hold them -/
def JN (cn ci cs : Nat) (cso cki cfa cfb cfc cva csn mso mwh mfi mse mth mpu : Nat → Nat) : Prop :=
  ∀ j, j < cn → mso j = cso j ∧ cso j ≤ 3 ∧ cki j ≤ 4 ∧ cva j ≤ 2 ∧ (cso j = 2 → mwh j = cki j ∧ mfi j = cfa j ∧ mse j = cfb j ∧ mth j = cfc j ∧ cfa j < j ∧ cfb j < j ∧ cfc j < j) ∧
    (cso j = 3 → mwh j = csn j ∧ csn j < cs) ∧ (cso j = 1 → mwh j = cva j ∧ cva j ≤ 1) ∧ (cso j = 0 → mwh j = ct (inP cso) j ∧ mwh j < ci ∧ mpu (mwh j) = cva j)
section SD
variable {cn ci cs : Nat} {cso cki cfa cfb cfc cva csn mso mwh mfi mse mth mpu : Nat → Nat}
theorem srcT_eq (h : JN cn ci cs cso cki cfa cfb cfc cva csn mso mwh mfi mse mth mpu) {f g : Nat → Nat} {m : Nat} (hm : m ≤ cn) : ∀ j, j < m → srcT cso cfa cfb cfc csn f m j = srcT mso mfi mse mth mwh g m j := by
  induction m with
  | zero => intro j hj; omega
  | succ k ih =>
    have ih := ih (by omega)
    intro j hj
    obtain ⟨h1, h2, h3, h4, h5, h6, h7, h8⟩ := h k (by omega)
    show (if j = k then _ else srcT cso cfa cfb cfc csn f k j) = (if j = k then _ else srcT mso mfi mse mth mwh g k j)
    by_cases e : j = k
    · rw [if_pos e, if_pos e, h1]
      by_cases q3 : cso k = 3
      · rw [if_pos q3, if_pos q3, (h6 q3).1]
      · rw [if_neg q3, if_neg q3]
        by_cases q2 : cso k = 2
        · obtain ⟨_, g2, g3, g4, g5, g6, g7⟩ := h5 q2
          rw [if_pos q2, if_pos q2, g2, g3, g4, ih _ g5, ih _ g6, ih _ g7]
        · rw [if_neg q2, if_neg q2]
    · rw [if_neg e, if_neg e]
      exact ih j (by omega)
theorem tel_par (h : JN cn ci cs cso cki cfa cfb cfc cva csn mso mwh mfi mse mth mpu) {ho pa f g : Nat → Nat} (hp : ∀ i, i < cs → pa i = ho i) {m : Nat} (hm : m ≤ cn) : ∀ j, j < m → telT cso cki cfa cfb cfc cva csn ho f m j = parT mso mwh mfi mse mth mpu pa g m j := by
  induction m with
  | zero => intro j hj; omega
  | succ k ih =>
    have ih := ih (by omega)
    intro j hj
    obtain ⟨h1, h2, h3, h4, h5, h6, h7, h8⟩ := h k (by omega)
    show (if j = k then _ else telT cso cki cfa cfb cfc cva csn ho f k j) = (if j = k then _ else parT mso mwh mfi mse mth mpu pa g k j)
    by_cases e : j = k
    · rw [if_pos e, if_pos e, h1]
      by_cases q2 : cso k = 2
      · obtain ⟨g1, g2, g3, g4, g5, g6, g7⟩ := h5 q2
        rw [if_pos q2, if_pos q2, g1, g2, g3, g4, ih _ g5, ih _ g6, ih _ g7]
      · rw [if_neg q2, if_neg q2]
        by_cases q3 : cso k = 3
        · rw [if_pos q3, if_neg (by omega), if_neg (by omega), (h6 q3).1, hp _ (h6 q3).2]
        · rw [if_neg q3]
          by_cases q1 : cso k = 1
          · rw [if_pos q1, (h7 q1).1]
          · rw [if_neg q1, if_pos (by omega), (h8 (by omega)).2.2]
    · rw [if_neg e, if_neg e]
      exact ih j (by omega)
/-- what an input is, the class counting ways through its open inputs -/
def inv (cso cva : Nat → Nat) (ao : Bool) (way j : Nat) : Bool := if opP cso cva ao j = true then way.testBit (ct (opP cso cva ao) j) else decide (cva j = 1)
/-- a way of the class and a number of the reference say the same of all inputs -/
def agr (cn : Nat) (cso cva mwh : Nat → Nat) (ao : Bool) (way y : Nat) : Prop := ∀ j, j < cn → cso j = 0 → inv cso cva ao way j = y.testBit (mwh j)
theorem ga_tb : ∀ k, k ≤ 4 → ∀ a, a ≤ 1 → ∀ b, b ≤ 1 → ∀ c, c ≤ 1 → decide (gaF k a b c = 1) = (if k = 0 then !decide (a = 1) else if k = 1 then decide (a = 1) && decide (b = 1) else if k = 2 then decide (a = 1) || decide (b = 1) else if k = 3 then decide (a = 1) ^^ decide (b = 1) else (decide (a = 1) && decide (b = 1)) || ((!decide (a = 1)) && decide (c = 1))) := by decide
theorem lb_go {k : Nat} {a b c : Int64} {r : Nat} (hr : r < 64) : lbit (goF k a b c) r = (if k = 0 then !lbit a r else if k = 1 then lbit a r && lbit b r else if k = 2 then lbit a r || lbit b r else if k = 3 then lbit a r ^^ lbit b r else (lbit a r && lbit b r) || ((!lbit a r) && lbit c r)) := by
  unfold goF
  split
  · exact lb_not hr
  split
  · exact lb_and hr
  split
  · exact lb_or hr
  split
  · exact lb_xor hr
  · rw [lb_or hr, lb_and hr, lb_and hr, lb_not hr]
theorem lb_evy {v r : Nat} (hr : r < 64) : lbit (evyL v) r = decide (v = 1) := by
  unfold evyL
  by_cases e : v = 1
  · rw [if_pos e, lb_m1 r hr]; simp [e]
  · rw [if_neg e, lb_0 r hr]; simp [e]
theorem an1 (a k : Nat) : decide ((a >>> k) &&& 1 = 1) = a.testBit k := by
  cases h : a.testBit k with
  | true => exact decide_eq_true (tb1.mpr h)
  | false => exact decide_eq_false (tb1_n.mpr h)
theorem wf_of (h : JN cn ci cs cso cki cfa cfb cfc cva csn mso mwh mfi mse mth mpu) : (∀ j, j < cn → mso j ≤ 3) ∧ (∀ j, j < cn → mso j = 2 → mwh j ≤ 4) ∧ (∀ j, j < cn → mso j = 2 → mfi j < j ∧ mse j < j ∧ mth j < j) ∧ (∀ j, j < cn → mso j = 1 → mwh j ≤ 1) ∧ (∀ j, j < cn → mso j = 0 → mwh j < ci) ∧ (∀ j, j < cn → mso j = 3 → mwh j < cs) := by
  refine ⟨fun j hj => ?_, fun j hj e => ?_, fun j hj e => ?_, fun j hj e => ?_, fun j hj e => ?_, fun j hj e => ?_⟩ <;> obtain ⟨h1, h2, h3, h4, h5, h6, h7, h8⟩ := h j hj
  · rw [h1]; exact h2
  · rw [(h5 (h1.symm.trans e)).1]; exact h3
  · obtain ⟨_, g2, g3, g4, g5, g6, g7⟩ := h5 (h1.symm.trans e)
    rw [g2, g3, g4]; exact ⟨g5, g6, g7⟩
  · rw [(h7 (h1.symm.trans e)).1]; exact (h7 (h1.symm.trans e)).2
  · exact (h8 (h1.symm.trans e)).2.1
  · rw [(h6 (h1.symm.trans e)).1]; exact (h6 (h1.symm.trans e)).2
/-- bit r of what the class works out of a node is what the reference works out of it in row r -/
theorem eval_work (h : JN cn ci cs cso cki cfa cfb cfc cva csn mso mwh mfi mse mth mpu) (hcs : cs ≤ 6) {ao : Bool} {way y r : Nat} (ha : agr cn cso cva mwh ao way y) (hr : r < 64) {f : Nat → Int64} {g : Nat → Nat} {m : Nat} (hm : m ≤ cn) : ∀ j, j < m → lbit (evalT cso cki cfa cfb cfc cva csn ao way f m j) r = decide (worT mso mwh mfi mse mth r y g m j = 1) := by
  obtain ⟨w1, w2, w3, w4, w5, w6⟩ := wf_of h
  induction m with
  | zero => intro j hj; omega
  | succ k ih =>
    have ih := ih (by omega)
    have wle := worT_le (row := r) (y := y) (f := g) (n := cn) w3 w4 (show k ≤ cn by omega)
    intro j hj
    obtain ⟨h1, h2, h3, h4, h5, h6, h7, h8⟩ := h k (by omega)
    show lbit (if j = k then _ else evalT cso cki cfa cfb cfc cva csn ao way f k j) r = decide ((if j = k then _ else worT mso mwh mfi mse mth r y g k j) = 1)
    by_cases e : j = k
    · rw [if_pos e, if_pos e, h1]
      by_cases q0 : cso k = 0
      · rw [if_pos q0, if_neg (show ¬ cso k = 2 by omega), if_neg (show ¬ cso k = 1 by omega), if_pos q0, an1, ← ha k (by omega) q0]
        unfold inv
        split
        · rw [lb_evy hr, an1]
        · exact lb_evy hr
      · rw [if_neg q0]
        by_cases q1 : cso k = 1
        · rw [if_pos q1, if_neg (show ¬ cso k = 2 by omega), if_pos q1, lb_evy hr, (h7 q1).1]
        · rw [if_neg q1]
          by_cases q2 : cso k = 2
          · obtain ⟨g1, g2, g3, g4, g5, g6, g7⟩ := h5 q2
            rw [if_pos q2, if_pos q2, g1, g2, g3, g4, lb_go hr, ih _ g5, ih _ g6, ih _ g7, ga_tb _ h3 _ (wle _ g5) _ (wle _ g6) _ (wle _ g7)]
          · have q3 : cso k = 3 := by omega
            rw [if_neg q2, if_neg q2, if_neg q1, if_neg q0, an1, (h6 q3).1, lb_hold _ (by have := (h6 q3).2; omega) r hr]
    · rw [if_neg e, if_neg e]
      exact ih j (by omega)
/-- the reference's number for a way of the class -/
theorem way_to (h : JN cn ci cs cso cki cfa cfb cfc cva csn mso mwh mfi mse mth mpu) (hci : ct (inP cso) cn = ci) (ao : Bool) (way : Nat) : ∃ y, y < 2 ^ ci ∧ putT mpu y ao ci = true ∧ agr cn cso cva mwh ao way y := by
  have hput : ∀ m y, (∀ i, i < m → ao = true ∨ mpu i = 2 ∨ mpu i = (y >>> i) &&& 1) → putT mpu y ao m = true := by
    intro m y
    induction m with
    | zero => intro _; rfl
    | succ m ih =>
      intro q
      show (putT mpu y ao m && (ao || decide (mpu m = 2) || decide (mpu m = (y >>> m) &&& 1))) = true
      rw [ih (fun i hi => q i (by omega))]
      rcases q m (by omega) with q | q | q
      · rw [q]; simp
      · rw [decide_eq_true q]; simp
      · rw [decide_eq_true q]; simp
  have hag : agr cn cso cva mwh ao way (bN (fun i => @decide (∃ j, j < cn ∧ cso j = 0 ∧ ct (inP cso) j = i ∧ inv cso cva ao way j = true) (Classical.propDecidable _)) ci) := by
    intro j hj e
    obtain ⟨h1, h2, h3, h4, h5, h6, h7, h8⟩ := h j hj
    obtain ⟨g1, g2, g3⟩ := h8 e
    rw [bN_tb, decide_eq_true g2, Bool.true_and]
    cases q : inv cso cva ao way j with
    | true => exact (@decide_eq_true _ (Classical.propDecidable _) ⟨j, hj, e, g1.symm, q⟩).symm
    | false =>
      refine (@decide_eq_false _ (Classical.propDecidable _) ?_).symm
      rintro ⟨j2, hj2, e2, c2, q2⟩
      have := ct_inj (p := inP cso) (decide_eq_true e2) (decide_eq_true e) (c2.trans g1)
      subst this
      rw [q] at q2
      cases q2
  refine ⟨_, bN_lt _ _, hput ci _ (fun i hi => ?_), hag⟩
  obtain ⟨j, hj, e, c⟩ := ct_kth (p := inP cso) (n := cn) (show i < ct (inP cso) cn by omega)
  have e := of_decide_eq_true e
  obtain ⟨h1, h2, h3, h4, h5, h6, h7, h8⟩ := h j hj
  obtain ⟨g1, g2, g3⟩ := h8 e
  have hmi : mwh j = i := g1.trans c
  have ha := hag j hj e
  rw [hmi] at ha g3
  by_cases q : opP cso cva ao j = true
  · unfold opP at q
    rw [decide_eq_true e, Bool.true_and, Bool.or_eq_true, decide_eq_true_eq] at q
    rcases q with q | q
    · exact Or.inl q
    · exact Or.inr (Or.inl (g3.trans q))
  · right; right
    unfold inv at ha
    rw [if_neg q] at ha
    have q2 : ¬ cva j = 2 := fun z => q (by unfold opP; rw [decide_eq_true e, decide_eq_true z]; simp)
    rw [g3]
    rcases (show cva j = 0 ∨ cva j = 1 by omega) with v | v
    · rw [v] at ha ⊢
      exact (tb_0.mpr ha.symm).symm
    · rw [v] at ha ⊢
      exact (tb1.mpr ha.symm).symm
/-- and back -/
theorem way_of (h : JN cn ci cs cso cki cfa cfb cfc cva csn mso mwh mfi mse mth mpu) {ao : Bool} {y : Nat} (hp : putT mpu y ao ci = true) : ∃ way, way < 2 ^ ct (opP cso cva ao) cn ∧ agr cn cso cva mwh ao way y := by
  have hput : ∀ m, putT mpu y ao m = true → ∀ i, i < m → ao = true ∨ mpu i = 2 ∨ mpu i = (y >>> i) &&& 1 := by
    intro m
    induction m with
    | zero => intro _ i hi; omega
    | succ m ih =>
      intro q i hi
      have q' : (putT mpu y ao m && (ao || decide (mpu m = 2) || decide (mpu m = (y >>> m) &&& 1))) = true := q
      simp only [Bool.and_eq_true, Bool.or_eq_true, decide_eq_true_eq] at q'
      by_cases e : i = m
      · subst e
        rcases q'.2 with (a | a) | a
        · exact Or.inl a
        · exact Or.inr (Or.inl a)
        · exact Or.inr (Or.inr a)
      · exact ih q'.1 i (by omega)
  refine ⟨bN (fun i => @decide (∃ j, j < cn ∧ opP cso cva ao j = true ∧ ct (opP cso cva ao) j = i ∧ y.testBit (mwh j) = true) (Classical.propDecidable _)) (ct (opP cso cva ao) cn), bN_lt _ _, ?_⟩
  intro j hj e
  obtain ⟨h1, h2, h3, h4, h5, h6, h7, h8⟩ := h j hj
  obtain ⟨g1, g2, g3⟩ := h8 e
  unfold inv
  by_cases q : opP cso cva ao j = true
  · rw [if_pos q, bN_tb, decide_eq_true (ct_lt hj q), Bool.true_and]
    cases b : y.testBit (mwh j) with
    | true => exact @decide_eq_true _ (Classical.propDecidable _) ⟨j, hj, q, rfl, b⟩
    | false =>
      refine @decide_eq_false _ (Classical.propDecidable _) ?_
      rintro ⟨j2, hj2, e2, c2, q2⟩
      have := ct_inj e2 q c2
      subst this
      rw [b] at q2
      cases q2
  · rw [if_neg q]
    have q1 : ¬ ao = true := fun z => q (by unfold opP; rw [decide_eq_true e, z]; simp)
    have q2 : ¬ cva j = 2 := fun z => q (by unfold opP; rw [decide_eq_true e, decide_eq_true z]; simp)
    rcases hput ci hp (mwh j) g2 with a | a | a
    · exact absurd a q1
    · exact absurd (g3.symm.trans a) q2
    · rw [g3] at a
      rw [a]
      exact an1 _ _
end SD
