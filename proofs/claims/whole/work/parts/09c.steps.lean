/-! The two sides' words agree: where rows lead, ticks. -/
/-- the stores, as the class and as the reference hold them -/
def JS (cn cs : Nat) (cso csn csd csl csb csr mno mlo mbe mre : Nat → Nat) : Prop :=
  ∀ i, i < cs → mno i = csd i ∧ csd i < cn ∧ mlo i = csl i ∧ csl i ≤ 4 ∧ mbe i = csb i ∧ csb i ≤ 1 ∧ mre i = csr i ∧ csr i < cn ∧ cso (csd i) = 3 ∧ csn (csd i) = i
theorem toT_bN {v re : Nat → Nat} : ∀ {m : Nat}, (∀ i, i < m → v (re i) ≤ 1) → toT v re m = bN (fun i => decide (v (re i) = 1)) m := by
  intro m
  induction m with
  | zero => intro _; rfl
  | succ m ih =>
    intro h
    show toT v re m ||| v (re m) <<< m = (if decide (v (re m) = 1) = true then bN _ m ||| 2 ^ m else bN _ m)
    rw [ih (fun i hi => h i (by omega))]
    have := h m (by omega)
    rcases (show v (re m) = 0 ∨ v (re m) = 1 by omega) with e | e
    · rw [e]; simp
    · rw [e]; simp [Nat.one_shiftLeft]
theorem evalT_can {so ki fa fb fc va sn : Nat → Nat} {ao : Bool} {way n : Nat} {f g : Nat → Int64} (hg : ∀ j, j < n → so j = 2 → fa j < j ∧ fb j < j ∧ fc j < j) {m : Nat} (hm : m ≤ n) : ∀ j, j < m → evalT so ki fa fb fc va sn ao way f m j = evalT so ki fa fb fc va sn ao way g m j := by
  induction m with
  | zero => intro j hj; omega
  | succ k ih =>
    have ih := ih (by omega)
    intro j hj
    show (if j = k then _ else evalT so ki fa fb fc va sn ao way f k j) = (if j = k then _ else evalT so ki fa fb fc va sn ao way g k j)
    by_cases e : j = k
    · rw [if_pos e, if_pos e]
      by_cases q2 : so k = 2
      · have q := hg k (by omega) q2
        rw [ih _ q.1, ih _ q.2.1, ih _ q.2.2]
      · rw [if_neg q2, if_neg q2]
    · rw [if_neg e, if_neg e]
      exact ih j (by omega)
theorem iterN_s {α : Type} (f : α → α) : ∀ (n : Nat) (x : α), iterN f n (f x) = f (iterN f n x) := by
  intro n
  induction n with
  | zero => intro x; rfl
  | succ n ih => intro x; show f (iterN f n (f x)) = f (f (iterN f n x)); rw [ih]
theorem iterN_fix {α : Type} {f : α → α} {x : α} (h : f x = x) : ∀ n, iterN f n x = x := by
  intro n
  induction n with
  | zero => rfl
  | succ n ih => show f (iterN f n x) = x; rw [ih, h]
theorem lvF_iter (f : Int64 → Int64) : ∀ (n : Nat) (x : Int64), lvF f n x = iterN f n x := by
  intro n
  induction n with
  | zero => intro x; rfl
  | succ n ih =>
    intro x
    show (if f x = x then x else lvF f n (f x)) = f (iterN f n x)
    by_cases e : f x = x
    · rw [if_pos e, iterN_fix e, e]
    · rw [if_neg e, ih, iterN_s]
theorem bct_ct {x : Int64} {S : Nat → Bool} (h : ∀ r, r < 64 → S r = lbit x r) : bct x = ct S 64 := ct_cong fun r hr => (h r hr).symm
section ST
variable {cn ci cs : Nat} {cso cki cfa cfb cfc cva csn csd csl csb csr mso mwh mfi mse mth mpu mno mlo mbe mre : Nat → Nat}
theorem led_to (h : JN cn ci cs cso cki cfa cfb cfc cva csn mso mwh mfi mse mth mpu) (hs : JS cn cs cso csn csd csl csb csr mno mlo mbe mre) (hcs : cs ≤ 6) {ao : Bool} {way y r : Nat} (ha : agr cn cso cva mwh ao way y) (hr : r < 64) {f : Nat → Int64} : ledN (evalT cso cki cfa cfb cfc cva csn ao way f cn) csr cs r = toN mso mwh mfi mse mth mre cn cs r y := by
  obtain ⟨w1, w2, w3, w4, w5, w6⟩ := wf_of h
  have hre : ∀ i, i < cs → mre i < cn := fun i hi => by
    obtain ⟨_, _, _, _, _, _, a, b, _⟩ := hs i hi
    rw [a]; exact b
  unfold ledN toN
  rw [toT_bN (fun i hi => worT_le w3 w4 (Nat.le_refl cn) _ (hre i hi))]
  refine bN_cong fun i hi => ?_
  obtain ⟨_, _, _, _, _, _, a, b, _⟩ := hs i hi
  rw [a]
  exact eval_work h hcs ha hr (Nat.le_refl cn) _ b
theorem led_lt {on : Nat → Int64} {r : Nat} (hcs : cs ≤ 6) : ledN on csr cs r < 64 := Nat.lt_of_lt_of_le (bN_lt _ _) (Nat.pow_le_pow_right (n := 2) (by omega) hcs)
theorem pre_E (h : JN cn ci cs cso cki cfa cfb cfc cva csn mso mwh mfi mse mth mpu) (hs : JS cn cs cso csn csd csl csb csr mno mlo mbe mre) (hcs : cs ≤ 6) {ao : Bool} {on le : Nat → Int64} : ∀ (w r t : Nat), r < 2 ^ cs → t < 64 → (lbit ((preT cso cki cfa cfb cfc cva csn csr cn cs ao on le w).2 r) t = true ↔ ∃ way, way < w ∧ ledN (evalT cso cki cfa cfb cfc cva csn ao way (fun _ => 0) cn) csr cs r = t) := by
  intro w
  induction w with
  | zero =>
    intro r t hr ht
    show lbit (mixF (fun _ => 0) le (2 ^ cs) r) t = true ↔ _
    rw [show mixF (fun _ => (0 : Int64)) le (2 ^ cs) r = 0 from if_pos hr, lb_0 t ht]
    simp
  | succ w ih =>
    intro r t hr ht
    have e1 : (preT cso cki cfa cfb cfc cva csn csr cn cs ao on le (w + 1)).2 r = (preT cso cki cfa cfb cfc cva csn csr cn cs ao on le w).2 r ||| shL 1 (ledN (evalT cso cki cfa cfb cfc cva csn ao w (preT cso cki cfa cfb cfc cva csn csr cn cs ao on le w).1 cn) csr cs r) := if_pos hr
    have e2 : ledN (evalT cso cki cfa cfb cfc cva csn ao w (preT cso cki cfa cfb cfc cva csn csr cn cs ao on le w).1 cn) csr cs r = ledN (evalT cso cki cfa cfb cfc cva csn ao w (fun _ => 0) cn) csr cs r := by
      refine bN_cong fun i hi => ?_
      obtain ⟨_, _, _, _, _, _, _, b, _⟩ := hs i hi
      rw [evalT_can (g := fun _ => 0) (fun j hj e => (((h j hj).2.2.2.2.1 e).2.2.2.2)) (Nat.le_refl cn) _ b]
    rw [e1, lb_or ht, e2, lb_one (led_lt hcs) ht, Bool.or_eq_true, ih r t hr ht, decide_eq_true_eq]
    constructor
    · rintro (⟨way, hw, q⟩ | q)
      · exact ⟨way, by omega, q⟩
      · exact ⟨w, by omega, q.symm⟩
    · rintro ⟨way, hw, q⟩
      by_cases e : way = w
      · subst e; exact Or.inr q.symm
      · exact Or.inl ⟨way, by omega, q⟩
theorem trc_nx (h : JN cn ci cs cso cki cfa cfb cfc cva csn mso mwh mfi mse mth mpu) (hs : JS cn cs cso csn csd csl csb csr mno mlo mbe mre) (hcs : cs ≤ 6) {rs r y : Nat} (hrs : rs < 2 ^ cs) : trC mso mwh mfi mse mth mre mbe cn cs rs r y = nxT csb rs (toN mso mwh mfi mse mth mre cn cs r y) cs := by
  obtain ⟨w1, w2, w3, w4, w5, w6⟩ := wf_of h
  have hre : ∀ i, i < cs → mre i < cn := fun i hi => by
    obtain ⟨_, _, _, _, _, _, a, b, _⟩ := hs i hi
    rw [a]; exact b
  rw [nx_trc hcs (fun i hi => (hs i hi).2.2.2.2.2.1) (toN_lt w3 w4 hre hcs) hrs]
  unfold trC
  congr 1
  exact bN_cong fun i hi => by rw [(hs i hi).2.2.2.2.1]
theorem p64 (hcs : cs ≤ 6) : 2 ^ cs ≤ 64 := Nat.pow_le_pow_right (n := 2) (by omega) hcs
/-- one tick: the class's set of rows and the reference's -/
theorem step_eq (h : JN cn ci cs cso cki cfa cfb cfc cva csn mso mwh mfi mse mth mpu) (hs : JS cn cs cso csn csd csl csb csr mno mlo mbe mre) (hcs : cs ≤ 6) (hci : ct (inP cso) cn = ci) {ao : Bool} {on le : Nat → Int64} {rs : Nat} (hrs : rs < 2 ^ cs) {x : Int64} {S : Nat → Bool} (hS : ∀ r, r < 64 → S r = lbit x r) : ∀ t, t < 64 → stpF mpu (trC mso mwh mfi mse mth mre mbe cn cs rs) ao ci cs S t = lbit (aftF csb cs (preT cso cki cfa cfb cfc cva csn csr cn cs ao on le (2 ^ ct (opP cso cva ao) cn)).2 rs x) t := by
  intro t ht
  have h64 := p64 hcs
  apply ite_eqT
  rw [aftF_E hcs (fun i hi => (hs i hi).2.2.2.2.2.1) ht]
  show anyN _ (2 ^ ci) = true ↔ _
  rw [any_iff]
  constructor
  · rintro ⟨y, hy, q⟩
    simp only [Bool.and_eq_true] at q
    obtain ⟨q1, q2⟩ := q
    obtain ⟨r, hr, q3⟩ := any_iff.mp (show anyN _ (2 ^ cs) = true from q2)
    simp only [Bool.and_eq_true, decide_eq_true_eq] at q3
    obtain ⟨way, hw, ha⟩ := way_of h q1
    refine ⟨r, hr, (hS r (by omega)) ▸ q3.1, _, led_lt (csr := csr) (on := evalT cso cki cfa cfb cfc cva csn ao way (fun _ => 0) cn) (r := r) hcs, (pre_E h hs hcs _ r _ hr (led_lt hcs)).mpr ⟨way, hw, rfl⟩, ?_⟩
    rw [led_to h hs hcs ha (by omega), ← trc_nx h hs hcs hrs]
    exact q3.2
  · rintro ⟨r, hr, q1, u, hu, q2, q3⟩
    obtain ⟨way, hw, e⟩ := (pre_E h hs hcs _ r u hr hu).mp q2
    obtain ⟨y, hy, hp, ha⟩ := way_to h hci ao way
    refine ⟨y, hy, ?_⟩
    rw [hp, Bool.true_and]
    refine any_iff.mpr ⟨r, hr, ?_⟩
    rw [hS r (by omega), q1, Bool.true_and]
    refine decide_eq_true ?_
    rw [trc_nx h hs hcs hrs, ← led_to h hs hcs ha (by omega) (f := fun _ => 0), e]
    exact q3
theorem iter_eq (h : JN cn ci cs cso cki cfa cfb cfc cva csn mso mwh mfi mse mth mpu) (hs : JS cn cs cso csn csd csl csb csr mno mlo mbe mre) (hcs : cs ≤ 6) (hci : ct (inP cso) cn = ci) {ao : Bool} {on le : Nat → Int64} {rs : Nat} (hrs : rs < 2 ^ cs) {x : Int64} {S : Nat → Bool} (hS : ∀ r, r < 64 → S r = lbit x r) : ∀ n r, r < 64 → iterN (stpF mpu (trC mso mwh mfi mse mth mre mbe cn cs rs) ao ci cs) n S r = lbit (iterN (aftF csb cs (preT cso cki cfa cfb cfc cva csn csr cn cs ao on le (2 ^ ct (opP cso cva ao) cn)).2 rs) n x) r := by
  intro n
  induction n with
  | zero => exact hS
  | succ n ih => exact step_eq h hs hcs hci hrs ih
theorem settle_eq (h : JN cn ci cs cso cki cfa cfb cfc cva csn mso mwh mfi mse mth mpu) (hs : JS cn cs cso csn csd csl csb csr mno mlo mbe mre) (hcs : cs ≤ 6) (hci : ct (inP cso) cn = ci) {ao : Bool} {on le : Nat → Int64} {rs : Nat} (hrs : rs < 2 ^ cs) : ∀ (n t : Nat) (x : Int64) (S : Nat → Bool), (∀ r, r < 64 → S r = lbit x r) → ttoF (aftF csb cs (preT cso cki cfa cfb cfc cva csn csr cn cs ao on le (2 ^ ct (opP cso cva ao) cn)).2 rs) n t x = setG (stpF mpu (trC mso mwh mfi mse mth mre mbe cn cs rs) ao ci cs) n t S := by
  intro n
  induction n with
  | zero => intros; rfl
  | succ n ih =>
    intro t x S hS
    show (if bct x = 1 then nI t else _) = (if ct S 64 = 1 then nI t else _)
    rw [bct_ct hS, ih (t + 1) _ _ (step_eq h hs hcs hci hrs hS)]
theorem lv_eq (h : JN cn ci cs cso cki cfa cfb cfc cva csn mso mwh mfi mse mth mpu) (hs : JS cn cs cso csn csd csl csb csr mno mlo mbe mre) (hcs : cs ≤ 6) (hci : ct (inP cso) cn = ci) {ao : Bool} {on le : Nat → Int64} {rs n : Nat} (hrs : rs < 2 ^ cs) : bct (lvF (aftF csb cs (preT cso cki cfa cfb cfc cva csn csr cn cs ao on le (2 ^ ct (opP cso cva ao) cn)).2 rs) n (alR cs)) = ct (iterN (stpF mpu (trC mso mwh mfi mse mth mre mbe cn cs rs) ao ci cs) n (allP cs)) 64 := by
  rw [lvF_iter]
  exact bct_ct (iter_eq h hs hcs hci hrs (fun r hr => (lb_alR cs (by omega) r hr).symm) n)
/-- a row of the next tick is a row -/
theorem step_lt (h : JN cn ci cs cso cki cfa cfb cfc cva csn mso mwh mfi mse mth mpu) (hs : JS cn cs cso csn csd csl csb csr mno mlo mbe mre) (hcs : cs ≤ 6) {ao : Bool} {rs : Nat} (hrs : rs < 2 ^ cs) {S : Nat → Bool} {t : Nat} (hq : stpF mpu (trC mso mwh mfi mse mth mre mbe cn cs rs) ao ci cs S t = true) : t < 2 ^ cs := by
  obtain ⟨w1, w2, w3, w4, w5, w6⟩ := wf_of h
  have hre : ∀ i, i < cs → mre i < cn := fun i hi => by
    obtain ⟨_, _, _, _, _, _, a, b, _⟩ := hs i hi
    rw [a]; exact b
  obtain ⟨y, hy, q⟩ := any_iff.mp (show anyN _ (2 ^ ci) = true from hq)
  simp only [Bool.and_eq_true] at q
  obtain ⟨r, hr, q3⟩ := any_iff.mp (show anyN _ (2 ^ cs) = true from q.2)
  simp only [Bool.and_eq_true, decide_eq_true_eq] at q3
  rw [← q3.2]
  exact Nat.or_lt_two_pow (Nat.lt_of_le_of_lt Nat.and_le_left (toT_lt (fun i hi => worT_le w3 w4 (Nat.le_refl cn) _ (hre i hi)))) (bN_lt _ _)
theorem iter_lt (h : JN cn ci cs cso cki cfa cfb cfc cva csn mso mwh mfi mse mth mpu) (hs : JS cn cs cso csn csd csl csb csr mno mlo mbe mre) (hcs : cs ≤ 6) {ao : Bool} {rs : Nat} (hrs : rs < 2 ^ cs) {S : Nat → Bool} (hS : ∀ t, t < 64 → S t = true → t < 2 ^ cs) : ∀ n t, t < 64 → iterN (stpF mpu (trC mso mwh mfi mse mth mre mbe cn cs rs) ao ci cs) n S t = true → t < 2 ^ cs := by
  intro n
  cases n with
  | zero => exact hS
  | succ n => intro t _ q; exact step_lt h hs hcs hrs q
/-- by parts, tick by tick -/
theorem part_eq (h : JN cn ci cs cso cki cfa cfb cfc cva csn mso mwh mfi mse mth mpu) (hs : JS cn cs cso csn csd csl csb csr mno mlo mbe mre) {rs : Nat} {te ho pa : Nat → Nat} (hp : ∀ i, i < cs → pa i = ho i) : ∀ t i, i < cs → iterN (pstF mso mwh mfi mse mth mpu mbe mre cn cs rs) t pa i = (pasT cso cki cfa cfb cfc cva csn csb csr cn cs rs te ho t).2 i := by
  intro t
  induction t with
  | zero => exact hp
  | succ t ih =>
    intro i hi
    obtain ⟨_, _, _, _, a, _, b, c, _⟩ := hs i hi
    show (if i < cs then (if rs.testBit i = true then mbe i else _) else _) = (if i < cs then (if rs.testBit i = true then csb i else _) else _)
    rw [if_pos hi, if_pos hi, a, b, tel_par h ih (Nat.le_refl cn) _ c]
end ST
