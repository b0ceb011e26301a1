/-! Bits of longs and of numbers; counts. -/
theorem lb_bv {x : Int64} {r : Nat} (hr : r < 64) : lbit x r = x.toBitVec.getLsbD r := by
  obtain ⟨n, hn, rfl⟩ := lN_of x
  rw [lbit_N hn hr, lN_tb, BitVec.getLsbD_ofNat]
  simp [hr]
theorem lb_ext {x y : Int64} (h : ∀ r, r < 64 → lbit x r = lbit y r) : x = y := by
  apply Int64.toBitVec_inj.mp
  apply BitVec.eq_of_getLsbD_eq
  intro i hi
  rw [← lb_bv hi, ← lb_bv hi]
  exact h i hi
theorem lb_or {x y : Int64} {r : Nat} (hr : r < 64) : lbit (x ||| y) r = (lbit x r || lbit y r) := by
  rw [lb_bv hr, lb_bv hr, lb_bv hr, Int64.toBitVec_or, BitVec.getLsbD_or]
theorem lb_and {x y : Int64} {r : Nat} (hr : r < 64) : lbit (x &&& y) r = (lbit x r && lbit y r) := by
  rw [lb_bv hr, lb_bv hr, lb_bv hr, Int64.toBitVec_and, BitVec.getLsbD_and]
theorem lb_xor {x y : Int64} {r : Nat} (hr : r < 64) : lbit (x ^^^ y) r = (lbit x r ^^ lbit y r) := by
  rw [lb_bv hr, lb_bv hr, lb_bv hr, Int64.toBitVec_xor, BitVec.getLsbD_xor]
theorem lb_0 : ∀ r, r < 64 → lbit 0 r = false := by decide +kernel
theorem lb_m1 : ∀ r, r < 64 → lbit (-1) r = true := by decide +kernel
theorem lb_not {x : Int64} {r : Nat} (hr : r < 64) : lbit (x ^^^ (-1)) r = !lbit x r := by
  rw [lb_xor hr, lb_m1 r hr]
  simp
theorem lb_c : ∀ k, k < 64 → ((nI k).toInt64 &&& 63) = lN k := by decide +kernel
theorem lb_sm : ∀ k, k < 64 → (BitVec.ofNat 64 k).smod 64 = BitVec.ofNat 64 k := by decide +kernel
theorem shL_N (n : Nat) {k : Nat} (hk : k < 64) : shL (lN n) k = lN (n * 2 ^ k) := by
  unfold shL
  rw [lb_c k hk]
  apply Int64.toBitVec_inj.mp
  rw [Int64.toBitVec_shiftLeft, lN_tb, lN_tb, lN_tb, lb_sm k hk]
  apply BitVec.eq_of_toNat_eq
  rw [BitVec.shiftLeft_eq', BitVec.toNat_shiftLeft, BitVec.toNat_ofNat, BitVec.toNat_ofNat, BitVec.toNat_ofNat, Nat.mod_eq_of_lt (show k < 2 ^ 64 by omega), Nat.shiftLeft_eq, Nat.mul_mod, Nat.mod_mod, ← Nat.mul_mod]
theorem lb_N {n r : Nat} (hr : r < 64) : lbit (lN n) r = n.testBit r := by
  rw [lb_bv hr, lN_tb, BitVec.getLsbD_ofNat]
  simp [hr]
theorem lb_shl {x : Int64} {k t : Nat} (hk : k < 64) (ht : t < 64) : lbit (shL x k) t = (decide (k ≤ t) && lbit x (t - k)) := by
  obtain ⟨n, hn, rfl⟩ := lN_of x
  rw [shL_N n hk, lb_N ht, lb_N (by omega), ← Nat.shiftLeft_eq, Nat.testBit_shiftLeft]
theorem lb_ush {x : Int64} {k t : Nat} (hk : k < 64) (ht : t < 64) : lbit (ushL x k) t = (decide (t + k < 64) && lbit x (t + k)) := by
  obtain ⟨n, hn, rfl⟩ := lN_of x
  rw [ushL_N hn hk, lb_N ht, Nat.testBit_div_two_pow]
  by_cases h : t + k < 64
  · rw [lb_N h]
    simp [h]
  · rw [Nat.testBit_lt_two_pow (Nat.lt_of_lt_of_le hn (Nat.pow_le_pow_right (by omega) (show 64 ≤ t + k by omega)))]
    simp [h]
theorem lb_pos {x : Int64} : ¬ x = 0 ↔ ∃ r, r < 64 ∧ lbit x r = true := by
  constructor
  · intro h
    refine Classical.byContradiction fun q => h (lb_ext fun r hr => ?_)
    rw [lb_0 r hr]
    cases e : lbit x r with
    | false => rfl
    | true => exact absurd ⟨r, hr, e⟩ q
  · rintro ⟨r, hr, h⟩ rfl
    rw [lb_0 r hr] at h
    cases h
theorem lb_one {k t : Nat} (hk : k < 64) (ht : t < 64) : lbit (shL 1 k) t = decide (t = k) := by
  rw [show (1 : Int64) = lN 1 from rfl, shL_N 1 hk, lb_N ht, Nat.one_mul, Nat.testBit_two_pow]
  exact decide_eq_decide.mpr ⟨fun h => h.symm, fun h => h.symm⟩
theorem lb_hold : ∀ i, i < 6 → ∀ r, r < 64 → lbit (holdL i) r = r.testBit i := by decide +kernel
theorem lb_alR : ∀ c, c < 7 → ∀ r, r < 64 → lbit (alR c) r = decide (r < 2 ^ c) := by decide +kernel
theorem bN_tb (f : Nat → Bool) : ∀ n j, (bN f n).testBit j = (decide (j < n) && f j) := by
  intro n
  induction n with
  | zero => intro j; simp [bN]
  | succ n ih =>
    intro j
    show (if f n = true then bN f n ||| 2 ^ n else bN f n).testBit j = _
    by_cases h : f n = true
    · rw [if_pos h, Nat.testBit_or, ih, Nat.testBit_two_pow]
      by_cases e : n = j
      · subst e; simp [h]
      · by_cases q : j < n
        · simp [e, q, show j < n + 1 by omega]
        · simp [e, q, show ¬ j < n + 1 by omega]
    · rw [if_neg h, ih]
      by_cases e : n = j
      · subst e; simp [h]
      · by_cases q : j < n
        · simp [q, show j < n + 1 by omega]
        · simp [q, show ¬ j < n + 1 by omega]
theorem bN_cong {f g : Nat → Bool} : ∀ {n : Nat}, (∀ i, i < n → f i = g i) → bN f n = bN g n := by
  intro n
  induction n with
  | zero => intro _; rfl
  | succ n ih =>
    intro h
    show (if f n = true then bN f n ||| 2 ^ n else bN f n) = (if g n = true then bN g n ||| 2 ^ n else bN g n)
    rw [ih (fun i hi => h i (by omega)), h n (by omega)]
theorem tb_hi {a n j : Nat} (h : a < 2 ^ n) (hj : n ≤ j) : a.testBit j = false := Nat.testBit_lt_two_pow (Nat.lt_of_lt_of_le h (Nat.pow_le_pow_right (by omega) hj))
theorem tb_ext {a b n : Nat} (ha : a < 2 ^ n) (hb : b < 2 ^ n) (h : ∀ j, j < n → a.testBit j = b.testBit j) : a = b := by
  apply Nat.eq_of_testBit_eq
  intro j
  by_cases q : j < n
  · exact h j q
  · rw [tb_hi ha (by omega), tb_hi hb (by omega)]
theorem any_iff {P : Nat → Bool} : ∀ {n : Nat}, anyN P n = true ↔ ∃ i, i < n ∧ P i = true := by
  intro n
  induction n with
  | zero => simp [anyN]
  | succ n ih =>
    show (anyN P n || P n) = true ↔ _
    rw [Bool.or_eq_true, ih]
    constructor
    · rintro (⟨i, hi, h⟩ | h)
      · exact ⟨i, by omega, h⟩
      · exact ⟨n, by omega, h⟩
    · rintro ⟨i, hi, h⟩
      by_cases e : i = n
      · subst e; exact Or.inr h
      · exact Or.inl ⟨i, by omega, h⟩
theorem ct_mono (p : Nat → Bool) {a : Nat} : ∀ {b : Nat}, a ≤ b → ct p a ≤ ct p b := by
  intro b
  induction b with
  | zero => intro h; rw [show a = 0 by omega]; exact Nat.le_refl _
  | succ b ih =>
    intro h
    show ct p a ≤ ct p b + _
    by_cases e : a = b + 1
    · subst e; exact Nat.le_refl _
    · have := ih (by omega)
      omega
theorem ct_lt {p : Nat → Bool} {a b : Nat} (h : a < b) (hp : p a = true) : ct p a < ct p b := by
  have h1 : ct p (a + 1) = ct p a + 1 := by
    show ct p a + (if p a = true then 1 else 0) = _
    rw [if_pos hp]
  have h2 := ct_mono p (show a + 1 ≤ b by omega)
  omega
theorem ct_inj {p : Nat → Bool} {a b : Nat} (ha : p a = true) (hb : p b = true) (e : ct p a = ct p b) : a = b := by
  rcases Nat.lt_trichotomy a b with h | h | h
  · have := ct_lt h ha; omega
  · exact h
  · have := ct_lt h hb; omega
theorem ct_kth {p : Nat → Bool} {k : Nat} : ∀ {n : Nat}, k < ct p n → ∃ i, i < n ∧ p i = true ∧ ct p i = k := by
  intro n
  induction n with
  | zero => intro h; exact absurd h (Nat.not_lt_zero k)
  | succ n ih =>
    intro h
    by_cases q : k < ct p n
    · obtain ⟨i, h1, h2⟩ := ih q
      exact ⟨i, by omega, h2⟩
    · have h' : k < ct p n + (if p n = true then 1 else 0) := h
      by_cases hp : p n = true
      · rw [if_pos hp] at h'
        exact ⟨n, by omega, hp, by omega⟩
      · rw [if_neg hp] at h'
        omega
theorem ite_eqT {b c : Bool} (h : b = true ↔ c = true) : b = c := Bool.eq_iff_iff.mpr h
-- one store set to its begin
def sbF (v k u : Nat) : Nat := (u &&& (63 ^^^ 2 ^ k)) ||| v <<< k
theorem sb_1 : ∀ k, k < 6 → ∀ v, v < 2 → ∀ t, t < 64 → t.testBit k = decide (v = 1) → sbF v k t = t ∧ sbF v k (t ^^^ 2 ^ k) = t ∧ t ^^^ 2 ^ k < 64 := by decide +kernel
theorem sb_2 : ∀ k, k < 6 → ∀ v, v < 2 → ∀ u, u < 64 → (sbF v k u).testBit k = decide (v = 1) ∧ sbF v k u < 64 ∧ (u = sbF v k u ∨ u = sbF v k u ^^^ 2 ^ k) := by decide +kernel
theorem sb_x1 : ∀ k, k < 6 → ∀ t, t < 64 → t.testBit k = true → 2 ^ k ≤ t ∧ t ^^^ 2 ^ k = t - 2 ^ k := by decide +kernel
theorem sb_x0 : ∀ k, k < 6 → ∀ t, t < 64 → t.testBit k = false → t ^^^ 2 ^ k = t + 2 ^ k ∧ t + 2 ^ k < 64 := by decide +kernel
/-- the set of rows with one store set to its begin -/
theorem lb_beg {v k : Nat} (hv : v < 2) (hk : k < 6) {x : Int64} {t : Nat} (ht : t < 64) : lbit (begL v k x) t = (decide (t.testBit k = decide (v = 1)) && (lbit x t || lbit x (t ^^^ 2 ^ k))) := by
  have h2 : (2 : Nat) ^ k < 64 := Nat.lt_of_lt_of_le (Nat.pow_lt_pow_right (by omega) hk) (Nat.le_refl (2 ^ 6))
  unfold begL
  by_cases e : v = 1
  · rw [if_pos e, lb_and ht, lb_or ht, lb_shl h2 ht, lb_hold k hk t ht]
    cases b : t.testBit k with
    | false => simp [e]
    | true =>
      obtain ⟨q1, q2⟩ := sb_x1 k hk t ht b
      rw [q2]
      simp [e, q1]
  · rw [if_neg e, lb_and ht, lb_or ht, lb_ush h2 ht, lb_not ht, lb_hold k hk t ht]
    cases b : t.testBit k with
    | true => simp [e]
    | false =>
      obtain ⟨q1, q2⟩ := sb_x0 k hk t ht b
      rw [q1]
      simp [e, q2]
theorem lb_begE {v k : Nat} (hv : v < 2) (hk : k < 6) {x : Int64} {t : Nat} (ht : t < 64) : lbit (begL v k x) t = true ↔ ∃ u, u < 64 ∧ lbit x u = true ∧ sbF v k u = t := by
  rw [lb_beg hv hk ht]
  constructor
  · intro h
    simp only [Bool.and_eq_true, decide_eq_true_eq, Bool.or_eq_true] at h
    obtain ⟨h1, h2⟩ := h
    obtain ⟨q1, q2, q3⟩ := sb_1 k hk v hv t ht h1
    rcases h2 with h2 | h2
    · exact ⟨t, ht, h2, q1⟩
    · exact ⟨_, q3, h2, q2⟩
  · rintro ⟨u, hu, h1, rfl⟩
    obtain ⟨q1, q2, q3⟩ := sb_2 k hk v hv u hu
    rw [q1]
    rcases q3 with q3 | q3
    · rw [← q3, h1]; simp
    · rw [← q3, h1]; simp
theorem begT_E {be : Nat → Nat} {rs : Nat} {x : Int64} {n : Nat} (hn : n ≤ 6) (hbe : ∀ i, i < n → be i ≤ 1) : ∀ t, t < 64 → (lbit (begT be rs x n) t = true ↔ ∃ u, u < 64 ∧ lbit x u = true ∧ nxT be rs u n = t) := by
  induction n with
  | zero =>
    intro t ht
    constructor
    · intro h; exact ⟨t, ht, h, rfl⟩
    · rintro ⟨u, hu, h, rfl⟩; exact h
  | succ n ih =>
    have ih := ih (by omega) (fun i hi => hbe i (by omega))
    have hb := hbe n (by omega)
    intro t ht
    show lbit (if rs.testBit n = true then begL (be n) n (begT be rs x n) else begT be rs x n) t = true ↔ ∃ u, u < 64 ∧ lbit x u = true ∧ (if rs.testBit n = true then (nxT be rs u n &&& (63 ^^^ 2 ^ n)) ||| be n <<< n else nxT be rs u n) = t
    by_cases e : rs.testBit n = true
    · simp only [if_pos e]
      rw [lb_begE (by omega) (by omega) ht]
      constructor
      · rintro ⟨w, hw, h1, h2⟩
        obtain ⟨u, hu, h3, h4⟩ := (ih w hw).mp h1
        exact ⟨u, hu, h3, by rw [h4]; exact h2⟩
      · rintro ⟨u, hu, h3, h4⟩
        have hw := nxT_lt (rs := rs) (fun i hi => hbe i (show i < n + 1 by omega)) (show n ≤ 6 by omega) hu
        exact ⟨nxT be rs u n, hw, (ih _ hw).mpr ⟨u, hu, h3, rfl⟩, h4⟩
    · simp only [if_neg e]
      exact ih t ht
theorem orT_E {x : Int64} {le : Nat → Int64} : ∀ (n t : Nat), t < 64 → (lbit (orT x le n) t = true ↔ ∃ r, r < n ∧ lbit x r = true ∧ lbit (le r) t = true) := by
  intro n
  induction n with
  | zero => intro t ht; rw [show orT x le 0 = 0 from rfl, lb_0 t ht]; simp
  | succ n ih =>
    intro t ht
    show lbit (if lbit x n = true then orT x le n ||| le n else orT x le n) t = true ↔ _
    by_cases e : lbit x n = true
    · rw [if_pos e, lb_or ht, Bool.or_eq_true, ih t ht]
      constructor
      · rintro (⟨r, hr, h1, h2⟩ | h)
        · exact ⟨r, by omega, h1, h2⟩
        · exact ⟨n, by omega, e, h⟩
      · rintro ⟨r, hr, h1, h2⟩
        by_cases q : r = n
        · subst q; exact Or.inr h2
        · exact Or.inl ⟨r, by omega, h1, h2⟩
    · rw [if_neg e, ih t ht]
      constructor
      · rintro ⟨r, hr, h1, h2⟩
        exact ⟨r, by omega, h1, h2⟩
      · rintro ⟨r, hr, h1, h2⟩
        by_cases q : r = n
        · subst q; exact absurd h1 e
        · exact ⟨r, by omega, h1, h2⟩
theorem aftF_E {be : Nat → Nat} {cs rs : Nat} {le : Nat → Int64} {x : Int64} (hcs : cs ≤ 6) (hbe : ∀ i, i < cs → be i ≤ 1) {t : Nat} (ht : t < 64) : lbit (aftF be cs le rs x) t = true ↔ ∃ r, r < 2 ^ cs ∧ lbit x r = true ∧ ∃ u, u < 64 ∧ lbit (le r) u = true ∧ nxT be rs u cs = t := by
  unfold aftF
  rw [begT_E hcs hbe t ht]
  constructor
  · rintro ⟨u, hu, h1, h2⟩
    obtain ⟨r, hr, h3, h4⟩ := (orT_E _ u hu).mp h1
    exact ⟨r, hr, h3, u, hu, h4, h2⟩
  · rintro ⟨r, hr, h3, u, hu, h4, h2⟩
    exact ⟨u, hu, (orT_E _ u hu).mpr ⟨r, hr, h3, h4⟩, h2⟩
theorem nx_tb {be : Nat → Nat} {rs v : Nat} {n : Nat} (hn : n ≤ 6) (hbe : ∀ i, i < n → be i ≤ 1) (hv : v < 64) : ∀ j, j < 6 → (nxT be rs v n).testBit j = if j < n ∧ rs.testBit j = true then decide (be j = 1) else v.testBit j := by
  induction n with
  | zero => intro j _; simp [nxT]
  | succ n ih =>
    have ih := ih (by omega) (fun i hi => hbe i (by omega))
    have hb := hbe n (by omega)
    intro j hj
    show (if rs.testBit n = true then (nxT be rs v n &&& (63 ^^^ 2 ^ n)) ||| be n <<< n else nxT be rs v n).testBit j = _
    have hw := nxT_lt (rs := rs) (fun i hi => hbe i (show i < n + 1 by omega)) (show n ≤ 6 by omega) hv
    by_cases e : rs.testBit n = true
    · rw [if_pos e, Nat.testBit_or, Nat.testBit_and, Nat.testBit_xor, ih j hj, Nat.testBit_shiftLeft, Nat.testBit_two_pow]
      have h63 : (63 : Nat).testBit j = true := by
        rcases (show j = 0 ∨ j = 1 ∨ j = 2 ∨ j = 3 ∨ j = 4 ∨ j = 5 by omega) with rfl | rfl | rfl | rfl | rfl | rfl <;> decide
      rw [h63]
      by_cases q : n = j
      · subst q
        rcases (show be n = 0 ∨ be n = 1 by omega) with b | b <;> simp [e, b]
      · have q2 : (decide (j ≥ n) && (be n).testBit (j - n)) = false := by
          by_cases g : j ≥ n
          · rw [tb_hi (n := 1) (by omega) (by omega)]; simp
          · simp [g]
        rw [q2]
        by_cases g : j < n
        · simp [q, g, show j < n + 1 by omega]
        · simp [q, g, show ¬ j < n + 1 by omega]
    · rw [if_neg e, ih j hj]
      by_cases q : n = j
      · subst q; simp [e]
      · by_cases g : j < n
        · simp [g, show j < n + 1 by omega]
        · simp [g, show ¬ j < n + 1 by omega]
theorem tb63 : ∀ j, j < 6 → (63 : Nat).testBit j = true := by decide
/-- the row to which resets lead, as the reference writes it -/
theorem nx_trc {be : Nat → Nat} {rs v n : Nat} (hn : n ≤ 6) (hbe : ∀ i, i < n → be i ≤ 1) (hv : v < 64) (hrs : rs < 2 ^ n) : nxT be rs v n = (v &&& (63 ^^^ rs)) ||| bN (fun i => rs.testBit i && decide (be i = 1)) n := by
  apply tb_ext (n := 6) (nxT_lt hbe hn hv) (trg_lt hn hv)
  intro j hj
  rw [nx_tb hn hbe hv j hj, Nat.testBit_or, Nat.testBit_and, Nat.testBit_xor, bN_tb, tb63 j hj]
  by_cases q : j < n
  · cases e : rs.testBit j <;> simp [q]
  · rw [tb_hi hrs (by omega)]
    simp [q]
theorem nx_cls {be : Nat → Nat} {rs v n : Nat} (hn : n ≤ 6) (hbe : ∀ i, i < n → be i ≤ 1) (hv : v < 64) (hrs : rs < 2 ^ n) : (v &&& (63 ^^^ rs)) ||| (bN (fun i => decide (be i = 1)) n &&& rs) = nxT be rs v n := by
  rw [nx_trc hn hbe hv hrs]
  congr 1
  apply Nat.eq_of_testBit_eq
  intro j
  rw [Nat.testBit_and, bN_tb, bN_tb]
  by_cases q : j < n
  · cases rs.testBit j <;> simp [q]
  · simp [q]
