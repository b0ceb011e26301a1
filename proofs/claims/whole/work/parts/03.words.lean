/-! The words in which contracts speak: counts, bits of a number, tables made node by node. And rows on ints that the walks need. -/
def ct (p : Nat → Bool) : Nat → Nat
  | 0 => 0
  | n + 1 => ct p n + (if p n = true then 1 else 0)
def bN (f : Nat → Bool) : Nat → Nat
  | 0 => 0
  | n + 1 => if f n = true then bN f n ||| 2 ^ n else bN f n
def isN (n : Nat) (x : Int32) : Bool := !decide (x < 0) && !decide (nI n ≤ x)
def mixF {α : Type} (g f : Nat → α) (i : Nat) : Nat → α := fun j => if j < i then g j else f j
def stP (csl : Nat → Nat) (li : Nat) : Nat → Bool := fun i => !decide (csl i = 4) && li.testBit (csl i)
def opP (cso cva : Nat → Nat) (ao : Bool) : Nat → Bool := fun j => decide (cso j = 0) && (ao || decide (cva j = 2))
def srcT (so fa fb fc sn f : Nat → Nat) : Nat → (Nat → Nat)
  | 0 => f
  | k + 1 => va_up (srcT so fa fb fc sn f k) k (if so k = 3 then 2 ^ sn k else if so k = 2 then (srcT so fa fb fc sn f k (fa k) ||| srcT so fa fb fc sn f k (fb k)) ||| srcT so fa fb fc sn f k (fc k) else 0)
def pgF (k a b c : Nat) : Nat :=
  if k = 0 then (if a = 2 then 2 else 1 - a)
  else if k = 1 then (if a = 0 then 0 else if b = 0 then 0 else if a = 1 then (if b = 1 then 1 else 2) else 2)
  else if k = 2 then (if a = 1 then 1 else if b = 1 then 1 else if a = 0 then (if b = 0 then 0 else 2) else 2)
  else if k = 3 then (if a = 2 then 2 else if b = 2 then 2 else a ^^^ b)
  else if a = 1 then b else if a = 0 then c else if b = c then b else 2
def telT (so ki fa fb fc va sn ho f : Nat → Nat) : Nat → (Nat → Nat)
  | 0 => f
  | k + 1 => va_up (telT so ki fa fb fc va sn ho f k) k (if so k = 2 then pgF (ki k) (telT so ki fa fb fc va sn ho f k (fa k)) (telT so ki fa fb fc va sn ho f k (fb k)) (telT so ki fa fb fc va sn ho f k (fc k)) else if so k = 3 then ho (sn k) else va k)
def rlx (gu : Bool) (w t : Nat → Int32) (k : Nat) : Nat → Int32 :=
  if w k = (-9) then t else if t (k / 4) = (-9) then t else if t (k % 4) = (-9) then va_up t (k / 4) (-9)
  else if t (k % 4) + w k ≤ t (k / 4) then t else va_up t (k / 4) (if gu = true then (-9) else t (k % 4) + w k)
def dlyT (gu : Bool) (w t : Nat → Int32) : Nat → (Nat → Int32)
  | 0 => t
  | k + 1 => rlx gu w (dlyT gu w t k) k
def rndT (gu : Bool) (w t : Nat → Int32) : Nat → (Nat → Int32)
  | 0 => t
  | k + 1 => dlyT gu w (rndT gu w t k) 16
theorem mix_up {α : Type} (g f : Nat → α) (i : Nat) (v : α) (h : v = g i) : va_up (mixF g f i) i v = mixF g f (i + 1) := by
  funext j
  by_cases h1 : j = i
  · simp [va_up, mixF, h1, h]
  · by_cases h2 : j < i
    · simp [va_up, mixF, h1, h2, show j < i + 1 by omega]
    · simp [va_up, mixF, h1, h2, show ¬ j < i + 1 by omega]
theorem mix_0 {α : Type} (g f : Nat → α) : mixF g f 0 = f := by
  funext j
  simp [mixF]
theorem rlx_k {gu : Bool} {w t : Nat → Int32} {a b : Nat} (hb : b < 4) : rlx gu w t (4 * a + b) = if w (4 * a + b) = (-9) then t else if t a = (-9) then t else if t b = (-9) then va_up t a (-9)
  else if t b + w (4 * a + b) ≤ t a then t else va_up t a (if gu = true then (-9) else t b + w (4 * a + b)) := by
  have h1 : (4 * a + b) / 4 = a := by omega
  have h2 : (4 * a + b) % 4 = b := by omega
  unfold rlx
  rw [h1, h2]
theorem fx_cmp0 (x y : Int64) : lg_cmp x y = 0 ↔ x = y := by
  unfold lg_cmp
  by_cases h1 : x > y
  · have h2 : ¬ x = y := by
      rintro rfl
      exact Int64.lt_irrefl h1
    rw [if_pos h1]
    exact ⟨fun h => absurd h (by decide), fun h => absurd h h2⟩
  · rw [if_neg h1]
    by_cases h2 : x = y
    · rw [if_pos h2]
      exact ⟨fun _ => h2, fun _ => rfl⟩
    · rw [if_neg h2]
      exact ⟨fun h => absurd h (by decide), fun h => absurd h h2⟩
theorem fx_andI (a b : Nat) : nI a &&& nI b = nI (a &&& b) := by
  apply Int32.toBitVec_inj.mp
  show BitVec.ofNat 32 a &&& BitVec.ofNat 32 b = BitVec.ofNat 32 (a &&& b)
  rw [BitVec.ofNat_and]
theorem fx_orI (a b : Nat) : nI a ||| nI b = nI (a ||| b) := by
  apply Int32.toBitVec_inj.mp
  show BitVec.ofNat 32 a ||| BitVec.ofNat 32 b = BitVec.ofNat 32 (a ||| b)
  rw [BitVec.ofNat_or]
theorem fx_xorI (a b : Nat) : nI a ^^^ nI b = nI (a ^^^ b) := by
  apply Int32.toBitVec_inj.mp
  show BitVec.ofNat 32 a ^^^ BitVec.ofNat 32 b = BitVec.ofNat 32 (a ^^^ b)
  rw [BitVec.ofNat_xor]
theorem fx_s : ∀ k, k < 32 → ((nI k &&& 31).toBitVec.smod 32).toNat = k := by decide
theorem fx_shl {a k : Nat} (hk : k < 32) : nI a <<< (nI k &&& 31) = nI (a <<< k) := by
  apply Int32.toBitVec_inj.mp
  show BitVec.ofNat 32 a <<< ((nI k &&& 31).toBitVec.smod 32) = BitVec.ofNat 32 (a <<< k)
  rw [show BitVec.ofNat 32 a <<< ((nI k &&& 31).toBitVec.smod 32) = BitVec.ofNat 32 a <<< ((nI k &&& 31).toBitVec.smod 32).toNat from rfl, fx_s k hk]
  apply BitVec.eq_of_toNat_eq
  simp [BitVec.toNat_shiftLeft, Nat.shiftLeft_eq]
theorem fx_shl1 {k : Nat} (hk : k < 32) : nI 1 <<< (nI k &&& 31) = nI (2 ^ k) := by
  rw [fx_shl hk, Nat.one_shiftLeft]
theorem fx_shr {a k : Nat} (ha : a < 2 ^ 31) (hk : k < 32) : nI a >>> (nI k &&& 31) = nI (a >>> k) := by
  rw [pk_shrN ha (nI k &&& 31) k (fx_s k hk), Nat.shiftRight_eq_div_pow]
theorem tb_0 {a k : Nat} : (a >>> k) &&& 1 = 0 ↔ a.testBit k = false := by
  simp [Nat.testBit, Nat.and_comm]
theorem tb_n0 {a k : Nat} : ¬ (a >>> k) &&& 1 = 0 ↔ a.testBit k = true := by
  rw [tb_0]; simp
theorem lI_9 {k : Nat} (hk : k < 2 ^ 31) : lI k = (-9) ↔ k = 4 := by
  unfold lI
  by_cases h : k = 4
  · simp [h]
  · rw [if_neg h]
    refine ⟨fun e => ?_, fun e => absurd e h⟩
    have a := nI_toInt hk
    rw [e] at a
    have : ((-9 : Int32)).toInt = -9 := by decide
    omega
theorem lI_eq {a b : Nat} (ha : a < 2 ^ 31) (hb : b < 2 ^ 31) : lI a = lI b ↔ a = b := by
  by_cases h : b = 4
  · subst h
    rw [show lI 4 = (-9) from rfl]
    exact lI_9 ha
  · by_cases h2 : a = 4
    · subst h2
      rw [show lI 4 = (-9) from rfl]
      refine ⟨fun e => ((lI_9 hb).mp e.symm).symm, fun e => by rw [← e]; rfl⟩
    · unfold lI
      rw [if_neg h, if_neg h2]
      exact nI_eq ha hb
theorem bI_s1 {b : Bool} (h : b = true) : some (Value.int (bI b)) = some (Value.int (nI 1)) := by rw [h]; rfl
theorem bI_s0 {b : Bool} (h : b = false) : some (Value.int (bI b)) = some (Value.int (nI 0)) := by rw [h]; rfl
theorem isN_nI {n k : Nat} (hn : n < 2 ^ 31) (hk : k < 2 ^ 31) : isN n (nI k) = decide (k < n) := by
  unfold isN
  have h1 : decide (nI k < 0) = false := decide_eq_false (nI_pos hk)
  by_cases h : k < n
  · have h2 : decide (nI n ≤ nI k) = false := decide_eq_false (nI_ge h hn)
    rw [h1, h2]; simp [h]
  · have h2 : decide (nI n ≤ nI k) = true := decide_eq_true (nI_le (by omega) hk)
    rw [h2]; simp [h]
theorem isN_t {n : Nat} {x : Int32} (hn : n < 2 ^ 31) (h : isN n x = true) : ∃ k, k < n ∧ x = nI k := by
  unfold isN at h
  simp only [Bool.and_eq_true, Bool.not_eq_true', decide_eq_false_iff_not] at h
  rcases pk_ix x hn with h1 | h1 | h1
  · exact absurd h1 h.1
  · exact absurd h1 h.2
  · exact h1
theorem fx_max {a b : Nat} (ha : a < 2 ^ 31) (hb : b < 2 ^ 31) : (if nI a < nI b then nI b else nI a) = nI (max a b) := by
  by_cases h : a < b
  · rw [if_pos ((nI_ltI ha hb).mpr h), Nat.max_eq_right (by omega)]
  · rw [if_neg (fun q => h ((nI_ltI ha hb).mp q)), Nat.max_eq_left (by omega)]
theorem telT_lt (so ki fa fb fc va sn ho f : Nat → Nat) : ∀ (n j : Nat), n ≤ j → telT so ki fa fb fc va sn ho f n j = f j := by
  intro n
  induction n with
  | zero => intro j _; rfl
  | succ k ih =>
    intro j hj
    show (if j = k then _ else telT so ki fa fb fc va sn ho f k j) = f j
    rw [if_neg (by omega), ih j (by omega)]
theorem pgF_le {k a b c : Nat} (ha : a ≤ 2) (hb : b ≤ 2) (hc : c ≤ 2) : pgF k a b c ≤ 2 := by
  unfold pgF
  have h : ∀ x, x ≤ 1 → ∀ y, y ≤ 1 → x ^^^ y ≤ 2 := by decide
  split
  · split <;> omega
  split
  · split <;> (try split) <;> (try split) <;> (try split) <;> omega
  split
  · split <;> (try split) <;> (try split) <;> (try split) <;> omega
  split
  · split
    · omega
    · split
      · omega
      · exact h a (by omega) b (by omega)
  · split <;> (try split) <;> (try split) <;> omega
theorem telT_le {so ki fa fb fc va sn ho f : Nat → Nat} {n : Nat} (h1 : ∀ j, j < n → so j ≤ 3 ∧ ki j ≤ 4 ∧ va j ≤ 2) (h2 : ∀ j, j < n → so j = 2 → fa j < j ∧ fb j < j ∧ fc j < j) (h3 : ∀ j, j < n → so j = 3 → sn j < 6) (h4 : ∀ j, j < 6 → ho j ≤ 2) {m : Nat} (hm : m ≤ n) : ∀ j, j < m → telT so ki fa fb fc va sn ho f m j ≤ 2 := by
  induction m with
  | zero => intro j hj; omega
  | succ k ih =>
    have ih := ih (by omega)
    intro j hj
    show (if j = k then _ else telT so ki fa fb fc va sn ho f k j) ≤ 2
    by_cases e : j = k
    · rw [if_pos e]
      by_cases g : so k = 2
      · rw [if_pos g]
        have q := h2 k (by omega) g
        exact pgF_le (ih _ q.1) (ih _ q.2.1) (ih _ q.2.2)
      · rw [if_neg g]
        by_cases g3 : so k = 3
        · rw [if_pos g3]
          exact h4 _ (h3 k (by omega) g3)
        · rw [if_neg g3]
          exact (h1 k (by omega)).2.2
    · rw [if_neg e]
      exact ih j (by omega)
theorem ct_le (p : Nat → Bool) : ∀ n, ct p n ≤ n := by
  intro n
  induction n with
  | zero => exact Nat.le_refl _
  | succ n ih =>
    show ct p n + _ ≤ n + 1
    split <;> omega
theorem ct_op (so va : Nat → Nat) (ao : Bool) : ∀ n, ct (opP so va ao) n ≤ ct (fun j => decide (so j = 0)) n := by
  intro n
  induction n with
  | zero => exact Nat.le_refl _
  | succ n ih =>
    show ct (opP so va ao) n + _ ≤ ct (fun j => decide (so j = 0)) n + _
    by_cases h : so n = 0
    · simp only [opP, h, decide_true, Bool.true_and, if_true]
      split <;> omega
    · simp only [opP, h, decide_false, Bool.false_and, if_false, Bool.false_eq_true]
      omega
theorem bN_lt (f : Nat → Bool) : ∀ n, bN f n < 2 ^ n := by
  intro n
  induction n with
  | zero => exact Nat.one_pos
  | succ n ih =>
    show (if f n = true then bN f n ||| 2 ^ n else bN f n) < 2 ^ (n + 1)
    split
    · exact Nat.or_lt_two_pow (by rw [Nat.pow_succ]; omega) (by rw [Nat.pow_succ]; have := Nat.two_pow_pos n; omega)
    · rw [Nat.pow_succ]; omega
theorem lI_lt {k : Nat} (h : k < 4) : lI k = nI k := by
  unfold lI
  rw [if_neg (by omega)]
theorem b_and1 (a : Nat) : a &&& 1 < 2 ^ 31 := Nat.lt_of_le_of_lt Nat.and_le_right (by decide)
theorem b_andr (a : Nat) {b : Nat} (h : b < 2 ^ 31) : a &&& b < 2 ^ 31 := Nat.lt_of_le_of_lt Nat.and_le_right h
theorem b_ct (p : Nat → Bool) (n : Nat) (h : n < 2 ^ 31) : ct p n < 2 ^ 31 := Nat.lt_of_le_of_lt (ct_le p n) h
theorem pgF_1 {a b c : Nat} (h1 : ¬ a = 0) (h2 : ¬ b = 0) (h3 : a ≤ 2) (h4 : b ≤ 2) : pgF 1 a b c = max a b := by
  rcases (show a = 1 ∨ a = 2 by omega) with rfl | rfl <;> rcases (show b = 1 ∨ b = 2 by omega) with rfl | rfl <;> rfl
theorem pgF_2 {a b c : Nat} (h1 : ¬ a = 1) (h2 : ¬ b = 1) (h3 : a ≤ 2) (h4 : b ≤ 2) : pgF 2 a b c = max a b := by
  rcases (show a = 0 ∨ a = 2 by omega) with rfl | rfl <;> rcases (show b = 0 ∨ b = 2 by omega) with rfl | rfl <;> rfl
