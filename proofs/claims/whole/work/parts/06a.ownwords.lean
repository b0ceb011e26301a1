/-! The words of FirstStates' own methods, as its code says them. -/
def bitB (x : Int32) : Bool := decide (x = 0) || decide (x = nI 1)
def tickB (x : Int32) : Bool := !decide (x < nI 1) && !decide (nI 64 < x)
def clr (xli k : Nat) : Nat := xli &&& (15 ^^^ 2 ^ k)
def iterN {α : Type} (f : α → α) : Nat → α → α
  | 0, x => x
  | n + 1, x => f (iterN f n x)
def pasT (so ki fa fb fc va sn sb sr : Nat → Nat) (cn cs rs : Nat) (te ho : Nat → Nat) : Nat → (Nat → Nat) × (Nat → Nat)
  | 0 => (te, ho)
  | t + 1 => (telT so ki fa fb fc va sn (pasT so ki fa fb fc va sn sb sr cn cs rs te ho t).2 (pasT so ki fa fb fc va sn sb sr cn cs rs te ho t).1 cn,
      mixF (fun i => if rs.testBit i = true then sb i else telT so ki fa fb fc va sn (pasT so ki fa fb fc va sn sb sr cn cs rs te ho t).2 (pasT so ki fa fb fc va sn sb sr cn cs rs te ho t).1 cn (sr i)) (pasT so ki fa fb fc va sn sb sr cn cs rs te ho t).2 cs)
def rowF (x : Int64) : Nat → Nat → Nat → Int32
  | 0, _, _ => (-9)
  | n + 1, r, left => if lbit x r = true then (if left = 0 then nI r else rowF x n (r + 1) (left - 1)) else rowF x n (r + 1) left
def abA (so ki sn sl sb sr : Nat → Nat) (k w : Nat) : Int32 :=
  if w = 0 then nI (so k) else if w = 1 then (if so k = 2 then nI (ki k) else (-9))
  else if so k = 3 then (if w = 2 then lI (sl (sn k)) else if w = 3 then nI (sb (sn k)) else nI (sr (sn k))) else (-9)
def crP (sl sr sc : Nat → Nat) (a b : Nat) : Bool := !decide (sl a = sl b) && (sc (sr b)).testBit a
def sm2 (f : Nat → Nat → Bool) (cs : Nat) : Nat → Nat
  | 0 => 0
  | a + 1 => sm2 f cs a + ct (f a) cs
def crI (f : Nat → Bool) (v : Nat → Int32) : Nat → Nat → Nat → Int32 ⊕ Nat
  | 0, _, left => .inr left
  | n + 1, b, left => if f b = true then (if left = 0 then .inl (v b) else crI f v n (b + 1) (left - 1)) else crI f v n (b + 1) left
def crO (f : Nat → Nat → Bool) (v : Nat → Nat → Int32) (cs : Nat) : Nat → Nat → Nat → Int32
  | 0, _, _ => (-9)
  | n + 1, a, left => match crI (f a) (v a) cs 0 left with
    | .inl r => r
    | .inr z => crO f v cs n (a + 1) z
def meI (P : Nat → Bool) : Nat → Nat → Option Nat
  | 0, _ => none
  | n + 1, k => if P k = true then some k else meI P n (k + 1)
def meO (P : Nat → Nat → Bool) (rows : Nat) : Nat → Nat → Int32
  | 0, _ => (-9)
  | n + 1, z => match meI (P z) rows 0 with
    | some k => nI k
    | none => meO P rows n (z + 1)
def goneP (t : Nat → Int32) (x : Int32) (l : Nat) : Bool := !decide (t l = (-9)) && !decide (x < t l)
theorem bitB_nI {v : Nat} (h : v ≤ 1) : bitB (nI v) = true := by
  rcases (show v = 0 ∨ v = 1 by omega) with rfl | rfl <;> decide
theorem bitB_n2 : bitB (nI 2) = false := by decide
theorem tickB_nI : ∀ n : Nat, n ≤ 64 → 1 ≤ n → tickB (nI n) = true := by decide
theorem tickB_t {x : Int32} (h : tickB x = true) : ∃ n, 1 ≤ n ∧ n ≤ 64 ∧ x = nI n := by
  unfold tickB at h
  simp only [Bool.and_eq_true, Bool.not_eq_true', decide_eq_false_iff_not] at h
  obtain ⟨h1, h2⟩ := h
  have e1 : (nI 1).toInt = 1 := by decide
  have e2 : (nI 64).toInt = 64 := by decide
  rw [Int32.lt_iff_toInt_lt, e1] at h1
  rw [Int32.lt_iff_toInt_lt, e2] at h2
  obtain ⟨j, hj, rfl⟩ := nI_of (x := x) (by rw [Int32.lt_iff_toInt_lt, Int32.toInt_zero]; omega)
  rw [nI_toInt hj] at h1 h2
  exact ⟨j, by omega, by omega, rfl⟩
theorem isN_lI {k : Nat} (h : k < 4) : isN 4 (lI k) = true := by
  rcases (show k = 0 ∨ k = 1 ∨ k = 2 ∨ k = 3 by omega) with rfl | rfl | rfl | rfl <;> decide
theorem clr_ok : ∀ x, x < 16 → ∀ k, k < 4 → nI x &&& (nI (2 ^ k) ^^^ (-1)) = nI (clr x k) := by decide
theorem and_tp {x k : Nat} : x &&& 2 ^ k = 0 ↔ x.testBit k = false := by
  constructor
  · intro h
    have h1 : (x &&& 2 ^ k).testBit k = false := by rw [h]; simp
    rw [Nat.testBit_and] at h1
    simpa using h1
  · intro h
    apply Nat.eq_of_testBit_eq
    intro i
    rw [Nat.testBit_and]
    by_cases hi : k = i
    · subst hi; simp [h]
    · first | (simp [Nat.testBit_two_pow, hi]; done) | (simp [Nat.testBit_two_pow_of_ne hi]; done)
theorem not63 : ∀ a, a < 64 → ∀ b, b < 64 → nI a &&& (nI b ^^^ (-1)) = nI (a &&& (63 ^^^ b)) := by decide +kernel
theorem pasT_le {so ki fa fb fc va sn sb sr : Nat → Nat} {cn cs rs : Nat} {te ho : Nat → Nat} (hcs : cs ≤ 6) (h1 : ∀ j, j < cn → so j ≤ 3 ∧ ki j ≤ 4 ∧ va j ≤ 2) (h2 : ∀ j, j < cn → so j = 2 → fa j < j ∧ fb j < j ∧ fc j < j) (h3 : ∀ j, j < cn → so j = 3 → sn j < cs) (h4 : ∀ j, j < 6 → ho j ≤ 2) (hr : ∀ i, i < cs → sr i < cn) (hb : ∀ i, i < cs → sb i ≤ 1) : ∀ t j, j < 6 → (pasT so ki fa fb fc va sn sb sr cn cs rs te ho t).2 j ≤ 2 := by
  intro t
  induction t with
  | zero => exact h4
  | succ t ih =>
    intro j hj
    show (if j < cs then (if rs.testBit j = true then sb j else telT so ki fa fb fc va sn (pasT so ki fa fb fc va sn sb sr cn cs rs te ho t).2 (pasT so ki fa fb fc va sn sb sr cn cs rs te ho t).1 cn (sr j)) else (pasT so ki fa fb fc va sn sb sr cn cs rs te ho t).2 j) ≤ 2
    by_cases hc : j < cs
    · rw [if_pos hc]
      split
      · have := hb j hc; omega
      · exact telT_le h1 h2 (fun j hj h => by have := h3 j hj h; omega) ih (Nat.le_refl _) _ (hr j hc)
    · rw [if_neg hc]
      exact ih j hj
theorem srcT_lt {so fa fb fc sn f : Nat → Nat} {n : Nat} (hg : ∀ j, j < n → so j = 2 → fa j < j ∧ fb j < j ∧ fc j < j) (hs : ∀ j, j < n → so j = 3 → sn j < 6) {m : Nat} (hm : m ≤ n) : ∀ j, j < m → srcT so fa fb fc sn f m j < 64 := by
  induction m with
  | zero => intro j hj; omega
  | succ k ih =>
    have ih := ih (by omega)
    intro j hj
    show (if j = k then _ else srcT so fa fb fc sn f k j) < 64
    by_cases e : j = k
    · rw [if_pos e]
      by_cases g3 : so k = 3
      · rw [if_pos g3]
        have := hs k (by omega) g3
        exact Nat.lt_of_lt_of_le (Nat.pow_lt_pow_right (by omega) this) (Nat.le_refl _)
      · rw [if_neg g3]
        by_cases g : so k = 2
        · rw [if_pos g]
          have q := hg k (by omega) g
          exact Nat.or_lt_two_pow (n := 6) (Nat.or_lt_two_pow (n := 6) (ih _ q.1) (ih _ q.2.1)) (ih _ q.2.2)
        · rw [if_neg g]
          omega
    · rw [if_neg e]
      exact ih j (by omega)
