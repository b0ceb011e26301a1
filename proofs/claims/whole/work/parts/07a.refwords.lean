/-! The words of the reference's methods, as its code says them. -/
def inB (x a b : Int32) : Bool := !decide (x < a) && !decide (b < x)
def gaF (k a b c : Nat) : Nat := if k = 0 then 1 - a else if k = 1 then a &&& b else if k = 2 then a ||| b else if k = 3 then a ^^^ b else if a = 1 then b else c
def worT (so wh fi se th : Nat → Nat) (row y : Nat) (f : Nat → Nat) : Nat → (Nat → Nat)
  | 0 => f
  | i + 1 => va_up (worT so wh fi se th row y f i) i (if so i = 2 then gaF (wh i) (worT so wh fi se th row y f i (fi i)) (worT so wh fi se th row y f i (se i)) (worT so wh fi se th row y f i (th i)) else if so i = 1 then wh i else if so i = 0 then (y >>> wh i) &&& 1 else (row >>> wh i) &&& 1)
def putT (pu : Nat → Nat) (y : Nat) (ao : Bool) : Nat → Bool
  | 0 => true
  | i + 1 => putT pu y ao i && (ao || decide (pu i = 2) || decide (pu i = (y >>> i) &&& 1))
def toT (v re : Nat → Nat) : Nat → Nat
  | 0 => 0
  | i + 1 => toT v re i ||| v (re i) <<< i
def toN (so wh fi se th re : Nat → Nat) (n ms r y : Nat) : Nat := toT (worT so wh fi se th r y (fun _ => 0) n) re ms
def trg (le be : Nat → Nat) (ms rs r y : Nat) : Nat := (le (16 * r + y) &&& (63 ^^^ rs)) ||| bN (fun i => rs.testBit i && decide (be i = 1)) ms
def hitB (st : Nat → Bool) (le be : Nat → Nat) (ms rs y t : Nat) : Nat → Bool := anyN (fun r => st r && decide (trg le be ms rs r y = t))
def stpB (pu le be : Nat → Nat) (ao : Bool) (mi ms rs : Nat) (st : Nat → Bool) (t : Nat) : Nat → Bool := anyN (fun y => putT pu y ao mi && hitB st le be ms rs y t (2 ^ ms))
def rsP (lo : Nat → Nat) (on : Nat → Bool) : Nat → Bool := fun i => !decide (lo i = 4) && on (lo i)
def parT (so wh fi se th pu pa : Nat → Nat) (f : Nat → Nat) : Nat → (Nat → Nat)
  | 0 => f
  | i + 1 => va_up (parT so wh fi se th pu pa f i) i (if so i = 2 then pgF (wh i) (parT so wh fi se th pu pa f i (fi i)) (parT so wh fi se th pu pa f i (se i)) (parT so wh fi se th pu pa f i (th i)) else if so i = 1 then wh i else if so i = 0 then pu (wh i) else pa (wh i))
def ptkT (so wh fi se th pu be re : Nat → Nat) (n ms rs : Nat) (v pa : Nat → Nat) : Nat → (Nat → Nat) × (Nat → Nat)
  | 0 => (v, pa)
  | t + 1 => (parT so wh fi se th pu (ptkT so wh fi se th pu be re n ms rs v pa t).2 (ptkT so wh fi se th pu be re n ms rs v pa t).1 n,
      mixF (fun i => if rs.testBit i = true then be i else parT so wh fi se th pu (ptkT so wh fi se th pu be re n ms rs v pa t).2 (ptkT so wh fi se th pu be re n ms rs v pa t).1 n (re i)) (ptkT so wh fi se th pu be re n ms rs v pa t).2 ms)
def rowG (can : Nat → Bool) : Nat → Nat → Nat → Int32
  | 0, _, _ => (-9)
  | n + 1, r, left => if can r = true then (if left = 0 then nI r else rowG can n (r + 1) (left - 1)) else rowG can n (r + 1) left
def setG (f : (Nat → Bool) → Nat → Bool) : Nat → Nat → (Nat → Bool) → Int32
  | 0, _, _ => (-9)
  | n + 1, t, x => if ct x 64 = 1 then nI t else setG f n (t + 1) (f x)
def gr1 (w t : Nat → Int32) (k : Nat) : Nat → Int32 := va_up t (k / 4) (if w k = (-9) then t (k / 4) else if t (k % 4) + w k ≤ t (k / 4) then t (k / 4) else t (k % 4) + w k)
def gr2 (w t : Nat → Int32) (k : Nat) : Nat → Int32 := va_up t (k / 4) (if w k = (-9) then t (k / 4) else if t (k / 4) = (-9) then t (k / 4) else if t (k % 4) = (-9) then (-9) else if t (k % 4) + w k ≤ t (k / 4) then t (k / 4) else (-9))
def gl1 (w t : Nat → Int32) : Nat → (Nat → Int32)
  | 0 => t
  | k + 1 => gr1 w (gl1 w t k) k
def gl2 (w t : Nat → Int32) : Nat → (Nat → Int32)
  | 0 => t
  | k + 1 => gr2 w (gl2 w t k) k
theorem inB_nI {k a b : Nat} (hk : k < 2 ^ 31) (ha : a < 2 ^ 31) (hb : b < 2 ^ 31) : inB (nI k) (nI a) (nI b) = decide (a ≤ k ∧ k ≤ b) := by
  unfold inB
  rw [Bool.eq_iff_iff]
  simp only [Bool.and_eq_true, Bool.not_eq_true', decide_eq_false_iff_not, decide_eq_true_eq, nI_ltI hk ha, nI_ltI hb hk]
  omega
theorem inB_node {n : Nat} {x : Int32} (hn : n < 2 ^ 30) : inB x (nI 0) (nI n - nI 1) = isN n x := by
  unfold inB isN
  have h1 := pk_sub_toInt (a := n) (b := 1) hn (by omega)
  have h2 := nI_toInt (n := n) (by omega)
  have h0 : (nI 0).toInt = 0 := by decide
  rw [Bool.eq_iff_iff]
  simp only [Bool.and_eq_true, Bool.not_eq_true', decide_eq_false_iff_not, Int32.lt_iff_toInt_lt, Int32.le_iff_toInt_le, h0, h1, h2, Int32.toInt_zero]
  omega
theorem inB_3 {x : Int32} : inB x (nI 0) (nI 3) = isN 4 x := by
  rw [← inB_node (n := 4) (by omega)]
  rfl
theorem inB_1 {x : Int32} : inB x (nI 0) (nI 1) = bitB x := by
  unfold inB bitB
  have h0 : (nI 0).toInt = 0 := by decide
  have h1 : (nI 1).toInt = 1 := by decide
  rw [Bool.eq_iff_iff]
  simp only [Bool.and_eq_true, Bool.or_eq_true, Bool.not_eq_true', decide_eq_false_iff_not, decide_eq_true_eq, Int32.lt_iff_toInt_lt, ← Int32.toInt_inj, h0, h1, Int32.toInt_zero]
  omega
theorem inB_01 {x : Int32} {n : Nat} : inB x (nI 0) (nI n) = (!decide (x < 0) && !decide (nI n < x)) := rfl
theorem inB_04 {x : Int32} : inB x (nI 0) (nI 4) = (!decide (x < 0) && !decide (nI 4 < x)) := rfl
theorem x01 : ∀ x, x ≤ 1 → ∀ y, y ≤ 1 → x &&& y ≤ 1 ∧ x ||| y ≤ 1 ∧ x ^^^ y ≤ 1 := by decide
theorem gaF_le {k a b c : Nat} (ha : a ≤ 1) (hb : b ≤ 1) (hc : c ≤ 1) : gaF k a b c ≤ 1 := by
  have h := x01 a ha b hb
  unfold gaF
  split
  · omega
  split
  · exact h.1
  split
  · exact h.2.1
  split
  · exact h.2.2
  split <;> omega
theorem worT_le {so wh fi se th f : Nat → Nat} {row y n : Nat} (hg : ∀ j, j < n → so j = 2 → fi j < j ∧ se j < j ∧ th j < j) (hf : ∀ j, j < n → so j = 1 → wh j ≤ 1) {m : Nat} (hm : m ≤ n) : ∀ j, j < m → worT so wh fi se th row y f m j ≤ 1 := by
  induction m with
  | zero => intro j hj; omega
  | succ k ih =>
    have ih := ih (by omega)
    intro j hj
    show (if j = k then _ else worT so wh fi se th row y f k j) ≤ 1
    by_cases e : j = k
    · rw [if_pos e]
      by_cases g : so k = 2
      · rw [if_pos g]
        have q := hg k (by omega) g
        exact gaF_le (ih _ q.1) (ih _ q.2.1) (ih _ q.2.2)
      · rw [if_neg g]
        by_cases g1 : so k = 1
        · rw [if_pos g1]
          exact hf k (by omega) g1
        · rw [if_neg g1]
          split <;> exact Nat.and_le_right
    · rw [if_neg e]
      exact ih j (by omega)
/-- what a node works out to does not hang on what stood in the array -/
theorem worT_can {so wh fi se th f g : Nat → Nat} {row y n : Nat} (hg : ∀ j, j < n → so j = 2 → fi j < j ∧ se j < j ∧ th j < j) {m : Nat} (hm : m ≤ n) : ∀ j, j < m → worT so wh fi se th row y f m j = worT so wh fi se th row y g m j := by
  induction m with
  | zero => intro j hj; omega
  | succ k ih =>
    have ih := ih (by omega)
    intro j hj
    show (if j = k then _ else worT so wh fi se th row y f k j) = (if j = k then _ else worT so wh fi se th row y g k j)
    by_cases e : j = k
    · rw [if_pos e, if_pos e]
      by_cases q2 : so k = 2
      · rw [if_pos q2, if_pos q2]
        have q := hg k (by omega) q2
        rw [ih _ q.1, ih _ q.2.1, ih _ q.2.2]
      · rw [if_neg q2, if_neg q2]
    · rw [if_neg e, if_neg e]
      exact ih j (by omega)
theorem toT_cong {v w re : Nat → Nat} : ∀ {m : Nat}, (∀ i, i < m → v (re i) = w (re i)) → toT v re m = toT w re m := by
  intro m
  induction m with
  | zero => intro _; rfl
  | succ k ih =>
    intro h
    show toT v re k ||| v (re k) <<< k = toT w re k ||| w (re k) <<< k
    rw [ih (fun i hi => h i (by omega)), h k (by omega)]
theorem toT_can {so wh fi se th re f : Nat → Nat} {row y n ms : Nat} (hg : ∀ j, j < n → so j = 2 → fi j < j ∧ se j < j ∧ th j < j) (hre : ∀ i, i < ms → re i < n) : toT (worT so wh fi se th row y f n) re ms = toN so wh fi se th re n ms row y :=
  toT_cong fun i hi => worT_can hg (Nat.le_refl n) _ (hre i hi)
theorem toT_lt {v re : Nat → Nat} : ∀ {m : Nat}, (∀ i, i < m → v (re i) ≤ 1) → toT v re m < 2 ^ m := by
  intro m
  induction m with
  | zero => intro _; exact Nat.one_pos
  | succ k ih =>
    intro h
    have h1 := ih (fun i hi => h i (by omega))
    have h2 := h k (by omega)
    have h3 := Nat.two_pow_pos k
    show toT v re k ||| v (re k) <<< k < 2 ^ (k + 1)
    refine Nat.or_lt_two_pow (by rw [Nat.pow_succ]; omega) ?_
    rw [Nat.shiftLeft_eq, Nat.pow_succ]
    rcases (show v (re k) = 0 ∨ v (re k) = 1 by omega) with e | e <;> rw [e] <;> omega
theorem parT_le {so wh fi se th pu pa f : Nat → Nat} {n mi ms : Nat} (hg : ∀ j, j < n → so j = 2 → fi j < j ∧ se j < j ∧ th j < j) (hf : ∀ j, j < n → so j = 1 → wh j ≤ 1) (hi : ∀ j, j < n → so j = 0 → wh j < mi) (hs : ∀ j, j < n → so j = 3 → wh j < ms) (h3 : ∀ j, j < n → so j ≤ 3) (hpu : ∀ i, i < mi → pu i ≤ 2) (hpa : ∀ i, i < ms → pa i ≤ 2) {m : Nat} (hm : m ≤ n) : ∀ j, j < m → parT so wh fi se th pu pa f m j ≤ 2 := by
  induction m with
  | zero => intro j hj; omega
  | succ k ih =>
    have ih := ih (by omega)
    intro j hj
    show (if j = k then _ else parT so wh fi se th pu pa f k j) ≤ 2
    by_cases e : j = k
    · rw [if_pos e]
      by_cases g : so k = 2
      · rw [if_pos g]
        have q := hg k (by omega) g
        exact pgF_le (ih _ q.1) (ih _ q.2.1) (ih _ q.2.2)
      · rw [if_neg g]
        by_cases g1 : so k = 1
        · rw [if_pos g1]
          have := hf k (by omega) g1
          omega
        · rw [if_neg g1]
          by_cases g0 : so k = 0
          · rw [if_pos g0]
            exact hpu _ (hi k (by omega) g0)
          · rw [if_neg g0]
            have := h3 k (by omega)
            exact hpa _ (hs k (by omega) (by omega))
    · rw [if_neg e]
      exact ih j (by omega)
theorem xu_eq {α : Type} {f : Nat → α} {k : Nat} {v : α} : va_up f k v k = v := if_pos rfl
theorem xu_ne {α : Type} {f : Nat → α} {k j : Nat} {v : α} (h : ¬ j = k) : va_up f k v j = f j := if_neg h
