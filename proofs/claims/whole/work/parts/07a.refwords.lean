/-! The words of the reference's methods, as its code says them. -/
def inB (x a b : Int32) : Bool := !decide (x < a) && !decide (b < x)
def gaF (k a b c : Nat) : Nat := if k = 0 then 1 - a else if k = 1 then a &&& b else if k = 2 then a ||| b else if k = 3 then a ^^^ b else if a = 1 then b else c
def worT (so wh fi se th : Nat → Nat) (row y : Nat) (f : Nat → Nat) : Nat → (Nat → Nat)
  | 0 => f
  | i + 1 => va_up (worT so wh fi se th row y f i) i (if so i = 2 then gaF (wh i) (worT so wh fi se th row y f i (fi i)) (worT so wh fi se th row y f i (se i)) (worT so wh fi se th row y f i (th i)) else if so i = 1 then wh i else if so i = 0 then (y >>> wh i) &&& 1 else (row >>> wh i) &&& 1)
def putT (pu : Nat → Nat) (y : Nat) (ao : Bool) : Nat → Bool
  | 0 => true
  | i + 1 => putT pu y ao i && (ao || decide (pu i = 2) || decide (pu i = (y >>> i) &&& 1))
def toT (v re : Nat → Nat) : Nat → Nat
  | 0 => 0
  | i + 1 => toT v re i ||| v (re i) <<< i
def toN (so wh fi se th re : Nat → Nat) (n ms r y : Nat) : Nat := toT (worT so wh fi se th r y (fun _ => 0) n) re ms
def trg (le be : Nat → Nat) (ms rs r y : Nat) : Nat := (le (16 * r + y) &&& (63 ^^^ rs)) ||| bN (fun i => rs.testBit i && decide (be i = 1)) ms
def hitB (st : Nat → Bool) (T : Nat → Nat → Nat) (y t : Nat) : Nat → Bool := anyN (fun r => st r && decide (T r y = t))
def stpB (pu : Nat → Nat) (T : Nat → Nat → Nat) (ao : Bool) (mi ms : Nat) (st : Nat → Bool) (t : Nat) : Nat → Bool := anyN (fun y => putT pu y ao mi && hitB st T y t (2 ^ ms))
def stpF (pu : Nat → Nat) (T : Nat → Nat → Nat) (ao : Bool) (mi ms : Nat) (st : Nat → Bool) : Nat → Bool := fun t => stpB pu T ao mi ms st t (2 ^ mi)
def trC (so wh fi se th re be : Nat → Nat) (n ms rs r y : Nat) : Nat := (toN so wh fi se th re n ms r y &&& (63 ^^^ rs)) ||| bN (fun i => rs.testBit i && decide (be i = 1)) ms
def rsP (lo : Nat → Nat) (on : Nat → Bool) : Nat → Bool := fun i => !decide (lo i = 4) && on (lo i)
def parT (so wh fi se th pu pa : Nat → Nat) (f : Nat → Nat) : Nat → (Nat → Nat)
  | 0 => f
  | i + 1 => va_up (parT so wh fi se th pu pa f i) i (if so i = 2 then pgF (wh i) (parT so wh fi se th pu pa f i (fi i)) (parT so wh fi se th pu pa f i (se i)) (parT so wh fi se th pu pa f i (th i)) else if so i = 1 then wh i else if so i = 0 then pu (wh i) else pa (wh i))
def pstF (so wh fi se th pu be re : Nat → Nat) (n ms rs : Nat) (pa : Nat → Nat) : Nat → Nat := mixF (fun i => if rs.testBit i = true then be i else parT so wh fi se th pu pa (fun _ => 0) n (re i)) pa ms
def rowG (can : Nat → Bool) : Nat → Nat → Nat → Int32
  | 0, _, _ => (-9)
  | n + 1, r, left => if can r = true then (if left = 0 then nI r else rowG can n (r + 1) (left - 1)) else rowG can n (r + 1) left
def setG (f : (Nat → Bool) → Nat → Bool) : Nat → Nat → (Nat → Bool) → Int32
  | 0, _, _ => (-9)
  | n + 1, t, x => if ct x 64 = 1 then nI t else setG f n (t + 1) (f x)
def allP (ms : Nat) : Nat → Bool := fun r => decide (r < 2 ^ ms)
def nxT (be : Nat → Nat) (rs v : Nat) : Nat → Nat
  | 0 => v
  | i + 1 => if rs.testBit i = true then (nxT be rs v i &&& (63 ^^^ 2 ^ i)) ||| be i <<< i else nxT be rs v i
def crJ (f : Nat → Bool) (v : Nat → Int32) (i : Nat) : Nat → Nat → Nat → Int32 ⊕ Nat
  | 0, _, n => .inr n
  | m + 1, b, n => if f b = true then (if n = i then .inl (v b) else crJ f v i m (b + 1) (n + 1)) else crJ f v i m (b + 1) n
def crK (f : Nat → Nat → Bool) (v : Nat → Nat → Int32) (i cs : Nat) : Nat → Nat → Nat → Int32
  | 0, _, _ => (-9)
  | m + 1, a, n => match crJ (f a) (v a) i cs 0 n with
    | .inl r => r
    | .inr z => crK f v i cs m (a + 1) z
def oI (o : Option Nat) : Int32 := match o with
  | none => (-9)
  | some b => nI b
def meT (P : Nat → Bool) (pop : Nat → Nat) : Nat → Option Nat
  | 0 => none
  | k + 1 => if P k = true then (match meT P pop k with
      | none => some k
      | some b => if pop k < pop b then some k else some b) else meT P pop k
def gr1 (w t : Nat → Int32) (k : Nat) : Nat → Int32 := va_up t (k / 4) (if w k = (-9) then t (k / 4) else if t (k % 4) + w k ≤ t (k / 4) then t (k / 4) else t (k % 4) + w k)
def gr2 (w t : Nat → Int32) (k : Nat) : Nat → Int32 := va_up t (k / 4) (if w k = (-9) then t (k / 4) else if t (k / 4) = (-9) then t (k / 4) else if t (k % 4) = (-9) then (-9) else if t (k % 4) + w k ≤ t (k / 4) then t (k / 4) else (-9))
def gl1 (w t : Nat → Int32) : Nat → (Nat → Int32)
  | 0 => t
  | k + 1 => gr1 w (gl1 w t k) k
def gl2 (w t : Nat → Int32) : Nat → (Nat → Int32)
  | 0 => t
  | k + 1 => gr2 w (gl2 w t k) k
theorem inB_nI {k a b : Nat} (hk : k < 2 ^ 31) (ha : a < 2 ^ 31) (hb : b < 2 ^ 31) : inB (nI k) (nI a) (nI b) = decide (a ≤ k ∧ k ≤ b) := by
  unfold inB
  rw [Bool.eq_iff_iff]
  simp only [Bool.and_eq_true, Bool.not_eq_true', decide_eq_false_iff_not, decide_eq_true_eq, nI_ltI hk ha, nI_ltI hb hk]
  omega
theorem inB_node {n : Nat} {x : Int32} (hn : n < 2 ^ 30) : inB x (nI 0) (nI n - nI 1) = isN n x := by
  unfold inB isN
  have h1 := pk_sub_toInt (a := n) (b := 1) hn (by omega)
  have h2 := nI_toInt (n := n) (by omega)
  have h0 : (nI 0).toInt = 0 := by decide
  rw [Bool.eq_iff_iff]
  simp only [Bool.and_eq_true, Bool.not_eq_true', decide_eq_false_iff_not, Int32.lt_iff_toInt_lt, Int32.le_iff_toInt_le, h0, h1, h2, Int32.toInt_zero]
  omega
theorem inB_3 {x : Int32} : inB x (nI 0) (nI 3) = isN 4 x := by
  rw [← inB_node (n := 4) (by omega)]
  rfl
theorem inB_1 {x : Int32} : inB x (nI 0) (nI 1) = bitB x := by
  unfold inB bitB
  have h0 : (nI 0).toInt = 0 := by decide
  have h1 : (nI 1).toInt = 1 := by decide
  rw [Bool.eq_iff_iff]
  simp only [Bool.and_eq_true, Bool.or_eq_true, Bool.not_eq_true', decide_eq_false_iff_not, decide_eq_true_eq, Int32.lt_iff_toInt_lt, ← Int32.toInt_inj, h0, h1, Int32.toInt_zero]
  omega
theorem inB_01 {x : Int32} {n : Nat} : inB x (nI 0) (nI n) = (!decide (x < 0) && !decide (nI n < x)) := rfl
theorem inB_04 {x : Int32} : inB x (nI 0) (nI 4) = (!decide (x < 0) && !decide (nI 4 < x)) := rfl
theorem x01 : ∀ x, x ≤ 1 → ∀ y, y ≤ 1 → x &&& y ≤ 1 ∧ x ||| y ≤ 1 ∧ x ^^^ y ≤ 1 := by decide
theorem gaF_le {k a b c : Nat} (ha : a ≤ 1) (hb : b ≤ 1) (hc : c ≤ 1) : gaF k a b c ≤ 1 := by
  have h := x01 a ha b hb
  unfold gaF
  split
  · omega
  split
  · exact h.1
  split
  · exact h.2.1
  split
  · exact h.2.2
  split <;> omega
theorem worT_le {so wh fi se th f : Nat → Nat} {row y n : Nat} (hg : ∀ j, j < n → so j = 2 → fi j < j ∧ se j < j ∧ th j < j) (hf : ∀ j, j < n → so j = 1 → wh j ≤ 1) {m : Nat} (hm : m ≤ n) : ∀ j, j < m → worT so wh fi se th row y f m j ≤ 1 := by
  induction m with
  | zero => intro j hj; omega
  | succ k ih =>
    have ih := ih (by omega)
    intro j hj
    show (if j = k then _ else worT so wh fi se th row y f k j) ≤ 1
    by_cases e : j = k
    · rw [if_pos e]
      by_cases g : so k = 2
      · rw [if_pos g]
        have q := hg k (by omega) g
        exact gaF_le (ih _ q.1) (ih _ q.2.1) (ih _ q.2.2)
      · rw [if_neg g]
        by_cases g1 : so k = 1
        · rw [if_pos g1]
          exact hf k (by omega) g1
        · rw [if_neg g1]
          split <;> exact Nat.and_le_right
    · rw [if_neg e]
      exact ih j (by omega)
/-- what a node works out to does not hang on what stood in the array -/
theorem worT_can {so wh fi se th f g : Nat → Nat} {row y n : Nat} (hg : ∀ j, j < n → so j = 2 → fi j < j ∧ se j < j ∧ th j < j) {m : Nat} (hm : m ≤ n) : ∀ j, j < m → worT so wh fi se th row y f m j = worT so wh fi se th row y g m j := by
  induction m with
  | zero => intro j hj; omega
  | succ k ih =>
    have ih := ih (by omega)
    intro j hj
    show (if j = k then _ else worT so wh fi se th row y f k j) = (if j = k then _ else worT so wh fi se th row y g k j)
    by_cases e : j = k
    · rw [if_pos e, if_pos e]
      by_cases q2 : so k = 2
      · rw [if_pos q2, if_pos q2]
        have q := hg k (by omega) q2
        rw [ih _ q.1, ih _ q.2.1, ih _ q.2.2]
      · rw [if_neg q2, if_neg q2]
    · rw [if_neg e, if_neg e]
      exact ih j (by omega)
theorem toT_cong {v w re : Nat → Nat} : ∀ {m : Nat}, (∀ i, i < m → v (re i) = w (re i)) → toT v re m = toT w re m := by
  intro m
  induction m with
  | zero => intro _; rfl
  | succ k ih =>
    intro h
    show toT v re k ||| v (re k) <<< k = toT w re k ||| w (re k) <<< k
    rw [ih (fun i hi => h i (by omega)), h k (by omega)]
theorem toT_can {so wh fi se th re f : Nat → Nat} {row y n ms : Nat} (hg : ∀ j, j < n → so j = 2 → fi j < j ∧ se j < j ∧ th j < j) (hre : ∀ i, i < ms → re i < n) : toT (worT so wh fi se th row y f n) re ms = toN so wh fi se th re n ms row y :=
  toT_cong fun i hi => worT_can hg (Nat.le_refl n) _ (hre i hi)
theorem toT_lt {v re : Nat → Nat} : ∀ {m : Nat}, (∀ i, i < m → v (re i) ≤ 1) → toT v re m < 2 ^ m := by
  intro m
  induction m with
  | zero => intro _; exact Nat.one_pos
  | succ k ih =>
    intro h
    have h1 := ih (fun i hi => h i (by omega))
    have h2 := h k (by omega)
    have h3 := Nat.two_pow_pos k
    show toT v re k ||| v (re k) <<< k < 2 ^ (k + 1)
    refine Nat.or_lt_two_pow (by rw [Nat.pow_succ]; omega) ?_
    rw [Nat.shiftLeft_eq, Nat.pow_succ]
    rcases (show v (re k) = 0 ∨ v (re k) = 1 by omega) with e | e <;> rw [e] <;> omega
theorem parT_le {so wh fi se th pu pa f : Nat → Nat} {n mi ms : Nat} (hg : ∀ j, j < n → so j = 2 → fi j < j ∧ se j < j ∧ th j < j) (hf : ∀ j, j < n → so j = 1 → wh j ≤ 1) (hi : ∀ j, j < n → so j = 0 → wh j < mi) (hs : ∀ j, j < n → so j = 3 → wh j < ms) (h3 : ∀ j, j < n → so j ≤ 3) (hpu : ∀ i, i < mi → pu i ≤ 2) (hpa : ∀ i, i < ms → pa i ≤ 2) {m : Nat} (hm : m ≤ n) : ∀ j, j < m → parT so wh fi se th pu pa f m j ≤ 2 := by
  induction m with
  | zero => intro j hj; omega
  | succ k ih =>
    have ih := ih (by omega)
    intro j hj
    show (if j = k then _ else parT so wh fi se th pu pa f k j) ≤ 2
    by_cases e : j = k
    · rw [if_pos e]
      by_cases g : so k = 2
      · rw [if_pos g]
        have q := hg k (by omega) g
        exact pgF_le (ih _ q.1) (ih _ q.2.1) (ih _ q.2.2)
      · rw [if_neg g]
        by_cases g1 : so k = 1
        · rw [if_pos g1]
          have := hf k (by omega) g1
          omega
        · rw [if_neg g1]
          by_cases g0 : so k = 0
          · rw [if_pos g0]
            exact hpu _ (hi k (by omega) g0)
          · rw [if_neg g0]
            have := h3 k (by omega)
            exact hpa _ (hs k (by omega) (by omega))
    · rw [if_neg e]
      exact ih j (by omega)
theorem xu_eq {α : Type} {f : Nat → α} {k : Nat} {v : α} : va_up f k v k = v := if_pos rfl
theorem xu_ne {α : Type} {f : Nat → α} {k j : Nat} {v : α} (h : ¬ j = k) : va_up f k v j = f j := if_neg h
theorem parT_can {so wh fi se th pu pa f g : Nat → Nat} {n : Nat} (hg : ∀ j, j < n → so j = 2 → fi j < j ∧ se j < j ∧ th j < j) {m : Nat} (hm : m ≤ n) : ∀ j, j < m → parT so wh fi se th pu pa f m j = parT so wh fi se th pu pa g m j := by
  induction m with
  | zero => intro j hj; omega
  | succ k ih =>
    have ih := ih (by omega)
    intro j hj
    show (if j = k then _ else parT so wh fi se th pu pa f k j) = (if j = k then _ else parT so wh fi se th pu pa g k j)
    by_cases e : j = k
    · rw [if_pos e, if_pos e]
      by_cases q2 : so k = 2
      · rw [if_pos q2, if_pos q2]
        have q := hg k (by omega) q2
        rw [ih _ q.1, ih _ q.2.1, ih _ q.2.2]
      · rw [if_neg q2, if_neg q2]
    · rw [if_neg e, if_neg e]
      exact ih j (by omega)
theorem mix_cong {α : Type} {g h f : Nat → α} {m : Nat} (e : ∀ i, i < m → g i = h i) : mixF g f m = mixF h f m := by
  funext j
  by_cases q : j < m
  · simp [mixF, q, e j q]
  · simp [mixF, q]
theorem any_cong {P Q : Nat → Bool} : ∀ {n : Nat}, (∀ i, i < n → P i = Q i) → anyN P n = anyN Q n := by
  intro n
  induction n with
  | zero => intro _; rfl
  | succ k ih =>
    intro h
    show (anyN P k || P k) = (anyN Q k || Q k)
    rw [ih (fun i hi => h i (by omega)), h k (by omega)]
theorem stpB_cong {pu : Nat → Nat} {T U : Nat → Nat → Nat} {ao : Bool} {mi ms : Nat} {st su : Nat → Bool} {t n : Nat} (hT : ∀ r, r < 2 ^ ms → ∀ y, y < n → T r y = U r y) (hs : ∀ r, r < 2 ^ ms → st r = su r) : stpB pu T ao mi ms st t n = stpB pu U ao mi ms su t n :=
  any_cong fun y hy => by
    show (putT pu y ao mi && anyN _ _) = (putT pu y ao mi && anyN _ _)
    rw [any_cong (n := 2 ^ ms) (Q := fun r => su r && decide (U r y = t)) (fun r hr => by show (st r && decide (T r y = t)) = _; rw [hs r hr, hT r hr y hy])]
theorem iter_cong {pu : Nat → Nat} {T U : Nat → Nat → Nat} {ao : Bool} {mi ms : Nat} {st su : Nat → Bool} (hms : 2 ^ ms ≤ 64) (hT : ∀ r, r < 2 ^ ms → ∀ y, y < 2 ^ mi → T r y = U r y) (hs : ∀ r, r < 64 → st r = su r) : ∀ n r, r < 64 → iterN (stpF pu T ao mi ms) n st r = iterN (stpF pu U ao mi ms) n su r := by
  intro n
  induction n with
  | zero => exact hs
  | succ k ih =>
    intro r _
    exact stpB_cong hT (fun q hq => ih q (by omega))
theorem setG_cong {pu : Nat → Nat} {T U : Nat → Nat → Nat} {ao : Bool} {mi ms : Nat} (hms : 2 ^ ms ≤ 64) (hT : ∀ r, r < 2 ^ ms → ∀ y, y < 2 ^ mi → T r y = U r y) : ∀ (n t : Nat) (st su : Nat → Bool), (∀ r, r < 64 → st r = su r) → setG (stpF pu T ao mi ms) n t st = setG (stpF pu U ao mi ms) n t su := by
  intro n
  induction n with
  | zero => intros; rfl
  | succ k ih =>
    intro t st su hs
    show (if ct st 64 = 1 then nI t else _) = (if ct su 64 = 1 then nI t else _)
    rw [ct_cong hs, ih (t + 1) (stpF pu T ao mi ms st) (stpF pu U ao mi ms su) (fun r hr => stpB_cong hT (fun q hq => hs q (by omega)))]
theorem bN_mul {f : Nat → Bool} {i rs b : Nat} (hf : f i = (rs.testBit i && decide (b = 1))) (hb : b ≤ 1) : bN f i ||| (((rs >>> i) &&& 1) * b) <<< i = bN f (i + 1) := by
  show _ = (if f i = true then bN f i ||| 2 ^ i else bN f i)
  rw [hf]
  cases h : rs.testBit i with
  | false =>
    rw [tb_0.mpr h]
    simp
  | true =>
    have h1 := tb_n0.mpr h
    have h2 : (rs >>> i) &&& 1 ≤ 1 := Nat.and_le_right
    rw [show (rs >>> i) &&& 1 = 1 by omega]
    rcases (show b = 0 ∨ b = 1 by omega) with e | e
    · subst e; simp
    · subst e; simp [Nat.one_shiftLeft]
theorem inB_2 {x : Int32} : inB x (nI 0) (nI 2) = (bitB x || decide (x = nI 2)) := by
  unfold inB bitB
  have h0 : (nI 0).toInt = 0 := by decide
  have h1 : (nI 1).toInt = 1 := by decide
  have h2 : (nI 2).toInt = 2 := by decide
  rw [Bool.eq_iff_iff]
  simp only [Bool.and_eq_true, Bool.or_eq_true, Bool.not_eq_true', decide_eq_false_iff_not, decide_eq_true_eq, Int32.lt_iff_toInt_lt, ← Int32.toInt_inj, h0, h1, h2, Int32.toInt_zero]
  omega
theorem tb_bI (a k : Nat) : nI ((a >>> k) &&& 1) = bI (a.testBit k) := by
  cases h : a.testBit k with
  | false => rw [tb_0.mpr h]; rfl
  | true =>
    have h1 := tb_n0.mpr h
    have h2 : (a >>> k) &&& 1 ≤ 1 := Nat.and_le_right
    rw [show (a >>> k) &&& 1 = 1 by omega]
    rfl
theorem ct_bit (a k : Nat) : ct (fun i => a.testBit i) k + ((a >>> k) &&& 1) = ct (fun i => a.testBit i) (k + 1) := by
  show _ = ct (fun i => a.testBit i) k + (if a.testBit k = true then 1 else 0)
  cases h : a.testBit k with
  | false => rw [tb_0.mpr h]; rfl
  | true =>
    have h1 := tb_n0.mpr h
    have h2 : (a >>> k) &&& 1 ≤ 1 := Nat.and_le_right
    rw [show (a >>> k) &&& 1 = 1 by omega]
    rfl
theorem sm2_le (f : Nat → Nat → Bool) (c : Nat) : ∀ a, sm2 f c a ≤ a * c := by
  intro a
  induction a with
  | zero => simp [sm2]
  | succ a ih =>
    show sm2 f c a + ct (f a) c ≤ (a + 1) * c
    have := ct_le (f a) c
    rw [Nat.succ_mul]
    omega
theorem nI_n9 {k : Nat} (h : k < 2 ^ 31) : ¬ nI k = (-9) := fun e => by
  have a := nI_toInt h
  rw [e] at a
  have : ((-9 : Int32)).toInt = -9 := by decide
  omega
theorem trg_lt {a rs : Nat} {f : Nat → Bool} {ms : Nat} (hms : ms ≤ 6) (ha : a < 64) : (a &&& (63 ^^^ rs)) ||| bN f ms < 64 :=
  Nat.or_lt_two_pow (n := 6) (Nat.lt_of_le_of_lt Nat.and_le_left ha) (Nat.lt_of_lt_of_le (bN_lt f ms) (Nat.pow_le_pow_right (by omega) hms))
theorem toN_lt {so wh fi se th re : Nat → Nat} {n ms r y : Nat} (hg : ∀ j, j < n → so j = 2 → fi j < j ∧ se j < j ∧ th j < j) (hf : ∀ j, j < n → so j = 1 → wh j ≤ 1) (hre : ∀ i, i < ms → re i < n) (hms : ms ≤ 6) : toN so wh fi se th re n ms r y < 64 :=
  Nat.lt_of_lt_of_le (toT_lt (fun i hi => worT_le hg hf (Nat.le_refl n) _ (hre i hi))) (Nat.pow_le_pow_right (n := 2) (by omega) hms)
theorem tb1 {a k : Nat} : (a >>> k) &&& 1 = 1 ↔ a.testBit k = true := by
  rw [← tb_n0]
  have : (a >>> k) &&& 1 ≤ 1 := Nat.and_le_right
  omega
theorem tb1_n {a k : Nat} : ¬ (a >>> k) &&& 1 = 1 ↔ a.testBit k = false := by
  rw [← tb_0]
  have : (a >>> k) &&& 1 ≤ 1 := Nat.and_le_right
  omega
theorem pstN_le {so wh fi se th pu be re pa : Nat → Nat} {n mi ms rs : Nat} (hg : ∀ j, j < n → so j = 2 → fi j < j ∧ se j < j ∧ th j < j) (hf : ∀ j, j < n → so j = 1 → wh j ≤ 1) (hi : ∀ j, j < n → so j = 0 → wh j < mi) (hs : ∀ j, j < n → so j = 3 → wh j < ms) (h3 : ∀ j, j < n → so j ≤ 3) (hpu : ∀ i, i < mi → pu i ≤ 2) (hpa : ∀ i, i < ms → pa i ≤ 2) (hbe : ∀ i, i < ms → be i ≤ 1) (hre : ∀ i, i < ms → re i < n) : ∀ t i, i < ms → iterN (pstF so wh fi se th pu be re n ms rs) t pa i ≤ 2 := by
  intro t
  induction t with
  | zero => exact hpa
  | succ t ih =>
    intro i hi2
    show (if i < ms then (if rs.testBit i = true then be i else parT so wh fi se th pu (iterN (pstF so wh fi se th pu be re n ms rs) t pa) (fun _ => 0) n (re i)) else _) ≤ 2
    rw [if_pos hi2]
    split
    · have := hbe i hi2; omega
    · exact parT_le hg hf hi hs h3 hpu ih (Nat.le_refl n) _ (hre i hi2)
theorem nxT_lt {be : Nat → Nat} {rs v : Nat} {m : Nat} (hbe : ∀ i, i < m → be i ≤ 1) (hm : m ≤ 6) (hv : v < 64) : nxT be rs v m < 64 := by
  induction m with
  | zero => exact hv
  | succ k ih =>
    have ih := ih (fun i hi => hbe i (by omega)) (by omega)
    show (if rs.testBit k = true then _ else _) < 64
    split
    · refine Nat.or_lt_two_pow (n := 6) (Nat.lt_of_le_of_lt Nat.and_le_left ih) ?_
      rw [Nat.shiftLeft_eq]
      have h1 := hbe k (by omega)
      have h2 : (2 : Nat) ^ k ≤ 2 ^ 5 := Nat.pow_le_pow_right (by omega) (by omega)
      have h3 : be k * 2 ^ k ≤ 1 * 2 ^ 5 := Nat.mul_le_mul h1 h2
      omega
    · exact ih
theorem ct_st {p : Nat → Bool} {n : Nat} {b : Bool} (h : p n = b) : ct p n + (if b = true then 1 else 0) = ct p (n + 1) := by
  rw [← h]
  rfl
theorem ct_st0 {p : Nat → Bool} {n : Nat} (h : p n = false) : ct p n = ct p (n + 1) := (ct_st h).symm ▸ rfl
theorem ct_st1 {p : Nat → Bool} {n : Nat} (h : p n = true) : ct p n + 1 = ct p (n + 1) := (ct_st h).symm ▸ rfl
theorem me_no {P : Nat → Bool} {pop : Nat → Nat} {k : Nat} (h : P k = false) : meT P pop (k + 1) = meT P pop k := if_neg (by rw [h]; decide)
theorem me_new {P : Nat → Bool} {pop : Nat → Nat} {k : Nat} (h : P k = true) (e : none = meT P pop k) : some k = meT P pop (k + 1) := by
  show some k = (if P k = true then _ else _)
  rw [if_pos h, ← e]
theorem me_less {P : Nat → Bool} {pop : Nat → Nat} {k b : Nat} (h : P k = true) (e : some b = meT P pop k) (hl : pop k < pop b) : some k = meT P pop (k + 1) := by
  show some k = (if P k = true then _ else _)
  rw [if_pos h, ← e]
  exact (if_pos hl).symm
theorem me_more {P : Nat → Bool} {pop : Nat → Nat} {k b : Nat} (e : some b = meT P pop k) (hl : ¬ pop k < pop b) : some b = meT P pop (k + 1) := by
  show some b = (if P k = true then _ else _)
  by_cases h : P k = true
  · rw [if_pos h, ← e]
    exact (if_neg hl).symm
  · rw [if_neg h]
    exact e
