/-! The words of Walk, as its code says them. -/
def evyL (v : Nat) : Int64 := if v = 1 then (-1) else 0
def goF (k : Nat) (a b c : Int64) : Int64 := if k = 0 then a ^^^ (-1) else if k = 1 then a &&& b else if k = 2 then a ||| b else if k = 3 then a ^^^ b else (a &&& b) ||| ((a ^^^ (-1)) &&& c)
def shL (x : Int64) (k : Nat) : Int64 := x <<< ((nI k).toInt64 &&& 63)
def ushL (x : Int64) (k : Nat) : Int64 := (x.toUInt64 >>> ((nI k).toInt64.toUInt64 &&& Int64.toUInt64 63)).toInt64
def lbit (x : Int64) (r : Nat) : Bool := !decide (ushL x r &&& 1 = 0)
def bct (x : Int64) : Nat := ct (lbit x) 64
def evalT (so ki fa fb fc va sn : Nat → Nat) (ao : Bool) (way : Nat) (f : Nat → Int64) : Nat → (Nat → Int64)
  | 0 => f
  | i + 1 => va_up (evalT so ki fa fb fc va sn ao way f i) i
      (if so i = 0 then (if opP so va ao i = true then evyL ((way >>> ct (opP so va ao) i) &&& 1) else evyL (va i))
       else if so i = 1 then evyL (va i)
       else if so i = 2 then goF (ki i) (evalT so ki fa fb fc va sn ao way f i (fa i)) (evalT so ki fa fb fc va sn ao way f i (fb i)) (evalT so ki fa fb fc va sn ao way f i (fc i))
       else holdL (sn i))
def ledN (on : Nat → Int64) (csr : Nat → Nat) (cs r : Nat) : Nat := bN (fun i => lbit (on (csr i)) r) cs
def preT (so ki fa fb fc va sn csr : Nat → Nat) (cn cs : Nat) (ao : Bool) (on le : Nat → Int64) : Nat → (Nat → Int64) × (Nat → Int64)
  | 0 => (on, mixF (fun _ => 0) le (2 ^ cs))
  | w + 1 => (evalT so ki fa fb fc va sn ao w (preT so ki fa fb fc va sn csr cn cs ao on le w).1 cn, mixF (fun j => (preT so ki fa fb fc va sn csr cn cs ao on le w).2 j ||| shL 1 (ledN (evalT so ki fa fb fc va sn ao w (preT so ki fa fb fc va sn csr cn cs ao on le w).1 cn) csr cs j)) (preT so ki fa fb fc va sn csr cn cs ao on le w).2 (2 ^ cs))
def orT (x : Int64) (le : Nat → Int64) : Nat → Int64
  | 0 => 0
  | r + 1 => if lbit x r = true then orT x le r ||| le r else orT x le r
def begL (v k : Nat) (x : Int64) : Int64 := if v = 1 then (x ||| shL x (2 ^ k)) &&& holdL k else (x ||| ushL x (2 ^ k)) &&& (holdL k ^^^ (-1))
def begT (csb : Nat → Nat) (rs : Nat) (x : Int64) : Nat → Int64
  | 0 => x
  | i + 1 => if rs.testBit i = true then begL (csb i) i (begT csb rs x i) else begT csb rs x i
def aftF (csb : Nat → Nat) (cs : Nat) (le : Nat → Int64) (rs : Nat) (x : Int64) : Int64 := begT csb rs (orT x le (2 ^ cs)) cs
def ttoF (f : Int64 → Int64) : Nat → Nat → Int64 → Int32
  | 0, _, _ => (-9)
  | n + 1, t, x => if bct x = 1 then nI t else ttoF f n (t + 1) (f x)
def lvF (f : Int64 → Int64) : Nat → Int64 → Int64
  | 0, x => x
  | n + 1, x => if f x = x then x else lvF f n (f x)
def alR (cs : Nat) : Int64 := if 2 ^ cs < 64 then shL 1 (2 ^ cs) - 1 else (-1)
def surT (so ki fa fb fc va sn : Nat → Nat) (cn : Nat) (on : Nat → Int64) : Nat → (Nat → Int64)
  | 0 => on
  | w + 1 => evalT so ki fa fb fc va sn false w (surT so ki fa fb fc va sn cn on w) cn
def anyN (P : Nat → Bool) : Nat → Bool
  | 0 => false
  | w + 1 => anyN P w || P w
def surS (x : Int64) (i : Nat) : Bool := decide (holdL i &&& x = 0) || decide (holdL i &&& x = x)
theorem mix_at {α : Type} (g f : Nat → α) (i : Nat) : mixF g f i i = f i := by simp [mixF]
theorem fx_orB (a b : Bool) : bI a ||| bI b = bI (a || b) := by cases a <;> cases b <;> decide
theorem any_s {P : Nat → Bool} {w : Nat} {b : Bool} (h : P w = b) : bI (anyN P w || b) = bI (anyN P (w + 1)) := by
  rw [← h]
  rfl
theorem nd_t {p : Prop} [Decidable p] (h : p) : (!decide p) = false := by simp [h]
theorem nd_f {p : Prop} [Decidable p] (h : ¬ p) : (!decide p) = true := by simp [h]
