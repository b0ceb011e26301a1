/-! Counting bits as the JDK does: bytes side by side. -/
def bcI1 (x : Int32) : Int32 := x - ((x.toUInt32 >>> ((nI 1).toUInt32 &&& Int32.toUInt32 31)).toInt32 &&& 1431655765)
def bcI2 (x : Int32) : Int32 := (x &&& 858993459) + ((x.toUInt32 >>> ((nI 2).toUInt32 &&& Int32.toUInt32 31)).toInt32 &&& 858993459)
def bcI3 (x : Int32) : Int32 := (x + (x.toUInt32 >>> ((nI 4).toUInt32 &&& Int32.toUInt32 31)).toInt32) &&& 252645135
def bcI4 (x : Int32) : Int32 := x + (x.toUInt32 >>> ((nI 8).toUInt32 &&& Int32.toUInt32 31)).toInt32
def bcI5 (x : Int32) : Int32 := x + (x.toUInt32 >>> ((nI 16).toUInt32 &&& Int32.toUInt32 31)).toInt32
theorem bc_int : ∀ x : Nat, x < 64 → some (Value.int (nI (ct (fun i => x.testBit i) 6))) = some (Value.int (bcI5 (bcI4 (bcI3 (bcI2 (bcI1 (nI x))))) &&& nI 63)) := by
  have h : ∀ x : Nat, x < 64 → nI (ct (fun i => x.testBit i) 6) = bcI5 (bcI4 (bcI3 (bcI2 (bcI1 (nI x))))) &&& nI 63 := by decide +kernel
  intro x hx
  rw [h x hx]
def bcL1 (x : Int64) : Int64 := x - (ushL x 1 &&& 6148914691236517205)
def bcL2 (x : Int64) : Int64 := (x &&& 3689348814741910323) + (ushL x 2 &&& 3689348814741910323)
def bcL3 (x : Int64) : Int64 := (x + ushL x 4) &&& 1085102592571150095
def bcL4 (x : Int64) : Int64 := x + ushL x 8
def bcL5 (x : Int64) : Int64 := x + ushL x 16
def bcL6 (x : Int64) : Int64 := x + ushL x 32
theorem lN_of (x : Int64) : ∃ n, n < 2 ^ 64 ∧ x = lN n := by
  refine ⟨x.toBitVec.toNat, x.toBitVec.isLt, ?_⟩
  apply Int64.toBitVec_inj.mp
  show x.toBitVec = BitVec.ofNat 64 x.toBitVec.toNat
  simp
theorem lN_tb (n : Nat) : (lN n).toBitVec = BitVec.ofNat 64 n := rfl
theorem ush_c : ∀ k, k < 64 → ((nI k).toInt64.toUInt64 &&& Int64.toUInt64 63).toNat % 64 = k := by decide +kernel
theorem ushL_N {n k : Nat} (hn : n < 2 ^ 64) (hk : k < 64) : ushL (lN n) k = lN (n / 2 ^ k) := by
  apply Int64.toBitVec_inj.mp
  show ((lN n).toBitVec >>> (((nI k).toInt64.toUInt64 &&& Int64.toUInt64 63).toBitVec % 64#64)) = BitVec.ofNat 64 (n / 2 ^ k)
  apply BitVec.eq_of_toNat_eq
  have h1 := ush_c k hk
  have h2 : (((nI k).toInt64.toUInt64 &&& Int64.toUInt64 63).toBitVec % 64#64).toNat = k := by
    rw [BitVec.toNat_umod]; exact h1
  rw [BitVec.ushiftRight_eq', BitVec.toNat_ushiftRight, h2, lN_tb, BitVec.toNat_ofNat, BitVec.toNat_ofNat, Nat.shiftRight_eq_div_pow, Nat.mod_eq_of_lt hn]
  exact (Nat.mod_eq_of_lt (Nat.lt_of_le_of_lt (Nat.div_le_self _ _) hn)).symm
theorem andL_N (a b : Nat) : lN a &&& lN b = lN (a &&& b) := by
  apply Int64.toBitVec_inj.mp
  show BitVec.ofNat 64 a &&& BitVec.ofNat 64 b = BitVec.ofNat 64 (a &&& b)
  rw [BitVec.ofNat_and]
theorem lit_N (n : Nat) : (OfNat.ofNat n : Int64) = lN n := rfl
theorem lbit_N {n r : Nat} (hn : n < 2 ^ 64) (hr : r < 64) : lbit (lN n) r = n.testBit r := by
  unfold lbit
  rw [ushL_N hn hr, show (1 : Int64) = lN 1 from rfl, andL_N, show (0 : Int64) = lN 0 from rfl]
  have h1 : (n / 2 ^ r) &&& 1 = (n / 2 ^ r) % 2 := Nat.and_one_is_mod _
  rw [h1, Nat.testBit_eq_decide_div_mod_eq]
  rcases Nat.mod_two_eq_zero_or_one (n / 2 ^ r) with h | h
  · rw [h]; rfl
  · rw [h]; rfl
def mB (c : Nat) : Nat → Nat
  | 0 => 0
  | k + 1 => c + 256 * mB c k
theorem and_lane {a m c C : Nat} (ha : a < 256) (hc : c < 256) : (a + 256 * m) &&& (c + 256 * C) = (a &&& c) + 256 * (m &&& C) := by
  have h1 : ((a + 256 * m) &&& (c + 256 * C)) % 2 ^ 8 = a &&& c := by
    rw [Nat.and_mod_two_pow]
    congr 1 <;> omega
  have h2 : ((a + 256 * m) &&& (c + 256 * C)) / 2 ^ 8 = m &&& C := by
    rw [← Nat.shiftRight_eq_div_pow, Nat.shiftRight_and_distrib, Nat.shiftRight_eq_div_pow, Nat.shiftRight_eq_div_pow]
    congr 1 <;> omega
  have h3 := Nat.div_add_mod ((a + 256 * m) &&& (c + 256 * C)) (2 ^ 8)
  rw [h1, h2] at h3
  omega
def p8 (a : Nat) : Nat := ct (fun i => a.testBit i) 8
def d8 (a : Nat) : Nat := let b := a - ((a / 2) &&& 85); (b &&& 51) + ((b / 4) &&& 51)
theorem d8_ok : ∀ a, a < 256 → d8 a % 16 ≤ 4 ∧ d8 a / 16 ≤ 4 ∧ d8 a % 16 + d8 a / 16 = p8 a := by decide +kernel
def cA (k n : Nat) : Nat := n - ((n / 2) &&& mB 85 k)
def cB (k n : Nat) : Nat := (n &&& mB 51 k) + ((n / 4) &&& mB 51 k)
def cC (k n : Nat) : Nat := (n + n / 16) &&& mB 15 k
theorem cA_l : ∀ a, a < 256 → ∀ b, b < 2 → (a / 2 + 128 * b) &&& 85 = (a / 2) &&& 85 := by decide +kernel
theorem cB_l : ∀ a, a < 256 → ∀ b, b < 4 → (a / 4 + 64 * b) &&& 51 = (a / 4) &&& 51 := by decide +kernel
theorem cA_s {k a m : Nat} (ha : a < 256) : cA (k + 1) (a + 256 * m) = (a - ((a / 2) &&& 85)) + 256 * cA k m := by
  unfold cA
  have e : (a + 256 * m) / 2 = (a / 2 + 128 * (m % 2)) + 256 * (m / 2) := by omega
  rw [e, show mB 85 (k + 1) = 85 + 256 * mB 85 k from rfl, and_lane (by omega) (by omega), cA_l a ha (m % 2) (by omega)]
  have h1 : (a / 2) &&& 85 ≤ a / 2 := Nat.and_le_left
  have h2 : (m / 2) &&& mB 85 k ≤ m / 2 := Nat.and_le_left
  omega
theorem cB_s {k a m : Nat} (ha : a < 256) : cB (k + 1) (a + 256 * m) = ((a &&& 51) + ((a / 4) &&& 51)) + 256 * cB k m := by
  unfold cB
  have e : (a + 256 * m) / 4 = (a / 4 + 64 * (m % 4)) + 256 * (m / 4) := by omega
  rw [e, show mB 51 (k + 1) = 51 + 256 * mB 51 k from rfl, and_lane ha (by omega), and_lane (by omega) (by omega), cB_l a ha (m % 4) (by omega)]
  omega
theorem cAB_s {k a m : Nat} (ha : a < 256) : cB (k + 1) (cA (k + 1) (a + 256 * m)) = d8 a + 256 * cB k (cA k m) := by
  rw [cA_s ha, cB_s (by omega)]
  rfl
theorem cAB_lo {k m : Nat} : cB k (cA k m) % 16 ≤ 4 := by
  cases k with
  | zero => simp [cB, mB]
  | succ k =>
    have e : m = m % 256 + 256 * (m / 256) := by omega
    rw [e, cAB_s (by omega)]
    have := (d8_ok (m % 256) (by omega)).1
    omega
theorem cC_s {k l h m : Nat} (hl : l ≤ 4) (hh : h ≤ 4) (hm : m % 16 ≤ 4) : cC (k + 1) ((l + 16 * h) + 256 * m) = (l + h) + 256 * cC k m := by
  unfold cC
  have e : (l + 16 * h + 256 * m) + (l + 16 * h + 256 * m) / 16 = ((l + h) + 16 * (h + m % 16)) + 256 * (m + m / 16) := by omega
  rw [e, show mB 15 (k + 1) = 15 + 256 * mB 15 k from rfl, and_lane (by omega) (by omega), show (15 : Nat) = 2 ^ 4 - 1 from rfl, Nat.and_two_pow_sub_one_eq_mod]
  congr 1
  omega
def tB : Nat → Nat → Nat
  | 0, _ => 0
  | k + 1, n => p8 (n % 256) + 256 * tB k (n / 256)
theorem cABC : ∀ (k n : Nat), cC k (cB k (cA k n)) = tB k n := by
  intro k
  induction k with
  | zero => intro n; simp [cC, mB, tB]
  | succ k ih =>
    intro n
    have e : n = n % 256 + 256 * (n / 256) := by omega
    have d := d8_ok (n % 256) (by omega)
    rw [e, cAB_s (by omega)]
    rw [show d8 (n % 256) = d8 (n % 256) % 16 + 16 * (d8 (n % 256) / 16) by omega, cC_s d.1 d.2.1 cAB_lo, ih, d.2.2]
    show _ = p8 ((n % 256 + 256 * (n / 256)) % 256) + 256 * tB k ((n % 256 + 256 * (n / 256)) / 256)
    rw [show (n % 256 + 256 * (n / 256)) % 256 = n % 256 by omega, show (n % 256 + 256 * (n / 256)) / 256 = n / 256 by omega]
theorem p8_le (a : Nat) : p8 a ≤ 8 := by
  unfold p8
  exact ct_le _ _
theorem ct_app (f : Nat → Bool) (a : Nat) : ∀ b, ct f (a + b) = ct f a + ct (fun i => f (a + i)) b := by
  intro b
  induction b with
  | zero => rfl
  | succ b ih =>
    show ct f (a + b) + _ = ct f a + (ct (fun i => f (a + i)) b + _)
    rw [ih]
    exact Nat.add_assoc _ _ _
theorem ct_cong {f g : Nat → Bool} : ∀ {n : Nat}, (∀ i, i < n → f i = g i) → ct f n = ct g n := by
  intro n
  induction n with
  | zero => intro _; rfl
  | succ n ih =>
    intro h
    show ct f n + _ = ct g n + _
    rw [ih (fun i hi => h i (by omega)), h n (by omega)]
theorem ct_tb (n k : Nat) : ct (fun i => n.testBit i) (8 * (k + 1)) = p8 (n % 256) + ct (fun i => (n / 256).testBit i) (8 * k) := by
  rw [show 8 * (k + 1) = 8 + 8 * k by omega, ct_app]
  congr 1
  · refine ct_cong fun i hi => ?_
    rw [show (256 : Nat) = 2 ^ 8 from rfl, Nat.testBit_mod_two_pow]
    simp [hi]
  · refine ct_cong fun i _ => ?_
    rw [show (256 : Nat) = 2 ^ 8 from rfl, Nat.testBit_div_two_pow]
    congr 1
    omega
theorem dg_ad {x y a b x1 y1 : Nat} (h1 : x = a + 256 * x1) (h2 : y = b + 256 * y1) : x + y = (a + b) + 256 * (x1 + y1) := by omega
theorem dg_dv {x d y : Nat} (h : x = d + 256 * y) (hd : d < 256) : x / 2 ^ 8 = y := by omega
theorem dg_bd {x d y M N : Nat} (h : x = d + 256 * y) (hd : d ≤ 8) (hy : y ≤ M) (hN : 8 + 256 * M = N) : x ≤ N := by omega
theorem dg_fn {x z d e y w : Nat} (h : x = d + 256 * y) (h2 : z = e + 256 * w) (hd : d + e ≤ 64) : (x + z) % 128 = d + e := by omega
theorem dg_s1 {x y : Nat} (hx : x ≤ 578721382704613384) (hy : y ≤ 2260630401189896) : x + y < 2 ^ 60 := by omega
theorem dg_s2 {x y z w : Nat} (hx : x ≤ 578721382704613384) (hy : y ≤ 2260630401189896) (hz : z ≤ 8830587504648) (hw : w ≤ 34494482440) : (x + y) + (z + w) < 2 ^ 60 := by omega
theorem dg_64 {a b c d e f g h : Nat} (ha : a ≤ 8) (hb : b ≤ 8) (hc : c ≤ 8) (hd : d ≤ 8) (he : e ≤ 8) (hf : f ≤ 8) (hg : g ≤ 8) (hh : h ≤ 8) : ((a + b) + (c + d)) + ((e + f) + (g + h)) ≤ 64 := by omega
theorem dg_2 {a b : Nat} (ha : a ≤ 8) (hb : b ≤ 8) : a + b < 256 := by omega
theorem dg_4 {a b c d : Nat} (ha : a ≤ 8) (hb : b ≤ 8) (hc : c ≤ 8) (hd : d ≤ 8) : (a + b) + (c + d) < 256 := by omega
theorem bc_fin {a b c d e f g h y0 y1 y2 y3 y4 y5 y6 y7 : Nat} (ha : a ≤ 8) (hb : b ≤ 8) (hc : c ≤ 8) (hd : d ≤ 8) (he : e ≤ 8) (hf : f ≤ 8) (hg : g ≤ 8) (hh : h ≤ 8)
    (e0 : y0 = a + 256 * y1) (e1 : y1 = b + 256 * y2) (e2 : y2 = c + 256 * y3) (e3 : y3 = d + 256 * y4) (e4 : y4 = e + 256 * y5) (e5 : y5 = f + 256 * y6) (e6 : y6 = g + 256 * y7) (e7 : y7 = h + 256 * 0) :
    y0 < 2 ^ 60 ∧ y0 + y0 / 2 ^ 8 < 2 ^ 60 ∧ (y0 + y0 / 2 ^ 8) + (y0 + y0 / 2 ^ 8) / 2 ^ 16 < 2 ^ 60 ∧ (((y0 + y0 / 2 ^ 8) + (y0 + y0 / 2 ^ 8) / 2 ^ 16) + ((y0 + y0 / 2 ^ 8) + (y0 + y0 / 2 ^ 8) / 2 ^ 16) / 2 ^ 32) % 128 = ((a + b) + (c + d)) + ((e + f) + (g + h)) := by
  have b7 : y7 ≤ 8 := dg_bd e7 hh (Nat.le_refl 0) rfl
  have b6 : y6 ≤ 2056 := dg_bd e6 hg b7 rfl
  have b5 : y5 ≤ 526344 := dg_bd e5 hf b6 rfl
  have b4 : y4 ≤ 134744072 := dg_bd e4 he b5 rfl
  have b3 : y3 ≤ 34494482440 := dg_bd e3 hd b4 rfl
  have b2 : y2 ≤ 8830587504648 := dg_bd e2 hc b3 rfl
  have b1 : y1 ≤ 2260630401189896 := dg_bd e1 hb b2 rfl
  have b0 : y0 ≤ 578721382704613384 := dg_bd e0 ha b1 rfl
  have i0 := dg_ad e0 e1
  have i1 := dg_ad e1 e2
  have i2 := dg_ad e2 e3
  have i3 := dg_ad e3 e4
  have i4 := dg_ad e4 e5
  have i5 := dg_ad e5 e6
  have i6 := dg_ad e6 e7
  have j0 := dg_ad i0 i2
  have j1 := dg_ad i1 i3
  have j2 := dg_ad i2 i4
  have j3 := dg_ad i3 i5
  have j4 := dg_ad i4 i6
  have d0 : y0 / 2 ^ 8 = y1 := dg_dv e0 (Nat.lt_of_le_of_lt ha (by decide))
  have d1 : (y0 + y1) / 2 ^ 16 = y2 + y3 := by
    rw [show (2 : Nat) ^ 16 = 2 ^ 8 * 2 ^ 8 from rfl, ← Nat.div_div_eq_div_mul, dg_dv i0 (dg_2 ha hb), dg_dv i1 (dg_2 hb hc)]
  have d2 : ((y0 + y1) + (y2 + y3)) / 2 ^ 32 = (y4 + y5) + (y6 + y7) := by
    rw [show (2 : Nat) ^ 32 = 2 ^ 8 * 2 ^ 8 * 2 ^ 8 * 2 ^ 8 from rfl, ← Nat.div_div_eq_div_mul, ← Nat.div_div_eq_div_mul, ← Nat.div_div_eq_div_mul, dg_dv j0 (dg_4 ha hb hc hd), dg_dv j1 (dg_4 hb hc hd he), dg_dv j2 (dg_4 hc hd he hf), dg_dv j3 (dg_4 hd he hf hg)]
  rw [d0, d1, d2]
  exact ⟨Nat.lt_of_le_of_lt b0 (by decide), dg_s1 b0 b1, dg_s2 b0 b1 b2 b3, dg_fn j0 j4 (dg_64 ha hb hc hd he hf hg hh)⟩
theorem bc_long (x : Int64) : some (Value.int (nI (bct x))) = some (Value.int ((bcL6 (bcL5 (bcL4 (bcL3 (bcL2 (bcL1 x)))))).toInt32 &&& nI 127)) := by
  obtain ⟨n, hn, rfl⟩ := lN_of x
  have hb : bct (lN n) = ct (fun i => n.testBit i) 64 := ct_cong fun i hi => lbit_N hn hi
  have h1 : bcL1 (lN n) = lN (cA 8 n) := by
    unfold bcL1 cA
    rw [ushL_N hn (by omega), show (6148914691236517205 : Int64) = lN (mB 85 8) from rfl, andL_N]
    exact lN_sub (Nat.le_trans Nat.and_le_left (Nat.div_le_self _ _))
  have l1 : cA 8 n < 2 ^ 64 := Nat.lt_of_le_of_lt (Nat.sub_le _ _) hn
  have h2 : bcL2 (lN (cA 8 n)) = lN (cB 8 (cA 8 n)) := by
    unfold bcL2 cB
    rw [ushL_N l1 (by omega), show (3689348814741910323 : Int64) = lN (mB 51 8) from rfl, andL_N, andL_N]
    exact lN_add _ _
  have l2 : cB 8 (cA 8 n) < 2 ^ 64 := by
    have q1 : cA 8 n &&& mB 51 8 ≤ mB 51 8 := Nat.and_le_right
    have q2 : cA 8 n / 4 &&& mB 51 8 ≤ mB 51 8 := Nat.and_le_right
    have q3 : mB 51 8 = 3689348814741910323 := rfl
    unfold cB
    omega
  have h3 : bcL3 (lN (cB 8 (cA 8 n))) = lN (tB 8 n) := by
    rw [← cABC]
    unfold bcL3 cC
    rw [ushL_N l2 (by omega), show (1085102592571150095 : Int64) = lN (mB 15 8) from rfl, lN_add, andL_N]
  have fin := bc_fin (p8_le (n % 256)) (p8_le (n / 256 % 256)) (p8_le (n / 256 / 256 % 256)) (p8_le (n / 256 / 256 / 256 % 256)) (p8_le (n / 256 / 256 / 256 / 256 % 256)) (p8_le (n / 256 / 256 / 256 / 256 / 256 % 256)) (p8_le (n / 256 / 256 / 256 / 256 / 256 / 256 % 256)) (p8_le (n / 256 / 256 / 256 / 256 / 256 / 256 / 256 % 256))
    (show tB 8 n = p8 (n % 256) + 256 * tB 7 (n / 256) from rfl) rfl rfl rfl rfl rfl rfl rfl
  obtain ⟨f1, f2, f3, f4⟩ := fin
  have h4 : bcL4 (lN (tB 8 n)) = lN (tB 8 n + tB 8 n / 2 ^ 8) := by
    unfold bcL4
    rw [ushL_N (by omega) (by omega)]
    exact lN_add _ _
  have h5 : bcL5 (lN (tB 8 n + tB 8 n / 2 ^ 8)) = lN ((tB 8 n + tB 8 n / 2 ^ 8) + (tB 8 n + tB 8 n / 2 ^ 8) / 2 ^ 16) := by
    unfold bcL5
    rw [ushL_N (by omega) (by omega)]
    exact lN_add _ _
  have h6 : ∀ z : Nat, z < 2 ^ 60 → bcL6 (lN z) = lN (z + z / 2 ^ 32) := by
    intro z hz
    unfold bcL6
    rw [ushL_N (by omega) (by omega)]
    exact lN_add _ _
  rw [h1, h2, h3, h4, h5, h6 _ f3, lN_i, fx_andI, show (127 : Nat) = 2 ^ 7 - 1 from rfl, Nat.and_two_pow_sub_one_eq_mod, show (2 : Nat) ^ 7 = 128 from rfl, f4, hb]
  rw [show (64 : Nat) = 8 * (7 + 1) from rfl, ct_tb, ct_tb, ct_tb, ct_tb, ct_tb, ct_tb, ct_tb, ct_tb]
  simp only [Nat.mul_zero, ct, Nat.add_zero, Nat.add_assoc]
