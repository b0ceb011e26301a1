/-! The two sides' words agree: answers. -/
theorem rowF_G {x : Int64} {S : Nat → Bool} (h : ∀ r, r < 64 → S r = lbit x r) : ∀ n r left, r + n ≤ 64 → rowF x n r left = rowG S n r left := by
  intro n
  induction n with
  | zero => intros; rfl
  | succ n ih =>
    intro r left hr
    show (if lbit x r = true then (if left = 0 then nI r else rowF x n (r + 1) (left - 1)) else rowF x n (r + 1) left) = (if S r = true then (if left = 0 then nI r else rowG S n (r + 1) (left - 1)) else rowG S n (r + 1) left)
    rw [h r (by omega), ih (r + 1) (left - 1) (by omega), ih (r + 1) left (by omega)]
theorem worT_st {so wh fi se th f : Nat → Nat} {row y k : Nat} (hk3 : so k = 3) : ∀ {m : Nat}, k < m → worT so wh fi se th row y f m k = (row >>> wh k) &&& 1 := by
  intro m
  induction m with
  | zero => intro h; omega
  | succ m ih =>
    intro h
    show (if k = m then _ else worT so wh fi se th row y f m k) = _
    by_cases e : k = m
    · subst e
      rw [if_pos rfl, if_neg (by omega), if_neg (by omega), if_neg (by omega)]
    · rw [if_neg e]
      exact ih (by omega)
theorem nxT_cong {be bf : Nat → Nat} {rs v : Nat} : ∀ {n : Nat}, (∀ i, i < n → be i = bf i) → nxT be rs v n = nxT bf rs v n := by
  intro n
  induction n with
  | zero => intro _; rfl
  | succ n ih =>
    intro h
    show (if rs.testBit n = true then (nxT be rs v n &&& (63 ^^^ 2 ^ n)) ||| be n <<< n else nxT be rs v n) = (if rs.testBit n = true then (nxT bf rs v n &&& (63 ^^^ 2 ^ n)) ||| bf n <<< n else nxT bf rs v n)
    rw [ih (fun i hi => h i (by omega)), h n (by omega)]
theorem sm2_cong {f g : Nat → Nat → Bool} {c : Nat} : ∀ {n : Nat}, (∀ a, a < n → ∀ b, b < c → f a b = g a b) → sm2 f c n = sm2 g c n := by
  intro n
  induction n with
  | zero => intro _; rfl
  | succ n ih =>
    intro h
    show sm2 f c n + ct (f n) c = sm2 g c n + ct (g n) c
    rw [ih (fun a ha => h a (by omega)), ct_cong (h n (by omega))]
theorem crI_J {f g : Nat → Bool} {v w : Nat → Int32} {i c : Nat} (hf : ∀ b, b < c → f b = g b ∧ v b = w b) : ∀ n b left k, b + n ≤ c → left + k = i → (∃ x, crI f v n b left = .inl x ∧ crJ g w i n b k = .inl x) ∨ (∃ l' k', crI f v n b left = .inr l' ∧ crJ g w i n b k = .inr k' ∧ l' + k' = i) := by
  intro n
  induction n with
  | zero => intro b left k _ h; exact Or.inr ⟨left, k, rfl, rfl, h⟩
  | succ n ih =>
    intro b left k hbn h
    have hh := hf b (by omega)
    by_cases q : f b = true
    · have q2 : g b = true := hh.1 ▸ q
      by_cases z : left = 0
      · refine Or.inl ⟨v b, ?_, ?_⟩
        · show (if f b = true then (if left = 0 then _ else _) else _) = _
          rw [if_pos q, if_pos z]
        · show (if g b = true then (if k = i then _ else _) else _) = _
          rw [if_pos q2, if_pos (by omega), hh.2]
      · have e1 : crI f v (n + 1) b left = crI f v n (b + 1) (left - 1) := by
          show (if f b = true then (if left = 0 then _ else _) else _) = _
          rw [if_pos q, if_neg z]
        have e2 : crJ g w i (n + 1) b k = crJ g w i n (b + 1) (k + 1) := by
          show (if g b = true then (if k = i then _ else _) else _) = _
          rw [if_pos q2, if_neg (by omega)]
        rw [e1, e2]
        exact ih (b + 1) (left - 1) (k + 1) (by omega) (by omega)
    · have q2 : ¬ g b = true := hh.1 ▸ q
      have e1 : crI f v (n + 1) b left = crI f v n (b + 1) left := by
        show (if f b = true then (if left = 0 then _ else _) else _) = _
        rw [if_neg q]
      have e2 : crJ g w i (n + 1) b k = crJ g w i n (b + 1) k := by
        show (if g b = true then (if k = i then _ else _) else _) = _
        rw [if_neg q2]
      rw [e1, e2]
      exact ih (b + 1) left k (by omega) h
theorem crO_K {f g : Nat → Nat → Bool} {v w : Nat → Nat → Int32} {i c : Nat} (hf : ∀ a, a < c → ∀ b, b < c → f a b = g a b ∧ v a b = w a b) : ∀ n a left k, a + n ≤ c → left + k = i → crO f v c n a left = crK g w i c n a k := by
  intro n
  induction n with
  | zero => intros; rfl
  | succ n ih =>
    intro a left k ha h
    show (match crI (f a) (v a) c 0 left with | .inl r => r | .inr z => crO f v c n (a + 1) z) = (match crJ (g a) (w a) i c 0 k with | .inl r => r | .inr z => crK g w i c n (a + 1) z)
    rcases crI_J (hf a (by omega)) c 0 left k (by omega) h with ⟨x, e1, e2⟩ | ⟨l', k', e1, e2, e3⟩
    · rw [e1, e2]
    · rw [e1, e2]
      exact ih (a + 1) l' k' (by omega) e3
theorem meI_some {P : Nat → Bool} {b : Nat} (hp : P b = true) : ∀ n k, k ≤ b → b < k + n → (∀ j, k ≤ j → j < b → P j = false) → meI P n k = some b := by
  intro n
  induction n with
  | zero => intro k h1 h2; omega
  | succ n ih =>
    intro k h1 h2 h3
    show (if P k = true then some k else meI P n (k + 1)) = some b
    by_cases e : k = b
    · subst e; rw [if_pos hp]
    · rw [if_neg (by rw [h3 k (Nat.le_refl _) (by omega)]; decide)]
      exact ih (k + 1) (by omega) (by omega) (fun j a c => h3 j (by omega) c)
theorem meI_none {P : Nat → Bool} : ∀ n k, (∀ j, k ≤ j → j < k + n → P j = false) → meI P n k = none := by
  intro n
  induction n with
  | zero => intro k _; rfl
  | succ n ih =>
    intro k h
    show (if P k = true then some k else meI P n (k + 1)) = none
    rw [if_neg (by rw [h k (Nat.le_refl _) (by omega)]; decide)]
    exact ih (k + 1) (fun j a c => h j (by omega) (by omega))
theorem meT_spec {Q : Nat → Bool} {pop : Nat → Nat} : ∀ n, (meT Q pop n = none ∧ ∀ k, k < n → Q k = false) ∨ (∃ b, meT Q pop n = some b ∧ b < n ∧ Q b = true ∧ (∀ k, k < n → Q k = true → pop b ≤ pop k) ∧ (∀ k, k < b → Q k = true → pop b < pop k)) := by
  intro n
  induction n with
  | zero => exact Or.inl ⟨rfl, fun k h => absurd h (Nat.not_lt_zero k)⟩
  | succ n ih =>
    by_cases q : Q n = true
    · rcases ih with ⟨e, h⟩ | ⟨b, e, h1, h2, h3, h4⟩
      · refine Or.inr ⟨n, (me_new q e.symm).symm, by omega, q, fun k hk hq => ?_, fun k hk hq => ?_⟩
        · by_cases z : k = n
          · subst z; exact Nat.le_refl _
          · rw [h k (by omega)] at hq; cases hq
        · rw [h k hk] at hq; cases hq
      · by_cases z : pop n < pop b
        · refine Or.inr ⟨n, (me_less q e.symm z).symm, by omega, q, fun k hk hq => ?_, fun k hk hq => ?_⟩
          · by_cases y : k = n
            · subst y; exact Nat.le_refl _
            · have := h3 k (by omega) hq; omega
          · have := h3 k hk hq; omega
        · refine Or.inr ⟨b, (me_more e.symm z).symm, by omega, h2, fun k hk hq => ?_, h4⟩
          by_cases y : k = n
          · subst y; omega
          · exact h3 k (by omega) hq
    · have q : Q n = false := by simpa using q
      rcases ih with ⟨e, h⟩ | ⟨b, e, h1, h2, h3, h4⟩
      · refine Or.inl ⟨(me_no q).trans e, fun k hk => ?_⟩
        by_cases z : k = n
        · subst z; exact q
        · exact h k (by omega)
      · refine Or.inr ⟨b, (me_no q).trans e, by omega, h2, fun k hk hq => ?_, h4⟩
        by_cases z : k = n
        · subst z; rw [q] at hq; cases hq
        · exact h3 k (by omega) hq
theorem meO_none {P : Nat → Nat → Bool} {rows : Nat} (h : ∀ z k, k < rows → P z k = false) : ∀ n z, meO P rows n z = (-9) := by
  intro n
  induction n with
  | zero => intro z; rfl
  | succ n ih =>
    intro z
    show (match meI (P z) rows 0 with | some k => nI k | none => meO P rows n (z + 1)) = _
    rw [meI_none rows 0 (fun j _ hj => h z j (by omega))]
    exact ih (z + 1)
theorem meO_some {P : Nat → Nat → Bool} {Q : Nat → Bool} {pop : Nat → Nat} {rows b : Nat} (h : ∀ z k, k < rows → P z k = (Q k && decide (pop k = z))) (h1 : b < rows) (h2 : Q b = true) (h3 : ∀ k, k < rows → Q k = true → pop b ≤ pop k) (h4 : ∀ k, k < b → Q k = true → pop b < pop k) : ∀ n z, z ≤ pop b → pop b < z + n → meO P rows n z = nI b := by
  intro n
  induction n with
  | zero => intro z a c; omega
  | succ n ih =>
    intro z a c
    show (match meI (P z) rows 0 with | some k => nI k | none => meO P rows n (z + 1)) = _
    by_cases e : z = pop b
    · subst e
      rw [meI_some (P := P (pop b)) (b := b) (by rw [h _ b h1, h2]; simp) rows 0 (by omega) (by omega) (fun j _ hj => by
        rw [h _ j (by omega)]
        cases q : Q j with
        | false => rfl
        | true =>
          have := h4 j hj q
          simp; omega)]
    · rw [meI_none rows 0 (fun j _ hj => by
        rw [h _ j (by omega)]
        cases q : Q j with
        | false => rfl
        | true =>
          have := h3 j (by omega) q
          simp; omega)]
      exact ih (z + 1) (by omega) (by omega)
theorem pop_le {b c : Nat} (hc : c ≤ 6) (h : b < 2 ^ c) : ct (fun j => b.testBit j) 6 ≤ c := by
  rw [show (6 : Nat) = c + (6 - c) by omega, ct_app]
  have e : ct (fun i => b.testBit (c + i)) (6 - c) = 0 := by
    have : ∀ n, ct (fun i => b.testBit (c + i)) n = 0 := by
      intro n
      induction n with
      | zero => rfl
      | succ n ih =>
        show ct _ n + (if b.testBit (c + n) = true then 1 else 0) = 0
        rw [ih, tb_hi h (by omega)]
        rfl
    exact this _
  rw [e]
  exact ct_le _ c
theorem mend_eq {P : Nat → Nat → Bool} {Q : Nat → Bool} {c : Nat} (hc : c ≤ 6) (h : ∀ z k, k < 2 ^ c → P z k = (Q k && decide (ct (fun j => k.testBit j) 6 = z))) : meO P (2 ^ c) (c + 1) 0 = oI (meT Q (fun k => ct (fun j => k.testBit j) 6) (2 ^ c)) := by
  rcases meT_spec (Q := Q) (pop := fun k => ct (fun j => k.testBit j) 6) (2 ^ c) with ⟨e, q⟩ | ⟨b, e, h1, h2, h3, h4⟩
  · rw [e]
    exact meO_none (fun z k hk => by rw [h z k hk, q k hk]; rfl) _ _
  · rw [e]
    have := pop_le hc h1
    exact meO_some h h1 h2 h3 h4 (c + 1) 0 (Nat.zero_le _) (by show ct (fun j => b.testBit j) 6 < _; omega)
/-! When lines may be let go. -/
def eq4 (t u : Nat → Int32) : Prop := ∀ j, j < 4 → t j = u j
theorem up_self {α : Type} (t : Nat → α) (a : Nat) : va_up t a (t a) = t := by
  funext j
  by_cases h : j = a
  · subst h; exact xu_eq
  · exact xu_ne h
theorem eq4_up {t u : Nat → Int32} {a : Nat} {x y : Int32} (h : eq4 t u) (e : x = y) : eq4 (va_up t a x) (va_up u a y) := by
  intro j hj
  by_cases q : j = a
  · subst q; rw [xu_eq, xu_eq, e]
  · rw [xu_ne q, xu_ne q, h j hj]
theorem gr2_rlx (w t : Nat → Int32) (k : Nat) : gr2 w t k = rlx true w t k := by
  unfold gr2 rlx
  by_cases h1 : w k = (-9)
  · rw [if_pos h1, if_pos h1, up_self]
  · rw [if_neg h1, if_neg h1]
    by_cases h2 : t (k / 4) = (-9)
    · rw [if_pos h2, if_pos h2]; exact up_self t _
    · rw [if_neg h2, if_neg h2]
      by_cases h3 : t (k % 4) = (-9)
      · rw [if_pos h3, if_pos h3]
      · rw [if_neg h3, if_neg h3]
        by_cases h4 : t (k % 4) + w k ≤ t (k / 4)
        · rw [if_pos h4, if_pos h4, up_self]
        · rw [if_neg h4, if_neg h4, if_pos rfl]
theorem gr2_eq4 {w v t u : Nat → Int32} {k : Nat} (hk : k < 16) (hw : ∀ k, k < 16 → w k = v k) (h : eq4 t u) : eq4 (gr2 w t k) (gr2 v u k) := by
  unfold gr2
  rw [hw k hk, h (k / 4) (by omega), h (k % 4) (by omega)]
  exact eq4_up h rfl
theorem gl2_eq4 {w v : Nat → Int32} (hw : ∀ k, k < 16 → w k = v k) {t u : Nat → Int32} (h : eq4 t u) : ∀ n, n ≤ 16 → eq4 (gl2 w t n) (gl2 v u n) := by
  intro n
  induction n with
  | zero => intro _; exact h
  | succ n ih => intro hn; exact gr2_eq4 (by omega) hw (ih (by omega))
theorem dly_gl2 (w t : Nat → Int32) : ∀ n, dlyT true w t n = gl2 w t n := by
  intro n
  induction n with
  | zero => rfl
  | succ n ih =>
    show rlx true w (dlyT true w t n) n = gr2 w (gl2 w t n) n
    rw [ih, gr2_rlx]
/-- times are numbers, none is NONE -/
def bd4 (N : Nat) (t : Nat → Int32) : Prop := ∀ j, j < 4 → ∃ n, n ≤ N ∧ t j = nI n
theorem bd4_mono {N M : Nat} {t : Nat → Int32} (h : bd4 N t) (e : N ≤ M) : bd4 M t := fun j hj => by
  obtain ⟨n, h1, h2⟩ := h j hj
  exact ⟨n, by omega, h2⟩
theorem gr1_rlx {N : Nat} {w t : Nat → Int32} {k : Nat} (hk : k < 16) (hN : N + 20 < 2 ^ 30) (hw : w k = (-9) ∨ ∃ m, m ≤ 20 ∧ w k = nI m) (h : bd4 N t) : rlx false w t k = gr1 w t k ∧ bd4 (N + 20) (gr1 w t k) := by
  obtain ⟨n1, a1, b1⟩ := h (k / 4) (by omega)
  obtain ⟨n2, a2, b2⟩ := h (k % 4) (by omega)
  have c1 : ¬ t (k / 4) = (-9) := by rw [b1]; exact nI_n9 (by omega)
  have c2 : ¬ t (k % 4) = (-9) := by rw [b2]; exact nI_n9 (by omega)
  unfold rlx gr1
  by_cases h1 : w k = (-9)
  · rw [if_pos h1, if_pos h1, up_self]
    exact ⟨rfl, bd4_mono h (by omega)⟩
  · rw [if_neg h1, if_neg h1, if_neg c1, if_neg c2]
    by_cases h4 : t (k % 4) + w k ≤ t (k / 4)
    · rw [if_pos h4, if_pos h4, up_self]
      exact ⟨rfl, bd4_mono h (by omega)⟩
    · rw [if_neg h4, if_neg h4, if_neg (by decide)]
      refine ⟨rfl, fun j hj => ?_⟩
      by_cases e : j = k / 4
      · subst e
        rw [xu_eq]
        obtain ⟨m, hm1, hm2⟩ := hw.resolve_left h1
        exact ⟨n2 + m, by omega, by rw [b2, hm2, nI_add]⟩
      · rw [xu_ne e]
        obtain ⟨n, a, b⟩ := h j hj
        exact ⟨n, by omega, b⟩
theorem gr1_eq4 {w v t u : Nat → Int32} {k : Nat} (hk : k < 16) (hw : ∀ k, k < 16 → w k = v k) (h : eq4 t u) : eq4 (gr1 w t k) (gr1 v u k) := by
  unfold gr1
  rw [hw k hk, h (k / 4) (by omega), h (k % 4) (by omega)]
  exact eq4_up h rfl
theorem dly_gl1 {w v : Nat → Int32} (hw : ∀ k, k < 16 → w k = v k) (hr : ∀ k, k < 16 → w k = (-9) ∨ ∃ m, m ≤ 20 ∧ w k = nI m) {N : Nat} (hN : N + 320 < 2 ^ 30) {t u : Nat → Int32} (h : eq4 t u) (hbd : bd4 N t) : ∀ n, n ≤ 16 → eq4 (dlyT false w t n) (gl1 v u n) ∧ bd4 (N + 20 * n) (dlyT false w t n) := by
  intro n
  induction n with
  | zero => intro _; exact ⟨h, hbd⟩
  | succ n ih =>
    intro hn
    obtain ⟨i1, i2⟩ := ih (by omega)
    obtain ⟨g1, g2⟩ := gr1_rlx (show n < 16 by omega) (show N + 20 * n + 20 < 2 ^ 30 by omega) (hr n (by omega)) i2
    have e : dlyT false w t (n + 1) = gr1 w (dlyT false w t n) n := g1
    rw [e]
    exact ⟨gr1_eq4 (by omega) hw i1, bd4_mono g2 (by omega)⟩
theorem rnd_1 {w v : Nat → Int32} (hw : ∀ k, k < 16 → w k = v k) (hr : ∀ k, k < 16 → w k = (-9) ∨ ∃ m, m ≤ 20 ∧ w k = nI m) {t u : Nat → Int32} (h : eq4 t u) (hbd : bd4 0 t) : ∀ n, n ≤ 4 → eq4 (rndT false w t n) (iterN (fun tt => gl1 v tt 16) n u) ∧ bd4 (320 * n) (rndT false w t n) := by
  intro n
  induction n with
  | zero => intro _; exact ⟨h, hbd⟩
  | succ n ih =>
    intro hn
    obtain ⟨i1, i2⟩ := ih (by omega)
    have := dly_gl1 hw hr (show 320 * n + 320 < 2 ^ 30 by omega) i1 i2 16 (by omega)
    exact ⟨this.1, bd4_mono this.2 (by omega)⟩
theorem rnd_2 {w v : Nat → Int32} (hw : ∀ k, k < 16 → w k = v k) {t u : Nat → Int32} (h : eq4 t u) : ∀ n, eq4 (rndT true w t n) (iterN (fun tt => gl2 v tt 16) n u) := by
  intro n
  induction n with
  | zero => exact h
  | succ n ih =>
    show eq4 (dlyT true w (rndT true w t n) 16) (gl2 v (iterN (fun tt => gl2 v tt 16) n u) 16)
    rw [dly_gl2]
    exact gl2_eq4 hw ih 16 (Nat.le_refl _)
theorem gl2_st (w t : Nat → Int32) : ∀ n, n ≤ 16 → ∀ j, j < 4 → gl2 w t n j = t j ∨ gl2 w t n j = (-9) := by
  intro n
  induction n with
  | zero => intro _ j _; exact Or.inl rfl
  | succ n ih =>
    intro hn j hj
    have ih := ih (by omega)
    have key : ∀ u : Nat → Int32, gr2 w u n j = u j ∨ gr2 w u n j = (-9) := by
      intro u
      unfold gr2
      by_cases e : j = n / 4
      · subst e
        rw [xu_eq]
        split
        · exact Or.inl rfl
        split
        · exact Or.inl rfl
        split
        · exact Or.inr rfl
        split
        · exact Or.inl rfl
        · exact Or.inr rfl
      · rw [xu_ne e]; exact Or.inl rfl
    rcases key (gl2 w t n) with k | k
    · rcases ih j hj with q | q
      · exact Or.inl (k.trans q)
      · exact Or.inr (k.trans q)
    · exact Or.inr k
theorem ct_sub {p q : Nat → Bool} : ∀ {n : Nat}, (∀ j, j < n → p j = true → q j = true) → ct p n ≤ ct q n ∧ (ct p n = ct q n → ∀ j, j < n → q j = true → p j = true) := by
  intro n
  induction n with
  | zero => intro _; exact ⟨Nat.le_refl _, fun _ j h => absurd h (Nat.not_lt_zero j)⟩
  | succ n ih =>
    intro h
    obtain ⟨i1, i2⟩ := ih (fun j hj => h j (by omega))
    have hn := h n (by omega)
    have e1 : ct p (n + 1) = ct p n + (if p n = true then 1 else 0) := rfl
    have e2 : ct q (n + 1) = ct q n + (if q n = true then 1 else 0) := rfl
    by_cases a : p n = true
    · have b := hn a
      rw [if_pos a] at e1
      rw [if_pos b] at e2
      refine ⟨by omega, fun e j hj hq => ?_⟩
      by_cases z : j = n
      · subst z; exact a
      · exact i2 (by omega) j (by omega) hq
    · rw [if_neg a] at e1
      by_cases b : q n = true
      · rw [if_pos b] at e2
        exact ⟨by omega, fun e => absurd e (by omega)⟩
      · rw [if_neg b] at e2
        refine ⟨by omega, fun e j hj hq => ?_⟩
        by_cases z : j = n
        · subst z; exact absurd hq b
        · exact i2 (by omega) j (by omega) hq
theorem ct_full {p : Nat → Bool} : ∀ {n : Nat}, n ≤ ct p n → ∀ j, j < n → p j = true := by
  intro n
  induction n with
  | zero => intro _ j h; exact absurd h (Nat.not_lt_zero j)
  | succ n ih =>
    intro h j hj
    have e1 : ct p (n + 1) = ct p n + (if p n = true then 1 else 0) := rfl
    have := ct_le p n
    by_cases a : p n = true
    · by_cases z : j = n
      · subst z; exact a
      · rw [if_pos a] at e1
        exact ih (by omega) j (by omega)
    · rw [if_neg a] at e1
      omega
theorem rnd_fix (v u : Nat → Int32) : ∀ n, n ≤ ct (fun j => decide (iterN (fun tt => gl2 v tt 16) n u j = (-9))) 4 ∨ ∀ m, n ≤ m → eq4 (iterN (fun tt => gl2 v tt 16) m u) (iterN (fun tt => gl2 v tt 16) n u) := by
  intro n
  induction n with
  | zero => exact Or.inl (Nat.zero_le _)
  | succ n ih =>
    rcases ih with ih | ih
    · have st := gl2_st v (iterN (fun tt => gl2 v tt 16) n u) 16 (Nat.le_refl _)
      have sub := ct_sub (p := fun j => decide (iterN (fun tt => gl2 v tt 16) n u j = (-9))) (q := fun j => decide (iterN (fun tt => gl2 v tt 16) (n + 1) u j = (-9))) (n := 4) (fun j hj h => by
        have h := of_decide_eq_true h
        refine decide_eq_true ?_
        rcases st j hj with e | e
        · exact e.trans h
        · exact e)
      by_cases e : ct (fun j => decide (iterN (fun tt => gl2 v tt 16) n u j = (-9))) 4 = ct (fun j => decide (iterN (fun tt => gl2 v tt 16) (n + 1) u j = (-9))) 4
      · right
        have same : eq4 (iterN (fun tt => gl2 v tt 16) (n + 1) u) (iterN (fun tt => gl2 v tt 16) n u) := by
          intro j hj
          rcases st j hj with q | q
          · exact q
          · have := of_decide_eq_true (sub.2 e j hj (decide_eq_true q))
            exact q.trans this.symm
        intro m hm
        obtain ⟨d, rfl⟩ := Nat.exists_eq_add_of_le hm
        clear hm
        induction d with
        | zero => exact fun _ _ => rfl
        | succ d ih2 =>
          intro j hj
          have a : eq4 (iterN (fun tt => gl2 v tt 16) (n + 1 + d) u) (iterN (fun tt => gl2 v tt 16) n u) := fun j hj => (ih2 j hj).trans (same j hj)
          exact gl2_eq4 (fun _ _ => rfl) a 16 (Nat.le_refl _) j hj
      · left
        have := sub.1
        omega
    · right
      intro m hm j hj
      rw [ih m (by omega) j hj, ih (n + 1) (by omega) j hj]
theorem rnd_84 (v u : Nat → Int32) : eq4 (iterN (fun tt => gl2 v tt 16) 8 u) (iterN (fun tt => gl2 v tt 16) 4 u) := by
  rcases rnd_fix v u 4 with h | h
  · have a := ct_full h
    have b : ∀ n, eq4 (iterN (fun tt => gl2 v tt 16) (4 + n) u) (iterN (fun tt => gl2 v tt 16) 4 u) := by
      intro n
      induction n with
      | zero => exact fun _ _ => rfl
      | succ n ih =>
        intro j hj
        have q := of_decide_eq_true (a j hj)
        have q2 : iterN (fun tt => gl2 v tt 16) (4 + n) u j = (-9) := (ih j hj).trans q
        rcases gl2_st v (iterN (fun tt => gl2 v tt 16) (4 + n) u) 16 (Nat.le_refl _) j hj with e | e
        · exact (e.trans q2).trans q.symm
        · exact e.trans q.symm
    exact b 4
  · exact h 8 (by omega)
theorem go_eq {w v : Nat → Int32} (hw : ∀ k, k < 16 → v k = w k) (hr : ∀ k, k < 16 → w k = (-9) ∨ ∃ m, m ≤ 20 ∧ w k = nI m) (t u : Nat → Int32) : eq4 (rndT true w (rndT false w (mixF (fun _ => 0) t 4) 4) 4) (iterN (fun tt => gl2 v tt 16) 8 (iterN (fun tt => gl1 v tt 16) 4 (mixF (fun _ => 0) u 4))) := by
  have hw' : ∀ k, k < 16 → w k = v k := fun k hk => (hw k hk).symm
  have h0 : eq4 (mixF (fun _ => (0 : Int32)) t 4) (mixF (fun _ => 0) u 4) := fun j hj => by
    show (if j < 4 then (0 : Int32) else t j) = (if j < 4 then (0 : Int32) else u j)
    rw [if_pos hj, if_pos hj]
  have b0 : bd4 0 (mixF (fun _ => (0 : Int32)) t 4) := fun j hj => ⟨0, Nat.le_refl _, by
    show (if j < 4 then (0 : Int32) else t j) = nI 0
    rw [if_pos hj]
    rfl⟩
  have h1 := (rnd_1 hw' hr h0 b0 4 (Nat.le_refl _)).1
  intro j hj
  rw [rnd_84 v _ j hj]
  exact rnd_2 hw' h1 4 j hj
