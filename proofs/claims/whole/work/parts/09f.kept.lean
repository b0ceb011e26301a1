/-! The invariant is kept. -/
section IK
variable {nn : Nat} {xro : Int64} {xtk xli cn ci cs : Nat} {cso cki cfa cfb cfc cva csn csd csl csb csr pho : Nat → Nat} {nwa : Nat → Int32} {mso mwh mfi mse mth mpu mno mlo mbe mre : Nat → Nat} {mis mca : Nat → Bool} {mpa : Nat → Nat} {mne : Nat → Int32}
theorem inv_up (h : INV nn xro xtk xli cn ci cs cso cki cfa cfb cfc cva csn csd csl csb csr pho nwa mso mwh mfi mse mth mpu mno mlo mbe mre mis mca mpa mne) : INV (nn + 1) xro xtk xli cn ci cs cso cki cfa cfb cfc cva csn csd csl csb csr pho nwa mso mwh mfi mse mth mpu mno mlo mbe mre mis mca mpa mne := by
  obtain ⟨jn, js, cin, b, tk, rest⟩ := h
  exact ⟨jn, js, cin, b, by omega, rest⟩
/-- after a begin: every row can be, nothing is told -/
theorem inv_new (jn : JN cn ci cs cso cki cfa cfb cfc cva csn mso mwh mfi mse mth mpu) (js : JS cn cs cso csn csd csl csb csr mno mlo mbe mre) (cin : ct (inP cso) cn = ci) (b : cn ≤ 32 ∧ ci ≤ 4 ∧ cs ≤ 6) (pu : ∀ i, i < ci → mpu i ≤ 2) (li : xli < 16) (il : ∀ k, k < 4 → mis k = xli.testBit k) (ne : ∀ k, k < 16 → mne k = nwa k) (nr : ∀ k, k < 16 → nwa k = (-9) ∨ ∃ m, m ≤ 20 ∧ nwa k = nI m) (zk : ∀ j, cki j ≤ 4) (zv : ∀ j, cva j ≤ 2) :
    INV nn (alR cs) 0 xli cn ci cs cso cki cfa cfb cfc cva csn csd csl csb csr (mixF (fun _ => 2) pho 6) nwa mso mwh mfi mse mth mpu mno mlo mbe mre mis (mixF (fun jj => decide (jj < 2 ^ cs)) mca 64) (mixF (fun _ => 2) mpa 6) mne := by
  have m2 : ∀ (f : Nat → Nat) j, j < 6 → mixF (fun _ => 2) f 6 j = 2 := fun f j hj => if_pos hj
  refine ⟨jn, js, cin, b, by omega, pu, fun i hi => ?_, fun j hj => ?_, li, il, fun r hr => ?_, fun r hr q => ?_, ne, nr, zk, zv⟩
  · rw [m2 _ i (by omega), m2 _ i (by omega)]
  · rw [m2 _ j hj]; exact Nat.le_refl 2
  · rw [lb_alR cs (by omega) r hr]
    exact if_pos hr
  · rw [lb_alR cs (by omega) r hr] at q
    exact of_decide_eq_true q
theorem ct_upn (so : Nat → Nat) (n v : Nat) : ∀ j, j ≤ n → ct (inP (va_up so n v)) j = ct (inP so) j := fun j hj => ct_cong fun i hi => by
  show decide (va_up so n v i = 0) = decide (so i = 0)
  rw [xu_ne (by omega)]
/-- a node more, none of the old changed -/
theorem jn_add (jn : JN cn ci cs cso cki cfa cfb cfc cva csn mso mwh mfi mse mth mpu) {di ds so wh : Nat} {kif faf fbf fcf vaf snf puf : Nat → Nat} (hki : ∀ j, j < cn → kif j = cki j) (hfa : ∀ j, j < cn → faf j = cfa j) (hfb : ∀ j, j < cn → fbf j = cfb j) (hfc : ∀ j, j < cn → fcf j = cfc j) (hva : ∀ j, j < cn → vaf j = cva j) (hsn : ∀ j, j < cn → snf j = csn j) (hpu : ∀ i, i < ci → puf i = mpu i) (hdi : ci ≤ di) (hds : cs ≤ ds)
    {mfif msef mthf : Nat → Nat} (h1 : ∀ j, j < cn → mfif j = mfi j) (h2 : ∀ j, j < cn → msef j = mse j) (h3 : ∀ j, j < cn → mthf j = mth j)
    (hso : so ≤ 3) (hki4 : kif cn ≤ 4) (hva2 : vaf cn ≤ 2) (c2 : so = 2 → wh = kif cn ∧ mfif cn = faf cn ∧ msef cn = fbf cn ∧ mthf cn = fcf cn ∧ faf cn < cn ∧ fbf cn < cn ∧ fcf cn < cn) (c3 : so = 3 → wh = snf cn ∧ snf cn < ds) (c1 : so = 1 → wh = vaf cn ∧ vaf cn ≤ 1) (c0 : so = 0 → wh = ct (inP cso) cn ∧ wh < di ∧ puf wh = vaf cn) :
    JN (cn + 1) di ds (va_up cso cn so) kif faf fbf fcf vaf snf (va_up mso cn so) (va_up mwh cn wh) mfif msef mthf puf := by
  intro j hj
  by_cases e : j = cn
  · subst e
    rw [xu_eq, xu_eq, xu_eq, ct_upn _ _ _ _ (Nat.le_refl _)]
    exact ⟨rfl, hso, hki4, hva2, c2, c3, c1, c0⟩
  · have hj : j < cn := by omega
    obtain ⟨g1, g2, g3, g4, g5, g6, g7, g8⟩ := jn j hj
    rw [xu_ne e, xu_ne e, xu_ne e, ct_upn _ _ _ _ (by omega), hki j hj, hfa j hj, hfb j hj, hfc j hj, hva j hj, hsn j hj, h1 j hj, h2 j hj, h3 j hj]
    refine ⟨g1, g2, g3, g4, g5, fun z => ⟨(g6 z).1, by have := (g6 z).2; omega⟩, g7, fun z => ⟨(g8 z).1, by have := (g8 z).2.1; omega, ?_⟩⟩
    rw [hpu _ (g8 z).2.1]
    exact (g8 z).2.2
theorem js_add (js : JS cn cs cso csn csd csl csb csr mno mlo mbe mre) {so : Nat} : JS (cn + 1) cs (va_up cso cn so) csn csd csl csb csr mno mlo mbe mre := by
  intro i hi
  obtain ⟨s1, s2, s3, s4, s5, s6, s7, s8, s9, s0⟩ := js i hi
  refine ⟨s1, by omega, s3, s4, s5, s6, s7, by omega, ?_, s0⟩
  rw [xu_ne (by omega)]
  exact s9
theorem va_le {f : Nat → Nat} {n v b : Nat} (h : ∀ j, f j ≤ b) (hv : v ≤ b) : ∀ j, va_up f n v j ≤ b := fun j => by
  by_cases e : j = n
  · subst e; rw [xu_eq]; exact hv
  · rw [xu_ne e]; exact h j
theorem une {α : Type} {f : Nat → α} {n : Nat} {v : α} : ∀ j, j < n → va_up f n v j = f j := fun j hj => xu_ne (by omega)
theorem inv_input (h : INV nn xro xtk xli cn ci cs cso cki cfa cfb cfc cva csn csd csl csb csr pho nwa mso mwh mfi mse mth mpu mno mlo mbe mre mis mca mpa mne) (hcn : cn < 32) (hci : ci < 4) : INV (nn + 1) (alR cs) 0 xli (cn + 1) (ci + 1) cs (va_up cso cn 0) cki cfa cfb cfc (va_up cva cn 2) csn csd csl csb csr (mixF (fun _ => 2) pho 6) nwa (va_up mso cn 0) (va_up mwh cn ci) (va_up mfi cn 0) (va_up mse cn 0) (va_up mth cn 0) (va_up mpu ci 2) mno mlo mbe mre mis (mixF (fun jj => decide (jj < 2 ^ cs)) mca 64) (mixF (fun _ => 2) mpa 6) mne := by
  obtain ⟨jn, js, cin, ⟨bn, bi, bs⟩, tk, pu, pa, ho, li, il, ro, rl, ne, nr, zk, zv⟩ := h
  refine inv_new (jn_add jn (fun _ _ => rfl) (fun _ _ => rfl) (fun _ _ => rfl) (fun _ _ => rfl) une (fun _ _ => rfl) une (by omega) (Nat.le_refl _) une une une (by omega) (zk _) (by rw [xu_eq]; omega) (fun e => absurd e (by decide)) (fun e => absurd e (by decide)) (fun e => absurd e (by decide)) (fun _ => ⟨cin.symm, by omega, by rw [xu_eq, xu_eq]⟩)) (js_add js) ?_ ⟨by omega, by omega, bs⟩ (fun i hi => ?_) li il ne nr zk (va_le zv (by omega))
  · show ct (inP (va_up cso cn 0)) cn + (if decide (va_up cso cn 0 cn = 0) = true then 1 else 0) = ci + 1
    rw [ct_upn _ _ _ _ (Nat.le_refl _), cin, xu_eq]
    rfl
  · by_cases e : i = ci
    · subst e; rw [xu_eq]; omega
    · rw [xu_ne e]; exact pu i (by omega)
theorem ct_no (so : Nat → Nat) (n v : Nat) (hv : ¬ v = 0) : ct (inP (va_up so n v)) (n + 1) = ct (inP so) n := by
  show ct (inP (va_up so n v)) n + (if decide (va_up so n v n = 0) = true then 1 else 0) = _
  rw [ct_upn _ _ _ _ (Nat.le_refl _), xu_eq, decide_eq_false hv]
  rfl
theorem inv_fixed (h : INV nn xro xtk xli cn ci cs cso cki cfa cfb cfc cva csn csd csl csb csr pho nwa mso mwh mfi mse mth mpu mno mlo mbe mre mis mca mpa mne) (hcn : cn < 32) {v : Nat} (hv : v ≤ 1) : INV (nn + 1) (alR cs) 0 xli (cn + 1) ci cs (va_up cso cn 1) cki cfa cfb cfc (va_up cva cn v) csn csd csl csb csr (mixF (fun _ => 2) pho 6) nwa (va_up mso cn 1) (va_up mwh cn v) (va_up mfi cn 0) (va_up mse cn 0) (va_up mth cn 0) mpu mno mlo mbe mre mis (mixF (fun jj => decide (jj < 2 ^ cs)) mca 64) (mixF (fun _ => 2) mpa 6) mne := by
  obtain ⟨jn, js, cin, ⟨bn, bi, bs⟩, tk, pu, pa, ho, li, il, ro, rl, ne, nr, zk, zv⟩ := h
  exact inv_new (jn_add jn (fun _ _ => rfl) (fun _ _ => rfl) (fun _ _ => rfl) (fun _ _ => rfl) une (fun _ _ => rfl) (fun _ _ => rfl) (Nat.le_refl _) (Nat.le_refl _) une une une (by omega) (zk _) (by rw [xu_eq]; omega) (fun e => absurd e (by decide)) (fun e => absurd e (by decide)) (fun _ => ⟨by rw [xu_eq], by rw [xu_eq]; exact hv⟩) (fun e => absurd e (by decide))) (js_add js) ((ct_no _ _ _ (by decide)).trans cin) ⟨by omega, bi, bs⟩ pu li il ne nr zk (va_le zv (by omega))
theorem inv_gate (h : INV nn xro xtk xli cn ci cs cso cki cfa cfb cfc cva csn csd csl csb csr pho nwa mso mwh mfi mse mth mpu mno mlo mbe mre mis mca mpa mne) (hcn : cn < 32) {k a b c : Nat} (hk : k ≤ 4) (ha : a < cn) (hb4 : b < cn) (hc4 : c < cn) : INV (nn + 1) (alR cs) 0 xli (cn + 1) ci cs (va_up cso cn 2) (va_up cki cn k) (va_up cfa cn a) (va_up cfb cn b) (va_up cfc cn c) cva csn csd csl csb csr (mixF (fun _ => 2) pho 6) nwa (va_up mso cn 2) (va_up mwh cn k) (va_up mfi cn a) (va_up mse cn b) (va_up mth cn c) mpu mno mlo mbe mre mis (mixF (fun jj => decide (jj < 2 ^ cs)) mca 64) (mixF (fun _ => 2) mpa 6) mne := by
  obtain ⟨jn, js, cin, ⟨bn, bi, bs⟩, tk, pu, pa, ho, li, il, ro, rl, ne, nr, zk, zv⟩ := h
  exact inv_new (jn_add jn une une une une (fun _ _ => rfl) (fun _ _ => rfl) (fun _ _ => rfl) (Nat.le_refl _) (Nat.le_refl _) une une une (by omega) (by rw [xu_eq]; exact hk) (zv _) (fun _ => by rw [xu_eq, xu_eq, xu_eq, xu_eq, xu_eq, xu_eq, xu_eq]; exact ⟨rfl, rfl, rfl, rfl, ha, hb4, hc4⟩) (fun e => absurd e (by decide)) (fun e => absurd e (by decide)) (fun e => absurd e (by decide))) (js_add js) ((ct_no _ _ _ (by decide)).trans cin) ⟨by omega, bi, bs⟩ pu li il ne nr (va_le zk hk) zv
theorem inv_store (h : INV nn xro xtk xli cn ci cs cso cki cfa cfb cfc cva csn csd csl csb csr pho nwa mso mwh mfi mse mth mpu mno mlo mbe mre mis mca mpa mne) (hcn : cn < 32) (hcs : cs < 6) {ln v : Nat} (hl4 : ln ≤ 4) (hv : v ≤ 1) : INV (nn + 1) (alR (cs + 1)) 0 xli (cn + 1) ci (cs + 1) (va_up cso cn 3) cki cfa cfb cfc cva (va_up csn cn cs) (va_up csd cs cn) (va_up csl cs ln) (va_up csb cs v) (va_up csr cs cn) (mixF (fun _ => 2) pho 6) nwa (va_up mso cn 3) (va_up mwh cn cs) (va_up mfi cn 0) (va_up mse cn 0) (va_up mth cn 0) mpu (va_up mno cs cn) (va_up mlo cs ln) (va_up mbe cs v) (va_up mre cs cn) mis (mixF (fun jj => decide (jj < 2 ^ (cs + 1))) mca 64) (mixF (fun _ => 2) mpa 6) mne := by
  obtain ⟨jn, js, cin, ⟨bn, bi, bs⟩, tk, pu, pa, ho, li, il, ro, rl, ne, nr, zk, zv⟩ := h
  refine inv_new (jn_add jn (fun _ _ => rfl) (fun _ _ => rfl) (fun _ _ => rfl) (fun _ _ => rfl) (fun _ _ => rfl) une (fun _ _ => rfl) (Nat.le_refl _) (by omega) une une une (by omega) (zk _) (zv _) (fun e => absurd e (by decide)) (fun _ => by rw [xu_eq]; exact ⟨rfl, by omega⟩) (fun e => absurd e (by decide)) (fun e => absurd e (by decide))) (fun i hi => ?_) ((ct_no _ _ _ (by decide)).trans cin) ⟨by omega, bi, by omega⟩ pu li il ne nr zk zv
  by_cases e : i = cs
  · subst e
    simp only [xu_eq]
    exact ⟨trivial, by omega, trivial, hl4, trivial, hv, trivial, by omega, trivial, trivial⟩
  · obtain ⟨s1, s2, s3, s4, s5, s6, s7, s8, s9, s0⟩ := js i (by omega)
    rw [xu_ne e, xu_ne e, xu_ne e, xu_ne e, xu_ne e, xu_ne e, xu_ne e, xu_ne e, xu_ne (show ¬ csd i = cn by omega), xu_ne (show ¬ csd i = cn by omega)]
    exact ⟨s1, by omega, s3, s4, s5, s6, s7, by omega, s9, s0⟩
theorem inv_reads (h : INV nn xro xtk xli cn ci cs cso cki cfa cfb cfc cva csn csd csl csb csr pho nwa mso mwh mfi mse mth mpu mno mlo mbe mre mis mca mpa mne) {k n : Nat} (hk : k < cn) (hn : n < cn) (h3 : cso k = 3) : INV (nn + 1) (alR cs) 0 xli cn ci cs cso cki cfa cfb cfc cva csn csd csl csb (va_up csr (csn k) n) (mixF (fun _ => 2) pho 6) nwa mso mwh mfi mse mth mpu mno mlo mbe (va_up mre (mwh k) n) mis (mixF (fun jj => decide (jj < 2 ^ cs)) mca 64) (mixF (fun _ => 2) mpa 6) mne := by
  obtain ⟨jn, js, cin, ⟨bn, bi, bs⟩, tk, pu, pa, ho, li, il, ro, rl, ne, nr, zk, zv⟩ := h
  obtain ⟨h1, h2, h3', h4, h5, h6, h7, h8⟩ := jn k hk
  refine inv_new jn (fun i hi => ?_) cin ⟨bn, bi, bs⟩ pu li il ne nr zk zv
  obtain ⟨s1, s2, s3, s4, s5, s6, s7, s8, s9, s0⟩ := js i hi
  rw [(h6 h3).1]
  by_cases e : i = csn k
  · subst e
    rw [xu_eq, xu_eq]
    exact ⟨s1, s2, s3, s4, s5, s6, rfl, hn, s9, s0⟩
  · rw [xu_ne e, xu_ne e]
    exact ⟨s1, s2, s3, s4, s5, s6, s7, s8, s9, s0⟩
theorem inv_fresh (h : INV nn xro xtk xli cn ci cs cso cki cfa cfb cfc cva csn csd csl csb csr pho nwa mso mwh mfi mse mth mpu mno mlo mbe mre mis mca mpa mne) : INV (nn + 1) (alR cs) 0 xli cn ci cs cso cki cfa cfb cfc cva csn csd csl csb csr (mixF (fun _ => 2) pho 6) nwa mso mwh mfi mse mth mpu mno mlo mbe mre mis (mixF (fun jj => decide (jj < 2 ^ cs)) mca 64) (mixF (fun _ => 2) mpa 6) mne := by
  obtain ⟨jn, js, cin, ⟨bn, bi, bs⟩, tk, pu, pa, ho, li, il, ro, rl, ne, nr, zk, zv⟩ := h
  exact inv_new jn js cin ⟨bn, bi, bs⟩ pu li il ne nr zk zv
theorem clr_tb : ∀ x, x < 16 → ∀ k, k < 4 → ∀ j, j < 4 → (clr x k).testBit j = (if j = k then false else x.testBit j) ∧ clr x k < 16 := by decide +kernel
theorem set_tb : ∀ x, x < 16 → ∀ k, k < 4 → ∀ j, j < 4 → (x ||| 2 ^ k).testBit j = (if j = k then true else x.testBit j) ∧ x ||| 2 ^ k < 16 := by decide +kernel
theorem inv_line (h : INV nn xro xtk xli cn ci cs cso cki cfa cfb cfc cva csn csd csl csb csr pho nwa mso mwh mfi mse mth mpu mno mlo mbe mre mis mca mpa mne) {k : Nat} (hk : k < 4) {on : Bool} : INV (nn + 1) xro xtk (if on = true then xli ||| 2 ^ k else clr xli k) cn ci cs cso cki cfa cfb cfc cva csn csd csl csb csr pho nwa mso mwh mfi mse mth mpu mno mlo mbe mre (va_up mis k on) mca mpa mne := by
  obtain ⟨jn, js, cin, ⟨bn, bi, bs⟩, tk, pu, pa, ho, li, il, ro, rl, ne, nr, zk, zv⟩ := h
  refine ⟨jn, js, cin, ⟨bn, bi, bs⟩, by omega, pu, pa, ho, ?_, fun j hj => ?_, ro, rl, ne, nr, zk, zv⟩
  · cases on
    · exact (clr_tb xli li k hk 0 (by omega)).2
    · exact (set_tb xli li k hk 0 (by omega)).2
  · cases on
    · rw [if_neg (by decide), (clr_tb xli li k hk j hj).1]
      by_cases e : j = k
      · subst e; rw [xu_eq, if_pos rfl]
      · rw [xu_ne e, if_neg e]; exact il j hj
    · rw [if_pos rfl, (set_tb xli li k hk j hj).1]
      by_cases e : j = k
      · subst e; rw [xu_eq, if_pos rfl]
      · rw [xu_ne e, if_neg e]; exact il j hj
theorem inv_set (h : INV nn xro xtk xli cn ci cs cso cki cfa cfb cfc cva csn csd csl csb csr pho nwa mso mwh mfi mse mth mpu mno mlo mbe mre mis mca mpa mne) {k v : Nat} (hk : k < cn) (h0 : cso k = 0) (hv : v ≤ 2) : INV (nn + 1) xro xtk xli cn ci cs cso cki cfa cfb cfc (va_up cva k v) csn csd csl csb csr pho nwa mso mwh mfi mse mth (va_up mpu (mwh k) v) mno mlo mbe mre mis mca mpa mne := by
  obtain ⟨jn, js, cin, ⟨bn, bi, bs⟩, tk, pu, pa, ho, li, il, ro, rl, ne, nr, zk, zv⟩ := h
  obtain ⟨k1, k2, k3, k4, k5, k6, k7, k8⟩ := jn k hk
  refine ⟨fun j hj => ?_, js, cin, ⟨bn, bi, bs⟩, by omega, fun i hi => ?_, pa, ho, li, il, ro, rl, ne, nr, zk, va_le zv hv⟩
  · obtain ⟨g1, g2, g3, g4, g5, g6, g7, g8⟩ := jn j hj
    by_cases e : j = k
    · subst e
      rw [xu_eq]
      refine ⟨g1, g2, g3, hv, g5, g6, fun z => absurd (h0.symm.trans z) (by decide), fun z => ⟨(g8 z).1, (g8 z).2.1, ?_⟩⟩
      rw [xu_eq]
    · rw [xu_ne e]
      refine ⟨g1, g2, g3, g4, g5, g6, g7, fun z => ⟨(g8 z).1, (g8 z).2.1, ?_⟩⟩
      rw [xu_ne (fun q => e (ct_inj (p := inP cso) (decide_eq_true z) (decide_eq_true h0) (((g8 z).1.symm.trans q).trans (k8 h0).1)))]
      exact (g8 z).2.2
  · by_cases e : i = mwh k
    · subst e; rw [xu_eq]; exact hv
    · rw [xu_ne e]; exact pu i hi
theorem inv_need (h : INV nn xro xtk xli cn ci cs cso cki cfa cfb cfc cva csn csd csl csb csr pho nwa mso mwh mfi mse mth mpu mno mlo mbe mre mis mca mpa mne) {a b : Nat} {zz : Int32} (ha : a < 4) (hb4 : b < 4) (hz : zz = (-9) ∨ (¬ zz < 0 ∧ zz ≤ nI 20)) : INV (nn + 1) xro xtk xli cn ci cs cso cki cfa cfb cfc cva csn csd csl csb csr pho (va_up nwa (4 * a + b) zz) mso mwh mfi mse mth mpu mno mlo mbe mre mis mca mpa (va_up mne (4 * a + b) zz) := by
  obtain ⟨jn, js, cin, ⟨bn, bi, bs⟩, tk, pu, pa, ho, li, il, ro, rl, ne, nr, zk, zv⟩ := h
  refine ⟨jn, js, cin, ⟨bn, bi, bs⟩, by omega, pu, pa, ho, li, il, ro, rl, fun k hk => ?_, fun k hk => ?_, zk, zv⟩
  · by_cases e : k = 4 * a + b
    · subst e; rw [xu_eq, xu_eq]
    · rw [xu_ne e, xu_ne e]; exact ne k hk
  · by_cases e : k = 4 * a + b
    · subst e
      rw [xu_eq]
      rcases hz with hz | ⟨z1, z2⟩
      · exact Or.inl hz
      · obtain ⟨m, hm, rfl⟩ := nI_of (x := zz) z1
        refine Or.inr ⟨m, ?_, rfl⟩
        rw [Int32.le_iff_toInt_le, nI_toInt hm, nI_toInt (by omega)] at z2
        omega
    · rw [xu_ne e]; exact nr k hk
theorem inv_tick (h : INV nn xro xtk xli cn ci cs cso cki cfa cfb cfc cva csn csd csl csb csr pho nwa mso mwh mfi mse mth mpu mno mlo mbe mre mis mca mpa mne) {n : Nat} (hn64 : n ≤ 64) {won wle : Nat → Int64} {pte : Nat → Nat} {mcb : Nat → Bool} (hmc : ∀ r, r < 64 → mcb r = iterN (stpF mpu (trC mso mwh mfi mse mth mre mbe cn cs (bN (rsP mlo mis) cs)) false ci cs) n mca r) : INV (nn + 1) (iterN (aftF csb cs (preT cso cki cfa cfb cfc cva csn csr cn cs false won wle (2 ^ ct (opP cso cva false) cn)).2 (bN (stP csl xli) cs)) n xro) (xtk + n) xli cn ci cs cso cki cfa cfb cfc cva csn csd csl csb csr ((pasT cso cki cfa cfb cfc cva csn csb csr cn cs (bN (stP csl xli) cs) pte pho n).2) nwa mso mwh mfi mse mth mpu mno mlo mbe mre mis mcb (iterN (pstF mso mwh mfi mse mth mpu mbe mre cn cs (bN (rsP mlo mis) cs)) n mpa) mne := by
  obtain ⟨hso, hg, hs, hin, hsr, hsb, hsl⟩ := inv_cls h
  obtain ⟨jn, js, cin, ⟨bn, bi, bs⟩, tk, pu, pa, ho, li, il, ro, rl, ne, nr, zk, zv⟩ := h
  rw [← rs_eq js il] at hmc ⊢
  have hlt := bN_lt (stP csl xli) cs
  refine ⟨jn, js, cin, ⟨bn, bi, bs⟩, by omega, pu, part_eq jn js pa n, pasT_le bs hso hg hs ho hsr hsb n, li, il, fun r hr => ?_, fun r hr q => ?_, ne, nr, zk, zv⟩
  · rw [hmc r hr]
    exact iter_eq jn js bs cin hlt ro n r hr
  · have e := iter_eq jn js bs cin (ao := false) (on := won) (le := wle) hlt ro n r hr
    refine iter_lt jn js bs (ci := ci) (ao := false) hlt (S := mca) (fun t ht z => rl t ht ((ro t ht).symm.trans z)) n r hr ?_
    exact e.trans q
end IK
