/-! Class and reference, call by call: both answer the same, and the invariant holds behind. -/
def isA (q : Nat → Nat) (cI cJ : ClassId) (w : va_W) : Prop := ∃ (xro : Int64) (xtk : Nat) (xli : Nat) (cn : Nat) (ci : Nat) (cs : Nat) (cso : Nat → Nat) (cki : Nat → Nat) (cfa : Nat → Nat) (cfb : Nat → Nat) (cfc : Nat → Nat) (cva : Nat → Nat) (csn : Nat → Nat) (csd : Nat → Nat) (csl : Nat → Nat) (csb : Nat → Nat) (csr : Nat → Nat) (csc : Nat → Nat) (won : Nat → Int64) (wle : Nat → Int64) (pte : Nat → Nat) (pho : Nat → Nat) (nwa : Nat → Int32) (nti : Nat → Int32), w = wA q cI cJ xro xtk xli cn ci cs cso cki cfa cfb cfc cva csn csd csl csb csr csc won wle pte pho nwa nti
def St (q z : Nat → Nat) (cI cJ cZ : ClassId) (nn : Nat) (w1 w2 : va_W) : Prop := ∃ (xro : Int64) (xtk : Nat) (xli : Nat) (cn : Nat) (ci : Nat) (cs : Nat) (cso : Nat → Nat) (cki : Nat → Nat) (cfa : Nat → Nat) (cfb : Nat → Nat) (cfc : Nat → Nat) (cva : Nat → Nat) (csn : Nat → Nat) (csd : Nat → Nat) (csl : Nat → Nat) (csb : Nat → Nat) (csr : Nat → Nat) (csc : Nat → Nat) (won : Nat → Int64) (wle : Nat → Int64) (pte : Nat → Nat) (pho : Nat → Nat) (nwa : Nat → Int32) (nti : Nat → Int32) (mso : Nat → Nat) (mwh : Nat → Nat) (mfi : Nat → Nat) (mse : Nat → Nat) (mth : Nat → Nat) (mpu : Nat → Nat) (mno : Nat → Nat) (mlo : Nat → Nat) (mbe : Nat → Nat) (mre : Nat → Nat) (mis : Nat → Bool) (mca : Nat → Bool) (mpa : Nat → Nat) (mva : Nat → Nat) (mle : Nat → Nat) (mst : Nat → Bool) (mtn : Nat → Bool) (mln : Nat → Nat) (mne : Nat → Int32) (mgo : Nat → Int32), INV nn xro xtk xli cn ci cs cso cki cfa cfb cfc cva csn csd csl csb csr pho nwa mso mwh mfi mse mth mpu mno mlo mbe mre mis mca mpa mne ∧ w1 = wA q cI cJ xro xtk xli cn ci cs cso cki cfa cfb cfc cva csn csd csl csb csr csc won wle pte pho nwa nti ∧ w2 = wM z cI cZ cn ci cs xtk mso mwh mfi mse mth mpu mno mlo mbe mre mis mca mpa mva mle mst mtn mln mne mgo
abbrev Fit (K : Nat) (rm : Room) : Prop := rm.cells = 0 ∧ rm.slots = 0 ∧ rm.frames + 1 ≤ 7 ∧ 8 + (K + 11) + rm.locals ≤ 226
/-- the class's method answers v out of the world w1, the reference's answers v out of w2, for any arguments av -/
def Jt (l : Launch) (D : va_G) (cI cJ cZ : ClassId) (q z : Nat → Nat) (nn : Nat) (y1 : MethodName) (ws1 : List Cond) (K1 : Nat) (y2 : MethodName) (ws2 : List Cond) (K2 : Nat) (av : List Value) (w1 w2 : va_W) : Prop :=
  ∃ (v : Int32) (rm1 : Room) (w1' : va_W), Fit K1 rm1 ∧ isA q cI cJ w1' ∧ Ct l D cI cJ cZ y1 ws1 rm1 0 0 (.ref (q 0) :: av) w1 (S := Unit) (fun _ => True) (fun _ => some (.int v)) (fun _ => w1') ∧
    ∃ (rm2 : Room) (S : Type) (ps : S → Prop) (w2' : S → va_W), Fit K2 rm2 ∧ Ct l D cI cJ cZ y2 ws2 rm2 0 0 (.ref (z 0) :: av) w2 ps (fun _ => some (.int v)) w2' ∧ ∀ u, ps u → St q z cI cJ cZ (nn + 1) w1' (w2' u)
section JT
variable {l : Launch} {D : va_G} {cI cJ cZ : ClassId} {q z : Nat → Nat} {nn : Nat}
theorem Jt.mk {y1 : MethodName} {ws1 : List Cond} {K1 : Nat} {y2 : MethodName} {ws2 : List Cond} {K2 : Nat} {av : List Value} {w1 w2 : va_W} {v v2 : Int32} {rm1 rm2 : Room} {w1' : va_W} {S : Type} {ps : S → Prop} {w2' : S → va_W}
    (c1 : Ct l D cI cJ cZ y1 ws1 rm1 0 0 (.ref (q 0) :: av) w1 (S := Unit) (fun _ => True) (fun _ => some (.int v)) (fun _ => w1')) (c2 : Ct l D cI cJ cZ y2 ws2 rm2 0 0 (.ref (z 0) :: av) w2 ps (fun _ => some (.int v2)) w2') (ev : v = v2) (f1 : Fit K1 rm1) (f2 : Fit K2 rm2) (i1 : isA q cI cJ w1') (st : ∀ u, ps u → St q z cI cJ cZ (nn + 1) w1' (w2' u)) : Jt l D cI cJ cZ q z nn y1 ws1 K1 y2 ws2 K2 av w1 w2 := by
  subst ev
  exact ⟨v, rm1, w1', f1, i1, c1, rm2, S, ps, w2', f2, c2, st⟩
variable {xro : Int64} {xtk : Nat} {xli : Nat} {cn : Nat} {ci : Nat} {cs : Nat} {cso : Nat → Nat} {cki : Nat → Nat} {cfa : Nat → Nat} {cfb : Nat → Nat} {cfc : Nat → Nat} {cva : Nat → Nat} {csn : Nat → Nat} {csd : Nat → Nat} {csl : Nat → Nat} {csb : Nat → Nat} {csr : Nat → Nat} {csc : Nat → Nat} {won : Nat → Int64} {wle : Nat → Int64} {pte : Nat → Nat} {pho : Nat → Nat} {nwa : Nat → Int32} {nti : Nat → Int32} {mso : Nat → Nat} {mwh : Nat → Nat} {mfi : Nat → Nat} {mse : Nat → Nat} {mth : Nat → Nat} {mpu : Nat → Nat} {mno : Nat → Nat} {mlo : Nat → Nat} {mbe : Nat → Nat} {mre : Nat → Nat} {mis : Nat → Bool} {mca : Nat → Bool} {mpa : Nat → Nat} {mva : Nat → Nat} {mle : Nat → Nat} {mst : Nat → Bool} {mtn : Nat → Bool} {mln : Nat → Nat} {mne : Nat → Int32} {mgo : Nat → Int32}
theorem isA.mk : isA q cI cJ (wA q cI cJ xro xtk xli cn ci cs cso cki cfa cfb cfc cva csn csd csl csb csr csc won wle pte pho nwa nti) := ⟨xro, xtk, xli, cn, ci, cs, cso, cki, cfa, cfb, cfc, cva, csn, csd, csl, csb, csr, csc, won, wle, pte, pho, nwa, nti, rfl⟩
theorem St.mk (h : INV nn xro xtk xli cn ci cs cso cki cfa cfb cfc cva csn csd csl csb csr pho nwa mso mwh mfi mse mth mpu mno mlo mbe mre mis mca mpa mne) : St q z cI cJ cZ nn (wA q cI cJ xro xtk xli cn ci cs cso cki cfa cfb cfc cva csn csd csl csb csr csc won wle pte pho nwa nti) (wM z cI cZ cn ci cs xtk mso mwh mfi mse mth mpu mno mlo mbe mre mis mca mpa mva mle mst mtn mln mne mgo) := ⟨xro, xtk, xli, cn, ci, cs, cso, cki, cfa, cfb, cfc, cva, csn, csd, csl, csb, csr, csc, won, wle, pte, pho, nwa, nti, mso, mwh, mfi, mse, mth, mpu, mno, mlo, mbe, mre, mis, mca, mpa, mva, mle, mst, mtn, mln, mne, mgo, h, rfl, rfl⟩
theorem bitB_t {x : Int32} (h : bitB x = true) : ∃ v, v ≤ 1 ∧ x = nI v := by
  unfold bitB at h
  simp only [Bool.or_eq_true, decide_eq_true_eq] at h
  rcases h with h | h
  · exact ⟨0, by omega, h⟩
  · exact ⟨1, by omega, h⟩
theorem rng {x : Int32} {n : Nat} (hn : n < 2 ^ 31) : (x < 0 ∨ ¬ x ≤ nI n) ∨ ∃ k, k ≤ n ∧ x = nI k := by
  by_cases h : x < 0
  · exact Or.inl (Or.inl h)
  by_cases h2 : x ≤ nI n
  · obtain ⟨k, hk, rfl⟩ := nI_of (x := x) h
    refine Or.inr ⟨k, ?_, rfl⟩
    rw [Int32.le_iff_toInt_le, nI_toInt hk, nI_toInt hn] at h2
    omega
  · exact Or.inl (Or.inr h2)
theorem rngI {x : Int32} {n : Nat} (hn : n < 2 ^ 31) (h : x < 0 ∨ ¬ x ≤ nI n) : x.toInt < 0 ∨ (n : Int) < x.toInt := by
  rw [Int32.lt_iff_toInt_lt, Int32.le_iff_toInt_le, nI_toInt hn, Int32.toInt_zero] at h
  omega
theorem isN_f {x : Int32} {n : Nat} (h : isN n x = false) : x < 0 ∨ ¬ x < nI n := by
  unfold isN at h
  by_cases h1 : x < 0
  · exact Or.inl h1
  · right
    intro h2
    have h3 : ¬ nI n ≤ x := Int32.not_le.mpr h2
    simp [h1, h3] at h
theorem line_c (x : Int32) : (¬ x = (-9) ∧ isN 4 x = false) ∨ ∃ ln, ln ≤ 4 ∧ x = lI ln := by
  by_cases h : x = (-9)
  · exact Or.inr ⟨4, by omega, h⟩
  · cases h2 : isN 4 x with
    | false => exact Or.inl ⟨h, rfl⟩
    | true =>
      obtain ⟨k, hk, e⟩ := isN_t (by omega) h2
      exact Or.inr ⟨k, by omega, e.trans (lI_lt hk).symm⟩
set_option maxHeartbeats 4000000 in
set_option maxRecDepth 100000 in
theorem j_input (h : INV nn xro xtk xli cn ci cs cso cki cfa cfb cfc cva csn csd csl csb csr pho nwa mso mwh mfi mse mth mpu mno mlo mbe mre mis mca mpa mne)  : Jt l D cI cJ cZ q z nn yX4_input wsX4_input 2 yX5_input wsX5_input 1 [] (wA q cI cJ xro xtk xli cn ci cs cso cki cfa cfb cfc cva csn csd csl csb csr csc won wle pte pho nwa nti) (wM z cI cZ cn ci cs xtk mso mwh mfi mse mth mpu mno mlo mbe mre mis mca mpa mva mle mst mtn mln mne mgo) := by
  obtain ⟨hso, hg, hs, hin, hsr, hsb, hsl⟩ := inv_cls h
  obtain ⟨rso, rwk, rg, rwf, rwi, rws, rre, rbe, rlo, rpa, rno⟩ := inv_ref h
  obtain ⟨jn, js, cin, ⟨bn, bi, bs⟩, tk, pu, pa, ho, li, il, ro, rl, ne, nr, zk, zv⟩ := id h
  by_cases e : ci = 4 ∨ cn = 32
  · exact Jt.mk (c_X4_input_f l D cI cJ cZ q xro xtk xli cn ci cs cso cki cfa cfb cfc cva csn csd csl csb csr csc won wle pte pho nwa nti (by omega) (by omega) (by omega)) (c_X5_input_f l D cI cJ cZ z cn ci cs xtk mso mwh mfi mse mth mpu mno mlo mbe mre mis mca mpa mva mle mst mtn mln mne mgo (by omega) (by omega) e) rfl ⟨rfl, rfl, Nat.le_of_ble_eq_true rfl, Nat.le_of_ble_eq_true rfl⟩ ⟨rfl, rfl, Nat.le_of_ble_eq_true rfl, Nat.le_of_ble_eq_true rfl⟩ isA.mk (fun u hu => St.mk (inv_up h))
  · exact Jt.mk (c_X4_input l D cI cJ cZ q xro xtk xli cn ci cs cso cki cfa cfb cfc cva csn csd csl csb csr csc won wle pte pho nwa nti (by omega) (by omega) (by omega)) (c_X5_input l D cI cJ cZ z cn ci cs xtk mso mwh mfi mse mth mpu mno mlo mbe mre mis mca mpa mva mle mst mtn mln mne mgo (by omega) (by omega) (by omega)) rfl ⟨rfl, rfl, Nat.le_of_ble_eq_true rfl, Nat.le_of_ble_eq_true rfl⟩ ⟨rfl, rfl, Nat.le_of_ble_eq_true rfl, Nat.le_of_ble_eq_true rfl⟩ isA.mk (fun u hu => St.mk (inv_input h (by omega) (by omega)))
set_option maxHeartbeats 4000000 in
set_option maxRecDepth 100000 in
theorem j_fixed (h : INV nn xro xtk xli cn ci cs cso cki cfa cfb cfc cva csn csd csl csb csr pho nwa mso mwh mfi mse mth mpu mno mlo mbe mre mis mca mpa mne) (x : Int32) : Jt l D cI cJ cZ q z nn yX4_fixed wsX4_fixed 3 yX5_fixed wsX5_fixed 2 [.int x] (wA q cI cJ xro xtk xli cn ci cs cso cki cfa cfb cfc cva csn csd csl csb csr csc won wle pte pho nwa nti) (wM z cI cZ cn ci cs xtk mso mwh mfi mse mth mpu mno mlo mbe mre mis mca mpa mva mle mst mtn mln mne mgo) := by
  obtain ⟨hso, hg, hs, hin, hsr, hsb, hsl⟩ := inv_cls h
  obtain ⟨rso, rwk, rg, rwf, rwi, rws, rre, rbe, rlo, rpa, rno⟩ := inv_ref h
  obtain ⟨jn, js, cin, ⟨bn, bi, bs⟩, tk, pu, pa, ho, li, il, ro, rl, ne, nr, zk, zv⟩ := id h
  cases e : bitB x with
  | false => exact Jt.mk (c_X4_fixed_o l D cI cJ cZ q xro xtk xli cn ci cs cso cki cfa cfb cfc cva csn csd csl csb csr csc won wle pte pho nwa nti x e) (c_X5_fixed_o l D cI cJ cZ z cn ci cs xtk mso mwh mfi mse mth mpu mno mlo mbe mre mis mca mpa mva mle mst mtn mln mne mgo x e) rfl ⟨rfl, rfl, Nat.le_of_ble_eq_true rfl, Nat.le_of_ble_eq_true rfl⟩ ⟨rfl, rfl, Nat.le_of_ble_eq_true rfl, Nat.le_of_ble_eq_true rfl⟩ isA.mk (fun u hu => St.mk (inv_up h))
  | true =>
    obtain ⟨v, hv, rfl⟩ := bitB_t e
    by_cases e2 : cn = 32
    · exact Jt.mk (c_X4_fixed_f l D cI cJ cZ q xro xtk xli cn ci cs cso cki cfa cfb cfc cva csn csd csl csb csr csc won wle pte pho nwa nti v hv e2) (c_X5_fixed_f l D cI cJ cZ z cn ci cs xtk mso mwh mfi mse mth mpu mno mlo mbe mre mis mca mpa mva mle mst mtn mln mne mgo v hv e2) rfl ⟨rfl, rfl, Nat.le_of_ble_eq_true rfl, Nat.le_of_ble_eq_true rfl⟩ ⟨rfl, rfl, Nat.le_of_ble_eq_true rfl, Nat.le_of_ble_eq_true rfl⟩ isA.mk (fun u hu => St.mk (inv_up h))
    · exact Jt.mk (c_X4_fixed l D cI cJ cZ q xro xtk xli cn ci cs cso cki cfa cfb cfc cva csn csd csl csb csr csc won wle pte pho nwa nti v hv (by omega) (by omega)) (c_X5_fixed l D cI cJ cZ z cn ci cs xtk mso mwh mfi mse mth mpu mno mlo mbe mre mis mca mpa mva mle mst mtn mln mne mgo v hv (by omega) (by omega)) rfl ⟨rfl, rfl, Nat.le_of_ble_eq_true rfl, Nat.le_of_ble_eq_true rfl⟩ ⟨rfl, rfl, Nat.le_of_ble_eq_true rfl, Nat.le_of_ble_eq_true rfl⟩ isA.mk (fun u hu => St.mk (inv_fixed h (by omega) hv))
set_option maxHeartbeats 4000000 in
set_option maxRecDepth 100000 in
theorem j_gate (h : INV nn xro xtk xli cn ci cs cso cki cfa cfb cfc cva csn csd csl csb csr pho nwa mso mwh mfi mse mth mpu mno mlo mbe mre mis mca mpa mne) (k x y zz : Int32) : Jt l D cI cJ cZ q z nn yX4_gate wsX4_gate 8 yX5_gate wsX5_gate 5 [.int k, .int x, .int y, .int zz] (wA q cI cJ xro xtk xli cn ci cs cso cki cfa cfb cfc cva csn csd csl csb csr csc won wle pte pho nwa nti) (wM z cI cZ cn ci cs xtk mso mwh mfi mse mth mpu mno mlo mbe mre mis mca mpa mva mle mst mtn mln mne mgo) := by
  obtain ⟨hso, hg, hs, hin, hsr, hsb, hsl⟩ := inv_cls h
  obtain ⟨rso, rwk, rg, rwf, rwi, rws, rre, rbe, rlo, rpa, rno⟩ := inv_ref h
  obtain ⟨jn, js, cin, ⟨bn, bi, bs⟩, tk, pu, pa, ho, li, il, ro, rl, ne, nr, zk, zv⟩ := id h
  rcases rng (x := k) (n := 4) (by omega) with e | ⟨k, hk, rfl⟩
  · exact Jt.mk (c_X4_gate_o l D cI cJ cZ q xro xtk xli cn ci cs cso cki cfa cfb cfc cva csn csd csl csb csr csc won wle pte pho nwa nti k x y zz e) (c_X5_gate_o l D cI cJ cZ z cn ci cs xtk mso mwh mfi mse mth mpu mno mlo mbe mre mis mca mpa mva mle mst mtn mln mne mgo k x y zz e) rfl ⟨rfl, rfl, Nat.le_of_ble_eq_true rfl, Nat.le_of_ble_eq_true rfl⟩ ⟨rfl, rfl, Nat.le_of_ble_eq_true rfl, Nat.le_of_ble_eq_true rfl⟩ isA.mk (fun u hu => St.mk (inv_up h))
  cases hu : (!isN cn x || (!decide (k = 0) && !isN cn y) || (decide (k = 4) && !isN cn zz)) with
  | true => exact Jt.mk (c_X4_gate_u l D cI cJ cZ q xro xtk xli cn ci cs cso cki cfa cfb cfc cva csn csd csl csb csr csc won wle pte pho nwa nti k x y zz (by omega) hk hu) (c_X5_gate_u l D cI cJ cZ z cn ci cs xtk mso mwh mfi mse mth mpu mno mlo mbe mre mis mca mpa mva mle mst mtn mln mne mgo k x y zz (by omega) hk hu) rfl ⟨rfl, rfl, Nat.le_of_ble_eq_true rfl, Nat.le_of_ble_eq_true rfl⟩ ⟨rfl, rfl, Nat.le_of_ble_eq_true rfl, Nat.le_of_ble_eq_true rfl⟩ isA.mk (fun u hu => St.mk (inv_up h))
  | false =>
    by_cases e2 : cn = 32
    · exact Jt.mk (c_X4_gate_f l D cI cJ cZ q xro xtk xli cn ci cs cso cki cfa cfb cfc cva csn csd csl csb csr csc won wle pte pho nwa nti k x y zz e2 hk hu) (c_X5_gate_f l D cI cJ cZ z cn ci cs xtk mso mwh mfi mse mth mpu mno mlo mbe mre mis mca mpa mva mle mst mtn mln mne mgo k x y zz e2 hk hu) rfl ⟨rfl, rfl, Nat.le_of_ble_eq_true rfl, Nat.le_of_ble_eq_true rfl⟩ ⟨rfl, rfl, Nat.le_of_ble_eq_true rfl, Nat.le_of_ble_eq_true rfl⟩ isA.mk (fun u hu => St.mk (inv_up h))
    simp only [Bool.or_eq_false_iff, Bool.not_eq_false', Bool.and_eq_false_iff, decide_eq_false_iff_not, decide_eq_true_eq] at hu
    obtain ⟨⟨u1, u2⟩, u3⟩ := hu
    obtain ⟨a, ha, rfl⟩ := isN_t (by omega) u1
    by_cases k0 : k = 0
    · exact Jt.mk (c_X4_gate_0 l D cI cJ cZ q xro xtk xli cn ci cs cso cki cfa cfb cfc cva csn csd csl csb csr csc won wle pte pho nwa nti k a y zz (by omega) (by omega) k0 ha) (c_X5_gate_0 l D cI cJ cZ z cn ci cs xtk mso mwh mfi mse mth mpu mno mlo mbe mre mis mca mpa mva mle mst mtn mln mne mgo k a y zz (by omega) (by omega) k0 ha) rfl ⟨rfl, rfl, Nat.le_of_ble_eq_true rfl, Nat.le_of_ble_eq_true rfl⟩ ⟨rfl, rfl, Nat.le_of_ble_eq_true rfl, Nat.le_of_ble_eq_true rfl⟩ isA.mk (fun u hu => St.mk (inv_gate h (by omega) hk ha ha ha))
    obtain ⟨b, hb4, rfl⟩ := isN_t (by omega) (u2.resolve_left k0)
    by_cases k4 : k = 4
    · obtain ⟨d, hd, rfl⟩ := isN_t (by omega) (u3.resolve_left (fun z => z k4))
      exact Jt.mk (c_X4_gate_4 l D cI cJ cZ q xro xtk xli cn ci cs cso cki cfa cfb cfc cva csn csd csl csb csr csc won wle pte pho nwa nti k a b d (by omega) (by omega) k4 ha hb4 hd) (c_X5_gate_4 l D cI cJ cZ z cn ci cs xtk mso mwh mfi mse mth mpu mno mlo mbe mre mis mca mpa mva mle mst mtn mln mne mgo k a b d (by omega) (by omega) k4 ha hb4 hd) rfl ⟨rfl, rfl, Nat.le_of_ble_eq_true rfl, Nat.le_of_ble_eq_true rfl⟩ ⟨rfl, rfl, Nat.le_of_ble_eq_true rfl, Nat.le_of_ble_eq_true rfl⟩ isA.mk (fun u hu => St.mk (inv_gate h (by omega) hk ha hb4 hd))
    · exact Jt.mk (c_X4_gate_1 l D cI cJ cZ q xro xtk xli cn ci cs cso cki cfa cfb cfc cva csn csd csl csb csr csc won wle pte pho nwa nti k a b zz (by omega) (by omega) (by omega) ha hb4) (c_X5_gate_1 l D cI cJ cZ z cn ci cs xtk mso mwh mfi mse mth mpu mno mlo mbe mre mis mca mpa mva mle mst mtn mln mne mgo k a b zz (by omega) (by omega) (by omega) ha hb4) rfl ⟨rfl, rfl, Nat.le_of_ble_eq_true rfl, Nat.le_of_ble_eq_true rfl⟩ ⟨rfl, rfl, Nat.le_of_ble_eq_true rfl, Nat.le_of_ble_eq_true rfl⟩ isA.mk (fun u hu => St.mk (inv_gate h (by omega) hk ha hb4 ha))
set_option maxHeartbeats 4000000 in
set_option maxRecDepth 100000 in
theorem j_store (h : INV nn xro xtk xli cn ci cs cso cki cfa cfb cfc cva csn csd csl csb csr pho nwa mso mwh mfi mse mth mpu mno mlo mbe mre mis mca mpa mne) (x y : Int32) : Jt l D cI cJ cZ q z nn yX4_store wsX4_store 4 yX5_store wsX5_store 3 [.int x, .int y] (wA q cI cJ xro xtk xli cn ci cs cso cki cfa cfb cfc cva csn csd csl csb csr csc won wle pte pho nwa nti) (wM z cI cZ cn ci cs xtk mso mwh mfi mse mth mpu mno mlo mbe mre mis mca mpa mva mle mst mtn mln mne mgo) := by
  obtain ⟨hso, hg, hs, hin, hsr, hsb, hsl⟩ := inv_cls h
  obtain ⟨rso, rwk, rg, rwf, rwi, rws, rre, rbe, rlo, rpa, rno⟩ := inv_ref h
  obtain ⟨jn, js, cin, ⟨bn, bi, bs⟩, tk, pu, pa, ho, li, il, ro, rl, ne, nr, zk, zv⟩ := id h
  rcases line_c x with ⟨e1, e2⟩ | ⟨ln, hl4, rfl⟩
  · exact Jt.mk (c_X4_store_u l D cI cJ cZ q xro xtk xli cn ci cs cso cki cfa cfb cfc cva csn csd csl csb csr csc won wle pte pho nwa nti x y e1 e2) (c_X5_store_u l D cI cJ cZ z cn ci cs xtk mso mwh mfi mse mth mpu mno mlo mbe mre mis mca mpa mva mle mst mtn mln mne mgo x y e1 e2) rfl ⟨rfl, rfl, Nat.le_of_ble_eq_true rfl, Nat.le_of_ble_eq_true rfl⟩ ⟨rfl, rfl, Nat.le_of_ble_eq_true rfl, Nat.le_of_ble_eq_true rfl⟩ isA.mk (fun u hu => St.mk (inv_up h))
  cases e : bitB y with
  | false => exact Jt.mk (c_X4_store_o l D cI cJ cZ q xro xtk xli cn ci cs cso cki cfa cfb cfc cva csn csd csl csb csr csc won wle pte pho nwa nti ln y hl4 e) (c_X5_store_o l D cI cJ cZ z cn ci cs xtk mso mwh mfi mse mth mpu mno mlo mbe mre mis mca mpa mva mle mst mtn mln mne mgo ln y hl4 e) rfl ⟨rfl, rfl, Nat.le_of_ble_eq_true rfl, Nat.le_of_ble_eq_true rfl⟩ ⟨rfl, rfl, Nat.le_of_ble_eq_true rfl, Nat.le_of_ble_eq_true rfl⟩ isA.mk (fun u hu => St.mk (inv_up h))
  | true =>
    obtain ⟨v, hv, rfl⟩ := bitB_t e
    by_cases e2 : cs = 6 ∨ cn = 32
    · exact Jt.mk (c_X4_store_f l D cI cJ cZ q xro xtk xli cn ci cs cso cki cfa cfb cfc cva csn csd csl csb csr csc won wle pte pho nwa nti ln v hl4 hv (by omega) (by omega) (by omega)) (c_X5_store_f l D cI cJ cZ z cn ci cs xtk mso mwh mfi mse mth mpu mno mlo mbe mre mis mca mpa mva mle mst mtn mln mne mgo ln v hl4 hv (by omega) (by omega) e2) rfl ⟨rfl, rfl, Nat.le_of_ble_eq_true rfl, Nat.le_of_ble_eq_true rfl⟩ ⟨rfl, rfl, Nat.le_of_ble_eq_true rfl, Nat.le_of_ble_eq_true rfl⟩ isA.mk (fun u hu => St.mk (inv_up h))
    · exact Jt.mk (c_X4_store l D cI cJ cZ q xro xtk xli cn ci cs cso cki cfa cfb cfc cva csn csd csl csb csr csc won wle pte pho nwa nti ln v hl4 hv (by omega) (by omega)) (c_X5_store l D cI cJ cZ z cn ci cs xtk mso mwh mfi mse mth mpu mno mlo mbe mre mis mca mpa mva mle mst mtn mln mne mgo ln v hl4 hv (by omega) (by omega)) rfl ⟨rfl, rfl, Nat.le_of_ble_eq_true rfl, Nat.le_of_ble_eq_true rfl⟩ ⟨rfl, rfl, Nat.le_of_ble_eq_true rfl, Nat.le_of_ble_eq_true rfl⟩ isA.mk (fun u hu => St.mk (inv_store h (by omega) (by omega) hl4 hv))
set_option maxHeartbeats 4000000 in
set_option maxRecDepth 100000 in
theorem j_reads (h : INV nn xro xtk xli cn ci cs cso cki cfa cfb cfc cva csn csd csl csb csr pho nwa mso mwh mfi mse mth mpu mno mlo mbe mre mis mca mpa mne) (x y : Int32) : Jt l D cI cJ cZ q z nn yX4_reads wsX4_reads 5 yX5_reads wsX5_reads 4 [.int x, .int y] (wA q cI cJ xro xtk xli cn ci cs cso cki cfa cfb cfc cva csn csd csl csb csr csc won wle pte pho nwa nti) (wM z cI cZ cn ci cs xtk mso mwh mfi mse mth mpu mno mlo mbe mre mis mca mpa mva mle mst mtn mln mne mgo) := by
  obtain ⟨hso, hg, hs, hin, hsr, hsb, hsl⟩ := inv_cls h
  obtain ⟨rso, rwk, rg, rwf, rwi, rws, rre, rbe, rlo, rpa, rno⟩ := inv_ref h
  obtain ⟨jn, js, cin, ⟨bn, bi, bs⟩, tk, pu, pa, ho, li, il, ro, rl, ne, nr, zk, zv⟩ := id h
  cases e : (isN cn x && isN cn y) with
  | false => exact Jt.mk (c_X4_reads_u l D cI cJ cZ q xro xtk xli cn ci cs cso cki cfa cfb cfc cva csn csd csl csb csr csc won wle pte pho nwa nti x y (by omega) e) (c_X5_reads_u l D cI cJ cZ z cn ci cs xtk mso mwh mfi mse mth mpu mno mlo mbe mre mis mca mpa mva mle mst mtn mln mne mgo x y (by omega) e) rfl ⟨rfl, rfl, Nat.le_of_ble_eq_true rfl, Nat.le_of_ble_eq_true rfl⟩ ⟨rfl, rfl, Nat.le_of_ble_eq_true rfl, Nat.le_of_ble_eq_true rfl⟩ isA.mk (fun u hu => St.mk (inv_up h))
  | true =>
    have hu := e
    rw [Bool.and_eq_true] at hu
    obtain ⟨k, hk, rfl⟩ := isN_t (by omega) hu.1
    obtain ⟨n, hn, rfl⟩ := isN_t (by omega) hu.2
    obtain ⟨h1, h2, h3', h4, h5, h6, h7, h8⟩ := jn k hk
    by_cases h3 : cso k = 3
    · obtain ⟨g1, g2⟩ := h6 h3
      obtain ⟨s1, s2, s3, s4, s5, s6, s7, s8, s9, s0⟩ := js _ g2
      have ev : mre (mwh k) = csr (csn k) := by rw [g1, s7]
      by_cases e3 : csr (csn k) = n
      · exact Jt.mk (c_X4_reads_e l D cI cJ cZ q xro xtk xli cn ci cs cso cki cfa cfb cfc cva csn csd csl csb csr csc won wle pte pho nwa nti k n (by omega) (by omega) hk hn h3 g2 e3) (c_X5_reads_e l D cI cJ cZ z cn ci cs xtk mso mwh mfi mse mth mpu mno mlo mbe mre mis mca mpa mva mle mst mtn mln mne mgo k n (by omega) (by omega) hk hn (h1.trans h3) (by omega) (ev.trans e3)) (congrArg nI ev.symm) ⟨rfl, rfl, Nat.le_of_ble_eq_true rfl, Nat.le_of_ble_eq_true rfl⟩ ⟨rfl, rfl, Nat.le_of_ble_eq_true rfl, Nat.le_of_ble_eq_true rfl⟩ isA.mk (fun u hu => St.mk (inv_up h))
      · exact Jt.mk (c_X4_reads l D cI cJ cZ q xro xtk xli cn ci cs cso cki cfa cfb cfc cva csn csd csl csb csr csc won wle pte pho nwa nti k n (by omega) (by omega) hk hn h3 g2 s8 e3) (c_X5_reads l D cI cJ cZ z cn ci cs xtk mso mwh mfi mse mth mpu mno mlo mbe mre mis mca mpa mva mle mst mtn mln mne mgo k n (by omega) (by omega) hk hn (h1.trans h3) (by omega) (by omega) (fun z => e3 (ev.symm.trans z))) (congrArg nI ev.symm) ⟨rfl, rfl, Nat.le_of_ble_eq_true rfl, Nat.le_of_ble_eq_true rfl⟩ ⟨rfl, rfl, Nat.le_of_ble_eq_true rfl, Nat.le_of_ble_eq_true rfl⟩ isA.mk (fun u hu => St.mk (inv_reads h hk hn h3))
    · exact Jt.mk (c_X4_reads_s l D cI cJ cZ q xro xtk xli cn ci cs cso cki cfa cfb cfc cva csn csd csl csb csr csc won wle pte pho nwa nti k n (by omega) hk hn h2 h3) (c_X5_reads_s l D cI cJ cZ z cn ci cs xtk mso mwh mfi mse mth mpu mno mlo mbe mre mis mca mpa mva mle mst mtn mln mne mgo k n (by omega) hk hn (by omega) (by omega)) rfl ⟨rfl, rfl, Nat.le_of_ble_eq_true rfl, Nat.le_of_ble_eq_true rfl⟩ ⟨rfl, rfl, Nat.le_of_ble_eq_true rfl, Nat.le_of_ble_eq_true rfl⟩ isA.mk (fun u hu => St.mk (inv_up h))
set_option maxHeartbeats 4000000 in
set_option maxRecDepth 100000 in
theorem j_about (h : INV nn xro xtk xli cn ci cs cso cki cfa cfb cfc cva csn csd csl csb csr pho nwa mso mwh mfi mse mth mpu mno mlo mbe mre mis mca mpa mne) (x y : Int32) : Jt l D cI cJ cZ q z nn yX4_about wsX4_about 3 yX5_about wsX5_about 4 [.int x, .int y] (wA q cI cJ xro xtk xli cn ci cs cso cki cfa cfb cfc cva csn csd csl csb csr csc won wle pte pho nwa nti) (wM z cI cZ cn ci cs xtk mso mwh mfi mse mth mpu mno mlo mbe mre mis mca mpa mva mle mst mtn mln mne mgo) := by
  obtain ⟨hso, hg, hs, hin, hsr, hsb, hsl⟩ := inv_cls h
  obtain ⟨rso, rwk, rg, rwf, rwi, rws, rre, rbe, rlo, rpa, rno⟩ := inv_ref h
  obtain ⟨jn, js, cin, ⟨bn, bi, bs⟩, tk, pu, pa, ho, li, il, ro, rl, ne, nr, zk, zv⟩ := id h
  cases e : isN cn x with
  | false => exact Jt.mk (c_X4_about_u l D cI cJ cZ q xro xtk xli cn ci cs cso cki cfa cfb cfc cva csn csd csl csb csr csc won wle pte pho nwa nti x y (by omega) e) (c_X5_about_u l D cI cJ cZ z cn ci cs xtk mso mwh mfi mse mth mpu mno mlo mbe mre mis mca mpa mva mle mst mtn mln mne mgo x y (by omega) e) rfl ⟨rfl, rfl, Nat.le_of_ble_eq_true rfl, Nat.le_of_ble_eq_true rfl⟩ ⟨rfl, rfl, Nat.le_of_ble_eq_true rfl, Nat.le_of_ble_eq_true rfl⟩ isA.mk (fun u hu => St.mk (inv_up h))
  | true =>
    obtain ⟨k, hk, rfl⟩ := isN_t (by omega) e
    obtain ⟨h1, h2, h3', h4, h5, h6, h7, h8⟩ := jn k hk
    rcases rng (x := y) (n := 4) (by omega) with e2 | ⟨wt, hw, rfl⟩
    · exact Jt.mk (c_X4_about_o l D cI cJ cZ q xro xtk xli cn ci cs cso cki cfa cfb cfc cva csn csd csl csb csr csc won wle pte pho nwa nti k y (by omega) hk e2) (c_X5_about_o l D cI cJ cZ z cn ci cs xtk mso mwh mfi mse mth mpu mno mlo mbe mre mis mca mpa mva mle mst mtn mln mne mgo k y (by omega) hk (by omega) (rngI (n := 4) (by omega) e2)) rfl ⟨rfl, rfl, Nat.le_of_ble_eq_true rfl, Nat.le_of_ble_eq_true rfl⟩ ⟨rfl, rfl, Nat.le_of_ble_eq_true rfl, Nat.le_of_ble_eq_true rfl⟩ isA.mk (fun u hu => St.mk (inv_up h))
    · exact Jt.mk (c_X4_about l D cI cJ cZ q xro xtk xli cn ci cs cso cki cfa cfb cfc cva csn csd csl csb csr csc won wle pte pho nwa nti k wt (by omega) hk (by omega) hw h2 h3' (fun z => (h6 z).2)) (c_X5_about l D cI cJ cZ z cn ci cs xtk mso mwh mfi mse mth mpu mno mlo mbe mre mis mca mpa mva mle mst mtn mln mne mgo k wt (by omega) hk (by omega) hw (by omega) (rws k hk)) (about_eq jn js hk) ⟨rfl, rfl, Nat.le_of_ble_eq_true rfl, Nat.le_of_ble_eq_true rfl⟩ ⟨rfl, rfl, Nat.le_of_ble_eq_true rfl, Nat.le_of_ble_eq_true rfl⟩ isA.mk (fun u hu => St.mk (inv_up h))
set_option maxHeartbeats 4000000 in
set_option maxRecDepth 100000 in
theorem j_line (h : INV nn xro xtk xli cn ci cs cso cki cfa cfb cfc cva csn csd csl csb csr pho nwa mso mwh mfi mse mth mpu mno mlo mbe mre mis mca mpa mne) (x : Int32) (on : Bool) : Jt l D cI cJ cZ q z nn yX4_line wsX4_line 5 yX5_line wsX5_line 4 [.int x, .int (bI on)] (wA q cI cJ xro xtk xli cn ci cs cso cki cfa cfb cfc cva csn csd csl csb csr csc won wle pte pho nwa nti) (wM z cI cZ cn ci cs xtk mso mwh mfi mse mth mpu mno mlo mbe mre mis mca mpa mva mle mst mtn mln mne mgo) := by
  obtain ⟨hso, hg, hs, hin, hsr, hsb, hsl⟩ := inv_cls h
  obtain ⟨rso, rwk, rg, rwf, rwi, rws, rre, rbe, rlo, rpa, rno⟩ := inv_ref h
  obtain ⟨jn, js, cin, ⟨bn, bi, bs⟩, tk, pu, pa, ho, li, il, ro, rl, ne, nr, zk, zv⟩ := id h
  cases e : isN 4 x with
  | false => exact Jt.mk (c_X4_line_u l D cI cJ cZ q xro xtk xli cn ci cs cso cki cfa cfb cfc cva csn csd csl csb csr csc won wle pte pho nwa nti x on e) (c_X5_line_u l D cI cJ cZ z cn ci cs xtk mso mwh mfi mse mth mpu mno mlo mbe mre mis mca mpa mva mle mst mtn mln mne mgo x on e) rfl ⟨rfl, rfl, Nat.le_of_ble_eq_true rfl, Nat.le_of_ble_eq_true rfl⟩ ⟨rfl, rfl, Nat.le_of_ble_eq_true rfl, Nat.le_of_ble_eq_true rfl⟩ isA.mk (fun u hu => St.mk (inv_up h))
  | true =>
    obtain ⟨k, hk, rfl⟩ := isN_t (by omega) e
    exact Jt.mk (c_X4_line l D cI cJ cZ q xro xtk xli cn ci cs cso cki cfa cfb cfc cva csn csd csl csb csr csc won wle pte pho nwa nti k on hk li) (c_X5_line l D cI cJ cZ z cn ci cs xtk mso mwh mfi mse mth mpu mno mlo mbe mre mis mca mpa mva mle mst mtn mln mne mgo k on hk) (congrArg bI (il k hk).symm) ⟨rfl, rfl, Nat.le_of_ble_eq_true rfl, Nat.le_of_ble_eq_true rfl⟩ ⟨rfl, rfl, Nat.le_of_ble_eq_true rfl, Nat.le_of_ble_eq_true rfl⟩ isA.mk (fun u hu => St.mk (inv_line h hk))
set_option maxHeartbeats 4000000 in
set_option maxRecDepth 100000 in
theorem j_set (h : INV nn xro xtk xli cn ci cs cso cki cfa cfb cfc cva csn csd csl csb csr pho nwa mso mwh mfi mse mth mpu mno mlo mbe mre mis mca mpa mne) (x y : Int32) : Jt l D cI cJ cZ q z nn yX4_set wsX4_set 4 yX5_set wsX5_set 4 [.int x, .int y] (wA q cI cJ xro xtk xli cn ci cs cso cki cfa cfb cfc cva csn csd csl csb csr csc won wle pte pho nwa nti) (wM z cI cZ cn ci cs xtk mso mwh mfi mse mth mpu mno mlo mbe mre mis mca mpa mva mle mst mtn mln mne mgo) := by
  obtain ⟨hso, hg, hs, hin, hsr, hsb, hsl⟩ := inv_cls h
  obtain ⟨rso, rwk, rg, rwf, rwi, rws, rre, rbe, rlo, rpa, rno⟩ := inv_ref h
  obtain ⟨jn, js, cin, ⟨bn, bi, bs⟩, tk, pu, pa, ho, li, il, ro, rl, ne, nr, zk, zv⟩ := id h
  cases e : isN cn x with
  | false => exact Jt.mk (c_X4_set_u l D cI cJ cZ q xro xtk xli cn ci cs cso cki cfa cfb cfc cva csn csd csl csb csr csc won wle pte pho nwa nti x y (by omega) e) (c_X5_set_u l D cI cJ cZ z cn ci cs xtk mso mwh mfi mse mth mpu mno mlo mbe mre mis mca mpa mva mle mst mtn mln mne mgo x y (by omega) e) rfl ⟨rfl, rfl, Nat.le_of_ble_eq_true rfl, Nat.le_of_ble_eq_true rfl⟩ ⟨rfl, rfl, Nat.le_of_ble_eq_true rfl, Nat.le_of_ble_eq_true rfl⟩ isA.mk (fun u hu => St.mk (inv_up h))
  | true =>
    obtain ⟨k, hk, rfl⟩ := isN_t (by omega) e
    obtain ⟨h1, h2, h3', h4, h5, h6, h7, h8⟩ := jn k hk
    by_cases h0 : cso k = 0
    · by_cases e2 : bitB y = false ∧ ¬ y = nI 2
      · exact Jt.mk (c_X4_set_o l D cI cJ cZ q xro xtk xli cn ci cs cso cki cfa cfb cfc cva csn csd csl csb csr csc won wle pte pho nwa nti k y (by omega) hk h0 e2.1 e2.2) (c_X5_set_o l D cI cJ cZ z cn ci cs xtk mso mwh mfi mse mth mpu mno mlo mbe mre mis mca mpa mva mle mst mtn mln mne mgo k y (by omega) hk (h1.trans h0) e2.1 e2.2) rfl ⟨rfl, rfl, Nat.le_of_ble_eq_true rfl, Nat.le_of_ble_eq_true rfl⟩ ⟨rfl, rfl, Nat.le_of_ble_eq_true rfl, Nat.le_of_ble_eq_true rfl⟩ isA.mk (fun u hu => St.mk (inv_up h))
      · have ⟨v, hv, hyv⟩ : ∃ v, v ≤ 2 ∧ y = nI v := by
          by_cases e3 : y = nI 2
          · exact ⟨2, by omega, e3⟩
          · have : bitB y = true := by
              cases q : bitB y with
              | true => rfl
              | false => exact absurd ⟨q, e3⟩ e2
            obtain ⟨v, a, b⟩ := bitB_t this
            exact ⟨v, by omega, b⟩
        subst hyv
        exact Jt.mk (c_X4_set l D cI cJ cZ q xro xtk xli cn ci cs cso cki cfa cfb cfc cva csn csd csl csb csr csc won wle pte pho nwa nti k v (by omega) hk h0 hv) (c_X5_set l D cI cJ cZ z cn ci cs xtk mso mwh mfi mse mth mpu mno mlo mbe mre mis mca mpa mva mle mst mtn mln mne mgo k v (by omega) (by omega) hk (h1.trans h0) (h8 h0).2.1 hv) (congrArg nI (h8 h0).2.2.symm) ⟨rfl, rfl, Nat.le_of_ble_eq_true rfl, Nat.le_of_ble_eq_true rfl⟩ ⟨rfl, rfl, Nat.le_of_ble_eq_true rfl, Nat.le_of_ble_eq_true rfl⟩ isA.mk (fun u hu => St.mk (inv_set h hk h0 hv))
    · exact Jt.mk (c_X4_set_s l D cI cJ cZ q xro xtk xli cn ci cs cso cki cfa cfb cfc cva csn csd csl csb csr csc won wle pte pho nwa nti k y (by omega) hk h2 h0) (c_X5_set_s l D cI cJ cZ z cn ci cs xtk mso mwh mfi mse mth mpu mno mlo mbe mre mis mca mpa mva mle mst mtn mln mne mgo k y (by omega) hk (by omega) (by omega)) rfl ⟨rfl, rfl, Nat.le_of_ble_eq_true rfl, Nat.le_of_ble_eq_true rfl⟩ ⟨rfl, rfl, Nat.le_of_ble_eq_true rfl, Nat.le_of_ble_eq_true rfl⟩ isA.mk (fun u hu => St.mk (inv_up h))
set_option maxHeartbeats 4000000 in
set_option maxRecDepth 100000 in
theorem j_tick (h : INV nn xro xtk xli cn ci cs cso cki cfa cfb cfc cva csn csd csl csb csr pho nwa mso mwh mfi mse mth mpu mno mlo mbe mre mis mca mpa mne) (hnn : nn ≤ 600) (x : Int32) : Jt l D cI cJ cZ q z nn yX4_tick wsX4_tick 4 yX5_tick wsX5_tick 5 [.int x] (wA q cI cJ xro xtk xli cn ci cs cso cki cfa cfb cfc cva csn csd csl csb csr csc won wle pte pho nwa nti) (wM z cI cZ cn ci cs xtk mso mwh mfi mse mth mpu mno mlo mbe mre mis mca mpa mva mle mst mtn mln mne mgo) := by
  obtain ⟨hso, hg, hs, hin, hsr, hsb, hsl⟩ := inv_cls h
  obtain ⟨rso, rwk, rg, rwf, rwi, rws, rre, rbe, rlo, rpa, rno⟩ := inv_ref h
  obtain ⟨jn, js, cin, ⟨bn, bi, bs⟩, tk, pu, pa, ho, li, il, ro, rl, ne, nr, zk, zv⟩ := id h
  cases e : tickB x with
  | false => exact Jt.mk (c_X4_tick_o l D cI cJ cZ q xro xtk xli cn ci cs cso cki cfa cfb cfc cva csn csd csl csb csr csc won wle pte pho nwa nti x e) (c_X5_tick_o l D cI cJ cZ z cn ci cs xtk mso mwh mfi mse mth mpu mno mlo mbe mre mis mca mpa mva mle mst mtn mln mne mgo x e) rfl ⟨rfl, rfl, Nat.le_of_ble_eq_true rfl, Nat.le_of_ble_eq_true rfl⟩ ⟨rfl, rfl, Nat.le_of_ble_eq_true rfl, Nat.le_of_ble_eq_true rfl⟩ isA.mk (fun u hu => St.mk (inv_up h))
  | true =>
    obtain ⟨n, hn1, hn64, rfl⟩ := tickB_t e
    exact Jt.mk (c_X4_tick l D cI cJ cZ q xro xtk xli cn ci cs cso cki cfa cfb cfc cva csn csd csl csb csr csc won wle pte pho nwa nti n (by omega) (by omega) hso hg hs hin hsr hsb hsl ho li hn1 hn64 (by omega)) (c_X5_tick l D cI cJ cZ z cn ci cs xtk mso mwh mfi mse mth mpu mno mlo mbe mre mis mca mpa mva mle mst mtn mln mne mgo n (by omega) (by omega) (by omega) rso rwk rg rwf rwi rws pu rre rbe rlo rpa hn1 hn64 (by omega)) (by rw [← rs_eq js il, bct_ct (iter_eq jn js bs cin (bN_lt (stP csl xli) cs) ro n)]) ⟨rfl, rfl, Nat.le_of_ble_eq_true rfl, Nat.le_of_ble_eq_true rfl⟩ ⟨rfl, rfl, Nat.le_of_ble_eq_true rfl, Nat.le_of_ble_eq_true rfl⟩ isA.mk (fun u hu => St.mk (inv_tick h hn64 hu))
set_option maxHeartbeats 4000000 in
set_option maxRecDepth 100000 in
theorem j_fresh (h : INV nn xro xtk xli cn ci cs cso cki cfa cfb cfc cva csn csd csl csb csr pho nwa mso mwh mfi mse mth mpu mno mlo mbe mre mis mca mpa mne)  : Jt l D cI cJ cZ q z nn yX4_fresh wsX4_fresh 2 yX5_fresh wsX5_fresh 2 [] (wA q cI cJ xro xtk xli cn ci cs cso cki cfa cfb cfc cva csn csd csl csb csr csc won wle pte pho nwa nti) (wM z cI cZ cn ci cs xtk mso mwh mfi mse mth mpu mno mlo mbe mre mis mca mpa mva mle mst mtn mln mne mgo) := by
  obtain ⟨hso, hg, hs, hin, hsr, hsb, hsl⟩ := inv_cls h
  obtain ⟨rso, rwk, rg, rwf, rwi, rws, rre, rbe, rlo, rpa, rno⟩ := inv_ref h
  obtain ⟨jn, js, cin, ⟨bn, bi, bs⟩, tk, pu, pa, ho, li, il, ro, rl, ne, nr, zk, zv⟩ := id h
  exact Jt.mk (c_X4_fresh l D cI cJ cZ q xro xtk xli cn ci cs cso cki cfa cfb cfc cva csn csd csl csb csr csc won wle pte pho nwa nti (by omega)) (c_X5_fresh l D cI cJ cZ z cn ci cs xtk mso mwh mfi mse mth mpu mno mlo mbe mre mis mca mpa mva mle mst mtn mln mne mgo (by omega)) rfl ⟨rfl, rfl, Nat.le_of_ble_eq_true rfl, Nat.le_of_ble_eq_true rfl⟩ ⟨rfl, rfl, Nat.le_of_ble_eq_true rfl, Nat.le_of_ble_eq_true rfl⟩ isA.mk (fun u hu => St.mk (inv_fresh h))
set_option maxHeartbeats 4000000 in
set_option maxRecDepth 100000 in
theorem j_possible (h : INV nn xro xtk xli cn ci cs cso cki cfa cfb cfc cva csn csd csl csb csr pho nwa mso mwh mfi mse mth mpu mno mlo mbe mre mis mca mpa mne)  : Jt l D cI cJ cZ q z nn yX4_possible wsX4_possible 1 yX5_possible wsX5_possible 1 [] (wA q cI cJ xro xtk xli cn ci cs cso cki cfa cfb cfc cva csn csd csl csb csr csc won wle pte pho nwa nti) (wM z cI cZ cn ci cs xtk mso mwh mfi mse mth mpu mno mlo mbe mre mis mca mpa mva mle mst mtn mln mne mgo) := by
  obtain ⟨hso, hg, hs, hin, hsr, hsb, hsl⟩ := inv_cls h
  obtain ⟨rso, rwk, rg, rwf, rwi, rws, rre, rbe, rlo, rpa, rno⟩ := inv_ref h
  obtain ⟨jn, js, cin, ⟨bn, bi, bs⟩, tk, pu, pa, ho, li, il, ro, rl, ne, nr, zk, zv⟩ := id h
  exact Jt.mk (c_X4_possible l D cI cJ cZ q xro xtk xli cn ci cs cso cki cfa cfb cfc cva csn csd csl csb csr csc won wle pte pho nwa nti) (c_X5_possible l D cI cJ cZ z cn ci cs xtk mso mwh mfi mse mth mpu mno mlo mbe mre mis mca mpa mva mle mst mtn mln mne mgo (by omega)) (congrArg nI (bct_ct ro)) ⟨rfl, rfl, Nat.le_of_ble_eq_true rfl, Nat.le_of_ble_eq_true rfl⟩ ⟨rfl, rfl, Nat.le_of_ble_eq_true rfl, Nat.le_of_ble_eq_true rfl⟩ isA.mk (fun u hu => St.mk (inv_up h))
set_option maxHeartbeats 4000000 in
set_option maxRecDepth 100000 in
theorem j_row (h : INV nn xro xtk xli cn ci cs cso cki cfa cfb cfc cva csn csd csl csb csr pho nwa mso mwh mfi mse mth mpu mno mlo mbe mre mis mca mpa mne) (x : Int32) : Jt l D cI cJ cZ q z nn yX4_row wsX4_row 4 yX5_row wsX5_row 4 [.int x] (wA q cI cJ xro xtk xli cn ci cs cso cki cfa cfb cfc cva csn csd csl csb csr csc won wle pte pho nwa nti) (wM z cI cZ cn ci cs xtk mso mwh mfi mse mth mpu mno mlo mbe mre mis mca mpa mva mle mst mtn mln mne mgo) := by
  obtain ⟨hso, hg, hs, hin, hsr, hsb, hsl⟩ := inv_cls h
  obtain ⟨rso, rwk, rg, rwf, rwi, rws, rre, rbe, rlo, rpa, rno⟩ := inv_ref h
  obtain ⟨jn, js, cin, ⟨bn, bi, bs⟩, tk, pu, pa, ho, li, il, ro, rl, ne, nr, zk, zv⟩ := id h
  by_cases e : x < 0
  · exact Jt.mk (c_X4_row_n l D cI cJ cZ q xro xtk xli cn ci cs cso cki cfa cfb cfc cva csn csd csl csb csr csc won wle pte pho nwa nti x e) (c_X5_row_n l D cI cJ cZ z cn ci cs xtk mso mwh mfi mse mth mpu mno mlo mbe mre mis mca mpa mva mle mst mtn mln mne mgo x e) rfl ⟨rfl, rfl, Nat.le_of_ble_eq_true rfl, Nat.le_of_ble_eq_true rfl⟩ ⟨rfl, rfl, Nat.le_of_ble_eq_true rfl, Nat.le_of_ble_eq_true rfl⟩ isA.mk (fun u hu => St.mk (inv_up h))
  · obtain ⟨i, hi, rfl⟩ := nI_of (x := x) e
    exact Jt.mk (c_X4_row l D cI cJ cZ q xro xtk xli cn ci cs cso cki cfa cfb cfc cva csn csd csl csb csr csc won wle pte pho nwa nti i hi) (c_X5_row l D cI cJ cZ z cn ci cs xtk mso mwh mfi mse mth mpu mno mlo mbe mre mis mca mpa mva mle mst mtn mln mne mgo i hi) (rowF_G ro 64 0 i (by omega)) ⟨rfl, rfl, Nat.le_of_ble_eq_true rfl, Nat.le_of_ble_eq_true rfl⟩ ⟨rfl, rfl, Nat.le_of_ble_eq_true rfl, Nat.le_of_ble_eq_true rfl⟩ isA.mk (fun u hu => St.mk (inv_up h))
set_option maxHeartbeats 4000000 in
set_option maxRecDepth 100000 in
theorem j_sure (h : INV nn xro xtk xli cn ci cs cso cki cfa cfb cfc cva csn csd csl csb csr pho nwa mso mwh mfi mse mth mpu mno mlo mbe mre mis mca mpa mne) (x : Int32) : Jt l D cI cJ cZ q z nn yX4_sure wsX4_sure 2 yX5_sure wsX5_sure 2 [.int x] (wA q cI cJ xro xtk xli cn ci cs cso cki cfa cfb cfc cva csn csd csl csb csr csc won wle pte pho nwa nti) (wM z cI cZ cn ci cs xtk mso mwh mfi mse mth mpu mno mlo mbe mre mis mca mpa mva mle mst mtn mln mne mgo) := by
  obtain ⟨hso, hg, hs, hin, hsr, hsb, hsl⟩ := inv_cls h
  obtain ⟨rso, rwk, rg, rwf, rwi, rws, rre, rbe, rlo, rpa, rno⟩ := inv_ref h
  obtain ⟨jn, js, cin, ⟨bn, bi, bs⟩, tk, pu, pa, ho, li, il, ro, rl, ne, nr, zk, zv⟩ := id h
  cases e : isN cn x with
  | false => exact Jt.mk (c_X4_sure_u l D cI cJ cZ q xro xtk xli cn ci cs cso cki cfa cfb cfc cva csn csd csl csb csr csc won wle pte pho nwa nti x (by omega) e) (c_X5_sure_u l D cI cJ cZ z cn ci cs xtk mso mwh mfi mse mth mpu mno mlo mbe mre mis mca mpa mva mle mst mtn mln mne mgo x (by omega) e) rfl ⟨rfl, rfl, Nat.le_of_ble_eq_true rfl, Nat.le_of_ble_eq_true rfl⟩ ⟨rfl, rfl, Nat.le_of_ble_eq_true rfl, Nat.le_of_ble_eq_true rfl⟩ isA.mk (fun u hu => St.mk (inv_up h))
  | true =>
    obtain ⟨k, hk, rfl⟩ := isN_t (by omega) e
    exact Jt.mk (c_X4_sure l D cI cJ cZ q xro xtk xli cn ci cs cso cki cfa cfb cfc cva csn csd csl csb csr csc won wle pte pho nwa nti k (by omega) (by omega) hso hg hs hin hk) (c_X5_sure l D cI cJ cZ z cn ci cs xtk mso mwh mfi mse mth mpu mno mlo mbe mre mis mca mpa mva mle mst mtn mln mne mgo k (by omega) (by omega) (by omega) rso rwk rg rwf rwi rws pu hk) (by rw [sure1 jn cin bs ro rl hk, sure0 jn cin bs ro rl hk, Bool.and_comm]) ⟨rfl, rfl, Nat.le_of_ble_eq_true rfl, Nat.le_of_ble_eq_true rfl⟩ ⟨rfl, rfl, Nat.le_of_ble_eq_true rfl, Nat.le_of_ble_eq_true rfl⟩ isA.mk (fun u hu => St.mk (inv_up h))
set_option maxHeartbeats 4000000 in
set_option maxRecDepth 100000 in
theorem j_told (h : INV nn xro xtk xli cn ci cs cso cki cfa cfb cfc cva csn csd csl csb csr pho nwa mso mwh mfi mse mth mpu mno mlo mbe mre mis mca mpa mne) (x : Int32) : Jt l D cI cJ cZ q z nn yX4_told wsX4_told 2 yX5_told wsX5_told 2 [.int x] (wA q cI cJ xro xtk xli cn ci cs cso cki cfa cfb cfc cva csn csd csl csb csr csc won wle pte pho nwa nti) (wM z cI cZ cn ci cs xtk mso mwh mfi mse mth mpu mno mlo mbe mre mis mca mpa mva mle mst mtn mln mne mgo) := by
  obtain ⟨hso, hg, hs, hin, hsr, hsb, hsl⟩ := inv_cls h
  obtain ⟨rso, rwk, rg, rwf, rwi, rws, rre, rbe, rlo, rpa, rno⟩ := inv_ref h
  obtain ⟨jn, js, cin, ⟨bn, bi, bs⟩, tk, pu, pa, ho, li, il, ro, rl, ne, nr, zk, zv⟩ := id h
  cases e : isN cn x with
  | false => exact Jt.mk (c_X4_told_u l D cI cJ cZ q xro xtk xli cn ci cs cso cki cfa cfb cfc cva csn csd csl csb csr csc won wle pte pho nwa nti x (by omega) e) (c_X5_told_u l D cI cJ cZ z cn ci cs xtk mso mwh mfi mse mth mpu mno mlo mbe mre mis mca mpa mva mle mst mtn mln mne mgo x (by omega) e) rfl ⟨rfl, rfl, Nat.le_of_ble_eq_true rfl, Nat.le_of_ble_eq_true rfl⟩ ⟨rfl, rfl, Nat.le_of_ble_eq_true rfl, Nat.le_of_ble_eq_true rfl⟩ isA.mk (fun u hu => St.mk (inv_up h))
  | true =>
    obtain ⟨k, hk, rfl⟩ := isN_t (by omega) e
    exact Jt.mk (c_X4_told l D cI cJ cZ q xro xtk xli cn ci cs cso cki cfa cfb cfc cva csn csd csl csb csr csc won wle pte pho nwa nti k (by omega) (by omega) hso hg hs ho hk) (c_X5_told l D cI cJ cZ z cn ci cs xtk mso mwh mfi mse mth mpu mno mlo mbe mre mis mca mpa mva mle mst mtn mln mne mgo k (by omega) (by omega) (by omega) rso rwk rg rwf rwi rws pu rpa hk) (congrArg nI (tel_par jn pa (Nat.le_refl cn) k hk)) ⟨rfl, rfl, Nat.le_of_ble_eq_true rfl, Nat.le_of_ble_eq_true rfl⟩ ⟨rfl, rfl, Nat.le_of_ble_eq_true rfl, Nat.le_of_ble_eq_true rfl⟩ isA.mk (fun u hu => St.mk (inv_up h))
set_option maxHeartbeats 4000000 in
set_option maxRecDepth 100000 in
theorem j_known (h : INV nn xro xtk xli cn ci cs cso cki cfa cfb cfc cva csn csd csl csb csr pho nwa mso mwh mfi mse mth mpu mno mlo mbe mre mis mca mpa mne) (b : Bool) : Jt l D cI cJ cZ q z nn yX4_known wsX4_known 2 yX5_known wsX5_known 4 [.int (bI b)] (wA q cI cJ xro xtk xli cn ci cs cso cki cfa cfb cfc cva csn csd csl csb csr csc won wle pte pho nwa nti) (wM z cI cZ cn ci cs xtk mso mwh mfi mse mth mpu mno mlo mbe mre mis mca mpa mva mle mst mtn mln mne mgo) := by
  obtain ⟨hso, hg, hs, hin, hsr, hsb, hsl⟩ := inv_cls h
  obtain ⟨rso, rwk, rg, rwf, rwi, rws, rre, rbe, rlo, rpa, rno⟩ := inv_ref h
  obtain ⟨jn, js, cin, ⟨bn, bi, bs⟩, tk, pu, pa, ho, li, il, ro, rl, ne, nr, zk, zv⟩ := id h
  cases e : b with
  | true =>
    exact Jt.mk (c_X4_known_t l D cI cJ cZ q xro xtk xli cn ci cs cso cki cfa cfb cfc cva csn csd csl csb csr csc won wle pte pho nwa nti true rfl (by omega) ho) (c_X5_known_t l D cI cJ cZ z cn ci cs xtk mso mwh mfi mse mth mpu mno mlo mbe mre mis mca mpa mva mle mst mtn mln mne mgo true rfl (by omega) rpa) (congrArg nI (ct_cong fun i hi => by have a1 := pa i hi; have a2 := ho i (by omega); rw [a1]; rcases (show pho i = 0 ∨ pho i = 1 ∨ pho i = 2 by omega) with a3 | a3 | a3 <;> rw [a3] <;> rfl)) ⟨rfl, rfl, Nat.le_of_ble_eq_true rfl, Nat.le_of_ble_eq_true rfl⟩ ⟨rfl, rfl, Nat.le_of_ble_eq_true rfl, Nat.le_of_ble_eq_true rfl⟩ isA.mk (fun u hu => St.mk (inv_up h))
  | false =>
    exact Jt.mk (c_X4_known_f l D cI cJ cZ q xro xtk xli cn ci cs cso cki cfa cfb cfc cva csn csd csl csb csr csc won wle pte pho nwa nti false rfl (by omega)) (c_X5_known_f l D cI cJ cZ z cn ci cs xtk mso mwh mfi mse mth mpu mno mlo mbe mre mis mca mpa mva mle mst mtn mln mne mgo false rfl (by omega) (by omega) (by omega) rso rwk rg rwf rwi rws pu rno) (congrArg nI (ct_cong fun i hi => sto_eq jn js cin bs ro rl hi)) ⟨rfl, rfl, Nat.le_of_ble_eq_true rfl, Nat.le_of_ble_eq_true rfl⟩ ⟨rfl, rfl, Nat.le_of_ble_eq_true rfl, Nat.le_of_ble_eq_true rfl⟩ isA.mk (fun u hu => St.mk (inv_up h))
set_option maxHeartbeats 4000000 in
set_option maxRecDepth 100000 in
theorem j_settles (h : INV nn xro xtk xli cn ci cs cso cki cfa cfb cfc cva csn csd csl csb csr pho nwa mso mwh mfi mse mth mpu mno mlo mbe mre mis mca mpa mne)  : Jt l D cI cJ cZ q z nn yX4_settles wsX4_settles 1 yX5_settles wsX5_settles 1 [] (wA q cI cJ xro xtk xli cn ci cs cso cki cfa cfb cfc cva csn csd csl csb csr csc won wle pte pho nwa nti) (wM z cI cZ cn ci cs xtk mso mwh mfi mse mth mpu mno mlo mbe mre mis mca mpa mva mle mst mtn mln mne mgo) := by
  obtain ⟨hso, hg, hs, hin, hsr, hsb, hsl⟩ := inv_cls h
  obtain ⟨rso, rwk, rg, rwf, rwi, rws, rre, rbe, rlo, rpa, rno⟩ := inv_ref h
  obtain ⟨jn, js, cin, ⟨bn, bi, bs⟩, tk, pu, pa, ho, li, il, ro, rl, ne, nr, zk, zv⟩ := id h
  exact Jt.mk (c_X4_settles l D cI cJ cZ q xro xtk xli cn ci cs cso cki cfa cfb cfc cva csn csd csl csb csr csc won wle pte pho nwa nti (by omega) (by omega) hso hg hs hin hsr hsb hsl ho li) (c_X5_settles l D cI cJ cZ z cn ci cs xtk mso mwh mfi mse mth mpu mno mlo mbe mre mis mca mpa mva mle mst mtn mln mne mgo (by omega) (by omega) (by omega) rso rwk rg rwf rwi rws pu rre rbe rlo) (by rw [← rs_eq js il]; exact settle_eq jn js bs cin (bN_lt (stP csl xli) cs) 65 0 xro mca ro) ⟨rfl, rfl, Nat.le_of_ble_eq_true rfl, Nat.le_of_ble_eq_true rfl⟩ ⟨rfl, rfl, Nat.le_of_ble_eq_true rfl, Nat.le_of_ble_eq_true rfl⟩ isA.mk (fun u hu => St.mk (inv_up h))
set_option maxHeartbeats 4000000 in
set_option maxRecDepth 100000 in
theorem j_next (h : INV nn xro xtk xli cn ci cs cso cki cfa cfb cfc cva csn csd csl csb csr pho nwa mso mwh mfi mse mth mpu mno mlo mbe mre mis mca mpa mne) (x : Int32) : Jt l D cI cJ cZ q z nn yX4_next wsX4_next 3 yX5_next wsX5_next 6 [.int x] (wA q cI cJ xro xtk xli cn ci cs cso cki cfa cfb cfc cva csn csd csl csb csr csc won wle pte pho nwa nti) (wM z cI cZ cn ci cs xtk mso mwh mfi mse mth mpu mno mlo mbe mre mis mca mpa mva mle mst mtn mln mne mgo) := by
  obtain ⟨hso, hg, hs, hin, hsr, hsb, hsl⟩ := inv_cls h
  obtain ⟨rso, rwk, rg, rwf, rwi, rws, rre, rbe, rlo, rpa, rno⟩ := inv_ref h
  obtain ⟨jn, js, cin, ⟨bn, bi, bs⟩, tk, pu, pa, ho, li, il, ro, rl, ne, nr, zk, zv⟩ := id h
  have h64 := p64 bs
  cases e : isN (2 ^ cs) x with
  | false => exact Jt.mk (c_X4_next_o l D cI cJ cZ q xro xtk xli cn ci cs cso cki cfa cfb cfc cva csn csd csl csb csr csc won wle pte pho nwa nti x (by omega) (isN_f e)) (c_X5_next_o l D cI cJ cZ z cn ci cs xtk mso mwh mfi mse mth mpu mno mlo mbe mre mis mca mpa mva mle mst mtn mln mne mgo x (by omega) e) rfl ⟨rfl, rfl, Nat.le_of_ble_eq_true rfl, Nat.le_of_ble_eq_true rfl⟩ ⟨rfl, rfl, Nat.le_of_ble_eq_true rfl, Nat.le_of_ble_eq_true rfl⟩ isA.mk (fun u hu => St.mk (inv_up h))
  | true =>
    obtain ⟨r, hr, rfl⟩ := isN_t (by omega) e
    exact Jt.mk (c_X4_next l D cI cJ cZ q xro xtk xli cn ci cs cso cki cfa cfb cfc cva csn csd csl csb csr csc won wle pte pho nwa nti r (by omega) (by omega) hso hg hs hin hsr hsb hsl ho li hr) (c_X5_next l D cI cJ cZ z cn ci cs xtk mso mwh mfi mse mth mpu mno mlo mbe mre mis mca mpa mva mle mst mtn mln mne mgo r (by omega) (by omega) (by omega) rso rwk rg rwf rwi rws pu rre rbe rlo hr) (congrArg nI (by rw [← rs_eq js il]; exact next_eq jn js bs (bN_lt (stP csl xli) cs) (by omega))) ⟨rfl, rfl, Nat.le_of_ble_eq_true rfl, Nat.le_of_ble_eq_true rfl⟩ ⟨rfl, rfl, Nat.le_of_ble_eq_true rfl, Nat.le_of_ble_eq_true rfl⟩ isA.mk (fun u hu => St.mk (inv_up h))
set_option maxHeartbeats 4000000 in
set_option maxRecDepth 100000 in
theorem j_depends (h : INV nn xro xtk xli cn ci cs cso cki cfa cfb cfc cva csn csd csl csb csr pho nwa mso mwh mfi mse mth mpu mno mlo mbe mre mis mca mpa mne) (x y : Int32) : Jt l D cI cJ cZ q z nn yX4_depends wsX4_depends 3 yX5_depends wsX5_depends 3 [.int x, .int y] (wA q cI cJ xro xtk xli cn ci cs cso cki cfa cfb cfc cva csn csd csl csb csr csc won wle pte pho nwa nti) (wM z cI cZ cn ci cs xtk mso mwh mfi mse mth mpu mno mlo mbe mre mis mca mpa mva mle mst mtn mln mne mgo) := by
  obtain ⟨hso, hg, hs, hin, hsr, hsb, hsl⟩ := inv_cls h
  obtain ⟨rso, rwk, rg, rwf, rwi, rws, rre, rbe, rlo, rpa, rno⟩ := inv_ref h
  obtain ⟨jn, js, cin, ⟨bn, bi, bs⟩, tk, pu, pa, ho, li, il, ro, rl, ne, nr, zk, zv⟩ := id h
  cases e : (isN cn x && isN cn y) with
  | false => exact Jt.mk (c_X4_depends_u l D cI cJ cZ q xro xtk xli cn ci cs cso cki cfa cfb cfc cva csn csd csl csb csr csc won wle pte pho nwa nti x y (by omega) e) (c_X5_depends_u l D cI cJ cZ z cn ci cs xtk mso mwh mfi mse mth mpu mno mlo mbe mre mis mca mpa mva mle mst mtn mln mne mgo x y (by omega) e) rfl ⟨rfl, rfl, Nat.le_of_ble_eq_true rfl, Nat.le_of_ble_eq_true rfl⟩ ⟨rfl, rfl, Nat.le_of_ble_eq_true rfl, Nat.le_of_ble_eq_true rfl⟩ isA.mk (fun u hu => St.mk (inv_up h))
  | true =>
    have hu := e
    rw [Bool.and_eq_true] at hu
    obtain ⟨k, hk, rfl⟩ := isN_t (by omega) hu.1
    obtain ⟨n, hn, rfl⟩ := isN_t (by omega) hu.2
    obtain ⟨h1, h2, h3', h4, h5, h6, h7, h8⟩ := jn k hk
    obtain ⟨k1, k2, k3, k4, k5, k6, k7, k8⟩ := jn n hn
    by_cases h3 : cso k = 3 ∧ cso n = 3
    · obtain ⟨g1, g2⟩ := h6 h3.1
      obtain ⟨s1, s2, s3, s4, s5, s6, s7, s8, s9, s0⟩ := js _ g2
      exact Jt.mk (c_X4_depends l D cI cJ cZ q xro xtk xli cn ci cs cso cki cfa cfb cfc cva csn csd csl csb csr csc won wle pte pho nwa nti k n (by omega) (by omega) hk hn h3.1 h3.2 hso hg hs hsr) (c_X5_depends l D cI cJ cZ z cn ci cs xtk mso mwh mfi mse mth mpu mno mlo mbe mre mis mca mpa mva mle mst mtn mln mne mgo k n (by omega) (by omega) hk hn (h1.trans h3.1) (k1.trans h3.2) rso rg rws rre) (by rw [g1, (k6 h3.2).1, s7, srcT_eq jn (Nat.le_refl cn) _ s8]) ⟨rfl, rfl, Nat.le_of_ble_eq_true rfl, Nat.le_of_ble_eq_true rfl⟩ ⟨rfl, rfl, Nat.le_of_ble_eq_true rfl, Nat.le_of_ble_eq_true rfl⟩ isA.mk (fun u hu => St.mk (inv_up h))
    · exact Jt.mk (c_X4_depends_s l D cI cJ cZ q xro xtk xli cn ci cs cso cki cfa cfb cfc cva csn csd csl csb csr csc won wle pte pho nwa nti k n (by omega) hk hn h2 k2 h3) (c_X5_depends_s l D cI cJ cZ z cn ci cs xtk mso mwh mfi mse mth mpu mno mlo mbe mre mis mca mpa mva mle mst mtn mln mne mgo k n (by omega) hk hn (by omega) (by omega) (by omega)) rfl ⟨rfl, rfl, Nat.le_of_ble_eq_true rfl, Nat.le_of_ble_eq_true rfl⟩ ⟨rfl, rfl, Nat.le_of_ble_eq_true rfl, Nat.le_of_ble_eq_true rfl⟩ isA.mk (fun u hu => St.mk (inv_up h))
set_option maxHeartbeats 4000000 in
set_option maxRecDepth 100000 in
theorem j_crossings (h : INV nn xro xtk xli cn ci cs cso cki cfa cfb cfc cva csn csd csl csb csr pho nwa mso mwh mfi mse mth mpu mno mlo mbe mre mis mca mpa mne)  : Jt l D cI cJ cZ q z nn yX4_crossings wsX4_crossings 4 yX5_crossings wsX5_crossings 1 [] (wA q cI cJ xro xtk xli cn ci cs cso cki cfa cfb cfc cva csn csd csl csb csr csc won wle pte pho nwa nti) (wM z cI cZ cn ci cs xtk mso mwh mfi mse mth mpu mno mlo mbe mre mis mca mpa mva mle mst mtn mln mne mgo) := by
  obtain ⟨hso, hg, hs, hin, hsr, hsb, hsl⟩ := inv_cls h
  obtain ⟨rso, rwk, rg, rwf, rwi, rws, rre, rbe, rlo, rpa, rno⟩ := inv_ref h
  obtain ⟨jn, js, cin, ⟨bn, bi, bs⟩, tk, pu, pa, ho, li, il, ro, rl, ne, nr, zk, zv⟩ := id h
  exact Jt.mk (c_X4_crossings l D cI cJ cZ q xro xtk xli cn ci cs cso cki cfa cfb cfc cva csn csd csl csb csr csc won wle pte pho nwa nti (by omega) (by omega) hso hg hs hsr hsl) (c_X5_crossings l D cI cJ cZ z cn ci cs xtk mso mwh mfi mse mth mpu mno mlo mbe mre mis mca mpa mva mle mst mtn mln mne mgo (by omega) (by omega) rso rg rws rre rlo rno) (congrArg nI (sm2_cong fun a ha b hb4 => cr_eq jn js ha hb4)) ⟨rfl, rfl, Nat.le_of_ble_eq_true rfl, Nat.le_of_ble_eq_true rfl⟩ ⟨rfl, rfl, Nat.le_of_ble_eq_true rfl, Nat.le_of_ble_eq_true rfl⟩ isA.mk (fun u hu => St.mk (inv_up h))
set_option maxHeartbeats 4000000 in
set_option maxRecDepth 100000 in
theorem j_crossing (h : INV nn xro xtk xli cn ci cs cso cki cfa cfb cfc cva csn csd csl csb csr pho nwa mso mwh mfi mse mth mpu mno mlo mbe mre mis mca mpa mne) (x : Int32) : Jt l D cI cJ cZ q z nn yX4_crossing wsX4_crossing 5 yX5_crossing wsX5_crossing 2 [.int x] (wA q cI cJ xro xtk xli cn ci cs cso cki cfa cfb cfc cva csn csd csl csb csr csc won wle pte pho nwa nti) (wM z cI cZ cn ci cs xtk mso mwh mfi mse mth mpu mno mlo mbe mre mis mca mpa mva mle mst mtn mln mne mgo) := by
  obtain ⟨hso, hg, hs, hin, hsr, hsb, hsl⟩ := inv_cls h
  obtain ⟨rso, rwk, rg, rwf, rwi, rws, rre, rbe, rlo, rpa, rno⟩ := inv_ref h
  obtain ⟨jn, js, cin, ⟨bn, bi, bs⟩, tk, pu, pa, ho, li, il, ro, rl, ne, nr, zk, zv⟩ := id h
  by_cases e : x < 0
  · exact Jt.mk (c_X4_crossing_n l D cI cJ cZ q xro xtk xli cn ci cs cso cki cfa cfb cfc cva csn csd csl csb csr csc won wle pte pho nwa nti x e) (c_X5_crossing_n l D cI cJ cZ z cn ci cs xtk mso mwh mfi mse mth mpu mno mlo mbe mre mis mca mpa mva mle mst mtn mln mne mgo x e) rfl ⟨rfl, rfl, Nat.le_of_ble_eq_true rfl, Nat.le_of_ble_eq_true rfl⟩ ⟨rfl, rfl, Nat.le_of_ble_eq_true rfl, Nat.le_of_ble_eq_true rfl⟩ isA.mk (fun u hu => St.mk (inv_up h))
  · obtain ⟨i, hi, rfl⟩ := nI_of (x := x) e
    exact Jt.mk (c_X4_crossing l D cI cJ cZ q xro xtk xli cn ci cs cso cki cfa cfb cfc cva csn csd csl csb csr csc won wle pte pho nwa nti i hi (by omega) (by omega) hso hg hs hsr hsl) (c_X5_crossing l D cI cJ cZ z cn ci cs xtk mso mwh mfi mse mth mpu mno mlo mbe mre mis mca mpa mva mle mst mtn mln mne mgo i hi (by omega) (by omega) rso rg rws rre rlo rno) (crO_K (c := cs) (fun a ha b hb4 => ⟨cr_eq jn js ha hb4, by show nI (100 * csd a + csd b) = nI (100 * mno a + mno b); rw [(js a ha).1, (js b hb4).1]⟩) cs 0 i 0 (by omega) (by omega)) ⟨rfl, rfl, Nat.le_of_ble_eq_true rfl, Nat.le_of_ble_eq_true rfl⟩ ⟨rfl, rfl, Nat.le_of_ble_eq_true rfl, Nat.le_of_ble_eq_true rfl⟩ isA.mk (fun u hu => St.mk (inv_up h))
set_option maxHeartbeats 4000000 in
set_option maxRecDepth 100000 in
theorem j_alone (h : INV nn xro xtk xli cn ci cs cso cki cfa cfb cfc cva csn csd csl csb csr pho nwa mso mwh mfi mse mth mpu mno mlo mbe mre mis mca mpa mne) (x : Int32) : Jt l D cI cJ cZ q z nn yX4_alone wsX4_alone 2 yX5_alone wsX5_alone 4 [.int x] (wA q cI cJ xro xtk xli cn ci cs cso cki cfa cfb cfc cva csn csd csl csb csr csc won wle pte pho nwa nti) (wM z cI cZ cn ci cs xtk mso mwh mfi mse mth mpu mno mlo mbe mre mis mca mpa mva mle mst mtn mln mne mgo) := by
  obtain ⟨hso, hg, hs, hin, hsr, hsb, hsl⟩ := inv_cls h
  obtain ⟨rso, rwk, rg, rwf, rwi, rws, rre, rbe, rlo, rpa, rno⟩ := inv_ref h
  obtain ⟨jn, js, cin, ⟨bn, bi, bs⟩, tk, pu, pa, ho, li, il, ro, rl, ne, nr, zk, zv⟩ := id h
  cases e : isN 4 x with
  | false => exact Jt.mk (c_X4_alone_u l D cI cJ cZ q xro xtk xli cn ci cs cso cki cfa cfb cfc cva csn csd csl csb csr csc won wle pte pho nwa nti x e) (c_X5_alone_u l D cI cJ cZ z cn ci cs xtk mso mwh mfi mse mth mpu mno mlo mbe mre mis mca mpa mva mle mst mtn mln mne mgo x e) rfl ⟨rfl, rfl, Nat.le_of_ble_eq_true rfl, Nat.le_of_ble_eq_true rfl⟩ ⟨rfl, rfl, Nat.le_of_ble_eq_true rfl, Nat.le_of_ble_eq_true rfl⟩ isA.mk (fun u hu => St.mk (inv_up h))
  | true =>
    obtain ⟨k, hk, rfl⟩ := isN_t (by omega) e
    have c2 := (c_X5_alone l D cI cJ cZ z cn ci cs xtk mso mwh mfi mse mth mpu mno mlo mbe mre mis mca mpa mva mle mst mtn mln mne mgo k (by omega) (by omega) (by omega) rso rwk rg rwf rwi rws pu rre rbe rlo hk)
    rw [lI_lt hk] at c2
    exact Jt.mk (c_X4_alone l D cI cJ cZ q xro xtk xli cn ci cs cso cki cfa cfb cfc cva csn csd csl csb csr csc won wle pte pho nwa nti k (by omega) (by omega) hso hg hs hin hsr hsb hsl ho li hk) c2 (by rw [← al_eq js hk]; exact settle_eq jn js bs cin (bN_lt (stP csl (2 ^ k)) cs) 65 0 (alR cs) (allP cs) (fun r hr => (lb_alR cs (by omega) r hr).symm)) ⟨rfl, rfl, Nat.le_of_ble_eq_true rfl, Nat.le_of_ble_eq_true rfl⟩ ⟨rfl, rfl, Nat.le_of_ble_eq_true rfl, Nat.le_of_ble_eq_true rfl⟩ isA.mk (fun u hu => St.mk (inv_up h))
set_option maxHeartbeats 4000000 in
set_option maxRecDepth 100000 in
theorem j_mend (h : INV nn xro xtk xli cn ci cs cso cki cfa cfb cfc cva csn csd csl csb csr pho nwa mso mwh mfi mse mth mpu mno mlo mbe mre mis mca mpa mne) (x : Int32) : Jt l D cI cJ cZ q z nn yX4_mend wsX4_mend 5 yX5_mend wsX5_mend 6 [.int x] (wA q cI cJ xro xtk xli cn ci cs cso cki cfa cfb cfc cva csn csd csl csb csr csc won wle pte pho nwa nti) (wM z cI cZ cn ci cs xtk mso mwh mfi mse mth mpu mno mlo mbe mre mis mca mpa mva mle mst mtn mln mne mgo) := by
  obtain ⟨hso, hg, hs, hin, hsr, hsb, hsl⟩ := inv_cls h
  obtain ⟨rso, rwk, rg, rwf, rwi, rws, rre, rbe, rlo, rpa, rno⟩ := inv_ref h
  obtain ⟨jn, js, cin, ⟨bn, bi, bs⟩, tk, pu, pa, ho, li, il, ro, rl, ne, nr, zk, zv⟩ := id h
  cases e : tickB x with
  | false => exact Jt.mk (c_X4_mend_o l D cI cJ cZ q xro xtk xli cn ci cs cso cki cfa cfb cfc cva csn csd csl csb csr csc won wle pte pho nwa nti x e) (c_X5_mend_o l D cI cJ cZ z cn ci cs xtk mso mwh mfi mse mth mpu mno mlo mbe mre mis mca mpa mva mle mst mtn mln mne mgo x e) rfl ⟨rfl, rfl, Nat.le_of_ble_eq_true rfl, Nat.le_of_ble_eq_true rfl⟩ ⟨rfl, rfl, Nat.le_of_ble_eq_true rfl, Nat.le_of_ble_eq_true rfl⟩ isA.mk (fun u hu => St.mk (inv_up h))
  | true =>
    obtain ⟨n, hn1, hn64, rfl⟩ := tickB_t e
    exact Jt.mk (c_X4_mend l D cI cJ cZ q xro xtk xli cn ci cs cso cki cfa cfb cfc cva csn csd csl csb csr csc won wle pte pho nwa nti n (by omega) (by omega) hso hg hs hin hsr hsb hsl ho li hn1 hn64) (c_X5_mend l D cI cJ cZ z cn ci cs xtk mso mwh mfi mse mth mpu mno mlo mbe mre mis mca mpa mva mle mst mtn mln mne mgo n (by omega) (by omega) (by omega) rso rwk rg rwf rwi rws pu rre rbe rlo hn1 hn64) (mend_ans jn js cin bs) ⟨rfl, rfl, Nat.le_of_ble_eq_true rfl, Nat.le_of_ble_eq_true rfl⟩ ⟨rfl, rfl, Nat.le_of_ble_eq_true rfl, Nat.le_of_ble_eq_true rfl⟩ isA.mk (fun u hu => St.mk (inv_up h))
set_option maxHeartbeats 4000000 in
set_option maxRecDepth 100000 in
theorem j_need (h : INV nn xro xtk xli cn ci cs cso cki cfa cfb cfc cva csn csd csl csb csr pho nwa mso mwh mfi mse mth mpu mno mlo mbe mre mis mca mpa mne) (x y zz : Int32) : Jt l D cI cJ cZ q z nn yX4_need wsX4_need 4 yX5_need wsX5_need 5 [.int x, .int y, .int zz] (wA q cI cJ xro xtk xli cn ci cs cso cki cfa cfb cfc cva csn csd csl csb csr csc won wle pte pho nwa nti) (wM z cI cZ cn ci cs xtk mso mwh mfi mse mth mpu mno mlo mbe mre mis mca mpa mva mle mst mtn mln mne mgo) := by
  obtain ⟨hso, hg, hs, hin, hsr, hsb, hsl⟩ := inv_cls h
  obtain ⟨rso, rwk, rg, rwf, rwi, rws, rre, rbe, rlo, rpa, rno⟩ := inv_ref h
  obtain ⟨jn, js, cin, ⟨bn, bi, bs⟩, tk, pu, pa, ho, li, il, ro, rl, ne, nr, zk, zv⟩ := id h
  cases e : (isN 4 x && isN 4 y) with
  | false => exact Jt.mk (c_X4_need_u l D cI cJ cZ q xro xtk xli cn ci cs cso cki cfa cfb cfc cva csn csd csl csb csr csc won wle pte pho nwa nti x y zz e) (c_X5_need_u l D cI cJ cZ z cn ci cs xtk mso mwh mfi mse mth mpu mno mlo mbe mre mis mca mpa mva mle mst mtn mln mne mgo x y zz e) rfl ⟨rfl, rfl, Nat.le_of_ble_eq_true rfl, Nat.le_of_ble_eq_true rfl⟩ ⟨rfl, rfl, Nat.le_of_ble_eq_true rfl, Nat.le_of_ble_eq_true rfl⟩ isA.mk (fun u hu => St.mk (inv_up h))
  | true =>
    have hu := e
    rw [Bool.and_eq_true] at hu
    obtain ⟨a, ha, rfl⟩ := isN_t (by omega) hu.1
    obtain ⟨b, hb4, rfl⟩ := isN_t (by omega) hu.2
    by_cases hz : zz = (-9) ∨ (¬ zz < 0 ∧ zz ≤ nI 20)
    · exact Jt.mk (c_X4_need l D cI cJ cZ q xro xtk xli cn ci cs cso cki cfa cfb cfc cva csn csd csl csb csr csc won wle pte pho nwa nti a b zz ha hb4 hz) (c_X5_need l D cI cJ cZ z cn ci cs xtk mso mwh mfi mse mth mpu mno mlo mbe mre mis mca mpa mva mle mst mtn mln mne mgo a b zz ha hb4 hz) (ne _ (by omega)).symm ⟨rfl, rfl, Nat.le_of_ble_eq_true rfl, Nat.le_of_ble_eq_true rfl⟩ ⟨rfl, rfl, Nat.le_of_ble_eq_true rfl, Nat.le_of_ble_eq_true rfl⟩ isA.mk (fun u hu => St.mk (inv_need h ha hb4 hz))
    · have hz9 : ¬ zz = (-9) := fun w => hz (Or.inl w)
      have hz2 : zz < 0 ∨ ¬ zz ≤ nI 20 := by
        by_cases q1 : zz < 0
        · exact Or.inl q1
        · exact Or.inr fun q2 => hz (Or.inr ⟨q1, q2⟩)
      exact Jt.mk (c_X4_need_o l D cI cJ cZ q xro xtk xli cn ci cs cso cki cfa cfb cfc cva csn csd csl csb csr csc won wle pte pho nwa nti a b zz ha hb4 hz9 hz2) (c_X5_need_o l D cI cJ cZ z cn ci cs xtk mso mwh mfi mse mth mpu mno mlo mbe mre mis mca mpa mva mle mst mtn mln mne mgo a b zz ha hb4 hz9 hz2) rfl ⟨rfl, rfl, Nat.le_of_ble_eq_true rfl, Nat.le_of_ble_eq_true rfl⟩ ⟨rfl, rfl, Nat.le_of_ble_eq_true rfl, Nat.le_of_ble_eq_true rfl⟩ isA.mk (fun u hu => St.mk (inv_up h))
set_option maxHeartbeats 4000000 in
set_option maxRecDepth 100000 in
theorem j_go (h : INV nn xro xtk xli cn ci cs cso cki cfa cfb cfc cva csn csd csl csb csr pho nwa mso mwh mfi mse mth mpu mno mlo mbe mre mis mca mpa mne) (x : Int32) : Jt l D cI cJ cZ q z nn yX4_go wsX4_go 2 yX5_go wsX5_go 2 [.int x] (wA q cI cJ xro xtk xli cn ci cs cso cki cfa cfb cfc cva csn csd csl csb csr csc won wle pte pho nwa nti) (wM z cI cZ cn ci cs xtk mso mwh mfi mse mth mpu mno mlo mbe mre mis mca mpa mva mle mst mtn mln mne mgo) := by
  obtain ⟨hso, hg, hs, hin, hsr, hsb, hsl⟩ := inv_cls h
  obtain ⟨rso, rwk, rg, rwf, rwi, rws, rre, rbe, rlo, rpa, rno⟩ := inv_ref h
  obtain ⟨jn, js, cin, ⟨bn, bi, bs⟩, tk, pu, pa, ho, li, il, ro, rl, ne, nr, zk, zv⟩ := id h
  cases e : isN 4 x with
  | false => exact Jt.mk (c_X4_go_u l D cI cJ cZ q xro xtk xli cn ci cs cso cki cfa cfb cfc cva csn csd csl csb csr csc won wle pte pho nwa nti x e) (c_X5_go_u l D cI cJ cZ z cn ci cs xtk mso mwh mfi mse mth mpu mno mlo mbe mre mis mca mpa mva mle mst mtn mln mne mgo x e) rfl ⟨rfl, rfl, Nat.le_of_ble_eq_true rfl, Nat.le_of_ble_eq_true rfl⟩ ⟨rfl, rfl, Nat.le_of_ble_eq_true rfl, Nat.le_of_ble_eq_true rfl⟩ isA.mk (fun u hu => St.mk (inv_up h))
  | true =>
    obtain ⟨k, hk, rfl⟩ := isN_t (by omega) e
    exact Jt.mk (c_X4_go l D cI cJ cZ q xro xtk xli cn ci cs cso cki cfa cfb cfc cva csn csd csl csb csr csc won wle pte pho nwa nti k hk) (c_X5_go l D cI cJ cZ z cn ci cs xtk mso mwh mfi mse mth mpu mno mlo mbe mre mis mca mpa mva mle mst mtn mln mne mgo k hk) (go_eq ne nr nti mgo k hk) ⟨rfl, rfl, Nat.le_of_ble_eq_true rfl, Nat.le_of_ble_eq_true rfl⟩ ⟨rfl, rfl, Nat.le_of_ble_eq_true rfl, Nat.le_of_ble_eq_true rfl⟩ isA.mk (fun u hu => St.mk (inv_up h))
set_option maxHeartbeats 4000000 in
set_option maxRecDepth 100000 in
theorem j_gone (h : INV nn xro xtk xli cn ci cs cso cki cfa cfb cfc cva csn csd csl csb csr pho nwa mso mwh mfi mse mth mpu mno mlo mbe mre mis mca mpa mne) (x : Int32) : Jt l D cI cJ cZ q z nn yX4_gone wsX4_gone 4 yX5_gone wsX5_gone 4 [.int x] (wA q cI cJ xro xtk xli cn ci cs cso cki cfa cfb cfc cva csn csd csl csb csr csc won wle pte pho nwa nti) (wM z cI cZ cn ci cs xtk mso mwh mfi mse mth mpu mno mlo mbe mre mis mca mpa mva mle mst mtn mln mne mgo) := by
  obtain ⟨hso, hg, hs, hin, hsr, hsb, hsl⟩ := inv_cls h
  obtain ⟨rso, rwk, rg, rwf, rwi, rws, rre, rbe, rlo, rpa, rno⟩ := inv_ref h
  obtain ⟨jn, js, cin, ⟨bn, bi, bs⟩, tk, pu, pa, ho, li, il, ro, rl, ne, nr, zk, zv⟩ := id h
  by_cases e : x < 0
  · exact Jt.mk (c_X4_gone_o l D cI cJ cZ q xro xtk xli cn ci cs cso cki cfa cfb cfc cva csn csd csl csb csr csc won wle pte pho nwa nti x e) (c_X5_gone_o l D cI cJ cZ z cn ci cs xtk mso mwh mfi mse mth mpu mno mlo mbe mre mis mca mpa mva mle mst mtn mln mne mgo x e) rfl ⟨rfl, rfl, Nat.le_of_ble_eq_true rfl, Nat.le_of_ble_eq_true rfl⟩ ⟨rfl, rfl, Nat.le_of_ble_eq_true rfl, Nat.le_of_ble_eq_true rfl⟩ isA.mk (fun u hu => St.mk (inv_up h))
  · exact Jt.mk (c_X4_gone l D cI cJ cZ q xro xtk xli cn ci cs cso cki cfa cfb cfc cva csn csd csl csb csr csc won wle pte pho nwa nti x e) (c_X5_gone l D cI cJ cZ z cn ci cs xtk mso mwh mfi mse mth mpu mno mlo mbe mre mis mca mpa mva mle mst mtn mln mne mgo x e) (congrArg nI (ct_cong fun i hi => by unfold goneP; rw [go_eq ne nr nti mgo i hi])) ⟨rfl, rfl, Nat.le_of_ble_eq_true rfl, Nat.le_of_ble_eq_true rfl⟩ ⟨rfl, rfl, Nat.le_of_ble_eq_true rfl, Nat.le_of_ble_eq_true rfl⟩ isA.mk (fun u hu => St.mk (inv_up h))
set_option maxHeartbeats 4000000 in
set_option maxRecDepth 100000 in
theorem j_count (h : INV nn xro xtk xli cn ci cs cso cki cfa cfb cfc cva csn csd csl csb csr pho nwa mso mwh mfi mse mth mpu mno mlo mbe mre mis mca mpa mne) (x : Int32) : Jt l D cI cJ cZ q z nn yX4_count wsX4_count 2 yX5_count wsX5_count 4 [.int x] (wA q cI cJ xro xtk xli cn ci cs cso cki cfa cfb cfc cva csn csd csl csb csr csc won wle pte pho nwa nti) (wM z cI cZ cn ci cs xtk mso mwh mfi mse mth mpu mno mlo mbe mre mis mca mpa mva mle mst mtn mln mne mgo) := by
  obtain ⟨hso, hg, hs, hin, hsr, hsb, hsl⟩ := inv_cls h
  obtain ⟨rso, rwk, rg, rwf, rwi, rws, rre, rbe, rlo, rpa, rno⟩ := inv_ref h
  obtain ⟨jn, js, cin, ⟨bn, bi, bs⟩, tk, pu, pa, ho, li, il, ro, rl, ne, nr, zk, zv⟩ := id h
  rcases rng (x := x) (n := 5) (by omega) with e | ⟨k, hk, rfl⟩
  · exact Jt.mk (c_X4_count_o l D cI cJ cZ q xro xtk xli cn ci cs cso cki cfa cfb cfc cva csn csd csl csb csr csc won wle pte pho nwa nti x (rngI (n := 5) (by omega) e)) (c_X5_count_o l D cI cJ cZ z cn ci cs xtk mso mwh mfi mse mth mpu mno mlo mbe mre mis mca mpa mva mle mst mtn mln mne mgo x (rngI (n := 5) (by omega) e)) rfl ⟨rfl, rfl, Nat.le_of_ble_eq_true rfl, Nat.le_of_ble_eq_true rfl⟩ ⟨rfl, rfl, Nat.le_of_ble_eq_true rfl, Nat.le_of_ble_eq_true rfl⟩ isA.mk (fun u hu => St.mk (inv_up h))
  · exact Jt.mk (c_X4_count l D cI cJ cZ q xro xtk xli cn ci cs cso cki cfa cfb cfc cva csn csd csl csb csr csc won wle pte pho nwa nti k hk li) (c_X5_count l D cI cJ cZ z cn ci cs xtk mso mwh mfi mse mth mpu mno mlo mbe mre mis mca mpa mva mle mst mtn mln mne mgo k hk) (by rw [ct_li xli li, ct_cong (f := fun jj => xli.testBit jj) (g := mis) (n := 4) (fun i hi => (il i hi).symm), ct_cong (f := fun jj => !decide (nwa jj = (-9))) (g := fun jj => !decide (mne jj = (-9))) (n := 16) (fun i hi => by rw [ne i hi])]) ⟨rfl, rfl, Nat.le_of_ble_eq_true rfl, Nat.le_of_ble_eq_true rfl⟩ ⟨rfl, rfl, Nat.le_of_ble_eq_true rfl, Nat.le_of_ble_eq_true rfl⟩ isA.mk (fun u hu => St.mk (inv_up h))
end JT
