/-! count: the class's answer is the reference's -/
theorem cnt_R {n m : Nat} {v : Int32} {W : jWd} {h : jH} {q : Int32 × jH} (M : mS (oc h) m) (hw : wl (oc h) m = W) (hf : F_X12_count n m v h = some q) : q.1 = (if v = 2 then (if W 2 = 1 then W 435 else -1) else if v = 9 then W 9 else if v = 10 then oi (oc h) m 7 else if 0 ≤ v.toInt ∧ v.toInt ≤ 8 then W v.toNatClampNeg else -1) := by
  unfold F_X12_count at hf
  obtain ⟨h2, e1, hf⟩ := jbind hf
  have f : frM m [] [0] (oc h) (oc h2) := by rw [(oc_pf e1).1]; exact frM_f (by decide)
  have M2 := mS_fr M f (by decide) (by decide)
  have hw2 : wl (oc h2) m = W := (wl_f f (by decide)).trans hw
  have g : ∀ k, oi (oc h2) (m + 1) k = W k := fun k => congrFun hw2 k
  replace hf := jite hf
  rcases hf with ⟨c, hf⟩ | ⟨c, hf⟩
  · rw [if_pos c]
    obtain ⟨p, e2, hf⟩ := jbind hf
    have r2 := oc_gR e2
    rw [M2.1] at r2
    cases r2
    obtain ⟨w, e3, hf⟩ := jbind hf
    have r3 := (oc_al e3).1
    have r3 : W 2 = w := (g 2).symm.trans r3
    replace hf := jite hf
    rcases hf with ⟨d, hf⟩ | ⟨d, hf⟩
    · obtain ⟨p, e4, hf⟩ := jbind hf
      have r4 := oc_gR e4
      rw [M2.1] at r4
      cases r4
      obtain ⟨u, e5, hf⟩ := jbind hf
      have r5 : W 435 = u := (g 435).symm.trans (oc_al e5).1
      cases hf
      rw [if_pos (r3.trans d)]
      exact r5.symm
    · cases hf
      rw [if_neg (fun z => d (r3.symm.trans z))]
  rw [if_neg c]
  replace hf := jite hf
  rcases hf with ⟨c, hf⟩ | ⟨c, hf⟩
  · rw [if_pos c]
    obtain ⟨p, e2, hf⟩ := jbind hf
    have r2 := oc_gR e2
    rw [M2.1] at r2
    cases r2
    obtain ⟨w, e3, hf⟩ := jbind hf
    have r3 : W 9 = w := (g 9).symm.trans (oc_al e3).1
    cases hf
    exact r3.symm
  rw [if_neg c]
  replace hf := jite hf
  rcases hf with ⟨c, hf⟩ | ⟨c, hf⟩
  · rw [if_pos c]
    obtain ⟨w, e3, hf⟩ := jbind hf
    have r3 := oc_gI e3
    cases hf
    rw [← r3]
    exact frM_oi f (by decide) (by decide)
  rw [if_neg c]
  obtain ⟨b, e2, hf⟩ := jbind hf
  obtain ⟨b1, b2⟩ := E_X12_in e2
  have k0 : (0 : Int32).toInt = 0 := rfl
  have k8 : (8 : Int32).toInt = 8 := rfl
  rw [k0, k8] at b2
  replace hf := jite hf
  rcases hf with ⟨d, hf⟩ | ⟨d, hf⟩
  · cases hf
    rw [if_neg (fun z => absurd ((b2.mpr z).symm.trans d) (by decide))]
  · obtain ⟨p, e3, hf⟩ := jbind hf
    have r2 := oc_gR e3
    rw [M2.1] at r2
    cases r2
    obtain ⟨w, e4, hf⟩ := jbind hf
    have r3 : W v.toNatClampNeg = w := (g _).symm.trans (oc_al e4).1
    cases hf
    rw [if_pos (b2.mp (b1.resolve_left d))]
    exact r3.symm
theorem cnt_ans {x nx r L n n2 : Nat} {v : Int32} {W : jWd} {h : jH} {u : Int32} {q : Int32 × jH} (E : eqS x nx r L W h) (e1 : F_X11_count n x v h = some u) (e2 : F_X12_count n2 (x + 40) v h = some q) : u = q.1 := by
  have C := cls_of E
  obtain ⟨⟨x0, x1, x3, x8, x36, x19, -, M⟩, ⟨n1, n2, n3, n4, n5, n6, -⟩, ⟨R, hw, K, LE, -, -⟩, -⟩ := id E
  have x2 : oc h x 2 = .ref (x + 13) := C.1.2.2.2.2.2.1.1
  rw [cnt_R M hw e2]
  have r4 : oc h (x + 6) 4 = .ref (x + 6 + 5) := R.1.2.2.2.2.1
  obtain ⟨-, ⟨i5, i10, i11, i12, i13, i14, i15, i16, i17⟩, -, -, lg⟩ := R
  obtain ⟨-, l7, l01, l8⟩ := LE
  unfold F_X11_count at e1
  have G : ∀ {k j : Nat} {w : Int32}, v = nI j → j ≤ 8 → j ≠ 2 → oi (oc h) (x + 6) k = W j → ((jgR 9 h x 1).bind fun p => (jgI 6 h p k).bind fun v => some v) = some u → u = (if v = 2 then (if W 2 = 1 then W 435 else -1) else if v = 9 then W 9 else if v = 10 then oi (oc h) (x + 40) 7 else if 0 ≤ v.toInt ∧ v.toInt ≤ 8 then W v.toNatClampNeg else -1) := by
    intro k j w hv hj j2 hk hf
    obtain ⟨p, e3, hf⟩ := jbind hf
    have r2 := oc_gR e3
    rw [x1] at r2
    cases r2
    obtain ⟨w, e4, hf⟩ := jbind hf
    have r3 := oc_gI e4
    cases hf
    have t : v.toInt = (j : Int) := by rw [hv, nI_toInt (by omega)]
    have v2 : v ≠ 2 := fun z => by rw [z] at t; have : (2 : Int32).toInt = 2 := rfl; omega
    have v9 : v ≠ 9 := fun z => by rw [z] at t; have : (9 : Int32).toInt = 9 := rfl; omega
    have v10 : v ≠ 10 := fun z => by rw [z] at t; have : (10 : Int32).toInt = 10 := rfl; omega
    rw [if_neg v2, if_neg v9, if_neg v10, if_pos (by omega), ← r3, hk, hv, nI_clamp (by omega)]
  have iteS : ∀ {j k : Nat} {z : Int32} {A B : Option Int32}, z = nI j → (if v = z then A else B) = some u → (v = nI j ∧ A = some u) ∨ (v ≠ z ∧ B = some u) := by
    intro j k z A B hz hh
    rcases jite hh with ⟨c, hh⟩ | ⟨c, hh⟩
    · exact Or.inl ⟨c.trans hz, hh⟩
    · exact Or.inr ⟨c, hh⟩
  rcases iteS (j := 0) (k := 0) rfl e1 with ⟨c, e1⟩ | ⟨c0, e1⟩
  · exact G (w := 0) c (by omega) (by omega) i5 e1
  rcases iteS (j := 1) (k := 0) rfl e1 with ⟨c, e1⟩ | ⟨c1, e1⟩
  · exact G (w := 0) c (by omega) (by omega) i17 e1
  rcases jite e1 with ⟨c, e1⟩ | ⟨c2, e1⟩
  · rw [if_pos c]
    obtain ⟨p, e3, hf⟩ := jbind e1
    have r2 := oc_gR e3
    rw [x2] at r2
    cases r2
    obtain ⟨w, e4, hf⟩ := jbind hf
    have r3 := oc_gI e4
    rw [l7] at r3
    rcases jite hf with ⟨d, hf⟩ | ⟨d, hf⟩
    · cases hf
      rw [if_neg (fun z => absurd ((z.symm.trans r3).trans d) (by decide))]
    · obtain ⟨p, e5, hf⟩ := jbind hf
      have r2 := oc_gR e5
      rw [x2] at r2
      cases r2
      obtain ⟨w2, e6, hf⟩ := jbind hf
      have r6 := oc_gI e6
      cases hf
      have w1 : W 2 = 1 := l01.resolve_left (fun z => d (r3.symm.trans z))
      rw [if_pos w1, ← (l8 w1).1]
      exact r6.symm
  rcases iteS (j := 3) (k := 0) rfl e1 with ⟨c, e1⟩ | ⟨c3, e1⟩
  · exact G (w := 0) c (by omega) (by omega) i13 e1
  rcases iteS (j := 4) (k := 0) rfl e1 with ⟨c, e1⟩ | ⟨c4, e1⟩
  · exact G (w := 0) c (by omega) (by omega) i14 e1
  rcases iteS (j := 5) (k := 0) rfl e1 with ⟨c, e1⟩ | ⟨c5, e1⟩
  · exact G (w := 0) c (by omega) (by omega) i11 e1
  rcases iteS (j := 6) (k := 0) rfl e1 with ⟨c, e1⟩ | ⟨c6, e1⟩
  · exact G (w := 0) c (by omega) (by omega) i12 e1
  rcases iteS (j := 7) (k := 0) rfl e1 with ⟨c, e1⟩ | ⟨c7, e1⟩
  · exact G (w := 0) c (by omega) (by omega) i10 e1
  rcases iteS (j := 8) (k := 0) rfl e1 with ⟨c, e1⟩ | ⟨c8, e1⟩
  · exact G (w := 0) c (by omega) (by omega) i15 e1
  rw [if_neg c2]
  rcases jite e1 with ⟨c, e1⟩ | ⟨c9, e1⟩
  · rw [if_pos c]
    obtain ⟨p, e3, hf⟩ := jbind e1
    have r2 := oc_gR e3
    rw [x1] at r2
    cases r2
    obtain ⟨p2, e5, hf⟩ := jbind hf
    have r5 := oc_gR e5
    rw [r4] at r5
    cases r5
    obtain ⟨w, e4, hf⟩ := jbind hf
    have r3 := oc_gI e4
    cases hf
    rw [← r3]
    exact lg.1
  rw [if_neg c9]
  rcases jite e1 with ⟨c, e1⟩ | ⟨c10, e1⟩
  · rw [if_pos c]
    obtain ⟨p, e3, hf⟩ := jbind e1
    have r2 := oc_gR e3
    rw [x3] at r2
    cases r2
    obtain ⟨w, e4, hf⟩ := jbind hf
    have r3 := oc_gI e4
    cases hf
    rw [n4, ← r3]
    exact Int32.toInt_inj.mp (by rw [n3, nI_toInt (by omega)])
  rw [if_neg c10]
  cases e1
  rw [if_neg (fun z => ?_)]
  have hv : v = nI v.toInt.toNat := Int32.toInt_inj.mp (by rw [nI_toInt (by omega)]; omega)
  have : v.toInt.toNat = 0 ∨ v.toInt.toNat = 1 ∨ v.toInt.toNat = 2 ∨ v.toInt.toNat = 3 ∨ v.toInt.toNat = 4 ∨ v.toInt.toNat = 5 ∨ v.toInt.toNat = 6 ∨ v.toInt.toNat = 7 ∨ v.toInt.toNat = 8 := by omega
  rcases this with t | t | t | t | t | t | t | t | t <;> rw [t] at hv
  · exact c0 hv
  · exact c1 hv
  · exact c2 hv
  · exact c3 hv
  · exact c4 hv
  · exact c5 hv
  · exact c6 hv
  · exact c7 hv
  · exact c8 hv
theorem Sq_53 {x m out : Nat} {a : Nat → Int32} {h : jH} (v : jInE x m out h) : SL_53 6000 x m out a h (jInE x m out) := by
  obtain ⟨v, rfl, nx, r, L, W, E⟩ := v
  obtain ⟨g, Γ, hg, w, tx, tm, to, hu, h41, hl, hI⟩ := v
  unfold SL_53
  rw [t_cv w tx rfl]
  obtain ⟨r0, e0, p0⟩ := S_X11_count (Nat.le_refl _) hg w tx
  refine ⟨r0, e0, ?_⟩
  rw [t_cv w tm rfl]
  obtain ⟨r1, e1, p1⟩ := S_X12_count (Nat.le_refl _) hg w tm
  refine ⟨r1, e1, cnt_ans E e0 e1, ?_, rfl, _, _, _, _, eqq_count E e1⟩
  obtain ⟨w2, -⟩ := p1
  refine ⟨_, Γ, ?_, w2, tx, tm, to, hu, h41, ?_, ?_⟩
  · exact hg
  · exact hl
  · exact hI
