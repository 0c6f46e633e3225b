/-! fault: the class's answer is the reference's -/
theorem flt_ans {x nx r L n : Nat} {W : jWd} {h : jH} {v : Int32} {p : Int32 × jH} (E : eqS x nx r L W h) (e1 : F_X11_fault n x h = some v) (e2 : F_X12_fault n (x + 40) h = some p) : v = p.1 := by
  have I : oi (oc h) x 12 = oi (oc h) (x + 40) 14 := E.2.2.2.2.2.2.2.2.1
  unfold F_X11_fault at e1
  obtain ⟨v1, g1, e1⟩ := jbind e1
  cases e1
  unfold F_X12_fault at e2
  obtain ⟨h2, k1, e2⟩ := jbind e2
  obtain ⟨v6, k2, e2⟩ := jbind e2
  cases e2
  have r2 := oc_gI k2
  rw [(oc_pf k1).1, oi_ne (Or.inr (by decide))] at r2
  exact (oc_gI g1).symm.trans (I.trans r2)
theorem Sq_4 {x m out : Nat} {a : Nat → Int32} {h : jH} (v : jInE x m out h) : SL_4 6000 x m out a h (jInE x m out) := by
  obtain ⟨v, rfl, nx, r, L, W, E⟩ := v
  obtain ⟨r0, e0, r1, e1, p⟩ := St_4 (a := a) v
  exact ⟨r0, e0, r1, e1, flt_ans E (jcv_o e0).2 (jcv_o e1).2, p, rfl, _, _, _, _, eqq_fault E (jcv_o e1).2⟩
