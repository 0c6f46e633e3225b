/-! undo: the class's answer is the reference's -/
theorem Sq_50 {x m out : Nat} {a : Nat → Int32} {h : jH} (v : jInE x m out h) : SL_50 6000 x m out a h (jInE x m out) := by
  obtain ⟨v, rfl, nx, r, L, W, E⟩ := v
  obtain ⟨r0, e0, r1, e1, p⟩ := St_50 (a := a) v
  obtain ⟨⟨nx2, r2, W2, E2⟩, A, -⟩ := eq_undo E (jcv_o e0).2 (jcv_o e1).2
  exact ⟨r0, e0, r1, e1, A, p, rfl, _, _, _, _, E2⟩
