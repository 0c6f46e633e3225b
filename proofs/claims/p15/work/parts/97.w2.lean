/-! what the reference says of throws -/
theorem thr_v {n x m out : Nat} {h : jH} (v : jInv x m out h) : jcv 10 h m (F_X12_thrown n m h) = some (oi (oc h) m 0) := by
  obtain ⟨g, Γ, hg, w, tx, tm, -⟩ := v
  rw [t_cv w tm rfl]
  obtain ⟨u, e, -⟩ := t_gI (k := 0) w tm rfl rfl
  unfold F_X12_thrown
  rw [e, oc_gI e]
  rfl
/-- hours: what was thrown and the answer are the reference's -/
theorem Sq_13 {x m out : Nat} {a : Nat → Int32} {h : jH} (v : jInE x m out h) : SL_13 6000 x m out a h (jInE x m out) := by
  obtain ⟨v, rfl, nx, r, L, W, E⟩ := v
  obtain ⟨r0, e0, t0⟩ := St_13 (a := a) v
  refine ⟨r0, e0, fun z0 hz0 => ?_⟩
  obtain ⟨r1, e1, ok, p⟩ := t0 z0 hz0
  obtain ⟨q, y, ho, hz⟩ := FLo_hours e0
  have sz : q.2.1 ≤ (z0, r0.2.2).1 := by rw [← hz]; exact hz0
  have ho2 : oc (z0, r0.2.2) = oc q.2 := ho
  obtain ⟨⟨nx2, r2, W2, E2⟩, A⟩ := eqz_hours E y ho2 sz (jcv_o e1).2
  obtain ⟨q8, y8, B⟩ := FLa_hours e0
  cases (y.symm.trans y8)
  obtain ⟨c1, c2⟩ := ans_B A B (by unfold FK_hours; decide) ok
  exact ⟨r1, e1, _, thr_v p, c1, c2, p, rfl, _, _, _, _, E2⟩
