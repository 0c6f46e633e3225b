/-! the run: jInv and the likeness go on -/
def jEq (x m : Nat) (h : jH) : Prop := m = x + 40 ∧ ∃ (nx r L : Nat) (W : jWd), eqS x nx r L W h
def jInE (x m out : Nat) (h : jH) : Prop := jInv x m out h ∧ jEq x m h
theorem t_hB {g : jGh} {Γ : Nat → Option Nat} {h : jH} {m : Nat} (w : jW (jKd g) Γ h) (tm : Γ m = some 20) (M : mS (oc h) m) : ∀ i, i < 400 → -128 ≤ (oi (oc h) (m + 6) i).toInt ∧ (oi (oc h) (m + 6) i).toInt ≤ 127 := by
  intro i hi
  have ta : Γ (m + 6) = some 26 := t_ref w tm rfl rfl M.2.2.2.2.2.1
  obtain ⟨f, e1, p⟩ := t_arr (t := 1) (N := 400) (R := fun _ => jI (-128) 127) w ta rfl
  have e : oi (oc h) (m + 6) i = f i := by
    unfold oi oc
    rw [e1]
    rfl
  rw [e]
  exact p i hi
theorem t_l8 {g : jGh} {Γ : Nat → Option Nat} {h : jH} {a : Nat} (w : jW (jKd g) Γ h) (ta : Γ a = some 0) : jlen h a = some 8 := by
  obtain ⟨f, e1, p⟩ := t_arr (t := 0) (N := 8) (R := fun _ => jAny) w ta rfl
  unfold jlen
  rw [e1]
  rfl
theorem t_J {g : jGh} {Γ : Nat → Option Nat} {h : jH} {x : Nat} (w : jW (jKd g) Γ h) (tx : Γ x = some 19) (S : rdrS (oc h) x) : jlen h (x + 24) = some 8 ∧ jlen h (x + 25) = some 8 := by
  have t21 : Γ (x + 21) = some 3 := t_ref w tx rfl rfl S.1.2.1
  exact ⟨t_l8 w (t_ref w t21 rfl rfl S.2.2.2.2.1.2.2.1), t_l8 w (t_ref w t21 rfl rfl S.2.2.2.2.1.2.2.2.1)⟩
theorem i01 {v : Int32} : (if v = 0 then (0 : Int32) else 1) = 0 ∨ (if v = 0 then (0 : Int32) else 1) = 1 := by
  split
  · exact Or.inl rfl
  · exact Or.inr rfl
theorem idI {v : Int32} : (if v = 0 then (0 : Int32) else 1) = dI (!decide (v = 0)) := by
  unfold dI
  by_cases q : v = 0
  · rw [if_pos q]; simp [q]
  · rw [if_neg q]; simp [q]
theorem Sq_0 {x m out : Nat} {a : Nat → Int32} {h : jH} (v : jInE x m out h) : SL_0 6000 x m out a h (jInE x m out) := by
  obtain ⟨v, rfl, nx, r, L, W, E⟩ := v
  obtain ⟨r0, e0, r1, e1, p⟩ := St_0 (a := a) v
  obtain ⟨L2, E2⟩ := (eq_feed E (jcv_o e0).2 (jcv_o e1).2).1
  exact ⟨r0, e0, r1, e1, p, rfl, _, _, _, _, E2⟩
theorem Sq_1 {x m out : Nat} {a : Nat → Int32} {h : jH} (v : jInE x m out h) : SL_1 6000 x m out a h (jInE x m out) := by
  obtain ⟨v, rfl, nx, r, L, W, E⟩ := v
  obtain ⟨r0, e0, r1, e1, p⟩ := St_1 (a := a) v
  obtain ⟨L2, E2⟩ := (eq_end E (jcv_o e0).2 (jcv_o e1).2).1
  exact ⟨r0, e0, r1, e1, p, rfl, _, _, _, _, E2⟩
theorem Sq_2 {x m out : Nat} {a : Nat → Int32} {h : jH} (v : jInE x m out h) : SL_2 6000 x m out a h (jInE x m out) := by
  obtain ⟨v, rfl, nx, r, L, W, E⟩ := v
  obtain ⟨r0, e0, t0⟩ := St_2 (a := a) v
  refine ⟨r0, e0, fun z0 hz0 => ?_⟩
  obtain ⟨r1, e1, p⟩ := t0 z0 hz0
  obtain ⟨q, y, ho, hz⟩ := FLo_pole e0
  have sz : q.2.1 ≤ (z0, r0.2.2).1 := by rw [← hz]; exact hz0
  have ho2 : oc (z0, r0.2.2) = oc q.2 := ho
  obtain ⟨g, Γ, hg, w, tx, tm, to, hu, -⟩ := id v
  have hB := t_hB w tm (cls_of E).2
  obtain ⟨r2, W2, E2⟩ := (eqz_pole E (t_J w tx (cls_of E).1.2.2.2.2.2) hB y ho2 sz (jcv_o e1).2).1
  exact ⟨r1, e1, p, rfl, _, _, _, _, E2⟩
theorem Sq_3 {x m out : Nat} {a : Nat → Int32} {h : jH} (v : jInE x m out h) : SL_3 6000 x m out a h (jInE x m out) := by
  obtain ⟨v, rfl, nx, r, L, W, E⟩ := v
  obtain ⟨r0, e0, t0⟩ := St_3 (a := a) v
  refine ⟨r0, e0, fun z0 hz0 => ?_⟩
  obtain ⟨r1, e1, p⟩ := t0 z0 hz0
  obtain ⟨q, y, ho, hz⟩ := FLo_law e0
  have sz : q.2.1 ≤ (z0, r0.2.2).1 := by rw [← hz]; exact hz0
  have ho2 : oc (z0, r0.2.2) = oc q.2 := ho
  obtain ⟨g, Γ, hg, w, tx, tm, to, hu, -⟩ := id v
  have hB := t_hB w tm (cls_of E).2
  obtain ⟨r2, W2, E2⟩ := (eqz_law E hB y ho2 sz (jcv_o e1).2).1
  exact ⟨r1, e1, p, rfl, _, _, _, _, E2⟩
theorem Sq_4 {x m out : Nat} {a : Nat → Int32} {h : jH} (v : jInE x m out h) : SL_4 6000 x m out a h (jInE x m out) := by
  obtain ⟨v, rfl, nx, r, L, W, E⟩ := v
  obtain ⟨r0, e0, r1, e1, p⟩ := St_4 (a := a) v
  exact ⟨r0, e0, r1, e1, p, rfl, _, _, _, _, eqq_fault E (jcv_o e1).2⟩
theorem Sq_5 {x m out : Nat} {a : Nat → Int32} {h : jH} (v : jInE x m out h) : SL_5 6000 x m out a h (jInE x m out) := by
  obtain ⟨v, rfl, nx, r, L, W, E⟩ := v
  obtain ⟨r0, e0, t0⟩ := St_5 (a := a) v
  refine ⟨r0, e0, fun z0 hz0 => ?_⟩
  obtain ⟨r1, e1, p⟩ := t0 z0 hz0
  obtain ⟨q, y, ho, hz⟩ := FLo_ring e0
  have sz : q.2.1 ≤ (z0, r0.2.2).1 := by rw [← hz]; exact hz0
  have ho2 : oc (z0, r0.2.2) = oc q.2 := ho
  have E1 := eq_oc (eqc E (FC_X11_ring_0 (cls_of E).1 y)) ho2 sz
  exact ⟨r1, e1, p, rfl, _, _, _, _, eqr_ring E1 (jcv_o e1).2⟩
theorem Sq_6 {x m out : Nat} {a : Nat → Int32} {h : jH} (v : jInE x m out h) : SL_6 6000 x m out a h (jInE x m out) := by
  obtain ⟨v, rfl, nx, r, L, W, E⟩ := v
  obtain ⟨r0, e0, t0⟩ := St_6 (a := a) v
  refine ⟨r0, e0, fun z0 hz0 => ?_⟩
  obtain ⟨r1, e1, p⟩ := t0 z0 hz0
  obtain ⟨q, y, ho, hz⟩ := FLo_pull e0
  have sz : q.2.1 ≤ (z0, r0.2.2).1 := by rw [← hz]; exact hz0
  have ho2 : oc (z0, r0.2.2) = oc q.2 := ho
  obtain ⟨nx2, r2, W2, E2⟩ := (eqz_pull idI E y ho2 sz (jcv_o e1).2).1
  exact ⟨r1, e1, p, rfl, _, _, _, _, E2⟩
theorem Sq_7 {x m out : Nat} {a : Nat → Int32} {h : jH} (v : jInE x m out h) : SL_7 6000 x m out a h (jInE x m out) := by
  obtain ⟨v, rfl, nx, r, L, W, E⟩ := v
  obtain ⟨r0, e0, t0⟩ := St_7 (a := a) v
  refine ⟨r0, e0, fun z0 hz0 => ?_⟩
  obtain ⟨r1, e1, p⟩ := t0 z0 hz0
  obtain ⟨q, y, ho, hz⟩ := FLo_free e0
  have sz : q.2.1 ≤ (z0, r0.2.2).1 := by rw [← hz]; exact hz0
  have ho2 : oc (z0, r0.2.2) = oc q.2 := ho
  obtain ⟨nx2, r2, W2, E2⟩ := (eqz_free E y ho2 sz (jcv_o e1).2).1
  exact ⟨r1, e1, p, rfl, _, _, _, _, E2⟩
theorem Sq_8 {x m out : Nat} {a : Nat → Int32} {h : jH} (v : jInE x m out h) : SL_8 6000 x m out a h (jInE x m out) := by
  obtain ⟨v, rfl, nx, r, L, W, E⟩ := v
  obtain ⟨r0, e0, t0⟩ := St_8 (a := a) v
  refine ⟨r0, e0, fun z0 hz0 => ?_⟩
  obtain ⟨r1, e1, p⟩ := t0 z0 hz0
  obtain ⟨q, y, ho, hz⟩ := FLo_snag e0
  have sz : q.2.1 ≤ (z0, r0.2.2).1 := by rw [← hz]; exact hz0
  have ho2 : oc (z0, r0.2.2) = oc q.2 := ho
  obtain ⟨nx2, r2, W2, E2⟩ := (eqz_snag E y ho2 sz (jcv_o e1).2).1
  exact ⟨r1, e1, p, rfl, _, _, _, _, E2⟩
theorem Sq_9 {x m out : Nat} {a : Nat → Int32} {h : jH} (v : jInE x m out h) : SL_9 6000 x m out a h (jInE x m out) := by
  obtain ⟨v, rfl, nx, r, L, W, E⟩ := v
  obtain ⟨r0, e0, t0⟩ := St_9 (a := a) v
  refine ⟨r0, e0, fun z0 hz0 => ?_⟩
  obtain ⟨r1, e1, p⟩ := t0 z0 hz0
  obtain ⟨q, y, ho, hz⟩ := FLo_hook e0
  have sz : q.2.1 ≤ (z0, r0.2.2).1 := by rw [← hz]; exact hz0
  have ho2 : oc (z0, r0.2.2) = oc q.2 := ho
  obtain ⟨nx2, r2, W2, E2⟩ := (eqz_hook i01 E y ho2 sz (jcv_o e1).2).1
  exact ⟨r1, e1, p, rfl, _, _, _, _, E2⟩
theorem Sq_10 {x m out : Nat} {a : Nat → Int32} {h : jH} (v : jInE x m out h) : SL_10 6000 x m out a h (jInE x m out) := by
  obtain ⟨v, rfl, nx, r, L, W, E⟩ := v
  obtain ⟨r0, e0, t0⟩ := St_10 (a := a) v
  refine ⟨r0, e0, fun z0 hz0 => ?_⟩
  obtain ⟨r1, e1, p⟩ := t0 z0 hz0
  obtain ⟨q, y, ho, hz⟩ := FLo_sew e0
  have sz : q.2.1 ≤ (z0, r0.2.2).1 := by rw [← hz]; exact hz0
  have ho2 : oc (z0, r0.2.2) = oc q.2 := ho
  obtain ⟨nx2, r2, W2, E2⟩ := (eqz_sew E y ho2 sz (jcv_o e1).2).1
  exact ⟨r1, e1, p, rfl, _, _, _, _, E2⟩
theorem Sq_11 {x m out : Nat} {a : Nat → Int32} {h : jH} (v : jInE x m out h) : SL_11 6000 x m out a h (jInE x m out) := by
  obtain ⟨v, rfl, nx, r, L, W, E⟩ := v
  obtain ⟨r0, e0, t0⟩ := St_11 (a := a) v
  refine ⟨r0, e0, fun z0 hz0 => ?_⟩
  obtain ⟨r1, e1, p⟩ := t0 z0 hz0
  obtain ⟨q, y, ho, hz⟩ := FLo_let e0
  have sz : q.2.1 ≤ (z0, r0.2.2).1 := by rw [← hz]; exact hz0
  have ho2 : oc (z0, r0.2.2) = oc q.2 := ho
  obtain ⟨nx2, r2, W2, E2⟩ := (eqz_let E y ho2 sz (jcv_o e1).2).1
  exact ⟨r1, e1, p, rfl, _, _, _, _, E2⟩
theorem Sq_12 {x m out : Nat} {a : Nat → Int32} {h : jH} (v : jInE x m out h) : SL_12 6000 x m out a h (jInE x m out) := by
  obtain ⟨v, rfl, nx, r, L, W, E⟩ := v
  obtain ⟨r0, e0, t0⟩ := St_12 (a := a) v
  refine ⟨r0, e0, fun z0 hz0 => ?_⟩
  obtain ⟨r1, e1, p⟩ := t0 z0 hz0
  obtain ⟨q, y, ho, hz⟩ := FLo_chair e0
  have sz : q.2.1 ≤ (z0, r0.2.2).1 := by rw [← hz]; exact hz0
  have ho2 : oc (z0, r0.2.2) = oc q.2 := ho
  obtain ⟨nx2, r2, W2, E2⟩ := (eqz_chair i01 E y ho2 sz (jcv_o e1).2).1
  exact ⟨r1, e1, p, rfl, _, _, _, _, E2⟩
theorem Sq_13 {x m out : Nat} {a : Nat → Int32} {h : jH} (v : jInE x m out h) : SL_13 6000 x m out a h (jInE x m out) := by
  obtain ⟨v, rfl, nx, r, L, W, E⟩ := v
  obtain ⟨r0, e0, t0⟩ := St_13 (a := a) v
  refine ⟨r0, e0, fun z0 hz0 => ?_⟩
  obtain ⟨r1, e1, p⟩ := t0 z0 hz0
  obtain ⟨q, y, ho, hz⟩ := FLo_hours e0
  have sz : q.2.1 ≤ (z0, r0.2.2).1 := by rw [← hz]; exact hz0
  have ho2 : oc (z0, r0.2.2) = oc q.2 := ho
  obtain ⟨nx2, r2, W2, E2⟩ := (eqz_hours E y ho2 sz (jcv_o e1).2).1
  exact ⟨r1, e1, p, rfl, _, _, _, _, E2⟩
theorem Sq_14 {x m out : Nat} {a : Nat → Int32} {h : jH} (v : jInE x m out h) : SL_14 6000 x m out a h (jInE x m out) := by
  obtain ⟨v, rfl, nx, r, L, W, E⟩ := v
  obtain ⟨r0, e0, r1, e1, p⟩ := St_14 (a := a) v
  exact ⟨r0, e0, r1, e1, p, rfl, _, _, _, _, eqq_shade E (jcv_o e1).2⟩
theorem Sq_15 {x m out : Nat} {a : Nat → Int32} {h : jH} (v : jInE x m out h) : SL_15 6000 x m out a h (jInE x m out) := by
  obtain ⟨v, rfl, nx, r, L, W, E⟩ := v
  obtain ⟨r0, e0, r1, e1, p⟩ := St_15 (a := a) v
  exact ⟨r0, e0, r1, e1, p, rfl, _, _, _, _, eqq_dark E (jcv_o e1).2⟩
theorem Sq_16 {x m out : Nat} {a : Nat → Int32} {h : jH} (v : jInE x m out h) : SL_16 6000 x m out a h (jInE x m out) := by
  obtain ⟨v, rfl, nx, r, L, W, E⟩ := v
  obtain ⟨r0, e0, r1, e1, p⟩ := St_16 (a := a) v
  exact ⟨r0, e0, r1, e1, p, rfl, _, _, _, _, eqq_bare E (jcv_o e1).2⟩
theorem Sq_17 {x m out : Nat} {a : Nat → Int32} {h : jH} (v : jInE x m out h) : SL_17 6000 x m out a h (jInE x m out) := by
  obtain ⟨v, rfl, nx, r, L, W, E⟩ := v
  obtain ⟨r0, e0, t0⟩ := St_17 (a := a) v
  refine ⟨r0, e0, fun z0 hz0 => ?_⟩
  obtain ⟨r1, e1, p⟩ := t0 z0 hz0
  obtain ⟨q, y, ho, hz⟩ := FLo_goes e0
  have sz : q.2.1 ≤ (z0, r0.2.2).1 := by rw [← hz]; exact hz0
  have ho2 : oc (z0, r0.2.2) = oc q.2 := ho
  obtain ⟨g, Γ, hg, w, tx, tm, to, hu, -⟩ := id v
  obtain ⟨q9, y9, wq⟩ := FLw_goes e0
  have w1 := wq (jok_v (S_X11_goes (Nat.le_refl _) hg w tx) y9).1 to
  have wz := t_z4 w1 hz0
  have w2 := (jok_v (S_X12_goes (Nat.le_refl _) hg wz tm) (jcv_o e1).2).1
  have E1 := eq_oc (eqc E (FC_X11_goes_0 (cls_of E).1 y)) ho2 sz
  exact ⟨r1, e1, p, rfl, _, _, _, _, eqr_goes E1 (jcv_o e1).2 wz w2 (t_w w tm (cls_of E).2)⟩
theorem Sq_18 {x m out : Nat} {a : Nat → Int32} {h : jH} (v : jInE x m out h) : SL_18 6000 x m out a h (jInE x m out) := by
  obtain ⟨v, rfl, nx, r, L, W, E⟩ := v
  obtain ⟨r0, e0, t0⟩ := St_18 (a := a) v
  refine ⟨r0, e0, fun z0 hz0 => ?_⟩
  obtain ⟨r1, e1, p⟩ := t0 z0 hz0
  obtain ⟨q, y, ho, hz⟩ := FLo_with e0
  have sz : q.2.1 ≤ (z0, r0.2.2).1 := by rw [← hz]; exact hz0
  have ho2 : oc (z0, r0.2.2) = oc q.2 := ho
  have E1 := eq_oc (eqc E (FC_X11_with_0 (cls_of E).1 y)) ho2 sz
  exact ⟨r1, e1, p, rfl, _, _, _, _, eqr_with E1 (jcv_o e1).2⟩
theorem Sq_19 {x m out : Nat} {a : Nat → Int32} {h : jH} (v : jInE x m out h) : SL_19 6000 x m out a h (jInE x m out) := by
  obtain ⟨v, rfl, nx, r, L, W, E⟩ := v
  obtain ⟨r0, e0, t0⟩ := St_19 (a := a) v
  refine ⟨r0, e0, fun z0 hz0 => ?_⟩
  obtain ⟨r1, e1, p⟩ := t0 z0 hz0
  obtain ⟨q, y, ho, hz⟩ := FLo_would e0
  have sz : q.2.1 ≤ (z0, r0.2.2).1 := by rw [← hz]; exact hz0
  have ho2 : oc (z0, r0.2.2) = oc q.2 := ho
  obtain ⟨g, Γ, hg, w, tx, tm, to, hu, -⟩ := id v
  obtain ⟨q9, y9, wq⟩ := FLw_would e0
  have w1 := wq (jok_v (S_X11_would (Nat.le_refl _) hg w tx) y9).1 to
  have wz := t_z4 w1 hz0
  have w2 := (jok_v (S_X12_would (Nat.le_refl _) hg wz tm) (jcv_o e1).2).1
  have E1 := eq_oc (eqc E (FC_X11_would_0 (cls_of E).1 y)) ho2 sz
  exact ⟨r1, e1, p, rfl, _, _, _, _, eqr_would E1 (jcv_o e1).2 wz w2 (t_w w tm (cls_of E).2)⟩
theorem Sq_20 {x m out : Nat} {a : Nat → Int32} {h : jH} (v : jInE x m out h) : SL_20 6000 x m out a h (jInE x m out) := by
  obtain ⟨v, rfl, nx, r, L, W, E⟩ := v
  obtain ⟨r0, e0, r1, e1, p⟩ := St_20 (a := a) v
  obtain ⟨g, Γ, hg, w, tx, tm, to, hu, -⟩ := id v
  have w1 := (jok_v (S_X11_best (Nat.le_refl _) hg w tx) (jcv_o e0).2).1
  have w2 := (jok_v (S_X12_best (Nat.le_refl _) hg w1 tm) (jcv_o e1).2).1
  exact ⟨r0, e0, r1, e1, p, rfl, _, _, _, _, eqq_best E (jcv_o e0).2 (jcv_o e1).2 w1 w2 (t_w w tm (cls_of E).2)⟩
theorem Sq_21 {x m out : Nat} {a : Nat → Int32} {h : jH} (v : jInE x m out h) : SL_21 6000 x m out a h (jInE x m out) := by
  obtain ⟨v, rfl, nx, r, L, W, E⟩ := v
  obtain ⟨r0, e0, r1, e1, p⟩ := St_21 (a := a) v
  obtain ⟨g, Γ, hg, w, tx, tm, to, hu, -⟩ := id v
  have w1 := (jok_v (S_X11_fewest (Nat.le_refl _) hg w tx) (jcv_o e0).2).1
  have w2 := (jok_v (S_X12_fewest (Nat.le_refl _) hg w1 tm) (jcv_o e1).2).1
  exact ⟨r0, e0, r1, e1, p, rfl, _, _, _, _, eqq_fewest E (jcv_o e0).2 (jcv_o e1).2 w1 w2 (t_w w tm (cls_of E).2)⟩
theorem Sq_22 {x m out : Nat} {a : Nat → Int32} {h : jH} (v : jInE x m out h) : SL_22 6000 x m out a h (jInE x m out) := by
  obtain ⟨v, rfl, nx, r, L, W, E⟩ := v
  obtain ⟨r0, e0, r1, e1, p⟩ := St_22 (a := a) v
  obtain ⟨g, Γ, hg, w, tx, tm, to, hu, -⟩ := id v
  have w1 := (jok_v (S_X11_first (Nat.le_refl _) hg w tx) (jcv_o e0).2).1
  have w2 := (jok_v (S_X12_first (Nat.le_refl _) hg w1 tm) (jcv_o e1).2).1
  exact ⟨r0, e0, r1, e1, p, rfl, _, _, _, _, eqq_first E (jcv_o e0).2 (jcv_o e1).2 w1 w2 (t_w w tm (cls_of E).2)⟩
theorem Sq_23 {x m out : Nat} {a : Nat → Int32} {h : jH} (v : jInE x m out h) : SL_23 6000 x m out a h (jInE x m out) := by
  obtain ⟨v, rfl, nx, r, L, W, E⟩ := v
  obtain ⟨r0, e0, t0⟩ := St_23 (a := a) v
  refine ⟨r0, e0, fun z0 hz0 => ?_⟩
  obtain ⟨r1, e1, p⟩ := t0 z0 hz0
  obtain ⟨q, y, ho, hz⟩ := FLo_snags e0
  have sz : q.2.1 ≤ (z0, r0.2.2).1 := by rw [← hz]; exact hz0
  have ho2 : oc (z0, r0.2.2) = oc q.2 := ho
  obtain ⟨g, Γ, hg, w, tx, tm, to, hu, -⟩ := id v
  obtain ⟨q9, y9, wq⟩ := FLw_snags e0
  have w1 := wq (jok_v (S_X11_snags (Nat.le_refl _) hg w tx (fun a b => hu a b 10 (by omega))) y9).1 to
  have wz := t_z4 w1 hz0
  have hg1 : jgok ((0 : Int32).toInt, g.2) := ⟨j00, hg.2⟩
  have w2 := (jok_v (S_X12_snags (Nat.le_refl _) hg1 wz tm hu) (jcv_o e1).2).1
  exact ⟨r1, e1, p, rfl, _, _, _, _, eqz_snags E y ho2 sz (jcv_o e1).2 (g := ((0 : Int32).toInt, g.2)) (g2 := ((0 : Int32).toInt, g.2.1, (0 : Int32).toInt, g.2.2.2)) rfl wz w2 (t_w w tm (cls_of E).2)⟩
theorem Sq_24 {x m out : Nat} {a : Nat → Int32} {h : jH} (v : jInE x m out h) : SL_24 6000 x m out a h (jInE x m out) := by
  obtain ⟨v, rfl, nx, r, L, W, E⟩ := v
  obtain ⟨r0, e0, t0⟩ := St_24 (a := a) v
  refine ⟨r0, e0, fun z0 hz0 => ?_⟩
  obtain ⟨r1, e1, p⟩ := t0 z0 hz0
  obtain ⟨q, y, ho, hz⟩ := FLo_tries e0
  have sz : q.2.1 ≤ (z0, r0.2.2).1 := by rw [← hz]; exact hz0
  have ho2 : oc (z0, r0.2.2) = oc q.2 := ho
  obtain ⟨g, Γ, hg, w, tx, tm, to, hu, -⟩ := id v
  obtain ⟨q9, y9, wq⟩ := FLw_tries e0
  have w1 := wq (jok_v (S_X11_tries (Nat.le_refl _) hg w tx (fun a b => hu a b 10 (by omega))) y9).1 to
  have wz := t_z4 w1 hz0
  have hg1 : jgok ((0 : Int32).toInt, g.2) := ⟨j00, hg.2⟩
  have w2 := (jok_v (S_X12_tries (Nat.le_refl _) hg1 wz tm hu) (jcv_o e1).2).1
  exact ⟨r1, e1, p, rfl, _, _, _, _, eqz_tries E y ho2 sz (jcv_o e1).2 (g := ((0 : Int32).toInt, g.2)) (g2 := ((0 : Int32).toInt, g.2.1, (0 : Int32).toInt, g.2.2.2)) rfl wz w2 (t_w w tm (cls_of E).2)⟩
theorem Sq_25 {x m out : Nat} {a : Nat → Int32} {h : jH} (v : jInE x m out h) : SL_25 6000 x m out a h (jInE x m out) := by
  obtain ⟨v, rfl, nx, r, L, W, E⟩ := v
  obtain ⟨r0, e0, t0⟩ := St_25 (a := a) v
  refine ⟨r0, e0, fun z0 hz0 => ?_⟩
  obtain ⟨r1, e1, p⟩ := t0 z0 hz0
  obtain ⟨q, y, ho, hz⟩ := FLo_loosen e0
  have sz : q.2.1 ≤ (z0, r0.2.2).1 := by rw [← hz]; exact hz0
  have ho2 : oc (z0, r0.2.2) = oc q.2 := ho
  obtain ⟨g, Γ, hg, w, tx, tm, to, hu, -⟩ := id v
  obtain ⟨q9, y9, wq⟩ := FLw_loosen e0
  have w1 := wq (jok_v (S_X11_loosen (Nat.le_refl _) hg w tx) y9).1 to
  have wz := t_z4 w1 hz0
  have w2 := (jok_v (S_X12_loosen (Nat.le_refl _) hg wz tm) (jcv_o e1).2).1
  have E1 := eq_oc (eqc E (FC_X11_loosen_0 (cls_of E).1 y)) ho2 sz
  exact ⟨r1, e1, p, rfl, _, _, _, _, eqr_loosen E1 (jcv_o e1).2 wz w2 (t_w w tm (cls_of E).2)⟩
theorem Sq_27 {x m out : Nat} {a : Nat → Int32} {h : jH} (v : jInE x m out h) : SL_27 6000 x m out a h (jInE x m out) := by
  obtain ⟨v, rfl, nx, r, L, W, E⟩ := v
  obtain ⟨r0, e0, t0⟩ := St_27 (a := a) v
  refine ⟨r0, e0, fun z0 hz0 => ?_⟩
  obtain ⟨r1, e1, p⟩ := t0 z0 hz0
  obtain ⟨q, y, ho, hz⟩ := FLo_tight e0
  have sz : q.2.1 ≤ (z0, r0.2.2).1 := by rw [← hz]; exact hz0
  have ho2 : oc (z0, r0.2.2) = oc q.2 := ho
  have E1 := eq_oc (eqc E (FC_X11_tight_0 (cls_of E).1 y)) ho2 sz
  exact ⟨r1, e1, p, rfl, _, _, _, _, eqr_tight E1 (jcv_o e1).2⟩
theorem Sq_28 {x m out : Nat} {a : Nat → Int32} {h : jH} (v : jInE x m out h) : SL_28 6000 x m out a h (jInE x m out) := by
  obtain ⟨v, rfl, nx, r, L, W, E⟩ := v
  obtain ⟨r0, e0, r1, e1, p⟩ := St_28 (a := a) v
  exact ⟨r0, e0, r1, e1, p, rfl, _, _, _, _, eqq_slack E (jcv_o e1).2⟩
theorem Sq_29 {x m out : Nat} {a : Nat → Int32} {h : jH} (v : jInE x m out h) : SL_29 6000 x m out a h (jInE x m out) := by
  obtain ⟨v, rfl, nx, r, L, W, E⟩ := v
  obtain ⟨r0, e0, r1, e1, p⟩ := St_29 (a := a) v
  exact ⟨r0, e0, r1, e1, p, rfl, _, _, _, _, eqq_taut E (jcv_o e1).2⟩
theorem Sq_30 {x m out : Nat} {a : Nat → Int32} {h : jH} (v : jInE x m out h) : SL_30 6000 x m out a h (jInE x m out) := by
  obtain ⟨v, rfl, nx, r, L, W, E⟩ := v
  obtain ⟨r0, e0, t0⟩ := St_30 (a := a) v
  refine ⟨r0, e0, fun z0 hz0 => ?_⟩
  obtain ⟨r1, e1, p⟩ := t0 z0 hz0
  obtain ⟨q, y, ho, hz⟩ := FLo_lit e0
  have sz : q.2.1 ≤ (z0, r0.2.2).1 := by rw [← hz]; exact hz0
  have ho2 : oc (z0, r0.2.2) = oc q.2 := ho
  have E1 := eq_oc (eqc E (FC_X11_lit_0 (cls_of E).1 y)) ho2 sz
  exact ⟨r1, e1, p, rfl, _, _, _, _, eqr_lit E1 (jcv_o e1).2⟩
theorem Sq_31 {x m out : Nat} {a : Nat → Int32} {h : jH} (v : jInE x m out h) : SL_31 6000 x m out a h (jInE x m out) := by
  obtain ⟨v, rfl, nx, r, L, W, E⟩ := v
  obtain ⟨r0, e0, r1, e1, p⟩ := St_31 (a := a) v
  exact ⟨r0, e0, r1, e1, p, rfl, _, _, _, _, eqq_sunny E (jcv_o e1).2⟩
theorem Sq_32 {x m out : Nat} {a : Nat → Int32} {h : jH} (v : jInE x m out h) : SL_32 6000 x m out a h (jInE x m out) := by
  obtain ⟨v, rfl, nx, r, L, W, E⟩ := v
  obtain ⟨r0, e0, t0⟩ := St_32 (a := a) v
  refine ⟨r0, e0, fun z0 hz0 => ?_⟩
  obtain ⟨r1, e1, p⟩ := t0 z0 hz0
  obtain ⟨q, y, ho, hz⟩ := FLo_faded e0
  have sz : q.2.1 ≤ (z0, r0.2.2).1 := by rw [← hz]; exact hz0
  have ho2 : oc (z0, r0.2.2) = oc q.2 := ho
  obtain ⟨g, Γ, hg, w, tx, tm, to, hu, -⟩ := id v
  obtain ⟨q9, y9, wq⟩ := FLw_faded e0
  have w1 := wq (jok_v (S_X11_faded (Nat.le_refl _) hg w tx) y9).1 to
  have wz := t_z4 w1 hz0
  have w2 := (jok_v (S_X12_faded (Nat.le_refl _) hg wz tm) (jcv_o e1).2).1
  have E1 := eq_oc (eqc E (FC_X11_faded_0 (cls_of E).1 y)) ho2 sz
  exact ⟨r1, e1, p, rfl, _, _, _, _, eqr_faded E1 (jcv_o e1).2 wz w2 (t_w w tm (cls_of E).2)⟩
theorem Sq_33 {x m out : Nat} {a : Nat → Int32} {h : jH} (v : jInE x m out h) : SL_33 6000 x m out a h (jInE x m out) := by
  obtain ⟨v, rfl, nx, r, L, W, E⟩ := v
  obtain ⟨r0, e0, r1, e1, p⟩ := St_33 (a := a) v
  obtain ⟨g, Γ, hg, w, tx, tm, to, hu, -⟩ := id v
  have w1 := (jok_v (S_X11_pale (Nat.le_refl _) hg w tx) (jcv_o e0).2).1
  have w2 := (jok_v (S_X12_pale (Nat.le_refl _) hg w1 tm) (jcv_o e1).2).1
  exact ⟨r0, e0, r1, e1, p, rfl, _, _, _, _, eqq_pale E (jcv_o e0).2 (jcv_o e1).2 w1 w2 (t_w w tm (cls_of E).2)⟩
theorem Sq_34 {x m out : Nat} {a : Nat → Int32} {h : jH} (v : jInE x m out h) : SL_34 6000 x m out a h (jInE x m out) := by
  obtain ⟨v, rfl, nx, r, L, W, E⟩ := v
  obtain ⟨r0, e0, t0⟩ := St_34 (a := a) v
  refine ⟨r0, e0, fun z0 hz0 => ?_⟩
  obtain ⟨r1, e1, p⟩ := t0 z0 hz0
  obtain ⟨q, y, ho, hz⟩ := FLo_lets e0
  have sz : q.2.1 ≤ (z0, r0.2.2).1 := by rw [← hz]; exact hz0
  have ho2 : oc (z0, r0.2.2) = oc q.2 := ho
  have E1 := eq_oc (eqc E (FC_X11_lets_0 (cls_of E).1 y)) ho2 sz
  exact ⟨r1, e1, p, rfl, _, _, _, _, eqr_lets E1 (jcv_o e1).2⟩
theorem Sq_35 {x m out : Nat} {a : Nat → Int32} {h : jH} (v : jInE x m out h) : SL_35 6000 x m out a h (jInE x m out) := by
  obtain ⟨v, rfl, nx, r, L, W, E⟩ := v
  obtain ⟨r0, e0, r1, e1, p⟩ := St_35 (a := a) v
  exact ⟨r0, e0, r1, e1, p, rfl, _, _, _, _, eqq_envy E (jcv_o e1).2⟩
theorem Sq_36 {x m out : Nat} {a : Nat → Int32} {h : jH} (v : jInE x m out h) : SL_36 6000 x m out a h (jInE x m out) := by
  obtain ⟨v, rfl, nx, r, L, W, E⟩ := v
  obtain ⟨r0, e0, t0⟩ := St_36 (a := a) v
  refine ⟨r0, e0, fun z0 hz0 => ?_⟩
  obtain ⟨r1, e1, p⟩ := t0 z0 hz0
  obtain ⟨q, y, ho, hz⟩ := FLo_rests e0
  have sz : q.2.1 ≤ (z0, r0.2.2).1 := by rw [← hz]; exact hz0
  have ho2 : oc (z0, r0.2.2) = oc q.2 := ho
  have E1 := eq_oc (eqc E (FC_X11_rests_0 (cls_of E).1 y)) ho2 sz
  exact ⟨r1, e1, p, rfl, _, _, _, _, eqr_rests E1 (jcv_o e1).2⟩
theorem Sq_37 {x m out : Nat} {a : Nat → Int32} {h : jH} (v : jInE x m out h) : SL_37 6000 x m out a h (jInE x m out) := by
  obtain ⟨v, rfl, nx, r, L, W, E⟩ := v
  obtain ⟨r0, e0, r1, e1, p⟩ := St_37 (a := a) v
  exact ⟨r0, e0, r1, e1, p, rfl, _, _, _, _, eqq_bunch E (jcv_o e1).2⟩
theorem Sq_38 {x m out : Nat} {a : Nat → Int32} {h : jH} (v : jInE x m out h) : SL_38 6000 x m out a h (jInE x m out) := by
  obtain ⟨v, rfl, nx, r, L, W, E⟩ := v
  obtain ⟨r0, e0, r1, e1, p⟩ := St_38 (a := a) v
  exact ⟨r0, e0, r1, e1, p, rfl, _, _, _, _, eqq_wooden E (jcv_o e1).2⟩
theorem Sq_39 {x m out : Nat} {a : Nat → Int32} {h : jH} (v : jInE x m out h) : SL_39 6000 x m out a h (jInE x m out) := by
  obtain ⟨v, rfl, nx, r, L, W, E⟩ := v
  obtain ⟨r0, e0, r1, e1, p⟩ := St_39 (a := a) v
  exact ⟨r0, e0, r1, e1, p, rfl, _, _, _, _, eqq_caught E (jcv_o e1).2⟩
theorem Sq_40 {x m out : Nat} {a : Nat → Int32} {h : jH} (v : jInE x m out h) : SL_40 6000 x m out a h (jInE x m out) := by
  obtain ⟨v, rfl, nx, r, L, W, E⟩ := v
  obtain ⟨r0, e0, r1, e1, p⟩ := St_40 (a := a) v
  exact ⟨r0, e0, r1, e1, p, rfl, _, _, _, _, eqq_loose E (jcv_o e1).2⟩
theorem Sq_41 {x m out : Nat} {a : Nat → Int32} {h : jH} (v : jInE x m out h) : SL_41 6000 x m out a h (jInE x m out) := by
  obtain ⟨v, rfl, nx, r, L, W, E⟩ := v
  obtain ⟨r0, e0, r1, e1, p⟩ := St_41 (a := a) v
  exact ⟨r0, e0, r1, e1, p, rfl, _, _, _, _, eqq_beyond E (jcv_o e1).2⟩
theorem Sq_42 {x m out : Nat} {a : Nat → Int32} {h : jH} (v : jInE x m out h) : SL_42 6000 x m out a h (jInE x m out) := by
  obtain ⟨v, rfl, nx, r, L, W, E⟩ := v
  obtain ⟨r0, e0, t0⟩ := St_42 (a := a) v
  refine ⟨r0, e0, fun z0 hz0 => ?_⟩
  obtain ⟨r1, e1, p⟩ := t0 z0 hz0
  obtain ⟨q, y, ho, hz⟩ := FLo_odds e0
  have sz : q.2.1 ≤ (z0, r0.2.2).1 := by rw [← hz]; exact hz0
  have ho2 : oc (z0, r0.2.2) = oc q.2 := ho
  have E1 := eq_oc (eqc E (FC_X11_odds_0 (cls_of E).1 y)) ho2 sz
  exact ⟨r1, e1, p, rfl, _, _, _, _, eqr_odds E1 (jcv_o e1).2⟩
theorem Sq_43 {x m out : Nat} {a : Nat → Int32} {h : jH} (v : jInE x m out h) : SL_43 6000 x m out a h (jInE x m out) := by
  obtain ⟨v, rfl, nx, r, L, W, E⟩ := v
  obtain ⟨r0, e0, r1, e1, p⟩ := St_43 (a := a) v
  exact ⟨r0, e0, r1, e1, p, rfl, _, _, _, _, eqq_twins E (jcv_o e1).2⟩
theorem Sq_44 {x m out : Nat} {a : Nat → Int32} {h : jH} (v : jInE x m out h) : SL_44 6000 x m out a h (jInE x m out) := by
  obtain ⟨v, rfl, nx, r, L, W, E⟩ := v
  obtain ⟨r0, e0, t0⟩ := St_44 (a := a) v
  refine ⟨r0, e0, fun z0 hz0 => ?_⟩
  obtain ⟨r1, e1, p⟩ := t0 z0 hz0
  obtain ⟨q, y, ho, hz⟩ := FLo_ahead e0
  have sz : q.2.1 ≤ (z0, r0.2.2).1 := by rw [← hz]; exact hz0
  have ho2 : oc (z0, r0.2.2) = oc q.2 := ho
  obtain ⟨g, Γ, hg, w, tx, tm, to, hu, -⟩ := id v
  obtain ⟨q9, y9, wq⟩ := FLw_ahead e0
  have w1 := wq (jok_v (S_X11_ahead (Nat.le_refl _) hg w tx) y9).1 to
  have wz := t_z4 w1 hz0
  have w2 := (jok_v (S_X12_ahead (Nat.le_refl _) hg wz tm) (jcv_o e1).2).1
  have E1 := eq_oc (eqc E (FC_X11_ahead_0 (cls_of E).1 y)) ho2 sz
  exact ⟨r1, e1, p, rfl, _, _, _, _, eqr_ahead E1 (jcv_o e1).2 wz w2 (t_w w tm (cls_of E).2)⟩
theorem Sq_45 {x m out : Nat} {a : Nat → Int32} {h : jH} (v : jInE x m out h) : SL_45 6000 x m out a h (jInE x m out) := by
  obtain ⟨v, rfl, nx, r, L, W, E⟩ := v
  obtain ⟨r0, e0, t0⟩ := St_45 (a := a) v
  refine ⟨r0, e0, fun z0 hz0 => ?_⟩
  obtain ⟨r1, e1, p⟩ := t0 z0 hz0
  obtain ⟨q, y, ho, hz⟩ := FLo_trial e0
  have sz : q.2.1 ≤ (z0, r0.2.2).1 := by rw [← hz]; exact hz0
  have ho2 : oc (z0, r0.2.2) = oc q.2 := ho
  obtain ⟨g, Γ, hg, w, tx, tm, to, hu, -⟩ := id v
  obtain ⟨q9, y9, wq⟩ := FLw_trial e0
  have w1 := wq (jok_v (S_X11_trial (Nat.le_refl _) hg w tx) y9).1 to
  have wz := t_z4 w1 hz0
  have w2 := (jok_v (S_X12_trial (Nat.le_refl _) hg wz tm) (jcv_o e1).2).1
  have E1 := eq_oc (eqc E (FC_X11_trial_0 (cls_of E).1 y)) ho2 sz
  exact ⟨r1, e1, p, rfl, _, _, _, _, eqr_trial E1 (jcv_o e1).2 wz w2 (t_w w tm (cls_of E).2)⟩
theorem Sq_46 {x m out : Nat} {a : Nat → Int32} {h : jH} (v : jInE x m out h) : SL_46 6000 x m out a h (jInE x m out) := by
  obtain ⟨v, rfl, nx, r, L, W, E⟩ := v
  obtain ⟨r0, e0, t0⟩ := St_46 (a := a) v
  refine ⟨r0, e0, fun z0 hz0 => ?_⟩
  obtain ⟨r1, e1, p⟩ := t0 z0 hz0
  obtain ⟨q, y, ho, hz⟩ := FLo_span e0
  have sz : q.2.1 ≤ (z0, r0.2.2).1 := by rw [← hz]; exact hz0
  have ho2 : oc (z0, r0.2.2) = oc q.2 := ho
  obtain ⟨g, Γ, hg, w, tx, tm, to, hu, -⟩ := id v
  obtain ⟨q9, y9, wq⟩ := FLw_span e0
  have w1 := wq (jok_v (S_X11_span (Nat.le_refl _) hg w tx) y9).1 to
  have wz := t_z4 w1 hz0
  have w2 := (jok_v (S_X12_span (Nat.le_refl _) hg wz tm) (jcv_o e1).2).1
  have E1 := eq_oc (eqc E (FC_X11_span_0 (cls_of E).1 y)) ho2 sz
  exact ⟨r1, e1, p, rfl, _, _, _, _, eqr_span E1 (jcv_o e1).2 wz w2 (t_w w tm (cls_of E).2)⟩
theorem Sq_47 {x m out : Nat} {a : Nat → Int32} {h : jH} (v : jInE x m out h) : SL_47 6000 x m out a h (jInE x m out) := by
  obtain ⟨v, rfl, nx, r, L, W, E⟩ := v
  obtain ⟨r0, e0, t0⟩ := St_47 (a := a) v
  refine ⟨r0, e0, fun z0 hz0 => ?_⟩
  obtain ⟨r1, e1, p⟩ := t0 z0 hz0
  obtain ⟨q, y, ho, hz⟩ := FLo_led e0
  have sz : q.2.1 ≤ (z0, r0.2.2).1 := by rw [← hz]; exact hz0
  have ho2 : oc (z0, r0.2.2) = oc q.2 := ho
  have E1 := eq_oc (eqc E (FC_X11_led_0 (cls_of E).1 y)) ho2 sz
  exact ⟨r1, e1, p, rfl, _, _, _, _, eqr_led E1 (jcv_o e1).2⟩
theorem Sq_48 {x m out : Nat} {a : Nat → Int32} {h : jH} (v : jInE x m out h) : SL_48 6000 x m out a h (jInE x m out) := by
  obtain ⟨v, rfl, nx, r, L, W, E⟩ := v
  obtain ⟨r0, e0, t0⟩ := St_48 (a := a) v
  refine ⟨r0, e0, fun z0 hz0 => ?_⟩
  obtain ⟨r1, e1, p⟩ := t0 z0 hz0
  obtain ⟨q, y, ho, hz⟩ := FLo_log e0
  have sz : q.2.1 ≤ (z0, r0.2.2).1 := by rw [← hz]; exact hz0
  have ho2 : oc (z0, r0.2.2) = oc q.2 := ho
  have E1 := eq_oc (eqc E (FC_X11_log_0 (cls_of E).1 y)) ho2 sz
  exact ⟨r1, e1, p, rfl, _, _, _, _, eqr_log E1 (jcv_o e1).2⟩
theorem Sq_49 {x m out : Nat} {a : Nat → Int32} {h : jH} (v : jInE x m out h) : SL_49 6000 x m out a h (jInE x m out) := by
  obtain ⟨v, rfl, nx, r, L, W, E⟩ := v
  obtain ⟨r0, e0, r1, e1, p⟩ := St_49 (a := a) v
  obtain ⟨W2, E2⟩ := (eq_seed E (jcv_o e0).2 (jcv_o e1).2).1
  exact ⟨r0, e0, r1, e1, p, rfl, _, _, _, _, E2⟩
theorem Sq_50 {x m out : Nat} {a : Nat → Int32} {h : jH} (v : jInE x m out h) : SL_50 6000 x m out a h (jInE x m out) := by
  obtain ⟨v, rfl, nx, r, L, W, E⟩ := v
  obtain ⟨r0, e0, r1, e1, p⟩ := St_50 (a := a) v
  obtain ⟨nx2, r2, W2, E2⟩ := (eq_undo E (jcv_o e0).2 (jcv_o e1).2).1
  exact ⟨r0, e0, r1, e1, p, rfl, _, _, _, _, E2⟩
theorem Sq_51 {x m out : Nat} {a : Nat → Int32} {h : jH} (v : jInE x m out h) : SL_51 6000 x m out a h (jInE x m out) := by
  obtain ⟨v, rfl, nx, r, L, W, E⟩ := v
  obtain ⟨r0, e0, r1, e1, p⟩ := St_51 (a := a) v
  exact ⟨r0, e0, r1, e1, p, rfl, _, _, _, _, (eq_image E (jcv_o e0).2 (jcv_o e1).2).1⟩
theorem Sq_52 {x m out : Nat} {a : Nat → Int32} {h : jH} (v : jInE x m out h) : SL_52 6000 x m out a h (jInE x m out) := by
  obtain ⟨v, rfl, nx, r, L, W, E⟩ := v
  obtain ⟨r0, e0, r1, e1, p⟩ := St_52 (a := a) v
  obtain ⟨r2, W2, E2⟩ := (eq_back E (jcv_o e0).2 (jcv_o e1).2).1
  exact ⟨r0, e0, r1, e1, p, rfl, _, _, _, _, E2⟩
theorem Sq_53 {x m out : Nat} {a : Nat → Int32} {h : jH} (v : jInE x m out h) : SL_53 6000 x m out a h (jInE x m out) := by
  obtain ⟨v, rfl, nx, r, L, W, E⟩ := v
  obtain ⟨r0, e0, r1, e1, p⟩ := St_53 (a := a) v
  exact ⟨r0, e0, r1, e1, p, rfl, _, _, _, _, eqq_count E (jcv_o e1).2⟩
