/-! the reference reads by things: rc: it stands before thing k; rw: it stands behind the letters of thing k -/
def rc (O : jO) (x : Nat) (b : Nat → Int32) (L : Nat) (st : Nat → Nat) (k : Nat) : Prop := ∃ p, rb O x b L p ∧ cur b st p k
def rw2 (O : jO) (x : Nat) (b : Nat → Int32) (L : Nat) (st : Nat → Nat) (k : Nat) : Prop := ∃ e, rb O x b L e ∧ isRow (bIn b L 97 122) (st k) e ∧ oi O x 12 = nI (st k)
variable {b : Nat → Int32} {L m : Nat} {T : Nat → Int32 × Int32} {st en : Nat → Nat}
theorem rc_fr {O O2 : jO} {x k : Nat} {cs fs : List Nat} (R : rc O x b L st k) (f : frM x cs fs O O2) (hc : 0 ∉ cs) (hc6 : 6 ∉ cs) (hf : ∀ k ∈ [1, 2, 3, 4, 5, 8, 15, 17, 19, 20, 21], k ∉ fs) (h10 : 10 ∉ fs) (h11 : 11 ∉ fs) : rc O2 x b L st k := by
  obtain ⟨p, R, C⟩ := R
  exact ⟨p, rb_fr R f hc hc6 hf h10 h11, C⟩
theorem rw_fr {O O2 : jO} {x k : Nat} {cs fs : List Nat} (R : rw2 O x b L st k) (f : frM x cs fs O O2) (hc : 0 ∉ cs) (hc6 : 6 ∉ cs) (hf : ∀ k ∈ [1, 2, 3, 4, 5, 8, 15, 17, 19, 20, 21], k ∉ fs) (h10 : 10 ∉ fs) (h11 : 11 ∉ fs) (h12 : 12 ∉ fs) : rw2 O2 x b L st k := by
  obtain ⟨e, R, C, g⟩ := R
  exact ⟨e, rb_fr R f hc hc6 hf h10 h11, C, (frM_oi f hc h12).trans g⟩
theorem rw_n {O : jO} {x k w : Nat} (H : tkE b L m T st en) (hw : w < 23) (R : rw2 O x b L st k) (h : (T k).1 = nI w) : rc O x b L st (k + 1) := by
  obtain ⟨e, R, C, g⟩ := R
  obtain ⟨z, y⟩ := (tk_w H hw C).2 h
  subst y
  exact ⟨en k, R, cur_n H z⟩
theorem rc_mS {O : jO} {x k : Nat} (R : rc O x b L st k) : mS O x := by obtain ⟨p, R, -⟩ := R; exact R.1
theorem rw_mS {O : jO} {x k : Nat} (R : rw2 O x b L st k) : mS O x := by obtain ⟨p, R, -⟩ := R; exact R.1
theorem T_blanks {n x k : Nat} {h : jH} {q : jH} (H : tkE b L m T st en) (R : rc (oc h) x b L st k) (e : F_X12_blanks n x h = some q) : rb (oc q) x b L (st k) ∧ oi (oc q) x 12 = nI (st k) ∧ frM x [] [10, 12] (oc h) (oc q) ∧ q.1 = h.1 := by
  obtain ⟨p, R, C⟩ := R
  obtain ⟨s, r, R2, g, f, z⟩ := E_X12_blanks R e
  have := cur_sp H C r
  subst this
  exact ⟨R2, g, f, z⟩
theorem T_letters {n x k : Nat} {h : jH} {q : jH} (H : tkE b L m T st en) (R : rc (oc h) x b L st k) (e : F_X12_letters n x h = some q) : rw2 (oc q) x b L st k ∧ frM x [] [10, 12] (oc h) (oc q) ∧ q.1 = h.1 := by
  obtain ⟨p, R, C⟩ := R
  obtain ⟨s, e, r, r2, R2, g, f, z⟩ := E_X12_letters R e
  have := cur_sp H C r
  subst this
  exact ⟨⟨e, R2, r2, g⟩, f, z⟩
theorem T_isWord {n x k w : Nat} {h : jH} {q : Int32} (H : tkE b L m T st en) (hw : w < 23) (R : rw2 (oc h) x b L st k) (e : F_X12_isWord n x (wT w) h = some q) : (q = 0 ∨ q = 1) ∧ (q = 1 ↔ (T k).1 = nI w) := by
  obtain ⟨e2, R, C, g⟩ := R
  obtain ⟨a, c⟩ := E_X12_isWord R g C.1 (wT_l w hw).2 e
  exact ⟨a, c.trans (tk_w H hw C).1⟩
theorem T_passes {n x k w : Nat} {h : jH} {q : Int32 × jH} (H : tkE b L m T st en) (hw : w < 23) (R : rc (oc h) x b L st k) (e : F_X12_passes n x (wT w) h = some q) : ((q.1 = 1 ∧ (T k).1 = nI w ∧ rc (oc q.2) x b L st (k + 1)) ∨ (q.1 = 0 ∧ (T k).1 ≠ nI w ∧ rc (oc q.2) x b L st k)) ∧ oi (oc q.2) x 12 = nI (st k) ∧ frM x [] [10, 12] (oc h) (oc q.2) ∧ q.2.1 = h.1 := by
  obtain ⟨p, R, C⟩ := R
  obtain ⟨s, e, r, r2, g, d, f, z⟩ := E_X12_passes R (wT_l w hw).2 e
  have := cur_sp H C r
  subst this
  obtain ⟨w1, w2⟩ := tk_w H hw r2
  refine ⟨?_, g, f, z⟩
  rcases d with ⟨d1, d2, d3⟩ | ⟨d1, d2, d3⟩
  · obtain ⟨y1, y2⟩ := w2 (w1.mp d2)
    subst y2
    exact Or.inl ⟨d1, w1.mp d2, en k, d3, cur_n H y1⟩
  · exact Or.inr ⟨d1, fun y => d2 (w1.mpr y), st k, d3, cur_0 k⟩
theorem T_sign {n x k : Nat} {c : Int32} {h : jH} {q : Int32 × jH} (H : tkE b L m T st en) (hc : sgn c) (R : rc (oc h) x b L st k) (e : F_X12_sign n x c h = some q) : ((q.1 = 1 ∧ (T k).1 = c ∧ rc (oc q.2) x b L st (k + 1)) ∨ (q.1 = 0 ∧ (T k).1 ≠ c ∧ rc (oc q.2) x b L st k)) ∧ oi (oc q.2) x 12 = nI (st k) ∧ frM x [] [10, 12] (oc h) (oc q.2) ∧ q.2.1 = h.1 := by
  obtain ⟨p, R, C⟩ := R
  obtain ⟨s, r, g, d, f, z⟩ := E_X12_sign R e
  have := cur_sp H C r
  subst this
  obtain ⟨w1, w2⟩ := tk_s H (k := k) hc
  refine ⟨?_, g, f, z⟩
  rcases d with ⟨d1, d2, d3⟩ | ⟨d1, d2, d3⟩
  · obtain ⟨y1, y2⟩ := w2 (w1.mp d2)
    rw [y2] at d3
    exact Or.inl ⟨d1, w1.mp d2, en k, d3, cur_n H y1⟩
  · exact Or.inr ⟨d1, fun y => d2 (w1.mpr y), st k, d3, cur_0 k⟩
theorem T_number {n x k : Nat} {lo hi : Int32} {h : jH} {q : Int32 × jH} (H : tkE b L m T st en) (hh : hi.toInt ≤ 999) (R : rc (oc h) x b L st k) (e : F_X12_number n x lo hi h = some q) : ((q.1 = (T k).2 ∧ nOK T k lo hi ∧ rc (oc q.2) x b L st (k + 1)) ∨ (q.1 = -1 ∧ ¬ nOK T k lo hi)) ∧ mS (oc q.2) x ∧ oi (oc q.2) x 12 = nI (st k) ∧ frM x [] [10, 12] (oc h) (oc q.2) ∧ q.2.1 = h.1 := by
  obtain ⟨p, R, C⟩ := R
  obtain ⟨s, e, r, r2, g, R2, d, f, z⟩ := E_X12_number R e
  have := cur_sp H C r
  subst this
  refine ⟨?_, R2.1, g, f, z⟩
  rcases tk_n H hh r2 d with ⟨y1, y2⟩ | ⟨y1, y2, y3, y4⟩
  · exact Or.inr ⟨y1, y2⟩
  · subst y4
    exact Or.inl ⟨y1, y2, en k, R2, cur_n H y3⟩
theorem T_after {n x k w : Nat} {lo hi : Int32} {h : jH} {q : Int32 × jH} (H : tkE b L m T st en) (hw : w < 23) (hh : hi.toInt ≤ 999) (R : rc (oc h) x b L st k) (e : F_X12_after n x (wT w) lo hi h = some q) : (((T k).1 = nI w ∧ q.1 = (T (k + 1)).2 ∧ nOK T (k + 1) lo hi ∧ rc (oc q.2) x b L st (k + 2)) ∨ ((T k).1 ≠ nI w ∧ q.1 = -1 ∧ oi (oc q.2) x 12 = nI (st k)) ∨ ((T k).1 = nI w ∧ ¬ nOK T (k + 1) lo hi ∧ q.1 = -1 ∧ oi (oc q.2) x 12 = nI (st (k + 1)))) ∧ mS (oc q.2) x ∧ frM x [] [10, 12] (oc h) (oc q.2) ∧ q.2.1 = h.1 := by
  have M := rc_mS R
  obtain ⟨p, R, C⟩ := R
  obtain ⟨s, e, r, r2, d, f, z⟩ := E_X12_after R (wT_l w hw).2 e
  have := cur_sp H C r
  subst this
  obtain ⟨w1, w2⟩ := tk_w H hw r2
  refine ⟨?_, mS_fr M f (by decide) (by decide), f, z⟩
  rcases d with ⟨d1, d2, d3⟩ | ⟨d1, s2, e2, d2, d3, d4, d5, d6⟩
  · exact Or.inr (Or.inl ⟨fun y => d2 (w1.mpr y), d1, d3⟩)
  · obtain ⟨y1, y2⟩ := w2 (w1.mp d1)
    subst y2
    have := cur_sp H (cur_n H y1) d2
    subst this
    rcases tk_n H hh d3 d6 with ⟨v1, v2⟩ | ⟨v1, v2, v3, v4⟩
    · exact Or.inr (Or.inr ⟨w1.mp d1, v2, v1, d4⟩)
    · subst v4
      exact Or.inl ⟨w1.mp d1, v1, v2, en (k + 1), d5, cur_n H v3⟩
