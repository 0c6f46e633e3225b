/-! the class takes things -/
theorem ck_fr {O O2 : jO} {t L m k : Nat} {b : Nat → Int32} {T : Nat → Int32 × Int32} {st : Nat → Nat} (C : ck O t b L m T st k) (f : ∀ a j : Nat, t ≤ a → a ≤ t + 4 → O2 a j = O a j) : ck O2 t b L m T st k := by
  obtain ⟨C, h4, hm, h5, hk, hT, hE⟩ := C
  have fi : ∀ a j : Nat, t ≤ a → a ≤ t + 4 → oi O2 a j = oi O a j := fun a j h1 h2 => by unfold oi; rw [f a j h1 h2]
  exact ⟨ctb_fr C (fun a k u => f a k (by omega) (by omega)), (fi _ _ (by omega) (by omega)).trans h4, hm, (fi _ _ (by omega) (by omega)).trans h5, hk, fun j hj => by rw [fi _ _ (by omega) (by omega), fi _ _ (by omega) (by omega), fi _ _ (by omega) (by omega)]; exact hT j hj, hE⟩
theorem ck_n {O : jO} {t L m k k2 : Nat} {b : Nat → Int32} {T : Nat → Int32 × Int32} {st : Nat → Nat} (C : ck O t b L m T st k) (h2 : k2 ≤ m) : ck (u2 O t 5 (.int (nI k2))) t b L m T st k2 := by
  obtain ⟨C, h4, hm, h5, hk, hT, hE⟩ := C
  exact ⟨ctb_fr C (fun a k u => u2_ne (by omega)), by rw [oi_ne (Or.inr (by decide))]; exact h4, hm, oi_eq, h2, fun j hj => by rw [oi_ne (Or.inl (by omega)), oi_ne (Or.inl (by omega)), oi_ne (Or.inl (by omega))]; exact hT j hj, hE⟩
theorem E_X10_kind {b : Nat → Int32} {L : Nat} {m : Nat} {T : Nat → Int32 × Int32} {st : Nat → Nat} {k : Nat} {n : Nat} {a0 : Nat} {h : jH} {q : Int32} (K : ck (oc h) a0 b L m T st k) (hf : F_X10_kind n a0 h = some q) : q = (T k).1 := by
  unfold F_X10_kind at hf
  obtain ⟨C, h4, hm, h5, hk, hT, hE⟩ := id K
  obtain ⟨⟨p0, p1, p2, p3⟩, h6, hL, hb, hr⟩ := id C
  replace hf := jbind hf
  obtain ⟨v1, e1, hf⟩ := hf
  have r1 := oc_gI e1
  subst r1
  clear e1
  replace hf := jbind hf
  obtain ⟨v5, e2, hf⟩ := hf
  have r2 := oc_gI e2
  subst r2
  clear e2
  replace hf := jite hf
  rcases hf with ⟨c3, hf⟩ | ⟨c3, hf⟩
  · skip
    cases hf
    -- leaf 0: (- 1 : Int32)
    rw [h4, h5, Int32.le_iff_toInt_le, nI_toInt (by omega), nI_toInt (by omega)] at c3
    exact (hE k (by omega)).1.symm
  · skip
    replace hf := jbind hf
    obtain ⟨p12, e4, hf⟩ := hf
    have r4 := oc_gR e4
    rw [p1] at r4
    cases r4
    clear e4
    replace hf := jbind hf
    obtain ⟨v16, e5, hf⟩ := hf
    have r5 := oc_gI e5
    subst r5
    clear e5
    replace hf := jbind hf
    obtain ⟨v19, e6, hf⟩ := hf
    obtain ⟨r6, y6⟩ := oc_al e6
    subst r6
    clear e6
    cases hf
    -- leaf 1: v19
    rw [h4, h5, Int32.le_iff_toInt_le, nI_toInt (by omega), nI_toInt (by omega)] at c3
    rw [h5, nI_cl (by omega), (hT k (by omega)).1]
theorem E_X10_start {b : Nat → Int32} {L : Nat} {m : Nat} {T : Nat → Int32 × Int32} {st : Nat → Nat} {k : Nat} {n : Nat} {a0 : Nat} {h : jH} {q : Int32} (K : ck (oc h) a0 b L m T st k) (hf : F_X10_start n a0 h = some q) : q = nI (st k) := by
  unfold F_X10_start at hf
  obtain ⟨C, h4, hm, h5, hk, hT, hE⟩ := id K
  obtain ⟨⟨p0, p1, p2, p3⟩, h6, hL, hb, hr⟩ := id C
  replace hf := jbind hf
  obtain ⟨v1, e1, hf⟩ := hf
  have r1 := oc_gI e1
  subst r1
  clear e1
  replace hf := jbind hf
  obtain ⟨v5, e2, hf⟩ := hf
  have r2 := oc_gI e2
  subst r2
  clear e2
  replace hf := jite hf
  rcases hf with ⟨c3, hf⟩ | ⟨c3, hf⟩
  · skip
    replace hf := jbind hf
    obtain ⟨v24, e4, hf⟩ := hf
    have r4 := oc_gI e4
    subst r4
    clear e4
    cases hf
    -- leaf 0: v24
    rw [h4, h5, Int32.le_iff_toInt_le, nI_toInt (by omega), nI_toInt (by omega)] at c3
    rw [h6, (hE k (by omega)).2]
  · skip
    replace hf := jbind hf
    obtain ⟨p12, e5, hf⟩ := hf
    have r5 := oc_gR e5
    rw [p2] at r5
    cases r5
    clear e5
    replace hf := jbind hf
    obtain ⟨v16, e6, hf⟩ := hf
    have r6 := oc_gI e6
    subst r6
    clear e6
    replace hf := jbind hf
    obtain ⟨v19, e7, hf⟩ := hf
    obtain ⟨r7, y7⟩ := oc_al e7
    subst r7
    clear e7
    cases hf
    -- leaf 1: v19
    rw [h4, h5, Int32.le_iff_toInt_le, nI_toInt (by omega), nI_toInt (by omega)] at c3
    rw [h5, nI_cl (by omega), (hT k (by omega)).2]
theorem E_X10_skip {b : Nat → Int32} {L : Nat} {m : Nat} {T : Nat → Int32 × Int32} {st : Nat → Nat} {k : Nat} {n : Nat} {a0 : Nat} {h : jH} {q : jH} (K : ck (oc h) a0 b L m T st k) (hT : (T k).1 ≠ -1) (hf : F_X10_skip n a0 h = some q) : ck (oc q) a0 b L m T st (k + 1) ∧ (∀ a j : Nat, ¬ (a = a0 ∧ j = 5) → oc q a j = oc h a j) ∧ q.1 = h.1 := by
  unfold F_X10_skip at hf
  obtain ⟨C, h4, hm, h5, hk, hT3, hE⟩ := id K
  obtain ⟨⟨p0, p1, p2, p3⟩, h6, hL, hb, hr⟩ := id C
  replace hf := jbind hf
  obtain ⟨v1, e1, hf⟩ := hf
  have r1 := oc_gI e1
  subst r1
  clear e1
  replace hf := jbind hf
  obtain ⟨v5, e2, hf⟩ := hf
  have r2 := oc_gI e2
  subst r2
  clear e2
  replace hf := jite hf
  rcases hf with ⟨c3, hf⟩ | ⟨c3, hf⟩
  · skip
    cases hf
    -- leaf 0: h
    rw [h4, h5, Int32.le_iff_toInt_le, nI_toInt (by omega), nI_toInt (by omega)] at c3
    exact absurd (hE k (by omega)).1 hT
  · skip
    replace hf := jbind hf
    obtain ⟨v13, e4, hf⟩ := hf
    have r4 := oc_gI e4
    subst r4
    clear e4
    replace hf := jbind hf
    obtain ⟨h18, e5, hf⟩ := hf
    obtain ⟨o5, z5⟩ := oc_pf e5
    clear e5
    cases hf
    -- leaf 1: h18
    rw [h4, h5, Int32.le_iff_toInt_le, nI_toInt (by omega), nI_toInt (by omega)] at c3
    rw [h5, nI_1] at o5
    exact ⟨by rw [o5]; exact ck_n K (by omega), fun a j u => by rw [o5, u2_ne (by omega)], z5⟩
theorem E_X10_take {b : Nat → Int32} {L : Nat} {m : Nat} {T : Nat → Int32 × Int32} {st : Nat → Nat} {k : Nat} {n : Nat} {a0 : Nat} {x1 : Int32} {h : jH} {q : Int32 × jH} (K : ck (oc h) a0 b L m T st k) (hx : x1 ≠ -1) (hf : F_X10_take n a0 x1 h = some q) : (((T k).1 = x1 ∧ q.1 = 1 ∧ ck (oc q.2) a0 b L m T st (k + 1)) ∨ ((T k).1 ≠ x1 ∧ q = (0, h))) ∧ (∀ a j : Nat, ¬ (a = a0 ∧ j = 5) → oc q.2 a j = oc h a j) ∧ q.2.1 = h.1 := by
  unfold F_X10_take at hf
  obtain ⟨C, h4, hm, h5, hk, hT, hE⟩ := id K
  obtain ⟨⟨p0, p1, p2, p3⟩, h6, hL, hb, hr⟩ := id C
  replace hf := jbind hf
  obtain ⟨v1, e1, hf⟩ := hf
  have r1 := oc_gI e1
  subst r1
  clear e1
  replace hf := jbind hf
  obtain ⟨v5, e2, hf⟩ := hf
  have r2 := oc_gI e2
  subst r2
  clear e2
  replace hf := jite hf
  rcases hf with ⟨c3, hf⟩ | ⟨c3, hf⟩
  · skip
    cases hf
    -- leaf 0: ((0 : Int32), h)
    rw [h4, h5, Int32.le_iff_toInt_le, nI_toInt (by omega), nI_toInt (by omega)] at c3
    exact ⟨Or.inr ⟨fun z => hx (z.symm.trans (hE k (by omega)).1), rfl⟩, fun _ _ _ => rfl, rfl⟩
  · skip
    replace hf := jbind hf
    obtain ⟨p12, e4, hf⟩ := hf
    have r4 := oc_gR e4
    rw [p1] at r4
    cases r4
    clear e4
    replace hf := jbind hf
    obtain ⟨v16, e5, hf⟩ := hf
    have r5 := oc_gI e5
    subst r5
    clear e5
    replace hf := jbind hf
    obtain ⟨v19, e6, hf⟩ := hf
    obtain ⟨r6, y6⟩ := oc_al e6
    subst r6
    clear e6
    replace hf := jite hf
    rcases hf with ⟨c7, hf⟩ | ⟨c7, hf⟩
    · skip
      replace hf := jbind hf
      obtain ⟨v28, e8, hf⟩ := hf
      have r8 := oc_gI e8
      subst r8
      clear e8
      replace hf := jbind hf
      obtain ⟨h33, e9, hf⟩ := hf
      obtain ⟨o9, z9⟩ := oc_pf e9
      clear e9
      cases hf
      -- leaf 10: ((1 : Int32), h33)
      rw [h4, h5, Int32.le_iff_toInt_le, nI_toInt (by omega), nI_toInt (by omega)] at c3
      rw [h5, nI_cl (by omega)] at c7
      rw [h5, nI_1] at o9
      have w : ck (oc h33) a0 b L m T st (k + 1) := by rw [o9]; exact ck_n K (by omega)
      exact ⟨Or.inl ⟨by rw [(hT k (by omega)).1]; exact c7, rfl, w⟩, fun a j u => by rw [o9, u2_ne (by omega)], z9⟩
    · skip
      cases hf
      -- leaf 11: ((0 : Int32), h)
      rw [h4, h5, Int32.le_iff_toInt_le, nI_toInt (by omega), nI_toInt (by omega)] at c3
      rw [h5, nI_cl (by omega)] at c7
      exact ⟨Or.inr ⟨by rw [(hT k (by omega)).1]; exact c7, rfl⟩, fun _ _ _ => rfl, rfl⟩
theorem E_X10_takeNumber {b : Nat → Int32} {L : Nat} {m : Nat} {T : Nat → Int32 × Int32} {st : Nat → Nat} {k : Nat} {n : Nat} {a0 : Nat} {x1 : Int32} {x2 : Int32} {h : jH} {q : Int32 × jH} (K : ck (oc h) a0 b L m T st k) (hf : F_X10_takeNumber n a0 x1 x2 h = some q) : ((nOK T k x1 x2 ∧ q.1 = (T k).2 ∧ ck (oc q.2) a0 b L m T st (k + 1)) ∨ (¬ nOK T k x1 x2 ∧ q = (-1, h))) ∧ (∀ a j : Nat, ¬ (a = a0 ∧ j = 5) → oc q.2 a j = oc h a j) ∧ q.2.1 = h.1 := by
  unfold F_X10_takeNumber at hf
  obtain ⟨C, h4, hm, h5, hk, hT, hE⟩ := id K
  obtain ⟨⟨p0, p1, p2, p3⟩, h6, hL, hb, hr⟩ := id C
  replace hf := jbind hf
  obtain ⟨v1, e1, hf⟩ := hf
  have r1 := oc_gI e1
  subst r1
  clear e1
  replace hf := jbind hf
  obtain ⟨v5, e2, hf⟩ := hf
  have r2 := oc_gI e2
  subst r2
  clear e2
  replace hf := jite hf
  rcases hf with ⟨c3, hf⟩ | ⟨c3, hf⟩
  · skip
    cases hf
    -- leaf 0: ((- 1 : Int32), h)
    rw [h4, h5, Int32.le_iff_toInt_le, nI_toInt (by omega), nI_toInt (by omega)] at c3
    exact ⟨Or.inr ⟨fun z => absurd (z.1.symm.trans (hE k (by omega)).1) (by decide), rfl⟩, fun _ _ _ => rfl, rfl⟩
  · skip
    replace hf := jbind hf
    obtain ⟨p12, e4, hf⟩ := hf
    have r4 := oc_gR e4
    rw [p1] at r4
    cases r4
    clear e4
    replace hf := jbind hf
    obtain ⟨v16, e5, hf⟩ := hf
    have r5 := oc_gI e5
    subst r5
    clear e5
    replace hf := jbind hf
    obtain ⟨v19, e6, hf⟩ := hf
    obtain ⟨r6, y6⟩ := oc_al e6
    subst r6
    clear e6
    replace hf := jite hf
    rcases hf with ⟨c7, hf⟩ | ⟨c7, hf⟩
    · skip
      replace hf := jbind hf
      obtain ⟨p26, e8, hf⟩ := hf
      have r8 := oc_gR e8
      rw [p3] at r8
      cases r8
      clear e8
      replace hf := jbind hf
      obtain ⟨v30, e9, hf⟩ := hf
      have r9 := oc_gI e9
      subst r9
      clear e9
      replace hf := jbind hf
      obtain ⟨v33, e10, hf⟩ := hf
      obtain ⟨r10, y10⟩ := oc_al e10
      subst r10
      clear e10
      replace hf := jite hf
      rcases hf with ⟨c11, hf⟩ | ⟨c11, hf⟩
      · skip
        cases hf
        -- leaf 100: ((- 1 : Int32), h)
        rw [h4, h5, Int32.le_iff_toInt_le, nI_toInt (by omega), nI_toInt (by omega)] at c3
        rw [h5, nI_cl (by omega)] at c7
        have eT := (hT k (by omega)).1
        rw [h5, nI_cl (by omega)] at c11
        exact ⟨Or.inr ⟨fun z => by have := z.2.1; rw [eT, Int32.le_iff_toInt_le] at this; rw [Int32.lt_iff_toInt_lt] at c11; dsimp only at this; omega, rfl⟩, fun _ _ _ => rfl, rfl⟩
      · skip
        replace hf := jbind hf
        obtain ⟨p39, e12, hf⟩ := hf
        have r12 := oc_gR e12
        rw [p3] at r12
        cases r12
        clear e12
        replace hf := jbind hf
        obtain ⟨v43, e13, hf⟩ := hf
        have r13 := oc_gI e13
        subst r13
        clear e13
        replace hf := jbind hf
        obtain ⟨v46, e14, hf⟩ := hf
        obtain ⟨r14, y14⟩ := oc_al e14
        subst r14
        clear e14
        replace hf := jite hf
        rcases hf with ⟨c15, hf⟩ | ⟨c15, hf⟩
        · skip
          replace hf := jbind hf
          obtain ⟨v55, e16, hf⟩ := hf
          have r16 := oc_gI e16
          subst r16
          clear e16
          replace hf := jbind hf
          obtain ⟨h60, e17, hf⟩ := hf
          obtain ⟨o17, z17⟩ := oc_pf e17
          clear e17
          replace hf := jbind hf
          obtain ⟨p64, e18, hf⟩ := hf
          have r18 := oc_gR e18
          rw [o17] at r18
          rw [u2_ne (Or.inr (by decide))] at r18
          rw [p3] at r18
          cases r18
          clear e18
          replace hf := jbind hf
          obtain ⟨v68, e19, hf⟩ := hf
          have r19 := oc_gI e19
          rw [o17] at r19
          rw [oi_eq] at r19
          subst r19
          clear e19
          replace hf := jbind hf
          obtain ⟨v73, e20, hf⟩ := hf
          obtain ⟨r20, y20⟩ := oc_al e20
          rw [o17] at r20
          rw [oi_ne (Or.inl (by omega))] at r20
          subst r20
          clear e20
          cases hf
          -- leaf 1010: (v73, h60)
          rw [h4, h5, Int32.le_iff_toInt_le, nI_toInt (by omega), nI_toInt (by omega)] at c3
          rw [h5, nI_cl (by omega)] at c7
          have eT := (hT k (by omega)).1
          rw [h5, nI_cl (by omega)] at c11 c15
          rw [h5, nI_1] at o17
          have w : ck (oc h60) a0 b L m T st (k + 1) := by rw [o17]; exact ck_n K (by omega)
          refine ⟨Or.inl ⟨⟨by rw [eT]; exact c7, by rw [eT, Int32.le_iff_toInt_le]; rw [Int32.lt_iff_toInt_lt] at c11; dsimp only; omega, by rw [eT]; exact c15⟩, ?_, w⟩, fun a j u => by rw [o17, u2_ne (by omega)], z17⟩
          show oi (oc h) (a0 + 4) _ = _
          rw [h5, nI_1, show (1 : Int32) = nI 1 from rfl, nI_sb (by omega) (by omega), nI_cl (by omega), eT, show k + 1 - 1 = k by omega]
        · skip
          cases hf
          -- leaf 1011: ((- 1 : Int32), h)
          rw [h4, h5, Int32.le_iff_toInt_le, nI_toInt (by omega), nI_toInt (by omega)] at c3
          rw [h5, nI_cl (by omega)] at c7
          have eT := (hT k (by omega)).1
          rw [h5, nI_cl (by omega)] at c15
          exact ⟨Or.inr ⟨fun z => c15 (by have := z.2.2; rw [eT] at this; exact this), rfl⟩, fun _ _ _ => rfl, rfl⟩
    · skip
      cases hf
      -- leaf 11: ((- 1 : Int32), h)
      rw [h4, h5, Int32.le_iff_toInt_le, nI_toInt (by omega), nI_toInt (by omega)] at c3
      rw [h5, nI_cl (by omega)] at c7
      have eT := (hT k (by omega)).1
      exact ⟨Or.inr ⟨fun z => c7 (by have := z.1; rw [eT] at this; exact this), rfl⟩, fun _ _ _ => rfl, rfl⟩
