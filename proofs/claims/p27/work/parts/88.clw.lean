section
/-! the class's law: facts of a ring, the stack -/
theorem bitW {v w : Int32} {i : Nat} (hi : i < 32) (h : bt v i = true ↔ w = 1) (hw : w = 0 ∨ w = 1) : (jushr v (nI i)) &&& (1 : Int32) = w := by
  rw [b_ask0 hi]
  rcases hw with q | q
  · rw [q]
    have : ¬ bt v i = true := fun z => absurd (q.symm.trans (h.mp z)) (by decide)
    rw [if_neg this]
  · rw [q, if_pos (h.mpr q)]
/-- the values on the stack of the law at l, the latest first -/
def stkE (O : jO) (l : Nat) (st : List Int32) : Prop := oi O l 5 = nI st.length ∧ ∀ k, k < st.length → oi O (l + 5) k = st.getD (st.length - 1 - k) 0
theorem E_X8_isLit {W : jWd} {i : Nat} {n : Nat} {a0 : Nat} {x1 : Int32} {x2 : Int32} {h : jH} {q : Int32} (R : rodE (oc h) a0 W) (K : wOK W) (hx : x1 = nI i) (hi : (i : Int) < (W 0).toInt) (hf : F_X8_isLit n a0 x1 x2 h = some q) : q = litW W i x2 := by
  unfold F_X8_isLit at hf
  obtain ⟨⟨s0, s1, s2, s3, s4, s5⟩, ⟨u5, u10, u11, u12, u13, u14, u15, u16, u17⟩, RB, RC, RL⟩ := id R
  subst hx
  have K0 := K.1
  obtain ⟨g0, -⟩ := RB i hi
  replace hf := jbind hf
  obtain ⟨p1, e1, hf⟩ := hf
  have r1 := oc_gR e1
  rw [s0] at r1
  cases r1
  clear e1
  replace hf := jbind hf
  obtain ⟨v5, e2, hf⟩ := hf
  obtain ⟨r2, y2⟩ := oc_al e2
  subst r2
  clear e2
  replace hf := jite hf
  rcases hf with ⟨c3, hf⟩ | ⟨c3, hf⟩
  · skip
    cases hf
    -- leaf 0: (0 : Int32)
    rw [nI_cl (by omega), g0, Int32.lt_iff_toInt_lt] at c3
    unfold litW
    rw [if_neg (fun z => by have := Int32.le_iff_toInt_le.mp z.1; omega)]
  · skip
    replace hf := jbind hf
    obtain ⟨p13, e4, hf⟩ := hf
    have r4 := oc_gR e4
    rw [s0] at r4
    cases r4
    clear e4
    replace hf := jbind hf
    obtain ⟨v17, e5, hf⟩ := hf
    obtain ⟨r5, y5⟩ := oc_al e5
    subst r5
    clear e5
    replace hf := jbind hf
    obtain ⟨v22, e6, hf⟩ := hf
    have r6 := oc_gI e6
    subst r6
    clear e6
    replace hf := jite hf
    rcases hf with ⟨c7, hf⟩ | ⟨c7, hf⟩
    · skip
      cases hf
      -- leaf 10: (0 : Int32)
      rw [nI_cl (by omega), g0, Int32.lt_iff_toInt_lt] at c3 c7
      rw [u12] at c7
      unfold litW
      rw [if_neg (fun z => by have := Int32.le_iff_toInt_le.mp z.2; omega)]
    · skip
      cases hf
      -- leaf 11: (1 : Int32)
      rw [nI_cl (by omega), g0, Int32.lt_iff_toInt_lt] at c3 c7
      rw [u12] at c7
      unfold litW
      rw [if_pos ⟨Int32.le_iff_toInt_le.mpr (by omega), Int32.le_iff_toInt_le.mpr (by omega)⟩]
theorem E_X2_value {W : jWd} {i : Nat} {s : Int32} {m : Int32} {n : Nat} {x0 : Int32} {a1 : Nat} {x2 : Int32} {h : jH} {q : Int32} (R : rodE (oc h) a1 W) (K : wOK W) (hx : x2 = nI i) (hi : (i : Int) < (W 0).toInt) (hc : (0 ≤ s.toInt ∧ s.toInt ≤ 10 ∧ x0 = s) ∨ (s = 11 ∧ 0 ≤ m.toInt ∧ x0.toInt = 256 + m.toInt)) (hf : F_X2_value n x0 a1 x2 h = some q) : q = factW W i s m := by
  unfold F_X2_value at hf
  obtain ⟨⟨s0, s1, s2, s3, s4, s5⟩, ⟨u5, u10, u11, u12, u13, u14, u15, u16, u17⟩, RB, RC, RL⟩ := id R
  subst hx
  have K0 := K.1
  obtain ⟨g0, g1, g2, g3, g4, g5, g6, g7⟩ := RB i hi
  obtain ⟨-, -, f2, f3, -, -, f6, -⟩ := K.2.1 i hi
  replace hf := jite hf
  rcases hf with ⟨c1, hf⟩ | ⟨c1, hf⟩
  · skip
    cases hf
    -- leaf 0: x2
    have cc := c1
    have es : s = 0 := by
      rcases hc with ⟨-, -, z⟩ | ⟨-, z0, z⟩
      · exact z.symm.trans cc
      · exfalso; rw [cc, show (0 : Int32).toInt = 0 from rfl] at z; omega
    rw [es]
    rfl
  · skip
    replace hf := jite hf
    rcases hf with ⟨c2, hf⟩ | ⟨c2, hf⟩
    · skip
      replace hf := jbind hf
      obtain ⟨p63, e3, hf⟩ := hf
      have r3 := oc_gR e3
      rw [s0] at r3
      cases r3
      clear e3
      replace hf := jbind hf
      obtain ⟨v67, e4, hf⟩ := hf
      obtain ⟨r4, y4⟩ := oc_al e4
      subst r4
      clear e4
      cases hf
      -- leaf 10: v67
      have cc := c2
      have es : s = 1 := by
        rcases hc with ⟨-, -, z⟩ | ⟨-, z0, z⟩
        · exact z.symm.trans cc
        · exfalso; rw [cc, show (1 : Int32).toInt = 1 from rfl] at z; omega
      rw [es]
      rw [nI_cl (by omega)]
      exact g0
    · skip
      replace hf := jite hf
      rcases hf with ⟨c5, hf⟩ | ⟨c5, hf⟩
      · skip
        replace hf := jbind hf
        obtain ⟨v73, e6, hf⟩ := hf
        replace e6 := (jcv_o e6).2
        have r6 := E_X8_gap (i := i) R K rfl (by omega) e6
        cases hf
        -- leaf 110: v73
        have cc := c5
        have es : s = 2 := by
          rcases hc with ⟨-, -, z⟩ | ⟨-, z0, z⟩
          · exact z.symm.trans cc
          · exfalso; rw [cc, show (2 : Int32).toInt = 2 from rfl] at z; omega
        rw [es]
        exact r6
      · skip
        replace hf := jite hf
        rcases hf with ⟨c7, hf⟩ | ⟨c7, hf⟩
        · skip
          replace hf := jbind hf
          obtain ⟨p78, e8, hf⟩ := hf
          have r8 := oc_gR e8
          rw [s2] at r8
          cases r8
          clear e8
          replace hf := jbind hf
          obtain ⟨v82, e9, hf⟩ := hf
          obtain ⟨r9, y9⟩ := oc_al e9
          subst r9
          clear e9
          cases hf
          -- leaf 1110: v82
          have cc := c7
          have es : s = 3 := by
            rcases hc with ⟨-, -, z⟩ | ⟨-, z0, z⟩
            · exact z.symm.trans cc
            · exfalso; rw [cc, show (3 : Int32).toInt = 3 from rfl] at z; omega
          rw [es]
          rw [nI_cl (by omega)]
          exact g4
        · skip
          replace hf := jite hf
          rcases hf with ⟨c10, hf⟩ | ⟨c10, hf⟩
          · skip
            replace hf := jbind hf
            obtain ⟨p85, e11, hf⟩ := hf
            have r11 := oc_gR e11
            rw [s3] at r11
            cases r11
            clear e11
            replace hf := jbind hf
            obtain ⟨v89, e12, hf⟩ := hf
            obtain ⟨r12, y12⟩ := oc_al e12
            subst r12
            clear e12
            cases hf
            -- leaf 11110: v89
            have cc := c10
            have es : s = 4 := by
              rcases hc with ⟨-, -, z⟩ | ⟨-, z0, z⟩
              · exact z.symm.trans cc
              · exfalso; rw [cc, show (4 : Int32).toInt = 4 from rfl] at z; omega
            rw [es]
            rw [nI_cl (by omega)]
            exact g5
          · skip
            replace hf := jite hf
            rcases hf with ⟨c13, hf⟩ | ⟨c13, hf⟩
            · skip
              replace hf := jbind hf
              obtain ⟨v92, e14, hf⟩ := hf
              have r14 := oc_gI e14
              subst r14
              clear e14
              cases hf
              -- leaf 111110: v92
              have cc := c13
              have es : s = 5 := by
                rcases hc with ⟨-, -, z⟩ | ⟨-, z0, z⟩
                · exact z.symm.trans cc
                · exfalso; rw [cc, show (5 : Int32).toInt = 5 from rfl] at z; omega
              rw [es]
              exact u13
            · skip
              replace hf := jite hf
              rcases hf with ⟨c15, hf⟩ | ⟨c15, hf⟩
              · skip
                replace hf := jbind hf
                obtain ⟨v97, e16, hf⟩ := hf
                have r16 := oc_gI e16
                subst r16
                clear e16
                cases hf
                -- leaf 1111110: v97
                have cc := c15
                have es : s = 6 := by
                  rcases hc with ⟨-, -, z⟩ | ⟨-, z0, z⟩
                  · exact z.symm.trans cc
                  · exfalso; rw [cc, show (6 : Int32).toInt = 6 from rfl] at z; omega
                rw [es]
                exact u14
              · skip
                replace hf := jite hf
                rcases hf with ⟨c17, hf⟩ | ⟨c17, hf⟩
                · skip
                  replace hf := jbind hf
                  obtain ⟨v102, e18, hf⟩ := hf
                  have r18 := oc_gI e18
                  subst r18
                  clear e18
                  replace hf := jbind hf
                  obtain ⟨v106, e19, hf⟩ := hf
                  unfold F_X11_bit at e19
                  cases e19
                  cases hf
                  -- leaf 11111110: v106
                  have cc := c17
                  have es : s = 7 := by
                    rcases hc with ⟨-, -, z⟩ | ⟨-, z0, z⟩
                    · exact z.symm.trans cc
                    · exfalso; rw [cc, show (7 : Int32).toInt = 7 from rfl] at z; omega
                  rw [es]
                  exact bitW (by omega) g3 f3
                · skip
                  replace hf := jite hf
                  rcases hf with ⟨c20, hf⟩ | ⟨c20, hf⟩
                  · skip
                    replace hf := jbind hf
                    obtain ⟨v111, e21, hf⟩ := hf
                    have r21 := oc_gI e21
                    subst r21
                    clear e21
                    replace hf := jbind hf
                    obtain ⟨v115, e22, hf⟩ := hf
                    unfold F_X11_bit at e22
                    cases e22
                    cases hf
                    -- leaf 111111110: v115
                    have cc := c20
                    have es : s = 8 := by
                      rcases hc with ⟨-, -, z⟩ | ⟨-, z0, z⟩
                      · exact z.symm.trans cc
                      · exfalso; rw [cc, show (8 : Int32).toInt = 8 from rfl] at z; omega
                    rw [es]
                    exact bitW (by omega) g2 f2
                  · skip
                    replace hf := jite hf
                    rcases hf with ⟨c23, hf⟩ | ⟨c23, hf⟩
                    · skip
                      replace hf := jbind hf
                      obtain ⟨v122, e24, hf⟩ := hf
                      have r24 := oc_gI e24
                      subst r24
                      clear e24
                      replace hf := jbind hf
                      obtain ⟨v125, e25, hf⟩ := hf
                      replace e25 := (jcv_o e25).2
                      have r25 := E_X8_isLit (i := i) R K rfl hi e25
                      replace hf := jite hf
                      rcases hf with ⟨c26, hf⟩ | ⟨c26, hf⟩
                      · skip
                        cases hf
                        -- leaf 11111111100: (0 : Int32)
                        have cc := c23
                        have es : s = 9 := by
                          rcases hc with ⟨-, -, z⟩ | ⟨-, z0, z⟩
                          · exact z.symm.trans cc
                          · exfalso; rw [cc, show (9 : Int32).toInt = 9 from rfl] at z; omega
                        rw [es]
                        rw [u13] at r25
                        exact (r25.symm.trans c26).symm
                      · skip
                        cases hf
                        -- leaf 11111111101: (1 : Int32)
                        have cc := c23
                        have es : s = 9 := by
                          rcases hc with ⟨-, -, z⟩ | ⟨-, z0, z⟩
                          · exact z.symm.trans cc
                          · exfalso; rw [cc, show (9 : Int32).toInt = 9 from rfl] at z; omega
                        rw [es]
                        rw [u13] at r25
                        have := litW_01 (W := W) (i := i) (h := W 3)
                        show 1 = litW W i (W 3)
                        rw [← r25] at this ⊢
                        exact (this.resolve_left c26).symm
                    · skip
                      replace hf := jite hf
                      rcases hf with ⟨c27, hf⟩ | ⟨c27, hf⟩
                      · skip
                        replace hf := jbind hf
                        obtain ⟨v138, e28, hf⟩ := hf
                        have r28 := oc_gI e28
                        subst r28
                        clear e28
                        replace hf := jbind hf
                        obtain ⟨v142, e29, hf⟩ := hf
                        unfold F_X11_bit at e29
                        cases e29
                        cases hf
                        -- leaf 11111111110: v142
                        have cc := c27
                        have es : s = 10 := by
                          rcases hc with ⟨-, -, z⟩ | ⟨-, z0, z⟩
                          · exact z.symm.trans cc
                          · exfalso; rw [cc, show (10 : Int32).toInt = 10 from rfl] at z; omega
                        rw [es]
                        exact bitW (by omega) g6 f6
                      · skip
                        cases hf
                        -- leaf 11111111111: (x0 - (256 : Int32))
                        have es : s = 11 ∧ 0 ≤ m.toInt ∧ x0.toInt = 256 + m.toInt := by
                          rcases hc with ⟨z1, z2, z⟩ | z
                          · exfalso
                            have n : ∀ k : Int32, x0.toInt = k.toInt → x0 = k := fun k h => i_eq.mpr h
                            rw [← z] at z1 z2
                            have : x0.toInt = 0 ∨ x0.toInt = 1 ∨ x0.toInt = 2 ∨ x0.toInt = 3 ∨ x0.toInt = 4 ∨ x0.toInt = 5 ∨ x0.toInt = 6 ∨ x0.toInt = 7 ∨ x0.toInt = 8 ∨ x0.toInt = 9 ∨ x0.toInt = 10 := by omega
                            rcases this with h | h | h | h | h | h | h | h | h | h | h
                            · exact c1 (n 0 h)
                            · exact c2 (n 1 h)
                            · exact c5 (n 2 h)
                            · exact c7 (n 3 h)
                            · exact c10 (n 4 h)
                            · exact c13 (n 5 h)
                            · exact c15 (n 6 h)
                            · exact c17 (n 7 h)
                            · exact c20 (n 8 h)
                            · exact c23 (n 9 h)
                            · exact c27 (n 10 h)
                          · exact z
                        obtain ⟨rfl, m0, mx⟩ := es
                        show x0 - 256 = m
                        have := Int32.toInt_lt m
                        have l256 : (256 : Int32).toInt = 256 := rfl
                        have xl := Int32.toInt_lt x0
                        exact i_eq.mpr (by rw [jsub (by omega) (by omega)]; omega)
theorem E_X2_push {st : List Int32} {n : Nat} {a0 : Nat} {x1 : Int32} {h : jH} {q : jH} (LS : lawS (oc h) a0) (T : stkE (oc h) a0 st) (hl : st.length ≤ 23) (hf : F_X2_push n a0 x1 h = some q) : stkE (oc q) a0 (x1 :: st) ∧ q.1 = h.1 ∧ (∀ a k, a ≠ a0 + 5 → ¬ (a = a0 ∧ k = 5) → oc q a k = oc h a k) := by
  unfold F_X2_push at hf
  obtain ⟨w0, w1, w2, w3, w4⟩ := id LS
  obtain ⟨t1, t2⟩ := T
  replace hf := jbind hf
  obtain ⟨v1, e1, hf⟩ := hf
  have r1 := oc_gI e1
  subst r1
  clear e1
  replace hf := jite hf
  rcases hf with ⟨c2, hf⟩ | ⟨c2, hf⟩
  · skip
    cases hf
    -- leaf 0: h
    rw [t1, Int32.le_iff_toInt_le, nI_toInt (by omega), show (24 : Int32).toInt = 24 from rfl] at c2
    omega
  · skip
    replace hf := jbind hf
    obtain ⟨p10, e3, hf⟩ := hf
    have r3 := oc_gR e3
    rw [w4] at r3
    cases r3
    clear e3
    replace hf := jbind hf
    obtain ⟨v14, e4, hf⟩ := hf
    have r4 := oc_gI e4
    subst r4
    clear e4
    replace hf := jbind hf
    obtain ⟨h18, e5, hf⟩ := hf
    obtain ⟨o5, z5, y5⟩ := oc_as e5
    rw [jnar0] at o5
    clear e5
    replace hf := jbind hf
    obtain ⟨v21, e6, hf⟩ := hf
    have r6 := oc_gI e6
    rw [o5] at r6
    rw [oi_ne (Or.inl (by omega))] at r6
    subst r6
    clear e6
    replace hf := jbind hf
    obtain ⟨h26, e7, hf⟩ := hf
    obtain ⟨o7, z7⟩ := oc_pf e7
    clear e7
    cases hf
    -- leaf 1: h26
    rw [t1, nI_cl (by omega)] at o5
    rw [t1, nI_1] at o7
    refine ⟨⟨by rw [o7, oi_eq]; rfl, fun k hk => ?_⟩, z7.trans z5, fun a k h1 h2 => by rw [o7, u2_ne (by omega), o5, u2_ne (by omega)]⟩
    rw [o7, oi_ne (Or.inl (by omega)), o5]
    by_cases y : k = st.length
    · subst y
      rw [oi_eq]
      show x1 = (x1 :: st).getD (st.length + 1 - 1 - st.length) 0
      rw [show st.length + 1 - 1 - st.length = 0 by omega]
      rfl
    · have hk2 : k < st.length + 1 := hk
      rw [oi_ne (Or.inr y), t2 k (by omega)]
      show _ = (x1 :: st).getD (st.length + 1 - 1 - k) 0
      rw [show st.length + 1 - 1 - k = (st.length - 1 - k) + 1 by omega]
      rfl
theorem E_X2_pop {st : List Int32} {v : Int32} {n : Nat} {a0 : Nat} {h : jH} {q : Int32 × jH} (LS : lawS (oc h) a0) (T : stkE (oc h) a0 (v :: st)) (hl : st.length ≤ 24) (hf : F_X2_pop n a0 h = some q) : q.1 = v ∧ stkE (oc q.2) a0 st ∧ q.2.1 = h.1 ∧ (∀ a k, ¬ (a = a0 ∧ k = 5) → oc q.2 a k = oc h a k) := by
  unfold F_X2_pop at hf
  obtain ⟨w0, w1, w2, w3, w4⟩ := id LS
  obtain ⟨t1, t2⟩ := T
  have t1 : oi (oc h) a0 5 = nI (st.length + 1) := t1
  replace hf := jbind hf
  obtain ⟨v1, e1, hf⟩ := hf
  have r1 := oc_gI e1
  subst r1
  clear e1
  replace hf := jite hf
  rcases hf with ⟨c2, hf⟩ | ⟨c2, hf⟩
  · skip
    replace hf := jbind hf
    obtain ⟨v11, e3, hf⟩ := hf
    have r3 := oc_gI e3
    subst r3
    clear e3
    replace hf := jbind hf
    obtain ⟨h16, e4, hf⟩ := hf
    obtain ⟨o4, z4⟩ := oc_pf e4
    clear e4
    replace hf := jbind hf
    obtain ⟨p20, e5, hf⟩ := hf
    have r5 := oc_gR e5
    rw [o4] at r5
    rw [u2_ne (Or.inr (by decide))] at r5
    rw [w4] at r5
    cases r5
    clear e5
    replace hf := jbind hf
    obtain ⟨v24, e6, hf⟩ := hf
    have r6 := oc_gI e6
    rw [o4] at r6
    rw [oi_eq] at r6
    subst r6
    clear e6
    replace hf := jbind hf
    obtain ⟨v27, e7, hf⟩ := hf
    obtain ⟨r7, y7⟩ := oc_al e7
    rw [o4] at r7
    rw [oi_ne (Or.inl (by omega))] at r7
    subst r7
    clear e7
    cases hf
    -- leaf 0: (v27, h16)
    rw [t1, nI_pred] at o4
    refine ⟨?_, ⟨?_, fun k hk => ?_⟩, z4, fun a k ha => ?_⟩
    · show oi (oc h) (a0 + 5) (oi (oc h) a0 5 - 1).toNatClampNeg = v
      rw [t1, nI_pred, nI_cl (by omega), t2 _ (show st.length < (v :: st).length from Nat.lt_succ_self _)]
      show (v :: st).getD (st.length + 1 - 1 - st.length) 0 = v
      rw [show st.length + 1 - 1 - st.length = 0 by omega]
      rfl
    · show oi (oc h16) a0 5 = _
      rw [o4, oi_eq]
    · show oi (oc h16) (a0 + 5) k = _
      rw [o4, oi_ne (Or.inl (by omega)), t2 k (show k < st.length + 1 by omega)]
      show (v :: st).getD (st.length + 1 - 1 - k) 0 = st.getD (st.length - 1 - k) 0
      rw [show st.length + 1 - 1 - k = (st.length - 1 - k) + 1 by omega]
      rfl
    · show oc h16 a k = _
      rw [o4, u2_ne (by omega)]
  · skip
    cases hf
    -- leaf 1: ((0 : Int32), h)
    rw [t1, Int32.lt_iff_toInt_lt, nI_toInt (by omega), show (0 : Int32).toInt = 0 from rfl] at c2
    omega
end
section
/-! lines of the class's law -/
def frL (l : Nat) (O O2 : jO) : Prop := ∀ a k, a ≠ l + 5 → ¬ (a = l ∧ k = 5) → O2 a k = O a k
theorem frL_rfl {l : Nat} {O : jO} : frL l O O := fun _ _ _ _ => rfl
theorem frL_tr {l : Nat} {O O2 O3 : jO} (a : frL l O O2) (b : frL l O2 O3) : frL l O O3 := fun x k h q => (b x k h q).trans (a x k h q)
theorem lawS_L {l : Nat} {O O2 : jO} (s : lawS O l) (f : frL l O O2) : lawS O2 l := by
  obtain ⟨s0, s1, s2, s3, s4⟩ := s
  exact ⟨(f _ _ (by omega) (by omega)).trans s0, (f _ _ (by omega) (by omega)).trans s1, (f _ _ (by omega) (by omega)).trans s2, (f _ _ (by omega) (by omega)).trans s3, (f _ _ (by omega) (by omega)).trans s4⟩
theorem oi_L {l a k : Nat} {O O2 : jO} (f : frL l O O2) (h : a ≠ l + 5) (h2 : ¬ (a = l ∧ k = 5)) : oi O2 a k = oi O a k := by
  unfold oi
  rw [f a k h h2]
theorem linE_L {l n : Nat} {O O2 : jO} {W : jWd} (s : linE O l W n) (f : frL l O O2) : linE O2 l W n := by
  intro i hi
  obtain ⟨a1, a2, a3, a4, a5, a6, a7, a8, a9, a10, a11⟩ := s i hi
  refine ⟨(oi_L f (by omega) (by omega)).trans a1, (oi_L f (by omega) (by omega)).trans a2, (oi_L f (by omega) (by omega)).trans a3, a4, a5, a6, a7, a8, a9, fun j h1 h2 => ?_, a11⟩
  rw [oi_L f (by omega) (by omega)]
  exact a10 j h1 h2
theorem rodE_L {l b : Nat} {O O2 : jO} {W : jWd} (R : rodE O b W) (f : frL l O O2) (d : b + 6 < l ∨ l + 5 < b) : rodE O2 b W := rodE_fr R (fun a k h1 h2 => f a k (by omega) (by omega))
theorem tyR_pre {W : jWd} {a : Nat} : ∀ (m k : Nat) {ty : List Bool}, tyR W a (k + m) = some ty → ∃ t, tyR W a k = some t
  | 0, k, ty, e => ⟨ty, e⟩
  | m + 1, k, ty, e => by
    have e : tyR W a (k + m + 1) = some ty := e
    unfold tyR at e
    obtain ⟨t0, e0, -⟩ := jbind e
    exact tyR_pre m k e0
theorem tyC_len {s : Int32} {t u : List Bool} (ht : t.length ≤ 23) (e : tyC s t = some u) : u.length ≤ 23 := by
  unfold tyC at e
  by_cases c : s.toInt ≤ 11
  · rw [if_pos c] at e
    split at e
    · cases e; show t.length + 1 ≤ 23; omega
    · cases e
  rw [if_neg c] at e
  by_cases c15 : s = 15
  · rw [if_pos c15] at e
    match t, e, ht with
    | true :: t, e, ht => cases e; exact ht
    | false :: t, e, ht => cases e
    | [], e, ht => cases e
  rw [if_neg c15] at e
  by_cases c12 : s = 12
  · rw [if_pos c12] at e
    match t, e, ht with
    | false :: false :: t, e, ht => cases e; exact Nat.le_trans (Nat.le_succ _) ht
    | true :: t, e, ht => cases e
    | [], e, ht => cases e
    | [false], e, ht => cases e
    | false :: true :: t, e, ht => cases e
  rw [if_neg c12] at e
  by_cases c13 : s = 13 ∨ s = 14
  · rw [if_pos c13] at e
    match t, e, ht with
    | false :: false :: t, e, ht => cases e; exact Nat.le_trans (Nat.le_succ _) ht
    | true :: t, e, ht => cases e
    | [], e, ht => cases e
    | [false], e, ht => cases e
    | false :: true :: t, e, ht => cases e
  rw [if_neg c13] at e
  by_cases c16 : s = 16 ∨ s = 17
  · rw [if_pos c16] at e
    match t, e, ht with
    | true :: true :: t, e, ht => cases e; exact Nat.le_trans (Nat.le_succ _) ht
    | false :: t, e, ht => cases e
    | [], e, ht => cases e
    | [true], e, ht => cases e
    | true :: false :: t, e, ht => cases e
  · rw [if_neg c16] at e
    cases e
theorem tyR_len {W : jWd} {a : Nat} : ∀ (k : Nat) {ty : List Bool}, tyR W a k = some ty → ty.length ≤ 23
  | 0, ty, e => by cases e; exact Nat.zero_le _
  | k + 1, ty, e => by
    unfold tyR at e
    obtain ⟨t0, e0, e1⟩ := jbind e
    exact tyC_len (tyR_len k e0) e1
theorem E_X2_joined {n : Nat} {c s m a b q : Int32} {h : jH} (hc : codeR c s m) (h11 : 11 < s.toInt) (h15 : s ≠ 15) (h01 : s = 16 ∨ s = 17 → (a = 0 ∨ a = 1) ∧ (b = 0 ∨ b = 1)) (hf : F_X2_joined n c a b h = some q) : q = opW s a b := by
  unfold F_X2_joined at hf
  rcases hc with ⟨-, z, -⟩ | ⟨z, -⟩ | ⟨rfl, rfl⟩ | ⟨rfl, rfl⟩ | ⟨rfl, rfl⟩ | ⟨z, -⟩ | ⟨rfl, rfl⟩ | ⟨rfl, rfl⟩
  · omega
  · rw [z] at h11; exact absurd h11 (by decide)
  · replace hf : some (a + b) = some q := hf
    cases hf
    rfl
  · replace hf : (if b ≤ a then some (0 : Int32) else some 1) = some q := hf
    show q = if decide (a < b) = true then 1 else 0
    rcases jite hf with ⟨z, hf⟩ | ⟨z, hf⟩ <;> cases hf
    · rw [if_neg (by rw [decide_eq_true_iff, Int32.lt_iff_toInt_lt]; rw [Int32.le_iff_toInt_le] at z; omega)]
    · rw [if_pos (by rw [decide_eq_true_iff, Int32.lt_iff_toInt_lt]; rw [Int32.le_iff_toInt_le] at z; omega)]
  · replace hf : (if a ≤ b then some (0 : Int32) else some 1) = some q := hf
    show q = if decide (b < a) = true then 1 else 0
    rcases jite hf with ⟨z, hf⟩ | ⟨z, hf⟩ <;> cases hf
    · rw [if_neg (by rw [decide_eq_true_iff, Int32.lt_iff_toInt_lt]; rw [Int32.le_iff_toInt_le] at z; omega)]
    · rw [if_pos (by rw [decide_eq_true_iff, Int32.lt_iff_toInt_lt]; rw [Int32.le_iff_toInt_le] at z; omega)]
  · exact absurd z h15
  · replace hf : some (a &&& b) = some q := hf
    cases hf
    obtain ⟨ha, hb⟩ := h01 (Or.inl rfl)
    rcases ha with rfl | rfl <;> rcases hb with rfl | rfl <;> decide
  · replace hf : some (a ||| b) = some q := hf
    cases hf
    obtain ⟨ha, hb⟩ := h01 (Or.inr rfl)
    rcases ha with rfl | rfl <;> rcases hb with rfl | rfl <;> decide
theorem E_X2_isValue {n : Nat} {c s m q : Int32} {h : jH} (hc : codeR c s m) (hf : F_X2_isValue n c h = some q) : (q = 0 ∨ q = 1) ∧ (q = 1 ↔ s.toInt ≤ 11) := by
  unfold F_X2_isValue at hf
  rcases hc with ⟨z0, z1, rfl⟩ | ⟨rfl, z0, z1, z2⟩ | ⟨rfl, rfl⟩ | ⟨rfl, rfl⟩ | ⟨rfl, rfl⟩ | ⟨rfl, rfl⟩ | ⟨rfl, rfl⟩ | ⟨rfl, rfl⟩
  · rcases jite hf with ⟨z, hf⟩ | ⟨z, hf⟩
    · rw [Int32.le_iff_toInt_le, show (256 : Int32).toInt = 256 from rfl] at z; omega
    · rcases jite hf with ⟨y, hf⟩ | ⟨y, hf⟩
      · rw [Int32.lt_iff_toInt_lt, show (10 : Int32).toInt = 10 from rfl] at y; omega
      · cases hf; exact ⟨Or.inr rfl, fun _ => by omega, fun _ => rfl⟩
  · rcases jite hf with ⟨z, hf⟩ | ⟨z, hf⟩
    · cases hf; exact ⟨Or.inr rfl, fun _ => by decide, fun _ => rfl⟩
    · rw [Int32.le_iff_toInt_le, show (256 : Int32).toInt = 256 from rfl] at z; omega
  all_goals
    replace hf := hf.symm.trans (show _ = some (0 : Int32) from rfl)
    cases hf
    exact ⟨Or.inl rfl, fun z => absurd z (by decide), fun z => absurd z (by decide)⟩
theorem tyC_not {t u : List Bool} (e : tyC 15 t = some u) : ∃ r, t = true :: r := by
  unfold tyC at e
  rw [if_neg (by decide), if_pos rfl] at e
  match t, e with
  | true :: r, e => exact ⟨r, rfl⟩
  | false :: r, e => cases e
  | [], e => cases e
theorem tyC_bin {s : Int32} {t u : List Bool} (h11 : 11 < s.toInt) (h15 : s ≠ 15) (e : tyC s t = some u) : ∃ x y r, t = x :: y :: r ∧ (s = 16 ∨ s = 17 → x = true ∧ y = true) := by
  unfold tyC at e
  rw [if_neg (by omega), if_neg h15] at e
  by_cases c12 : s = 12
  · rw [if_pos c12] at e
    match t, e with
    | false :: false :: r, e => exact ⟨_, _, r, rfl, fun z => by rw [c12] at z; exact absurd z (by decide)⟩
    | true :: t, e => cases e
    | [], e => cases e
    | [false], e => cases e
    | false :: true :: t, e => cases e
  rw [if_neg c12] at e
  by_cases c13 : s = 13 ∨ s = 14
  · rw [if_pos c13] at e
    match t, e with
    | false :: false :: r, e => exact ⟨_, _, r, rfl, fun z => by rcases c13 with y | y <;> (rw [y] at z; exact absurd z (by decide))⟩
    | true :: t, e => cases e
    | [], e => cases e
    | [false], e => cases e
    | false :: true :: t, e => cases e
  rw [if_neg c13] at e
  by_cases c16 : s = 16 ∨ s = 17
  · rw [if_pos c16] at e
    match t, e with
    | true :: true :: r, e => exact ⟨_, _, r, rfl, fun _ => ⟨rfl, rfl⟩⟩
    | false :: t, e => cases e
    | [], e => cases e
    | [true], e => cases e
    | true :: false :: t, e => cases e
  · rw [if_neg c16] at e
    cases e
theorem tyR_nx {W : jWd} {a t len : Nat} {ty tk : List Bool} (e : tyR W a len = some ty) (h : t < len) (tk1 : tyR W a t = some tk) : ∃ tk2, tyC (W (484 + 2 * (a + t))) tk = some tk2 := by
  obtain ⟨t2, e2⟩ := tyR_pre (len - (t + 1)) (t + 1) (show tyR W a (t + 1 + (len - (t + 1))) = some ty by rw [show t + 1 + (len - (t + 1)) = len by omega]; exact e)
  unfold tyR at e2
  rw [tk1] at e2
  exact ⟨t2, e2⟩
theorem tyV_1 {st : List Int32} {b : Bool} {t : List Bool} (h : tyV (b :: t) st) : ∃ v u, st = v :: u ∧ (b = true → v = 0 ∨ v = 1) ∧ tyV t u := by
  cases st with
  | nil => exact h.elim
  | cons v u => exact ⟨v, u, rfl, h.1, h.2⟩
theorem sumW_p {W : jWd} {kind : Int32} {i n : Nat} (h : W (436 + 4 * n) = kind ∧ holdsW W i n) : sumW W kind i (n + 1) = sumW W kind i n + W (437 + 4 * n) := by
  unfold sumW
  rw [if_pos h]
  cases n <;> rfl
theorem sumW_n {W : jWd} {kind : Int32} {i n : Nat} (h : ¬ (W (436 + 4 * n) = kind ∧ holdsW W i n)) : sumW W kind i (n + 1) = sumW W kind i n := by
  unfold sumW
  rw [if_neg h]
  cases n <;> rfl
theorem stk0 {O : jO} {l : Nat} : stkE (u2 O l 5 (.int 0)) l [] := ⟨oi_eq, fun k hk => absurd hk (Nat.not_lt_zero k)⟩
theorem E_X2_holds_23 {n : Nat} {W : jWd} {i : Nat} {a : Nat} {len : Nat} {nl : Nat} {ln : Nat} (K : wOK W) (hi : (i : Int) < (W 0).toInt) (hl : (W (438 + 4 * ln)).toInt = (a : Int) ∧ (W (439 + 4 * ln)).toInt = ((a + len : Nat) : Int)) (hT : ∃ ty, tyR W a len = some ty ∧ (ty = [] ∨ ty = [true])) : ∀ (k : Nat) {a0 : Nat} {x1 : Int32} {a2 : Nat} {x3 : Int32} {x4 : Int32} {h : jH} {q : Int32 × jH} (t : Nat) (R : rodE (oc h) a2 W) (LS : lawS (oc h) a0) (LN : linE (oc h) a0 W nl) (T : stkE (oc h) a0 (runC W i a t)) (dj : a2 + 6 < a0 ∨ a0 + 5 < a2) (hn : ln < nl ∧ nl ≤ 12) (hx : x1 = nI ln) (hx3 : x3 = nI i) (h4 : x4 = nI (a + t)) (ht : t ≤ len), F_X2_holds_23 n k a0 x1 a2 x3 x4 h = some q → (q.1 = 0 ∨ q.1 = 1) ∧ (q.1 = 1 ↔ (runC W i a len).headD 1 = 1) ∧ frL a0 (oc h) (oc q.2) ∧ q.2.1 = h.1
  | 0, a0, x1, a2, x3, x4, h, q, t, R, LS, LN, T, dj, hn, hx, hx3, h4, ht, hf => by cases hf
  | k + 1, a0, x1, a2, x3, x4, h, q, t, R, LS, LN, T, dj, hn, hx, hx3, h4, ht, hf => by
    replace hf : F_X2_holds_23_b n (F_X2_holds_23 n k) a0 x1 a2 x3 x4 h = some q := hf
    unfold F_X2_holds_23_b at hf
    have K0 := K.1
    obtain ⟨w0, w1, w2, w3, w4⟩ := id LS
    obtain ⟨n1, n2, n3, n4, n5, n6, n7, n8, n9, n10, n11⟩ := LN ln hn.1
    obtain ⟨ty9, ty1, ty2⟩ := hT
    obtain ⟨tk, tk1⟩ := tyR_pre (len - t) t (show tyR W a (t + (len - t)) = some ty9 by rw [show t + (len - t) = len by omega]; exact ty1)
    have tv := tyR_ok K hi t tk1
    have tl := tyV_len tv
    have t23 := tyR_len t tk1
    have hl1 := hl.1
    have hl2 := hl.2
    replace hf := jbind hf
    obtain ⟨p26, e1, hf⟩ := hf
    have r1 := oc_gR e1
    rw [w2] at r1
    cases r1
    clear e1
    replace hf := jbind hf
    obtain ⟨v30, e2, hf⟩ := hf
    obtain ⟨r2, y2⟩ := oc_al e2
    subst r2
    clear e2
    replace hf := jite hf
    rcases hf with ⟨c3, hf⟩ | ⟨c3, hf⟩
    · skip
      replace hf := jbind hf
      obtain ⟨v113, e4, hf⟩ := hf
      have r4 := oc_gI e4
      subst r4
      clear e4
      replace hf := jite hf
      rcases hf with ⟨c5, hf⟩ | ⟨c5, hf⟩
      · skip
        cases hf
        -- leaf 00: ((1 : Int32), h)
        rw [hx, nI_cl (by omega), n3, h4, Int32.le_iff_toInt_le, nI_toInt (by omega), hl2] at c3
        have et : t = len := by omega
        subst et
        rw [T.1] at c5
        have e0 : (runC W i a t).length = 0 := by rw [show (0 : Int32) = nI 0 from rfl, nI_eq (by omega) (by omega)] at c5; exact c5
        rw [List.eq_nil_of_length_eq_zero e0]
        exact ⟨Or.inr rfl, ⟨fun _ => rfl, fun _ => rfl⟩, frL_rfl, rfl⟩
      · skip
        replace hf := jbind hf
        obtain ⟨q120, e6, hf⟩ := hf
        replace e6 := (jcv_o e6).2
        replace hf := jite hf
        rcases hf with ⟨c7, hf⟩ | ⟨c7, hf⟩
        · skip
          cases hf
          -- leaf 010: ((0 : Int32), q120.2)
          rw [hx, nI_cl (by omega), n3, h4, Int32.le_iff_toInt_le, nI_toInt (by omega), hl2] at c3
          have et : t = len := by omega
          subst et
          have ek : tk = ty9 := Option.some.inj (tk1.symm.trans ty1)
          subst ek
          rcases ty2 with rfl | rfl
          · exfalso
            have e0 : runC W i a t = [] := List.eq_nil_of_length_eq_zero tl.symm
            rw [e0] at T
            exact c5 T.1
          obtain ⟨v, u, ev, v01, tu⟩ := tyV_1 tv
          have eu : u = [] := List.eq_nil_of_length_eq_zero (tyV_len tu).symm
          subst eu
          rw [ev] at T ⊢
          obtain ⟨p1, p2, p3, p4⟩ := E_X2_pop LS T (by show 0 ≤ 24; omega) e6
          rw [p1] at c7
          subst c7
          exact ⟨Or.inl rfl, ⟨fun z => absurd (show (0 : Int32) = 1 from z) (by decide), fun z => absurd (show (0 : Int32) = 1 from z) (by decide)⟩, fun a k _ h => p4 a k h, p3⟩
        · skip
          cases hf
          -- leaf 011: ((1 : Int32), q120.2)
          rw [hx, nI_cl (by omega), n3, h4, Int32.le_iff_toInt_le, nI_toInt (by omega), hl2] at c3
          have et : t = len := by omega
          subst et
          have ek : tk = ty9 := Option.some.inj (tk1.symm.trans ty1)
          subst ek
          rcases ty2 with rfl | rfl
          · exfalso
            have e0 : runC W i a t = [] := List.eq_nil_of_length_eq_zero tl.symm
            rw [e0] at T
            exact c5 T.1
          obtain ⟨v, u, ev, v01, tu⟩ := tyV_1 tv
          have eu : u = [] := List.eq_nil_of_length_eq_zero (tyV_len tu).symm
          subst eu
          rw [ev] at T ⊢
          obtain ⟨p1, p2, p3, p4⟩ := E_X2_pop LS T (by show 0 ≤ 24; omega) e6
          rw [p1] at c7
          have v1 := (v01 rfl).resolve_left c7
          subst v1
          exact ⟨Or.inr rfl, ⟨fun _ => rfl, fun _ => rfl⟩, fun a k _ h => p4 a k h, p3⟩
    · skip
      replace hf := jbind hf
      obtain ⟨p35, e8, hf⟩ := hf
      have r8 := oc_gR e8
      rw [w3] at r8
      cases r8
      clear e8
      replace hf := jbind hf
      obtain ⟨v40, e9, hf⟩ := hf
      obtain ⟨r9, y9⟩ := oc_al e9
      subst r9
      clear e9
      replace hf := jbind hf
      obtain ⟨v45, e10, hf⟩ := hf
      replace hf := jite hf
      rcases hf with ⟨c11, hf⟩ | ⟨c11, hf⟩
      · skip
        replace hf := jite hf
        rcases hf with ⟨c12, hf⟩ | ⟨c12, hf⟩
        · skip
          replace hf := jbind hf
          obtain ⟨q75, e13, hf⟩ := hf
          replace e13 := (jcv_o e13).2
          replace hf := jbind hf
          obtain ⟨h79, e14, hf⟩ := hf
          replace e14 := (jcv_o e14).2
          -- leaf 100: rc23 a0 x1 a2 x3 (x4 + (1 : Int32)) h79
          rw [hx, nI_cl (by omega), n3, h4, Int32.le_iff_toInt_le, nI_toInt (by omega), hl2] at c3
          have tl9 : t < len := by omega
          have hc := n10 (a + t) (by omega) (by omega)
          obtain ⟨tk2, tk3⟩ := tyR_nx ty1 tl9 tk1
          rw [h4, nI_cl (by omega)] at e10
          have iv := E_X2_isValue hc e10
          rw [h4, nI_cl (by omega)] at c12
          have n11 : ¬ (W (484 + 2 * (a + t))).toInt ≤ 11 := fun z => absurd (c11.symm.trans (iv.2.mpr z)) (by decide)
          have s15 : W (484 + 2 * (a + t)) = 15 := by
            rcases hc with ⟨_, z, _⟩ | ⟨z, _⟩ | ⟨_, z⟩ | ⟨_, z⟩ | ⟨_, z⟩ | ⟨z, _⟩ | ⟨_, z⟩ | ⟨_, z⟩
            · exact absurd (by omega) n11
            · exact absurd (by rw [z]; decide) n11
            · exact absurd (z.symm.trans c12) (by decide)
            · exact absurd (z.symm.trans c12) (by decide)
            · exact absurd (z.symm.trans c12) (by decide)
            · exact z
            · exact absurd (z.symm.trans c12) (by decide)
            · exact absurd (z.symm.trans c12) (by decide)
          rw [s15] at tk3
          obtain ⟨r9, er⟩ := tyC_not tk3
          subst er
          obtain ⟨v, u, ev, v01, tu⟩ := tyV_1 tv
          have T2 := T
          rw [ev] at T2
          have ul := tyV_len tu
          have ul2 : r9.length + 1 ≤ 23 := t23
          obtain ⟨p1, p2, p3, p4⟩ := E_X2_pop LS T2 (by omega) e13
          have f1 : frL a0 (oc h) (oc q75.2) := fun a k _ h => p4 a k h
          obtain ⟨u1, u2, u3⟩ := E_X2_push (lawS_L LS f1) p2 (by omega) e14
          have fz : frL a0 (oc h) (oc h79) := frL_tr f1 u3
          have Tz : stkE (oc h79) a0 (runC W i a (t + 1)) := by
            rw [show runC W i a (t + 1) = stpC W i (W (484 + 2 * (a + t))) (W (485 + 2 * (a + t))) (runC W i a t) from rfl, ev]
            unfold stpC
            rw [if_neg n11, if_pos s15, ← p1]
            exact u1
          have zz := u2.trans p3
          obtain ⟨b1, b2, b3, b4⟩ := E_X2_holds_23 K hi hl ⟨ty9, ty1, ty2⟩ k (t + 1) (rodE_L R fz dj) (lawS_L LS fz) (linE_L LN fz) Tz dj hn hx hx3 (by rw [h4, nI_1]; rfl) (by omega) hf
          exact ⟨b1, b2, frL_tr fz b3, b4.trans zz⟩
        · skip
          replace hf := jbind hf
          obtain ⟨q86, e15, hf⟩ := hf
          replace e15 := (jcv_o e15).2
          replace hf := jbind hf
          obtain ⟨q95, e16, hf⟩ := hf
          replace e16 := (jcv_o e16).2
          replace hf := jbind hf
          obtain ⟨v100, e17, hf⟩ := hf
          replace hf := jbind hf
          obtain ⟨h103, e18, hf⟩ := hf
          replace e18 := (jcv_o e18).2
          -- leaf 101: rc23 a0 x1 a2 x3 (x4 + (1 : Int32)) h103
          rw [hx, nI_cl (by omega), n3, h4, Int32.le_iff_toInt_le, nI_toInt (by omega), hl2] at c3
          have tl9 : t < len := by omega
          have hc := n10 (a + t) (by omega) (by omega)
          obtain ⟨tk2, tk3⟩ := tyR_nx ty1 tl9 tk1
          rw [h4, nI_cl (by omega)] at e10
          have iv := E_X2_isValue hc e10
          rw [h4, nI_cl (by omega)] at c12
          have n11 : ¬ (W (484 + 2 * (a + t))).toInt ≤ 11 := fun z => absurd (c11.symm.trans (iv.2.mpr z)) (by decide)
          have s15 : W (484 + 2 * (a + t)) ≠ 15 := by
            intro y
            rcases hc with ⟨_, z, _⟩ | ⟨z, _⟩ | ⟨z, _⟩ | ⟨z, _⟩ | ⟨z, _⟩ | ⟨_, z⟩ | ⟨z, _⟩ | ⟨z, _⟩
            · exact absurd (by omega) n11
            · exact absurd (by rw [z]; decide) n11
            · exact absurd (z.symm.trans y) (by decide)
            · exact absurd (z.symm.trans y) (by decide)
            · exact absurd (z.symm.trans y) (by decide)
            · exact c12 z
            · exact absurd (z.symm.trans y) (by decide)
            · exact absurd (z.symm.trans y) (by decide)
          obtain ⟨x9, y9, r9, er, xy⟩ := tyC_bin (by omega) s15 tk3
          subst er
          obtain ⟨vb, u0, ev0, b01, tu0⟩ := tyV_1 tv
          obtain ⟨va, u, ev, a01, tu⟩ := tyV_1 tu0
          subst ev
          have T2 := T
          rw [ev0] at T2
          have ul := tyV_len tu
          have ul2 : r9.length + 1 + 1 ≤ 23 := t23
          obtain ⟨p1, p2, p3, p4⟩ := E_X2_pop LS T2 (by show u.length + 1 ≤ 24; omega) e15
          have f1 : frL a0 (oc h) (oc q86.2) := fun a k _ h => p4 a k h
          obtain ⟨g1, g2, g3, g4⟩ := E_X2_pop (lawS_L LS f1) p2 (by omega) e16
          have f2 : frL a0 (oc q86.2) (oc q95.2) := fun a k _ h => g4 a k h
          rw [h4, nI_cl (by omega)] at e17
          have jn := E_X2_joined hc (by omega) s15 (fun z => ⟨by rw [g1]; exact a01 (xy z).2, by rw [p1]; exact b01 (xy z).1⟩) e17
          subst jn
          obtain ⟨u1, u2, u3⟩ := E_X2_push (lawS_L LS (frL_tr f1 f2)) g2 (by omega) e18
          have fz : frL a0 (oc h) (oc h103) := frL_tr (frL_tr f1 f2) u3
          have Tz : stkE (oc h103) a0 (runC W i a (t + 1)) := by
            rw [show runC W i a (t + 1) = stpC W i (W (484 + 2 * (a + t))) (W (485 + 2 * (a + t))) (runC W i a t) from rfl, ev0]
            unfold stpC
            rw [if_neg n11, if_neg s15, ← p1, ← g1]
            exact u1
          have zz := u2.trans (g3.trans p3)
          obtain ⟨b1, b2, b3, b4⟩ := E_X2_holds_23 K hi hl ⟨ty9, ty1, ty2⟩ k (t + 1) (rodE_L R fz dj) (lawS_L LS fz) (linE_L LN fz) Tz dj hn hx hx3 (by rw [h4, nI_1]; rfl) (by omega) hf
          exact ⟨b1, b2, frL_tr fz b3, b4.trans zz⟩
      · skip
        replace hf := jbind hf
        obtain ⟨v56, e19, hf⟩ := hf
        replace hf := jbind hf
        obtain ⟨h59, e20, hf⟩ := hf
        replace e20 := (jcv_o e20).2
        -- leaf 11: rc23 a0 x1 a2 x3 (x4 + (1 : Int32)) h59
        rw [hx, nI_cl (by omega), n3, h4, Int32.le_iff_toInt_le, nI_toInt (by omega), hl2] at c3
        have tl9 : t < len := by omega
        have hc := n10 (a + t) (by omega) (by omega)
        obtain ⟨tk2, tk3⟩ := tyR_nx ty1 tl9 tk1
        rw [h4, nI_cl (by omega)] at e10
        have iv := E_X2_isValue hc e10
        have s11 := iv.2.mp (iv.1.resolve_left c11)
        rw [h4, nI_cl (by omega)] at e19
        have hv : (0 ≤ (W (484 + 2 * (a + t))).toInt ∧ (W (484 + 2 * (a + t))).toInt ≤ 10 ∧ oi (oc h) (a0 + 4) (a + t) = W (484 + 2 * (a + t))) ∨ (W (484 + 2 * (a + t)) = 11 ∧ 0 ≤ (W (485 + 2 * (a + t))).toInt ∧ (oi (oc h) (a0 + 4) (a + t)).toInt = 256 + (W (485 + 2 * (a + t))).toInt) := by
          rcases hc with z | ⟨z1, z2, z3, z4⟩ | ⟨z, -⟩ | ⟨z, -⟩ | ⟨z, -⟩ | ⟨z, -⟩ | ⟨z, -⟩ | ⟨z, -⟩
          · exact Or.inl z
          · exact Or.inr ⟨z1, z2, z4⟩
          all_goals (rw [z] at s11; exact absurd s11 (by decide))
        have vv := E_X2_value R K hx3 hi hv e19
        subst vv
        obtain ⟨u1, u2, fz⟩ := E_X2_push LS T (by omega) e20
        have Tz : stkE (oc h59) a0 (runC W i a (t + 1)) := by
          rw [show runC W i a (t + 1) = factW W i (W (484 + 2 * (a + t))) (W (485 + 2 * (a + t))) :: runC W i a t from if_pos s11]
          exact u1
        have zz := u2
        obtain ⟨b1, b2, b3, b4⟩ := E_X2_holds_23 K hi hl ⟨ty9, ty1, ty2⟩ k (t + 1) (rodE_L R fz dj) (lawS_L LS fz) (linE_L LN fz) Tz dj hn hx hx3 (by rw [h4, nI_1]; rfl) (by omega) hf
        exact ⟨b1, b2, frL_tr fz b3, b4.trans zz⟩
theorem E_X2_holds {W : jWd} {i : Nat} {nl : Nat} {ln : Nat} {n : Nat} {a0 : Nat} {x1 : Int32} {a2 : Nat} {x3 : Int32} {h : jH} {q : Int32 × jH} (R : rodE (oc h) a2 W) (K : wOK W) (hi : (i : Int) < (W 0).toInt) (LS : lawS (oc h) a0) (LN : linE (oc h) a0 W nl) (dj : a2 + 6 < a0 ∨ a0 + 5 < a2) (hn : ln < nl ∧ nl ≤ 12) (hx : x1 = nI ln) (hx3 : x3 = nI i) (hf : F_X2_holds n a0 x1 a2 x3 h = some q) : (q.1 = 0 ∨ q.1 = 1) ∧ (q.1 = 1 ↔ holdsW W i ln) ∧ frL a0 (oc h) (oc q.2) ∧ q.2.1 = h.1 := by
  unfold F_X2_holds at hf
  obtain ⟨w0, w1, w2, w3, w4⟩ := id LS
  obtain ⟨n1, n2, n3, n4, n5, n6, n7, n8, n9, n10, n11⟩ := LN ln hn.1
  obtain ⟨a, ha⟩ : ∃ a : Nat, (W (438 + 4 * ln)).toInt = (a : Int) := ⟨(W (438 + 4 * ln)).toInt.toNat, by omega⟩
  obtain ⟨len, hlen⟩ : ∃ len : Nat, (W (439 + 4 * ln)).toInt = ((a + len : Nat) : Int) := ⟨((W (439 + 4 * ln)).toInt - a).toNat, by omega⟩
  have hT : ∃ ty, tyR W a len = some ty ∧ (ty = [] ∨ ty = [true]) := by
    rw [show (W (439 + 4 * ln)).toInt.toNat - (W (438 + 4 * ln)).toInt.toNat = len by omega, show (W (438 + 4 * ln)).toInt.toNat = a by omega] at n11
    exact n11
  replace hf := jbind hf
  obtain ⟨h2, e1, hf⟩ := hf
  obtain ⟨o1, z1⟩ := oc_pf e1
  clear e1
  replace hf := jite hf
  rcases hf with ⟨c2, hf⟩ | ⟨c2, hf⟩
  · skip
    -- leaf 0: F_X2_holds_23 n n a0 x1 a2 x3 (0 : Int32) h2
    have f1 : frL a0 (oc h) (oc h2) := fun a k _ h => by rw [o1]; exact u2_ne (by omega)
    rw [hx, show (0 : Int32) = nI 0 from rfl, nI_eq (by omega) (by omega)] at c2
    rw [if_pos c2] at n4
    have a9 : a = 0 := by rw [n4] at ha; have : (0 : Int32).toInt = 0 := rfl; omega
    obtain ⟨b1, b2, b3, b4⟩ := E_X2_holds_23 K hi ⟨ha, hlen⟩ hT n 0 (rodE_L R f1 dj) (lawS_L LS f1) (linE_L LN f1) (by rw [o1]; exact stk0) dj hn hx hx3 (by rw [a9]; rfl) (Nat.zero_le _) hf
    refine ⟨b1, b2.trans ?_, frL_tr f1 b3, b4.trans z1⟩
    unfold holdsW
    rw [show (W (439 + 4 * ln)).toInt.toNat - (W (438 + 4 * ln)).toInt.toNat = len by omega, show (W (438 + 4 * ln)).toInt.toNat = a by omega]
  · skip
    replace hf := jbind hf
    obtain ⟨p14, e3, hf⟩ := hf
    have r3 := oc_gR e3
    rw [o1] at r3
    rw [u2_ne (Or.inr (by decide))] at r3
    rw [w2] at r3
    cases r3
    clear e3
    replace hf := jbind hf
    obtain ⟨v20, e4, hf⟩ := hf
    obtain ⟨r4, y4⟩ := oc_al e4
    rw [o1] at r4
    rw [oi_ne (Or.inl (by omega))] at r4
    subst r4
    clear e4
    -- leaf 1: F_X2_holds_23 n n a0 x1 a2 x3 v20 h2
    have f1 : frL a0 (oc h) (oc h2) := fun a k _ h => by rw [o1]; exact u2_ne (by omega)
    rw [hx, show (0 : Int32) = nI 0 from rfl, nI_eq (by omega) (by omega)] at c2
    rw [if_neg c2] at n4
    obtain ⟨n1b, n2b, n3b, -⟩ := LN (ln - 1) (by omega)
    have xp : x1 - (1 : Int32) = nI (ln - 1) := by rw [hx]; obtain ⟨y, rfl⟩ : ∃ y, ln = y + 1 := ⟨ln - 1, by omega⟩; exact nI_pred y
    rw [xp, nI_cl (by omega), n3b, ← n4] at hf
    obtain ⟨b1, b2, b3, b4⟩ := E_X2_holds_23 K hi ⟨ha, hlen⟩ hT n 0 (rodE_L R f1 dj) (lawS_L LS f1) (linE_L LN f1) (by rw [o1]; exact stk0) dj hn hx hx3 (nI_k ha) (Nat.zero_le _) hf
    refine ⟨b1, b2.trans ?_, frL_tr f1 b3, b4.trans z1⟩
    unfold holdsW
    rw [show (W (439 + 4 * ln)).toInt.toNat - (W (438 + 4 * ln)).toInt.toNat = len by omega, show (W (438 + 4 * ln)).toInt.toNat = a by omega]
theorem E_X2_amount_20 {n : Nat} {W : jWd} {i : Nat} {nl : Nat} (K : wOK W) (hi : (i : Int) < (W 0).toInt) (hn : nl ≤ 12) (N9 : (W 435).toInt = (nl : Int)) : ∀ (k : Nat) {a0 : Nat} {x1 : Int32} {a2 : Nat} {x3 : Int32} {x4 : Int32} {x5 : Int32} {h : jH} {q : Int32 × jH} (m : Nat) (R : rodE (oc h) a2 W) (LS : lawS (oc h) a0) (LN : linE (oc h) a0 W nl) (N8 : oi (oc h) a0 8 = W 435) (dj : a2 + 6 < a0 ∨ a0 + 5 < a2) (hx3 : x3 = nI i) (hm : x5 = nI m) (ml : m ≤ nl) (hacc : x4 = sumW W x1 i m), F_X2_amount_20 n k a0 x1 a2 x3 x4 x5 h = some q → q.1 = sumW W x1 i nl ∧ frL a0 (oc h) (oc q.2) ∧ q.2.1 = h.1
  | 0, a0, x1, a2, x3, x4, x5, h, q, m, R, LS, LN, N8, dj, hx3, hm, ml, hacc, hf => by cases hf
  | k + 1, a0, x1, a2, x3, x4, x5, h, q, m, R, LS, LN, N8, dj, hx3, hm, ml, hacc, hf => by
    replace hf : F_X2_amount_20_b n (F_X2_amount_20 n k) a0 x1 a2 x3 x4 x5 h = some q := hf
    unfold F_X2_amount_20_b at hf
    obtain ⟨w0, w1, w2, w3, w4⟩ := id LS
    replace hf := jbind hf
    obtain ⟨v23, e1, hf⟩ := hf
    have r1 := oc_gI e1
    subst r1
    clear e1
    replace hf := jite hf
    rcases hf with ⟨c2, hf⟩ | ⟨c2, hf⟩
    · skip
      cases hf
      -- leaf 0: (x4, h)
      rw [hm, N8, Int32.le_iff_toInt_le, nI_toInt (by omega)] at c2
      have : m = nl := by omega
      subst this
      exact ⟨hacc, frL_rfl, rfl⟩
    · skip
      replace hf := jbind hf
      obtain ⟨p30, e3, hf⟩ := hf
      have r3 := oc_gR e3
      rw [w0] at r3
      cases r3
      clear e3
      replace hf := jbind hf
      obtain ⟨v35, e4, hf⟩ := hf
      obtain ⟨r4, y4⟩ := oc_al e4
      subst r4
      clear e4
      replace hf := jite hf
      rcases hf with ⟨c5, hf⟩ | ⟨c5, hf⟩
      · skip
        replace hf := jbind hf
        obtain ⟨q45, e6, hf⟩ := hf
        replace e6 := (jcv_o e6).2
        have m9 : m < nl := by rw [hm, N8, Int32.le_iff_toInt_le, nI_toInt (by omega)] at c2; omega
        obtain ⟨r1, r2, r3, r4⟩ := E_X2_holds (ln := m) R K hi LS LN dj ⟨m9, hn⟩ hm hx3 e6
        replace hf := jite hf
        rcases hf with ⟨c7, hf⟩ | ⟨c7, hf⟩
        · skip
          -- leaf 100: rc20 a0 x1 a2 x3 x4 (x5 + (1 : Int32)) q45.2
          rw [hm, nI_cl (by omega), (LN m m9).1] at c5
          have nh : ¬ holdsW W i m := fun z => absurd (c7.symm.trans (r2.mpr z)) (by decide)
          obtain ⟨b1, b2, b3⟩ := E_X2_amount_20 K hi hn N9 k (m + 1) (rodE_L R r3 dj) (lawS_L LS r3) (linE_L LN r3) ((oi_L r3 (by omega) (by omega)).trans N8) dj hx3 (by rw [hm, nI_1]) (by omega) (by rw [hacc, sumW_n (fun z => nh z.2)]) hf
          exact ⟨b1, frL_tr r3 b2, b3.trans r4⟩
        · skip
          replace hf := jbind hf
          obtain ⟨p54, e8, hf⟩ := hf
          have r8 := oc_gR e8
          rw [r3 (a0) 1 (by omega) (by omega)] at r8
          rw [w1] at r8
          cases r8
          clear e8
          replace hf := jbind hf
          obtain ⟨v59, e9, hf⟩ := hf
          obtain ⟨r9, y9⟩ := oc_al e9
          rw [oi_L r3 (by omega) (by omega)] at r9
          subst r9
          clear e9
          -- leaf 101: rc20 a0 x1 a2 x3 (x4 + v59) (x5 + (1 : Int32)) q45.2
          rw [hm, nI_cl (by omega), (LN m m9).1] at c5
          have yh : holdsW W i m := r2.mp (r1.resolve_left c7)
          rw [hm, nI_cl (by omega), (LN m m9).2.1, ← hm] at hf
          obtain ⟨b1, b2, b3⟩ := E_X2_amount_20 K hi hn N9 k (m + 1) (rodE_L R r3 dj) (lawS_L LS r3) (linE_L LN r3) ((oi_L r3 (by omega) (by omega)).trans N8) dj hx3 (by rw [hm, nI_1]) (by omega) (by rw [hacc, sumW_p ⟨c5, yh⟩]) hf
          exact ⟨b1, frL_tr r3 b2, b3.trans r4⟩
      · skip
        -- leaf 11: rc20 a0 x1 a2 x3 x4 (x5 + (1 : Int32)) h
        have m9 : m < nl := by rw [hm, N8, Int32.le_iff_toInt_le, nI_toInt (by omega)] at c2; omega
        rw [hm, nI_cl (by omega), (LN m m9).1] at c5
        obtain ⟨b1, b2, b3⟩ := E_X2_amount_20 K hi hn N9 k (m + 1) R LS LN N8 dj hx3 (by rw [hm, nI_1]) (by omega) (by rw [hacc, sumW_n (fun z => c5 z.1)]) hf
        exact ⟨b1, b2, b3⟩
theorem E_X2_untoldAmount {W : jWd} {i : Nat} {n : Nat} {x0 : Int32} {a1 : Nat} {x2 : Int32} {h : jH} {q : Int32} (R : rodE (oc h) a1 W) (K : wOK W) (hi : (i : Int) < (W 0).toInt) (hx : x2 = nI i) (hf : F_X2_untoldAmount n x0 a1 x2 h = some q) : q = if x0 = 0 then litW W i (W 3) else if x0 = 1 then 10 else 0 := by
  unfold F_X2_untoldAmount at hf
  obtain ⟨⟨s0, s1, s2, s3, s4, s5⟩, ⟨u5, u10, u11, u12, u13, u14, u15, u16, u17⟩, RB, RC, RL⟩ := id R
  replace hf := jite hf
  rcases hf with ⟨c1, hf⟩ | ⟨c1, hf⟩
  · skip
    replace hf := jbind hf
    obtain ⟨v7, e2, hf⟩ := hf
    have r2 := oc_gI e2
    subst r2
    clear e2
    replace hf := jbind hf
    obtain ⟨v10, e3, hf⟩ := hf
    replace e3 := (jcv_o e3).2
    have r3 := E_X8_isLit (i := i) R K hx hi e3
    replace hf := jite hf
    rcases hf with ⟨c4, hf⟩ | ⟨c4, hf⟩
    · skip
      cases hf
      -- leaf 00: (0 : Int32)
      rw [if_pos c1, ← u13, ← r3]
      exact c4.symm
    · skip
      cases hf
      -- leaf 01: (1 : Int32)
      rw [u13] at r3
      rw [if_pos c1]
      have l9 := litW_01 (W := W) (i := i) (h := W 3)
      rw [← r3] at l9 ⊢
      exact (l9.resolve_left c4).symm
  · skip
    replace hf := jite hf
    rcases hf with ⟨c5, hf⟩ | ⟨c5, hf⟩
    · skip
      cases hf
      -- leaf 10: (10 : Int32)
      rw [if_neg c1, if_pos c5]
    · skip
      cases hf
      -- leaf 11: (0 : Int32)
      rw [if_neg c1, if_neg c5]
theorem E_X2_amount {W : jWd} {i : Nat} {n : Nat} {a0 : Nat} {x1 : Int32} {a2 : Nat} {x3 : Int32} {h : jH} {q : Int32 × jH} (R : rodE (oc h) a2 W) (K : wOK W) (hi : (i : Int) < (W 0).toInt) (LE : lawE (oc h) a0 W) (dj : a2 + 6 < a0 ∨ a0 + 5 < a2) (hx3 : x3 = nI i) (hf : F_X2_amount n a0 x1 a2 x3 h = some q) : q.1 = byW W x1 i ∧ frL a0 (oc h) (oc q.2) ∧ q.2.1 = h.1 := by
  unfold F_X2_amount at hf
  obtain ⟨LS, L7, L2, L8⟩ := LE
  replace hf := jbind hf
  obtain ⟨v1, e1, hf⟩ := hf
  have r1 := oc_gI e1
  subst r1
  clear e1
  replace hf := jite hf
  rcases hf with ⟨c2, hf⟩ | ⟨c2, hf⟩
  · skip
    replace hf := jbind hf
    obtain ⟨v10, e3, hf⟩ := hf
    cases hf
    -- leaf 0: (v10, h)
    rw [L7] at c2
    have u9 := E_X2_untoldAmount R K hi hx3 e3
    refine ⟨?_, frL_rfl, rfl⟩
    unfold byW
    rw [if_neg (fun z => absurd (c2.symm.trans z) (by decide))]
    exact u9
  · skip
    -- leaf 1: F_X2_amount_20 n n a0 x1 a2 x3 (0 : Int32) (0 : Int32) h
    rw [L7] at c2
    have w2 := L2.resolve_left c2
    obtain ⟨N8, N9, LN⟩ := L8 w2
    obtain ⟨b1, b2, b3⟩ := E_X2_amount_20 K hi (by omega) (by omega : (W 435).toInt = ((W 435).toInt.toNat : Int)) n 0 R LS LN N8 dj hx3 rfl (Nat.zero_le _) rfl hf
    refine ⟨?_, b2, b3⟩
    unfold byW
    rw [if_pos w2]
    exact b1
end
section
/-! lines of the reference's law -/
def lawK (W : jWd) : Prop := (W 2 = 0 ∨ W 2 = 1) ∧ (W 2 = 1 → (0 ≤ (W 435).toInt ∧ (W 435).toInt ≤ 12) ∧ ∀ i : Nat, (i : Int) < (W 435).toInt → 0 ≤ (W (438 + 4 * i)).toInt ∧ (W (438 + 4 * i)).toInt ≤ (W (439 + 4 * i)).toInt ∧ (W (439 + 4 * i)).toInt ≤ 400 ∧ (∃ ty, tyR W (W (438 + 4 * i)).toInt.toNat ((W (439 + 4 * i)).toInt.toNat - (W (438 + 4 * i)).toInt.toNat) = some ty ∧ (ty = [] ∨ ty = [true])))
theorem lawK_of {O : jO} {l : Nat} {W : jWd} (L : lawE O l W) : lawK W := by
  obtain ⟨-, -, a, b⟩ := L
  refine ⟨a, fun z => ?_⟩
  obtain ⟨-, c, d⟩ := b z
  refine ⟨c, fun i hi => ?_⟩
  obtain ⟨-, -, -, -, e5, e6, e7, -, -, -, e11⟩ := d i (by omega)
  exact ⟨e5, e6, e7, e11⟩
def vstk (O : jO) (m : Nat) (st : List Int32) : Prop := ∀ k, k < st.length → oi O (m + 8) k = st.getD (st.length - 1 - k) 0
theorem vstk_p {O : jO} {m : Nat} {st : List Int32} {v : Int32} (T : vstk O m st) : vstk (u2 O (m + 8) st.length (.int v)) m (v :: st) := by
  intro k hk
  have hk : k < st.length + 1 := hk
  by_cases y : k = st.length
  · subst y
    rw [oi_eq]
    show v = (v :: st).getD (st.length + 1 - 1 - st.length) 0
    rw [show st.length + 1 - 1 - st.length = 0 by omega]
    rfl
  · rw [oi_ne (Or.inr y), T k (by omega)]
    show _ = (v :: st).getD (st.length + 1 - 1 - k) 0
    rw [show st.length + 1 - 1 - k = (st.length - 1 - k) + 1 by omega]
    rfl
theorem vstk_o {O : jO} {m : Nat} {st : List Int32} {v : Int32} (T : vstk O m (v :: st)) : vstk O m st := by
  intro k hk
  rw [T k (show k < st.length + 1 by omega)]
  show (v :: st).getD (st.length + 1 - 1 - k) 0 = _
  rw [show st.length + 1 - 1 - k = (st.length - 1 - k) + 1 by omega]
  rfl
theorem vstk_t {O : jO} {m : Nat} {st : List Int32} {v : Int32} (T : vstk O m (v :: st)) : oi O (m + 8) st.length = v := by
  rw [T st.length (show st.length < st.length + 1 by omega)]
  show (v :: st).getD (st.length + 1 - 1 - st.length) 0 = v
  rw [show st.length + 1 - 1 - st.length = 0 by omega]
  rfl
theorem nI_c484 {t : Nat} : (484 : Int32) + ((2 : Int32) * nI t) = nI (484 + 2 * t) := by
  show nI 484 + nI 2 * nI t = _
  rw [nI_mul, nI_add]
theorem nI_c436 {t : Nat} : (436 : Int32) + ((4 : Int32) * nI t) = nI (436 + 4 * t) := by
  show nI 436 + nI 4 * nI t = _
  rw [nI_mul, nI_add]
theorem nI_m1 {y : Nat} : nI (y + 1) + (-1 : Int32) = nI y := by
  rw [nI_succ, Int32.add_assoc]
  exact Int32.add_zero _
theorem E_X12_222 {n : Nat} {rc22 : Nat → Int32 → Int32 → Int32 → Int32 → jH → Option (Int32 × jH)} {a0 : Nat} {x2 x3 x4 x5 x6 x7 x8 s0 : Int32} {h : jH} {q : Int32 × jH} {L : Nat} (M : mS (oc h) a0) (h3 : x3 = nI (L + 1)) (hl : L < 1000) (hf : F_X12_holdsLine_222 n rc22 a0 x2 x3 x4 x5 x6 x7 x8 s0 h = some q) : ∃ h2, oc h2 = u2 (oc h) (a0 + 8) L (.int (if x6 = 12 then x7 + x8 else if s0 = 0 then 0 else 1)) ∧ h2.1 = h.1 ∧ rc22 a0 x2 x3 x4 (x5 + (1 : Int32)) h2 = some q := by
  unfold F_X12_holdsLine_222 at hf
  obtain ⟨p225, e1, hf⟩ := jbind hf
  have r1 := oc_gR e1
  rw [M.2.2.2.2.2.2.2.1] at r1
  cases r1
  have xi : (x3 - (1 : Int32)).toNatClampNeg = L := by rw [h3, nI_pred, nI_cl (by omega)]
  rcases jite hf with ⟨c, hf⟩ | ⟨c, hf⟩
  · obtain ⟨h2, e2, hf⟩ := jbind hf
    obtain ⟨o2, z2, -⟩ := oc_as e2
    rw [jnar0, xi] at o2
    exact ⟨h2, by rw [o2, if_pos c], z2, hf⟩
  · rcases jite hf with ⟨d, hf⟩ | ⟨d, hf⟩
    · obtain ⟨h2, e2, hf⟩ := jbind hf
      obtain ⟨o2, z2, -⟩ := oc_as e2
      rw [jnar0, xi] at o2
      exact ⟨h2, by rw [o2, if_neg c, if_pos d], z2, hf⟩
    · obtain ⟨h2, e2, hf⟩ := jbind hf
      obtain ⟨o2, z2, -⟩ := oc_as e2
      rw [jnar0, xi] at o2
      exact ⟨h2, by rw [o2, if_neg c, if_neg d], z2, hf⟩
theorem oi_M {m a k : Nat} {cs fs : List Nat} {O O2 : jO} (f : frM m cs fs O O2) (h : ∀ c ∈ cs, a ≠ m + c) (h2 : a = m → k ∉ fs) : oi O2 a k = oi O a k := by
  unfold oi
  rw [f a k h h2]
theorem E_X12_isLit {W : jWd} {i : Nat} {n : Nat} {a0 : Nat} {x1 : Int32} {x2 : Int32} {h : jH} {q : Int32} (M : mS (oc h) a0) (hW : wl (oc h) a0 = W) (K : wOK W) (h1 : x1 = nI i) (hi : (i : Int) < (W 0).toInt) (hf : F_X12_isLit n a0 x1 x2 h = some q) : q = litW W i x2 := by
  unfold F_X12_isLit at hf
  obtain ⟨s1, s2, s3, s4, s5, s8, s15, s17, s19, s20, s21⟩ := id M
  have K0 := K.1
  replace hf := jbind hf
  obtain ⟨v3, e1, hf⟩ := hf
  replace e1 := (jcv_o e1).2
  have r1 := E_X12_of M (j := 0) (t := 11 + 8 * i) h1 rfl (by omega) (by omega) e1
  rw [hW] at r1
  subst r1
  replace hf := jbind hf
  obtain ⟨p13, e2, hf⟩ := hf
  have r2 := oc_gR e2
  rw [s1] at r2
  cases r2
  clear e2
  replace hf := jbind hf
  obtain ⟨v18, e3, hf⟩ := hf
  obtain ⟨r3, y3⟩ := oc_al e3
  rw [show (6 : Int32).toNatClampNeg = 6 from rfl] at r3
  subst r3
  clear e3
  replace hf := jbind hf
  obtain ⟨v20, e4, hf⟩ := hf
  have r4 := E_X12_in e4
  replace hf := jite hf
  rcases hf with ⟨c5, hf⟩ | ⟨c5, hf⟩
  · skip
    cases hf
    -- leaf 0: v20
    have w6 : oi (oc h) (a0 + 1) 6 = W 6 := by rw [← hW]
    rw [w6] at r4
    unfold litW
    by_cases z : (4 : Int32) * x2 ≤ W (11 + 8 * i) ∧ W (11 + 8 * i) ≤ (4 : Int32) * x2 + W 6
    · rw [if_pos z]; exact r4.2.mpr ⟨Int32.le_iff_toInt_le.mp z.1, Int32.le_iff_toInt_le.mp z.2⟩
    · rw [if_neg z]; exact r4.1.resolve_right (fun y => z ⟨Int32.le_iff_toInt_le.mpr (r4.2.mp y).1, Int32.le_iff_toInt_le.mpr (r4.2.mp y).2⟩)
  · skip
    cases hf
theorem E_X12_factOf {W : jWd} {i : Nat} {n : Nat} {a0 : Nat} {x1 : Int32} {x2 : Int32} {x3 : Int32} {h : jH} {q : Int32} (M : mS (oc h) a0) (hW : wl (oc h) a0 = W) (K : wOK W) (h3 : x3 = nI i) (hi : (i : Int) < (W 0).toInt) (hf : F_X12_factOf n a0 x1 x2 x3 h = some q) : q = factW W i x1 x2 := by
  unfold F_X12_factOf at hf
  obtain ⟨s1, s2, s3, s4, s5, s8, s15, s17, s19, s20, s21⟩ := id M
  have K0 := K.1
  have ww : ∀ k, oi (oc h) (a0 + 1) k = W k := fun k => by rw [← hW]
  replace hf := jite hf
  rcases hf with ⟨c1, hf⟩ | ⟨c1, hf⟩
  · skip
    cases hf
    -- leaf 0: x3
    rw [c1]
    exact h3
  · skip
    replace hf := jite hf
    rcases hf with ⟨c2, hf⟩ | ⟨c2, hf⟩
    · skip
      replace hf := jbind hf
      obtain ⟨v65, e3, hf⟩ := hf
      replace e3 := (jcv_o e3).2
      have r3 := E_X12_of M (j := 0) (t := 11 + 8 * i) h3 rfl (by omega) (by omega) e3
      rw [hW] at r3
      subst r3
      cases hf
      -- leaf 10: v65
      rw [c2]
      rfl
    · skip
      replace hf := jite hf
      rcases hf with ⟨c4, hf⟩ | ⟨c4, hf⟩
      · skip
        replace hf := jbind hf
        obtain ⟨v71, e5, hf⟩ := hf
        replace e5 := (jcv_o e5).2
        have r5 := E_X12_gapOf M (by rw [hW]; exact K) h3 (by rw [hW]; exact hi) e5
        rw [hW] at r5
        cases hf
        -- leaf 110: v71
        rw [c4]
        exact r5
      · skip
        replace hf := jite hf
        rcases hf with ⟨c6, hf⟩ | ⟨c6, hf⟩
        · skip
          replace hf := jbind hf
          obtain ⟨v78, e7, hf⟩ := hf
          replace e7 := (jcv_o e7).2
          have r7 := E_X12_of M (j := 4) (t := 15 + 8 * i) h3 rfl (by omega) (by omega) e7
          rw [hW] at r7
          subst r7
          cases hf
          -- leaf 1110: v78
          rw [c6]
          rfl
        · skip
          replace hf := jite hf
          rcases hf with ⟨c8, hf⟩ | ⟨c8, hf⟩
          · skip
            replace hf := jbind hf
            obtain ⟨v85, e9, hf⟩ := hf
            replace e9 := (jcv_o e9).2
            have r9 := E_X12_of M (j := 5) (t := 16 + 8 * i) h3 rfl (by omega) (by omega) e9
            rw [hW] at r9
            subst r9
            cases hf
            -- leaf 11110: v85
            rw [c8]
            rfl
          · skip
            replace hf := jite hf
            rcases hf with ⟨c10, hf⟩ | ⟨c10, hf⟩
            · skip
              replace hf := jbind hf
              obtain ⟨p90, e11, hf⟩ := hf
              have r11 := oc_gR e11
              rw [s1] at r11
              cases r11
              clear e11
              replace hf := jbind hf
              obtain ⟨v94, e12, hf⟩ := hf
              obtain ⟨r12, y12⟩ := oc_al e12
              rw [show (3 : Int32).toNatClampNeg = 3 from rfl] at r12
              subst r12
              clear e12
              cases hf
              -- leaf 111110: v94
              rw [c10]
              exact ww 3
            · skip
              replace hf := jite hf
              rcases hf with ⟨c13, hf⟩ | ⟨c13, hf⟩
              · skip
                replace hf := jbind hf
                obtain ⟨p97, e14, hf⟩ := hf
                have r14 := oc_gR e14
                rw [s1] at r14
                cases r14
                clear e14
                replace hf := jbind hf
                obtain ⟨v101, e15, hf⟩ := hf
                obtain ⟨r15, y15⟩ := oc_al e15
                rw [show (4 : Int32).toNatClampNeg = 4 from rfl] at r15
                subst r15
                clear e15
                cases hf
                -- leaf 1111110: v101
                rw [c13]
                exact ww 4
              · skip
                replace hf := jite hf
                rcases hf with ⟨c16, hf⟩ | ⟨c16, hf⟩
                · skip
                  replace hf := jbind hf
                  obtain ⟨v106, e17, hf⟩ := hf
                  replace e17 := (jcv_o e17).2
                  have r17 := E_X12_of M (j := 3) (t := 14 + 8 * i) h3 rfl (by omega) (by omega) e17
                  rw [hW] at r17
                  subst r17
                  cases hf
                  -- leaf 11111110: v106
                  rw [c16]
                  rfl
                · skip
                  replace hf := jite hf
                  rcases hf with ⟨c18, hf⟩ | ⟨c18, hf⟩
                  · skip
                    replace hf := jbind hf
                    obtain ⟨v113, e19, hf⟩ := hf
                    replace e19 := (jcv_o e19).2
                    have r19 := E_X12_of M (j := 2) (t := 13 + 8 * i) h3 rfl (by omega) (by omega) e19
                    rw [hW] at r19
                    subst r19
                    cases hf
                    -- leaf 111111110: v113
                    rw [c18]
                    rfl
                  · skip
                    replace hf := jite hf
                    rcases hf with ⟨c20, hf⟩ | ⟨c20, hf⟩
                    · skip
                      replace hf := jbind hf
                      obtain ⟨p120, e21, hf⟩ := hf
                      have r21 := oc_gR e21
                      rw [s1] at r21
                      cases r21
                      clear e21
                      replace hf := jbind hf
                      obtain ⟨v124, e22, hf⟩ := hf
                      obtain ⟨r22, y22⟩ := oc_al e22
                      rw [show (3 : Int32).toNatClampNeg = 3 from rfl] at r22
                      subst r22
                      clear e22
                      replace hf := jbind hf
                      obtain ⟨v125, e23, hf⟩ := hf
                      replace e23 := (jcv_o e23).2
                      have r23 := E_X12_isLit M hW K h3 hi e23
                      replace hf := jite hf
                      rcases hf with ⟨c24, hf⟩ | ⟨c24, hf⟩
                      · skip
                        cases hf
                        -- leaf 11111111100: (0 : Int32)
                        rw [c20]
                        rw [ww 3] at r23
                        exact (r23.symm.trans c24).symm
                      · skip
                        cases hf
                        -- leaf 11111111101: (1 : Int32)
                        rw [c20]
                        rw [ww 3] at r23
                        have l9 := litW_01 (W := W) (i := i) (h := W 3)
                        show 1 = litW W i (W 3)
                        rw [← r23] at l9 ⊢
                        exact (l9.resolve_left c24).symm
                    · skip
                      replace hf := jite hf
                      rcases hf with ⟨c25, hf⟩ | ⟨c25, hf⟩
                      · skip
                        replace hf := jbind hf
                        obtain ⟨v141, e26, hf⟩ := hf
                        replace e26 := (jcv_o e26).2
                        have r26 := E_X12_of M (j := 6) (t := 17 + 8 * i) h3 rfl (by omega) (by omega) e26
                        rw [hW] at r26
                        subst r26
                        cases hf
                        -- leaf 11111111110: v141
                        rw [c25]
                        rfl
                      · skip
                        cases hf
                        -- leaf 11111111111: x2
                        unfold factW
                        rw [if_neg c1, if_neg c2, if_neg c4, if_neg c6, if_neg c8, if_neg c10, if_neg c13, if_neg c16, if_neg c18, if_neg c20, if_neg c25]
theorem E_X12_holdsLine_22 {n : Nat} {W : jWd} {i : Nat} {a : Nat} {len : Nat} {ln : Nat} (K : wOK W) (hi : (i : Int) < (W 0).toInt) (hl : (W (439 + 4 * ln)).toInt = ((a + len : Nat) : Int)) (h4 : a + len ≤ 400 ∧ ln < 12) (hT : ∃ ty, tyR W a len = some ty ∧ (ty = [] ∨ ty = [true])) : ∀ (k : Nat) {a0 : Nat} {x2 : Int32} {x3 : Int32} {x4 : Int32} {x5 : Int32} {h : jH} {q : Int32 × jH} (t : Nat) (M : mS (oc h) a0) (hW : wl (oc h) a0 = W) (T : vstk (oc h) a0 (runC W i a t)) (hx2 : x2 = nI i) (hx3 : x3 = nI (runC W i a t).length) (hx4 : x4 = nI (436 + 4 * ln)) (hx5 : x5 = nI (a + t)) (ht : t ≤ len), F_X12_holdsLine_22 n k a0 x2 x3 x4 x5 h = some q → (q.1 = 0 ∨ q.1 = 1) ∧ (q.1 = 1 ↔ (runC W i a len).headD 1 = 1) ∧ frM a0 [8] [] (oc h) (oc q.2) ∧ q.2.1 = h.1
  | 0, a0, x2, x3, x4, x5, h, q, t, M, hW, T, hx2, hx3, hx4, hx5, ht, hf => by cases hf
  | k + 1, a0, x2, x3, x4, x5, h, q, t, M, hW, T, hx2, hx3, hx4, hx5, ht, hf => by
    replace hf : F_X12_holdsLine_22_b n (F_X12_holdsLine_22 n k) a0 x2 x3 x4 x5 h = some q := hf
    unfold F_X12_holdsLine_22_b at hf
    have K0 := K.1
    obtain ⟨s1, s2, s3, s4, s5, s8, s15, s17, s19, s20, s21⟩ := id M
    have ww : ∀ k, oi (oc h) (a0 + 1) k = W k := fun k => by rw [← hW]
    obtain ⟨ty9, ty1, ty2⟩ := hT
    obtain ⟨tk, tk1⟩ := tyR_pre (len - t) t (show tyR W a (t + (len - t)) = some ty9 by rw [show t + (len - t) = len by omega]; exact ty1)
    have tv := tyR_ok K hi t tk1
    have tl := tyV_len tv
    have t23 := tyR_len t tk1
    have i3 : x4 + (3 : Int32) = nI (439 + 4 * ln) := by rw [hx4]; show nI (436 + 4 * ln) + nI 3 = _; rw [nI_add]; congr 1; omega
    replace hf := jbind hf
    obtain ⟨p25, e1, hf⟩ := hf
    have r1 := oc_gR e1
    rw [s1] at r1
    cases r1
    clear e1
    replace hf := jbind hf
    obtain ⟨v32, e2, hf⟩ := hf
    obtain ⟨r2, y2⟩ := oc_al e2
    subst r2
    clear e2
    replace hf := jite hf
    rcases hf with ⟨c3, hf⟩ | ⟨c3, hf⟩
    · skip
      replace hf := jite hf
      rcases hf with ⟨c4, hf⟩ | ⟨c4, hf⟩
      · skip
        cases hf
        -- leaf 00: ((1 : Int32), h)
        rw [i3, nI_cl (by omega), ww, hx5, Int32.le_iff_toInt_le, nI_toInt (by omega), hl] at c3
        have et : t = len := by omega
        subst et
        have ek : tk = ty9 := Option.some.inj (tk1.symm.trans ty1)
        subst ek
        rw [hx3] at c4
        have e0 : (runC W i a t).length = 0 := by rw [show (0 : Int32) = nI 0 from rfl, nI_eq (by omega) (by omega)] at c4; exact c4
        rw [List.eq_nil_of_length_eq_zero e0]
        exact ⟨Or.inr rfl, ⟨fun _ => rfl, fun _ => rfl⟩, frM_rfl, rfl⟩
      · skip
        replace hf := jbind hf
        obtain ⟨p268, e5, hf⟩ := hf
        have r5 := oc_gR e5
        rw [s17] at r5
        cases r5
        clear e5
        replace hf := jbind hf
        obtain ⟨v272, e6, hf⟩ := hf
        obtain ⟨r6, y6⟩ := oc_al e6
        rw [show (0 : Int32).toNatClampNeg = 0 from rfl] at r6
        subst r6
        clear e6
        replace hf := jite hf
        rcases hf with ⟨c7, hf⟩ | ⟨c7, hf⟩
        · skip
          cases hf
          -- leaf 010: ((1 : Int32), h)
          rw [i3, nI_cl (by omega), ww, hx5, Int32.le_iff_toInt_le, nI_toInt (by omega), hl] at c3
          have et : t = len := by omega
          subst et
          have ek : tk = ty9 := Option.some.inj (tk1.symm.trans ty1)
          subst ek
          rcases ty2 with rfl | rfl
          · exfalso
            have e0 : (runC W i a t).length = 0 := tl.symm
            rw [hx3, e0] at c4
            exact c4 rfl
          obtain ⟨v, u, ev, v01, tu⟩ := tyV_1 tv
          have eu : u = [] := List.eq_nil_of_length_eq_zero (tyV_len tu).symm
          subst eu
          rw [ev] at T ⊢
          have tp := vstk_t T
          have tp : oi (oc h) (a0 + 8) 0 = v := tp
          rw [tp] at c7
          exact ⟨Or.inr rfl, ⟨fun _ => c7, fun _ => rfl⟩, frM_rfl, rfl⟩
        · skip
          cases hf
          -- leaf 011: ((0 : Int32), h)
          rw [i3, nI_cl (by omega), ww, hx5, Int32.le_iff_toInt_le, nI_toInt (by omega), hl] at c3
          have et : t = len := by omega
          subst et
          have ek : tk = ty9 := Option.some.inj (tk1.symm.trans ty1)
          subst ek
          rcases ty2 with rfl | rfl
          · exfalso
            have e0 : (runC W i a t).length = 0 := tl.symm
            rw [hx3, e0] at c4
            exact c4 rfl
          obtain ⟨v, u, ev, v01, tu⟩ := tyV_1 tv
          have eu : u = [] := List.eq_nil_of_length_eq_zero (tyV_len tu).symm
          subst eu
          rw [ev] at T ⊢
          have tp := vstk_t T
          have tp : oi (oc h) (a0 + 8) 0 = v := tp
          rw [tp] at c7
          exact ⟨Or.inl rfl, ⟨fun z => absurd (show (0 : Int32) = 1 from z) (by decide), fun z => absurd (show v = 1 from z) c7⟩, frM_rfl, rfl⟩
    · skip
      replace hf := jbind hf
      obtain ⟨p37, e8, hf⟩ := hf
      have r8 := oc_gR e8
      rw [s1] at r8
      cases r8
      clear e8
      replace hf := jbind hf
      obtain ⟨v48, e9, hf⟩ := hf
      obtain ⟨r9, y9⟩ := oc_al e9
      subst r9
      clear e9
      replace hf := jite hf
      rcases hf with ⟨c10, hf⟩ | ⟨c10, hf⟩
      · skip
        replace hf := jite hf
        rcases hf with ⟨c11, hf⟩ | ⟨c11, hf⟩
        · skip
          replace hf := jbind hf
          obtain ⟨p100, e12, hf⟩ := hf
          have r12 := oc_gR e12
          rw [s17] at r12
          cases r12
          clear e12
          replace hf := jbind hf
          obtain ⟨p108, e13, hf⟩ := hf
          have r13 := oc_gR e13
          rw [s17] at r13
          cases r13
          clear e13
          replace hf := jbind hf
          obtain ⟨v114, e14, hf⟩ := hf
          obtain ⟨r14, y14⟩ := oc_al e14
          subst r14
          clear e14
          replace hf := jbind hf
          obtain ⟨h116, e15, hf⟩ := hf
          obtain ⟨o15, z15, y15⟩ := oc_as e15
          rw [jnar0] at o15
          clear e15
          -- leaf 100: rc22 a0 x2 x3 x4 (x5 + (1 : Int32)) h116
          rw [i3, nI_cl (by omega), ww, hx5, Int32.le_iff_toInt_le, nI_toInt (by omega), hl] at c3
          have tl9 : t < len := by omega
          obtain ⟨tk2, tk3⟩ := tyR_nx ty1 tl9 tk1
          have s9 : oi (oc h) (a0 + 1) ((484 : Int32) + ((2 : Int32) * x5)).toNatClampNeg = W (484 + 2 * (a + t)) := by rw [hx5, nI_c484, nI_cl (by omega)]; exact ww _
          rw [s9] at c10 c11
          have n11 : ¬ (W (484 + 2 * (a + t))).toInt ≤ 11 := by rw [Int32.lt_iff_toInt_lt, show (11 : Int32).toInt = 11 from rfl] at c10; omega
          rw [c11] at tk3
          obtain ⟨r9, er⟩ := tyC_not tk3
          subst er
          obtain ⟨v, u, ev, v01, tu⟩ := tyV_1 tv
          rw [ev] at T hx3
          have hx3 : x3 = nI (u.length + 1) := hx3
          have ul := tyV_len tu
          have ul2 : r9.length + 1 ≤ 23 := t23
          rw [hx3, nI_pred, nI_cl (by omega), vstk_t T] at o15
          have fz : frM a0 [8] [] (oc h) (oc h116) := by rw [o15]; exact frM_c (by decide)
          have Wz : wl (oc h116) a0 = W := by rw [o15, wl_n (by omega)]; exact hW
          have er9 : runC W i a (t + 1) = (1 - v) :: u := by
            show stpC W i (W (484 + 2 * (a + t))) (W (485 + 2 * (a + t))) (runC W i a t) = _
            rw [ev]
            unfold stpC
            rw [if_neg n11, if_pos c11]
          have Tz : vstk (oc h116) a0 (runC W i a (t + 1)) := by rw [er9, o15]; exact vstk_p (vstk_o T)
          have Lz : x3 = nI (runC W i a (t + 1)).length := by rw [er9]; exact hx3
          have zz := z15
          obtain ⟨b1, b2, b3, b4⟩ := E_X12_holdsLine_22 K hi hl h4 ⟨ty9, ty1, ty2⟩ k (t + 1) (mS_fr M fz (by decide) (by decide)) Wz Tz hx2 Lz hx4 (by rw [hx5, nI_1]; rfl) (by omega) hf
          exact ⟨b1, b2, frM_tr fz b3, b4.trans zz⟩
        · skip
          replace hf := jbind hf
          obtain ⟨p124, e16, hf⟩ := hf
          have r16 := oc_gR e16
          rw [s17] at r16
          cases r16
          clear e16
          replace hf := jbind hf
          obtain ⟨v130, e17, hf⟩ := hf
          obtain ⟨r17, y17⟩ := oc_al e17
          subst r17
          clear e17
          replace hf := jbind hf
          obtain ⟨p134, e18, hf⟩ := hf
          have r18 := oc_gR e18
          rw [s17] at r18
          cases r18
          clear e18
          replace hf := jbind hf
          obtain ⟨v138, e19, hf⟩ := hf
          obtain ⟨r19, y19⟩ := oc_al e19
          subst r19
          clear e19
          replace hf := jite hf
          rcases hf with ⟨c20, hf⟩ | ⟨c20, hf⟩
          · skip
            replace hf := jite hf
            rcases hf with ⟨c21, hf⟩ | ⟨c21, hf⟩
            · skip
              -- leaf 10100: F_X12_holdsLine_222 n rc22 a0 x2 (x3 + (- 1 : Int32)) x4 x5 v48 v130 v138 (0 : Int32) h
              rw [i3, nI_cl (by omega), ww, hx5, Int32.le_iff_toInt_le, nI_toInt (by omega), hl] at c3
              have tl9 : t < len := by omega
              obtain ⟨tk2, tk3⟩ := tyR_nx ty1 tl9 tk1
              have s9 : oi (oc h) (a0 + 1) ((484 : Int32) + ((2 : Int32) * x5)).toNatClampNeg = W (484 + 2 * (a + t)) := by rw [hx5, nI_c484, nI_cl (by omega)]; exact ww _
              rw [s9] at c10 c11 c20 hf
              have n11 : ¬ (W (484 + 2 * (a + t))).toInt ≤ 11 := by rw [Int32.lt_iff_toInt_lt, show (11 : Int32).toInt = 11 from rfl] at c10; omega
              obtain ⟨x9, y9, r9, er, xy⟩ := tyC_bin (by omega) c11 tk3
              subst er
              obtain ⟨vb, u0, ev0, b01, tu0⟩ := tyV_1 tv
              obtain ⟨va, u, ev, a01, tu⟩ := tyV_1 tu0
              subst ev
              rw [ev0] at T hx3
              have hx3 : x3 = nI (u.length + 1 + 1) := hx3
              have ul := tyV_len tu
              have ul2 : r9.length + 1 + 1 ≤ 23 := t23
              have x1e : x3 + (-1 : Int32) = nI (u.length + 1) := by rw [hx3]; exact nI_m1
              have x2e : x3 + (-1 : Int32) - (1 : Int32) = nI u.length := by rw [x1e]; exact nI_pred _
              have ea : oi (oc h) (a0 + 8) (x3 + (-1 : Int32) - (1 : Int32)).toNatClampNeg = va := by rw [x2e, nI_cl (by omega)]; exact vstk_t (vstk_o T)
              have eb : oi (oc h) (a0 + 8) (x3 + (-1 : Int32)).toNatClampNeg = vb := by rw [x1e, nI_cl (by omega)]; exact vstk_t T
              rw [ea, eb] at hf
              rw [ea, eb] at c21
              have ov : (if W (484 + 2 * (a + t)) = 12 then va + vb else if (0 : Int32) = 0 then 0 else 1) = opW (W (484 + 2 * (a + t))) va vb := by
                rw [c20]
                show (0 : Int32) = if decide (va < vb) = true then 1 else 0
                rw [if_neg (by rw [decide_eq_true_iff, Int32.lt_iff_toInt_lt]; rw [Int32.le_iff_toInt_le] at c21; omega)]
              obtain ⟨h9, o9, z9, hf⟩ := E_X12_222 M x1e (by omega) hf
              rw [ov] at o9
              have fz : frM a0 [8] [] (oc h) (oc h9) := by rw [o9]; exact frM_c (by decide)
              have Wz : wl (oc h9) a0 = W := by rw [o9, wl_n (by omega)]; exact hW
              have er9 : runC W i a (t + 1) = opW (W (484 + 2 * (a + t))) va vb :: u := by
                show stpC W i (W (484 + 2 * (a + t))) (W (485 + 2 * (a + t))) (runC W i a t) = _
                rw [ev0]
                unfold stpC
                rw [if_neg n11, if_neg c11]
              have Tz : vstk (oc h9) a0 (runC W i a (t + 1)) := by rw [er9, o9]; exact vstk_p (vstk_o (vstk_o T))
              have Lz : x3 + (-1 : Int32) = nI (runC W i a (t + 1)).length := by rw [er9]; exact x1e
              have zz := z9
              obtain ⟨b1, b2, b3, b4⟩ := E_X12_holdsLine_22 K hi hl h4 ⟨ty9, ty1, ty2⟩ k (t + 1) (mS_fr M fz (by decide) (by decide)) Wz Tz hx2 Lz hx4 (by rw [hx5, nI_1]; rfl) (by omega) hf
              exact ⟨b1, b2, frM_tr fz b3, b4.trans zz⟩
            · skip
              -- leaf 10101: F_X12_holdsLine_222 n rc22 a0 x2 (x3 + (- 1 : Int32)) x4 x5 v48 v130 v138 (1 : Int32) h
              rw [i3, nI_cl (by omega), ww, hx5, Int32.le_iff_toInt_le, nI_toInt (by omega), hl] at c3
              have tl9 : t < len := by omega
              obtain ⟨tk2, tk3⟩ := tyR_nx ty1 tl9 tk1
              have s9 : oi (oc h) (a0 + 1) ((484 : Int32) + ((2 : Int32) * x5)).toNatClampNeg = W (484 + 2 * (a + t)) := by rw [hx5, nI_c484, nI_cl (by omega)]; exact ww _
              rw [s9] at c10 c11 c20 hf
              have n11 : ¬ (W (484 + 2 * (a + t))).toInt ≤ 11 := by rw [Int32.lt_iff_toInt_lt, show (11 : Int32).toInt = 11 from rfl] at c10; omega
              obtain ⟨x9, y9, r9, er, xy⟩ := tyC_bin (by omega) c11 tk3
              subst er
              obtain ⟨vb, u0, ev0, b01, tu0⟩ := tyV_1 tv
              obtain ⟨va, u, ev, a01, tu⟩ := tyV_1 tu0
              subst ev
              rw [ev0] at T hx3
              have hx3 : x3 = nI (u.length + 1 + 1) := hx3
              have ul := tyV_len tu
              have ul2 : r9.length + 1 + 1 ≤ 23 := t23
              have x1e : x3 + (-1 : Int32) = nI (u.length + 1) := by rw [hx3]; exact nI_m1
              have x2e : x3 + (-1 : Int32) - (1 : Int32) = nI u.length := by rw [x1e]; exact nI_pred _
              have ea : oi (oc h) (a0 + 8) (x3 + (-1 : Int32) - (1 : Int32)).toNatClampNeg = va := by rw [x2e, nI_cl (by omega)]; exact vstk_t (vstk_o T)
              have eb : oi (oc h) (a0 + 8) (x3 + (-1 : Int32)).toNatClampNeg = vb := by rw [x1e, nI_cl (by omega)]; exact vstk_t T
              rw [ea, eb] at hf
              rw [ea, eb] at c21
              have ov : (if W (484 + 2 * (a + t)) = 12 then va + vb else if (1 : Int32) = 0 then 0 else 1) = opW (W (484 + 2 * (a + t))) va vb := by
                rw [c20]
                show (1 : Int32) = if decide (va < vb) = true then 1 else 0
                rw [if_pos (by rw [decide_eq_true_iff, Int32.lt_iff_toInt_lt]; rw [Int32.le_iff_toInt_le] at c21; omega)]
              obtain ⟨h9, o9, z9, hf⟩ := E_X12_222 M x1e (by omega) hf
              rw [ov] at o9
              have fz : frM a0 [8] [] (oc h) (oc h9) := by rw [o9]; exact frM_c (by decide)
              have Wz : wl (oc h9) a0 = W := by rw [o9, wl_n (by omega)]; exact hW
              have er9 : runC W i a (t + 1) = opW (W (484 + 2 * (a + t))) va vb :: u := by
                show stpC W i (W (484 + 2 * (a + t))) (W (485 + 2 * (a + t))) (runC W i a t) = _
                rw [ev0]
                unfold stpC
                rw [if_neg n11, if_neg c11]
              have Tz : vstk (oc h9) a0 (runC W i a (t + 1)) := by rw [er9, o9]; exact vstk_p (vstk_o (vstk_o T))
              have Lz : x3 + (-1 : Int32) = nI (runC W i a (t + 1)).length := by rw [er9]; exact x1e
              have zz := z9
              obtain ⟨b1, b2, b3, b4⟩ := E_X12_holdsLine_22 K hi hl h4 ⟨ty9, ty1, ty2⟩ k (t + 1) (mS_fr M fz (by decide) (by decide)) Wz Tz hx2 Lz hx4 (by rw [hx5, nI_1]; rfl) (by omega) hf
              exact ⟨b1, b2, frM_tr fz b3, b4.trans zz⟩
          · skip
            replace hf := jite hf
            rcases hf with ⟨c22, hf⟩ | ⟨c22, hf⟩
            · skip
              replace hf := jite hf
              rcases hf with ⟨c23, hf⟩ | ⟨c23, hf⟩
              · skip
                -- leaf 101100: F_X12_holdsLine_222 n rc22 a0 x2 (x3 + (- 1 : Int32)) x4 x5 v48 v130 v138 (0 : Int32) h
                rw [i3, nI_cl (by omega), ww, hx5, Int32.le_iff_toInt_le, nI_toInt (by omega), hl] at c3
                have tl9 : t < len := by omega
                obtain ⟨tk2, tk3⟩ := tyR_nx ty1 tl9 tk1
                have s9 : oi (oc h) (a0 + 1) ((484 : Int32) + ((2 : Int32) * x5)).toNatClampNeg = W (484 + 2 * (a + t)) := by rw [hx5, nI_c484, nI_cl (by omega)]; exact ww _
                rw [s9] at c10 c11 c20 c22 hf
                have n11 : ¬ (W (484 + 2 * (a + t))).toInt ≤ 11 := by rw [Int32.lt_iff_toInt_lt, show (11 : Int32).toInt = 11 from rfl] at c10; omega
                obtain ⟨x9, y9, r9, er, xy⟩ := tyC_bin (by omega) c11 tk3
                subst er
                obtain ⟨vb, u0, ev0, b01, tu0⟩ := tyV_1 tv
                obtain ⟨va, u, ev, a01, tu⟩ := tyV_1 tu0
                subst ev
                rw [ev0] at T hx3
                have hx3 : x3 = nI (u.length + 1 + 1) := hx3
                have ul := tyV_len tu
                have ul2 : r9.length + 1 + 1 ≤ 23 := t23
                have x1e : x3 + (-1 : Int32) = nI (u.length + 1) := by rw [hx3]; exact nI_m1
                have x2e : x3 + (-1 : Int32) - (1 : Int32) = nI u.length := by rw [x1e]; exact nI_pred _
                have ea : oi (oc h) (a0 + 8) (x3 + (-1 : Int32) - (1 : Int32)).toNatClampNeg = va := by rw [x2e, nI_cl (by omega)]; exact vstk_t (vstk_o T)
                have eb : oi (oc h) (a0 + 8) (x3 + (-1 : Int32)).toNatClampNeg = vb := by rw [x1e, nI_cl (by omega)]; exact vstk_t T
                rw [ea, eb] at hf
                rw [ea, eb] at c23
                have ov : (if W (484 + 2 * (a + t)) = 12 then va + vb else if (0 : Int32) = 0 then 0 else 1) = opW (W (484 + 2 * (a + t))) va vb := by
                  rw [c22]
                  show (0 : Int32) = if decide (vb < va) = true then 1 else 0
                  rw [if_neg (by rw [decide_eq_true_iff, Int32.lt_iff_toInt_lt]; rw [Int32.le_iff_toInt_le] at c23; omega)]
                obtain ⟨h9, o9, z9, hf⟩ := E_X12_222 M x1e (by omega) hf
                rw [ov] at o9
                have fz : frM a0 [8] [] (oc h) (oc h9) := by rw [o9]; exact frM_c (by decide)
                have Wz : wl (oc h9) a0 = W := by rw [o9, wl_n (by omega)]; exact hW
                have er9 : runC W i a (t + 1) = opW (W (484 + 2 * (a + t))) va vb :: u := by
                  show stpC W i (W (484 + 2 * (a + t))) (W (485 + 2 * (a + t))) (runC W i a t) = _
                  rw [ev0]
                  unfold stpC
                  rw [if_neg n11, if_neg c11]
                have Tz : vstk (oc h9) a0 (runC W i a (t + 1)) := by rw [er9, o9]; exact vstk_p (vstk_o (vstk_o T))
                have Lz : x3 + (-1 : Int32) = nI (runC W i a (t + 1)).length := by rw [er9]; exact x1e
                have zz := z9
                obtain ⟨b1, b2, b3, b4⟩ := E_X12_holdsLine_22 K hi hl h4 ⟨ty9, ty1, ty2⟩ k (t + 1) (mS_fr M fz (by decide) (by decide)) Wz Tz hx2 Lz hx4 (by rw [hx5, nI_1]; rfl) (by omega) hf
                exact ⟨b1, b2, frM_tr fz b3, b4.trans zz⟩
              · skip
                -- leaf 101101: F_X12_holdsLine_222 n rc22 a0 x2 (x3 + (- 1 : Int32)) x4 x5 v48 v130 v138 (1 : Int32) h
                rw [i3, nI_cl (by omega), ww, hx5, Int32.le_iff_toInt_le, nI_toInt (by omega), hl] at c3
                have tl9 : t < len := by omega
                obtain ⟨tk2, tk3⟩ := tyR_nx ty1 tl9 tk1
                have s9 : oi (oc h) (a0 + 1) ((484 : Int32) + ((2 : Int32) * x5)).toNatClampNeg = W (484 + 2 * (a + t)) := by rw [hx5, nI_c484, nI_cl (by omega)]; exact ww _
                rw [s9] at c10 c11 c20 c22 hf
                have n11 : ¬ (W (484 + 2 * (a + t))).toInt ≤ 11 := by rw [Int32.lt_iff_toInt_lt, show (11 : Int32).toInt = 11 from rfl] at c10; omega
                obtain ⟨x9, y9, r9, er, xy⟩ := tyC_bin (by omega) c11 tk3
                subst er
                obtain ⟨vb, u0, ev0, b01, tu0⟩ := tyV_1 tv
                obtain ⟨va, u, ev, a01, tu⟩ := tyV_1 tu0
                subst ev
                rw [ev0] at T hx3
                have hx3 : x3 = nI (u.length + 1 + 1) := hx3
                have ul := tyV_len tu
                have ul2 : r9.length + 1 + 1 ≤ 23 := t23
                have x1e : x3 + (-1 : Int32) = nI (u.length + 1) := by rw [hx3]; exact nI_m1
                have x2e : x3 + (-1 : Int32) - (1 : Int32) = nI u.length := by rw [x1e]; exact nI_pred _
                have ea : oi (oc h) (a0 + 8) (x3 + (-1 : Int32) - (1 : Int32)).toNatClampNeg = va := by rw [x2e, nI_cl (by omega)]; exact vstk_t (vstk_o T)
                have eb : oi (oc h) (a0 + 8) (x3 + (-1 : Int32)).toNatClampNeg = vb := by rw [x1e, nI_cl (by omega)]; exact vstk_t T
                rw [ea, eb] at hf
                rw [ea, eb] at c23
                have ov : (if W (484 + 2 * (a + t)) = 12 then va + vb else if (1 : Int32) = 0 then 0 else 1) = opW (W (484 + 2 * (a + t))) va vb := by
                  rw [c22]
                  show (1 : Int32) = if decide (vb < va) = true then 1 else 0
                  rw [if_pos (by rw [decide_eq_true_iff, Int32.lt_iff_toInt_lt]; rw [Int32.le_iff_toInt_le] at c23; omega)]
                obtain ⟨h9, o9, z9, hf⟩ := E_X12_222 M x1e (by omega) hf
                rw [ov] at o9
                have fz : frM a0 [8] [] (oc h) (oc h9) := by rw [o9]; exact frM_c (by decide)
                have Wz : wl (oc h9) a0 = W := by rw [o9, wl_n (by omega)]; exact hW
                have er9 : runC W i a (t + 1) = opW (W (484 + 2 * (a + t))) va vb :: u := by
                  show stpC W i (W (484 + 2 * (a + t))) (W (485 + 2 * (a + t))) (runC W i a t) = _
                  rw [ev0]
                  unfold stpC
                  rw [if_neg n11, if_neg c11]
                have Tz : vstk (oc h9) a0 (runC W i a (t + 1)) := by rw [er9, o9]; exact vstk_p (vstk_o (vstk_o T))
                have Lz : x3 + (-1 : Int32) = nI (runC W i a (t + 1)).length := by rw [er9]; exact x1e
                have zz := z9
                obtain ⟨b1, b2, b3, b4⟩ := E_X12_holdsLine_22 K hi hl h4 ⟨ty9, ty1, ty2⟩ k (t + 1) (mS_fr M fz (by decide) (by decide)) Wz Tz hx2 Lz hx4 (by rw [hx5, nI_1]; rfl) (by omega) hf
                exact ⟨b1, b2, frM_tr fz b3, b4.trans zz⟩
            · skip
              replace hf := jite hf
              rcases hf with ⟨c24, hf⟩ | ⟨c24, hf⟩
              · skip
                replace hf := jite hf
                rcases hf with ⟨c25, hf⟩ | ⟨c25, hf⟩
                · skip
                  -- leaf 1011100: F_X12_holdsLine_222 n rc22 a0 x2 (x3 + (- 1 : Int32)) x4 x5 v48 v130 v138 (1 : Int32) h
                  rw [i3, nI_cl (by omega), ww, hx5, Int32.le_iff_toInt_le, nI_toInt (by omega), hl] at c3
                  have tl9 : t < len := by omega
                  obtain ⟨tk2, tk3⟩ := tyR_nx ty1 tl9 tk1
                  have s9 : oi (oc h) (a0 + 1) ((484 : Int32) + ((2 : Int32) * x5)).toNatClampNeg = W (484 + 2 * (a + t)) := by rw [hx5, nI_c484, nI_cl (by omega)]; exact ww _
                  rw [s9] at c10 c11 c20 c22 c24 hf
                  have n11 : ¬ (W (484 + 2 * (a + t))).toInt ≤ 11 := by rw [Int32.lt_iff_toInt_lt, show (11 : Int32).toInt = 11 from rfl] at c10; omega
                  obtain ⟨x9, y9, r9, er, xy⟩ := tyC_bin (by omega) c11 tk3
                  subst er
                  obtain ⟨vb, u0, ev0, b01, tu0⟩ := tyV_1 tv
                  obtain ⟨va, u, ev, a01, tu⟩ := tyV_1 tu0
                  subst ev
                  rw [ev0] at T hx3
                  have hx3 : x3 = nI (u.length + 1 + 1) := hx3
                  have ul := tyV_len tu
                  have ul2 : r9.length + 1 + 1 ≤ 23 := t23
                  have x1e : x3 + (-1 : Int32) = nI (u.length + 1) := by rw [hx3]; exact nI_m1
                  have x2e : x3 + (-1 : Int32) - (1 : Int32) = nI u.length := by rw [x1e]; exact nI_pred _
                  have ea : oi (oc h) (a0 + 8) (x3 + (-1 : Int32) - (1 : Int32)).toNatClampNeg = va := by rw [x2e, nI_cl (by omega)]; exact vstk_t (vstk_o T)
                  have eb : oi (oc h) (a0 + 8) (x3 + (-1 : Int32)).toNatClampNeg = vb := by rw [x1e, nI_cl (by omega)]; exact vstk_t T
                  rw [ea, eb] at hf
                  rw [ea, eb] at c25
                  have ov : (if W (484 + 2 * (a + t)) = 12 then va + vb else if (1 : Int32) = 0 then 0 else 1) = opW (W (484 + 2 * (a + t))) va vb := by
                    rw [c24]
                    show (1 : Int32) = if decide (va + vb = 2) = true then 1 else 0
                    rw [if_pos (by rw [decide_eq_true_iff]; exact c25)]
                  obtain ⟨h9, o9, z9, hf⟩ := E_X12_222 M x1e (by omega) hf
                  rw [ov] at o9
                  have fz : frM a0 [8] [] (oc h) (oc h9) := by rw [o9]; exact frM_c (by decide)
                  have Wz : wl (oc h9) a0 = W := by rw [o9, wl_n (by omega)]; exact hW
                  have er9 : runC W i a (t + 1) = opW (W (484 + 2 * (a + t))) va vb :: u := by
                    show stpC W i (W (484 + 2 * (a + t))) (W (485 + 2 * (a + t))) (runC W i a t) = _
                    rw [ev0]
                    unfold stpC
                    rw [if_neg n11, if_neg c11]
                  have Tz : vstk (oc h9) a0 (runC W i a (t + 1)) := by rw [er9, o9]; exact vstk_p (vstk_o (vstk_o T))
                  have Lz : x3 + (-1 : Int32) = nI (runC W i a (t + 1)).length := by rw [er9]; exact x1e
                  have zz := z9
                  obtain ⟨b1, b2, b3, b4⟩ := E_X12_holdsLine_22 K hi hl h4 ⟨ty9, ty1, ty2⟩ k (t + 1) (mS_fr M fz (by decide) (by decide)) Wz Tz hx2 Lz hx4 (by rw [hx5, nI_1]; rfl) (by omega) hf
                  exact ⟨b1, b2, frM_tr fz b3, b4.trans zz⟩
                · skip
                  -- leaf 1011101: F_X12_holdsLine_222 n rc22 a0 x2 (x3 + (- 1 : Int32)) x4 x5 v48 v130 v138 (0 : Int32) h
                  rw [i3, nI_cl (by omega), ww, hx5, Int32.le_iff_toInt_le, nI_toInt (by omega), hl] at c3
                  have tl9 : t < len := by omega
                  obtain ⟨tk2, tk3⟩ := tyR_nx ty1 tl9 tk1
                  have s9 : oi (oc h) (a0 + 1) ((484 : Int32) + ((2 : Int32) * x5)).toNatClampNeg = W (484 + 2 * (a + t)) := by rw [hx5, nI_c484, nI_cl (by omega)]; exact ww _
                  rw [s9] at c10 c11 c20 c22 c24 hf
                  have n11 : ¬ (W (484 + 2 * (a + t))).toInt ≤ 11 := by rw [Int32.lt_iff_toInt_lt, show (11 : Int32).toInt = 11 from rfl] at c10; omega
                  obtain ⟨x9, y9, r9, er, xy⟩ := tyC_bin (by omega) c11 tk3
                  subst er
                  obtain ⟨vb, u0, ev0, b01, tu0⟩ := tyV_1 tv
                  obtain ⟨va, u, ev, a01, tu⟩ := tyV_1 tu0
                  subst ev
                  rw [ev0] at T hx3
                  have hx3 : x3 = nI (u.length + 1 + 1) := hx3
                  have ul := tyV_len tu
                  have ul2 : r9.length + 1 + 1 ≤ 23 := t23
                  have x1e : x3 + (-1 : Int32) = nI (u.length + 1) := by rw [hx3]; exact nI_m1
                  have x2e : x3 + (-1 : Int32) - (1 : Int32) = nI u.length := by rw [x1e]; exact nI_pred _
                  have ea : oi (oc h) (a0 + 8) (x3 + (-1 : Int32) - (1 : Int32)).toNatClampNeg = va := by rw [x2e, nI_cl (by omega)]; exact vstk_t (vstk_o T)
                  have eb : oi (oc h) (a0 + 8) (x3 + (-1 : Int32)).toNatClampNeg = vb := by rw [x1e, nI_cl (by omega)]; exact vstk_t T
                  rw [ea, eb] at hf
                  rw [ea, eb] at c25
                  have ov : (if W (484 + 2 * (a + t)) = 12 then va + vb else if (0 : Int32) = 0 then 0 else 1) = opW (W (484 + 2 * (a + t))) va vb := by
                    rw [c24]
                    show (0 : Int32) = if decide (va + vb = 2) = true then 1 else 0
                    rw [if_neg (by rw [decide_eq_true_iff]; exact c25)]
                  obtain ⟨h9, o9, z9, hf⟩ := E_X12_222 M x1e (by omega) hf
                  rw [ov] at o9
                  have fz : frM a0 [8] [] (oc h) (oc h9) := by rw [o9]; exact frM_c (by decide)
                  have Wz : wl (oc h9) a0 = W := by rw [o9, wl_n (by omega)]; exact hW
                  have er9 : runC W i a (t + 1) = opW (W (484 + 2 * (a + t))) va vb :: u := by
                    show stpC W i (W (484 + 2 * (a + t))) (W (485 + 2 * (a + t))) (runC W i a t) = _
                    rw [ev0]
                    unfold stpC
                    rw [if_neg n11, if_neg c11]
                  have Tz : vstk (oc h9) a0 (runC W i a (t + 1)) := by rw [er9, o9]; exact vstk_p (vstk_o (vstk_o T))
                  have Lz : x3 + (-1 : Int32) = nI (runC W i a (t + 1)).length := by rw [er9]; exact x1e
                  have zz := z9
                  obtain ⟨b1, b2, b3, b4⟩ := E_X12_holdsLine_22 K hi hl h4 ⟨ty9, ty1, ty2⟩ k (t + 1) (mS_fr M fz (by decide) (by decide)) Wz Tz hx2 Lz hx4 (by rw [hx5, nI_1]; rfl) (by omega) hf
                  exact ⟨b1, b2, frM_tr fz b3, b4.trans zz⟩
              · skip
                replace hf := jite hf
                rcases hf with ⟨c26, hf⟩ | ⟨c26, hf⟩
                · skip
                  -- leaf 1011110: F_X12_holdsLine_222 n rc22 a0 x2 (x3 + (- 1 : Int32)) x4 x5 v48 v130 v138 (0 : Int32) h
                  rw [i3, nI_cl (by omega), ww, hx5, Int32.le_iff_toInt_le, nI_toInt (by omega), hl] at c3
                  have tl9 : t < len := by omega
                  obtain ⟨tk2, tk3⟩ := tyR_nx ty1 tl9 tk1
                  have s9 : oi (oc h) (a0 + 1) ((484 : Int32) + ((2 : Int32) * x5)).toNatClampNeg = W (484 + 2 * (a + t)) := by rw [hx5, nI_c484, nI_cl (by omega)]; exact ww _
                  rw [s9] at c10 c11 c20 c22 c24 hf
                  have n11 : ¬ (W (484 + 2 * (a + t))).toInt ≤ 11 := by rw [Int32.lt_iff_toInt_lt, show (11 : Int32).toInt = 11 from rfl] at c10; omega
                  obtain ⟨x9, y9, r9, er, xy⟩ := tyC_bin (by omega) c11 tk3
                  subst er
                  obtain ⟨vb, u0, ev0, b01, tu0⟩ := tyV_1 tv
                  obtain ⟨va, u, ev, a01, tu⟩ := tyV_1 tu0
                  subst ev
                  rw [ev0] at T hx3
                  have hx3 : x3 = nI (u.length + 1 + 1) := hx3
                  have ul := tyV_len tu
                  have ul2 : r9.length + 1 + 1 ≤ 23 := t23
                  have x1e : x3 + (-1 : Int32) = nI (u.length + 1) := by rw [hx3]; exact nI_m1
                  have x2e : x3 + (-1 : Int32) - (1 : Int32) = nI u.length := by rw [x1e]; exact nI_pred _
                  have ea : oi (oc h) (a0 + 8) (x3 + (-1 : Int32) - (1 : Int32)).toNatClampNeg = va := by rw [x2e, nI_cl (by omega)]; exact vstk_t (vstk_o T)
                  have eb : oi (oc h) (a0 + 8) (x3 + (-1 : Int32)).toNatClampNeg = vb := by rw [x1e, nI_cl (by omega)]; exact vstk_t T
                  rw [ea, eb] at hf
                  rw [ea, eb] at c26
                  have ov : (if W (484 + 2 * (a + t)) = 12 then va + vb else if (0 : Int32) = 0 then 0 else 1) = opW (W (484 + 2 * (a + t))) va vb := by
                    by_cases z : W (484 + 2 * (a + t)) = 12
                    · unfold opW
                      rw [if_pos z, if_pos z]
                    · have oe : opW (W (484 + 2 * (a + t))) va vb = if decide (0 < va + vb) = true then 1 else 0 := by unfold opW; rw [if_neg z, if_neg c20, if_neg c22, if_neg c24]
                      rw [if_neg z, oe, if_pos (rfl : (0 : Int32) = 0), if_neg (by rw [decide_eq_true_iff, Int32.lt_iff_toInt_lt]; rw [Int32.le_iff_toInt_le] at c26; have l0 : (0 : Int32).toInt = 0 := rfl; omega)]
                  obtain ⟨h9, o9, z9, hf⟩ := E_X12_222 M x1e (by omega) hf
                  rw [ov] at o9
                  have fz : frM a0 [8] [] (oc h) (oc h9) := by rw [o9]; exact frM_c (by decide)
                  have Wz : wl (oc h9) a0 = W := by rw [o9, wl_n (by omega)]; exact hW
                  have er9 : runC W i a (t + 1) = opW (W (484 + 2 * (a + t))) va vb :: u := by
                    show stpC W i (W (484 + 2 * (a + t))) (W (485 + 2 * (a + t))) (runC W i a t) = _
                    rw [ev0]
                    unfold stpC
                    rw [if_neg n11, if_neg c11]
                  have Tz : vstk (oc h9) a0 (runC W i a (t + 1)) := by rw [er9, o9]; exact vstk_p (vstk_o (vstk_o T))
                  have Lz : x3 + (-1 : Int32) = nI (runC W i a (t + 1)).length := by rw [er9]; exact x1e
                  have zz := z9
                  obtain ⟨b1, b2, b3, b4⟩ := E_X12_holdsLine_22 K hi hl h4 ⟨ty9, ty1, ty2⟩ k (t + 1) (mS_fr M fz (by decide) (by decide)) Wz Tz hx2 Lz hx4 (by rw [hx5, nI_1]; rfl) (by omega) hf
                  exact ⟨b1, b2, frM_tr fz b3, b4.trans zz⟩
                · skip
                  -- leaf 1011111: F_X12_holdsLine_222 n rc22 a0 x2 (x3 + (- 1 : Int32)) x4 x5 v48 v130 v138 (1 : Int32) h
                  rw [i3, nI_cl (by omega), ww, hx5, Int32.le_iff_toInt_le, nI_toInt (by omega), hl] at c3
                  have tl9 : t < len := by omega
                  obtain ⟨tk2, tk3⟩ := tyR_nx ty1 tl9 tk1
                  have s9 : oi (oc h) (a0 + 1) ((484 : Int32) + ((2 : Int32) * x5)).toNatClampNeg = W (484 + 2 * (a + t)) := by rw [hx5, nI_c484, nI_cl (by omega)]; exact ww _
                  rw [s9] at c10 c11 c20 c22 c24 hf
                  have n11 : ¬ (W (484 + 2 * (a + t))).toInt ≤ 11 := by rw [Int32.lt_iff_toInt_lt, show (11 : Int32).toInt = 11 from rfl] at c10; omega
                  obtain ⟨x9, y9, r9, er, xy⟩ := tyC_bin (by omega) c11 tk3
                  subst er
                  obtain ⟨vb, u0, ev0, b01, tu0⟩ := tyV_1 tv
                  obtain ⟨va, u, ev, a01, tu⟩ := tyV_1 tu0
                  subst ev
                  rw [ev0] at T hx3
                  have hx3 : x3 = nI (u.length + 1 + 1) := hx3
                  have ul := tyV_len tu
                  have ul2 : r9.length + 1 + 1 ≤ 23 := t23
                  have x1e : x3 + (-1 : Int32) = nI (u.length + 1) := by rw [hx3]; exact nI_m1
                  have x2e : x3 + (-1 : Int32) - (1 : Int32) = nI u.length := by rw [x1e]; exact nI_pred _
                  have ea : oi (oc h) (a0 + 8) (x3 + (-1 : Int32) - (1 : Int32)).toNatClampNeg = va := by rw [x2e, nI_cl (by omega)]; exact vstk_t (vstk_o T)
                  have eb : oi (oc h) (a0 + 8) (x3 + (-1 : Int32)).toNatClampNeg = vb := by rw [x1e, nI_cl (by omega)]; exact vstk_t T
                  rw [ea, eb] at hf
                  rw [ea, eb] at c26
                  have ov : (if W (484 + 2 * (a + t)) = 12 then va + vb else if (1 : Int32) = 0 then 0 else 1) = opW (W (484 + 2 * (a + t))) va vb := by
                    by_cases z : W (484 + 2 * (a + t)) = 12
                    · unfold opW
                      rw [if_pos z, if_pos z]
                    · have oe : opW (W (484 + 2 * (a + t))) va vb = if decide (0 < va + vb) = true then 1 else 0 := by unfold opW; rw [if_neg z, if_neg c20, if_neg c22, if_neg c24]
                      rw [if_neg z, oe, if_neg (show ¬ (1 : Int32) = 0 by decide), if_pos (by rw [decide_eq_true_iff, Int32.lt_iff_toInt_lt]; rw [Int32.le_iff_toInt_le] at c26; have l0 : (0 : Int32).toInt = 0 := rfl; omega)]
                  obtain ⟨h9, o9, z9, hf⟩ := E_X12_222 M x1e (by omega) hf
                  rw [ov] at o9
                  have fz : frM a0 [8] [] (oc h) (oc h9) := by rw [o9]; exact frM_c (by decide)
                  have Wz : wl (oc h9) a0 = W := by rw [o9, wl_n (by omega)]; exact hW
                  have er9 : runC W i a (t + 1) = opW (W (484 + 2 * (a + t))) va vb :: u := by
                    show stpC W i (W (484 + 2 * (a + t))) (W (485 + 2 * (a + t))) (runC W i a t) = _
                    rw [ev0]
                    unfold stpC
                    rw [if_neg n11, if_neg c11]
                  have Tz : vstk (oc h9) a0 (runC W i a (t + 1)) := by rw [er9, o9]; exact vstk_p (vstk_o (vstk_o T))
                  have Lz : x3 + (-1 : Int32) = nI (runC W i a (t + 1)).length := by rw [er9]; exact x1e
                  have zz := z9
                  obtain ⟨b1, b2, b3, b4⟩ := E_X12_holdsLine_22 K hi hl h4 ⟨ty9, ty1, ty2⟩ k (t + 1) (mS_fr M fz (by decide) (by decide)) Wz Tz hx2 Lz hx4 (by rw [hx5, nI_1]; rfl) (by omega) hf
                  exact ⟨b1, b2, frM_tr fz b3, b4.trans zz⟩
      · skip
        replace hf := jbind hf
        obtain ⟨p59, e27, hf⟩ := hf
        have r27 := oc_gR e27
        rw [s17] at r27
        cases r27
        clear e27
        replace hf := jbind hf
        obtain ⟨p67, e28, hf⟩ := hf
        have r28 := oc_gR e28
        rw [s1] at r28
        cases r28
        clear e28
        replace hf := jbind hf
        obtain ⟨v80, e29, hf⟩ := hf
        obtain ⟨r29, y29⟩ := oc_al e29
        subst r29
        clear e29
        replace hf := jbind hf
        obtain ⟨v82, e30, hf⟩ := hf
        replace e30 := (jcv_o e30).2
        replace hf := jbind hf
        obtain ⟨h85, e31, hf⟩ := hf
        obtain ⟨o31, z31, y31⟩ := oc_as e31
        rw [jnar0] at o31
        clear e31
        -- leaf 11: rc22 a0 x2 (x3 + (1 : Int32)) x4 (x5 + (1 : Int32)) h85
        rw [i3, nI_cl (by omega), ww, hx5, Int32.le_iff_toInt_le, nI_toInt (by omega), hl] at c3
        have tl9 : t < len := by omega
        obtain ⟨tk2, tk3⟩ := tyR_nx ty1 tl9 tk1
        have s9 : oi (oc h) (a0 + 1) ((484 : Int32) + ((2 : Int32) * x5)).toNatClampNeg = W (484 + 2 * (a + t)) := by rw [hx5, nI_c484, nI_cl (by omega)]; exact ww _
        rw [s9] at c10 e30
        have s11 : (W (484 + 2 * (a + t))).toInt ≤ 11 := by rw [Int32.lt_iff_toInt_lt, show (11 : Int32).toInt = 11 from rfl] at c10; omega
        have i29 : ((484 : Int32) + ((2 : Int32) * x5)) + (1 : Int32) = nI (485 + 2 * (a + t)) := by rw [hx5, nI_c484, nI_1]; congr 1; omega
        rw [i29, nI_cl (by omega), ww] at e30
        have fa := E_X12_factOf M hW K hx2 hi e30
        subst fa
        rw [hx3, nI_cl (by omega)] at o31
        have fz : frM a0 [8] [] (oc h) (oc h85) := by rw [o31]; exact frM_c (by decide)
        have Wz : wl (oc h85) a0 = W := by rw [o31, wl_n (by omega)]; exact hW
        have er9 : runC W i a (t + 1) = factW W i (W (484 + 2 * (a + t))) (W (485 + 2 * (a + t))) :: runC W i a t := if_pos s11
        have Tz : vstk (oc h85) a0 (runC W i a (t + 1)) := by rw [er9, o31]; exact vstk_p T
        have Lz : x3 + (1 : Int32) = nI (runC W i a (t + 1)).length := by rw [er9, hx3]; exact nI_1 _
        have zz := z31
        obtain ⟨b1, b2, b3, b4⟩ := E_X12_holdsLine_22 K hi hl h4 ⟨ty9, ty1, ty2⟩ k (t + 1) (mS_fr M fz (by decide) (by decide)) Wz Tz hx2 Lz hx4 (by rw [hx5, nI_1]; rfl) (by omega) hf
        exact ⟨b1, b2, frM_tr fz b3, b4.trans zz⟩
theorem E_X12_holdsLine {W : jWd} {i : Nat} {ln : Nat} {n : Nat} {a0 : Nat} {x1 : Int32} {x2 : Int32} {h : jH} {q : Int32 × jH} (M : mS (oc h) a0) (hW : wl (oc h) a0 = W) (K : wOK W) (hi : (i : Int) < (W 0).toInt) (LK : lawK W) (h2 : W 2 = 1) (hln : (ln : Int) < (W 435).toInt) (hx : x1 = nI ln) (hx2 : x2 = nI i) (hf : F_X12_holdsLine n a0 x1 x2 h = some q) : (q.1 = 0 ∨ q.1 = 1) ∧ (q.1 = 1 ↔ holdsW W i ln) ∧ frM a0 [8] [] (oc h) (oc q.2) ∧ q.2.1 = h.1 := by
  unfold F_X12_holdsLine at hf
  have K0 := K.1
  obtain ⟨s1, s2, s3, s4, s5, s8, s15, s17, s19, s20, s21⟩ := id M
  have ww : ∀ k, oi (oc h) (a0 + 1) k = W k := fun k => by rw [← hW]
  obtain ⟨n0, nn⟩ := LK.2 h2
  obtain ⟨n5, n6, n7, n11⟩ := nn ln hln
  obtain ⟨a, ha⟩ : ∃ a : Nat, (W (438 + 4 * ln)).toInt = (a : Int) := ⟨(W (438 + 4 * ln)).toInt.toNat, by omega⟩
  obtain ⟨len, hlen⟩ : ∃ len : Nat, (W (439 + 4 * ln)).toInt = ((a + len : Nat) : Int) := ⟨((W (439 + 4 * ln)).toInt - a).toNat, by omega⟩
  have el : (W (439 + 4 * ln)).toInt.toNat - (W (438 + 4 * ln)).toInt.toNat = len := by omega
  have ea : (W (438 + 4 * ln)).toInt.toNat = a := by omega
  have hT : ∃ ty, tyR W a len = some ty ∧ (ty = [] ∨ ty = [true]) := by rw [el, ea] at n11; exact n11
  replace hf := jbind hf
  obtain ⟨p12, e1, hf⟩ := hf
  have r1 := oc_gR e1
  rw [s1] at r1
  cases r1
  clear e1
  replace hf := jbind hf
  obtain ⟨v19, e2, hf⟩ := hf
  obtain ⟨r2, y2⟩ := oc_al e2
  subst r2
  clear e2
  -- leaf : F_X12_holdsLine_22 n n a0 x2 (0 : Int32) ((436 : Int32) + ((4 : Int32) * x1)) v19 h
  have i2 : ((436 : Int32) + ((4 : Int32) * x1)) + (2 : Int32) = nI (438 + 4 * ln) := by rw [hx, nI_c436]; show nI (436 + 4 * ln) + nI 2 = _; rw [nI_add]; congr 1; omega
  rw [i2, nI_cl (by omega), ww] at hf
  obtain ⟨b1, b2, b3, b4⟩ := E_X12_holdsLine_22 K hi hlen (by omega) hT n 0 M hW (fun k hk => absurd hk (Nat.not_lt_zero k)) hx2 rfl (by rw [hx, nI_c436]) (nI_k ha) (Nat.zero_le _) hf
  refine ⟨b1, b2.trans ?_, b3, b4⟩
  unfold holdsW
  rw [el, ea]
theorem E_X12_sumOf_5 {n : Nat} {W : jWd} {i : Nat} {nl : Nat} (K : wOK W) (hi : (i : Int) < (W 0).toInt) (LK : lawK W) (h2 : W 2 = 1) (hn9 : (W 435).toInt = (nl : Int)) : ∀ (k : Nat) {a0 : Nat} {x1 : Int32} {x2 : Int32} {x3 : Int32} {x4 : Int32} {h : jH} {q : Int32 × jH} (m : Nat) (M : mS (oc h) a0) (hW : wl (oc h) a0 = W) (hx2 : x2 = nI i) (hm : x4 = nI m) (ml : m ≤ nl) (hacc : x3 = sumW W x1 i m), F_X12_sumOf_5 n k a0 x1 x2 x3 x4 h = some q → q.1 = sumW W x1 i nl ∧ frM a0 [8] [] (oc h) (oc q.2) ∧ q.2.1 = h.1
  | 0, a0, x1, x2, x3, x4, h, q, m, M, hW, hx2, hm, ml, hacc, hf => by cases hf
  | k + 1, a0, x1, x2, x3, x4, h, q, m, M, hW, hx2, hm, ml, hacc, hf => by
    replace hf : F_X12_sumOf_5_b n (F_X12_sumOf_5 n k) a0 x1 x2 x3 x4 h = some q := hf
    unfold F_X12_sumOf_5_b at hf
    obtain ⟨s1, s2, s3, s4, s5, s8, s15, s17, s19, s20, s21⟩ := id M
    have ww : ∀ k, oi (oc h) (a0 + 1) k = W k := fun k => by rw [← hW]
    have n0 := (LK.2 h2).1
    have N9 : oi (oc h) (a0 + 1) 435 = W 435 := ww 435
    replace hf := jbind hf
    obtain ⟨p8, e1, hf⟩ := hf
    have r1 := oc_gR e1
    rw [s1] at r1
    cases r1
    clear e1
    replace hf := jbind hf
    obtain ⟨v14, e2, hf⟩ := hf
    obtain ⟨r2, y2⟩ := oc_al e2
    rw [show (435 : Int32).toNatClampNeg = 435 from rfl] at r2
    subst r2
    clear e2
    replace hf := jite hf
    rcases hf with ⟨c3, hf⟩ | ⟨c3, hf⟩
    · skip
      cases hf
      -- leaf 0: (x3, h)
      rw [hm, N9, Int32.le_iff_toInt_le, nI_toInt (by omega), hn9] at c3
      have : m = nl := by omega
      subst this
      exact ⟨hacc, frM_rfl, rfl⟩
    · skip
      replace hf := jbind hf
      obtain ⟨p19, e4, hf⟩ := hf
      have r4 := oc_gR e4
      rw [s1] at r4
      cases r4
      clear e4
      replace hf := jbind hf
      obtain ⟨v30, e5, hf⟩ := hf
      obtain ⟨r5, y5⟩ := oc_al e5
      subst r5
      clear e5
      replace hf := jite hf
      rcases hf with ⟨c6, hf⟩ | ⟨c6, hf⟩
      · skip
        replace hf := jbind hf
        obtain ⟨q39, e7, hf⟩ := hf
        replace e7 := (jcv_o e7).2
        have m9 : m < nl := by rw [hm, N9, Int32.le_iff_toInt_le, nI_toInt (by omega), hn9] at c3; omega
        obtain ⟨t1, t2, t3, t4⟩ := E_X12_holdsLine (ln := m) M hW K hi LK h2 (by omega) hm hx2 e7
        replace hf := jite hf
        rcases hf with ⟨c8, hf⟩ | ⟨c8, hf⟩
        · skip
          -- leaf 100: rc5 a0 x1 x2 x3 (x4 + (1 : Int32)) q39.2
          rw [hm, nI_c436, nI_cl (by omega), ww] at c6
          have nh : ¬ holdsW W i m := fun z => absurd (c8.symm.trans (t2.mpr z)) (by decide)
          obtain ⟨b1, b2, b3⟩ := E_X12_sumOf_5 K hi LK h2 hn9 k (m + 1) (mS_fr M t3 (by decide) (by decide)) (by funext k; rw [← hW]; exact oi_M t3 (fun c hc q => by simp at hc; omega) (fun _ => by simp)) hx2 (by rw [hm, nI_1]) (by omega) (by rw [hacc, sumW_n (fun z => nh z.2)]) hf
          exact ⟨b1, frM_tr t3 b2, b3.trans t4⟩
        · skip
          replace hf := jbind hf
          obtain ⟨p47, e9, hf⟩ := hf
          have r9 := oc_gR e9
          rw [t3 (a0) 1  (fun c hc q => by simp at hc; omega) (fun _ => by simp)] at r9
          rw [s1] at r9
          cases r9
          clear e9
          replace hf := jbind hf
          obtain ⟨v60, e10, hf⟩ := hf
          obtain ⟨r10, y10⟩ := oc_al e10
          rw [oi_M t3 (fun c hc q => by simp at hc; omega) (fun _ => by simp)] at r10
          subst r10
          clear e10
          -- leaf 101: rc5 a0 x1 x2 (x3 + v60) (x4 + (1 : Int32)) q39.2
          rw [hm, nI_c436, nI_cl (by omega), ww] at c6
          have yh : holdsW W i m := t2.mp (t1.resolve_left c8)
          have i7 : ((436 : Int32) + ((4 : Int32) * x4)) + (1 : Int32) = nI (437 + 4 * m) := by rw [hm, nI_c436, nI_1]; congr 1; omega
          rw [i7, nI_cl (by omega), ww] at hf
          obtain ⟨b1, b2, b3⟩ := E_X12_sumOf_5 K hi LK h2 hn9 k (m + 1) (mS_fr M t3 (by decide) (by decide)) (by funext k; rw [← hW]; exact oi_M t3 (fun c hc q => by simp at hc; omega) (fun _ => by simp)) hx2 (by rw [hm, nI_1]) (by omega) (by rw [hacc, sumW_p ⟨c6, yh⟩]) hf
          exact ⟨b1, frM_tr t3 b2, b3.trans t4⟩
      · skip
        -- leaf 11: rc5 a0 x1 x2 x3 (x4 + (1 : Int32)) h
        have m9 : m < nl := by rw [hm, N9, Int32.le_iff_toInt_le, nI_toInt (by omega), hn9] at c3; omega
        rw [hm, nI_c436, nI_cl (by omega), ww] at c6
        obtain ⟨b1, b2, b3⟩ := E_X12_sumOf_5 K hi LK h2 hn9 k (m + 1) M hW hx2 (by rw [hm, nI_1]) (by omega) (by rw [hacc, sumW_n (fun z => c6 z.1)]) hf
        exact ⟨b1, b2, b3⟩
theorem E_X12_sumOf {W : jWd} {i : Nat} {nl : Nat} {n : Nat} {a0 : Nat} {x1 : Int32} {x2 : Int32} {h : jH} {q : Int32 × jH} (M : mS (oc h) a0) (hW : wl (oc h) a0 = W) (K : wOK W) (hi : (i : Int) < (W 0).toInt) (LK : lawK W) (h2 : W 2 = 1) (hn9 : (W 435).toInt = (nl : Int)) (hx2 : x2 = nI i) (hf : F_X12_sumOf n a0 x1 x2 h = some q) : q.1 = sumW W x1 i nl ∧ frM a0 [8] [] (oc h) (oc q.2) ∧ q.2.1 = h.1 := by
  unfold F_X12_sumOf at hf
  -- leaf : F_X12_sumOf_5 n n a0 x1 x2 (0 : Int32) (0 : Int32) h
  exact E_X12_sumOf_5 K hi LK h2 hn9 n 0 M hW hx2 rfl (Nat.zero_le _) rfl hf
theorem E_X12_byLaw {W : jWd} {i : Nat} {n : Nat} {a0 : Nat} {x1 : Int32} {x2 : Int32} {h : jH} {q : Int32 × jH} (M : mS (oc h) a0) (hW : wl (oc h) a0 = W) (K : wOK W) (hi : (i : Int) < (W 0).toInt) (LK : lawK W) (hx2 : x2 = nI i) (hf : F_X12_byLaw n a0 x1 x2 h = some q) : q.1 = byW W x1 i ∧ frM a0 [8] [] (oc h) (oc q.2) ∧ q.2.1 = h.1 := by
  unfold F_X12_byLaw at hf
  obtain ⟨s1, s2, s3, s4, s5, s8, s15, s17, s19, s20, s21⟩ := id M
  have K0 := K.1
  have ww : ∀ k, oi (oc h) (a0 + 1) k = W k := fun k => by rw [← hW]
  replace hf := jbind hf
  obtain ⟨p1, e1, hf⟩ := hf
  have r1 := oc_gR e1
  rw [s1] at r1
  cases r1
  clear e1
  replace hf := jbind hf
  obtain ⟨v5, e2, hf⟩ := hf
  obtain ⟨r2, y2⟩ := oc_al e2
  rw [show (2 : Int32).toNatClampNeg = 2 from rfl] at r2
  subst r2
  clear e2
  replace hf := jite hf
  rcases hf with ⟨c3, hf⟩ | ⟨c3, hf⟩
  · skip
    replace hf := jbind hf
    obtain ⟨q13, e4, hf⟩ := hf
    replace e4 := (jcv_o e4).2
    cases hf
    -- leaf 0: (q13.1, q13.2)
    rw [ww] at c3
    have n0 := (LK.2 c3).1
    obtain ⟨b1, b2, b3⟩ := E_X12_sumOf M hW K hi LK c3 (by omega : (W 435).toInt = ((W 435).toInt.toNat : Int)) hx2 e4
    refine ⟨?_, b2, b3⟩
    unfold byW
    rw [if_pos c3]
    exact b1
  · skip
    replace hf := jite hf
    rcases hf with ⟨c5, hf⟩ | ⟨c5, hf⟩
    · skip
      replace hf := jbind hf
      obtain ⟨p24, e6, hf⟩ := hf
      have r6 := oc_gR e6
      rw [s1] at r6
      cases r6
      clear e6
      replace hf := jbind hf
      obtain ⟨v28, e7, hf⟩ := hf
      obtain ⟨r7, y7⟩ := oc_al e7
      rw [show (3 : Int32).toNatClampNeg = 3 from rfl] at r7
      subst r7
      clear e7
      replace hf := jbind hf
      obtain ⟨v29, e8, hf⟩ := hf
      replace e8 := (jcv_o e8).2
      have r8 := E_X12_isLit M hW K hx2 hi e8
      replace hf := jite hf
      rcases hf with ⟨c9, hf⟩ | ⟨c9, hf⟩
      · skip
        cases hf
        -- leaf 100: ((0 : Int32), h)
        rw [ww] at c3
        refine ⟨?_, frM_rfl, rfl⟩
        unfold byW
        rw [if_neg c3, if_pos c5, ← ww 3, ← r8]
        exact c9.symm
      · skip
        cases hf
        -- leaf 101: ((1 : Int32), h)
        rw [ww] at c3
        refine ⟨?_, frM_rfl, rfl⟩
        unfold byW
        rw [if_neg c3, if_pos c5]
        rw [ww 3] at r8
        have l9 := litW_01 (W := W) (i := i) (h := W 3)
        rw [← r8] at l9 ⊢
        exact (l9.resolve_left c9).symm
    · skip
      replace hf := jite hf
      rcases hf with ⟨c10, hf⟩ | ⟨c10, hf⟩
      · skip
        cases hf
        -- leaf 110: ((10 : Int32), h)
        rw [ww] at c3
        refine ⟨?_, frM_rfl, rfl⟩
        unfold byW
        rw [if_neg c3, if_neg c5, if_pos c10]
      · skip
        cases hf
        -- leaf 111: ((0 : Int32), h)
        rw [ww] at c3
        refine ⟨?_, frM_rfl, rfl⟩
        unfold byW
        rw [if_neg c3, if_neg c5, if_neg c10]
end
section
/-! hours, in the world's places -/
def lawB (W : jWd) : Prop := W 2 = 1 → ∀ i : Nat, (i : Int) < (W 435).toInt → 0 ≤ (W (437 + 4 * i)).toInt ∧ (W (437 + 4 * i)).toInt ≤ 100
theorem lawB_of {O : jO} {l : Nat} {W : jWd} (L : lawE O l W) : lawB W := by
  intro z i hi
  obtain ⟨-, -, -, b⟩ := L
  obtain ⟨-, c, d⟩ := b z
  obtain ⟨-, -, -, -, -, -, -, e8, e9, -, -⟩ := d i (by omega)
  exact ⟨e8, e9⟩
theorem tyR_cg {W W2 : jWd} (h : ∀ k, 435 ≤ k → W2 k = W k) (a : Nat) : ∀ k, tyR W2 a k = tyR W a k
  | 0 => rfl
  | k + 1 => by
    unfold tyR
    rw [tyR_cg h a k, h _ (by omega)]
theorem linE_cg {O : jO} {l n : Nat} {W W2 : jWd} (L : linE O l W n) (h : ∀ k, 435 ≤ k → W2 k = W k) : linE O l W2 n := by
  intro i hi
  rw [h _ (by omega), h _ (by omega), h _ (by omega), h _ (by omega), h (439 + 4 * (i - 1)) (by omega)]
  obtain ⟨a1, a2, a3, a4, a5, a6, a7, a8, a9, a10, a11⟩ := L i hi
  refine ⟨a1, a2, a3, a4, a5, a6, a7, a8, a9, fun j u w => ?_, ?_⟩
  · rw [h _ (by omega), h _ (by omega)]; exact a10 j u w
  · rw [tyR_cg h]; exact a11
theorem lawE_cg {O : jO} {l : Nat} {W W2 : jWd} (L : lawE O l W) (h : ∀ k, k = 2 ∨ 435 ≤ k → W2 k = W k) : lawE O l W2 := by
  obtain ⟨S, a, b, c⟩ := L
  unfold lawE
  rw [h 2 (Or.inl rfl), h 435 (Or.inr (by omega))]
  exact ⟨S, a, b, fun z => ⟨(c z).1, (c z).2.1, linE_cg (c z).2.2 (fun k hk => h k (Or.inr hk))⟩⟩
theorem lawE_fr {O O2 : jO} {l : Nat} {W : jWd} (L : lawE O l W) (h : ∀ a k, l ≤ a → a ≤ l + 4 → ¬ (a = l ∧ k = 5) → O2 a k = O a k) : lawE O2 l W := by
  obtain ⟨⟨s0, s1, s2, s3, s4⟩, a, b, c⟩ := L
  have e : ∀ a k, l ≤ a → a ≤ l + 4 → ¬ (a = l ∧ k = 5) → oi O2 a k = oi O a k := fun a k h1 h2 h3 => by unfold oi; rw [h a k h1 h2 h3]
  refine ⟨⟨(h _ _ (by omega) (by omega) (by omega)).trans s0, (h _ _ (by omega) (by omega) (by omega)).trans s1, (h _ _ (by omega) (by omega) (by omega)).trans s2, (h _ _ (by omega) (by omega) (by omega)).trans s3, (h _ _ (by omega) (by omega) (by omega)).trans s4⟩, (e _ _ (by omega) (by omega) (by omega)).trans a, b, fun z => ?_⟩
  obtain ⟨c1, c2, c3⟩ := c z
  refine ⟨(e _ _ (by omega) (by omega) (by omega)).trans c1, c2, fun i hi => ?_⟩
  obtain ⟨a1, a2, a3, a4, a5, a6, a7, a8, a9, a10, a11⟩ := c3 i hi
  refine ⟨(e _ _ (by omega) (by omega) (by omega)).trans a1, (e _ _ (by omega) (by omega) (by omega)).trans a2, (e _ _ (by omega) (by omega) (by omega)).trans a3, a4, a5, a6, a7, a8, a9, fun j u w => ?_, a11⟩
  rw [e _ _ (by omega) (by omega) (by omega)]
  exact a10 j u w
theorem sumW_b {W : jWd} {kind : Int32} {i : Nat} : ∀ n : Nat, n ≤ 12 → (∀ j : Nat, j < n → 0 ≤ (W (437 + 4 * j)).toInt ∧ (W (437 + 4 * j)).toInt ≤ 100) → 0 ≤ (sumW W kind i n).toInt ∧ (sumW W kind i n).toInt ≤ 100 * (n : Int)
  | 0, _, _ => by
    show 0 ≤ (0 : Int32).toInt ∧ (0 : Int32).toInt ≤ 100 * ((0 : Nat) : Int)
    decide
  | n + 1, hn, h => by
    have ih := sumW_b (kind := kind) (i := i) n (by omega) (fun j hj => h j (by omega))
    have hx := h n (by omega)
    by_cases c : W (436 + 4 * n) = kind ∧ holdsW W i n
    · rw [sumW_p (kind := kind) c, jadd (by omega) (by omega)]
      omega
    · rw [sumW_n (kind := kind) c]
      omega
theorem byW_b {W : jWd} {kind : Int32} {i : Nat} (LK : lawK W) (LB : lawB W) : 0 ≤ (byW W kind i).toInt ∧ (byW W kind i).toInt ≤ 1200 := by
  unfold byW
  by_cases c : W 2 = 1
  · rw [if_pos c]
    have n0 := (LK.2 c).1
    have := sumW_b (W := W) (kind := kind) (i := i) (W 435).toInt.toNat (by omega) (fun j hj => LB c j (by omega))
    omega
  · rw [if_neg c]
    by_cases c0 : kind = 0
    · rw [if_pos c0]
      rcases litW_01 (W := W) (i := i) (h := W 3) with q | q <;> rw [q] <;> decide
    · rw [if_neg c0]
      by_cases c1 : kind = 1
      · rw [if_pos c1]; decide
      · rw [if_neg c1]; decide
/-- a ring fades -/
noncomputable def fd1 (W : jWd) (i : Nat) : jWd × Int32 := (upd W (15 + 8 * i) (if W (15 + 8 * i) + byW W 0 i < (99 : Int32) then W (15 + 8 * i) + byW W 0 i else 99), 0)
def sdW (s : Int32) : Int32 := ((1103515245 : Int32) * s) + (12345 : Int32)
def rnW (s : Int32) : Int32 := ((jushr s (16 : Int32)) &&& (32767 : Int32)) - ((jushr s (16 : Int32)) &&& (32767 : Int32)) / (100 : Int32) * (100 : Int32)
noncomputable def ct1 (W : jWd) (i : Nat) : jWd × Int32 :=
  if ((i : Int) + 1 < (W 0).toInt ∧ W (11 + 8 * (i + 1)) - W (11 + 8 * i) = 1) ∧ W (18 + 8 * i) ≠ 1 then
    (if rnW (sdW (W 10)) < byW (upd W 10 (sdW (W 10))) 1 i then (tlW (upd (upd W 10 (sdW (W 10))) (18 + 8 * i) 1) i (nI i) (nI 1) (nI 0), 1) else (upd W 10 (sdW (W 10)), 0))
  else (W, 0)
noncomputable def fl1 (W : jWd) (i : Nat) : jWd × Int32 :=
  if W (17 + 8 * i) = 1 then
    (if rnW (sdW (W 10)) < byW (upd W 10 (sdW (W 10))) 2 i then (tlW (upd (upd W 10 (sdW (W 10))) (17 + 8 * i) 0) i (nI i) (nI 2) (nI 0), 1) else (upd W 10 (sdW (W 10)), 0))
  else (W, 0)
def itW (f : jWd → Nat → jWd × Int32) : Nat → Nat → jWd → Int32 → jWd × Int32
  | _, 0, W, a => (W, a)
  | i, m + 1, W, a => itW f (i + 1) m (f W i).1 (a + (f W i).2)
def tuW (W : jWd) : jWd := if (W 3).toInt < 7 then upd W 3 (W 3 + 1) else upd (upd W 3 0) 4 (if W 4 + 1 < (9999 : Int32) then W 4 + 1 else 9999)
theorem wOK_fd {W : jWd} {i : Nat} (K : wOK W) (LK : lawK W) (LB : lawB W) (hi : (i : Int) < (W 0).toInt) : wOK (fd1 W i).1 ∧ (∀ k, k < 11 ∨ 75 ≤ k → (fd1 W i).1 k = W k) := by
  have K0 := K.1
  have e : ∀ k, k ≠ 15 + 8 * i → (fd1 W i).1 k = W k := fun k h => upd_ne h
  have b := byW_b (kind := 0) (i := i) LK LB
  have f := (K.2.1 i hi).2.2.2.2.1
  have l99 : (99 : Int32).toInt = 99 := rfl
  have j1 := jadd (x := W (15 + 8 * i)) (y := byW W 0 i) (by omega) (by omega)
  have v : 0 ≤ ((fd1 W i).1 (15 + 8 * i)).toInt ∧ ((fd1 W i).1 (15 + 8 * i)).toInt ≤ 99 := by
    show 0 ≤ (upd W (15 + 8 * i) _ (15 + 8 * i)).toInt ∧ (upd W (15 + 8 * i) _ (15 + 8 * i)).toInt ≤ 99
    rw [upd_eq]
    by_cases c : W (15 + 8 * i) + byW W 0 i < (99 : Int32)
    · rw [if_pos c, j1]; rw [Int32.lt_iff_toInt_lt, j1] at c; omega
    · rw [if_neg c]; decide
  refine ⟨?_, fun k hk => e k (by omega)⟩
  obtain ⟨k0, k1, k2, k3, k4, k5, k6, k7, k8, k9, k10⟩ := K
  unfold wOK
  rw [e 0 (by omega), e 3 (by omega), e 4 (by omega), e 5 (by omega), e 6 (by omega), e 8 (by omega), e 9 (by omega), e 1 (by omega)]
  refine ⟨k0, fun j hj => ?_, fun j hj => ?_, fun j hj => ?_, k4, k5, k6, k7, k8, k9, k10⟩
  · rw [e (11 + 8 * j) (by omega), e (12 + 8 * j) (by omega), e (13 + 8 * j) (by omega), e (14 + 8 * j) (by omega), e (16 + 8 * j) (by omega), e (17 + 8 * j) (by omega), e (18 + 8 * j) (by omega)]
    obtain ⟨a1, a2, a3, a4, a5, a6⟩ := k1 j hj
    by_cases q : j = i
    · subst q; exact ⟨a1, a2, a3, a4, v, a6⟩
    · rw [e (15 + 8 * j) (by omega)]; exact ⟨a1, a2, a3, a4, a5, a6⟩
  · rw [e _ (by omega), e _ (by omega)]; exact k2 j hj
  · rw [e _ (by omega)]; exact k3 j hj
theorem wOK_10 {W : jWd} {x : Int32} (K : wOK W) : wOK (upd W 10 x) := by
  have e : ∀ k, k ≠ 10 → upd W 10 x k = W k := fun k h => upd_ne h
  obtain ⟨k0, k1, k2, k3, k4, k5, k6, k7, k8, k9, k10⟩ := K
  unfold wOK
  rw [e 0 (by omega), e 3 (by omega), e 4 (by omega), e 5 (by omega), e 6 (by omega), e 8 (by omega), e 9 (by omega), e 1 (by omega)]
  refine ⟨k0, fun j hj => ?_, fun j hj => ?_, fun j hj => ?_, k4, k5, k6, k7, k8, k9, k10⟩
  · rw [e _ (by omega), e _ (by omega), e _ (by omega), e _ (by omega), e _ (by omega), e _ (by omega), e _ (by omega), e _ (by omega)]; exact k1 j hj
  · rw [e _ (by omega), e _ (by omega)]; exact k2 j hj
  · rw [e _ (by omega)]; exact k3 j hj
/-- a ring is caught, or freed; the last one never caught -/
theorem wOK_ct {W : jWd} {i : Nat} {x : Int32} (K : wOK W) (hx : x = 0 ∨ (x = 1 ∧ (i : Int) + 1 < (W 0).toInt)) : wOK (upd W (18 + 8 * i) x) := by
  have K0 := K.1
  have e : ∀ k, k ≠ 18 + 8 * i → upd W (18 + 8 * i) x k = W k := fun k h => upd_ne h
  obtain ⟨k0, k1, k2, k3, k4, k5, k6, k7, k8, k9, k10⟩ := K
  unfold wOK
  rw [e 0 (by omega), e 3 (by omega), e 4 (by omega), e 5 (by omega), e 6 (by omega), e 8 (by omega), e 9 (by omega), e 1 (by omega)]
  refine ⟨k0, fun j hj => ?_, fun j hj => ?_, fun j hj => ?_, k4, k5, k6, k7, k8, k9, k10⟩
  · rw [e (11 + 8 * j) (by omega), e (12 + 8 * j) (by omega), e (13 + 8 * j) (by omega), e (14 + 8 * j) (by omega), e (15 + 8 * j) (by omega), e (16 + 8 * j) (by omega), e (17 + 8 * j) (by omega)]
    obtain ⟨a1, a2, a3, a4, a5, a6, a7, a8⟩ := k1 j hj
    refine ⟨a1, a2, a3, a4, a5, a6, a7, ?_⟩
    by_cases q : j = i
    · subst q; rw [upd_eq]; exact hx.elim Or.inl (fun z => Or.inr z.1)
    · rw [e (18 + 8 * j) (by omega)]; exact a8
  · rw [e _ (by omega), e _ (by omega)]; exact k2 j hj
  · by_cases q : j = i
    · subst q; rw [upd_eq]; exact hx.elim id (fun z => absurd z.2 (by omega))
    · rw [e _ (by omega)]; exact k3 j hj
theorem wOK_hk {W : jWd} {i : Nat} {x : Int32} (K : wOK W) (hx : x = 0 ∨ x = 1) : wOK (upd W (17 + 8 * i) x) := by
  have K0 := K.1
  have e : ∀ k, k ≠ 17 + 8 * i → upd W (17 + 8 * i) x k = W k := fun k h => upd_ne h
  obtain ⟨k0, k1, k2, k3, k4, k5, k6, k7, k8, k9, k10⟩ := K
  unfold wOK
  rw [e 0 (by omega), e 3 (by omega), e 4 (by omega), e 5 (by omega), e 6 (by omega), e 8 (by omega), e 9 (by omega), e 1 (by omega)]
  refine ⟨k0, fun j hj => ?_, fun j hj => ?_, fun j hj => ?_, k4, k5, k6, k7, k8, k9, k10⟩
  · rw [e (11 + 8 * j) (by omega), e (12 + 8 * j) (by omega), e (13 + 8 * j) (by omega), e (14 + 8 * j) (by omega), e (15 + 8 * j) (by omega), e (16 + 8 * j) (by omega), e (18 + 8 * j) (by omega)]
    obtain ⟨a1, a2, a3, a4, a5, a6, a7, a8⟩ := k1 j hj
    refine ⟨a1, a2, a3, a4, a5, a6, ?_, a8⟩
    by_cases q : j = i
    · subst q; rw [upd_eq]; exact hx
    · rw [e (17 + 8 * j) (by omega)]; exact a7
  · rw [e _ (by omega), e _ (by omega)]; exact k2 j hj
  · rw [e _ (by omega)]; exact k3 j hj
theorem wOK_tl {W : jWd} {r : Nat} {x kind far : Int32} (K : wOK W) : wOK (tlW W r x kind far) := by
  have e : ∀ k, k ≠ 9 ∧ k < 75 → tlW W r x kind far k = W k := fun k h => tlW_n (Or.inl h)
  have K0 := K.1
  obtain ⟨k0, k1, k2, k3, k4, k5, k6, k7, k8, k9, k10⟩ := K
  have l1 : (1 : Int32).toInt = 1 := rfl
  have v : 0 ≤ (tlW W r x kind far 9).toInt ∧ (tlW W r x kind far 9).toInt ≤ 60 := by
    show 0 ≤ (if W 9 + 1 < (60 : Int32) then W 9 + 1 else 60).toInt ∧ (if W 9 + 1 < (60 : Int32) then W 9 + 1 else 60).toInt ≤ 60
    have j1 := jadd (x := W 9) (y := 1) (by omega) (by omega)
    by_cases c : W 9 + 1 < (60 : Int32)
    · rw [if_pos c, j1]; rw [Int32.lt_iff_toInt_lt, j1, show (60 : Int32).toInt = 60 from rfl] at c; omega
    · rw [if_neg c]; decide
  unfold wOK
  rw [e 0 (by omega), e 3 (by omega), e 4 (by omega), e 5 (by omega), e 6 (by omega), e 8 (by omega), e 1 (by omega)]
  refine ⟨k0, fun j hj => ?_, fun j hj => ?_, fun j hj => ?_, k4, k5, k6, k7, k8, v, k10⟩
  · rw [e _ (by omega), e _ (by omega), e _ (by omega), e _ (by omega), e _ (by omega), e _ (by omega), e _ (by omega), e _ (by omega)]; exact k1 j hj
  · rw [e _ (by omega), e _ (by omega)]; exact k2 j hj
  · rw [e _ (by omega)]; exact k3 j hj
theorem wOK_tu {W : jWd} (K : wOK W) : wOK (tuW W) := by
  have K0 := K.1
  obtain ⟨k0, k1, k2, k3, k4, k5, k6, k7, k8, k9, k10⟩ := K
  have l1 : (1 : Int32).toInt = 1 := rfl
  unfold tuW
  by_cases c : (W 3).toInt < 7
  · rw [if_pos c]
    have e : ∀ k, k ≠ 3 → upd W 3 (W 3 + 1) k = W k := fun k h => upd_ne h
    have v : 0 ≤ (upd W 3 (W 3 + 1) 3).toInt ∧ (upd W 3 (W 3 + 1) 3).toInt ≤ 7 := by rw [upd_eq, jadd (by omega) (by omega)]; omega
    unfold wOK
    rw [e 0 (by omega), e 4 (by omega), e 5 (by omega), e 6 (by omega), e 8 (by omega), e 9 (by omega), e 1 (by omega)]
    refine ⟨k0, fun j hj => ?_, fun j hj => ?_, fun j hj => ?_, v, k5, k6, k7, k8, k9, k10⟩
    · rw [e _ (by omega), e _ (by omega), e _ (by omega), e _ (by omega), e _ (by omega), e _ (by omega), e _ (by omega), e _ (by omega)]; exact k1 j hj
    · rw [e _ (by omega), e _ (by omega)]; exact k2 j hj
    · rw [e _ (by omega)]; exact k3 j hj
  · rw [if_neg c]
    generalize hv : (if W 4 + 1 < (9999 : Int32) then W 4 + 1 else 9999) = v4
    have v : 0 ≤ v4.toInt ∧ v4.toInt ≤ 9999 := by
      rw [← hv]
      have j1 := jadd (x := W 4) (y := 1) (by omega) (by omega)
      by_cases c : W 4 + 1 < (9999 : Int32)
      · rw [if_pos c, j1]; rw [Int32.lt_iff_toInt_lt, j1, show (9999 : Int32).toInt = 9999 from rfl] at c; omega
      · rw [if_neg c]; decide
    have e : ∀ k, k ≠ 3 → k ≠ 4 → upd (upd W 3 0) 4 v4 k = W k := fun k h h4 => (upd_ne h4).trans (upd_ne h)
    have e3 : upd (upd W 3 0) 4 v4 3 = 0 := (upd_ne (by decide)).trans upd_eq
    unfold wOK
    rw [e 0 (by omega) (by omega), e3, upd_eq, e 5 (by omega) (by omega), e 6 (by omega) (by omega), e 8 (by omega) (by omega), e 9 (by omega) (by omega), e 1 (by omega) (by omega)]
    refine ⟨k0, fun j hj => ?_, fun j hj => ?_, fun j hj => ?_, by decide, v, k6, k7, k8, k9, k10⟩
    · rw [e _ (by omega) (by omega), e _ (by omega) (by omega), e _ (by omega) (by omega), e _ (by omega) (by omega), e _ (by omega) (by omega), e _ (by omega) (by omega), e _ (by omega) (by omega), e _ (by omega) (by omega)]; exact k1 j hj
    · rw [e _ (by omega) (by omega), e _ (by omega) (by omega)]; exact k2 j hj
    · rw [e _ (by omega) (by omega)]; exact k3 j hj
end
section
/-! hours of the class -/
def frRL (r l : Nat) (O O2 : jO) : Prop := ∀ a k, ¬ (r ≤ a ∧ a ≤ r + 6) → a ≠ l + 5 → ¬ (a = l ∧ k = 5) → O2 a k = O a k
theorem frRL_rfl {r l : Nat} {O : jO} : frRL r l O O := fun _ _ _ _ _ => rfl
theorem frRL_tr {r l : Nat} {O O2 O3 : jO} (a : frRL r l O O2) (b : frRL r l O2 O3) : frRL r l O O3 := fun x k h q z => (b x k h q z).trans (a x k h q z)
theorem frRL_R {r l : Nat} {O O2 : jO} (f : frR r O O2) : frRL r l O O2 := fun a k h _ _ => f a k (by omega)
theorem frRL_L {r l : Nat} {O O2 : jO} (f : frL l O O2) : frRL r l O O2 := fun a k _ h q => f a k h q
theorem lawE_R {O O2 : jO} {l r : Nat} {W : jWd} (L : lawE O l W) (f : frR r O O2) (dj : r + 6 < l ∨ l + 5 < r) : lawE O2 l W := lawE_fr L (fun a k h1 h2 _ => f a k (by omega))
theorem lawE_L {O O2 : jO} {l : Nat} {W : jWd} (L : lawE O l W) (f : frL l O O2) : lawE O2 l W := lawE_fr L (fun a k h1 h2 h3 => f a k (by omega) h3)
/-- clock at c, law at l, rod at r: all tell the world -/
def clkE (O : jO) (c l r : Nat) (W : jWd) : Prop := O c 0 = .ref l ∧ rodE O r W ∧ lawE O l W ∧ wOK W
abbrev clkD (c l r : Nat) : Prop := (r + 6 < l ∨ l + 5 < r) ∧ (c < r ∨ r + 6 < c) ∧ (c < l ∨ l + 5 < c)
theorem clk_R {O O2 : jO} {c l r : Nat} {W W2 : jWd} (C : clkE O c l r W) (D : clkD c l r) (f : frR r O O2) (R : rodE O2 r W2) (K : wOK W2) (h : ∀ k, k = 2 ∨ 435 ≤ k → W2 k = W k) : clkE O2 c l r W2 :=
  ⟨(f _ _ (by omega)).trans C.1, R, lawE_cg (lawE_R C.2.2.1 f D.1) h, K⟩
theorem clk_L {O O2 : jO} {c l r : Nat} {W : jWd} (C : clkE O c l r W) (D : clkD c l r) (f : frL l O O2) : clkE O2 c l r W :=
  ⟨(f _ _ (by omega) (by omega)).trans C.1, rodE_L C.2.1 f D.1, lawE_L C.2.2.1 f, C.2.2.2⟩
theorem ct_0 {W : jWd} {i : Nat} (h : ¬ (((i : Int) + 1 < (W 0).toInt ∧ W (11 + 8 * (i + 1)) - W (11 + 8 * i) = 1) ∧ W (18 + 8 * i) ≠ 1)) : ct1 W i = (W, 0) := if_neg h
theorem ct_1 {W : jWd} {i : Nat} (h : ((i : Int) + 1 < (W 0).toInt ∧ W (11 + 8 * (i + 1)) - W (11 + 8 * i) = 1) ∧ W (18 + 8 * i) ≠ 1) (h2 : ¬ rnW (sdW (W 10)) < byW (upd W 10 (sdW (W 10))) 1 i) : ct1 W i = (upd W 10 (sdW (W 10)), 0) := (if_pos h).trans (if_neg h2)
theorem ct_2 {W : jWd} {i : Nat} (h : ((i : Int) + 1 < (W 0).toInt ∧ W (11 + 8 * (i + 1)) - W (11 + 8 * i) = 1) ∧ W (18 + 8 * i) ≠ 1) (h2 : rnW (sdW (W 10)) < byW (upd W 10 (sdW (W 10))) 1 i) : ct1 W i = (tlW (upd (upd W 10 (sdW (W 10))) (18 + 8 * i) 1) i (nI i) (nI 1) (nI 0), 1) := (if_pos h).trans (if_pos h2)
theorem fl_0 {W : jWd} {i : Nat} (h : ¬ W (17 + 8 * i) = 1) : fl1 W i = (W, 0) := if_neg h
theorem fl_1 {W : jWd} {i : Nat} (h : W (17 + 8 * i) = 1) (h2 : ¬ rnW (sdW (W 10)) < byW (upd W 10 (sdW (W 10))) 2 i) : fl1 W i = (upd W 10 (sdW (W 10)), 0) := (if_pos h).trans (if_neg h2)
theorem fl_2 {W : jWd} {i : Nat} (h : W (17 + 8 * i) = 1) (h2 : rnW (sdW (W 10)) < byW (upd W 10 (sdW (W 10))) 2 i) : fl1 W i = (tlW (upd (upd W 10 (sdW (W 10))) (17 + 8 * i) 0) i (nI i) (nI 2) (nI 0), 1) := (if_pos h).trans (if_pos h2)
theorem it_s {f : jWd → Nat → jWd × Int32} {W W2 : jWd} {i m : Nat} {a v : Int32} (h : f W i = (W2, v)) : itW f i (m + 1) W a = itW f (i + 1) m W2 (a + v) := by
  show itW f (i + 1) m (f W i).1 (a + (f W i).2) = _
  rw [h]
theorem it_z {f : jWd → Nat → jWd × Int32} {W W2 : jWd} {i m : Nat} {a : Int32} (h : f W i = (W2, 0)) : itW f i (m + 1) W a = itW f (i + 1) m W2 a := by
  rw [it_s h, Int32.add_zero]
theorem bit_y {x y : Int32} {i : Nat} (hi : i < 32) (h : y = x ||| ((1 : Int32) <<< (nI i &&& 31))) : ∀ j, j < 32 → (bt y j = true ↔ (if j = i then (1 : Int32) = 1 else bt x j = true)) := by
  intro j hj
  rw [h, b_set hi hj, Bool.or_eq_true, decide_eq_true_iff]
  by_cases q : j = i
  · rw [if_pos q]; exact ⟨fun _ => rfl, fun _ => Or.inr q⟩
  · rw [if_neg q]; exact ⟨fun z => z.resolve_right q, Or.inl⟩
theorem bit_n {x y : Int32} {i : Nat} (hi : i < 32) (h : y = x &&& (((1 : Int32) <<< (nI i &&& 31)) ^^^ (-1 : Int32))) : ∀ j, j < 32 → (bt y j = true ↔ (if j = i then (0 : Int32) = 1 else bt x j = true)) := by
  intro j hj
  rw [h, b_clr hi hj, Bool.and_eq_true]
  by_cases q : j = i
  · rw [if_pos q, decide_eq_true q]; exact ⟨fun z => absurd z.2 (by decide), fun z => absurd z (by decide)⟩
  · rw [if_neg q, decide_eq_false q]; exact ⟨fun z => z.1, fun z => ⟨z, rfl⟩⟩
theorem E_X1_draw {W : jWd} {n : Nat} {a0 : Nat} {h : jH} {q : Int32 × jH} (R : rodE (oc h) a0 W) (hf : F_X1_draw n a0 h = some q) : q.1 = rnW (sdW (W 10)) ∧ oc q.2 = u2 (oc h) a0 16 (.int (sdW (W 10))) ∧ q.2.1 = h.1 := by
  unfold F_X1_draw at hf
  obtain ⟨⟨s0, s1, s2, s3, s4, s5⟩, ⟨u5, u10, u11, u12, u13, u14, u15, u16, u17⟩, RB, RC, RL⟩ := id R
  replace hf := jbind hf
  obtain ⟨v4, e1, hf⟩ := hf
  have r1 := oc_gI e1
  subst r1
  clear e1
  replace hf := jbind hf
  obtain ⟨h12, e2, hf⟩ := hf
  obtain ⟨o2, z2⟩ := oc_pf e2
  clear e2
  replace hf := jbind hf
  obtain ⟨v16, e3, hf⟩ := hf
  have r3 := oc_gI e3
  rw [o2] at r3
  rw [oi_eq] at r3
  subst r3
  clear e3
  cases hf
  -- leaf : (((jushr v16 (16 : Int32)) &&& (32767 : Int32)) - ((jushr v16 (16 : Int32)) &&& (32767 : Int32)) / (
  rw [u16] at o2 ⊢
  exact ⟨rfl, o2, z2⟩
theorem E_X1_fadeAll_2 {n : Nat} {l : Nat} : ∀ (k : Nat) {a0 : Nat} {a1 : Nat} {x2 : Int32} {h : jH} {q : jH} (W : jWd) (i : Nat) (m : Nat) (C : clkE (oc h) a0 l a1 W) (D : clkD a0 l a1) (hx : x2 = nI i) (hm : ((i + m : Nat) : Int) = (W 0).toInt), F_X1_fadeAll_2 n k a0 a1 x2 h = some q → clkE (oc q) a0 l a1 (itW fd1 i m W 0).1 ∧ frRL a1 l (oc h) (oc q) ∧ q.1 = h.1
  | 0, a0, a1, x2, h, q, W, i, m, C, D, hx, hm, hf => by cases hf
  | k + 1, a0, a1, x2, h, q, W, i, m, C, D, hx, hm, hf => by
    replace hf : F_X1_fadeAll_2_b n (F_X1_fadeAll_2 n k) a0 a1 x2 h = some q := hf
    unfold F_X1_fadeAll_2_b at hf
    obtain ⟨C1, R, LE, K⟩ := id C
    obtain ⟨⟨s0, s1, s2, s3, s4, s5⟩, ⟨u5, u10, u11, u12, u13, u14, u15, u16, u17⟩, RB, RC, RL⟩ := id R
    have K0 := K.1
    replace hf := jbind hf
    obtain ⟨v4, e1, hf⟩ := hf
    have r1 := oc_gI e1
    subst r1
    clear e1
    replace hf := jite hf
    rcases hf with ⟨c2, hf⟩ | ⟨c2, hf⟩
    · skip
      cases hf
      -- leaf 0: h
      rw [hx, u5, nI_eI (by omega)] at c2
      have : m = 0 := by omega
      subst this
      exact ⟨C, frRL_rfl, rfl⟩
    · skip
      replace hf := jbind hf
      obtain ⟨p11, e3, hf⟩ := hf
      have r3 := oc_gR e3
      rw [s2] at r3
      cases r3
      clear e3
      replace hf := jbind hf
      obtain ⟨p18, e4, hf⟩ := hf
      have r4 := oc_gR e4
      rw [s2] at r4
      cases r4
      clear e4
      replace hf := jbind hf
      obtain ⟨v22, e5, hf⟩ := hf
      obtain ⟨r5, y5⟩ := oc_al e5
      subst r5
      clear e5
      replace hf := jbind hf
      obtain ⟨p24, e6, hf⟩ := hf
      have r6 := oc_gR e6
      rw [C1] at r6
      cases r6
      clear e6
      replace hf := jbind hf
      obtain ⟨q30, e7, hf⟩ := hf
      replace e7 := (jcv_o e7).2
      replace hf := jbind hf
      obtain ⟨h37, e8, hf⟩ := hf
      obtain ⟨o8, z8, y8⟩ := oc_as e8
      rw [jnar0] at o8
      clear e8
      -- leaf 1: rc2 a0 a1 (x2 + (1 : Int32)) h37
      have hi : (i : Int) < (W 0).toInt := by rw [hx, u5, nI_eI (by omega)] at c2; omega
      obtain ⟨m, rfl⟩ : ∃ p, m = p + 1 := ⟨m - 1, by omega⟩
      obtain ⟨b1, b2, b3⟩ := E_X2_amount R K hi LE D.1 hx e7
      have C2 := clk_L C D b2
      have R2 := C2.2.1
      rw [hx, nI_cl (by omega), (RB i hi).2.2.2.2.1, b1] at o8
      obtain ⟨g1, g2⟩ := wOK_fd K (lawK_of LE) (lawB_of LE) hi
      have f3 : frR a1 (oc q30.2) (oc h37) := by rw [o8]; exact frR_u2 (by omega)
      have C3 : clkE (oc h37) a0 l a1 (fd1 W i).1 := clk_R C2 D f3 (by rw [o8]; exact rodE_fd R2 (by omega)) g1 (fun k hk => g2 k (by omega))
      obtain ⟨d1, d2, d3⟩ := E_X1_fadeAll_2 k (fd1 W i).1 (i + 1) m C3 D (by rw [hx, nI_1]) (by rw [g2 0 (by omega)]; omega) hf
      refine ⟨?_, frRL_tr (frRL_tr (frRL_L b2) (frRL_R f3)) d2, d3.trans (z8.trans b3)⟩
      have e : (itW fd1 i (m + 1) W 0).1 = (itW fd1 (i + 1) m (fd1 W i).1 0).1 := rfl
      rw [e]
      exact d1
theorem E_X1_catchSome_4 {n : Nat} {l : Nat} : ∀ (k : Nat) {a0 : Nat} {a1 : Nat} {x2 : Int32} {x3 : Int32} {h : jH} {q : Int32 × jH} (W : jWd) (i : Nat) (m : Nat) (C : clkE (oc h) a0 l a1 W) (D : clkD a0 l a1) (hx : x3 = nI i) (hm : ((i + m : Nat) : Int) = (W 0).toInt), F_X1_catchSome_4 n k a0 a1 x2 x3 h = some q → clkE (oc q.2) a0 l a1 (itW ct1 i m W x2).1 ∧ q.1 = (itW ct1 i m W x2).2 ∧ frRL a1 l (oc h) (oc q.2) ∧ q.2.1 = h.1
  | 0, a0, a1, x2, x3, h, q, W, i, m, C, D, hx, hm, hf => by cases hf
  | k + 1, a0, a1, x2, x3, h, q, W, i, m, C, D, hx, hm, hf => by
    replace hf : F_X1_catchSome_4_b n (F_X1_catchSome_4 n k) a0 a1 x2 x3 h = some q := hf
    unfold F_X1_catchSome_4_b at hf
    obtain ⟨C1, R, LE, K⟩ := id C
    obtain ⟨⟨s0, s1, s2, s3, s4, s5⟩, ⟨u5, u10, u11, u12, u13, u14, u15, u16, u17⟩, RB, RC, RL⟩ := id R
    have K0 := K.1
    replace hf := jbind hf
    obtain ⟨v6, e1, hf⟩ := hf
    have r1 := oc_gI e1
    subst r1
    clear e1
    replace hf := jite hf
    rcases hf with ⟨c2, hf⟩ | ⟨c2, hf⟩
    · skip
      cases hf
      -- leaf 0: (x2, h)
      rw [hx, u5, nI_eI (by omega)] at c2
      have : m = 0 := by omega
      subst this
      exact ⟨C, rfl, frRL_rfl, rfl⟩
    · skip
      replace hf := jbind hf
      obtain ⟨v15, e3, hf⟩ := hf
      replace e3 := (jcv_o e3).2
      have hi : (i : Int) < (W 0).toInt := by rw [hx, u5, nI_eI (by omega)] at c2; omega
      have r3 := E_X8_gap (i := i) R K hx (by omega) e3
      replace hf := jite hf
      rcases hf with ⟨c4, hf⟩ | ⟨c4, hf⟩
      · skip
        replace hf := jbind hf
        obtain ⟨v23, e5, hf⟩ := hf
        have r5 := oc_gI e5
        subst r5
        clear e5
        replace hf := jbind hf
        obtain ⟨v27, e6, hf⟩ := hf
        replace hf := jite hf
        rcases hf with ⟨c7, hf⟩ | ⟨c7, hf⟩
        · skip
          replace hf := jbind hf
          obtain ⟨q34, e8, hf⟩ := hf
          obtain ⟨d1, d2, d3⟩ := E_X1_draw R e8
          have f2 : frR a1 (oc h) (oc q34.2) := by rw [d2]; exact frR_u2 (by omega)
          have C2 : clkE (oc q34.2) a0 l a1 (upd W 10 (sdW (W 10))) := clk_R C D f2 (by rw [d2]; exact rodE_i16 R) (wOK_10 K) (fun k hk => upd_ne (by omega))
          obtain ⟨C1b, Rb, LEb, Kb⟩ := id C2
          obtain ⟨⟨s0b, s1b, s2b, s3b, s4b, s5b⟩, ⟨u5b, u10b, u11b, u12b, u13b, u14b, u15b, u16b, u17b⟩, RBb, RCb, RLb⟩ := id Rb
          replace hf := jbind hf
          obtain ⟨p38, e9, hf⟩ := hf
          have r9 := oc_gR e9
          rw [C1b] at r9
          cases r9
          clear e9
          replace hf := jbind hf
          obtain ⟨q44, e10, hf⟩ := hf
          replace e10 := (jcv_o e10).2
          have w0 : upd W 10 (sdW (W 10)) 0 = W 0 := upd_ne (by omega)
          obtain ⟨b1, b2, b3⟩ := E_X2_amount Rb Kb (by rw [w0]; exact hi) LEb D.1 hx e10
          have C3 := clk_L C2 D b2
          obtain ⟨C1c, Rc, LEc, Kc⟩ := id C3
          obtain ⟨⟨s0c, s1c, s2c, s3c, s4c, s5c⟩, ⟨u5c, u10c, u11c, u12c, u13c, u14c, u15c, u16c, u17c⟩, RBc, RCc, RLc⟩ := id Rc
          replace hf := jite hf
          rcases hf with ⟨c11, hf⟩ | ⟨c11, hf⟩
          · skip
            -- leaf 1000: rc4 a0 a1 x2 (x3 + (1 : Int32)) q44.2
            replace e6 := Option.some.inj (show some ((jushr (oi (oc h) a1 9) x3) &&& (1 : Int32)) = some v27 from e6)
            rw [hx, bitW (by omega) (RB i hi).2.2.2.2.2.2.2 (K.2.1 i hi).2.2.2.2.2.2.2] at e6
            have cond : ((i : Int) + 1 < (W 0).toInt ∧ W (11 + 8 * (i + 1)) - W (11 + 8 * i) = 1) ∧ W (18 + 8 * i) ≠ 1 := by
              have lt : (i : Int) + 1 < (W 0).toInt := Classical.byContradiction fun z => by rw [r3, if_neg z] at c4; exact absurd c4 (by decide)
              rw [r3, if_pos lt] at c4
              exact ⟨⟨lt, c4⟩, by rw [e6, c7]; decide⟩
            obtain ⟨m, rfl⟩ : ∃ p, m = p + 1 := ⟨m - 1, by omega⟩
            have nl : ¬ rnW (sdW (W 10)) < byW (upd W 10 (sdW (W 10))) 1 i := by rw [← d1, ← b1, Int32.lt_iff_toInt_lt]; rw [Int32.le_iff_toInt_le] at c11; omega
            rw [it_z (ct_1 cond nl)]
            obtain ⟨g1, g2, g3, g4⟩ := E_X1_catchSome_4 k (upd W 10 (sdW (W 10))) (i + 1) m C3 D (by rw [hx, nI_1]) (by rw [w0]; omega) hf
            exact ⟨g1, g2, frRL_tr (frRL_tr (frRL_R f2) (frRL_L b2)) g3, g4.trans (b3.trans d3)⟩
          · skip
            replace hf := jbind hf
            obtain ⟨v52, e12, hf⟩ := hf
            have r12 := oc_gI e12
            subst r12
            clear e12
            replace hf := jbind hf
            obtain ⟨v57, e13, hf⟩ := hf
            replace hf := jbind hf
            obtain ⟨h60, e14, hf⟩ := hf
            obtain ⟨o14, z14⟩ := oc_pf e14
            clear e14
            replace hf := jbind hf
            obtain ⟨p64, e15, hf⟩ := hf
            have r15 := oc_gR e15
            rw [o14] at r15
            rw [u2_ne (Or.inr (by decide))] at r15
            rw [s4c] at r15
            cases r15
            clear e15
            replace hf := jbind hf
            obtain ⟨h71, e16, hf⟩ := hf
            replace e16 := (jcv_o e16).2
            -- leaf 1001: rc4 a0 a1 (x2 + (1 : Int32)) (x3 + (1 : Int32)) h71
            replace e6 := Option.some.inj (show some ((jushr (oi (oc h) a1 9) x3) &&& (1 : Int32)) = some v27 from e6)
            rw [hx, bitW (by omega) (RB i hi).2.2.2.2.2.2.2 (K.2.1 i hi).2.2.2.2.2.2.2] at e6
            have cond : ((i : Int) + 1 < (W 0).toInt ∧ W (11 + 8 * (i + 1)) - W (11 + 8 * i) = 1) ∧ W (18 + 8 * i) ≠ 1 := by
              have lt : (i : Int) + 1 < (W 0).toInt := Classical.byContradiction fun z => by rw [r3, if_neg z] at c4; exact absurd c4 (by decide)
              rw [r3, if_pos lt] at c4
              exact ⟨⟨lt, c4⟩, by rw [e6, c7]; decide⟩
            obtain ⟨m, rfl⟩ : ∃ p, m = p + 1 := ⟨m - 1, by omega⟩
            have nl : rnW (sdW (W 10)) < byW (upd W 10 (sdW (W 10))) 1 i := by rw [← d1, ← b1, Int32.lt_iff_toInt_lt]; rw [Int32.le_iff_toInt_le] at c11; omega
            rw [it_s (ct_2 cond nl)]
            replace e13 := Option.some.inj (show some (oi (oc q44.2) a1 9 ||| ((1 : Int32) <<< (x3 &&& 31))) = some v57 from e13)
            have R4 : rodE (oc h60) a1 (upd (upd W 10 (sdW (W 10))) (18 + 8 * i) 1) := by
              rw [o14]
              exact rodE_ct Rc (by rw [w0]; exact hi) (by omega) (bit_y (by omega) (by rw [← e13, hx])) (by rw [w0]; exact K0)
            have f4 : frR a1 (oc q44.2) (oc h60) := by rw [o14]; exact frR_u2 (by omega)
            have K4 : wOK (upd (upd W 10 (sdW (W 10))) (18 + 8 * i) 1) := wOK_ct Kc (Or.inr ⟨rfl, by rw [w0]; exact cond.1.1⟩)
            have w4 : upd (upd W 10 (sdW (W 10))) (18 + 8 * i) 1 0 = W 0 := (upd_ne (by omega)).trans w0
            obtain ⟨R5, f5, z5⟩ := E_X5_add (r := i) (kind := 1) (far := 0) rfl R4 K4 hx (by rw [w4]; exact hi) rfl (by decide) rfl (by decide) e16
            have C5 := clk_R C3 D (frR_tr f4 f5) R5 (wOK_tl K4) (fun k hk => (tlW_n (by omega)).trans (upd_ne (by omega)))
            obtain ⟨g1, g2, g3, g4⟩ := E_X1_catchSome_4 k _ (i + 1) m C5 D (by rw [hx, nI_1]) (by rw [tlW_n (Or.inl (by omega)), w4]; omega) hf
            exact ⟨g1, g2, frRL_tr (frRL_tr (frRL_tr (frRL_R f2) (frRL_L b2)) (frRL_R (frR_tr f4 f5))) g3, g4.trans (z5.trans (z14.trans (b3.trans d3)))⟩
        · skip
          -- leaf 101: rc4 a0 a1 x2 (x3 + (1 : Int32)) h
          replace e6 := Option.some.inj (show some ((jushr (oi (oc h) a1 9) x3) &&& (1 : Int32)) = some v27 from e6)
          rw [hx, bitW (by omega) (RB i hi).2.2.2.2.2.2.2 (K.2.1 i hi).2.2.2.2.2.2.2] at e6
          obtain ⟨m, rfl⟩ : ∃ p, m = p + 1 := ⟨m - 1, by omega⟩
          rw [it_z (ct_0 (fun z => by have := (K.2.1 i hi).2.2.2.2.2.2.2; rw [e6] at this z; exact z.2 (this.resolve_left c7)))]
          exact E_X1_catchSome_4 k W (i + 1) m C D (by rw [hx, nI_1]) (by omega) hf
      · skip
        -- leaf 11: rc4 a0 a1 x2 (x3 + (1 : Int32)) h
        obtain ⟨m, rfl⟩ : ∃ p, m = p + 1 := ⟨m - 1, by omega⟩
        rw [it_z (ct_0 (fun z => c4 (by rw [r3, if_pos z.1.1]; exact z.1.2)))]
        exact E_X1_catchSome_4 k W (i + 1) m C D (by rw [hx, nI_1]) (by omega) hf
theorem E_X1_dropSome_4 {n : Nat} {l : Nat} : ∀ (k : Nat) {a0 : Nat} {a1 : Nat} {x2 : Int32} {x3 : Int32} {h : jH} {q : Int32 × jH} (W : jWd) (i : Nat) (m : Nat) (C : clkE (oc h) a0 l a1 W) (D : clkD a0 l a1) (hx : x3 = nI i) (hm : ((i + m : Nat) : Int) = (W 0).toInt), F_X1_dropSome_4 n k a0 a1 x2 x3 h = some q → clkE (oc q.2) a0 l a1 (itW fl1 i m W x2).1 ∧ q.1 = (itW fl1 i m W x2).2 ∧ frRL a1 l (oc h) (oc q.2) ∧ q.2.1 = h.1
  | 0, a0, a1, x2, x3, h, q, W, i, m, C, D, hx, hm, hf => by cases hf
  | k + 1, a0, a1, x2, x3, h, q, W, i, m, C, D, hx, hm, hf => by
    replace hf : F_X1_dropSome_4_b n (F_X1_dropSome_4 n k) a0 a1 x2 x3 h = some q := hf
    unfold F_X1_dropSome_4_b at hf
    obtain ⟨C1, R, LE, K⟩ := id C
    obtain ⟨⟨s0, s1, s2, s3, s4, s5⟩, ⟨u5, u10, u11, u12, u13, u14, u15, u16, u17⟩, RB, RC, RL⟩ := id R
    have K0 := K.1
    replace hf := jbind hf
    obtain ⟨v6, e1, hf⟩ := hf
    have r1 := oc_gI e1
    subst r1
    clear e1
    replace hf := jite hf
    rcases hf with ⟨c2, hf⟩ | ⟨c2, hf⟩
    · skip
      cases hf
      -- leaf 0: (x2, h)
      rw [hx, u5, nI_eI (by omega)] at c2
      have : m = 0 := by omega
      subst this
      exact ⟨C, rfl, frRL_rfl, rfl⟩
    · skip
      replace hf := jbind hf
      obtain ⟨v13, e3, hf⟩ := hf
      have r3 := oc_gI e3
      subst r3
      clear e3
      replace hf := jbind hf
      obtain ⟨v17, e4, hf⟩ := hf
      replace hf := jite hf
      rcases hf with ⟨c5, hf⟩ | ⟨c5, hf⟩
      · skip
        replace hf := jbind hf
        obtain ⟨q25, e6, hf⟩ := hf
        have hi : (i : Int) < (W 0).toInt := by rw [hx, u5, nI_eI (by omega)] at c2; omega
        obtain ⟨d1, d2, d3⟩ := E_X1_draw R e6
        have f2 : frR a1 (oc h) (oc q25.2) := by rw [d2]; exact frR_u2 (by omega)
        have C2 : clkE (oc q25.2) a0 l a1 (upd W 10 (sdW (W 10))) := clk_R C D f2 (by rw [d2]; exact rodE_i16 R) (wOK_10 K) (fun k hk => upd_ne (by omega))
        obtain ⟨C1b, Rb, LEb, Kb⟩ := id C2
        obtain ⟨⟨s0b, s1b, s2b, s3b, s4b, s5b⟩, ⟨u5b, u10b, u11b, u12b, u13b, u14b, u15b, u16b, u17b⟩, RBb, RCb, RLb⟩ := id Rb
        replace hf := jbind hf
        obtain ⟨p29, e7, hf⟩ := hf
        have r7 := oc_gR e7
        rw [C1b] at r7
        cases r7
        clear e7
        replace hf := jbind hf
        obtain ⟨q35, e8, hf⟩ := hf
        replace e8 := (jcv_o e8).2
        have w0 : upd W 10 (sdW (W 10)) 0 = W 0 := upd_ne (by omega)
        obtain ⟨b1, b2, b3⟩ := E_X2_amount Rb Kb (by rw [w0]; exact hi) LEb D.1 hx e8
        have C3 := clk_L C2 D b2
        obtain ⟨C1c, Rc, LEc, Kc⟩ := id C3
        obtain ⟨⟨s0c, s1c, s2c, s3c, s4c, s5c⟩, ⟨u5c, u10c, u11c, u12c, u13c, u14c, u15c, u16c, u17c⟩, RBc, RCc, RLc⟩ := id Rc
        replace hf := jite hf
        rcases hf with ⟨c9, hf⟩ | ⟨c9, hf⟩
        · skip
          -- leaf 100: rc4 a0 a1 x2 (x3 + (1 : Int32)) q35.2
          replace e4 := Option.some.inj (show some ((jushr (oi (oc h) a1 8) x3) &&& (1 : Int32)) = some v17 from e4)
          rw [hx, bitW (by omega) (RB i hi).2.2.2.2.2.2.1 (K.2.1 i hi).2.2.2.2.2.2.1] at e4
          have cond : W (17 + 8 * i) = 1 := e4.trans c5
          obtain ⟨m, rfl⟩ : ∃ p, m = p + 1 := ⟨m - 1, by omega⟩
          have nl : ¬ rnW (sdW (W 10)) < byW (upd W 10 (sdW (W 10))) 2 i := by rw [← d1, ← b1, Int32.lt_iff_toInt_lt]; rw [Int32.le_iff_toInt_le] at c9; omega
          rw [it_z (fl_1 cond nl)]
          obtain ⟨g1, g2, g3, g4⟩ := E_X1_dropSome_4 k (upd W 10 (sdW (W 10))) (i + 1) m C3 D (by rw [hx, nI_1]) (by rw [w0]; omega) hf
          exact ⟨g1, g2, frRL_tr (frRL_tr (frRL_R f2) (frRL_L b2)) g3, g4.trans (b3.trans d3)⟩
        · skip
          replace hf := jbind hf
          obtain ⟨v43, e10, hf⟩ := hf
          have r10 := oc_gI e10
          subst r10
          clear e10
          replace hf := jbind hf
          obtain ⟨v48, e11, hf⟩ := hf
          replace hf := jbind hf
          obtain ⟨h51, e12, hf⟩ := hf
          obtain ⟨o12, z12⟩ := oc_pf e12
          clear e12
          replace hf := jbind hf
          obtain ⟨p55, e13, hf⟩ := hf
          have r13 := oc_gR e13
          rw [o12] at r13
          rw [u2_ne (Or.inr (by decide))] at r13
          rw [s4c] at r13
          cases r13
          clear e13
          replace hf := jbind hf
          obtain ⟨h62, e14, hf⟩ := hf
          replace e14 := (jcv_o e14).2
          -- leaf 101: rc4 a0 a1 (x2 + (1 : Int32)) (x3 + (1 : Int32)) h62
          replace e4 := Option.some.inj (show some ((jushr (oi (oc h) a1 8) x3) &&& (1 : Int32)) = some v17 from e4)
          rw [hx, bitW (by omega) (RB i hi).2.2.2.2.2.2.1 (K.2.1 i hi).2.2.2.2.2.2.1] at e4
          have cond : W (17 + 8 * i) = 1 := e4.trans c5
          obtain ⟨m, rfl⟩ : ∃ p, m = p + 1 := ⟨m - 1, by omega⟩
          have nl : rnW (sdW (W 10)) < byW (upd W 10 (sdW (W 10))) 2 i := by rw [← d1, ← b1, Int32.lt_iff_toInt_lt]; rw [Int32.le_iff_toInt_le] at c9; omega
          rw [it_s (fl_2 cond nl)]
          replace e11 := Option.some.inj (show some (oi (oc q35.2) a1 8 &&& (((1 : Int32) <<< (x3 &&& 31)) ^^^ (-1 : Int32))) = some v48 from e11)
          have R4 : rodE (oc h51) a1 (upd (upd W 10 (sdW (W 10))) (17 + 8 * i) 0) := by
            rw [o12]
            exact rodE_hk Rc (by rw [w0]; exact hi) (by omega) (bit_n (by omega) (by rw [← e11, hx])) (by rw [w0]; exact K0)
          have f4 : frR a1 (oc q35.2) (oc h51) := by rw [o12]; exact frR_u2 (by omega)
          have K4 : wOK (upd (upd W 10 (sdW (W 10))) (17 + 8 * i) 0) := wOK_hk Kc (Or.inl rfl)
          have w4 : upd (upd W 10 (sdW (W 10))) (17 + 8 * i) 0 0 = W 0 := (upd_ne (by omega)).trans w0
          obtain ⟨R5, f5, z5⟩ := E_X5_add (r := i) (kind := 2) (far := 0) rfl R4 K4 hx (by rw [w4]; exact hi) rfl (by decide) rfl (by decide) e14
          have C5 := clk_R C3 D (frR_tr f4 f5) R5 (wOK_tl K4) (fun k hk => (tlW_n (by omega)).trans (upd_ne (by omega)))
          obtain ⟨g1, g2, g3, g4⟩ := E_X1_dropSome_4 k _ (i + 1) m C5 D (by rw [hx, nI_1]) (by rw [tlW_n (Or.inl (by omega)), w4]; omega) hf
          exact ⟨g1, g2, frRL_tr (frRL_tr (frRL_tr (frRL_R f2) (frRL_L b2)) (frRL_R (frR_tr f4 f5))) g3, g4.trans (z5.trans (z12.trans (b3.trans d3)))⟩
      · skip
        -- leaf 11: rc4 a0 a1 x2 (x3 + (1 : Int32)) h
        have hi : (i : Int) < (W 0).toInt := by rw [hx, u5, nI_eI (by omega)] at c2; omega
        replace e4 := Option.some.inj (show some ((jushr (oi (oc h) a1 8) x3) &&& (1 : Int32)) = some v17 from e4)
        rw [hx, bitW (by omega) (RB i hi).2.2.2.2.2.2.1 (K.2.1 i hi).2.2.2.2.2.2.1] at e4
        obtain ⟨m, rfl⟩ : ∃ p, m = p + 1 := ⟨m - 1, by omega⟩
        rw [it_z (fl_0 (fun z => c5 (e4.symm.trans z)))]
        exact E_X1_dropSome_4 k W (i + 1) m C D (by rw [hx, nI_1]) (by omega) hf
end
section
/-! whole hours -/
def cN (W : jWd) : Nat := (W 0).toInt.toNat
noncomputable def hrW (calm : Bool) (W : jWd) : jWd × Int32 :=
  if calm = true then (tuW (itW fd1 0 (cN W) W 0).1, 0)
  else (tuW (itW fl1 0 (cN (itW ct1 0 (cN (itW fd1 0 (cN W) W 0).1) (itW fd1 0 (cN W) W 0).1 0).1) (itW ct1 0 (cN (itW fd1 0 (cN W) W 0).1) (itW fd1 0 (cN W) W 0).1 0).1 0).1,
    (itW ct1 0 (cN (itW fd1 0 (cN W) W 0).1) (itW fd1 0 (cN W) W 0).1 0).2 + (itW fl1 0 (cN (itW ct1 0 (cN (itW fd1 0 (cN W) W 0).1) (itW fd1 0 (cN W) W 0).1 0).1) (itW ct1 0 (cN (itW fd1 0 (cN W) W 0).1) (itW fd1 0 (cN W) W 0).1 0).1 0).2)
noncomputable def hrs (calm : Bool) : Nat → jWd → Int32 → jWd × Int32
  | 0, W, a => (W, a)
  | m + 1, W, a => hrs calm m (hrW calm W).1 (a + (hrW calm W).2)
theorem cN_m {W : jWd} (K : wOK W) : ((0 + cN W : Nat) : Int) = (W 0).toInt := by
  have := K.1
  unfold cN
  omega
theorem tuW_n {W : jWd} {k : Nat} (h3 : k ≠ 3) (h4 : k ≠ 4) : tuW W k = W k := by
  unfold tuW
  by_cases c : (W 3).toInt < 7
  · rw [if_pos c, upd_ne h3]
  · rw [if_neg c, upd_ne h4, upd_ne h3]
theorem hr_f {W : jWd} : hrW false W = (tuW (itW fl1 0 (cN (itW ct1 0 (cN (itW fd1 0 (cN W) W 0).1) (itW fd1 0 (cN W) W 0).1 0).1) (itW ct1 0 (cN (itW fd1 0 (cN W) W 0).1) (itW fd1 0 (cN W) W 0).1 0).1 0).1,
    (itW ct1 0 (cN (itW fd1 0 (cN W) W 0).1) (itW fd1 0 (cN W) W 0).1 0).2 + (itW fl1 0 (cN (itW ct1 0 (cN (itW fd1 0 (cN W) W 0).1) (itW fd1 0 (cN W) W 0).1 0).1) (itW ct1 0 (cN (itW fd1 0 (cN W) W 0).1) (itW fd1 0 (cN W) W 0).1 0).1 0).2) := if_neg (by decide)
theorem hr_t {W : jWd} : hrW true W = (tuW (itW fd1 0 (cN W) W 0).1, 0) := if_pos rfl
theorem E_X1_turn {W : jWd} {n : Nat} {a0 : Nat} {h : jH} {q : jH} (R : rodE (oc h) a0 W) (K : wOK W) (hf : F_X1_turn n a0 h = some q) : rodE (oc q) a0 (tuW W) ∧ frR a0 (oc h) (oc q) ∧ q.1 = h.1 := by
  unfold F_X1_turn at hf
  obtain ⟨⟨s0, s1, s2, s3, s4, s5⟩, ⟨u5, u10, u11, u12, u13, u14, u15, u16, u17⟩, RB, RC, RL⟩ := id R
  have k3 := K.2.2.2.2.1
  have k4 := K.2.2.2.2.2.1
  have l8 : (8 : Int32).toInt = 8 := rfl
  have l1 : (1 : Int32).toInt = 1 := rfl
  replace hf := jbind hf
  obtain ⟨v2, e1, hf⟩ := hf
  have r1 := oc_gI e1
  subst r1
  clear e1
  replace hf := jbind hf
  obtain ⟨h7, e2, hf⟩ := hf
  obtain ⟨o2, z2⟩ := oc_pf e2
  clear e2
  replace hf := jbind hf
  obtain ⟨v11, e3, hf⟩ := hf
  have r3 := oc_gI e3
  rw [o2] at r3
  rw [oi_eq] at r3
  subst r3
  clear e3
  replace hf := jite hf
  rcases hf with ⟨c4, hf⟩ | ⟨c4, hf⟩
  · skip
    cases hf
    -- leaf 0: h7
    rw [u13, Int32.lt_iff_toInt_lt, jadd (by omega) (by omega), l8] at c4
    have l1 : (1 : Int32).toInt = 1 := rfl
    rw [u13] at o2
    have e : tuW W = upd W 3 (W 3 + 1) := if_pos (by omega)
    rw [e]
    exact ⟨by rw [o2]; exact rodE_i13 R, by rw [o2]; exact frR_u2 (by omega), z2⟩
  · skip
    replace hf := jbind hf
    obtain ⟨h21, e5, hf⟩ := hf
    obtain ⟨o5, z5⟩ := oc_pf e5
    clear e5
    replace hf := jbind hf
    obtain ⟨v29, e6, hf⟩ := hf
    have r6 := oc_gI e6
    rw [o5] at r6
    rw [oi_ne (Or.inr (by decide))] at r6
    rw [o2] at r6
    rw [oi_ne (Or.inr (by decide))] at r6
    subst r6
    clear e6
    replace hf := jbind hf
    obtain ⟨h37, e7, hf⟩ := hf
    obtain ⟨o7, z7⟩ := oc_pf e7
    clear e7
    cases hf
    -- leaf 1: h37
    rw [u13, Int32.lt_iff_toInt_lt, jadd (by omega) (by omega), l8] at c4
    have l1 : (1 : Int32).toInt = 1 := rfl
    rw [u14] at o7
    have e : tuW W = upd (upd W 3 0) 4 (if W 4 + 1 < (9999 : Int32) then W 4 + 1 else 9999) := if_neg (by omega)
    rw [e]
    have f : frR a0 (oc h) (oc q) := by rw [o7, o5, o2]; exact frR_tr (frR_tr (frR_u2 (by omega)) (frR_u2 (by omega))) (frR_u2 (by omega))
    refine ⟨?_, f, z7.trans (z5.trans z2)⟩
    have R2 : rodE (oc h7) a0 (upd W 3 (oi (oc h) a0 13 + 1)) := by rw [o2]; exact rodE_i13 R
    have R3 : rodE (oc h21) a0 (upd W 3 0) := by have := rodE_i13 (x := 0) R2; rw [upd_upd] at this; rw [o5]; exact this
    rw [o7]
    exact rodE_i14 R3
theorem E_X1_fadeAll {l : Nat} {W : jWd} {n : Nat} {a0 : Nat} {a1 : Nat} {h : jH} {q : jH} (C : clkE (oc h) a0 l a1 W) (D : clkD a0 l a1) (hf : F_X1_fadeAll n a0 a1 h = some q) : clkE (oc q) a0 l a1 (itW fd1 0 (cN W) W 0).1 ∧ frRL a1 l (oc h) (oc q) ∧ q.1 = h.1 := by
  unfold F_X1_fadeAll at hf
  -- leaf : F_X1_fadeAll_2 n n a0 a1 (0 : Int32) h
  exact E_X1_fadeAll_2 n W 0 (cN W) C D rfl (cN_m C.2.2.2) hf
theorem E_X1_catchSome {l : Nat} {W : jWd} {n : Nat} {a0 : Nat} {a1 : Nat} {h : jH} {q : Int32 × jH} (C : clkE (oc h) a0 l a1 W) (D : clkD a0 l a1) (hf : F_X1_catchSome n a0 a1 h = some q) : clkE (oc q.2) a0 l a1 (itW ct1 0 (cN W) W 0).1 ∧ q.1 = (itW ct1 0 (cN W) W 0).2 ∧ frRL a1 l (oc h) (oc q.2) ∧ q.2.1 = h.1 := by
  unfold F_X1_catchSome at hf
  -- leaf : F_X1_catchSome_4 n n a0 a1 (0 : Int32) (0 : Int32) h
  exact E_X1_catchSome_4 n W 0 (cN W) C D rfl (cN_m C.2.2.2) hf
theorem E_X1_dropSome {l : Nat} {W : jWd} {n : Nat} {a0 : Nat} {a1 : Nat} {h : jH} {q : Int32 × jH} (C : clkE (oc h) a0 l a1 W) (D : clkD a0 l a1) (hf : F_X1_dropSome n a0 a1 h = some q) : clkE (oc q.2) a0 l a1 (itW fl1 0 (cN W) W 0).1 ∧ q.1 = (itW fl1 0 (cN W) W 0).2 ∧ frRL a1 l (oc h) (oc q.2) ∧ q.2.1 = h.1 := by
  unfold F_X1_dropSome at hf
  -- leaf : F_X1_dropSome_4 n n a0 a1 (0 : Int32) (0 : Int32) h
  exact E_X1_dropSome_4 n W 0 (cN W) C D rfl (cN_m C.2.2.2) hf
theorem E_X1_run_5 {n : Nat} {l : Nat} : ∀ (k : Nat) {a0 : Nat} {a1 : Nat} {x2 : Int32} {x3 : Int32} {x4 : Int32} {h : jH} {q : Int32 × jH} (W : jWd) (t : Nat) (m : Nat) (C : clkE (oc h) a0 l a1 W) (D : clkD a0 l a1) (hn : t + m < 1000) (h2 : x2 = nI (t + m)) (h4 : x4 = nI t), F_X1_run_5 n k a0 a1 x2 x3 x4 h = some q → clkE (oc q.2) a0 l a1 (hrs false m W x3).1 ∧ q.1 = (hrs false m W x3).2 ∧ frRL a1 l (oc h) (oc q.2) ∧ q.2.1 = h.1
  | 0, a0, a1, x2, x3, x4, h, q, W, t, m, C, D, hn, h2, h4, hf => by cases hf
  | k + 1, a0, a1, x2, x3, x4, h, q, W, t, m, C, D, hn, h2, h4, hf => by
    replace hf : F_X1_run_5_b n (F_X1_run_5 n k) a0 a1 x2 x3 x4 h = some q := hf
    unfold F_X1_run_5_b at hf
    replace hf := jite hf
    rcases hf with ⟨c1, hf⟩ | ⟨c1, hf⟩
    · skip
      cases hf
      -- leaf 0: (x3, h)
      rw [h2, h4, Int32.le_iff_toInt_le, nI_toInt (by omega), nI_toInt (by omega)] at c1
      have : m = 0 := by omega
      subst this
      exact ⟨C, rfl, frRL_rfl, rfl⟩
    · skip
      replace hf := jbind hf
      obtain ⟨h13, e2, hf⟩ := hf
      replace e2 := (jcv_o e2).2
      replace hf := jbind hf
      obtain ⟨q19, e3, hf⟩ := hf
      replace e3 := (jcv_o e3).2
      replace hf := jbind hf
      obtain ⟨q24, e4, hf⟩ := hf
      replace e4 := (jcv_o e4).2
      replace hf := jbind hf
      obtain ⟨h31, e5, hf⟩ := hf
      -- leaf 1: rc5 a0 a1 x2 (x3 + (q19.1 + q24.1)) (x4 + (1 : Int32)) h31
      rw [h2, h4, Int32.le_iff_toInt_le, nI_toInt (by omega), nI_toInt (by omega)] at c1
      obtain ⟨m, rfl⟩ : ∃ p, m = p + 1 := ⟨m - 1, by omega⟩
      obtain ⟨A1, A2, A3⟩ := E_X1_fadeAll C D e2
      obtain ⟨W1, hW1⟩ : ∃ p, p = (itW fd1 0 (cN W) W 0).1 := ⟨_, rfl⟩
      rw [← hW1] at A1
      obtain ⟨B1, B2, B3, B4⟩ := E_X1_catchSome A1 D e3
      obtain ⟨P2, hP2⟩ : ∃ p, p = itW ct1 0 (cN W1) W1 0 := ⟨_, rfl⟩
      rw [← hP2] at B1 B2
      obtain ⟨D1, D2, D3, D4⟩ := E_X1_dropSome B1 D e4
      obtain ⟨P3, hP3⟩ : ∃ p, p = itW fl1 0 (cN P2.1) P2.1 0 := ⟨_, rfl⟩
      rw [← hP3] at D1 D2
      obtain ⟨T1, T2, T3⟩ := E_X1_turn D1.2.1 D1.2.2.2 e5
      have hh : hrW false W = (tuW P3.1, P2.2 + P3.2) := by rw [hr_f, ← hW1, ← hP2, ← hP3]
      have C5 : clkE (oc h31) a0 l a1 (hrW false W).1 := by rw [hh]; exact clk_R D1 D T2 T1 (wOK_tu D1.2.2.2) (fun k hk => tuW_n (by omega) (by omega))
      obtain ⟨g1, g2, g3, g4⟩ := E_X1_run_5 k (hrW false W).1 (t + 1) m C5 D (by omega) (by rw [h2]; congr 1; omega) (by rw [h4, nI_1]) hf
      rw [show q19.1 + q24.1 = (hrW false W).2 by rw [hh, B2, D2]] at g1 g2
      exact ⟨g1, g2, frRL_tr (frRL_tr (frRL_tr (frRL_tr A2 B3) D3) (frRL_R T2)) g3, g4.trans (T3.trans (D4.trans (B4.trans A3)))⟩
theorem E_X1_run {l : Nat} {W : jWd} {m : Nat} {n : Nat} {a0 : Nat} {a1 : Nat} {x2 : Int32} {h : jH} {q : Int32 × jH} (C : clkE (oc h) a0 l a1 W) (D : clkD a0 l a1) (hn : m < 1000) (h2 : x2 = nI m) (hf : F_X1_run n a0 a1 x2 h = some q) : clkE (oc q.2) a0 l a1 (hrs false m W 0).1 ∧ q.1 = (hrs false m W 0).2 ∧ frRL a1 l (oc h) (oc q.2) ∧ q.2.1 = h.1 := by
  unfold F_X1_run at hf
  -- leaf : F_X1_run_5 n n a0 a1 x2 (0 : Int32) (0 : Int32) h
  exact E_X1_run_5 n W 0 m C D (by omega) (by rw [h2]; congr 1; omega) rfl hf
end
section
/-! hours of the reference -/
theorem lawK_cg {W W2 : jWd} (L : lawK W) (h : ∀ k, k = 2 ∨ 435 ≤ k → W2 k = W k) : lawK W2 := by
  obtain ⟨a, b⟩ := L
  unfold lawK
  rw [h 2 (Or.inl rfl), h 435 (Or.inr (by omega))]
  refine ⟨a, fun z => ⟨(b z).1, fun i hi => ?_⟩⟩
  obtain ⟨c1, c2, c3, c4⟩ := (b z).2 i hi
  rw [h (438 + 4 * i) (by omega), h (439 + 4 * i) (by omega), tyR_cg (fun k hk => h k (Or.inr hk))]
  exact ⟨c1, c2, c3, c4⟩
theorem lawB_cg {W W2 : jWd} (L : lawB W) (h : ∀ k, k = 2 ∨ 435 ≤ k → W2 k = W k) : lawB W2 := by
  intro z i hi
  rw [h 2 (Or.inl rfl)] at z
  rw [h 435 (Or.inr (by omega))] at hi
  rw [h (437 + 4 * i) (by omega)]
  exact L z i hi
theorem b_32767 : ∀ i, i < 32 → bt 32767 i = decide (i < 15) := by decide +kernel
theorem rn_eq {s : Int32} : (s >>> ((16 : Int32) &&& 31)) &&& (32767 : Int32) = (jushr s (16 : Int32)) &&& (32767 : Int32) := by
  refine b_ext fun i hi => ?_
  rw [b_and, b_and, b_32767 i hi]
  have a : bt (s >>> ((16 : Int32) &&& 31)) i = if 16 + i < 32 then bt s (16 + i) else bt s 31 := b_sshr 16 (by decide) s hi
  have b : bt (jushr s (16 : Int32)) i = bt s (16 + i) := b_ushr 16 (by decide) s i
  rw [a, b]
  by_cases c : i < 15
  · rw [if_pos (by omega)]
  · rw [decide_eq_false c, Bool.and_false, Bool.and_false]
/-- the reference at m tells the world -/
def rkE (O : jO) (m : Nat) (W : jWd) : Prop := mS O m ∧ wl O m = W ∧ wOK W ∧ lawK W ∧ lawB W
theorem rk_w {O O2 : jO} {m : Nat} {W W2 : jWd} (C : rkE O m W) (f : frM m [1, 8] [] O O2) (w : wl O2 m = W2) (K : wOK W2) (h : ∀ k, k = 2 ∨ 435 ≤ k → W2 k = W k) : rkE O2 m W2 :=
  ⟨mS_fr C.1 f (by decide) (by decide), w, K, lawK_cg C.2.2.2.1 h, lawB_cg C.2.2.2.2 h⟩
theorem wl_8 {O O2 : jO} {m : Nat} (f : frM m [8] [] O O2) : wl O2 m = wl O m := by
  funext k
  exact oi_M f (fun c hc q => by simp at hc; omega) (fun _ => by simp)
theorem rk_8 {O O2 : jO} {m : Nat} {W : jWd} (C : rkE O m W) (f : frM m [8] [] O O2) : rkE O2 m W :=
  ⟨mS_fr C.1 f (by decide) (by decide), (wl_8 f).trans C.2.1, C.2.2⟩
theorem f8 {O O2 : jO} {m : Nat} (f : frM m [8] [] O O2) : frM m [1, 8] [] O O2 := frM_le f (fun c h => by simp at h ⊢; omega) (fun c h => by cases h)
theorem f1 {O O2 : jO} {m : Nat} (f : frM m [1] [] O O2) : frM m [1, 8] [] O O2 := frM_le f (fun c h => by simp at h ⊢; omega) (fun c h => by cases h)
theorem E_X12_drawn {W : jWd} {n : Nat} {a0 : Nat} {x1 : Int32} {h : jH} {q : Int32 × jH} (C : rkE (oc h) a0 W) (hx : x1 = 100) (hf : F_X12_drawn n a0 x1 h = some q) : q.1 = rnW (sdW (W 10)) ∧ wl (oc q.2) a0 = upd W 10 (sdW (W 10)) ∧ frM a0 [1, 8] [] (oc h) (oc q.2) ∧ q.2.1 = h.1 := by
  unfold F_X12_drawn at hf
  have M := C.1
  have hW := C.2.1
  obtain ⟨s1, s2, s3, s4, s5, s8, s15, s17, s19, s20, s21⟩ := id M
  subst hx
  replace hf := jbind hf
  obtain ⟨p1, e1, hf⟩ := hf
  have r1 := oc_gR e1
  rw [s1] at r1
  cases r1
  clear e1
  replace hf := jbind hf
  obtain ⟨p9, e2, hf⟩ := hf
  have r2 := oc_gR e2
  rw [s1] at r2
  cases r2
  clear e2
  replace hf := jbind hf
  obtain ⟨v14, e3, hf⟩ := hf
  obtain ⟨r3, y3⟩ := oc_al e3
  rw [show (10 : Int32).toNatClampNeg = 10 from rfl] at r3
  subst r3
  clear e3
  replace hf := jbind hf
  obtain ⟨h20, e4, hf⟩ := hf
  obtain ⟨o4, z4, y4⟩ := oc_as e4
  rw [jnar0] at o4
  rw [show (10 : Int32).toNatClampNeg = 10 from rfl] at o4
  clear e4
  replace hf := jbind hf
  obtain ⟨p22, e5, hf⟩ := hf
  have r5 := oc_gR e5
  rw [o4] at r5
  rw [u2_ne (Or.inl (by omega))] at r5
  rw [s1] at r5
  cases r5
  clear e5
  replace hf := jbind hf
  obtain ⟨v27, e6, hf⟩ := hf
  obtain ⟨r6, y6⟩ := oc_al e6
  rw [show (10 : Int32).toNatClampNeg = 10 from rfl] at r6
  rw [o4] at r6
  rw [oi_eq] at r6
  subst r6
  clear e6
  replace hf := jite hf
  rcases hf with ⟨c7, hf⟩ | ⟨c7, hf⟩
  · skip
    cases hf
  · skip
    cases hf
    -- leaf 1: (((v27 >>> ((16 : Int32) &&& 31)) &&& (32767 : Int32)) - ((v27 >>> ((16 : Int32) &&& 31)) &&& (32767
    have w10 : oi (oc h) (a0 + 1) 10 = W 10 := by rw [← hW]
    rw [w10] at o4
    refine ⟨?_, ?_, ?_, z4⟩
    · show _ = rnW (sdW (W 10))
      unfold rnW
      rw [← rn_eq, ← w10]
      rfl
    · rw [o4, wl_w, hW]
      rfl
    · rw [o4]
      exact frM_c (by decide)
theorem E_X12_catches_4 {n : Nat} : ∀ (k : Nat) {a0 : Nat} {x1 : Int32} {x2 : Int32} {h : jH} {q : Int32 × jH} (W : jWd) (i : Nat) (m : Nat) (C : rkE (oc h) a0 W) (hx : x2 = nI i) (hm : ((i + m : Nat) : Int) = (W 0).toInt), F_X12_catches_4 n k a0 x1 x2 h = some q → rkE (oc q.2) a0 (itW ct1 i m W x1).1 ∧ q.1 = (itW ct1 i m W x1).2 ∧ frM a0 [1, 8] [] (oc h) (oc q.2) ∧ q.2.1 = h.1
  | 0, a0, x1, x2, h, q, W, i, m, C, hx, hm, hf => by cases hf
  | k + 1, a0, x1, x2, h, q, W, i, m, C, hx, hm, hf => by
    replace hf : F_X12_catches_4_b n (F_X12_catches_4 n k) a0 x1 x2 h = some q := hf
    unfold F_X12_catches_4_b at hf
    obtain ⟨M, hW, K, LK, LB⟩ := id C
    obtain ⟨s1, s2, s3, s4, s5, s8, s15, s17, s19, s20, s21⟩ := id M
    have K0 := K.1
    have l1 : (1 : Int32).toInt = 1 := rfl
    replace hf := jbind hf
    obtain ⟨v6, e1, hf⟩ := hf
    replace e1 := (jcv_o e1).2
    have r1 := E_X12_lastRing M e1
    rw [hW] at r1
    subst r1
    replace hf := jite hf
    rcases hf with ⟨c2, hf⟩ | ⟨c2, hf⟩
    · skip
      cases hf
      -- leaf 0: (x1, h)
      rw [hx, nI_eI (by omega), jsub (by omega) (by omega)] at c2
      by_cases m0 : m = 0
      · subst m0; exact ⟨C, rfl, frM_rfl, rfl⟩
      · have m1 : m = 0 + 1 := by omega
        subst m1
        rw [it_z (ct_0 (fun z => by omega))]
        exact ⟨C, rfl, frM_rfl, rfl⟩
    · skip
      replace hf := jbind hf
      obtain ⟨v14, e3, hf⟩ := hf
      replace e3 := (jcv_o e3).2
      replace hf := jite hf
      rcases hf with ⟨c4, hf⟩ | ⟨c4, hf⟩
      · skip
        replace hf := jbind hf
        obtain ⟨v25, e5, hf⟩ := hf
        replace e5 := (jcv_o e5).2
        replace hf := jite hf
        rcases hf with ⟨c6, hf⟩ | ⟨c6, hf⟩
        · skip
          replace hf := jbind hf
          obtain ⟨q34, e7, hf⟩ := hf
          replace e7 := (jcv_o e7).2
          have hj : (i : Int) + 1 < (W 0).toInt := by rw [hx, nI_eI (by omega), jsub (by omega) (by omega)] at c2; omega
          have hi : (i : Int) < (W 0).toInt := by omega
          obtain ⟨d1, d2, d3, d4⟩ := E_X12_drawn C rfl e7
          have C2 : rkE (oc q34.2) a0 (upd W 10 (sdW (W 10))) := rk_w C d3 d2 (wOK_10 K) (fun k hk => upd_ne (by omega))
          replace hf := jbind hf
          obtain ⟨q40, e8, hf⟩ := hf
          replace e8 := (jcv_o e8).2
          have w0 : upd W 10 (sdW (W 10)) 0 = W 0 := upd_ne (by omega)
          obtain ⟨b1, b2, b3⟩ := E_X12_byLaw C2.1 C2.2.1 C2.2.2.1 (by rw [w0]; exact hi) C2.2.2.2.1 hx e8
          have C3 := rk_8 C2 b2
          have M3 := C3.1
          obtain ⟨s1b, -⟩ := id M3
          replace hf := jite hf
          rcases hf with ⟨c9, hf⟩ | ⟨c9, hf⟩
          · skip
            replace hf := jbind hf
            obtain ⟨p50, e10, hf⟩ := hf
            have r10 := oc_gR e10
            rw [s1b] at r10
            cases r10
            clear e10
            replace hf := jbind hf
            obtain ⟨v56, e11, hf⟩ := hf
            replace hf := jbind hf
            obtain ⟨h60, e12, hf⟩ := hf
            obtain ⟨o12, z12, y12⟩ := oc_as e12
            rw [jnar0] at o12
            clear e12
            replace hf := jbind hf
            obtain ⟨h65, e13, hf⟩ := hf
            replace e13 := (jcv_o e13).2
            -- leaf 1000: rc4 a0 (x1 + (1 : Int32)) (x2 + (1 : Int32)) h65
            have r3 := E_X12_gapOf M (by rw [hW]; exact K) hx (by rw [hW]; exact hi) e3
            rw [hW, if_pos hj] at r3
            have r5 := E_X12_is M (j := 7) (t := 18 + 8 * i) hx rfl (by omega) (by omega) e5
            rw [hW] at r5
            have cond : ((i : Int) + 1 < (W 0).toInt ∧ W (11 + 8 * (i + 1)) - W (11 + 8 * i) = 1) ∧ W (18 + 8 * i) ≠ 1 := ⟨⟨hj, r3.symm.trans c4⟩, fun z => absurd (c6.symm.trans (r5.2.mpr z)) (by decide)⟩
            obtain ⟨m, rfl⟩ : ∃ p, m = p + 1 := ⟨m - 1, by omega⟩
            have nl : rnW (sdW (W 10)) < byW (upd W 10 (sdW (W 10))) 1 i := by rw [← d1, ← b1]; exact c9
            rw [it_s (ct_2 cond nl)]
            have at9 := E_X12_at (i := i) (j := 7) (t := 18 + 8 * i) hx rfl (by omega) e11
            rw [at9, nI_cl (by omega)] at o12
            have f4 : frM a0 [1] [] (oc q40.2) (oc h60) := by rw [o12]; exact frM_c (by decide)
            have w4 : wl (oc h60) a0 = upd (upd W 10 (sdW (W 10))) (18 + 8 * i) 1 := by rw [o12, wl_w, C3.2.1]
            have K4 : wOK (upd (upd W 10 (sdW (W 10))) (18 + 8 * i) 1) := wOK_ct C3.2.2.1 (Or.inr ⟨rfl, by rw [w0]; exact cond.1.1⟩)
            have v4 : upd (upd W 10 (sdW (W 10))) (18 + 8 * i) 1 0 = W 0 := (upd_ne (by omega)).trans w0
            obtain ⟨t1, t2, t3⟩ := E_X12_tells (r := i) (mS_fr C3.1 f4 (by decide) (by decide)) w4 (by omega) hx e13
            have t1 : wl (oc h65) a0 = tlW (upd (upd W 10 (sdW (W 10))) (18 + 8 * i) 1) i (nI i) (nI 1) (nI 0) := by rw [t1, hx]; rfl
            have C5 := rk_w C3 (frM_tr (f1 f4) (f1 t2)) t1 (wOK_tl K4) (fun k hk => (tlW_n (by omega)).trans (upd_ne (by omega)))
            obtain ⟨g1, g2, g3, g4⟩ := E_X12_catches_4 k _ (i + 1) m C5 (by rw [hx, nI_1]) (by rw [tlW_n (Or.inl (by omega)), v4]; omega) hf
            exact ⟨g1, g2, frM_tr (frM_tr (frM_tr d3 (f8 b2)) (frM_tr (f1 f4) (f1 t2))) g3, g4.trans (t3.trans (z12.trans (b3.trans d4)))⟩
          · skip
            -- leaf 1001: rc4 a0 x1 (x2 + (1 : Int32)) q40.2
            have r3 := E_X12_gapOf M (by rw [hW]; exact K) hx (by rw [hW]; exact hi) e3
            rw [hW, if_pos hj] at r3
            have r5 := E_X12_is M (j := 7) (t := 18 + 8 * i) hx rfl (by omega) (by omega) e5
            rw [hW] at r5
            have cond : ((i : Int) + 1 < (W 0).toInt ∧ W (11 + 8 * (i + 1)) - W (11 + 8 * i) = 1) ∧ W (18 + 8 * i) ≠ 1 := ⟨⟨hj, r3.symm.trans c4⟩, fun z => absurd (c6.symm.trans (r5.2.mpr z)) (by decide)⟩
            obtain ⟨m, rfl⟩ : ∃ p, m = p + 1 := ⟨m - 1, by omega⟩
            have nl : ¬ rnW (sdW (W 10)) < byW (upd W 10 (sdW (W 10))) 1 i := by rw [← d1, ← b1]; exact c9
            rw [it_z (ct_1 cond nl)]
            obtain ⟨g1, g2, g3, g4⟩ := E_X12_catches_4 k (upd W 10 (sdW (W 10))) (i + 1) m C3 (by rw [hx, nI_1]) (by rw [w0]; omega) hf
            exact ⟨g1, g2, frM_tr (frM_tr d3 (f8 b2)) g3, g4.trans (b3.trans d4)⟩
        · skip
          -- leaf 101: rc4 a0 x1 (x2 + (1 : Int32)) h
          have hj : (i : Int) + 1 < (W 0).toInt := by rw [hx, nI_eI (by omega), jsub (by omega) (by omega)] at c2; omega
          have hi : (i : Int) < (W 0).toInt := by omega
          have r5 := E_X12_is M (j := 7) (t := 18 + 8 * i) hx rfl (by omega) (by omega) e5
          rw [hW] at r5
          obtain ⟨m, rfl⟩ : ∃ p, m = p + 1 := ⟨m - 1, by omega⟩
          rw [it_z (ct_0 (fun z => z.2 (r5.2.mp (r5.1.resolve_left c6))))]
          exact E_X12_catches_4 k W (i + 1) m C (by rw [hx, nI_1]) (by omega) hf
      · skip
        -- leaf 11: rc4 a0 x1 (x2 + (1 : Int32)) h
        have hj : (i : Int) + 1 < (W 0).toInt := by rw [hx, nI_eI (by omega), jsub (by omega) (by omega)] at c2; omega
        have hi : (i : Int) < (W 0).toInt := by omega
        have r3 := E_X12_gapOf M (by rw [hW]; exact K) hx (by rw [hW]; exact hi) e3
        rw [hW, if_pos hj] at r3
        obtain ⟨m, rfl⟩ : ∃ p, m = p + 1 := ⟨m - 1, by omega⟩
        rw [it_z (ct_0 (fun z => c4 (r3.trans z.1.2)))]
        exact E_X12_catches_4 k W (i + 1) m C (by rw [hx, nI_1]) (by omega) hf
theorem E_X12_falls_4 {n : Nat} : ∀ (k : Nat) {a0 : Nat} {x1 : Int32} {x2 : Int32} {h : jH} {q : Int32 × jH} (W : jWd) (i : Nat) (m : Nat) (C : rkE (oc h) a0 W) (hx : x2 = nI i) (hm : ((i + m : Nat) : Int) = (W 0).toInt), F_X12_falls_4 n k a0 x1 x2 h = some q → rkE (oc q.2) a0 (itW fl1 i m W x1).1 ∧ q.1 = (itW fl1 i m W x1).2 ∧ frM a0 [1, 8] [] (oc h) (oc q.2) ∧ q.2.1 = h.1
  | 0, a0, x1, x2, h, q, W, i, m, C, hx, hm, hf => by cases hf
  | k + 1, a0, x1, x2, h, q, W, i, m, C, hx, hm, hf => by
    replace hf : F_X12_falls_4_b n (F_X12_falls_4 n k) a0 x1 x2 h = some q := hf
    unfold F_X12_falls_4_b at hf
    obtain ⟨M, hW, K, LK, LB⟩ := id C
    obtain ⟨s1, s2, s3, s4, s5, s8, s15, s17, s19, s20, s21⟩ := id M
    have K0 := K.1
    have l1 : (1 : Int32).toInt = 1 := rfl
    replace hf := jbind hf
    obtain ⟨v6, e1, hf⟩ := hf
    replace e1 := (jcv_o e1).2
    have r1 := E_X12_rings M e1
    rw [hW] at r1
    subst r1
    replace hf := jite hf
    rcases hf with ⟨c2, hf⟩ | ⟨c2, hf⟩
    · skip
      cases hf
      -- leaf 0: (x1, h)
      rw [hx, nI_eI (by omega)] at c2
      have : m = 0 := by omega
      subst this
      exact ⟨C, rfl, frM_rfl, rfl⟩
    · skip
      replace hf := jbind hf
      obtain ⟨v16, e3, hf⟩ := hf
      replace e3 := (jcv_o e3).2
      replace hf := jite hf
      rcases hf with ⟨c4, hf⟩ | ⟨c4, hf⟩
      · skip
        -- leaf 10: rc4 a0 x1 (x2 + (1 : Int32)) h
        have hi : (i : Int) < (W 0).toInt := by rw [hx, nI_eI (by omega)] at c2; omega
        have r3 := E_X12_is M (j := 6) (t := 17 + 8 * i) hx rfl (by omega) (by omega) e3
        rw [hW] at r3
        obtain ⟨m, rfl⟩ : ∃ p, m = p + 1 := ⟨m - 1, by omega⟩
        rw [it_z (fl_0 (fun z => absurd (c4.symm.trans (r3.2.mpr z)) (by decide)))]
        exact E_X12_falls_4 k W (i + 1) m C (by rw [hx, nI_1]) (by omega) hf
      · skip
        replace hf := jbind hf
        obtain ⟨q25, e5, hf⟩ := hf
        replace e5 := (jcv_o e5).2
        have hi : (i : Int) < (W 0).toInt := by rw [hx, nI_eI (by omega)] at c2; omega
        obtain ⟨d1, d2, d3, d4⟩ := E_X12_drawn C rfl e5
        have C2 : rkE (oc q25.2) a0 (upd W 10 (sdW (W 10))) := rk_w C d3 d2 (wOK_10 K) (fun k hk => upd_ne (by omega))
        replace hf := jbind hf
        obtain ⟨q31, e6, hf⟩ := hf
        replace e6 := (jcv_o e6).2
        have w0 : upd W 10 (sdW (W 10)) 0 = W 0 := upd_ne (by omega)
        obtain ⟨b1, b2, b3⟩ := E_X12_byLaw C2.1 C2.2.1 C2.2.2.1 (by rw [w0]; exact hi) C2.2.2.2.1 hx e6
        have C3 := rk_8 C2 b2
        have M3 := C3.1
        obtain ⟨s1b, -⟩ := id M3
        replace hf := jite hf
        rcases hf with ⟨c7, hf⟩ | ⟨c7, hf⟩
        · skip
          replace hf := jbind hf
          obtain ⟨p41, e8, hf⟩ := hf
          have r8 := oc_gR e8
          rw [s1b] at r8
          cases r8
          clear e8
          replace hf := jbind hf
          obtain ⟨v47, e9, hf⟩ := hf
          replace hf := jbind hf
          obtain ⟨h51, e10, hf⟩ := hf
          obtain ⟨o10, z10, y10⟩ := oc_as e10
          rw [jnar0] at o10
          clear e10
          replace hf := jbind hf
          obtain ⟨h56, e11, hf⟩ := hf
          replace e11 := (jcv_o e11).2
          -- leaf 110: rc4 a0 (x1 + (1 : Int32)) (x2 + (1 : Int32)) h56
          have r3 := E_X12_is M (j := 6) (t := 17 + 8 * i) hx rfl (by omega) (by omega) e3
          rw [hW] at r3
          have cond : W (17 + 8 * i) = 1 := r3.2.mp (r3.1.resolve_left c4)
          obtain ⟨m, rfl⟩ : ∃ p, m = p + 1 := ⟨m - 1, by omega⟩
          have nl : rnW (sdW (W 10)) < byW (upd W 10 (sdW (W 10))) 2 i := by rw [← d1, ← b1]; exact c7
          rw [it_s (fl_2 cond nl)]
          have at9 := E_X12_at (i := i) (j := 6) (t := 17 + 8 * i) hx rfl (by omega) e9
          rw [at9, nI_cl (by omega)] at o10
          have f4 : frM a0 [1] [] (oc q31.2) (oc h51) := by rw [o10]; exact frM_c (by decide)
          have w4 : wl (oc h51) a0 = upd (upd W 10 (sdW (W 10))) (17 + 8 * i) 0 := by rw [o10, wl_w, C3.2.1]
          have K4 : wOK (upd (upd W 10 (sdW (W 10))) (17 + 8 * i) 0) := wOK_hk C3.2.2.1 (Or.inl rfl)
          have v4 : upd (upd W 10 (sdW (W 10))) (17 + 8 * i) 0 0 = W 0 := (upd_ne (by omega)).trans w0
          obtain ⟨t1, t2, t3⟩ := E_X12_tells (r := i) (mS_fr C3.1 f4 (by decide) (by decide)) w4 (by omega) hx e11
          have t1 : wl (oc h56) a0 = tlW (upd (upd W 10 (sdW (W 10))) (17 + 8 * i) 0) i (nI i) (nI 2) (nI 0) := by rw [t1, hx]; rfl
          have C5 := rk_w C3 (frM_tr (f1 f4) (f1 t2)) t1 (wOK_tl K4) (fun k hk => (tlW_n (by omega)).trans (upd_ne (by omega)))
          obtain ⟨g1, g2, g3, g4⟩ := E_X12_falls_4 k _ (i + 1) m C5 (by rw [hx, nI_1]) (by rw [tlW_n (Or.inl (by omega)), v4]; omega) hf
          exact ⟨g1, g2, frM_tr (frM_tr (frM_tr d3 (f8 b2)) (frM_tr (f1 f4) (f1 t2))) g3, g4.trans (t3.trans (z10.trans (b3.trans d4)))⟩
        · skip
          -- leaf 111: rc4 a0 x1 (x2 + (1 : Int32)) q31.2
          have r3 := E_X12_is M (j := 6) (t := 17 + 8 * i) hx rfl (by omega) (by omega) e3
          rw [hW] at r3
          have cond : W (17 + 8 * i) = 1 := r3.2.mp (r3.1.resolve_left c4)
          obtain ⟨m, rfl⟩ : ∃ p, m = p + 1 := ⟨m - 1, by omega⟩
          have nl : ¬ rnW (sdW (W 10)) < byW (upd W 10 (sdW (W 10))) 2 i := by rw [← d1, ← b1]; exact c7
          rw [it_z (fl_1 cond nl)]
          obtain ⟨g1, g2, g3, g4⟩ := E_X12_falls_4 k (upd W 10 (sdW (W 10))) (i + 1) m C3 (by rw [hx, nI_1]) (by rw [w0]; omega) hf
          exact ⟨g1, g2, frM_tr (frM_tr d3 (f8 b2)) g3, g4.trans (b3.trans d4)⟩
end
section
/-! whole hours of the reference -/
noncomputable def tlH (calm : Bool) (W1 : jWd) : jWd × Int32 :=
  if calm = true then (tuW W1, 0)
  else (tuW (itW fl1 0 (cN (itW ct1 0 (cN W1) W1 0).1) (itW ct1 0 (cN W1) W1 0).1 0).1, (itW ct1 0 (cN W1) W1 0).2 + (itW fl1 0 (cN (itW ct1 0 (cN W1) W1 0).1) (itW ct1 0 (cN W1) W1 0).1 0).2)
theorem hr_tl {calm : Bool} {W : jWd} : hrW calm W = tlH calm (itW fd1 0 (cN W) W 0).1 := rfl
theorem tl_f {W1 : jWd} : tlH false W1 = (tuW (itW fl1 0 (cN (itW ct1 0 (cN W1) W1 0).1) (itW ct1 0 (cN W1) W1 0).1 0).1, (itW ct1 0 (cN W1) W1 0).2 + (itW fl1 0 (cN (itW ct1 0 (cN W1) W1 0).1) (itW ct1 0 (cN W1) W1 0).1 0).2) := if_neg (by decide)
theorem tl_t {W1 : jWd} : tlH true W1 = (tuW W1, 0) := if_pos rfl
theorem E_X12_catches {W : jWd} {n : Nat} {a0 : Nat} {h : jH} {q : Int32 × jH} (C : rkE (oc h) a0 W) (hf : F_X12_catches n a0 h = some q) : rkE (oc q.2) a0 (itW ct1 0 (cN W) W 0).1 ∧ q.1 = (itW ct1 0 (cN W) W 0).2 ∧ frM a0 [1, 8] [] (oc h) (oc q.2) ∧ q.2.1 = h.1 := by
  unfold F_X12_catches at hf
  -- leaf : F_X12_catches_4 n n a0 (0 : Int32) (0 : Int32) h
  exact E_X12_catches_4 n W 0 (cN W) C rfl (cN_m C.2.2.1) hf
theorem E_X12_falls {W : jWd} {n : Nat} {a0 : Nat} {h : jH} {q : Int32 × jH} (C : rkE (oc h) a0 W) (hf : F_X12_falls n a0 h = some q) : rkE (oc q.2) a0 (itW fl1 0 (cN W) W 0).1 ∧ q.1 = (itW fl1 0 (cN W) W 0).2 ∧ frM a0 [1, 8] [] (oc h) (oc q.2) ∧ q.2.1 = h.1 := by
  unfold F_X12_falls at hf
  -- leaf : F_X12_falls_4 n n a0 (0 : Int32) (0 : Int32) h
  exact E_X12_falls_4 n W 0 (cN W) C rfl (cN_m C.2.2.1) hf
theorem E_X12_oneHour_61 {W : jWd} {n : Nat} {a0 : Nat} {s0 : Int32} {h : jH} {q : Int32 × jH} (C : rkE (oc h) a0 W) (hf : F_X12_oneHour_61 n a0 s0 h = some q) : rkE (oc q.2) a0 (tuW W) ∧ q.1 = s0 ∧ frM a0 [1, 8] [] (oc h) (oc q.2) ∧ q.2.1 = h.1 := by
  unfold F_X12_oneHour_61 at hf
  obtain ⟨M, hW, K, LK, LB⟩ := id C
  obtain ⟨s1, s2, s3, s4, s5, s8, s15, s17, s19, s20, s21⟩ := id M
  have K0 := K.1
  have l1 : (1 : Int32).toInt = 1 := rfl
  have k3 := K.2.2.2.2.1
  have k4 := K.2.2.2.2.2.1
  have w3 : oi (oc h) (a0 + 1) 3 = W 3 := by rw [← hW]
  have w4 : oi (oc h) (a0 + 1) 4 = W 4 := by rw [← hW]
  replace hf := jbind hf
  obtain ⟨p63, e1, hf⟩ := hf
  have r1 := oc_gR e1
  rw [s1] at r1
  cases r1
  clear e1
  replace hf := jbind hf
  obtain ⟨v68, e2, hf⟩ := hf
  obtain ⟨r2, y2⟩ := oc_al e2
  rw [show (3 : Int32).toNatClampNeg = 3 from rfl] at r2
  subst r2
  clear e2
  replace hf := jbind hf
  obtain ⟨h71, e3, hf⟩ := hf
  obtain ⟨o3, z3, y3⟩ := oc_as e3
  rw [jnar0] at o3
  rw [show (3 : Int32).toNatClampNeg = 3 from rfl] at o3
  clear e3
  replace hf := jbind hf
  obtain ⟨p73, e4, hf⟩ := hf
  have r4 := oc_gR e4
  rw [o3] at r4
  rw [u2_ne (Or.inl (by omega))] at r4
  rw [s1] at r4
  cases r4
  clear e4
  replace hf := jbind hf
  obtain ⟨v77, e5, hf⟩ := hf
  obtain ⟨r5, y5⟩ := oc_al e5
  rw [show (3 : Int32).toNatClampNeg = 3 from rfl] at r5
  rw [o3] at r5
  rw [oi_eq] at r5
  subst r5
  clear e5
  replace hf := jite hf
  rcases hf with ⟨c6, hf⟩ | ⟨c6, hf⟩
  · skip
    replace hf := jbind hf
    obtain ⟨p84, e7, hf⟩ := hf
    have r7 := oc_gR e7
    rw [o3] at r7
    rw [u2_ne (Or.inl (by omega))] at r7
    rw [s1] at r7
    cases r7
    clear e7
    replace hf := jbind hf
    obtain ⟨h89, e8, hf⟩ := hf
    obtain ⟨o8, z8, y8⟩ := oc_as e8
    rw [jnar0] at o8
    rw [show (3 : Int32).toNatClampNeg = 3 from rfl] at o8
    clear e8
    replace hf := jbind hf
    obtain ⟨p91, e9, hf⟩ := hf
    have r9 := oc_gR e9
    rw [o8] at r9
    rw [u2_ne (Or.inl (by omega))] at r9
    rw [o3] at r9
    rw [u2_ne (Or.inl (by omega))] at r9
    rw [s1] at r9
    cases r9
    clear e9
    replace hf := jbind hf
    obtain ⟨p99, e10, hf⟩ := hf
    have r10 := oc_gR e10
    rw [o8] at r10
    rw [u2_ne (Or.inl (by omega))] at r10
    rw [o3] at r10
    rw [u2_ne (Or.inl (by omega))] at r10
    rw [s1] at r10
    cases r10
    clear e10
    replace hf := jbind hf
    obtain ⟨v103, e11, hf⟩ := hf
    obtain ⟨r11, y11⟩ := oc_al e11
    rw [show (4 : Int32).toNatClampNeg = 4 from rfl] at r11
    rw [o8] at r11
    rw [oi_ne (Or.inr (by decide))] at r11
    rw [o3] at r11
    rw [oi_ne (Or.inr (by decide))] at r11
    subst r11
    clear e11
    replace hf := jbind hf
    obtain ⟨h109, e12, hf⟩ := hf
    obtain ⟨o12, z12, y12⟩ := oc_as e12
    rw [jnar0] at o12
    rw [show (4 : Int32).toNatClampNeg = 4 from rfl] at o12
    clear e12
    cases hf
    -- leaf 0: (s0, h109)
    rw [w3, i_eq, jadd (by omega) (by omega), show (8 : Int32).toInt = 8 from rfl] at c6
    rw [w4] at o12
    have e : tuW W = upd (upd W 3 0) 4 (if W 4 + 1 < (9999 : Int32) then W 4 + 1 else 9999) := if_neg (by omega)
    have f9 : frM a0 [1] [] (oc h) (oc h109) := by rw [o12, o8, o3]; exact frM_tr (frM_tr (frM_c (by decide)) (frM_c (by decide))) (frM_c (by decide))
    have w9 : wl (oc h109) a0 = tuW W := by rw [e, o12, wl_w, o8, wl_w, o3, wl_w, upd_upd, hW]
    exact ⟨rk_w C (f1 f9) w9 (wOK_tu K) (fun k hk => tuW_n (by omega) (by omega)), rfl, f1 f9, z12.trans (z8.trans z3)⟩
  · skip
    cases hf
    -- leaf 1: (s0, h71)
    rw [w3, i_eq, jadd (by omega) (by omega), show (8 : Int32).toInt = 8 from rfl] at c6
    rw [w3] at o3
    have e : tuW W = upd W 3 (W 3 + 1) := if_pos (by omega)
    have f9 : frM a0 [1] [] (oc h) (oc h71) := by rw [o3]; exact frM_c (by decide)
    have w9 : wl (oc h71) a0 = tuW W := by rw [e, o3, wl_w, hW]
    exact ⟨rk_w C (f1 f9) w9 (wOK_tu K) (fun k hk => tuW_n (by omega) (by omega)), rfl, f1 f9, z3⟩
theorem E_X12_oneHour_2 {n : Nat} {calm : Bool} : ∀ (k : Nat) {a0 : Nat} {x1 : Int32} {x2 : Int32} {h : jH} {q : Int32 × jH} (W : jWd) (i : Nat) (m : Nat) (C : rkE (oc h) a0 W) (hc : x1 = dI calm) (hx : x2 = nI i) (hm : ((i + m : Nat) : Int) = (W 0).toInt), F_X12_oneHour_2 n k a0 x1 x2 h = some q → rkE (oc q.2) a0 (tlH calm (itW fd1 i m W 0).1).1 ∧ q.1 = (tlH calm (itW fd1 i m W 0).1).2 ∧ frM a0 [1, 8] [] (oc h) (oc q.2) ∧ q.2.1 = h.1
  | 0, a0, x1, x2, h, q, W, i, m, C, hc, hx, hm, hf => by cases hf
  | k + 1, a0, x1, x2, h, q, W, i, m, C, hc, hx, hm, hf => by
    replace hf : F_X12_oneHour_2_b n (F_X12_oneHour_2 n k) a0 x1 x2 h = some q := hf
    unfold F_X12_oneHour_2_b at hf
    obtain ⟨M, hW, K, LK, LB⟩ := id C
    obtain ⟨s1, s2, s3, s4, s5, s8, s15, s17, s19, s20, s21⟩ := id M
    have K0 := K.1
    have l1 : (1 : Int32).toInt = 1 := rfl
    replace hf := jbind hf
    obtain ⟨v4, e1, hf⟩ := hf
    replace e1 := (jcv_o e1).2
    have r1 := E_X12_rings M e1
    rw [hW] at r1
    subst r1
    replace hf := jite hf
    rcases hf with ⟨c2, hf⟩ | ⟨c2, hf⟩
    · skip
      replace hf := jite hf
      rcases hf with ⟨c3, hf⟩ | ⟨c3, hf⟩
      · skip
        replace hf := jbind hf
        obtain ⟨q53, e4, hf⟩ := hf
        replace e4 := (jcv_o e4).2
        replace hf := jbind hf
        obtain ⟨q57, e5, hf⟩ := hf
        replace e5 := (jcv_o e5).2
        -- leaf 00: F_X12_oneHour_61 n a0 (q53.1 + q57.1) q57.2
        rw [hx, nI_eI (by omega)] at c2
        have : m = 0 := by omega
        subst this
        have dz : calm = false := by cases calm with | false => rfl | true => exact absurd (hc.symm.trans c3) (by decide)
        subst dz
        obtain ⟨A1, A2, A3, A4⟩ := E_X12_catches C e4
        obtain ⟨P2, hP2⟩ : ∃ p, p = itW ct1 0 (cN W) W 0 := ⟨_, rfl⟩
        rw [← hP2] at A1 A2
        obtain ⟨B1, B2, B3, B4⟩ := E_X12_falls A1 e5
        obtain ⟨P3, hP3⟩ : ∃ p, p = itW fl1 0 (cN P2.1) P2.1 0 := ⟨_, rfl⟩
        rw [← hP3] at B1 B2
        obtain ⟨T1, T2, T3, T4⟩ := E_X12_oneHour_61 B1 hf
        have hh : tlH false (itW fd1 i 0 W 0).1 = (tuW P3.1, P2.2 + P3.2) := by show tlH false W = _; rw [tl_f, ← hP2, ← hP3]
        rw [hh]
        exact ⟨T1, by rw [T2, A2, B2], frM_tr (frM_tr A3 B3) T3, T4.trans (B4.trans A4)⟩
      · skip
        -- leaf 01: F_X12_oneHour_61 n a0 (0 : Int32) h
        rw [hx, nI_eI (by omega)] at c2
        have : m = 0 := by omega
        subst this
        have dz : calm = true := by cases calm with | true => rfl | false => exact absurd hc c3
        subst dz
        obtain ⟨T1, T2, T3, T4⟩ := E_X12_oneHour_61 C hf
        have hh : tlH true (itW fd1 i 0 W 0).1 = (tuW W, 0) := tl_t
        rw [hh]
        exact ⟨T1, T2, T3, T4⟩
    · skip
      replace hf := jbind hf
      obtain ⟨p11, e6, hf⟩ := hf
      have r6 := oc_gR e6
      rw [s1] at r6
      cases r6
      clear e6
      replace hf := jbind hf
      obtain ⟨v16, e7, hf⟩ := hf
      replace hf := jbind hf
      obtain ⟨v24, e8, hf⟩ := hf
      replace e8 := (jcv_o e8).2
      replace hf := jbind hf
      obtain ⟨q30, e9, hf⟩ := hf
      replace e9 := (jcv_o e9).2
      replace hf := jbind hf
      obtain ⟨h37, e10, hf⟩ := hf
      obtain ⟨o10, z10, y10⟩ := oc_as e10
      rw [jnar0] at o10
      clear e10
      -- leaf 1: rc2 a0 x1 (x2 + (1 : Int32)) h37
      have hi : (i : Int) < (W 0).toInt := by rw [hx, nI_eI (by omega)] at c2; omega
      obtain ⟨m, rfl⟩ : ∃ p, m = p + 1 := ⟨m - 1, by omega⟩
      have r7 := E_X12_at (i := i) (j := 4) (t := 15 + 8 * i) hx rfl (by omega) e7
      have r8 := E_X12_of M (j := 4) (t := 15 + 8 * i) hx rfl (by omega) (by omega) e8
      rw [hW] at r8
      obtain ⟨b1, b2, b3⟩ := E_X12_byLaw M hW K hi LK hx e9
      have C2 := rk_8 C b2
      rw [r7, nI_cl (by omega), r8, b1] at o10
      obtain ⟨g1, g2⟩ := wOK_fd K LK LB hi
      have f3 : frM a0 [1] [] (oc q30.2) (oc h37) := by rw [o10]; exact frM_c (by decide)
      have w3 : wl (oc h37) a0 = (fd1 W i).1 := by rw [o10, wl_w, C2.2.1]; rfl
      have C3 := rk_w C2 (f1 f3) w3 g1 (fun k hk => g2 k (by omega))
      obtain ⟨d1, d2, d3, d4⟩ := E_X12_oneHour_2 k (fd1 W i).1 (i + 1) m C3 hc (by rw [hx, nI_1]) (by rw [g2 0 (by omega)]; omega) hf
      have e : (itW fd1 i (m + 1) W 0).1 = (itW fd1 (i + 1) m (fd1 W i).1 0).1 := rfl
      rw [e]
      exact ⟨d1, d2, frM_tr (frM_tr (f8 b2) (f1 f3)) d3, d4.trans (z10.trans b3)⟩
theorem E_X12_oneHour {calm : Bool} {W : jWd} {n : Nat} {a0 : Nat} {x1 : Int32} {h : jH} {q : Int32 × jH} (C : rkE (oc h) a0 W) (hc : x1 = dI calm) (hf : F_X12_oneHour n a0 x1 h = some q) : rkE (oc q.2) a0 (hrW calm W).1 ∧ q.1 = (hrW calm W).2 ∧ frM a0 [1, 8] [] (oc h) (oc q.2) ∧ q.2.1 = h.1 := by
  unfold F_X12_oneHour at hf
  -- leaf : F_X12_oneHour_2 n n a0 x1 (0 : Int32) h
  rw [hr_tl]
  exact E_X12_oneHour_2 n W 0 (cN W) C hc rfl (cN_m C.2.2.1) hf
theorem E_X12_goesOn_5 {n : Nat} {calm : Bool} : ∀ (k : Nat) {a0 : Nat} {x1 : Int32} {x2 : Int32} {x3 : Int32} {x4 : Int32} {h : jH} {q : Int32 × jH} (W : jWd) (t : Nat) (m : Nat) (C : rkE (oc h) a0 W) (hc : x2 = dI calm) (hn : t + m < 1000) (h1 : x1 = nI (t + m)) (h4 : x4 = nI t), F_X12_goesOn_5 n k a0 x1 x2 x3 x4 h = some q → rkE (oc q.2) a0 (hrs calm m W x3).1 ∧ q.1 = (hrs calm m W x3).2 ∧ frM a0 [1, 8] [] (oc h) (oc q.2) ∧ q.2.1 = h.1
  | 0, a0, x1, x2, x3, x4, h, q, W, t, m, C, hc, hn, h1, h4, hf => by cases hf
  | k + 1, a0, x1, x2, x3, x4, h, q, W, t, m, C, hc, hn, h1, h4, hf => by
    replace hf : F_X12_goesOn_5_b n (F_X12_goesOn_5 n k) a0 x1 x2 x3 x4 h = some q := hf
    unfold F_X12_goesOn_5_b at hf
    replace hf := jite hf
    rcases hf with ⟨c1, hf⟩ | ⟨c1, hf⟩
    · skip
      cases hf
      -- leaf 0: (x3, h)
      rw [h1, h4, Int32.le_iff_toInt_le, nI_toInt (by omega), nI_toInt (by omega)] at c1
      have : m = 0 := by omega
      subst this
      exact ⟨C, rfl, frM_rfl, rfl⟩
    · skip
      replace hf := jbind hf
      obtain ⟨q14, e2, hf⟩ := hf
      replace e2 := (jcv_o e2).2
      obtain ⟨A1, A2, A3, A4⟩ := E_X12_oneHour C hc e2
      -- leaf 1: rc5 a0 x1 x2 (x3 + q14.1) (x4 + (1 : Int32)) q14.2
      rw [h1, h4, Int32.le_iff_toInt_le, nI_toInt (by omega), nI_toInt (by omega)] at c1
      obtain ⟨m, rfl⟩ : ∃ p, m = p + 1 := ⟨m - 1, by omega⟩
      obtain ⟨g1, g2, g3, g4⟩ := E_X12_goesOn_5 k (hrW calm W).1 (t + 1) m A1 hc (by omega) (by rw [h1]; congr 1; omega) (by rw [h4, nI_1]) hf
      rw [A2] at g1 g2
      exact ⟨g1, g2, frM_tr A3 g3, g4.trans A4⟩
theorem E_X12_goesOn {calm : Bool} {W : jWd} {m : Nat} {n : Nat} {a0 : Nat} {x1 : Int32} {x2 : Int32} {h : jH} {q : Int32 × jH} (C : rkE (oc h) a0 W) (hc : x2 = dI calm) (hn : m < 1000) (h1 : x1 = nI m) (hf : F_X12_goesOn n a0 x1 x2 h = some q) : rkE (oc q.2) a0 (hrs calm m W 0).1 ∧ q.1 = (hrs calm m W 0).2 ∧ frM a0 [1, 8] [] (oc h) (oc q.2) ∧ q.2.1 = h.1 := by
  unfold F_X12_goesOn at hf
  -- leaf : F_X12_goesOn_5 n n a0 x1 x2 (0 : Int32) (0 : Int32) h
  exact E_X12_goesOn_5 n W 0 m C hc (by omega) (by rw [h1]; congr 1; omega) rfl hf
end
section
/-! copies of laws -/
theorem lawE_mv {O O2 : jO} {r d : Nat} {W : jWd} (L : lawE O r W) (S : lawS O2 d) (h7 : oi O2 d 7 = oi O r 7) (h8 : oi O2 d 8 = oi O r 8) (h1 : ∀ k, k < 12 → oi O2 (d + 1) k = oi O (r + 1) k ∧ oi O2 (d + 2) k = oi O (r + 2) k ∧ oi O2 (d + 3) k = oi O (r + 3) k) (h4 : ∀ k, k < 400 → oi O2 (d + 4) k = oi O (r + 4) k) : lawE O2 d W := by
  obtain ⟨-, a, b, c⟩ := L
  refine ⟨S, h7.trans a, b, fun z => ?_⟩
  obtain ⟨c1, c2, c3⟩ := c z
  refine ⟨h8.trans c1, c2, fun i hi => ?_⟩
  obtain ⟨a1, a2, a3, a4, a5, a6, a7, a8, a9, a10, a11⟩ := c3 i hi
  obtain ⟨b1, b2, b3⟩ := h1 i (by omega)
  exact ⟨b1.trans a1, b2.trans a2, b3.trans a3, a4, a5, a6, a7, a8, a9, fun j u w => by rw [h4 j (by omega)]; exact a10 j u w, a11⟩
/-- all but the six cells of the law at d is left alone -/
def frW (d : Nat) (O O2 : jO) : Prop := ∀ b k, (b < d ∨ d + 5 < b) → O2 b k = O b k
theorem E_X2_copyFrom {d : Nat} {r : Nat} {W : jWd} {n : Nat} {a0 : Nat} {a1 : Nat} {h : jH} {q : jH} (h0 : d = a0) (h1 : r = a1) (hd : d + 5 < r ∨ r + 5 < d) (sd : lawS (oc h) d) (R : lawE (oc h) r W) (hf : F_X2_copyFrom n a0 a1 h = some q) : lawE (oc q) d W ∧ frW d (oc h) (oc q) ∧ q.1 = h.1 := by
  unfold F_X2_copyFrom at hf
  subst h0 h1
  have sr := R.1
  obtain ⟨sd0, sd1, sd2, sd3, sd4⟩ := id sd
  obtain ⟨sr0, sr1, sr2, sr3, sr4⟩ := id sr
  replace hf := jbind hf
  obtain ⟨p1, e1, hf⟩ := hf
  have r1 := oc_gR e1
  rw [sr0] at r1
  cases r1
  clear e1
  replace hf := jbind hf
  obtain ⟨p6, e2, hf⟩ := hf
  have r2 := oc_gR e2
  rw [sd0] at r2
  cases r2
  clear e2
  replace hf := jbind hf
  obtain ⟨h12, e3, hf⟩ := hf
  obtain ⟨o3, z3⟩ := oc_cp e3
  clear e3
  rw [show (0 : Int32).toNatClampNeg = 0 from rfl, show (12 : Int32).toNatClampNeg = 12 from rfl] at o3
  replace hf := jbind hf
  obtain ⟨p16, e4, hf⟩ := hf
  have r4 := oc_gR e4
  rw [o3] at r4
  rw [ucp_ne (by omega)] at r4
  rw [sr1] at r4
  cases r4
  clear e4
  replace hf := jbind hf
  obtain ⟨p21, e5, hf⟩ := hf
  have r5 := oc_gR e5
  rw [o3] at r5
  rw [ucp_ne (by omega)] at r5
  rw [sd1] at r5
  cases r5
  clear e5
  replace hf := jbind hf
  obtain ⟨h27, e6, hf⟩ := hf
  obtain ⟨o6, z6⟩ := oc_cp e6
  clear e6
  rw [show (0 : Int32).toNatClampNeg = 0 from rfl, show (12 : Int32).toNatClampNeg = 12 from rfl] at o6
  replace hf := jbind hf
  obtain ⟨p31, e7, hf⟩ := hf
  have r7 := oc_gR e7
  rw [o6] at r7
  rw [ucp_ne (by omega)] at r7
  rw [o3] at r7
  rw [ucp_ne (by omega)] at r7
  rw [sr2] at r7
  cases r7
  clear e7
  replace hf := jbind hf
  obtain ⟨p36, e8, hf⟩ := hf
  have r8 := oc_gR e8
  rw [o6] at r8
  rw [ucp_ne (by omega)] at r8
  rw [o3] at r8
  rw [ucp_ne (by omega)] at r8
  rw [sd2] at r8
  cases r8
  clear e8
  replace hf := jbind hf
  obtain ⟨h42, e9, hf⟩ := hf
  obtain ⟨o9, z9⟩ := oc_cp e9
  clear e9
  rw [show (0 : Int32).toNatClampNeg = 0 from rfl, show (12 : Int32).toNatClampNeg = 12 from rfl] at o9
  replace hf := jbind hf
  obtain ⟨p46, e10, hf⟩ := hf
  have r10 := oc_gR e10
  rw [o9] at r10
  rw [ucp_ne (by omega)] at r10
  rw [o6] at r10
  rw [ucp_ne (by omega)] at r10
  rw [o3] at r10
  rw [ucp_ne (by omega)] at r10
  rw [sr3] at r10
  cases r10
  clear e10
  replace hf := jbind hf
  obtain ⟨p51, e11, hf⟩ := hf
  have r11 := oc_gR e11
  rw [o9] at r11
  rw [ucp_ne (by omega)] at r11
  rw [o6] at r11
  rw [ucp_ne (by omega)] at r11
  rw [o3] at r11
  rw [ucp_ne (by omega)] at r11
  rw [sd3] at r11
  cases r11
  clear e11
  replace hf := jbind hf
  obtain ⟨h58, e12, hf⟩ := hf
  obtain ⟨o12, z12⟩ := oc_cp e12
  clear e12
  rw [show (0 : Int32).toNatClampNeg = 0 from rfl, show (400 : Int32).toNatClampNeg = 400 from rfl] at o12
  replace hf := jbind hf
  obtain ⟨v63, e13, hf⟩ := hf
  have r13 := oc_gI e13
  rw [o12] at r13
  rw [ucp_oi (by omega)] at r13
  rw [o9] at r13
  rw [ucp_oi (by omega)] at r13
  rw [o6] at r13
  rw [ucp_oi (by omega)] at r13
  rw [o3] at r13
  rw [ucp_oi (by omega)] at r13
  subst r13
  clear e13
  replace hf := jbind hf
  obtain ⟨h66, e14, hf⟩ := hf
  obtain ⟨o14, z14⟩ := oc_pf e14
  clear e14
  replace hf := jbind hf
  obtain ⟨v71, e15, hf⟩ := hf
  have r15 := oc_gI e15
  rw [o14] at r15
  rw [oi_ne (Or.inl (by omega))] at r15
  rw [o12] at r15
  rw [ucp_oi (by omega)] at r15
  rw [o9] at r15
  rw [ucp_oi (by omega)] at r15
  rw [o6] at r15
  rw [ucp_oi (by omega)] at r15
  rw [o3] at r15
  rw [ucp_oi (by omega)] at r15
  subst r15
  clear e15
  replace hf := jite hf
  rcases hf with ⟨c16, hf⟩ | ⟨c16, hf⟩
  · skip
    replace hf := jbind hf
    obtain ⟨h74, e17, hf⟩ := hf
    obtain ⟨o17, z17⟩ := oc_pf e17
    clear e17
    replace hf := jbind hf
    obtain ⟨v79, e18, hf⟩ := hf
    have r18 := oc_gI e18
    rw [o17] at r18
    rw [oi_ne (Or.inl (by omega))] at r18
    rw [o14] at r18
    rw [oi_ne (Or.inl (by omega))] at r18
    rw [o12] at r18
    rw [ucp_oi (by omega)] at r18
    rw [o9] at r18
    rw [ucp_oi (by omega)] at r18
    rw [o6] at r18
    rw [ucp_oi (by omega)] at r18
    rw [o3] at r18
    rw [ucp_oi (by omega)] at r18
    subst r18
    clear e18
    replace hf := jbind hf
    obtain ⟨h82, e19, hf⟩ := hf
    obtain ⟨o19, z19⟩ := oc_pf e19
    clear e19
    cases hf
    -- leaf 0: h82
    refine ⟨lawE_mv R ⟨?_, ?_, ?_, ?_, ?_⟩ ?_ ?_ (fun k hk => ⟨?_, ?_, ?_⟩) (fun k hk => ?_), fun b k hb => ?_, z19.trans (z17.trans (z14.trans (z12.trans (z9.trans (z6.trans z3)))))⟩
    · simp (disch := omega) only [o19, o17, o14, o12, o9, o6, o3, u2_ne, ucp_ne, oi_ne, oi_eq, ucp_oi, ucp_in]; exact sd0
    · simp (disch := omega) only [o19, o17, o14, o12, o9, o6, o3, u2_ne, ucp_ne, oi_ne, oi_eq, ucp_oi, ucp_in]; exact sd1
    · simp (disch := omega) only [o19, o17, o14, o12, o9, o6, o3, u2_ne, ucp_ne, oi_ne, oi_eq, ucp_oi, ucp_in]; exact sd2
    · simp (disch := omega) only [o19, o17, o14, o12, o9, o6, o3, u2_ne, ucp_ne, oi_ne, oi_eq, ucp_oi, ucp_in]; exact sd3
    · simp (disch := omega) only [o19, o17, o14, o12, o9, o6, o3, u2_ne, ucp_ne, oi_ne, oi_eq, ucp_oi, ucp_in]; exact sd4
    · simp (disch := omega) only [o19, o17, o14, o12, o9, o6, o3, u2_ne, ucp_ne, oi_ne, oi_eq, ucp_oi, ucp_in]
    · simp (disch := omega) only [o19, o17, o14, o12, o9, o6, o3, u2_ne, ucp_ne, oi_ne, oi_eq, ucp_oi, ucp_in]
    · simp (disch := omega) only [o19, o17, o14, o12, o9, o6, o3, u2_ne, ucp_ne, oi_ne, oi_eq, ucp_oi, ucp_in]
    · simp (disch := omega) only [o19, o17, o14, o12, o9, o6, o3, u2_ne, ucp_ne, oi_ne, oi_eq, ucp_oi, ucp_in]
    · simp (disch := omega) only [o19, o17, o14, o12, o9, o6, o3, u2_ne, ucp_ne, oi_ne, oi_eq, ucp_oi, ucp_in]
    · simp (disch := omega) only [o19, o17, o14, o12, o9, o6, o3, u2_ne, ucp_ne, oi_ne, oi_eq, ucp_oi, ucp_in]
    · simp (disch := omega) only [o19, o17, o14, o12, o9, o6, o3, u2_ne, ucp_ne, oi_ne, oi_eq, ucp_oi, ucp_in]
  · skip
    cases hf
theorem E_X12_image_7 {n : Nat} : ∀ (k : Nat) {a0 : Nat} {x1 : Int32} {h : jH} {q : jH} (t : Nat) (M : mS (oc h) a0) (hx : x1 = nI t) (ht : t ≤ 1284), F_X12_image_7 n k a0 x1 h = some q → (∀ j, oi (oc q) (a0 + 2) j = if t ≤ j ∧ j < 1284 then oi (oc h) (a0 + 1) j else oi (oc h) (a0 + 2) j) ∧ frM a0 [2] [6] (oc h) (oc q) ∧ q.1 = h.1 ∧ oi (oc q) a0 6 = 1
  | 0, a0, x1, h, q, t, M, hx, ht, hf => by cases hf
  | k + 1, a0, x1, h, q, t, M, hx, ht, hf => by
    replace hf : F_X12_image_7_b n (F_X12_image_7 n k) a0 x1 h = some q := hf
    unfold F_X12_image_7_b at hf
    obtain ⟨s1, s2, s3, s4, s5, s8, s15, s17, s19, s20, s21⟩ := id M
    subst hx
    have lN : (1284 : Int32).toInt = 1284 := rfl
    replace hf := jite hf
    rcases hf with ⟨c1, hf⟩ | ⟨c1, hf⟩
    · skip
      replace hf := jbind hf
      obtain ⟨h34, e2, hf⟩ := hf
      obtain ⟨o2, z2⟩ := oc_pf e2
      clear e2
      cases hf
      -- leaf 0: h34
      rw [Int32.le_iff_toInt_le, nI_toInt (by omega)] at c1
      refine ⟨fun j => ?_, ?_, z2, ?_⟩
      · rw [if_neg (by omega), o2, oi_ne (Or.inl (by omega))]
      · rw [o2]; exact frM_f (by decide)
      · rw [o2, oi_eq]
    · skip
      replace hf := jbind hf
      obtain ⟨p15, e3, hf⟩ := hf
      have r3 := oc_gR e3
      rw [s2] at r3
      cases r3
      clear e3
      replace hf := jbind hf
      obtain ⟨p20, e4, hf⟩ := hf
      have r4 := oc_gR e4
      rw [s1] at r4
      cases r4
      clear e4
      replace hf := jbind hf
      obtain ⟨v24, e5, hf⟩ := hf
      obtain ⟨r5, y5⟩ := oc_al e5
      subst r5
      clear e5
      replace hf := jbind hf
      obtain ⟨h25, e6, hf⟩ := hf
      obtain ⟨o6, z6, y6⟩ := oc_as e6
      rw [jnar0] at o6
      clear e6
      -- leaf 1: rc7 a0 (x1 + (1 : Int32)) h25
      rw [Int32.le_iff_toInt_le, nI_toInt (by omega)] at c1
      rw [nI_cl (by omega)] at o6
      have f9 : frM a0 [2] [6] (oc h) (oc h25) := by rw [o6]; exact frM_c (by decide)
      obtain ⟨a1, a2, a3, a4⟩ := E_X12_image_7 k (t + 1) (mS_fr M f9 (by decide) (by decide)) (nI_1 t) (by omega) hf
      refine ⟨?_, frM_tr f9 a2, a3.trans z6, a4⟩
      intro j
      rw [a1 j]
      by_cases q1 : j = t
      · subst q1
        rw [if_neg (by omega), if_pos (by omega), o6, oi_eq]
      · by_cases q2 : t ≤ j ∧ j < 1284
        · rw [if_pos (by omega), if_pos q2, o6, oi_ne (Or.inl (by omega))]
        · rw [if_neg (by omega), if_neg q2, o6, oi_ne (Or.inr (by omega))]
theorem E_X12_back_16 {n : Nat} : ∀ (k : Nat) {a0 : Nat} {x1 : Int32} {h : jH} {q : Int32 × jH} (t : Nat) (M : mS (oc h) a0) (hx : x1 = nI t) (ht : t ≤ 1284), F_X12_back_16 n k a0 x1 h = some q → (∀ j, oi (oc q.2) (a0 + 1) j = if t ≤ j ∧ j < 1284 then oi (oc h) (a0 + 2) j else oi (oc h) (a0 + 1) j) ∧ frM a0 [1] [7] (oc h) (oc q.2) ∧ q.2.1 = h.1 ∧ oi (oc q.2) a0 7 = 0 ∧ q.1 = 1
  | 0, a0, x1, h, q, t, M, hx, ht, hf => by cases hf
  | k + 1, a0, x1, h, q, t, M, hx, ht, hf => by
    replace hf : F_X12_back_16_b n (F_X12_back_16 n k) a0 x1 h = some q := hf
    unfold F_X12_back_16_b at hf
    obtain ⟨s1, s2, s3, s4, s5, s8, s15, s17, s19, s20, s21⟩ := id M
    subst hx
    have lN : (1284 : Int32).toInt = 1284 := rfl
    replace hf := jite hf
    rcases hf with ⟨c1, hf⟩ | ⟨c1, hf⟩
    · skip
      replace hf := jbind hf
      obtain ⟨h43, e2, hf⟩ := hf
      obtain ⟨o2, z2⟩ := oc_pf e2
      clear e2
      cases hf
      -- leaf 0: ((1 : Int32), h43)
      rw [Int32.le_iff_toInt_le, nI_toInt (by omega)] at c1
      refine ⟨fun j => ?_, ?_, z2, ?_, rfl⟩
      · rw [if_neg (by omega), o2, oi_ne (Or.inl (by omega))]
      · rw [o2]; exact frM_f (by decide)
      · rw [o2, oi_eq]
    · skip
      replace hf := jbind hf
      obtain ⟨p24, e3, hf⟩ := hf
      have r3 := oc_gR e3
      rw [s1] at r3
      cases r3
      clear e3
      replace hf := jbind hf
      obtain ⟨p29, e4, hf⟩ := hf
      have r4 := oc_gR e4
      rw [s2] at r4
      cases r4
      clear e4
      replace hf := jbind hf
      obtain ⟨v33, e5, hf⟩ := hf
      obtain ⟨r5, y5⟩ := oc_al e5
      subst r5
      clear e5
      replace hf := jbind hf
      obtain ⟨h34, e6, hf⟩ := hf
      obtain ⟨o6, z6, y6⟩ := oc_as e6
      rw [jnar0] at o6
      clear e6
      -- leaf 1: rc16 a0 (x1 + (1 : Int32)) h34
      rw [Int32.le_iff_toInt_le, nI_toInt (by omega)] at c1
      rw [nI_cl (by omega)] at o6
      have f9 : frM a0 [1] [7] (oc h) (oc h34) := by rw [o6]; exact frM_c (by decide)
      obtain ⟨a1, a2, a3, a4, a5⟩ := E_X12_back_16 k (t + 1) (mS_fr M f9 (by decide) (by decide)) (nI_1 t) (by omega) hf
      refine ⟨?_, frM_tr f9 a2, a3.trans z6, a4, a5⟩
      intro j
      rw [a1 j]
      by_cases q1 : j = t
      · subst q1
        rw [if_neg (by omega), if_pos (by omega), o6, oi_eq]
      · by_cases q2 : t ≤ j ∧ j < 1284
        · rw [if_pos (by omega), if_pos q2, o6, oi_ne (Or.inl (by omega))]
        · rw [if_neg (by omega), if_neg q2, o6, oi_ne (Or.inr (by omega))]
theorem E_X12_pole_92 {n : Nat} : ∀ (k : Nat) {a0 : Nat} {x2 : Int32} {h : jH} {q : Int32 × jH} (t : Nat) (M : mS (oc h) a0) (hx : x2 = nI t) (ht : t ≤ 1284), F_X12_pole_92 n k a0 x2 h = some q → (∀ j, oi (oc q.2) (a0 + 1) j = if t ≤ j ∧ j < 1284 then oi (oc h) (a0 + 3) (j) else oi (oc h) (a0 + 1) j) ∧ frM a0 [1] [] (oc h) (oc q.2) ∧ q.2.1 = h.1 ∧ q.1 = 0
  | 0, a0, x2, h, q, t, M, hx, ht, hf => by cases hf
  | k + 1, a0, x2, h, q, t, M, hx, ht, hf => by
    replace hf : F_X12_pole_92_b n (F_X12_pole_92 n k) a0 x2 h = some q := hf
    unfold F_X12_pole_92_b at hf
    obtain ⟨s1, s2, s3, s4, s5, s8, s15, s17, s19, s20, s21⟩ := id M
    subst hx
    have lN : (1284 : Int32).toInt = 1284 := rfl
    replace hf := jite hf
    rcases hf with ⟨c1, hf⟩ | ⟨c1, hf⟩
    · skip
      cases hf
      -- leaf 0: ((0 : Int32), h)
      rw [Int32.le_iff_toInt_le, nI_toInt (by omega)] at c1
      exact ⟨fun j => by rw [if_neg (by omega)], frM_rfl, rfl, rfl⟩
    · skip
      replace hf := jbind hf
      obtain ⟨p100, e2, hf⟩ := hf
      have r2 := oc_gR e2
      rw [s1] at r2
      cases r2
      clear e2
      replace hf := jbind hf
      obtain ⟨p105, e3, hf⟩ := hf
      have r3 := oc_gR e3
      rw [s3] at r3
      cases r3
      clear e3
      replace hf := jbind hf
      obtain ⟨v109, e4, hf⟩ := hf
      obtain ⟨r4, y4⟩ := oc_al e4
      subst r4
      clear e4
      replace hf := jbind hf
      obtain ⟨h110, e5, hf⟩ := hf
      obtain ⟨o5, z5, y5⟩ := oc_as e5
      rw [jnar0] at o5
      clear e5
      -- leaf 1: rc92 a0 (x2 + (1 : Int32)) h110
      rw [Int32.le_iff_toInt_le, nI_toInt (by omega)] at c1
      rw [nI_cl (by omega)] at o5
      have f9 : frM a0 [1] [] (oc h) (oc h110) := by rw [o5]; exact frM_c (by decide)
      obtain ⟨a1, a2, a3, a4⟩ := E_X12_pole_92 k (t + 1) (mS_fr M f9 (by decide) (by decide)) (nI_1 t) (by omega)  hf
      refine ⟨?_, frM_tr f9 a2, a3.trans z5, a4⟩
      intro j
      rw [a1 j]
      by_cases q1 : j = t
      · subst q1
        rw [if_neg (by omega), if_pos (by omega), o5, oi_eq]
      · by_cases q2 : t ≤ j ∧ j < 1284
        · rw [if_pos (by omega), if_pos q2, o5, oi_ne (Or.inl (by omega))]
        · rw [if_neg (by omega), if_neg q2, o5, oi_ne (Or.inr (by omega))]
end
section
/-! the tape's bytes -/
def byt (v : Int32) (k : Nat) : Int32 := jnar 1 ((jushr v (nI (24 - 8 * k))).toInt8.toInt32)
theorem by8 {v : Int32} {s : Nat} (hs : s ≤ 24) : (v >>> (nI s &&& 31)).toInt8 = (jushr v (nI s)).toInt8 := by
  apply Int8.toBitVec_inj.mp
  show (v >>> (nI s &&& 31)).toBitVec.signExtend 8 = (jushr v (nI s)).toBitVec.signExtend 8
  refine BitVec.eq_of_getLsbD_eq fun i hi => ?_
  rw [BitVec.getLsbD_signExtend, BitVec.getLsbD_signExtend]
  have a : bt (v >>> (nI s &&& 31)) i = if s + i < 32 then bt v (s + i) else bt v 31 := b_sshr s (by omega) v (by omega)
  have b : bt (jushr v (nI s)) i = bt v (s + i) := b_ushr s (by omega) v i
  rw [if_pos (by omega)] at a
  have c : (v >>> (nI s &&& 31)).toBitVec.getLsbD i = (jushr v (nI s)).toBitVec.getLsbD i := a.trans b.symm
  rw [c]
  simp [show i < 32 by omega]
/-- 24, 16, 8, 0 -/
theorem sh_n {x : Int32} {j : Nat} (h : x.toInt = 24 - 8 * (j : Int)) (hj : j < 4) : x = nI (24 - 8 * j) := nI_k (by omega)
def tpS (O : jO) (T : Nat) : Prop := O T 0 = .ref (T + 1) ∧ O T 1 = .ref (T + 2) ∧ O T 2 = .ref (T + 3) ∧ O T 3 = .ref (T + 4)
def ar5 (a b c d e : Int32) (k : Nat) : Int32 := if k = 0 then a else if k = 1 then b else if k = 2 then c else if k = 3 then d else e
theorem div4 {t : Nat} (ht : t < 100) : nI t / (4 : Int32) = nI (t / 4) := by
  apply nI_k
  rw [jdivL (by rw [nI_toInt (by omega)]; omega) (show (4 : Int32).toInt = 4 from rfl) (by decide), nI_toInt (by omega)]
  omega
theorem sh24 {t : Nat} (ht : t < 100) : (24 : Int32) - ((8 : Int32) * (nI t - nI t / (4 : Int32) * (4 : Int32))) = nI (24 - 8 * (t % 4)) := by
  rw [div4 ht]
  have e1 : nI (t / 4) * (4 : Int32) = nI (t / 4 * 4) := nI_mul _ 4
  have e2 : nI t - nI (t / 4 * 4) = nI (t % 4) := nI_k (by rw [jsub (by rw [nI_toInt (by omega), nI_toInt (by omega)]; omega) (by rw [nI_toInt (by omega), nI_toInt (by omega)]; omega), nI_toInt (by omega), nI_toInt (by omega)]; omega)
  have e3 : (8 : Int32) * nI (t % 4) = nI (8 * (t % 4)) := nI_mul 8 _
  rw [e1, e2, e3]
  have l24 : (24 : Int32).toInt = 24 := rfl
  exact nI_k (by rw [jsub (by rw [nI_toInt (by omega)]; omega) (by rw [nI_toInt (by omega)]; omega), nI_toInt (by omega)]; omega)
theorem E_X10_put_3 {n : Nat} : ∀ (k : Nat) {a0 : Nat} {x1 : Int32} {x2 : Int32} {h : jH} {q : jH} (L : Nat) (j : Nat) (S : tpS (oc h) a0) (h6 : oi (oc h) a0 6 = nI L) (hj : j ≤ 4) (hL : L + (4 - j) ≤ 400) (hx : x2.toInt = 24 - 8 * (j : Int)), F_X10_put_3 n k a0 x1 x2 h = some q → oi (oc q) a0 6 = nI (L + (4 - j)) ∧ (∀ i, oi (oc q) (a0 + 1) i = if L ≤ i ∧ i < L + (4 - j) then byt x1 (j + (i - L)) else oi (oc h) (a0 + 1) i) ∧ (∀ a k, a ≠ a0 + 1 → ¬ (a = a0 ∧ k = 6) → oc q a k = oc h a k) ∧ q.1 = h.1
  | 0, a0, x1, x2, h, q, L, j, S, h6, hj, hL, hx, hf => by cases hf
  | k + 1, a0, x1, x2, h, q, L, j, S, h6, hj, hL, hx, hf => by
    replace hf : F_X10_put_3_b n (F_X10_put_3 n k) a0 x1 x2 h = some q := hf
    unfold F_X10_put_3_b at hf
    obtain ⟨p0, p1, p2, p3⟩ := id S
    have l0 : (0 : Int32).toInt = 0 := rfl
    have lm : (-8 : Int32).toInt = -8 := rfl
    replace hf := jite hf
    rcases hf with ⟨c1, hf⟩ | ⟨c1, hf⟩
    · skip
      cases hf
      -- leaf 0: h
      rw [Int32.lt_iff_toInt_lt] at c1
      have j4 : j = 4 := by omega
      subst j4
      exact ⟨h6, fun i => by rw [if_neg (by omega)], fun a k _ _ => rfl, rfl⟩
    · skip
      replace hf := jbind hf
      obtain ⟨v8, e2, hf⟩ := hf
      have r2 := oc_gI e2
      subst r2
      clear e2
      replace hf := jite hf
      rcases hf with ⟨c3, hf⟩ | ⟨c3, hf⟩
      · skip
        cases hf
        -- leaf 10: h
        rw [Int32.lt_iff_toInt_lt] at c1
        rw [h6, Int32.le_iff_toInt_le, nI_toInt (by omega), show (400 : Int32).toInt = 400 from rfl] at c3
        omega
      · skip
        replace hf := jbind hf
        obtain ⟨p18, e4, hf⟩ := hf
        have r4 := oc_gR e4
        rw [p0] at r4
        cases r4
        clear e4
        replace hf := jbind hf
        obtain ⟨v22, e5, hf⟩ := hf
        have r5 := oc_gI e5
        subst r5
        clear e5
        replace hf := jbind hf
        obtain ⟨h29, e6, hf⟩ := hf
        obtain ⟨o6, z6, y6⟩ := oc_as e6
        clear e6
        replace hf := jbind hf
        obtain ⟨v32, e7, hf⟩ := hf
        have r7 := oc_gI e7
        rw [o6] at r7
        rw [oi_ne (Or.inl (by omega))] at r7
        subst r7
        clear e7
        replace hf := jbind hf
        obtain ⟨h37, e8, hf⟩ := hf
        obtain ⟨o8, z8⟩ := oc_pf e8
        clear e8
        -- leaf 11: rc3 a0 x1 (x2 + (- 8 : Int32)) h37
        rw [Int32.lt_iff_toInt_lt] at c1
        have j4 : j < 4 := by omega
        rw [sh_n hx j4, h6, nI_cl (by omega)] at o6
        rw [h6, nI_1] at o8
        have fz : ∀ a k, a ≠ a0 + 1 → ¬ (a = a0 ∧ k = 6) → oc h37 a k = oc h a k := fun a k u w => by rw [o8, u2_ne (by omega), o6, u2_ne (by omega)]
        have S2 : tpS (oc h37) a0 := ⟨(fz _ _ (by omega) (by omega)).trans p0, (fz _ _ (by omega) (by omega)).trans p1, (fz _ _ (by omega) (by omega)).trans p2, (fz _ _ (by omega) (by omega)).trans p3⟩
        obtain ⟨b1, b2, b3, b4⟩ := E_X10_put_3 k (L + 1) (j + 1) S2 (by rw [o8, oi_eq]) (by omega) (by omega) (by rw [jadd (by omega) (by omega)]; omega) hf
        refine ⟨by rw [b1]; congr 1; omega, fun i => ?_, fun a k u w => (b3 a k u w).trans (fz a k u w), b4.trans (z8.trans z6)⟩
        rw [b2 i]
        by_cases y : i = L
        · subst y
          rw [if_neg (by omega), if_pos (by omega), o8, oi_ne (Or.inl (by omega)), o6, oi_eq, show j + (i - i) = j by omega]
          rfl
        · by_cases w : L ≤ i ∧ i < L + (4 - j)
          · rw [if_pos (by omega), if_pos w, show j + 1 + (i - (L + 1)) = j + (i - L) by omega]
          · rw [if_neg (by omega), if_neg w, o8, oi_ne (Or.inl (by omega)), o6, oi_ne (Or.inr y)]
theorem E_X10_put {L : Nat} {n : Nat} {a0 : Nat} {x1 : Int32} {h : jH} {q : jH} (S : tpS (oc h) a0) (h6 : oi (oc h) a0 6 = nI L) (hL : L + 4 ≤ 400) (hf : F_X10_put n a0 x1 h = some q) : oi (oc q) a0 6 = nI (L + 4) ∧ (∀ i, oi (oc q) (a0 + 1) i = if L ≤ i ∧ i < L + 4 then byt x1 (i - L) else oi (oc h) (a0 + 1) i) ∧ (∀ a k, a ≠ a0 + 1 → ¬ (a = a0 ∧ k = 6) → oc q a k = oc h a k) ∧ q.1 = h.1 := by
  unfold F_X10_put at hf
  -- leaf : F_X10_put_3 n n a0 x1 (24 : Int32) h
  obtain ⟨b1, b2, b3, b4⟩ := E_X10_put_3 n L 0 S h6 (by omega) (by omega) (by decide) hf
  refine ⟨b1, fun i => ?_, b3, b4⟩
  rw [b2 i]
  by_cases w : L ≤ i ∧ i < L + 4
  · rw [if_pos (by omega), if_pos w, show 0 + (i - L) = i - L by omega]
  · rw [if_neg (by omega), if_neg w]
theorem E_X10_hasRoom {L : Nat} {n : Nat} {a0 : Nat} {h : jH} {q : Int32} (h6 : oi (oc h) a0 6 = nI L) (hL : L ≤ 400) (hf : F_X10_hasRoom n a0 h = some q) : (q = 0 ∨ q = 1) ∧ (q = 1 ↔ L ≤ 380) := by
  unfold F_X10_hasRoom at hf
  replace hf := jbind hf
  obtain ⟨v1, e1, hf⟩ := hf
  have r1 := oc_gI e1
  subst r1
  clear e1
  replace hf := jite hf
  rcases hf with ⟨c2, hf⟩ | ⟨c2, hf⟩
  · skip
    cases hf
    -- leaf 0: (0 : Int32)
    have e : nI L + (20 : Int32) = nI (L + 20) := nI_add L 20
    rw [h6, e, Int32.lt_iff_toInt_lt, nI_toInt (by omega), show (400 : Int32).toInt = 400 from rfl] at c2
    exact ⟨Or.inl rfl, fun z => absurd z (by decide), fun z => by omega⟩
  · skip
    cases hf
    -- leaf 1: (1 : Int32)
    have e : nI L + (20 : Int32) = nI (L + 20) := nI_add L 20
    rw [h6, e, Int32.lt_iff_toInt_lt, nI_toInt (by omega), show (400 : Int32).toInt = 400 from rfl] at c2
    exact ⟨Or.inr rfl, fun _ => by omega, fun _ => rfl⟩
theorem E_X11_feed {L : Nat} {n : Nat} {a0 : Nat} {x1 : Int32} {x2 : Int32} {x3 : Int32} {x4 : Int32} {x5 : Int32} {h : jH} {q : Int32 × jH} (x0 : oc h a0 0 = .ref (a0 + 1)) (S : tpS (oc h) (a0 + 1)) (h6 : oi (oc h) (a0 + 1) 6 = nI L) (hL : L ≤ 400) (hf : F_X11_feed n a0 x1 x2 x3 x4 x5 h = some q) : (380 < L ∧ q = (-1, h)) ∨ (L ≤ 380 ∧ q.1 = nI (L + 20) ∧ oi (oc q.2) (a0 + 1) 6 = nI (L + 20) ∧ (∀ i, oi (oc q.2) (a0 + 1 + 1) i = if L ≤ i ∧ i < L + 20 then byt (ar5 x1 x2 x3 x4 x5 ((i - L) / 4)) ((i - L) % 4) else oi (oc h) (a0 + 1 + 1) i) ∧ (∀ a k, a ≠ a0 + 1 + 1 → ¬ (a = a0 + 1 ∧ k = 6) → oc q.2 a k = oc h a k) ∧ q.2.1 = h.1) := by
  unfold F_X11_feed at hf
  replace hf := jbind hf
  obtain ⟨p1, e1, hf⟩ := hf
  have r1 := oc_gR e1
  rw [x0] at r1
  cases r1
  clear e1
  replace hf := jbind hf
  obtain ⟨v4, e2, hf⟩ := hf
  replace e2 := (jcv_o e2).2
  have r2 := E_X10_hasRoom (L := L) h6 hL e2
  replace hf := jite hf
  rcases hf with ⟨c3, hf⟩ | ⟨c3, hf⟩
  · skip
    cases hf
    -- leaf 0: ((- 1 : Int32), h)
    exact Or.inl ⟨Classical.byContradiction fun z => absurd (c3.symm.trans (r2.2.mpr (by omega))) (by decide), rfl⟩
  · skip
    replace hf := jbind hf
    obtain ⟨p13, e4, hf⟩ := hf
    have r4 := oc_gR e4
    rw [x0] at r4
    cases r4
    clear e4
    replace hf := jbind hf
    obtain ⟨h17, e5, hf⟩ := hf
    replace e5 := (jcv_o e5).2
    have L8 : L ≤ 380 := r2.2.mp (r2.1.resolve_left c3)
    obtain ⟨b10, b20, b30, b40⟩ := E_X10_put (L := L + 0) S h6 (by omega) e5
    have S0 : tpS (oc h17) (a0 + 1) := ⟨(b30 _ _ (by omega) (by omega)).trans S.1, (b30 _ _ (by omega) (by omega)).trans S.2.1, (b30 _ _ (by omega) (by omega)).trans S.2.2.1, (b30 _ _ (by omega) (by omega)).trans S.2.2.2⟩
    have h60 : oi (oc h17) (a0 + 1) 6 = nI (L + 4) := b10
    have x0 : oc h17 a0 0 = .ref (a0 + 1) := (b30 _ _ (by omega) (by omega)).trans x0
    replace hf := jbind hf
    obtain ⟨p21, e6, hf⟩ := hf
    have r6 := oc_gR e6
    rw [x0] at r6
    cases r6
    clear e6
    replace hf := jbind hf
    obtain ⟨h25, e7, hf⟩ := hf
    replace e7 := (jcv_o e7).2
    obtain ⟨b11, b21, b31, b41⟩ := E_X10_put (L := L + 4) S0 h60 (by omega) e7
    have S1 : tpS (oc h25) (a0 + 1) := ⟨(b31 _ _ (by omega) (by omega)).trans S0.1, (b31 _ _ (by omega) (by omega)).trans S0.2.1, (b31 _ _ (by omega) (by omega)).trans S0.2.2.1, (b31 _ _ (by omega) (by omega)).trans S0.2.2.2⟩
    have h61 : oi (oc h25) (a0 + 1) 6 = nI (L + 8) := b11
    have x1 : oc h25 a0 0 = .ref (a0 + 1) := (b31 _ _ (by omega) (by omega)).trans x0
    replace hf := jbind hf
    obtain ⟨p29, e8, hf⟩ := hf
    have r8 := oc_gR e8
    rw [x1] at r8
    cases r8
    clear e8
    replace hf := jbind hf
    obtain ⟨h33, e9, hf⟩ := hf
    replace e9 := (jcv_o e9).2
    obtain ⟨b12, b22, b32, b42⟩ := E_X10_put (L := L + 8) S1 h61 (by omega) e9
    have S2 : tpS (oc h33) (a0 + 1) := ⟨(b32 _ _ (by omega) (by omega)).trans S1.1, (b32 _ _ (by omega) (by omega)).trans S1.2.1, (b32 _ _ (by omega) (by omega)).trans S1.2.2.1, (b32 _ _ (by omega) (by omega)).trans S1.2.2.2⟩
    have h62 : oi (oc h33) (a0 + 1) 6 = nI (L + 12) := b12
    have x2 : oc h33 a0 0 = .ref (a0 + 1) := (b32 _ _ (by omega) (by omega)).trans x1
    replace hf := jbind hf
    obtain ⟨p37, e10, hf⟩ := hf
    have r10 := oc_gR e10
    rw [x2] at r10
    cases r10
    clear e10
    replace hf := jbind hf
    obtain ⟨h42, e11, hf⟩ := hf
    replace e11 := (jcv_o e11).2
    obtain ⟨b13, b23, b33, b43⟩ := E_X10_put (L := L + 12) S2 h62 (by omega) e11
    have S3 : tpS (oc h42) (a0 + 1) := ⟨(b33 _ _ (by omega) (by omega)).trans S2.1, (b33 _ _ (by omega) (by omega)).trans S2.2.1, (b33 _ _ (by omega) (by omega)).trans S2.2.2.1, (b33 _ _ (by omega) (by omega)).trans S2.2.2.2⟩
    have h63 : oi (oc h42) (a0 + 1) 6 = nI (L + 16) := b13
    have x3 : oc h42 a0 0 = .ref (a0 + 1) := (b33 _ _ (by omega) (by omega)).trans x2
    replace hf := jbind hf
    obtain ⟨p46, e12, hf⟩ := hf
    have r12 := oc_gR e12
    rw [x3] at r12
    cases r12
    clear e12
    replace hf := jbind hf
    obtain ⟨h51, e13, hf⟩ := hf
    replace e13 := (jcv_o e13).2
    obtain ⟨b14, b24, b34, b44⟩ := E_X10_put (L := L + 16) S3 h63 (by omega) e13
    have S4 : tpS (oc h51) (a0 + 1) := ⟨(b34 _ _ (by omega) (by omega)).trans S3.1, (b34 _ _ (by omega) (by omega)).trans S3.2.1, (b34 _ _ (by omega) (by omega)).trans S3.2.2.1, (b34 _ _ (by omega) (by omega)).trans S3.2.2.2⟩
    have h64 : oi (oc h51) (a0 + 1) 6 = nI (L + 20) := b14
    have x4 : oc h51 a0 0 = .ref (a0 + 1) := (b34 _ _ (by omega) (by omega)).trans x3
    replace hf := jbind hf
    obtain ⟨p55, e14, hf⟩ := hf
    have r14 := oc_gR e14
    rw [x4] at r14
    cases r14
    clear e14
    replace hf := jbind hf
    obtain ⟨v58, e15, hf⟩ := hf
    have r15 := oc_gI e15
    subst r15
    clear e15
    cases hf
    -- leaf 1: (v58, h51)
    refine Or.inr ⟨L8, h64, h64, fun i => ?_, fun a k u w => ?_, b44.trans (b43.trans (b42.trans (b41.trans b40)))⟩
    · rw [b24 i]
      by_cases y4 : L + 16 ≤ i ∧ i < L + 16 + 4
      · rw [if_pos y4, if_pos (by omega)]; rw [show (i - L) / 4 = 4 by omega, show (i - L) % 4 = i - (L + 16) by omega]; rfl
      rw [if_neg y4, b23 i]
      by_cases y3 : L + 12 ≤ i ∧ i < L + 12 + 4
      · rw [if_pos y3, if_pos (by omega)]; rw [show (i - L) / 4 = 3 by omega, show (i - L) % 4 = i - (L + 12) by omega]; rfl
      rw [if_neg y3, b22 i]
      by_cases y2 : L + 8 ≤ i ∧ i < L + 8 + 4
      · rw [if_pos y2, if_pos (by omega)]; rw [show (i - L) / 4 = 2 by omega, show (i - L) % 4 = i - (L + 8) by omega]; rfl
      rw [if_neg y2, b21 i]
      by_cases y1 : L + 4 ≤ i ∧ i < L + 4 + 4
      · rw [if_pos y1, if_pos (by omega)]; rw [show (i - L) / 4 = 1 by omega, show (i - L) % 4 = i - (L + 4) by omega]; rfl
      rw [if_neg y1, b20 i]
      by_cases y0 : L + 0 ≤ i ∧ i < L + 0 + 4
      · rw [if_pos y0, if_pos (by omega)]; rw [show (i - L) / 4 = 0 by omega, show (i - L) % 4 = i - (L + 0) by omega]; rfl
      rw [if_neg y0, if_neg (by omega)]
    · rw [b34 a k u w, b33 a k u w, b32 a k u w, b31 a k u w, b30 a k u w]
theorem E_X12_feed_60 {n : Nat} {A : Nat → Int32} {L : Nat} : ∀ (k : Nat) {a0 : Nat} {x6 : Int32} {h : jH} {q : Int32 × jH} (j : Nat) (M : mS (oc h) a0) (F : ∀ t, t < 5 → oi (oc h) (a0 + 7) t = A t) (h9 : oi (oc h) a0 9 = nI L) (hj : j ≤ 20) (hL : L ≤ 380) (hx : x6 = nI j), F_X12_feed_60 n k a0 x6 h = some q → q.1 = nI (L + 20) ∧ oi (oc q.2) a0 9 = nI (L + 20) ∧ (∀ i, oi (oc q.2) (a0 + 6) i = if L + j ≤ i ∧ i < L + 20 then byt (A ((i - L) / 4)) ((i - L) % 4) else oi (oc h) (a0 + 6) i) ∧ frM a0 [6] [9] (oc h) (oc q.2) ∧ q.2.1 = h.1
  | 0, a0, x6, h, q, j, M, F, h9, hj, hL, hx, hf => by cases hf
  | k + 1, a0, x6, h, q, j, M, F, h9, hj, hL, hx, hf => by
    replace hf : F_X12_feed_60_b n (F_X12_feed_60 n k) a0 x6 h = some q := hf
    unfold F_X12_feed_60_b at hf
    obtain ⟨s1, s2, s3, s4, s5, s8, s15, s17, s19, s20, s21⟩ := id M
    replace hf := jite hf
    rcases hf with ⟨c1, hf⟩ | ⟨c1, hf⟩
    · skip
      replace hf := jbind hf
      obtain ⟨v108, e2, hf⟩ := hf
      have r2 := oc_gI e2
      subst r2
      clear e2
      replace hf := jbind hf
      obtain ⟨h114, e3, hf⟩ := hf
      obtain ⟨o3, z3⟩ := oc_pf e3
      clear e3
      replace hf := jbind hf
      obtain ⟨v118, e4, hf⟩ := hf
      have r4 := oc_gI e4
      rw [o3] at r4
      rw [oi_eq] at r4
      subst r4
      clear e4
      cases hf
      -- leaf 0: (v118, h114)
      rw [hx, Int32.le_iff_toInt_le, nI_toInt (by omega), show (20 : Int32).toInt = 20 from rfl] at c1
      have j20 : j = 20 := by omega
      subst j20
      have a1 : oi (oc h) a0 9 + 20 = nI (L + 20) := by rw [h9]; exact nI_add L 20
      have a2 : oi (oc h114) a0 9 = nI (L + 20) := by rw [o3, oi_eq, a1]
      have a3 : frM a0 [6] [9] (oc h) (oc h114) := by rw [o3]; exact frM_f (by decide)
      have a4 : ∀ i, oi (oc h114) (a0 + 6) i = oi (oc h) (a0 + 6) i := fun i => by rw [o3, oi_ne (Or.inl (by omega))]
      exact ⟨a1, a2, fun i => by rw [if_neg (by omega)]; exact a4 i, a3, z3⟩
    · skip
      replace hf := jbind hf
      obtain ⟨p68, e5, hf⟩ := hf
      have r5 := oc_gR e5
      rw [s8] at r5
      cases r5
      clear e5
      replace hf := jbind hf
      obtain ⟨v72, e6, hf⟩ := hf
      have r6 := oc_gI e6
      subst r6
      clear e6
      replace hf := jbind hf
      obtain ⟨p79, e7, hf⟩ := hf
      have r7 := oc_gR e7
      rw [s15] at r7
      cases r7
      clear e7
      replace hf := jbind hf
      obtain ⟨v86, e8, hf⟩ := hf
      obtain ⟨r8, y8⟩ := oc_al e8
      subst r8
      clear e8
      replace hf := jbind hf
      obtain ⟨h99, e9, hf⟩ := hf
      obtain ⟨o9, z9, y9⟩ := oc_as e9
      clear e9
      -- leaf 1: rc60 a0 (x6 + (1 : Int32)) h99
      rw [hx, Int32.le_iff_toInt_le, nI_toInt (by omega), show (20 : Int32).toInt = 20 from rfl] at c1
      have jl : j < 20 := by omega
      have e1 : nI L + nI j = nI (L + j) := nI_add L j
      rw [hx, h9, sh24 (by omega), div4 (by omega), e1, nI_cl (show L + j < 2147483648 by omega), nI_cl (show j / 4 < 2147483648 by omega), F (j / 4) (by omega), by8 (by omega)] at o9
      have f6 : frM a0 [6] [9] (oc h) (oc h99) := by rw [o9]; exact frM_c (by decide)
      have h92 : oi (oc h99) a0 9 = nI L := by rw [o9, oi_ne (Or.inl (by omega))]; exact h9
      obtain ⟨b1, b2, b3, b4, b5⟩ := E_X12_feed_60 (A := A) k (j + 1) (mS_fr M f6 (by decide) (by decide)) (fun t ht => by rw [o9, oi_ne (Or.inl (by omega))]; exact F t ht) h92 (by omega) hL (by rw [hx, nI_1]) hf
      refine ⟨b1, b2, fun i => ?_, frM_tr f6 b4, b5.trans z9⟩
      rw [b3 i]
      by_cases y : i = L + j
      · subst y
        rw [if_neg (by omega), if_pos (by omega), o9, oi_eq, show L + j - L = j by omega]
        rfl
      · by_cases w : L + j ≤ i ∧ i < L + 20
        · rw [if_pos (by omega), if_pos w]
        · rw [if_neg (by omega), if_neg w, o9, oi_ne (Or.inr y)]
theorem E_X12_feed {L : Nat} {n : Nat} {a0 : Nat} {x1 : Int32} {x2 : Int32} {x3 : Int32} {x4 : Int32} {x5 : Int32} {h : jH} {q : Int32 × jH} (M : mS (oc h) a0) (h9 : oi (oc h) a0 9 = nI L) (hL : L ≤ 400) (hf : F_X12_feed n a0 x1 x2 x3 x4 x5 h = some q) : (380 < L ∧ q.1 = -1 ∧ oi (oc q.2) a0 0 = 0 ∧ frM a0 [] [0] (oc h) (oc q.2) ∧ q.2.1 = h.1) ∨ (L ≤ 380 ∧ q.1 = nI (L + 20) ∧ oi (oc q.2) a0 0 = 0 ∧ oi (oc q.2) a0 9 = nI (L + 20) ∧ (∀ i, oi (oc q.2) (a0 + 6) i = if L ≤ i ∧ i < L + 20 then byt (ar5 x1 x2 x3 x4 x5 ((i - L) / 4)) ((i - L) % 4) else oi (oc h) (a0 + 6) i) ∧ frM a0 [6, 7] [0, 9] (oc h) (oc q.2) ∧ q.2.1 = h.1) := by
  unfold F_X12_feed at hf
  obtain ⟨s1, s2, s3, s4, s5, s8, s15, s17, s19, s20, s21⟩ := id M
  replace hf := jbind hf
  obtain ⟨h2, e1, hf⟩ := hf
  obtain ⟨o1, z1⟩ := oc_pf e1
  clear e1
  replace hf := jbind hf
  obtain ⟨v6, e2, hf⟩ := hf
  have r2 := oc_gI e2
  rw [o1] at r2
  rw [oi_ne (Or.inr (by decide))] at r2
  subst r2
  clear e2
  replace hf := jite hf
  rcases hf with ⟨c3, hf⟩ | ⟨c3, hf⟩
  · skip
    replace hf := jbind hf
    obtain ⟨p21, e4, hf⟩ := hf
    have r4 := oc_gR e4
    rw [o1] at r4
    rw [u2_ne (Or.inr (by decide))] at r4
    rw [s15] at r4
    cases r4
    clear e4
    replace hf := jbind hf
    obtain ⟨h26, e5, hf⟩ := hf
    obtain ⟨o5, z5, y5⟩ := oc_as e5
    rw [jnar0] at o5
    rw [show (0 : Int32).toNatClampNeg = 0 from rfl] at o5
    clear e5
    replace hf := jbind hf
    obtain ⟨p28, e6, hf⟩ := hf
    have r6 := oc_gR e6
    rw [o5] at r6
    rw [u2_ne (Or.inl (by omega))] at r6
    rw [o1] at r6
    rw [u2_ne (Or.inr (by decide))] at r6
    rw [s15] at r6
    cases r6
    clear e6
    replace hf := jbind hf
    obtain ⟨h33, e7, hf⟩ := hf
    obtain ⟨o7, z7, y7⟩ := oc_as e7
    rw [jnar0] at o7
    rw [show (1 : Int32).toNatClampNeg = 1 from rfl] at o7
    clear e7
    replace hf := jbind hf
    obtain ⟨p35, e8, hf⟩ := hf
    have r8 := oc_gR e8
    rw [o7] at r8
    rw [u2_ne (Or.inl (by omega))] at r8
    rw [o5] at r8
    rw [u2_ne (Or.inl (by omega))] at r8
    rw [o1] at r8
    rw [u2_ne (Or.inr (by decide))] at r8
    rw [s15] at r8
    cases r8
    clear e8
    replace hf := jbind hf
    obtain ⟨h40, e9, hf⟩ := hf
    obtain ⟨o9, z9, y9⟩ := oc_as e9
    rw [jnar0] at o9
    rw [show (2 : Int32).toNatClampNeg = 2 from rfl] at o9
    clear e9
    replace hf := jbind hf
    obtain ⟨p42, e10, hf⟩ := hf
    have r10 := oc_gR e10
    rw [o9] at r10
    rw [u2_ne (Or.inl (by omega))] at r10
    rw [o7] at r10
    rw [u2_ne (Or.inl (by omega))] at r10
    rw [o5] at r10
    rw [u2_ne (Or.inl (by omega))] at r10
    rw [o1] at r10
    rw [u2_ne (Or.inr (by decide))] at r10
    rw [s15] at r10
    cases r10
    clear e10
    replace hf := jbind hf
    obtain ⟨h48, e11, hf⟩ := hf
    obtain ⟨o11, z11, y11⟩ := oc_as e11
    rw [jnar0] at o11
    rw [show (3 : Int32).toNatClampNeg = 3 from rfl] at o11
    clear e11
    replace hf := jbind hf
    obtain ⟨p50, e12, hf⟩ := hf
    have r12 := oc_gR e12
    rw [o11] at r12
    rw [u2_ne (Or.inl (by omega))] at r12
    rw [o9] at r12
    rw [u2_ne (Or.inl (by omega))] at r12
    rw [o7] at r12
    rw [u2_ne (Or.inl (by omega))] at r12
    rw [o5] at r12
    rw [u2_ne (Or.inl (by omega))] at r12
    rw [o1] at r12
    rw [u2_ne (Or.inr (by decide))] at r12
    rw [s15] at r12
    cases r12
    clear e12
    replace hf := jbind hf
    obtain ⟨h56, e13, hf⟩ := hf
    obtain ⟨o13, z13, y13⟩ := oc_as e13
    rw [jnar0] at o13
    rw [show (4 : Int32).toNatClampNeg = 4 from rfl] at o13
    clear e13
    -- leaf 0: F_X12_feed_60 n n a0 (0 : Int32) h56
    have e1 : nI L + (20 : Int32) = nI (L + 20) := nI_add L 20
    rw [h9, e1, Int32.le_iff_toInt_le, nI_toInt (by omega), show (400 : Int32).toInt = 400 from rfl] at c3
    have f1 : frM a0 [6, 7] [0, 9] (oc h) (oc h2) := by rw [o1]; exact frM_f (by decide)
    have f2 : frM a0 [6, 7] [0, 9] (oc h2) (oc h26) := by rw [o5]; exact frM_c (by decide)
    have f3 : frM a0 [6, 7] [0, 9] (oc h26) (oc h33) := by rw [o7]; exact frM_c (by decide)
    have f4 : frM a0 [6, 7] [0, 9] (oc h33) (oc h40) := by rw [o9]; exact frM_c (by decide)
    have f5 : frM a0 [6, 7] [0, 9] (oc h40) (oc h48) := by rw [o11]; exact frM_c (by decide)
    have f6 : frM a0 [6, 7] [0, 9] (oc h48) (oc h56) := by rw [o13]; exact frM_c (by decide)
    have f7 := frM_tr (frM_tr (frM_tr (frM_tr (frM_tr f1 f2) f3) f4) f5) f6
    have g6 : ∀ i, oi (oc h56) (a0 + 6) i = oi (oc h) (a0 + 6) i := fun i => by rw [o13, oi_ne (Or.inl (by omega)), o11, oi_ne (Or.inl (by omega)), o9, oi_ne (Or.inl (by omega)), o7, oi_ne (Or.inl (by omega)), o5, oi_ne (Or.inl (by omega)), o1, oi_ne (Or.inl (by omega))]
    have g9 : oi (oc h56) a0 9 = nI L := by rw [o13, oi_ne (Or.inl (by omega)), o11, oi_ne (Or.inl (by omega)), o9, oi_ne (Or.inl (by omega)), o7, oi_ne (Or.inl (by omega)), o5, oi_ne (Or.inl (by omega)), o1, oi_ne (Or.inr (by decide))]; exact h9
    have g0 : oi (oc h56) a0 0 = 0 := by rw [o13, oi_ne (Or.inl (by omega)), o11, oi_ne (Or.inl (by omega)), o9, oi_ne (Or.inl (by omega)), o7, oi_ne (Or.inl (by omega)), o5, oi_ne (Or.inl (by omega)), o1, oi_eq]
    have F : ∀ t, t < 5 → oi (oc h56) (a0 + 7) t = ar5 x1 x2 x3 x4 x5 t := fun t ht => by
      rcases (by omega : t = 0 ∨ t = 1 ∨ t = 2 ∨ t = 3 ∨ t = 4) with y | y | y | y | y <;> subst y
      · rw [o13, oi_ne (Or.inr (by decide)), o11, oi_ne (Or.inr (by decide)), o9, oi_ne (Or.inr (by decide)), o7, oi_ne (Or.inr (by decide)), o5, oi_eq]; rfl
      · rw [o13, oi_ne (Or.inr (by decide)), o11, oi_ne (Or.inr (by decide)), o9, oi_ne (Or.inr (by decide)), o7, oi_eq]; rfl
      · rw [o13, oi_ne (Or.inr (by decide)), o11, oi_ne (Or.inr (by decide)), o9, oi_eq]; rfl
      · rw [o13, oi_ne (Or.inr (by decide)), o11, oi_eq]; rfl
      · rw [o13, oi_eq]; rfl
    obtain ⟨b1, b2, b3, b4, b5⟩ := E_X12_feed_60 (A := ar5 x1 x2 x3 x4 x5) n 0 (mS_fr M f7 (by decide) (by decide)) F g9 (by omega) (by omega) rfl hf
    refine Or.inr ⟨by omega, b1, (oi_M b4 (by simp) (by simp)).trans g0, b2, fun i => ?_, frM_tr f7 (frM_le b4 (by decide) (by decide)), b5.trans (z13.trans (z11.trans (z9.trans (z7.trans (z5.trans z1)))))⟩
    rw [b3 i, g6 i]
    rfl
  · skip
    cases hf
    -- leaf 1: ((- 1 : Int32), h2)
    have e1 : nI L + (20 : Int32) = nI (L + 20) := nI_add L 20
    rw [h9, e1, Int32.le_iff_toInt_le, nI_toInt (by omega), show (400 : Int32).toInt = 400 from rfl] at c3
    have a0 : oi (oc h2) a0 0 = 0 := by rw [o1, oi_eq]
    exact Or.inl ⟨by omega, rfl, a0, by show frM _ _ _ _ (oc h2); rw [o1]; exact frM_f (by decide), z1⟩
theorem E_X11_end {L : Nat} {n : Nat} {a0 : Nat} {x1 : Int32} {h : jH} {q : Int32 × jH} (x0 : oc h a0 0 = .ref (a0 + 1)) (h6 : oi (oc h) (a0 + 1) 6 = nI L) (hL : L ≤ 400) (hf : F_X11_end n a0 x1 h = some q) : ((x1.toInt < 0 ∨ (L : Int) < x1.toInt) ∧ q = (0, h)) ∨ (0 ≤ x1.toInt ∧ x1.toInt ≤ (L : Int) ∧ q.1 = 1 ∧ oi (oc q.2) (a0 + 1) 6 = x1 ∧ (∀ a k, ¬ (a = a0 + 1 ∧ k = 6) → oc q.2 a k = oc h a k) ∧ q.2.1 = h.1) := by
  unfold F_X11_end at hf
  have l0 : (0 : Int32).toInt = 0 := rfl
  replace hf := jite hf
  rcases hf with ⟨c1, hf⟩ | ⟨c1, hf⟩
  · skip
    cases hf
    -- leaf 0: ((0 : Int32), h)
    rw [Int32.lt_iff_toInt_lt, l0] at c1
    exact Or.inl ⟨Or.inl c1, rfl⟩
  · skip
    replace hf := jbind hf
    obtain ⟨p6, e2, hf⟩ := hf
    have r2 := oc_gR e2
    rw [x0] at r2
    cases r2
    clear e2
    replace hf := jbind hf
    obtain ⟨v9, e3, hf⟩ := hf
    have r3 := oc_gI e3
    subst r3
    clear e3
    replace hf := jite hf
    rcases hf with ⟨c4, hf⟩ | ⟨c4, hf⟩
    · skip
      replace hf := jbind hf
      obtain ⟨p18, e5, hf⟩ := hf
      have r5 := oc_gR e5
      rw [x0] at r5
      cases r5
      clear e5
      replace hf := jbind hf
      obtain ⟨h22, e6, hf⟩ := hf
      obtain ⟨o6, z6⟩ := oc_pf e6
      clear e6
      cases hf
      -- leaf 10: ((1 : Int32), h22)
      rw [Int32.lt_iff_toInt_lt, l0] at c1
      rw [h6, Int32.le_iff_toInt_le, nI_toInt (by omega)] at c4
      have g1 : oi (oc h22) (a0 + 1) 6 = x1 := by rw [o6, oi_eq]
      have g2 : ∀ a k, ¬ (a = a0 + 1 ∧ k = 6) → oc h22 a k = oc h a k := fun a k w => by rw [o6, u2_ne (by omega)]
      exact Or.inr ⟨by omega, c4, rfl, g1, g2, z6⟩
    · skip
      cases hf
      -- leaf 11: ((0 : Int32), h)
      rw [h6, Int32.le_iff_toInt_le, nI_toInt (by omega)] at c4
      exact Or.inl ⟨Or.inr (by omega), rfl⟩
theorem E_X12_end {L : Nat} {n : Nat} {a0 : Nat} {x1 : Int32} {h : jH} {q : Int32 × jH} (h9 : oi (oc h) a0 9 = nI L) (hL : L ≤ 400) (hf : F_X12_end n a0 x1 h = some q) : ((x1.toInt < 0 ∨ (L : Int) < x1.toInt) ∧ q.1 = 0 ∧ oi (oc q.2) a0 0 = 0 ∧ frM a0 [] [0] (oc h) (oc q.2) ∧ q.2.1 = h.1) ∨ (0 ≤ x1.toInt ∧ x1.toInt ≤ (L : Int) ∧ q.1 = 1 ∧ oi (oc q.2) a0 0 = 0 ∧ oi (oc q.2) a0 9 = x1 ∧ frM a0 [] [0, 9] (oc h) (oc q.2) ∧ q.2.1 = h.1) := by
  unfold F_X12_end at hf
  have l0 : (0 : Int32).toInt = 0 := rfl
  replace hf := jbind hf
  obtain ⟨h2, e1, hf⟩ := hf
  obtain ⟨o1, z1⟩ := oc_pf e1
  clear e1
  replace hf := jite hf
  rcases hf with ⟨c2, hf⟩ | ⟨c2, hf⟩
  · skip
    cases hf
    -- leaf 0: ((0 : Int32), h2)
    rw [Int32.lt_iff_toInt_lt, l0] at c2
    have g0 : oi (oc h2) a0 0 = 0 := by rw [o1, oi_eq]
    have f1 : frM a0 [] [0] (oc h) (oc h2) := by rw [o1]; exact frM_f (by decide)
    exact Or.inl ⟨Or.inl c2, rfl, g0, f1, z1⟩
  · skip
    replace hf := jbind hf
    obtain ⟨v11, e3, hf⟩ := hf
    have r3 := oc_gI e3
    rw [o1] at r3
    rw [oi_ne (Or.inr (by decide))] at r3
    subst r3
    clear e3
    replace hf := jite hf
    rcases hf with ⟨c4, hf⟩ | ⟨c4, hf⟩
    · skip
      replace hf := jbind hf
      obtain ⟨h21, e5, hf⟩ := hf
      obtain ⟨o5, z5⟩ := oc_pf e5
      clear e5
      cases hf
      -- leaf 10: ((1 : Int32), h21)
      rw [Int32.lt_iff_toInt_lt, l0] at c2
      rw [h9, Int32.le_iff_toInt_le, nI_toInt (by omega)] at c4
      have g0 : oi (oc h21) a0 0 = 0 := by rw [o5, oi_ne (Or.inr (by decide)), o1, oi_eq]
      have g1 : oi (oc h21) a0 9 = x1 := by rw [o5, oi_eq]
      have f1 : frM a0 [] [0, 9] (oc h) (oc h21) := by rw [o5, o1]; exact frM_tr (frM_f (by decide)) (frM_f (by decide))
      exact Or.inr ⟨by omega, c4, rfl, g0, g1, f1, z5.trans z1⟩
    · skip
      cases hf
      -- leaf 11: ((0 : Int32), h2)
      rw [h9, Int32.le_iff_toInt_le, nI_toInt (by omega)] at c4
      have g0 : oi (oc h2) a0 0 = 0 := by rw [o1, oi_eq]
      have f1 : frM a0 [] [0] (oc h) (oc h2) := by rw [o1]; exact frM_f (by decide)
      exact Or.inl ⟨Or.inr (by omega), rfl, g0, f1, z1⟩
end
