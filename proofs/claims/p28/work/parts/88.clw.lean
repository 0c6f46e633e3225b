/-! the class's law: facts of a ring, the stack -/
theorem bitW {v w : Int32} {i : Nat} (hi : i < 32) (h : bt v i = true ↔ w = 1) (hw : w = 0 ∨ w = 1) : (jushr v (nI i)) &&& (1 : Int32) = w := by
  rw [b_ask0 hi]
  rcases hw with q | q
  · rw [q]
    have : ¬ bt v i = true := fun z => absurd (q.symm.trans (h.mp z)) (by decide)
    rw [if_neg this]
  · rw [q, if_pos (h.mpr q)]
/-- the values on the stack of the law at l, the latest first -/
def stkE (O : jO) (l : Nat) (st : List Int32) : Prop := oi O l 5 = nI st.length ∧ ∀ k, k < st.length → oi O (l + 5) k = st.getD (st.length - 1 - k) 0
theorem E_X8_isLit {W : jWd} {i : Nat} {n : Nat} {a0 : Nat} {x1 : Int32} {x2 : Int32} {h : jH} {q : Int32} (R : rodE (oc h) a0 W) (K : wOK W) (hx : x1 = nI i) (hi : (i : Int) < (W 0).toInt) (hf : F_X8_isLit n a0 x1 x2 h = some q) : q = litW W i x2 := by
  unfold F_X8_isLit at hf
  obtain ⟨⟨s0, s1, s2, s3, s4, s5⟩, ⟨u5, u10, u11, u12, u13, u14, u15, u16, u17⟩, RB, RC, RL⟩ := id R
  subst hx
  have K0 := K.1
  obtain ⟨g0, -⟩ := RB i hi
  replace hf := jbind hf
  obtain ⟨p1, e1, hf⟩ := hf
  have r1 := oc_gR e1
  rw [s0] at r1
  cases r1
  clear e1
  replace hf := jbind hf
  obtain ⟨v5, e2, hf⟩ := hf
  obtain ⟨r2, y2⟩ := oc_al e2
  subst r2
  clear e2
  replace hf := jite hf
  rcases hf with ⟨c3, hf⟩ | ⟨c3, hf⟩
  · skip
    cases hf
    -- leaf 0: (0 : Int32)
    rw [nI_cl (by omega), g0, Int32.lt_iff_toInt_lt] at c3
    unfold litW
    rw [if_neg (fun z => by have := Int32.le_iff_toInt_le.mp z.1; omega)]
  · skip
    replace hf := jbind hf
    obtain ⟨p13, e4, hf⟩ := hf
    have r4 := oc_gR e4
    rw [s0] at r4
    cases r4
    clear e4
    replace hf := jbind hf
    obtain ⟨v17, e5, hf⟩ := hf
    obtain ⟨r5, y5⟩ := oc_al e5
    subst r5
    clear e5
    replace hf := jbind hf
    obtain ⟨v22, e6, hf⟩ := hf
    have r6 := oc_gI e6
    subst r6
    clear e6
    replace hf := jite hf
    rcases hf with ⟨c7, hf⟩ | ⟨c7, hf⟩
    · skip
      cases hf
      -- leaf 10: (0 : Int32)
      rw [nI_cl (by omega), g0, Int32.lt_iff_toInt_lt] at c3 c7
      rw [u12] at c7
      unfold litW
      rw [if_neg (fun z => by have := Int32.le_iff_toInt_le.mp z.2; omega)]
    · skip
      cases hf
      -- leaf 11: (1 : Int32)
      rw [nI_cl (by omega), g0, Int32.lt_iff_toInt_lt] at c3 c7
      rw [u12] at c7
      unfold litW
      rw [if_pos ⟨Int32.le_iff_toInt_le.mpr (by omega), Int32.le_iff_toInt_le.mpr (by omega)⟩]
theorem E_X2_value {W : jWd} {i : Nat} {s : Int32} {m : Int32} {n : Nat} {x0 : Int32} {a1 : Nat} {x2 : Int32} {h : jH} {q : Int32} (R : rodE (oc h) a1 W) (K : wOK W) (hx : x2 = nI i) (hi : (i : Int) < (W 0).toInt) (hc : (0 ≤ s.toInt ∧ s.toInt ≤ 10 ∧ x0 = s) ∨ (s = 11 ∧ 0 ≤ m.toInt ∧ x0.toInt = 256 + m.toInt)) (hf : F_X2_value n x0 a1 x2 h = some q) : q = factW W i s m := by
  unfold F_X2_value at hf
  obtain ⟨⟨s0, s1, s2, s3, s4, s5⟩, ⟨u5, u10, u11, u12, u13, u14, u15, u16, u17⟩, RB, RC, RL⟩ := id R
  subst hx
  have K0 := K.1
  obtain ⟨g0, g1, g2, g3, g4, g5, g6, g7⟩ := RB i hi
  obtain ⟨-, -, f2, f3, -, -, f6, -⟩ := K.2.1 i hi
  replace hf := jite hf
  rcases hf with ⟨c1, hf⟩ | ⟨c1, hf⟩
  · skip
    cases hf
    -- leaf 0: x2
    have cc := c1
    have es : s = 0 := by
      rcases hc with ⟨-, -, z⟩ | ⟨-, z0, z⟩
      · exact z.symm.trans cc
      · exfalso; rw [cc, show (0 : Int32).toInt = 0 from rfl] at z; omega
    rw [es]
    rfl
  · skip
    replace hf := jite hf
    rcases hf with ⟨c2, hf⟩ | ⟨c2, hf⟩
    · skip
      replace hf := jbind hf
      obtain ⟨p63, e3, hf⟩ := hf
      have r3 := oc_gR e3
      rw [s0] at r3
      cases r3
      clear e3
      replace hf := jbind hf
      obtain ⟨v67, e4, hf⟩ := hf
      obtain ⟨r4, y4⟩ := oc_al e4
      subst r4
      clear e4
      cases hf
      -- leaf 10: v67
      have cc := c2
      have es : s = 1 := by
        rcases hc with ⟨-, -, z⟩ | ⟨-, z0, z⟩
        · exact z.symm.trans cc
        · exfalso; rw [cc, show (1 : Int32).toInt = 1 from rfl] at z; omega
      rw [es]
      rw [nI_cl (by omega)]
      exact g0
    · skip
      replace hf := jite hf
      rcases hf with ⟨c5, hf⟩ | ⟨c5, hf⟩
      · skip
        replace hf := jbind hf
        obtain ⟨v73, e6, hf⟩ := hf
        replace e6 := (jcv_o e6).2
        have r6 := E_X8_gap (i := i) R K rfl (by omega) e6
        cases hf
        -- leaf 110: v73
        have cc := c5
        have es : s = 2 := by
          rcases hc with ⟨-, -, z⟩ | ⟨-, z0, z⟩
          · exact z.symm.trans cc
          · exfalso; rw [cc, show (2 : Int32).toInt = 2 from rfl] at z; omega
        rw [es]
        exact r6
      · skip
        replace hf := jite hf
        rcases hf with ⟨c7, hf⟩ | ⟨c7, hf⟩
        · skip
          replace hf := jbind hf
          obtain ⟨p78, e8, hf⟩ := hf
          have r8 := oc_gR e8
          rw [s2] at r8
          cases r8
          clear e8
          replace hf := jbind hf
          obtain ⟨v82, e9, hf⟩ := hf
          obtain ⟨r9, y9⟩ := oc_al e9
          subst r9
          clear e9
          cases hf
          -- leaf 1110: v82
          have cc := c7
          have es : s = 3 := by
            rcases hc with ⟨-, -, z⟩ | ⟨-, z0, z⟩
            · exact z.symm.trans cc
            · exfalso; rw [cc, show (3 : Int32).toInt = 3 from rfl] at z; omega
          rw [es]
          rw [nI_cl (by omega)]
          exact g4
        · skip
          replace hf := jite hf
          rcases hf with ⟨c10, hf⟩ | ⟨c10, hf⟩
          · skip
            replace hf := jbind hf
            obtain ⟨p85, e11, hf⟩ := hf
            have r11 := oc_gR e11
            rw [s3] at r11
            cases r11
            clear e11
            replace hf := jbind hf
            obtain ⟨v89, e12, hf⟩ := hf
            obtain ⟨r12, y12⟩ := oc_al e12
            subst r12
            clear e12
            cases hf
            -- leaf 11110: v89
            have cc := c10
            have es : s = 4 := by
              rcases hc with ⟨-, -, z⟩ | ⟨-, z0, z⟩
              · exact z.symm.trans cc
              · exfalso; rw [cc, show (4 : Int32).toInt = 4 from rfl] at z; omega
            rw [es]
            rw [nI_cl (by omega)]
            exact g5
          · skip
            replace hf := jite hf
            rcases hf with ⟨c13, hf⟩ | ⟨c13, hf⟩
            · skip
              replace hf := jbind hf
              obtain ⟨v92, e14, hf⟩ := hf
              have r14 := oc_gI e14
              subst r14
              clear e14
              cases hf
              -- leaf 111110: v92
              have cc := c13
              have es : s = 5 := by
                rcases hc with ⟨-, -, z⟩ | ⟨-, z0, z⟩
                · exact z.symm.trans cc
                · exfalso; rw [cc, show (5 : Int32).toInt = 5 from rfl] at z; omega
              rw [es]
              exact u13
            · skip
              replace hf := jite hf
              rcases hf with ⟨c15, hf⟩ | ⟨c15, hf⟩
              · skip
                replace hf := jbind hf
                obtain ⟨v97, e16, hf⟩ := hf
                have r16 := oc_gI e16
                subst r16
                clear e16
                cases hf
                -- leaf 1111110: v97
                have cc := c15
                have es : s = 6 := by
                  rcases hc with ⟨-, -, z⟩ | ⟨-, z0, z⟩
                  · exact z.symm.trans cc
                  · exfalso; rw [cc, show (6 : Int32).toInt = 6 from rfl] at z; omega
                rw [es]
                exact u14
              · skip
                replace hf := jite hf
                rcases hf with ⟨c17, hf⟩ | ⟨c17, hf⟩
                · skip
                  replace hf := jbind hf
                  obtain ⟨v102, e18, hf⟩ := hf
                  have r18 := oc_gI e18
                  subst r18
                  clear e18
                  replace hf := jbind hf
                  obtain ⟨v106, e19, hf⟩ := hf
                  unfold F_X11_bit at e19
                  cases e19
                  cases hf
                  -- leaf 11111110: v106
                  have cc := c17
                  have es : s = 7 := by
                    rcases hc with ⟨-, -, z⟩ | ⟨-, z0, z⟩
                    · exact z.symm.trans cc
                    · exfalso; rw [cc, show (7 : Int32).toInt = 7 from rfl] at z; omega
                  rw [es]
                  exact bitW (by omega) g3 f3
                · skip
                  replace hf := jite hf
                  rcases hf with ⟨c20, hf⟩ | ⟨c20, hf⟩
                  · skip
                    replace hf := jbind hf
                    obtain ⟨v111, e21, hf⟩ := hf
                    have r21 := oc_gI e21
                    subst r21
                    clear e21
                    replace hf := jbind hf
                    obtain ⟨v115, e22, hf⟩ := hf
                    unfold F_X11_bit at e22
                    cases e22
                    cases hf
                    -- leaf 111111110: v115
                    have cc := c20
                    have es : s = 8 := by
                      rcases hc with ⟨-, -, z⟩ | ⟨-, z0, z⟩
                      · exact z.symm.trans cc
                      · exfalso; rw [cc, show (8 : Int32).toInt = 8 from rfl] at z; omega
                    rw [es]
                    exact bitW (by omega) g2 f2
                  · skip
                    replace hf := jite hf
                    rcases hf with ⟨c23, hf⟩ | ⟨c23, hf⟩
                    · skip
                      replace hf := jbind hf
                      obtain ⟨v122, e24, hf⟩ := hf
                      have r24 := oc_gI e24
                      subst r24
                      clear e24
                      replace hf := jbind hf
                      obtain ⟨v125, e25, hf⟩ := hf
                      replace e25 := (jcv_o e25).2
                      have r25 := E_X8_isLit (i := i) R K rfl hi e25
                      replace hf := jite hf
                      rcases hf with ⟨c26, hf⟩ | ⟨c26, hf⟩
                      · skip
                        cases hf
                        -- leaf 11111111100: (0 : Int32)
                        have cc := c23
                        have es : s = 9 := by
                          rcases hc with ⟨-, -, z⟩ | ⟨-, z0, z⟩
                          · exact z.symm.trans cc
                          · exfalso; rw [cc, show (9 : Int32).toInt = 9 from rfl] at z; omega
                        rw [es]
                        rw [u13] at r25
                        exact (r25.symm.trans c26).symm
                      · skip
                        cases hf
                        -- leaf 11111111101: (1 : Int32)
                        have cc := c23
                        have es : s = 9 := by
                          rcases hc with ⟨-, -, z⟩ | ⟨-, z0, z⟩
                          · exact z.symm.trans cc
                          · exfalso; rw [cc, show (9 : Int32).toInt = 9 from rfl] at z; omega
                        rw [es]
                        rw [u13] at r25
                        have := litW_01 (W := W) (i := i) (h := W 3)
                        show 1 = litW W i (W 3)
                        rw [← r25] at this ⊢
                        exact (this.resolve_left c26).symm
                    · skip
                      replace hf := jite hf
                      rcases hf with ⟨c27, hf⟩ | ⟨c27, hf⟩
                      · skip
                        replace hf := jbind hf
                        obtain ⟨v138, e28, hf⟩ := hf
                        have r28 := oc_gI e28
                        subst r28
                        clear e28
                        replace hf := jbind hf
                        obtain ⟨v142, e29, hf⟩ := hf
                        unfold F_X11_bit at e29
                        cases e29
                        cases hf
                        -- leaf 11111111110: v142
                        have cc := c27
                        have es : s = 10 := by
                          rcases hc with ⟨-, -, z⟩ | ⟨-, z0, z⟩
                          · exact z.symm.trans cc
                          · exfalso; rw [cc, show (10 : Int32).toInt = 10 from rfl] at z; omega
                        rw [es]
                        exact bitW (by omega) g6 f6
                      · skip
                        cases hf
                        -- leaf 11111111111: (x0 - (256 : Int32))
                        have es : s = 11 ∧ 0 ≤ m.toInt ∧ x0.toInt = 256 + m.toInt := by
                          rcases hc with ⟨z1, z2, z⟩ | z
                          · exfalso
                            have n : ∀ k : Int32, x0.toInt = k.toInt → x0 = k := fun k h => i_eq.mpr h
                            rw [← z] at z1 z2
                            have : x0.toInt = 0 ∨ x0.toInt = 1 ∨ x0.toInt = 2 ∨ x0.toInt = 3 ∨ x0.toInt = 4 ∨ x0.toInt = 5 ∨ x0.toInt = 6 ∨ x0.toInt = 7 ∨ x0.toInt = 8 ∨ x0.toInt = 9 ∨ x0.toInt = 10 := by omega
                            rcases this with h | h | h | h | h | h | h | h | h | h | h
                            · exact c1 (n 0 h)
                            · exact c2 (n 1 h)
                            · exact c5 (n 2 h)
                            · exact c7 (n 3 h)
                            · exact c10 (n 4 h)
                            · exact c13 (n 5 h)
                            · exact c15 (n 6 h)
                            · exact c17 (n 7 h)
                            · exact c20 (n 8 h)
                            · exact c23 (n 9 h)
                            · exact c27 (n 10 h)
                          · exact z
                        obtain ⟨rfl, m0, mx⟩ := es
                        show x0 - 256 = m
                        have := Int32.toInt_lt m
                        have l256 : (256 : Int32).toInt = 256 := rfl
                        have xl := Int32.toInt_lt x0
                        exact i_eq.mpr (by rw [jsub (by omega) (by omega)]; omega)
theorem E_X2_push {st : List Int32} {n : Nat} {a0 : Nat} {x1 : Int32} {h : jH} {q : jH} (LS : lawS (oc h) a0) (T : stkE (oc h) a0 st) (hl : st.length ≤ 23) (hf : F_X2_push n a0 x1 h = some q) : stkE (oc q) a0 (x1 :: st) ∧ q.1 = h.1 ∧ (∀ a k, a ≠ a0 + 5 → ¬ (a = a0 ∧ k = 5) → oc q a k = oc h a k) := by
  unfold F_X2_push at hf
  obtain ⟨w0, w1, w2, w3, w4⟩ := id LS
  obtain ⟨t1, t2⟩ := T
  replace hf := jbind hf
  obtain ⟨v1, e1, hf⟩ := hf
  have r1 := oc_gI e1
  subst r1
  clear e1
  replace hf := jite hf
  rcases hf with ⟨c2, hf⟩ | ⟨c2, hf⟩
  · skip
    cases hf
    -- leaf 0: h
    rw [t1, Int32.le_iff_toInt_le, nI_toInt (by omega), show (24 : Int32).toInt = 24 from rfl] at c2
    omega
  · skip
    replace hf := jbind hf
    obtain ⟨p10, e3, hf⟩ := hf
    have r3 := oc_gR e3
    rw [w4] at r3
    cases r3
    clear e3
    replace hf := jbind hf
    obtain ⟨v14, e4, hf⟩ := hf
    have r4 := oc_gI e4
    subst r4
    clear e4
    replace hf := jbind hf
    obtain ⟨h18, e5, hf⟩ := hf
    obtain ⟨o5, z5, y5⟩ := oc_as e5
    rw [jnar0] at o5
    clear e5
    replace hf := jbind hf
    obtain ⟨v21, e6, hf⟩ := hf
    have r6 := oc_gI e6
    rw [o5] at r6
    rw [oi_ne (Or.inl (by omega))] at r6
    subst r6
    clear e6
    replace hf := jbind hf
    obtain ⟨h26, e7, hf⟩ := hf
    obtain ⟨o7, z7⟩ := oc_pf e7
    clear e7
    cases hf
    -- leaf 1: h26
    rw [t1, nI_cl (by omega)] at o5
    rw [t1, nI_1] at o7
    refine ⟨⟨by rw [o7, oi_eq]; rfl, fun k hk => ?_⟩, z7.trans z5, fun a k h1 h2 => by rw [o7, u2_ne (by omega), o5, u2_ne (by omega)]⟩
    rw [o7, oi_ne (Or.inl (by omega)), o5]
    by_cases y : k = st.length
    · subst y
      rw [oi_eq]
      show x1 = (x1 :: st).getD (st.length + 1 - 1 - st.length) 0
      rw [show st.length + 1 - 1 - st.length = 0 by omega]
      rfl
    · have hk2 : k < st.length + 1 := hk
      rw [oi_ne (Or.inr y), t2 k (by omega)]
      show _ = (x1 :: st).getD (st.length + 1 - 1 - k) 0
      rw [show st.length + 1 - 1 - k = (st.length - 1 - k) + 1 by omega]
      rfl
theorem E_X2_pop {st : List Int32} {v : Int32} {n : Nat} {a0 : Nat} {h : jH} {q : Int32 × jH} (LS : lawS (oc h) a0) (T : stkE (oc h) a0 (v :: st)) (hl : st.length ≤ 24) (hf : F_X2_pop n a0 h = some q) : q.1 = v ∧ stkE (oc q.2) a0 st ∧ q.2.1 = h.1 ∧ (∀ a k, ¬ (a = a0 ∧ k = 5) → oc q.2 a k = oc h a k) := by
  unfold F_X2_pop at hf
  obtain ⟨w0, w1, w2, w3, w4⟩ := id LS
  obtain ⟨t1, t2⟩ := T
  have t1 : oi (oc h) a0 5 = nI (st.length + 1) := t1
  replace hf := jbind hf
  obtain ⟨v1, e1, hf⟩ := hf
  have r1 := oc_gI e1
  subst r1
  clear e1
  replace hf := jite hf
  rcases hf with ⟨c2, hf⟩ | ⟨c2, hf⟩
  · skip
    replace hf := jbind hf
    obtain ⟨v11, e3, hf⟩ := hf
    have r3 := oc_gI e3
    subst r3
    clear e3
    replace hf := jbind hf
    obtain ⟨h16, e4, hf⟩ := hf
    obtain ⟨o4, z4⟩ := oc_pf e4
    clear e4
    replace hf := jbind hf
    obtain ⟨p20, e5, hf⟩ := hf
    have r5 := oc_gR e5
    rw [o4] at r5
    rw [u2_ne (Or.inr (by decide))] at r5
    rw [w4] at r5
    cases r5
    clear e5
    replace hf := jbind hf
    obtain ⟨v24, e6, hf⟩ := hf
    have r6 := oc_gI e6
    rw [o4] at r6
    rw [oi_eq] at r6
    subst r6
    clear e6
    replace hf := jbind hf
    obtain ⟨v27, e7, hf⟩ := hf
    obtain ⟨r7, y7⟩ := oc_al e7
    rw [o4] at r7
    rw [oi_ne (Or.inl (by omega))] at r7
    subst r7
    clear e7
    cases hf
    -- leaf 0: (v27, h16)
    rw [t1, nI_pred] at o4
    refine ⟨?_, ⟨?_, fun k hk => ?_⟩, z4, fun a k ha => ?_⟩
    · show oi (oc h) (a0 + 5) (oi (oc h) a0 5 - 1).toNatClampNeg = v
      rw [t1, nI_pred, nI_cl (by omega), t2 _ (show st.length < (v :: st).length from Nat.lt_succ_self _)]
      show (v :: st).getD (st.length + 1 - 1 - st.length) 0 = v
      rw [show st.length + 1 - 1 - st.length = 0 by omega]
      rfl
    · show oi (oc h16) a0 5 = _
      rw [o4, oi_eq]
    · show oi (oc h16) (a0 + 5) k = _
      rw [o4, oi_ne (Or.inl (by omega)), t2 k (show k < st.length + 1 by omega)]
      show (v :: st).getD (st.length + 1 - 1 - k) 0 = st.getD (st.length - 1 - k) 0
      rw [show st.length + 1 - 1 - k = (st.length - 1 - k) + 1 by omega]
      rfl
    · show oc h16 a k = _
      rw [o4, u2_ne (by omega)]
  · skip
    cases hf
    -- leaf 1: ((0 : Int32), h)
    rw [t1, Int32.lt_iff_toInt_lt, nI_toInt (by omega), show (0 : Int32).toInt = 0 from rfl] at c2
    omega
