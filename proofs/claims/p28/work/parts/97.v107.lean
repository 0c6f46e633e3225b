/-! sew as an act of the class -/
theorem E_X8_nearestNew {W : jWd} {n : Nat} {a0 : Nat} {h : jH} {q : Int32} (R : rodE (oc h) a0 W) (K : wOK W) (hf : F_X8_nearestNew n a0 h = some q) : q = leW W := by
  unfold F_X8_nearestNew at hf
  obtain ⟨⟨s0, s1, s2, s3, s4, s5⟩, ⟨u5, u10, u11, u12, u13, u14, u15, u16, u17⟩, RB, RC, RL⟩ := id R
  replace hf := jbind hf
  obtain ⟨v1, e1, hf⟩ := hf
  have r1 := oc_gI e1
  subst r1
  clear e1
  replace hf := jite hf
  rcases hf with ⟨c2, hf⟩ | ⟨c2, hf⟩
  · skip
    cases hf
    -- leaf 0: (0 : Int32)
    rw [u5] at c2
    exact (if_pos c2).symm
  · skip
    replace hf := jbind hf
    obtain ⟨p12, e3, hf⟩ := hf
    have r3 := oc_gR e3
    rw [s0] at r3
    cases r3
    clear e3
    replace hf := jbind hf
    obtain ⟨v16, e4, hf⟩ := hf
    have r4 := oc_gI e4
    subst r4
    clear e4
    replace hf := jbind hf
    obtain ⟨v21, e5, hf⟩ := hf
    obtain ⟨r5, y5⟩ := oc_al e5
    subst r5
    clear e5
    cases hf
    -- leaf 1: (v21 + (1 : Int32))
    rw [u5] at c2
    obtain ⟨n1, n2, n3⟩ := cN_last K c2
    have hl : ((cN W - 1 : Nat) : Int) < (W 0).toInt := by
      have k0 := K.1
      have ec : (cN W : Int) = (W 0).toInt := by unfold cN; omega
      omega
    rw [u5, n1, nI_cl (by omega), (RB _ hl).1]
    exact (if_neg c2).symm
theorem E_X8_farthestNew {W : jWd} {n : Nat} {a0 : Nat} {h : jH} {q : Int32} (R : rodE (oc h) a0 W) (K : wOK W) (hf : F_X8_farthestNew n a0 h = some q) : q = moW W := by
  unfold F_X8_farthestNew at hf
  obtain ⟨⟨s0, s1, s2, s3, s4, s5⟩, ⟨u5, u10, u11, u12, u13, u14, u15, u16, u17⟩, RB, RC, RL⟩ := id R
  replace hf := jbind hf
  obtain ⟨v1, e1, hf⟩ := hf
  have r1 := oc_gI e1
  subst r1
  clear e1
  replace hf := jite hf
  rcases hf with ⟨c2, hf⟩ | ⟨c2, hf⟩
  · skip
    cases hf
    -- leaf 0: (31 : Int32)
    rw [u5] at c2
    exact (if_pos c2).symm
  · skip
    replace hf := jbind hf
    obtain ⟨p15, e3, hf⟩ := hf
    have r3 := oc_gR e3
    rw [s0] at r3
    cases r3
    clear e3
    replace hf := jbind hf
    obtain ⟨v19, e4, hf⟩ := hf
    have r4 := oc_gI e4
    subst r4
    clear e4
    replace hf := jbind hf
    obtain ⟨v24, e5, hf⟩ := hf
    obtain ⟨r5, y5⟩ := oc_al e5
    subst r5
    clear e5
    replace hf := jbind hf
    obtain ⟨p26, e6, hf⟩ := hf
    have r6 := oc_gR e6
    rw [s1] at r6
    cases r6
    clear e6
    replace hf := jbind hf
    obtain ⟨v30, e7, hf⟩ := hf
    have r7 := oc_gI e7
    subst r7
    clear e7
    replace hf := jbind hf
    obtain ⟨v35, e8, hf⟩ := hf
    obtain ⟨r8, y8⟩ := oc_al e8
    subst r8
    clear e8
    cases hf
    -- leaf 1: (if (v24 + v35) < (31 : Int32) then v24 + v35 else (31 : Int32))
    rw [u5] at c2
    obtain ⟨n1, n2, n3⟩ := cN_last K c2
    have hl : ((cN W - 1 : Nat) : Int) < (W 0).toInt := by
      have k0 := K.1
      have ec : (cN W : Int) = (W 0).toInt := by unfold cN; omega
      omega
    rw [u5, n1, nI_cl (by omega), (RB _ hl).1, (RB _ hl).2.1]
    exact (if_neg c2).symm
theorem E_X8_add {W : jWd} {n : Nat} {a0 : Nat} {x1 : Int32} {x2 : Int32} {h : jH} {q : jH} (R : rodE (oc h) a0 W) (K : wOK W) (hc : cN W < 8) (hf : F_X8_add n a0 x1 x2 h = some q) : rodE (oc q) a0 (hgW W x1 x2) ∧ frR a0 (oc h) (oc q) ∧ q.1 = h.1 := by
  unfold F_X8_add at hf
  obtain ⟨⟨s0, s1, s2, s3, s4, s5⟩, ⟨u5, u10, u11, u12, u13, u14, u15, u16, u17⟩, RB, RC, RL⟩ := id R
  have k0 := K.1
  have ec : (cN W : Int) = (W 0).toInt := by unfold cN; omega
  have h5 : oi (oc h) a0 5 = nI (cN W) := u5.trans (nI_k ec.symm)
  replace hf := jbind hf
  obtain ⟨v1, e1, hf⟩ := hf
  have r1 := oc_gI e1
  subst r1
  clear e1
  replace hf := jite hf
  rcases hf with ⟨c2, hf⟩ | ⟨c2, hf⟩
  · skip
    replace hf := jbind hf
    obtain ⟨p11, e3, hf⟩ := hf
    have r3 := oc_gR e3
    rw [s0] at r3
    cases r3
    clear e3
    replace hf := jbind hf
    obtain ⟨v15, e4, hf⟩ := hf
    have r4 := oc_gI e4
    subst r4
    clear e4
    replace hf := jbind hf
    obtain ⟨h19, e5, hf⟩ := hf
    obtain ⟨o5, z5, y5⟩ := oc_as e5
    rw [jnar0] at o5
    clear e5
    replace hf := jbind hf
    obtain ⟨p21, e6, hf⟩ := hf
    have r6 := oc_gR e6
    rw [o5] at r6
    rw [u2_ne (Or.inl (by omega))] at r6
    rw [s1] at r6
    cases r6
    clear e6
    replace hf := jbind hf
    obtain ⟨v25, e7, hf⟩ := hf
    have r7 := oc_gI e7
    rw [o5] at r7
    rw [oi_ne (Or.inl (by omega))] at r7
    subst r7
    clear e7
    replace hf := jbind hf
    obtain ⟨h29, e8, hf⟩ := hf
    obtain ⟨o8, z8, y8⟩ := oc_as e8
    rw [jnar0] at o8
    clear e8
    replace hf := jbind hf
    obtain ⟨p31, e9, hf⟩ := hf
    have r9 := oc_gR e9
    rw [o8] at r9
    rw [u2_ne (Or.inl (by omega))] at r9
    rw [o5] at r9
    rw [u2_ne (Or.inl (by omega))] at r9
    rw [s2] at r9
    cases r9
    clear e9
    replace hf := jbind hf
    obtain ⟨v35, e10, hf⟩ := hf
    have r10 := oc_gI e10
    rw [o8] at r10
    rw [oi_ne (Or.inl (by omega))] at r10
    rw [o5] at r10
    rw [oi_ne (Or.inl (by omega))] at r10
    subst r10
    clear e10
    replace hf := jbind hf
    obtain ⟨h39, e11, hf⟩ := hf
    obtain ⟨o11, z11, y11⟩ := oc_as e11
    rw [jnar0] at o11
    clear e11
    replace hf := jbind hf
    obtain ⟨p41, e12, hf⟩ := hf
    have r12 := oc_gR e12
    rw [o11] at r12
    rw [u2_ne (Or.inl (by omega))] at r12
    rw [o8] at r12
    rw [u2_ne (Or.inl (by omega))] at r12
    rw [o5] at r12
    rw [u2_ne (Or.inl (by omega))] at r12
    rw [s3] at r12
    cases r12
    clear e12
    replace hf := jbind hf
    obtain ⟨v45, e13, hf⟩ := hf
    have r13 := oc_gI e13
    rw [o11] at r13
    rw [oi_ne (Or.inl (by omega))] at r13
    rw [o8] at r13
    rw [oi_ne (Or.inl (by omega))] at r13
    rw [o5] at r13
    rw [oi_ne (Or.inl (by omega))] at r13
    subst r13
    clear e13
    replace hf := jbind hf
    obtain ⟨h49, e14, hf⟩ := hf
    obtain ⟨o14, z14, y14⟩ := oc_as e14
    rw [jnar0] at o14
    clear e14
    replace hf := jbind hf
    obtain ⟨v52, e15, hf⟩ := hf
    have r15 := oc_gI e15
    rw [o14] at r15
    rw [oi_ne (Or.inl (by omega))] at r15
    rw [o11] at r15
    rw [oi_ne (Or.inl (by omega))] at r15
    rw [o8] at r15
    rw [oi_ne (Or.inl (by omega))] at r15
    rw [o5] at r15
    rw [oi_ne (Or.inl (by omega))] at r15
    subst r15
    clear e15
    replace hf := jbind hf
    obtain ⟨v56, e16, hf⟩ := hf
    have r16 := oc_gI e16
    rw [o14] at r16
    rw [oi_ne (Or.inl (by omega))] at r16
    rw [o11] at r16
    rw [oi_ne (Or.inl (by omega))] at r16
    rw [o8] at r16
    rw [oi_ne (Or.inl (by omega))] at r16
    rw [o5] at r16
    rw [oi_ne (Or.inl (by omega))] at r16
    subst r16
    clear e16
    replace hf := jbind hf
    obtain ⟨v60, e17, hf⟩ := hf
    have r17 := E_X11_withBit (i := cN W) h5 e17
    subst r17
    replace hf := jbind hf
    obtain ⟨h63, e18, hf⟩ := hf
    obtain ⟨o18, z18⟩ := oc_pf e18
    clear e18
    replace hf := jbind hf
    obtain ⟨v68, e19, hf⟩ := hf
    have r19 := oc_gI e19
    rw [o18] at r19
    rw [oi_ne (Or.inr (by decide))] at r19
    rw [o14] at r19
    rw [oi_ne (Or.inl (by omega))] at r19
    rw [o11] at r19
    rw [oi_ne (Or.inl (by omega))] at r19
    rw [o8] at r19
    rw [oi_ne (Or.inl (by omega))] at r19
    rw [o5] at r19
    rw [oi_ne (Or.inl (by omega))] at r19
    subst r19
    clear e19
    replace hf := jbind hf
    obtain ⟨v72, e20, hf⟩ := hf
    have r20 := oc_gI e20
    rw [o18] at r20
    rw [oi_ne (Or.inr (by decide))] at r20
    rw [o14] at r20
    rw [oi_ne (Or.inl (by omega))] at r20
    rw [o11] at r20
    rw [oi_ne (Or.inl (by omega))] at r20
    rw [o8] at r20
    rw [oi_ne (Or.inl (by omega))] at r20
    rw [o5] at r20
    rw [oi_ne (Or.inl (by omega))] at r20
    subst r20
    clear e20
    replace hf := jbind hf
    obtain ⟨v76, e21, hf⟩ := hf
    have r21 := E_X11_withBit (i := cN W) h5 e21
    subst r21
    replace hf := jbind hf
    obtain ⟨h79, e22, hf⟩ := hf
    obtain ⟨o22, z22⟩ := oc_pf e22
    clear e22
    replace hf := jbind hf
    obtain ⟨v84, e23, hf⟩ := hf
    have r23 := oc_gI e23
    rw [o22] at r23
    rw [oi_ne (Or.inr (by decide))] at r23
    rw [o18] at r23
    rw [oi_ne (Or.inr (by decide))] at r23
    rw [o14] at r23
    rw [oi_ne (Or.inl (by omega))] at r23
    rw [o11] at r23
    rw [oi_ne (Or.inl (by omega))] at r23
    rw [o8] at r23
    rw [oi_ne (Or.inl (by omega))] at r23
    rw [o5] at r23
    rw [oi_ne (Or.inl (by omega))] at r23
    subst r23
    clear e23
    replace hf := jbind hf
    obtain ⟨v88, e24, hf⟩ := hf
    have r24 := oc_gI e24
    rw [o22] at r24
    rw [oi_ne (Or.inr (by decide))] at r24
    rw [o18] at r24
    rw [oi_ne (Or.inr (by decide))] at r24
    rw [o14] at r24
    rw [oi_ne (Or.inl (by omega))] at r24
    rw [o11] at r24
    rw [oi_ne (Or.inl (by omega))] at r24
    rw [o8] at r24
    rw [oi_ne (Or.inl (by omega))] at r24
    rw [o5] at r24
    rw [oi_ne (Or.inl (by omega))] at r24
    subst r24
    clear e24
    replace hf := jbind hf
    obtain ⟨v92, e25, hf⟩ := hf
    have r25 := E_X11_withBit (i := cN W) h5 e25
    subst r25
    replace hf := jbind hf
    obtain ⟨h95, e26, hf⟩ := hf
    obtain ⟨o26, z26⟩ := oc_pf e26
    clear e26
    replace hf := jbind hf
    obtain ⟨v100, e27, hf⟩ := hf
    have r27 := oc_gI e27
    rw [o26] at r27
    rw [oi_ne (Or.inr (by decide))] at r27
    rw [o22] at r27
    rw [oi_ne (Or.inr (by decide))] at r27
    rw [o18] at r27
    rw [oi_ne (Or.inr (by decide))] at r27
    rw [o14] at r27
    rw [oi_ne (Or.inl (by omega))] at r27
    rw [o11] at r27
    rw [oi_ne (Or.inl (by omega))] at r27
    rw [o8] at r27
    rw [oi_ne (Or.inl (by omega))] at r27
    rw [o5] at r27
    rw [oi_ne (Or.inl (by omega))] at r27
    subst r27
    clear e27
    replace hf := jbind hf
    obtain ⟨v104, e28, hf⟩ := hf
    have r28 := oc_gI e28
    rw [o26] at r28
    rw [oi_ne (Or.inr (by decide))] at r28
    rw [o22] at r28
    rw [oi_ne (Or.inr (by decide))] at r28
    rw [o18] at r28
    rw [oi_ne (Or.inr (by decide))] at r28
    rw [o14] at r28
    rw [oi_ne (Or.inl (by omega))] at r28
    rw [o11] at r28
    rw [oi_ne (Or.inl (by omega))] at r28
    rw [o8] at r28
    rw [oi_ne (Or.inl (by omega))] at r28
    rw [o5] at r28
    rw [oi_ne (Or.inl (by omega))] at r28
    subst r28
    clear e28
    replace hf := jbind hf
    obtain ⟨v108, e29, hf⟩ := hf
    have r29 := E_X11_withBit (i := cN W) h5 e29
    subst r29
    replace hf := jbind hf
    obtain ⟨h111, e30, hf⟩ := hf
    obtain ⟨o30, z30⟩ := oc_pf e30
    clear e30
    replace hf := jbind hf
    obtain ⟨v116, e31, hf⟩ := hf
    have r31 := oc_gI e31
    rw [o30] at r31
    rw [oi_ne (Or.inr (by decide))] at r31
    rw [o26] at r31
    rw [oi_ne (Or.inr (by decide))] at r31
    rw [o22] at r31
    rw [oi_ne (Or.inr (by decide))] at r31
    rw [o18] at r31
    rw [oi_ne (Or.inr (by decide))] at r31
    rw [o14] at r31
    rw [oi_ne (Or.inl (by omega))] at r31
    rw [o11] at r31
    rw [oi_ne (Or.inl (by omega))] at r31
    rw [o8] at r31
    rw [oi_ne (Or.inl (by omega))] at r31
    rw [o5] at r31
    rw [oi_ne (Or.inl (by omega))] at r31
    subst r31
    clear e31
    replace hf := jbind hf
    obtain ⟨h121, e32, hf⟩ := hf
    obtain ⟨o32, z32⟩ := oc_pf e32
    clear e32
    cases hf
    -- leaf 0: h121
    rw [h5, nI_cl (by omega)] at o5 o8 o11 o14
    refine ⟨rodE_hg R K hc (by rw [o32, o30, o26, o22, o18, o14, o11, o8, o5]), ?_, z32.trans (z30.trans (z26.trans (z22.trans (z18.trans (z14.trans (z11.trans (z8.trans (z5))))))))⟩
    rw [o32, o30, o26, o22, o18, o14, o11, o8, o5]
    exact frR_tr (frR_tr (frR_tr (frR_tr (frR_tr (frR_tr (frR_tr (frR_tr (frR_u2 (by omega)) (frR_u2 (by omega))) (frR_u2 (by omega))) (frR_u2 (by omega))) (frR_u2 (by omega))) (frR_u2 (by omega))) (frR_u2 (by omega))) (frR_u2 (by omega))) (frR_u2 (by omega))
  · skip
    cases hf
    -- leaf 1: h
    exact absurd c2 (by rw [h5, Int32.lt_iff_toInt_lt, nI_toInt (by omega), show (8 : Int32).toInt = 8 from rfl]; omega)
theorem E_X11_sew {W : jWd} {nx : Nat} {n : Nat} {a0 : Nat} {x1 : Int32} {x2 : Int32} {h : jH} {q : jR × jH} (C : cPre a0 nx W h) (hf : F_X11_sew n a0 x1 x2 h = some q) : (¬ (0 ≤ x1.toInt ∧ x1.toInt ≤ 31) ∧ q.1 = .inr 2 ∧ q.2 = h) ∨ ((0 ≤ x1.toInt ∧ x1.toInt ≤ 31) ∧ ((¬ (1 ≤ x2.toInt ∧ x2.toInt ≤ 9) ∧ q.1 = .inr 0 ∧ q.2 = h) ∨ ((1 ≤ x2.toInt ∧ x2.toInt ≤ 9) ∧ ((¬ canS W x1 ∧ q.1 = .inr 1 ∧ q.2 = h) ∨ (canS W x1 ∧ q.1 = .inl (hgW W x1 x2 0 - 1) ∧ cAct a0 nx W (hgW W x1 x2) h q.2))))) := by
  unfold F_X11_sew at hf
  obtain ⟨⟨X1, X3, sA, hx, hn, R, K⟩, hb, hz, sz⟩ := id C
  obtain ⟨⟨s0, s1, s2, s3, s4, s5⟩, ⟨u5, u10, u11, u12, u13, u14, u15, u16, u17⟩, RB, RC, RL⟩ := id R
  replace hf := jbind hf
  obtain ⟨q2, e1, hf⟩ := hf
  replace e1 := (jcv_o e1).2
  have r1 := E_X11_requirePlace e1
  obtain ⟨wq2, h2⟩ := q2
  have hqq : h2 = h := r1.elim (fun y => y.2.2) (fun y => y.2.2)
  subst hqq
  rcases wq2 with r2 | xq2
  · skip
    replace hf := (jthen_l (q := (.inl r2, h2)) rfl).symm.trans hf
    dsimp only at hf
    replace hf := jbind hf
    obtain ⟨q10, e2, hf⟩ := hf
    replace e2 := (jcv_o e2).2
    have r2 := E_X11_requireNumber e2
    obtain ⟨wq10, h10⟩ := q10
    have hqq : h10 = h2 := r2.elim (fun y => y.2.2) (fun y => y.2.2)
    subst hqq
    rcases wq10 with r10 | xq10
    · skip
      replace hf := (jthen_l (q := (.inl r10, h10)) rfl).symm.trans hf
      dsimp only at hf
      replace hf := jbind hf
      obtain ⟨p14, e3, hf⟩ := hf
      have r3 := oc_gR e3
      rw [X1] at r3
      cases r3
      clear e3
      replace hf := jbind hf
      obtain ⟨v17, e4, hf⟩ := hf
      have r4 := oc_gI e4
      subst r4
      clear e4
      replace hf := jite hf
      rcases hf with ⟨c5, hf⟩ | ⟨c5, hf⟩
      · skip
        cases hf
        -- leaf 0: (.inr 1, h10)
        have k0 := K.1
        rw [u5, Int32.le_iff_toInt_le, show (8 : Int32).toInt = 8 from rfl] at c5
        have P : (0 ≤ x1.toInt ∧ x1.toInt ≤ 31) := by
          rcases r1 with ⟨P, -, -⟩ | ⟨-, y, -⟩
          · exact P
          · cases y
        have P2 : (1 ≤ x2.toInt ∧ x2.toInt ≤ 9) := by
          rcases r2 with ⟨P, -, -⟩ | ⟨-, y, -⟩
          · exact P
          · cases y
        exact Or.inr ⟨P, Or.inr ⟨P2, Or.inl ⟨fun z => z.1 (nI_k (k := 8) (by show (W 0).toInt = 8; omega)), rfl, rfl⟩⟩⟩
      · skip
        replace hf := jbind hf
        obtain ⟨p27, e6, hf⟩ := hf
        have r6 := oc_gR e6
        rw [X1] at r6
        cases r6
        clear e6
        replace hf := jbind hf
        obtain ⟨v30, e7, hf⟩ := hf
        replace e7 := (jcv_o e7).2
        have r7 := E_X8_nearestNew R K e7
        replace hf := jite hf
        rcases hf with ⟨c8, hf⟩ | ⟨c8, hf⟩
        · skip
          cases hf
          -- leaf 10: (.inr 1, h10)
          rw [r7, Int32.lt_iff_toInt_lt] at c8
          have P : (0 ≤ x1.toInt ∧ x1.toInt ≤ 31) := by
            rcases r1 with ⟨P, -, -⟩ | ⟨-, y, -⟩
            · exact P
            · cases y
          have P2 : (1 ≤ x2.toInt ∧ x2.toInt ≤ 9) := by
            rcases r2 with ⟨P, -, -⟩ | ⟨-, y, -⟩
            · exact P
            · cases y
          exact Or.inr ⟨P, Or.inr ⟨P2, Or.inl ⟨fun z => by have := z.2.1; omega, rfl, rfl⟩⟩⟩
        · skip
          replace hf := jbind hf
          obtain ⟨p38, e9, hf⟩ := hf
          have r9 := oc_gR e9
          rw [X1] at r9
          cases r9
          clear e9
          replace hf := jbind hf
          obtain ⟨v41, e10, hf⟩ := hf
          replace e10 := (jcv_o e10).2
          have r10 := E_X8_farthestNew R K e10
          replace hf := jite hf
          rcases hf with ⟨c11, hf⟩ | ⟨c11, hf⟩
          · skip
            replace hf := jbind hf
            obtain ⟨p58, e12, hf⟩ := hf
            have r12 := oc_gR e12
            rw [X3] at r12
            cases r12
            clear e12
            replace hf := jbind hf
            obtain ⟨p62, e13, hf⟩ := hf
            have r13 := oc_gR e13
            rw [X1] at r13
            cases r13
            clear e13
            replace hf := jbind hf
            obtain ⟨h65, e14, hf⟩ := hf
            replace e14 := (jcv_o e14).2
            have n8 : ¬ W 0 = 8 := fun z => c5 (by rw [u5, z]; decide)
            have hc := cN_lt K n8
            obtain ⟨Y1, RR, AA⟩ := c_rem C e14
            obtain ⟨⟨t0, t1, t2, t3, t4, t5⟩, ⟨g5, g10, g11, g12, g13, g14, g15, g16, g17⟩, QB, QC, QL⟩ := id RR
            replace hf := jbind hf
            obtain ⟨p69, e15, hf⟩ := hf
            have r15 := oc_gR e15
            rw [Y1] at r15
            cases r15
            clear e15
            replace hf := jbind hf
            obtain ⟨h74, e16, hf⟩ := hf
            replace e16 := (jcv_o e16).2
            obtain ⟨G1, G2, G3⟩ := E_X8_add RR K hc e16
            have Y2 : oc h74 a0 1 = .ref (a0 + 6) := (G2 _ _ (by omega)).trans Y1
            replace hf := jbind hf
            obtain ⟨p78, e17, hf⟩ := hf
            have r17 := oc_gR e17
            rw [Y2] at r17
            cases r17
            clear e17
            replace hf := jbind hf
            obtain ⟨v81, e18, hf⟩ := hf
            have r18 := oc_gI e18
            subst r18
            clear e18
            cases hf
            -- leaf 110: (.inl (v81 - (1 : Int32)), h74)
            rw [r7, Int32.lt_iff_toInt_lt] at c8
            rw [r10, Int32.le_iff_toInt_le] at c11
            have P : (0 ≤ x1.toInt ∧ x1.toInt ≤ 31) := by
              rcases r1 with ⟨P, -, -⟩ | ⟨-, y, -⟩
              · exact P
              · cases y
            have P2 : (1 ≤ x2.toInt ∧ x2.toInt ≤ 9) := by
              rcases r2 with ⟨P, -, -⟩ | ⟨-, y, -⟩
              · exact P
              · cases y
            exact Or.inr ⟨P, Or.inr ⟨P2, Or.inr ⟨⟨n8, by omega, c11⟩, by rw [G1.2.1.1], c_mk hz hb AA G2 G1 G3⟩⟩⟩
          · skip
            cases hf
            -- leaf 111: (.inr 1, h10)
            rw [r10, Int32.le_iff_toInt_le] at c11
            have P : (0 ≤ x1.toInt ∧ x1.toInt ≤ 31) := by
              rcases r1 with ⟨P, -, -⟩ | ⟨-, y, -⟩
              · exact P
              · cases y
            have P2 : (1 ≤ x2.toInt ∧ x2.toInt ≤ 9) := by
              rcases r2 with ⟨P, -, -⟩ | ⟨-, y, -⟩
              · exact P
              · cases y
            exact Or.inr ⟨P, Or.inr ⟨P2, Or.inl ⟨fun z => c11 z.2.2, rfl, rfl⟩⟩⟩
    · skip
      replace hf := (jthen_r (q := (.inr xq10, h10)) rfl).symm.trans hf
      cases hf
      have P : (0 ≤ x1.toInt ∧ x1.toInt ≤ 31) := by
        rcases r1 with ⟨P, -, -⟩ | ⟨-, y, -⟩
        · exact P
        · cases y
      rcases r2 with ⟨-, y, -⟩ | ⟨P2, y, -⟩
      · cases y
      · exact Or.inr ⟨P, Or.inl ⟨P2, y, rfl⟩⟩
  · skip
    replace hf := (jthen_r (q := (.inr xq2, h2)) rfl).symm.trans hf
    cases hf
    rcases r1 with ⟨-, y, -⟩ | ⟨P, y, -⟩
    · cases y
    · exact Or.inl ⟨P, y, rfl⟩
