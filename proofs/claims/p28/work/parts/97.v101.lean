theorem chV_bit {v x : Int32} {k : Nat} (hk : k < 32) (hx : x = 0 ∨ x = 1) : ∀ j, j < 32 → (bt (chV v k x) j = true ↔ (if j = k then x = 1 else bt v j = true)) := by
  intro j hj
  rcases hx with rfl | rfl
  · unfold chV
    rw [if_pos rfl, b_clr hk hj]
    by_cases e : j = k <;> simp [e]
  · unfold chV
    rw [if_neg (by decide), b_set hk hj]
    by_cases e : j = k <;> simp [e]
theorem gap_c {W : jWd} {i : Nat} {x v e : Int32} (hn : (i : Int) + 1 < (W 0).toInt) (h : v = if (i : Int) + 1 < (upd W (18 + 8 * i) x 0).toInt then upd W (18 + 8 * i) x (11 + 8 * (i + 1)) - upd W (18 + 8 * i) x (11 + 8 * i) else e) : v = W (11 + 8 * (i + 1)) - W (11 + 8 * i) := by
  rw [h, upd_n (by omega), if_pos hn, upd_n (by omega), upd_n (by omega)]
theorem E_X11_bit {i : Nat} {n : Nat} {x0 : Int32} {x1 : Int32} {h : jH} {q : Int32} (hx : x1 = nI i) (h8 : i < 32) (hf : F_X11_bit n x0 x1 h = some q) : q = if bt x0 i = true then 1 else 0 := by
  unfold F_X11_bit at hf
  cases hf
  -- leaf : ((jushr x0 x1) &&& (1 : Int32))
  rw [hx]
  exact b_ask0 h8
theorem E_X11_withBit {i : Nat} {n : Nat} {x0 : Int32} {x1 : Int32} {x2 : Int32} {h : jH} {q : Int32} (hx : x1 = nI i) (hf : F_X11_withBit n x0 x1 x2 h = some q) : q = chV x0 i x2 := by
  unfold F_X11_withBit at hf
  replace hf := jite hf
  rcases hf with ⟨c1, hf⟩ | ⟨c1, hf⟩
  · skip
    cases hf
    -- leaf 0: (x0 &&& (((1 : Int32) <<< (x1 &&& 31)) ^^^ (- 1 : Int32)))
    unfold chV
    rw [if_pos c1, hx]
  · skip
    cases hf
    -- leaf 1: (x0 ||| ((1 : Int32) <<< (x1 &&& 31)))
    unfold chV
    rw [if_neg c1, hx]
theorem E_X11_free {W : jWd} {nx : Nat} {n : Nat} {a0 : Nat} {x1 : Int32} {h : jH} {q : jR × jH} (C : cPre a0 nx W h) (hf : F_X11_free n a0 x1 h = some q) : (¬ (0 ≤ x1.toInt ∧ x1.toInt < (W 0).toInt) ∧ q.1 = .inr 2 ∧ q.2 = h) ∨ ∃ i : Nat, i < 8 ∧ x1 = nI i ∧ (i : Int) < (W 0).toInt ∧ ((W (18 + 8 * i) ≠ 1 ∧ q.1 = .inr 1 ∧ q.2 = h) ∨ (¬ (W (18 + 8 * i) ≠ 1) ∧ (i : Int) + 1 < (W 0).toInt ∧ q.1 = .inl (W (11 + 8 * (i + 1)) - W (11 + 8 * i)) ∧ cAct a0 nx W (upd W (18 + 8 * i) 0) h q.2)) := by
  unfold F_X11_free at hf
  obtain ⟨⟨X1, X3, sA, hx, hn, R, K⟩, hb, hz, sz⟩ := id C
  obtain ⟨⟨s0, s1, s2, s3, s4, s5⟩, ⟨u5, u10, u11, u12, u13, u14, u15, u16, u17⟩, RB, RC, RL⟩ := id R
  replace hf := jbind hf
  obtain ⟨q2, e1, hf⟩ := hf
  replace e1 := (jcv_o e1).2
  have r1 := E_X11_requireRing C e1
  obtain ⟨wq2, h2⟩ := q2
  have hqq : h2 = h := r1.elim (fun y => y.2.2) (fun y => y.2.2)
  subst hqq
  rcases wq2 with r2 | xq2
  · skip
    replace hf := (jthen_l (q := (.inl r2, h2)) rfl).symm.trans hf
    dsimp only at hf
    replace hf := jbind hf
    obtain ⟨p6, e2, hf⟩ := hf
    have r2 := oc_gR e2
    rw [X1] at r2
    cases r2
    clear e2
    replace hf := jbind hf
    obtain ⟨v9, e3, hf⟩ := hf
    have r3 := oc_gI e3
    subst r3
    clear e3
    replace hf := jbind hf
    obtain ⟨v13, e4, hf⟩ := hf
    have P : (0 ≤ x1.toInt ∧ x1.toInt < (W 0).toInt) := by
      rcases r1 with ⟨P, -, -⟩ | ⟨-, y, -⟩
      · exact P
      · cases y
    obtain ⟨i, h8, hi, hi0⟩ := i_ring K P
    have r4 := E_X11_bit (i := i) hi (by omega) e4
    replace hf := jite hf
    rcases hf with ⟨c5, hf⟩ | ⟨c5, hf⟩
    · skip
      cases hf
      -- leaf 0: (.inr 1, h2)
      refine Or.inr ⟨i, h8, hi, hi0, ?_⟩
      exact Or.inl ⟨fun z => absurd ((r4.trans (if_pos ((RB i hi0).2.2.2.2.2.2.2.mpr z))).symm.trans c5) (by decide), rfl, rfl⟩
    · skip
      replace hf := jbind hf
      obtain ⟨p30, e6, hf⟩ := hf
      have r6 := oc_gR e6
      rw [X3] at r6
      cases r6
      clear e6
      replace hf := jbind hf
      obtain ⟨p34, e7, hf⟩ := hf
      have r7 := oc_gR e7
      rw [X1] at r7
      cases r7
      clear e7
      replace hf := jbind hf
      obtain ⟨h37, e8, hf⟩ := hf
      replace e8 := (jcv_o e8).2
      obtain ⟨Y1, RR, AA⟩ := c_rem C e8
      obtain ⟨⟨t0, t1, t2, t3, t4, t5⟩, ⟨g5, g10, g11, g12, g13, g14, g15, g16, g17⟩, QB, QC, QL⟩ := id RR
      replace hf := jbind hf
      obtain ⟨p41, e9, hf⟩ := hf
      have r9 := oc_gR e9
      rw [Y1] at r9
      cases r9
      clear e9
      replace hf := jbind hf
      obtain ⟨p45, e10, hf⟩ := hf
      have r10 := oc_gR e10
      rw [Y1] at r10
      cases r10
      clear e10
      replace hf := jbind hf
      obtain ⟨v48, e11, hf⟩ := hf
      have r11 := oc_gI e11
      subst r11
      clear e11
      replace hf := jbind hf
      obtain ⟨v53, e12, hf⟩ := hf
      have r12 := E_X11_withBit (i := i) hi e12
      subst r12
      replace hf := jbind hf
      obtain ⟨h56, e13, hf⟩ := hf
      obtain ⟨o13, z13⟩ := oc_pf e13
      clear e13
      replace hf := jbind hf
      obtain ⟨p60, e14, hf⟩ := hf
      have r14 := oc_gR e14
      rw [o13] at r14
      rw [u2_ne (Or.inl (by omega))] at r14
      rw [Y1] at r14
      cases r14
      clear e14
      replace hf := jbind hf
      obtain ⟨v65, e15, hf⟩ := hf
      replace e15 := (jcv_o e15).2
      cases hf
      -- leaf 1: (.inl v65, h56)
      refine Or.inr ⟨i, h8, hi, hi0, ?_⟩
      have ct : W (18 + 8 * i) = 1 := Classical.byContradiction fun z => c5 (r4.trans (if_neg fun y => z ((RB i hi0).2.2.2.2.2.2.2.mp y)))
      have hn := ring_next K hi0 ct
      have f7 : frR (a0 + 6) (oc h37) (oc h56) := by rw [o13]; exact frR_u2 (by omega)
      have R7 : rodE (oc h56) (a0 + 6) (upd W (18 + 8 * i) 0) := by rw [o13]; exact rodE_ct RR hi0 h8 (chV_bit (by omega) (Or.inl rfl)) K.1
      have g7 := gap_c hn (E_X8_gap R7 (wOK_ct K (Or.inl rfl)) hi (by omega) e15)
      exact Or.inr ⟨fun z => z ct, hn, by rw [g7], c_mk hz hb AA f7 R7 z13⟩
  · skip
    replace hf := (jthen_r (q := (.inr xq2, h2)) rfl).symm.trans hf
    cases hf
    rcases r1 with ⟨-, y, -⟩ | ⟨P, y, -⟩
    · cases y
    · exact Or.inl ⟨P, y, rfl⟩
theorem E_X11_snag {W : jWd} {nx : Nat} {n : Nat} {a0 : Nat} {x1 : Int32} {h : jH} {q : jR × jH} (C : cPre a0 nx W h) (hf : F_X11_snag n a0 x1 h = some q) : (¬ (0 ≤ x1.toInt ∧ x1.toInt < (W 0).toInt) ∧ q.1 = .inr 2 ∧ q.2 = h) ∨ ∃ i : Nat, i < 8 ∧ x1 = nI i ∧ (i : Int) < (W 0).toInt ∧ ((((i : Int) + 1 = (W 0).toInt ∨ W (18 + 8 * i) = 1) ∧ q.1 = .inr 1 ∧ q.2 = h) ∨ (¬ (((i : Int) + 1 = (W 0).toInt ∨ W (18 + 8 * i) = 1)) ∧ (i : Int) + 1 < (W 0).toInt ∧ q.1 = .inl (W (11 + 8 * (i + 1)) - W (11 + 8 * i)) ∧ cAct a0 nx W (upd W (18 + 8 * i) 1) h q.2)) := by
  unfold F_X11_snag at hf
  obtain ⟨⟨X1, X3, sA, hx, hn, R, K⟩, hb, hz, sz⟩ := id C
  obtain ⟨⟨s0, s1, s2, s3, s4, s5⟩, ⟨u5, u10, u11, u12, u13, u14, u15, u16, u17⟩, RB, RC, RL⟩ := id R
  replace hf := jbind hf
  obtain ⟨q2, e1, hf⟩ := hf
  replace e1 := (jcv_o e1).2
  have r1 := E_X11_requireRing C e1
  obtain ⟨wq2, h2⟩ := q2
  have hqq : h2 = h := r1.elim (fun y => y.2.2) (fun y => y.2.2)
  subst hqq
  rcases wq2 with r2 | xq2
  · skip
    replace hf := (jthen_l (q := (.inl r2, h2)) rfl).symm.trans hf
    dsimp only at hf
    replace hf := jbind hf
    obtain ⟨p7, e2, hf⟩ := hf
    have r2 := oc_gR e2
    rw [X1] at r2
    cases r2
    clear e2
    replace hf := jbind hf
    obtain ⟨v10, e3, hf⟩ := hf
    have r3 := oc_gI e3
    subst r3
    clear e3
    replace hf := jite hf
    rcases hf with ⟨c4, hf⟩ | ⟨c4, hf⟩
    · skip
      cases hf
      -- leaf 0: (.inr 1, h2)
      have P : (0 ≤ x1.toInt ∧ x1.toInt < (W 0).toInt) := by
        rcases r1 with ⟨P, -, -⟩ | ⟨-, y, -⟩
        · exact P
        · cases y
      obtain ⟨i, h8, hi, hi0⟩ := i_ring K P
      have k0 := K.1
      have l1 : (1 : Int32).toInt = 1 := rfl
      rw [u5, hi] at c4
      have y := congrArg Int32.toInt c4
      rw [nI_toInt (by omega), jsub (by omega) (by omega), l1] at y
      refine Or.inr ⟨i, h8, hi, hi0, ?_⟩
      exact Or.inl ⟨Or.inl (by omega), rfl, rfl⟩
    · skip
      replace hf := jbind hf
      obtain ⟨p19, e5, hf⟩ := hf
      have r5 := oc_gR e5
      rw [X1] at r5
      cases r5
      clear e5
      replace hf := jbind hf
      obtain ⟨v22, e6, hf⟩ := hf
      have r6 := oc_gI e6
      subst r6
      clear e6
      replace hf := jbind hf
      obtain ⟨v26, e7, hf⟩ := hf
      have P : (0 ≤ x1.toInt ∧ x1.toInt < (W 0).toInt) := by
        rcases r1 with ⟨P, -, -⟩ | ⟨-, y, -⟩
        · exact P
        · cases y
      obtain ⟨i, h8, hi, hi0⟩ := i_ring K P
      have k0 := K.1
      have l1 : (1 : Int32).toInt = 1 := rfl
      have nl : ¬ (i : Int) + 1 = (W 0).toInt := fun z => c4 (by rw [hi, u5]; exact (nI_k (by rw [jsub (by omega) (by omega)]; omega)).symm)
      have r7 := E_X11_bit (i := i) hi (by omega) e7
      replace hf := jite hf
      rcases hf with ⟨c8, hf⟩ | ⟨c8, hf⟩
      · skip
        cases hf
        -- leaf 10: (.inr 1, h2)
        refine Or.inr ⟨i, h8, hi, hi0, ?_⟩
        exact Or.inl ⟨Or.inr (Classical.byContradiction fun z => absurd ((r7.trans (if_neg fun y => z ((RB i hi0).2.2.2.2.2.2.2.mp y))).symm.trans c8) (by decide)), rfl, rfl⟩
      · skip
        replace hf := jbind hf
        obtain ⟨p44, e9, hf⟩ := hf
        have r9 := oc_gR e9
        rw [X3] at r9
        cases r9
        clear e9
        replace hf := jbind hf
        obtain ⟨p48, e10, hf⟩ := hf
        have r10 := oc_gR e10
        rw [X1] at r10
        cases r10
        clear e10
        replace hf := jbind hf
        obtain ⟨h51, e11, hf⟩ := hf
        replace e11 := (jcv_o e11).2
        obtain ⟨Y1, RR, AA⟩ := c_rem C e11
        obtain ⟨⟨t0, t1, t2, t3, t4, t5⟩, ⟨g5, g10, g11, g12, g13, g14, g15, g16, g17⟩, QB, QC, QL⟩ := id RR
        replace hf := jbind hf
        obtain ⟨p55, e12, hf⟩ := hf
        have r12 := oc_gR e12
        rw [Y1] at r12
        cases r12
        clear e12
        replace hf := jbind hf
        obtain ⟨p59, e13, hf⟩ := hf
        have r13 := oc_gR e13
        rw [Y1] at r13
        cases r13
        clear e13
        replace hf := jbind hf
        obtain ⟨v62, e14, hf⟩ := hf
        have r14 := oc_gI e14
        subst r14
        clear e14
        replace hf := jbind hf
        obtain ⟨v67, e15, hf⟩ := hf
        have r15 := E_X11_withBit (i := i) hi e15
        subst r15
        replace hf := jbind hf
        obtain ⟨h70, e16, hf⟩ := hf
        obtain ⟨o16, z16⟩ := oc_pf e16
        clear e16
        replace hf := jbind hf
        obtain ⟨p74, e17, hf⟩ := hf
        have r17 := oc_gR e17
        rw [o16] at r17
        rw [u2_ne (Or.inl (by omega))] at r17
        rw [Y1] at r17
        cases r17
        clear e17
        replace hf := jbind hf
        obtain ⟨v79, e18, hf⟩ := hf
        replace e18 := (jcv_o e18).2
        cases hf
        -- leaf 11: (.inl v79, h70)
        refine Or.inr ⟨i, h8, hi, hi0, ?_⟩
        have nc : ¬ W (18 + 8 * i) = 1 := fun z => c8 (r7.trans (if_pos ((RB i hi0).2.2.2.2.2.2.2.mpr z)))
        have hn : (i : Int) + 1 < (W 0).toInt := by omega
        have f7 : frR (a0 + 6) (oc h51) (oc h70) := by rw [o16]; exact frR_u2 (by omega)
        have R7 : rodE (oc h70) (a0 + 6) (upd W (18 + 8 * i) 1) := by rw [o16]; exact rodE_ct RR hi0 h8 (chV_bit (by omega) (Or.inr rfl)) K.1
        have g7 := gap_c hn (E_X8_gap R7 (wOK_ct K (Or.inr ⟨rfl, hn⟩)) hi (by omega) e18)
        exact Or.inr ⟨fun z => z.elim nl nc, hn, by rw [g7], c_mk hz hb AA f7 R7 z16⟩
  · skip
    replace hf := (jthen_r (q := (.inr xq2, h2)) rfl).symm.trans hf
    cases hf
    rcases r1 with ⟨-, y, -⟩ | ⟨P, y, -⟩
    · cases y
    · exact Or.inl ⟨P, y, rfl⟩
theorem E_X11_hook {W : jWd} {nx : Nat} {n : Nat} {a0 : Nat} {x1 : Int32} {x2 : Int32} {h : jH} {q : jR × jH} (C : cPre a0 nx W h) (hxb : x2 = 0 ∨ x2 = 1) (hf : F_X11_hook n a0 x1 x2 h = some q) : (¬ (0 ≤ x1.toInt ∧ x1.toInt < (W 0).toInt) ∧ q.1 = .inr 2 ∧ q.2 = h) ∨ ∃ i : Nat, i < 8 ∧ x1 = nI i ∧ (i : Int) < (W 0).toInt ∧ (q.1 = .inl (if W (17 + 8 * i) = x2 then 0 else 1) ∧ cAct a0 nx W (upd W (17 + 8 * i) x2) h q.2) := by
  unfold F_X11_hook at hf
  obtain ⟨⟨X1, X3, sA, hx, hn, R, K⟩, hb, hz, sz⟩ := id C
  obtain ⟨⟨s0, s1, s2, s3, s4, s5⟩, ⟨u5, u10, u11, u12, u13, u14, u15, u16, u17⟩, RB, RC, RL⟩ := id R
  replace hf := jbind hf
  obtain ⟨q2, e1, hf⟩ := hf
  replace e1 := (jcv_o e1).2
  have r1 := E_X11_requireRing C e1
  obtain ⟨wq2, h2⟩ := q2
  have hqq : h2 = h := r1.elim (fun y => y.2.2) (fun y => y.2.2)
  subst hqq
  rcases wq2 with r2 | xq2
  · skip
    replace hf := (jthen_l (q := (.inl r2, h2)) rfl).symm.trans hf
    dsimp only at hf
    replace hf := jbind hf
    obtain ⟨p6, e2, hf⟩ := hf
    have r2 := oc_gR e2
    rw [X3] at r2
    cases r2
    clear e2
    replace hf := jbind hf
    obtain ⟨p10, e3, hf⟩ := hf
    have r3 := oc_gR e3
    rw [X1] at r3
    cases r3
    clear e3
    replace hf := jbind hf
    obtain ⟨h13, e4, hf⟩ := hf
    replace e4 := (jcv_o e4).2
    obtain ⟨Y1, RR, AA⟩ := c_rem C e4
    obtain ⟨⟨t0, t1, t2, t3, t4, t5⟩, ⟨g5, g10, g11, g12, g13, g14, g15, g16, g17⟩, QB, QC, QL⟩ := id RR
    replace hf := jbind hf
    obtain ⟨p17, e5, hf⟩ := hf
    have r5 := oc_gR e5
    rw [Y1] at r5
    cases r5
    clear e5
    replace hf := jbind hf
    obtain ⟨v20, e6, hf⟩ := hf
    have r6 := oc_gI e6
    subst r6
    clear e6
    replace hf := jbind hf
    obtain ⟨p25, e7, hf⟩ := hf
    have r7 := oc_gR e7
    rw [Y1] at r7
    cases r7
    clear e7
    replace hf := jbind hf
    obtain ⟨v31, e8, hf⟩ := hf
    have P : (0 ≤ x1.toInt ∧ x1.toInt < (W 0).toInt) := by
      rcases r1 with ⟨P, -, -⟩ | ⟨-, y, -⟩
      · exact P
      · cases y
    obtain ⟨i, h8, hi, hi0⟩ := i_ring K P
    have r8 := E_X11_withBit (i := i) hi e8
    subst r8
    replace hf := jbind hf
    obtain ⟨h34, e9, hf⟩ := hf
    obtain ⟨o9, z9⟩ := oc_pf e9
    clear e9
    replace hf := jbind hf
    obtain ⟨p38, e10, hf⟩ := hf
    have r10 := oc_gR e10
    rw [o9] at r10
    rw [u2_ne (Or.inl (by omega))] at r10
    rw [Y1] at r10
    cases r10
    clear e10
    replace hf := jbind hf
    obtain ⟨v41, e11, hf⟩ := hf
    have r11 := oc_gI e11
    rw [o9] at r11
    rw [oi_eq] at r11
    subst r11
    clear e11
    replace hf := jite hf
    rcases hf with ⟨c12, hf⟩ | ⟨c12, hf⟩
    · skip
      cases hf
      -- leaf 0: (.inl (0 : Int32), h34)
      have an := chV_ans (v := oi (oc h13) (a0 + 6) 8) (show i < 32 by omega) hxb ⟨(K.2.1 i hi0).2.2.2.2.2.2.1, (QB i hi0).2.2.2.2.2.2.1.symm⟩
      have f7 : frR (a0 + 6) (oc h13) (oc h34) := by rw [o9]; exact frR_u2 (by omega)
      have R7 : rodE (oc h34) (a0 + 6) (upd W (17 + 8 * i) x2) := by rw [o9]; exact rodE_hk RR hi0 h8 (chV_bit (by omega) hxb) K.1
      exact Or.inr ⟨i, h8, hi, hi0, congrArg Sum.inl (if_pos (an.mp c12)).symm, c_mk hz hb AA f7 R7 z9⟩
    · skip
      cases hf
      -- leaf 1: (.inl (1 : Int32), h34)
      have an := chV_ans (v := oi (oc h13) (a0 + 6) 8) (show i < 32 by omega) hxb ⟨(K.2.1 i hi0).2.2.2.2.2.2.1, (QB i hi0).2.2.2.2.2.2.1.symm⟩
      have f7 : frR (a0 + 6) (oc h13) (oc h34) := by rw [o9]; exact frR_u2 (by omega)
      have R7 : rodE (oc h34) (a0 + 6) (upd W (17 + 8 * i) x2) := by rw [o9]; exact rodE_hk RR hi0 h8 (chV_bit (by omega) hxb) K.1
      exact Or.inr ⟨i, h8, hi, hi0, congrArg Sum.inl (if_neg fun z => c12 (an.mpr z)).symm, c_mk hz hb AA f7 R7 z9⟩
  · skip
    replace hf := (jthen_r (q := (.inr xq2, h2)) rfl).symm.trans hf
    cases hf
    rcases r1 with ⟨-, y, -⟩ | ⟨P, y, -⟩
    · cases y
    · exact Or.inl ⟨P, y, rfl⟩
theorem E_X11_chair {W : jWd} {nx : Nat} {n : Nat} {a0 : Nat} {x1 : Int32} {x2 : Int32} {h : jH} {q : jR × jH} (C : cPre a0 nx W h) (hf : F_X11_chair n a0 x1 x2 h = some q) : (¬ (0 ≤ x1.toInt ∧ x1.toInt ≤ 31) ∧ q.1 = .inr 2 ∧ q.2 = h) ∨ ∃ i : Nat, i < 32 ∧ x1 = nI i ∧ q.1 = .inl (if chV (W 7) i x2 = W 7 then 0 else 1) ∧ cAct a0 nx W (upd W 7 (chV (W 7) i x2)) h q.2 := by
  unfold F_X11_chair at hf
  obtain ⟨⟨X1, X3, sA, hx, hn, R, K⟩, hb, hz, sz⟩ := id C
  obtain ⟨⟨s0, s1, s2, s3, s4, s5⟩, ⟨u5, u10, u11, u12, u13, u14, u15, u16, u17⟩, RB, RC, RL⟩ := id R
  replace hf := jbind hf
  obtain ⟨q2, e1, hf⟩ := hf
  replace e1 := (jcv_o e1).2
  have r1 := E_X11_requirePlace e1
  obtain ⟨wq2, h2⟩ := q2
  have hqq : h2 = h := r1.elim (fun y => y.2.2) (fun y => y.2.2)
  subst hqq
  rcases wq2 with r2 | xq2
  · skip
    replace hf := (jthen_l (q := (.inl r2, h2)) rfl).symm.trans hf
    dsimp only at hf
    replace hf := jbind hf
    obtain ⟨p6, e2, hf⟩ := hf
    have r2 := oc_gR e2
    rw [X3] at r2
    cases r2
    clear e2
    replace hf := jbind hf
    obtain ⟨p10, e3, hf⟩ := hf
    have r3 := oc_gR e3
    rw [X1] at r3
    cases r3
    clear e3
    replace hf := jbind hf
    obtain ⟨h13, e4, hf⟩ := hf
    replace e4 := (jcv_o e4).2
    obtain ⟨Y1, RR, AA⟩ := c_rem C e4
    obtain ⟨⟨t0, t1, t2, t3, t4, t5⟩, ⟨g5, g10, g11, g12, g13, g14, g15, g16, g17⟩, QB, QC, QL⟩ := id RR
    replace hf := jbind hf
    obtain ⟨p17, e5, hf⟩ := hf
    have r5 := oc_gR e5
    rw [Y1] at r5
    cases r5
    clear e5
    replace hf := jbind hf
    obtain ⟨v20, e6, hf⟩ := hf
    have r6 := oc_gI e6
    subst r6
    clear e6
    replace hf := jbind hf
    obtain ⟨p25, e7, hf⟩ := hf
    have r7 := oc_gR e7
    rw [Y1] at r7
    cases r7
    clear e7
    replace hf := jbind hf
    obtain ⟨v31, e8, hf⟩ := hf
    have P : (0 ≤ x1.toInt ∧ x1.toInt ≤ 31) := by
      rcases r1 with ⟨P, -, -⟩ | ⟨-, y, -⟩
      · exact P
      · cases y
    obtain ⟨i, h8, hi⟩ := i_place P
    have r8 := E_X11_withBit (i := i) hi e8
    subst r8
    replace hf := jbind hf
    obtain ⟨h34, e9, hf⟩ := hf
    obtain ⟨o9, z9⟩ := oc_pf e9
    clear e9
    replace hf := jbind hf
    obtain ⟨p38, e10, hf⟩ := hf
    have r10 := oc_gR e10
    rw [o9] at r10
    rw [u2_ne (Or.inl (by omega))] at r10
    rw [Y1] at r10
    cases r10
    clear e10
    replace hf := jbind hf
    obtain ⟨v41, e11, hf⟩ := hf
    have r11 := oc_gI e11
    rw [o9] at r11
    rw [oi_eq] at r11
    subst r11
    clear e11
    replace hf := jite hf
    rcases hf with ⟨c12, hf⟩ | ⟨c12, hf⟩
    · skip
      cases hf
      -- leaf 0: (.inl (0 : Int32), h34)
      rw [g10] at c12
      have f7 : frR (a0 + 6) (oc h13) (oc h34) := by rw [o9]; exact frR_u2 (by omega)
      have R7 : rodE (oc h34) (a0 + 6) (upd W 7 (chV (W 7) i x2)) := by rw [o9, g10]; exact rodE_i10 RR
      exact Or.inr ⟨i, h8, hi, congrArg Sum.inl (if_pos c12).symm, c_mk hz hb AA f7 R7 z9⟩
    · skip
      cases hf
      -- leaf 1: (.inl (1 : Int32), h34)
      rw [g10] at c12
      have f7 : frR (a0 + 6) (oc h13) (oc h34) := by rw [o9]; exact frR_u2 (by omega)
      have R7 : rodE (oc h34) (a0 + 6) (upd W 7 (chV (W 7) i x2)) := by rw [o9, g10]; exact rodE_i10 RR
      exact Or.inr ⟨i, h8, hi, congrArg Sum.inl (if_neg c12).symm, c_mk hz hb AA f7 R7 z9⟩
  · skip
    replace hf := (jthen_r (q := (.inr xq2, h2)) rfl).symm.trans hf
    cases hf
    rcases r1 with ⟨-, y, -⟩ | ⟨P, y, -⟩
    · cases y
    · exact Or.inl ⟨P, y, rfl⟩
theorem E_X11_seed {W : jWd} {n : Nat} {a0 : Nat} {x1 : Int32} {h : jH} {q : Int32 × jH} (X1 : oc h a0 1 = .ref (a0 + 6)) (R : rodE (oc h) (a0 + 6) W) (hf : F_X11_seed n a0 x1 h = some q) : q.1 = W 10 ∧ rodE (oc q.2) (a0 + 6) (upd W 10 x1) ∧ frR (a0 + 6) (oc h) (oc q.2) ∧ q.2.1 = h.1 := by
  unfold F_X11_seed at hf
  obtain ⟨-, ⟨u5, u10, u11, u12, u13, u14, u15, u16, u17⟩, -⟩ := id R
  replace hf := jbind hf
  obtain ⟨p1, e1, hf⟩ := hf
  have r1 := oc_gR e1
  rw [X1] at r1
  cases r1
  clear e1
  replace hf := jbind hf
  obtain ⟨v4, e2, hf⟩ := hf
  have r2 := oc_gI e2
  subst r2
  clear e2
  replace hf := jbind hf
  obtain ⟨p9, e3, hf⟩ := hf
  have r3 := oc_gR e3
  rw [X1] at r3
  cases r3
  clear e3
  replace hf := jbind hf
  obtain ⟨h13, e4, hf⟩ := hf
  obtain ⟨o4, z4⟩ := oc_pf e4
  clear e4
  cases hf
  -- leaf : (v4, h13)
  have f7 : frR (a0 + 6) (oc h) (oc h13) := by rw [o4]; exact frR_u2 (by omega)
  have R7 : rodE (oc h13) (a0 + 6) (upd W 10 x1) := by rw [o4]; exact rodE_i16 R
  exact ⟨u16, R7, f7, z4⟩
