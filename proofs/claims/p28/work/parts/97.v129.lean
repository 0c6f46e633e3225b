/-! a ring of a pole's text, as the class reads it -/
theorem tk_both {O O2 : jO} {t L m k : Nat} {b : Nat → Int32} {T : Nat → Int32 × Int32} {st : Nat → Nat} {w v : Int32} (K : ck O t b L m T st k) (r : ((T k).1 = w ∧ v = 1 ∧ ck O2 t b L m T st (k + 1)) ∨ ((T k).1 ≠ w ∧ v = 0 ∧ O2 = O)) : v = (tkF T w k).2 ∧ ck O2 t b L m T st (tkF T w k).1 := by
  unfold tkF
  rcases r with ⟨y, y2, y3⟩ | ⟨y, y2, y3⟩
  · rw [if_pos y]; exact ⟨y2, y3⟩
  · rw [if_neg y, y3]; exact ⟨y2, K⟩
theorem tk_pr {a : Prop} {h : jH} {q : Int32 × jH} {P : Prop} (r : a ∨ (P ∧ q = (0, h))) : a ∨ (P ∧ q.1 = 0 ∧ oc q.2 = oc h) := by
  rcases r with r | ⟨y, z⟩
  · exact Or.inl r
  · rw [z]; exact Or.inr ⟨y, rfl, rfl⟩
theorem leW_0 {W : jWd} (K : wOK W) : 0 ≤ (leW W).toInt ∧ (moW W).toInt ≤ 31 := by
  have k := K.1
  have l31 : (31 : Int32).toInt = 31 := rfl
  have l1 : (1 : Int32).toInt = 1 := rfl
  unfold leW moW
  split
  · exact ⟨by decide, by decide⟩
  · rename_i z
    have n := cN_last K z
    have ec : (cN W : Int) = (W 0).toInt := by unfold cN; omega
    obtain ⟨a1, a2, -⟩ := K.2.1 (cN W - 1) (by omega)
    refine ⟨by rw [jadd (by omega) (by omega)]; omega, ?_⟩
    split
    · rename_i y
      rw [Int32.lt_iff_toInt_lt] at y
      omega
    · exact Int.le_refl _
def rmP (x : Nat) (b : Nat → Int32) (L m : Nat) (T : Nat → Int32 × Int32) (st : Nat → Nat) (k d c : Nat) (w hi : Int32) (h : jH) (q : Int32 × jH) : Prop :=
  ((T k).1 ≠ w ∧ q = (1, h)) ∨ ((T k).1 = w ∧ nOK T (k + 1) 0 hi ∧ q.1 = 1 ∧ ck (oc q.2) (x + 1) b L m T st (k + 2) ∧ ∃ O1, (∀ a j : Nat, ¬ (a = x + 1 ∧ j = 5) → O1 a j = oc h a j) ∧ oc q.2 = u2 O1 (x + d) c (.int (T (k + 1)).2)) ∨ ((T k).1 = w ∧ ¬ nOK T (k + 1) 0 hi ∧ q.1 = 0 ∧ ck (oc q.2) (x + 1) b L m T st (k + 1) ∧ ∃ O1, (∀ a j : Nat, ¬ (a = x + 1 ∧ j = 5) → O1 a j = oc h a j) ∧ oc q.2 = u2 O1 (x + d) c (.int (-1)))
theorem rm_ok {x L m k d c p : Nat} {b : Nat → Int32} {T : Nat → Int32 × Int32} {st : Nat → Nat} {w hi : Int32} {h : jH} {q : Int32 × jH} {W : jWd} (K : ck (oc h) (x + 1) b L m T st k) (R : rodE (oc h) (x + 21) W) (hd : 24 ≤ d ∧ d ≤ 25) (hz : W p = 0) (hu : ∀ (O : jO) (v : Int32), rodE O (x + 21) W → rodE (u2 O (x + d) c (.int v)) (x + 21) (upd W p v)) (r : rmP x b L m T st k d c w hi h q) (hq : ¬ q.1 = 0) :
    ∃ r2, rdMore T w hi k = .inl r2 ∧ ck (oc q.2) (x + 1) b L m T st r2.1 ∧ rodE (oc q.2) (x + 21) (upd W p r2.2) ∧ frD x (oc h) (oc q.2) := by
  unfold rdMore
  rcases r with ⟨y, z⟩ | ⟨y, y2, -, y3, O1, y4, y5⟩ | ⟨-, -, z, -⟩
  · rw [if_neg y, z]
    exact ⟨(k, 0), rfl, K, by rw [upd_self hz]; exact R, frD_0⟩
  · rw [if_pos y, if_pos y2]
    refine ⟨(k + 2, (T (k + 1)).2), rfl, y3, ?_, fun a j h1 h2 => ?_⟩
    · rw [y5]; exact hu O1 _ (rodE_5 R y4)
    · rw [y5, u2_ne (by omega)]; exact y4 a j h1
  · exact absurd z hq
theorem rm_no {x L m k d c : Nat} {b : Nat → Int32} {T : Nat → Int32 × Int32} {st : Nat → Nat} {w hi : Int32} {h : jH} {q : Int32 × jH} (R : rodS (oc h) (x + 21)) (hd : 24 ≤ d ∧ d ≤ 25) (r : rmP x b L m T st k d c w hi h q) (hq : q.1 = 0) :
    ∃ f, rdMore T w hi k = .inr f ∧ ck (oc q.2) (x + 1) b L m T st f ∧ rodS (oc q.2) (x + 21) ∧ frD x (oc h) (oc q.2) := by
  unfold rdMore
  rcases r with ⟨y, z⟩ | ⟨y, y2, z, -⟩ | ⟨y, y2, -, y3, O1, y4, y5⟩
  · rw [z] at hq; exact absurd hq (by show ¬ (1 : Int32) = 0; decide)
  · exact absurd (hq.symm.trans z) (by decide)
  · rw [if_pos y, if_neg y2]
    have f : ∀ a j : Nat, ¬ (a = x + 1 ∧ j = 5) → ¬ (a = x + d ∧ j = c) → oc q.2 a j = oc h a j := fun a j h1 h2 => by rw [y5, u2_ne (by omega)]; exact y4 a j h1
    exact ⟨k + 1, rfl, y3, rodS_fr R (fun k => f _ _ (by omega) (by omega)) (f _ _ (by omega) (by omega)), fun a j h1 h2 => f a j h1 (by omega)⟩
theorem rm_S {x L m k d c : Nat} {b : Nat → Int32} {T : Nat → Int32 × Int32} {st : Nat → Nat} {w hi : Int32} {h : jH} {q : Int32 × jH} (R : rodS (oc h) (x + 21)) (hd : 24 ≤ d ∧ d ≤ 25) (r : rmP x b L m T st k d c w hi h q) : rodS (oc q.2) (x + 21) ∧ frD x (oc h) (oc q.2) := by
  have g : ∀ (O1 : jO) (v : Value), (∀ a j : Nat, ¬ (a = x + 1 ∧ j = 5) → O1 a j = oc h a j) → oc q.2 = u2 O1 (x + d) c v → rodS (oc q.2) (x + 21) ∧ frD x (oc h) (oc q.2) := fun O1 v y4 y5 => by
    have f : ∀ a j : Nat, ¬ (a = x + 1 ∧ j = 5) → ¬ (a = x + d ∧ j = c) → oc q.2 a j = oc h a j := fun a j h1 h2 => by rw [y5, u2_ne (by omega)]; exact y4 a j h1
    exact ⟨rodS_fr R (fun k => f _ _ (by omega) (by omega)) (f _ _ (by omega) (by omega)), fun a j h1 h2 => f a j h1 (by omega)⟩
  rcases r with ⟨y, z⟩ | ⟨y, y2, -, y3, O1, y4, y5⟩ | ⟨y, y2, z, y3, O1, y4, y5⟩
  · rw [z]; exact ⟨R, frD_0⟩
  · exact g O1 _ y4 y5
  · exact g O1 _ y4 y5
theorem E_X9_readRing {b : Nat → Int32} {L : Nat} {m : Nat} {T : Nat → Int32 × Int32} {st : Nat → Nat} {k : Nat} {x : Nat} {W : jWd} {n : Nat} {a0 : Nat} {h : jH} {q : Int32 × jH} (K : ck (oc h) (x + 1) b L m T st k) (S : rrS (oc h) x) (ha : a0 = x + 34) (R : rodE (oc h) (x + 21) W) (KW : wOK W) (n8 : cN W < 8) (J : jlen h (x + 24) = some 8 ∧ jlen h (x + 25) = some 8) (hf : F_X9_readRing n a0 h = some q) : lnC (oc q.2) q.1 x b L m T st (rdRing T W k) ∧ frD x (oc h) (oc q.2) ∧ q.2.1 = h.1 := by
  unfold F_X9_readRing at hf
  subst ha
  have k0 := KW.1
  have ec : (cN W : Int) = (W 0).toInt := by unfold cN; omega
  have e0 : W 0 = nI (cN W) := nI_k ec.symm
  have F0 : frD x (oc h) (oc h) := frD_0
  have J0 := J
  have Z0 : h.1 = h.1 := rfl
  have R0 := R
  replace hf := jbind hf
  obtain ⟨p1, e1, hf⟩ := hf
  have r1 := oc_gR e1
  rw [S.1] at r1
  cases r1
  clear e1
  replace hf := jbind hf
  obtain ⟨q6, e2, hf⟩ := hf
  replace e2 := (jcv_o e2).2
  obtain ⟨r2, f2, z2⟩ := E_X10_take K (by decide) e2
  have F2 : frD x (oc h) (oc q6.2) := frD_tr F0 (frD_5 f2)
  have S2 : rrS (oc q6.2) x := rrS_D S F2
  have J2 : jlen q6.2 (x + 24) = some 8 ∧ jlen q6.2 (x + 25) = some 8 := ⟨Ln_X10_take e2 _ _ J0.1, Ln_X10_take e2 _ _ J0.2⟩
  have Z2 : q6.2.1 = h.1 := z2.trans Z0
  have R2 := rodE_5 R0 f2
  replace hf := jite hf
  rcases hf with ⟨c3, hf⟩ | ⟨c3, hf⟩
  · skip
    cases hf
    -- leaf 0: ((0 : Int32), q6.2)
    rcases r2 with ⟨-, w, -⟩ | ⟨y, w⟩
    · exact absurd (c3.symm.trans w) (by decide)
    exact ⟨lnC_r (by unfold rdRing; rw [if_neg y]) ⟨rfl, by rw [w]; exact K, R2.1⟩, F2, Z2⟩
  · skip
    replace hf := jbind hf
    obtain ⟨p15, e4, hf⟩ := hf
    have r4 := oc_gR e4
    rw [S2.1] at r4
    cases r4
    clear e4
    replace hf := jbind hf
    obtain ⟨p19, e5, hf⟩ := hf
    have r5 := oc_gR e5
    rw [S2.2.2] at r5
    cases r5
    clear e5
    replace hf := jbind hf
    obtain ⟨v22, e6, hf⟩ := hf
    replace e6 := (jcv_o e6).2
    rcases r2 with ⟨y2, -, K2⟩ | ⟨-, w⟩
    rotate_left
    · exact absurd (by rw [w]) c3
    have r6 := E_X8_nearestNew R2 KW e6
    subst r6
    replace hf := jbind hf
    obtain ⟨p26, e7, hf⟩ := hf
    have r7 := oc_gR e7
    rw [S2.2.2] at r7
    cases r7
    clear e7
    replace hf := jbind hf
    obtain ⟨v29, e8, hf⟩ := hf
    replace e8 := (jcv_o e8).2
    have r8 := E_X8_farthestNew R2 KW e8
    subst r8
    replace hf := jbind hf
    obtain ⟨q32, e9, hf⟩ := hf
    replace e9 := (jcv_o e9).2
    obtain ⟨r9, f9, z9⟩ := E_X10_takeNumber K2 e9
    have F9 : frD x (oc h) (oc q32.2) := frD_tr F2 (frD_5 f9)
    have S9 : rrS (oc q32.2) x := rrS_D S F9
    have J9 : jlen q32.2 (x + 24) = some 8 ∧ jlen q32.2 (x + 25) = some 8 := ⟨Ln_X10_takeNumber e9 _ _ J2.1, Ln_X10_takeNumber e9 _ _ J2.2⟩
    have Z9 : q32.2.1 = h.1 := z9.trans Z2
    have R9 := rodE_5 R2 f9
    replace hf := jite hf
    rcases hf with ⟨c10, hf⟩ | ⟨c10, hf⟩
    · skip
      cases hf
      -- leaf 10: ((0 : Int32), q32.2)
      rcases r9 with ⟨y, w, -⟩ | ⟨y, w⟩
      · exfalso
        have := y.2.1
        rw [← w, c10, Int32.le_iff_toInt_le] at this
        have l9 := (leW_0 KW).1
        have lm1 : (-1 : Int32).toInt = -1 := rfl
        omega
      exact ⟨lnC_r (by unfold rdRing; rw [if_pos y2, if_neg y]) ⟨rfl, by rw [w]; exact K2, R9.1⟩, F9, Z9⟩
    · skip
      replace hf := jbind hf
      obtain ⟨p42, e11, hf⟩ := hf
      have r11 := oc_gR e11
      rw [S9.1] at r11
      cases r11
      clear e11
      replace hf := jbind hf
      obtain ⟨q47, e12, hf⟩ := hf
      replace e12 := (jcv_o e12).2
      rcases r9 with ⟨y9, v9, K9⟩ | ⟨-, w⟩
      rotate_left
      · exact absurd (by rw [w]) c10
      obtain ⟨r12, f12, z12⟩ := E_X10_take K9 (by decide) e12
      have F12 : frD x (oc h) (oc q47.2) := frD_tr F9 (frD_5 f12)
      have S12 : rrS (oc q47.2) x := rrS_D S F12
      have J12 : jlen q47.2 (x + 24) = some 8 ∧ jlen q47.2 (x + 25) = some 8 := ⟨Ln_X10_take e12 _ _ J9.1, Ln_X10_take e12 _ _ J9.2⟩
      have Z12 : q47.2.1 = h.1 := z12.trans Z9
      have R12 := rodE_5 R9 f12
      replace hf := jite hf
      rcases hf with ⟨c13, hf⟩ | ⟨c13, hf⟩
      · skip
        cases hf
        -- leaf 110: ((0 : Int32), q47.2)
        rcases r12 with ⟨-, w, -⟩ | ⟨y, w⟩
        · exact absurd (c13.symm.trans w) (by decide)
        exact ⟨lnC_r (by unfold rdRing; rw [if_pos y2, if_pos y9, if_neg y]) ⟨rfl, by rw [w]; exact K9, R12.1⟩, F12, Z12⟩
      · skip
        replace hf := jbind hf
        obtain ⟨p56, e14, hf⟩ := hf
        have r14 := oc_gR e14
        rw [S12.1] at r14
        cases r14
        clear e14
        replace hf := jbind hf
        obtain ⟨q62, e15, hf⟩ := hf
        replace e15 := (jcv_o e15).2
        rcases r12 with ⟨y12, -, K12⟩ | ⟨-, w⟩
        rotate_left
        · exact absurd (by rw [w]) c13
        obtain ⟨r15, f15, z15⟩ := E_X10_takeNumber K12 e15
        have F15 : frD x (oc h) (oc q62.2) := frD_tr F12 (frD_5 f15)
        have S15 : rrS (oc q62.2) x := rrS_D S F15
        have J15 : jlen q62.2 (x + 24) = some 8 ∧ jlen q62.2 (x + 25) = some 8 := ⟨Ln_X10_takeNumber e15 _ _ J12.1, Ln_X10_takeNumber e15 _ _ J12.2⟩
        have Z15 : q62.2.1 = h.1 := z15.trans Z12
        have R15 := rodE_5 R12 f15
        replace hf := jite hf
        rcases hf with ⟨c16, hf⟩ | ⟨c16, hf⟩
        · skip
          cases hf
          -- leaf 1110: ((0 : Int32), q62.2)
          rcases r15 with ⟨y, w, -⟩ | ⟨y, w⟩
          · exfalso
            have := y.2.1
            rw [← w, c16] at this
            exact absurd this (by decide)
          exact ⟨lnC_r (by unfold rdRing; rw [if_pos y2, if_pos y9, if_pos y12, if_neg y]) ⟨rfl, by rw [w]; exact K12, R15.1⟩, F15, Z15⟩
        · skip
          replace hf := jbind hf
          obtain ⟨p74, e17, hf⟩ := hf
          have r17 := oc_gR e17
          rw [S15.2.2] at r17
          cases r17
          clear e17
          replace hf := jbind hf
          obtain ⟨v77, e18, hf⟩ := hf
          have r18 := oc_gI e18
          subst r18
          clear e18
          replace hf := jbind hf
          obtain ⟨p82, e19, hf⟩ := hf
          have r19 := oc_gR e19
          rw [S15.2.2] at r19
          cases r19
          clear e19
          replace hf := jbind hf
          obtain ⟨h87, e20, hf⟩ := hf
          replace e20 := (jcv_o e20).2
          rcases r15 with ⟨y15, v15, K15⟩ | ⟨-, w⟩
          rotate_left
          · exact absurd (by rw [w]) c16
          obtain ⟨G1, G2, G3⟩ := E_X8_add R15 KW n8 e20
          rw [v9, v15] at G1
          have K20 := ck_D K15 G2
          have R20 := G1
          have hcn : oi (oc q62.2) (x + 21) 5 = nI (cN W) := R15.2.1.1.trans e0
          have g0i : (hgW W (T (k + 1)).2 (T (k + 3)).2 0).toInt = (W 0).toInt + 1 := by show (W 0 + 1 : Int32).toInt = _; rw [jadd (by have l1 : (1 : Int32).toInt = 1 := rfl; omega) (by have l1 : (1 : Int32).toInt = 1 := rfl; omega)]; rfl
          have F20 : frD x (oc h) (oc h87) := frD_tr F15 (frD_R G2)
          have S20 : rrS (oc h87) x := rrS_D S F20
          have J20 : jlen h87 (x + 24) = some 8 ∧ jlen h87 (x + 25) = some 8 := ⟨Ln_X8_add e20 _ _ J15.1, Ln_X8_add e20 _ _ J15.2⟩
          have Z20 : h87.1 = h.1 := G3.trans Z15
          replace hf := jbind hf
          obtain ⟨p91, e21, hf⟩ := hf
          have r21 := oc_gR e21
          rw [S20.2.2] at r21
          cases r21
          clear e21
          replace hf := jbind hf
          obtain ⟨p95, e22, hf⟩ := hf
          have r22 := oc_gR e22
          rw [S20.2.2] at r22
          cases r22
          clear e22
          replace hf := jbind hf
          obtain ⟨v98, e23, hf⟩ := hf
          have r23 := oc_gI e23
          subst r23
          clear e23
          replace hf := jbind hf
          obtain ⟨p103, e24, hf⟩ := hf
          have r24 := oc_gR e24
          rw [S20.1] at r24
          cases r24
          clear e24
          replace hf := jbind hf
          obtain ⟨q108, e25, hf⟩ := hf
          replace e25 := (jcv_o e25).2
          obtain ⟨r25, f25, z25⟩ := E_X10_take K20 (by decide) e25
          have F25 : frD x (oc h) (oc q108.2) := frD_tr F20 (frD_5 f25)
          have S25 : rrS (oc q108.2) x := rrS_D S F25
          have J25 : jlen q108.2 (x + 24) = some 8 ∧ jlen q108.2 (x + 25) = some 8 := ⟨Ln_X10_take e25 _ _ J20.1, Ln_X10_take e25 _ _ J20.2⟩
          have Z25 : q108.2.1 = h.1 := z25.trans Z20
          have R25 := rodE_5 R20 f25
          replace hf := jbind hf
          obtain ⟨v111, e26, hf⟩ := hf
          obtain ⟨v25, K25⟩ := tk_both K20 (by rcases r25 with z | ⟨z1, z2⟩; exact Or.inl z; rw [z2]; exact Or.inr ⟨z1, rfl, rfl⟩)
          have r26 := E_X11_withBit (i := cN W) hcn e26
          subst r26
          replace hf := jbind hf
          obtain ⟨h114, e27, hf⟩ := hf
          obtain ⟨o27, z27⟩ := oc_pf e27
          replace hf := jbind hf
          obtain ⟨p118, e28, hf⟩ := hf
          have r28 := oc_gR e28
          rw [o27] at r28
          rw [u2_ne (Or.inl (by omega))] at r28
          rw [S25.2.2] at r28
          cases r28
          clear e28
          replace hf := jbind hf
          obtain ⟨p122, e29, hf⟩ := hf
          have r29 := oc_gR e29
          rw [o27] at r29
          rw [u2_ne (Or.inl (by omega))] at r29
          rw [S25.2.2] at r29
          cases r29
          clear e29
          replace hf := jbind hf
          obtain ⟨v125, e30, hf⟩ := hf
          have r30 := oc_gI e30
          rw [o27] at r30
          rw [oi_ne (Or.inr (by decide))] at r30
          subst r30
          clear e30
          replace hf := jbind hf
          obtain ⟨p130, e31, hf⟩ := hf
          have r31 := oc_gR e31
          rw [o27] at r31
          rw [u2_ne (Or.inl (by omega))] at r31
          rw [S25.1] at r31
          cases r31
          clear e31
          replace hf := jbind hf
          obtain ⟨q135, e32, hf⟩ := hf
          replace e32 := (jcv_o e32).2
          have F27 : frD x (oc h) (oc h114) := frD_tr F25 (frD_R (by rw [o27]; exact frR_u2 (by omega)))
          have S27 : rrS (oc h114) x := rrS_D S F27
          have J27 : jlen h114 (x + 24) = some 8 ∧ jlen h114 (x + 25) = some 8 := ⟨lm_pf e27 _ _ J25.1, lm_pf e27 _ _ J25.2⟩
          have Z27 : h114.1 = h.1 := z27.trans Z25
          have K27 : ck (oc h114) (x + 1) b L m T st _ := ck_D K25 (by rw [o27]; exact frR_u2 (by omega))
          have a25 : oi (oc q108.2) (x + 21) 6 = oi (oc h87) (x + 21) 6 := by unfold oi; rw [f25 _ _ (by omega)]
          have R27 : rodE (oc h114) (x + 21) (upd (hgW W (T (k + 1)).2 (T (k + 3)).2) (13 + 8 * cN W) q108.1) := by
            rw [o27]
            refine rodE_th R25 (by rw [g0i]; omega) n8 (fun j hj => ?_) (by rw [g0i]; omega)
            rw [a25]
            exact chV_bit (by omega) (by rw [v25]; exact tkF_01) j hj
          obtain ⟨r32, f32, z32⟩ := E_X10_take K27 (by decide) e32
          have F32 : frD x (oc h) (oc q135.2) := frD_tr F27 (frD_5 f32)
          have S32 : rrS (oc q135.2) x := rrS_D S F32
          have J32 : jlen q135.2 (x + 24) = some 8 ∧ jlen q135.2 (x + 25) = some 8 := ⟨Ln_X10_take e32 _ _ J27.1, Ln_X10_take e32 _ _ J27.2⟩
          have Z32 : q135.2.1 = h.1 := z32.trans Z27
          have R32 := rodE_5 R27 f32
          replace hf := jbind hf
          obtain ⟨v138, e33, hf⟩ := hf
          obtain ⟨v32, K32⟩ := tk_both K27 (by rcases r32 with z | ⟨z1, z2⟩; exact Or.inl z; rw [z2]; exact Or.inr ⟨z1, rfl, rfl⟩)
          have r33 := E_X11_withBit (i := cN W) hcn e33
          subst r33
          replace hf := jbind hf
          obtain ⟨h141, e34, hf⟩ := hf
          obtain ⟨o34, z34⟩ := oc_pf e34
          replace hf := jbind hf
          obtain ⟨p147, e35, hf⟩ := hf
          have r35 := oc_gR e35
          rw [o34] at r35
          rw [u2_ne (Or.inl (by omega))] at r35
          rw [S32.2.2] at r35
          cases r35
          clear e35
          replace hf := jbind hf
          obtain ⟨p150, e36, hf⟩ := hf
          have r36 := oc_gR e36
          rw [o34] at r36
          rw [u2_ne (Or.inr (by decide))] at r36
          rw [R32.1.2.2.1] at r36
          cases r36
          clear e36
          replace hf := jbind hf
          obtain ⟨q156, e37, hf⟩ := hf
          replace e37 := (jcv_o e37).2
          have F34 : frD x (oc h) (oc h141) := frD_tr F32 (frD_R (by rw [o34]; exact frR_u2 (by omega)))
          have S34 : rrS (oc h141) x := rrS_D S F34
          have J34 : jlen h141 (x + 24) = some 8 ∧ jlen h141 (x + 25) = some 8 := ⟨lm_pf e34 _ _ J32.1, lm_pf e34 _ _ J32.2⟩
          have Z34 : h141.1 = h.1 := z34.trans Z32
          have K34 : ck (oc h141) (x + 1) b L m T st _ := ck_D K32 (by rw [o34]; exact frR_u2 (by omega))
          have a32 : oi (oc q135.2) (x + 21) 7 = oi (oc q108.2) (x + 21) 7 := by unfold oi; rw [f32 _ _ (by omega), o27, u2_ne (by omega)]
          have R34 : rodE (oc h141) (x + 21) (upd (upd (hgW W (T (k + 1)).2 (T (k + 3)).2) (13 + 8 * cN W) q108.1) (14 + 8 * cN W) q135.1) := by
            rw [o34]
            refine rodE_wd R32 (by rw [upd_ne (by omega), g0i]; omega) n8 (fun j hj => ?_) (by rw [upd_ne (by omega), g0i]; omega)
            rw [a32]
            exact chV_bit (by omega) (by rw [v32]; exact tkF_01) j hj
          obtain ⟨r37, z37⟩ := E_X9_readMore (c := cN W) (d := 24) K34 S34 rfl rfl (by omega) hcn n8 (by decide) J34.1 e37
          have Z37 : q156.2.1 = h.1 := z37.trans Z34
          obtain ⟨Q37, D37⟩ := rm_S R34.1 (by omega) r37
          have F37 : frD x (oc h) (oc q156.2) := frD_tr F34 D37
          have S37 : rrS (oc q156.2) x := rrS_D S F37
          replace hf := jite hf
          rcases hf with ⟨c38, hf⟩ | ⟨c38, hf⟩
          · skip
            cases hf
            -- leaf 11110: ((0 : Int32), q156.2)
            obtain ⟨f, C1, C2, C3, -⟩ := rm_no R34.1 (by omega) r37 c38
            exact ⟨lnC_r (by unfold rdRing; rw [if_pos y2, if_pos y9, if_pos y12, if_pos y15, C1]; all_goals rfl) ⟨rfl, C2, C3⟩, F37, Z37⟩
          · skip
            replace hf := jbind hf
            obtain ⟨p165, e39, hf⟩ := hf
            have r39 := oc_gR e39
            rw [S37.2.2] at r39
            cases r39
            clear e39
            replace hf := jbind hf
            obtain ⟨p168, e40, hf⟩ := hf
            have r40 := oc_gR e40
            rw [Q37.2.2.2.1] at r40
            cases r40
            clear e40
            replace hf := jbind hf
            obtain ⟨q174, e41, hf⟩ := hf
            replace e41 := (jcv_o e41).2
            obtain ⟨c1, C1, C2, C3, -⟩ := rm_ok (p := 15 + 8 * cN W) K34 R34 (by omega) (by rw [upd_ne (by omega), upd_ne (by omega), hg_z (by omega)]) (fun O v y => rodE_fd y n8) r37 c38
            have J37 : jlen q156.2 (x + 25) = some 8 := Ln_X9_readMore e37 _ _ J34.2
            obtain ⟨r41, z41⟩ := E_X9_readMore (c := cN W) (d := 25) C2 S37 rfl rfl (by omega) hcn n8 (by decide) J37 e41
            have Z41 : q174.2.1 = h.1 := z41.trans Z37
            obtain ⟨Q41, D41⟩ := rm_S Q37 (by omega) r41
            have F41 : frD x (oc h) (oc q174.2) := frD_tr F37 D41
            have rr : ∀ z, rdMore T 4 9 c1.1 = z → rdRing T W k = (match z with | .inr f => .inr f | .inl d => .inl (d.1, rgW W (T (k + 1)).2 (T (k + 3)).2 (tkF T 8 (k + 4)).2 (tkF T 7 (tkF T 8 (k + 4)).1).2 c1.2 d.2)) := fun z e => by
              subst e
              unfold rdRing
              rw [if_pos y2, if_pos y9, if_pos y12, if_pos y15, C1]
              all_goals rfl
            replace hf := jite hf
            rcases hf with ⟨c42, hf⟩ | ⟨c42, hf⟩
            · skip
              cases hf
              -- leaf 111110: ((0 : Int32), q174.2)
              obtain ⟨f, B1, B2, B3, -⟩ := rm_no Q37 (by omega) r41 c42
              exact ⟨lnC_r (rr _ B1) ⟨rfl, B2, B3⟩, F41, Z41⟩
            · skip
              cases hf
              -- leaf 111111: ((1 : Int32), q174.2)
              obtain ⟨d1, B1, B2, B3, -⟩ := rm_ok (p := 16 + 8 * cN W) C2 C3 (by omega) (by rw [upd_ne (by omega), upd_ne (by omega), upd_ne (by omega), hg_z (by omega)]) (fun O v y => rodE_ln y n8) r41 c42
              rw [v25, v32] at B3
              exact ⟨lnC_l (rr _ B1) ⟨rfl, B2, B3⟩, F41, Z41⟩
