section
/-! a ring of a pole's text, as the class reads it -/
theorem tk_both {O O2 : jO} {t L m k : Nat} {b : Nat → Int32} {T : Nat → Int32 × Int32} {st : Nat → Nat} {w v : Int32} (K : ck O t b L m T st k) (r : ((T k).1 = w ∧ v = 1 ∧ ck O2 t b L m T st (k + 1)) ∨ ((T k).1 ≠ w ∧ v = 0 ∧ O2 = O)) : v = (tkF T w k).2 ∧ ck O2 t b L m T st (tkF T w k).1 := by
  unfold tkF
  rcases r with ⟨y, y2, y3⟩ | ⟨y, y2, y3⟩
  · rw [if_pos y]; exact ⟨y2, y3⟩
  · rw [if_neg y, y3]; exact ⟨y2, K⟩
theorem tk_pr {a : Prop} {h : jH} {q : Int32 × jH} {P : Prop} (r : a ∨ (P ∧ q = (0, h))) : a ∨ (P ∧ q.1 = 0 ∧ oc q.2 = oc h) := by
  rcases r with r | ⟨y, z⟩
  · exact Or.inl r
  · rw [z]; exact Or.inr ⟨y, rfl, rfl⟩
theorem leW_0 {W : jWd} (K : wOK W) : 0 ≤ (leW W).toInt ∧ (moW W).toInt ≤ 31 := by
  have k := K.1
  have l31 : (31 : Int32).toInt = 31 := rfl
  have l1 : (1 : Int32).toInt = 1 := rfl
  unfold leW moW
  split
  · exact ⟨by decide, by decide⟩
  · rename_i z
    have n := cN_last K z
    have ec : (cN W : Int) = (W 0).toInt := by unfold cN; omega
    obtain ⟨a1, a2, -⟩ := K.2.1 (cN W - 1) (by omega)
    refine ⟨by rw [jadd (by omega) (by omega)]; omega, ?_⟩
    split
    · rename_i y
      rw [Int32.lt_iff_toInt_lt] at y
      omega
    · exact Int.le_refl _
def rmP (x : Nat) (b : Nat → Int32) (L m : Nat) (T : Nat → Int32 × Int32) (st : Nat → Nat) (k d c : Nat) (w hi : Int32) (h : jH) (q : Int32 × jH) : Prop :=
  ((T k).1 ≠ w ∧ q = (1, h)) ∨ ((T k).1 = w ∧ nOK T (k + 1) 0 hi ∧ q.1 = 1 ∧ ck (oc q.2) (x + 1) b L m T st (k + 2) ∧ ∃ O1, (∀ a j : Nat, ¬ (a = x + 1 ∧ j = 5) → O1 a j = oc h a j) ∧ oc q.2 = u2 O1 (x + d) c (.int (T (k + 1)).2)) ∨ ((T k).1 = w ∧ ¬ nOK T (k + 1) 0 hi ∧ q.1 = 0 ∧ ck (oc q.2) (x + 1) b L m T st (k + 1) ∧ ∃ O1, (∀ a j : Nat, ¬ (a = x + 1 ∧ j = 5) → O1 a j = oc h a j) ∧ oc q.2 = u2 O1 (x + d) c (.int (-1)))
theorem rm_ok {x L m k d c p : Nat} {b : Nat → Int32} {T : Nat → Int32 × Int32} {st : Nat → Nat} {w hi : Int32} {h : jH} {q : Int32 × jH} {W : jWd} (K : ck (oc h) (x + 1) b L m T st k) (R : rodE (oc h) (x + 21) W) (hd : 24 ≤ d ∧ d ≤ 25) (hz : W p = 0) (hu : ∀ (O : jO) (v : Int32), rodE O (x + 21) W → rodE (u2 O (x + d) c (.int v)) (x + 21) (upd W p v)) (r : rmP x b L m T st k d c w hi h q) (hq : ¬ q.1 = 0) :
    ∃ r2, rdMore T w hi k = .inl r2 ∧ ck (oc q.2) (x + 1) b L m T st r2.1 ∧ rodE (oc q.2) (x + 21) (upd W p r2.2) ∧ frD x (oc h) (oc q.2) := by
  unfold rdMore
  rcases r with ⟨y, z⟩ | ⟨y, y2, -, y3, O1, y4, y5⟩ | ⟨-, -, z, -⟩
  · rw [if_neg y, z]
    exact ⟨(k, 0), rfl, K, by rw [upd_self hz]; exact R, frD_0⟩
  · rw [if_pos y, if_pos y2]
    refine ⟨(k + 2, (T (k + 1)).2), rfl, y3, ?_, fun a j h1 h2 => ?_⟩
    · rw [y5]; exact hu O1 _ (rodE_5 R y4)
    · rw [y5, u2_ne (by omega)]; exact y4 a j h1
  · exact absurd z hq
theorem rm_no {x L m k d c : Nat} {b : Nat → Int32} {T : Nat → Int32 × Int32} {st : Nat → Nat} {w hi : Int32} {h : jH} {q : Int32 × jH} (R : rodS (oc h) (x + 21)) (hd : 24 ≤ d ∧ d ≤ 25) (r : rmP x b L m T st k d c w hi h q) (hq : q.1 = 0) :
    ∃ f, rdMore T w hi k = .inr f ∧ ck (oc q.2) (x + 1) b L m T st f ∧ rodS (oc q.2) (x + 21) ∧ frD x (oc h) (oc q.2) := by
  unfold rdMore
  rcases r with ⟨y, z⟩ | ⟨y, y2, z, -⟩ | ⟨y, y2, -, y3, O1, y4, y5⟩
  · rw [z] at hq; exact absurd hq (by show ¬ (1 : Int32) = 0; decide)
  · exact absurd (hq.symm.trans z) (by decide)
  · rw [if_pos y, if_neg y2]
    have f : ∀ a j : Nat, ¬ (a = x + 1 ∧ j = 5) → ¬ (a = x + d ∧ j = c) → oc q.2 a j = oc h a j := fun a j h1 h2 => by rw [y5, u2_ne (by omega)]; exact y4 a j h1
    exact ⟨k + 1, rfl, y3, rodS_fr R (fun k => f _ _ (by omega) (by omega)) (f _ _ (by omega) (by omega)), fun a j h1 h2 => f a j h1 (by omega)⟩
theorem rm_S {x L m k d c : Nat} {b : Nat → Int32} {T : Nat → Int32 × Int32} {st : Nat → Nat} {w hi : Int32} {h : jH} {q : Int32 × jH} (R : rodS (oc h) (x + 21)) (hd : 24 ≤ d ∧ d ≤ 25) (r : rmP x b L m T st k d c w hi h q) : rodS (oc q.2) (x + 21) ∧ frD x (oc h) (oc q.2) := by
  have g : ∀ (O1 : jO) (v : Value), (∀ a j : Nat, ¬ (a = x + 1 ∧ j = 5) → O1 a j = oc h a j) → oc q.2 = u2 O1 (x + d) c v → rodS (oc q.2) (x + 21) ∧ frD x (oc h) (oc q.2) := fun O1 v y4 y5 => by
    have f : ∀ a j : Nat, ¬ (a = x + 1 ∧ j = 5) → ¬ (a = x + d ∧ j = c) → oc q.2 a j = oc h a j := fun a j h1 h2 => by rw [y5, u2_ne (by omega)]; exact y4 a j h1
    exact ⟨rodS_fr R (fun k => f _ _ (by omega) (by omega)) (f _ _ (by omega) (by omega)), fun a j h1 h2 => f a j h1 (by omega)⟩
  rcases r with ⟨y, z⟩ | ⟨y, y2, -, y3, O1, y4, y5⟩ | ⟨y, y2, z, y3, O1, y4, y5⟩
  · rw [z]; exact ⟨R, frD_0⟩
  · exact g O1 _ y4 y5
  · exact g O1 _ y4 y5
theorem E_X9_readRing {b : Nat → Int32} {L : Nat} {m : Nat} {T : Nat → Int32 × Int32} {st : Nat → Nat} {k : Nat} {x : Nat} {W : jWd} {n : Nat} {a0 : Nat} {h : jH} {q : Int32 × jH} (K : ck (oc h) (x + 1) b L m T st k) (S : rrS (oc h) x) (ha : a0 = x + 34) (R : rodE (oc h) (x + 21) W) (KW : wOK W) (n8 : cN W < 8) (J : jlen h (x + 24) = some 8 ∧ jlen h (x + 25) = some 8) (hf : F_X9_readRing n a0 h = some q) : lnC (oc q.2) q.1 x b L m T st (rdRing T W k) ∧ frD x (oc h) (oc q.2) ∧ q.2.1 = h.1 := by
  unfold F_X9_readRing at hf
  subst ha
  have k0 := KW.1
  have ec : (cN W : Int) = (W 0).toInt := by unfold cN; omega
  have e0 : W 0 = nI (cN W) := nI_k ec.symm
  have F0 : frD x (oc h) (oc h) := frD_0
  have J0 := J
  have Z0 : h.1 = h.1 := rfl
  have R0 := R
  replace hf := jbind hf
  obtain ⟨p1, e1, hf⟩ := hf
  have r1 := oc_gR e1
  rw [S.1] at r1
  cases r1
  clear e1
  replace hf := jbind hf
  obtain ⟨q6, e2, hf⟩ := hf
  replace e2 := (jcv_o e2).2
  obtain ⟨r2, f2, z2⟩ := E_X10_take K (by decide) e2
  have F2 : frD x (oc h) (oc q6.2) := frD_tr F0 (frD_5 f2)
  have S2 : rrS (oc q6.2) x := rrS_D S F2
  have J2 : jlen q6.2 (x + 24) = some 8 ∧ jlen q6.2 (x + 25) = some 8 := ⟨Ln_X10_take e2 _ _ J0.1, Ln_X10_take e2 _ _ J0.2⟩
  have Z2 : q6.2.1 = h.1 := z2.trans Z0
  have R2 := rodE_5 R0 f2
  replace hf := jite hf
  rcases hf with ⟨c3, hf⟩ | ⟨c3, hf⟩
  · skip
    cases hf
    -- leaf 0: ((0 : Int32), q6.2)
    rcases r2 with ⟨-, w, -⟩ | ⟨y, w⟩
    · exact absurd (c3.symm.trans w) (by decide)
    exact ⟨lnC_r (by unfold rdRing; rw [if_neg y]) ⟨rfl, by rw [w]; exact K, R2.1⟩, F2, Z2⟩
  · skip
    replace hf := jbind hf
    obtain ⟨p15, e4, hf⟩ := hf
    have r4 := oc_gR e4
    rw [S2.1] at r4
    cases r4
    clear e4
    replace hf := jbind hf
    obtain ⟨p19, e5, hf⟩ := hf
    have r5 := oc_gR e5
    rw [S2.2.2] at r5
    cases r5
    clear e5
    replace hf := jbind hf
    obtain ⟨v22, e6, hf⟩ := hf
    replace e6 := (jcv_o e6).2
    rcases r2 with ⟨y2, -, K2⟩ | ⟨-, w⟩
    rotate_left
    · exact absurd (by rw [w]) c3
    have r6 := E_X8_nearestNew R2 KW e6
    subst r6
    replace hf := jbind hf
    obtain ⟨p26, e7, hf⟩ := hf
    have r7 := oc_gR e7
    rw [S2.2.2] at r7
    cases r7
    clear e7
    replace hf := jbind hf
    obtain ⟨v29, e8, hf⟩ := hf
    replace e8 := (jcv_o e8).2
    have r8 := E_X8_farthestNew R2 KW e8
    subst r8
    replace hf := jbind hf
    obtain ⟨q32, e9, hf⟩ := hf
    replace e9 := (jcv_o e9).2
    obtain ⟨r9, f9, z9⟩ := E_X10_takeNumber K2 e9
    have F9 : frD x (oc h) (oc q32.2) := frD_tr F2 (frD_5 f9)
    have S9 : rrS (oc q32.2) x := rrS_D S F9
    have J9 : jlen q32.2 (x + 24) = some 8 ∧ jlen q32.2 (x + 25) = some 8 := ⟨Ln_X10_takeNumber e9 _ _ J2.1, Ln_X10_takeNumber e9 _ _ J2.2⟩
    have Z9 : q32.2.1 = h.1 := z9.trans Z2
    have R9 := rodE_5 R2 f9
    replace hf := jite hf
    rcases hf with ⟨c10, hf⟩ | ⟨c10, hf⟩
    · skip
      cases hf
      -- leaf 10: ((0 : Int32), q32.2)
      rcases r9 with ⟨y, w, -⟩ | ⟨y, w⟩
      · exfalso
        have := y.2.1
        rw [← w, c10, Int32.le_iff_toInt_le] at this
        have l9 := (leW_0 KW).1
        have lm1 : (-1 : Int32).toInt = -1 := rfl
        omega
      exact ⟨lnC_r (by unfold rdRing; rw [if_pos y2, if_neg y]) ⟨rfl, by rw [w]; exact K2, R9.1⟩, F9, Z9⟩
    · skip
      replace hf := jbind hf
      obtain ⟨p42, e11, hf⟩ := hf
      have r11 := oc_gR e11
      rw [S9.1] at r11
      cases r11
      clear e11
      replace hf := jbind hf
      obtain ⟨q47, e12, hf⟩ := hf
      replace e12 := (jcv_o e12).2
      rcases r9 with ⟨y9, v9, K9⟩ | ⟨-, w⟩
      rotate_left
      · exact absurd (by rw [w]) c10
      obtain ⟨r12, f12, z12⟩ := E_X10_take K9 (by decide) e12
      have F12 : frD x (oc h) (oc q47.2) := frD_tr F9 (frD_5 f12)
      have S12 : rrS (oc q47.2) x := rrS_D S F12
      have J12 : jlen q47.2 (x + 24) = some 8 ∧ jlen q47.2 (x + 25) = some 8 := ⟨Ln_X10_take e12 _ _ J9.1, Ln_X10_take e12 _ _ J9.2⟩
      have Z12 : q47.2.1 = h.1 := z12.trans Z9
      have R12 := rodE_5 R9 f12
      replace hf := jite hf
      rcases hf with ⟨c13, hf⟩ | ⟨c13, hf⟩
      · skip
        cases hf
        -- leaf 110: ((0 : Int32), q47.2)
        rcases r12 with ⟨-, w, -⟩ | ⟨y, w⟩
        · exact absurd (c13.symm.trans w) (by decide)
        exact ⟨lnC_r (by unfold rdRing; rw [if_pos y2, if_pos y9, if_neg y]) ⟨rfl, by rw [w]; exact K9, R12.1⟩, F12, Z12⟩
      · skip
        replace hf := jbind hf
        obtain ⟨p56, e14, hf⟩ := hf
        have r14 := oc_gR e14
        rw [S12.1] at r14
        cases r14
        clear e14
        replace hf := jbind hf
        obtain ⟨q62, e15, hf⟩ := hf
        replace e15 := (jcv_o e15).2
        rcases r12 with ⟨y12, -, K12⟩ | ⟨-, w⟩
        rotate_left
        · exact absurd (by rw [w]) c13
        obtain ⟨r15, f15, z15⟩ := E_X10_takeNumber K12 e15
        have F15 : frD x (oc h) (oc q62.2) := frD_tr F12 (frD_5 f15)
        have S15 : rrS (oc q62.2) x := rrS_D S F15
        have J15 : jlen q62.2 (x + 24) = some 8 ∧ jlen q62.2 (x + 25) = some 8 := ⟨Ln_X10_takeNumber e15 _ _ J12.1, Ln_X10_takeNumber e15 _ _ J12.2⟩
        have Z15 : q62.2.1 = h.1 := z15.trans Z12
        have R15 := rodE_5 R12 f15
        replace hf := jite hf
        rcases hf with ⟨c16, hf⟩ | ⟨c16, hf⟩
        · skip
          cases hf
          -- leaf 1110: ((0 : Int32), q62.2)
          rcases r15 with ⟨y, w, -⟩ | ⟨y, w⟩
          · exfalso
            have := y.2.1
            rw [← w, c16] at this
            exact absurd this (by decide)
          exact ⟨lnC_r (by unfold rdRing; rw [if_pos y2, if_pos y9, if_pos y12, if_neg y]) ⟨rfl, by rw [w]; exact K12, R15.1⟩, F15, Z15⟩
        · skip
          replace hf := jbind hf
          obtain ⟨p74, e17, hf⟩ := hf
          have r17 := oc_gR e17
          rw [S15.2.2] at r17
          cases r17
          clear e17
          replace hf := jbind hf
          obtain ⟨v77, e18, hf⟩ := hf
          have r18 := oc_gI e18
          subst r18
          clear e18
          replace hf := jbind hf
          obtain ⟨p82, e19, hf⟩ := hf
          have r19 := oc_gR e19
          rw [S15.2.2] at r19
          cases r19
          clear e19
          replace hf := jbind hf
          obtain ⟨h87, e20, hf⟩ := hf
          replace e20 := (jcv_o e20).2
          rcases r15 with ⟨y15, v15, K15⟩ | ⟨-, w⟩
          rotate_left
          · exact absurd (by rw [w]) c16
          obtain ⟨G1, G2, G3⟩ := E_X8_add R15 KW n8 e20
          rw [v9, v15] at G1
          have K20 := ck_D K15 G2
          have R20 := G1
          have hcn : oi (oc q62.2) (x + 21) 5 = nI (cN W) := R15.2.1.1.trans e0
          have g0i : (hgW W (T (k + 1)).2 (T (k + 3)).2 0).toInt = (W 0).toInt + 1 := by show (W 0 + 1 : Int32).toInt = _; rw [jadd (by have l1 : (1 : Int32).toInt = 1 := rfl; omega) (by have l1 : (1 : Int32).toInt = 1 := rfl; omega)]; rfl
          have F20 : frD x (oc h) (oc h87) := frD_tr F15 (frD_R G2)
          have S20 : rrS (oc h87) x := rrS_D S F20
          have J20 : jlen h87 (x + 24) = some 8 ∧ jlen h87 (x + 25) = some 8 := ⟨Ln_X8_add e20 _ _ J15.1, Ln_X8_add e20 _ _ J15.2⟩
          have Z20 : h87.1 = h.1 := G3.trans Z15
          replace hf := jbind hf
          obtain ⟨p91, e21, hf⟩ := hf
          have r21 := oc_gR e21
          rw [S20.2.2] at r21
          cases r21
          clear e21
          replace hf := jbind hf
          obtain ⟨p95, e22, hf⟩ := hf
          have r22 := oc_gR e22
          rw [S20.2.2] at r22
          cases r22
          clear e22
          replace hf := jbind hf
          obtain ⟨v98, e23, hf⟩ := hf
          have r23 := oc_gI e23
          subst r23
          clear e23
          replace hf := jbind hf
          obtain ⟨p103, e24, hf⟩ := hf
          have r24 := oc_gR e24
          rw [S20.1] at r24
          cases r24
          clear e24
          replace hf := jbind hf
          obtain ⟨q108, e25, hf⟩ := hf
          replace e25 := (jcv_o e25).2
          obtain ⟨r25, f25, z25⟩ := E_X10_take K20 (by decide) e25
          have F25 : frD x (oc h) (oc q108.2) := frD_tr F20 (frD_5 f25)
          have S25 : rrS (oc q108.2) x := rrS_D S F25
          have J25 : jlen q108.2 (x + 24) = some 8 ∧ jlen q108.2 (x + 25) = some 8 := ⟨Ln_X10_take e25 _ _ J20.1, Ln_X10_take e25 _ _ J20.2⟩
          have Z25 : q108.2.1 = h.1 := z25.trans Z20
          have R25 := rodE_5 R20 f25
          replace hf := jbind hf
          obtain ⟨v111, e26, hf⟩ := hf
          obtain ⟨v25, K25⟩ := tk_both K20 (by rcases r25 with z | ⟨z1, z2⟩; exact Or.inl z; rw [z2]; exact Or.inr ⟨z1, rfl, rfl⟩)
          have r26 := E_X11_withBit (i := cN W) hcn e26
          subst r26
          replace hf := jbind hf
          obtain ⟨h114, e27, hf⟩ := hf
          obtain ⟨o27, z27⟩ := oc_pf e27
          replace hf := jbind hf
          obtain ⟨p118, e28, hf⟩ := hf
          have r28 := oc_gR e28
          rw [o27] at r28
          rw [u2_ne (Or.inl (by omega))] at r28
          rw [S25.2.2] at r28
          cases r28
          clear e28
          replace hf := jbind hf
          obtain ⟨p122, e29, hf⟩ := hf
          have r29 := oc_gR e29
          rw [o27] at r29
          rw [u2_ne (Or.inl (by omega))] at r29
          rw [S25.2.2] at r29
          cases r29
          clear e29
          replace hf := jbind hf
          obtain ⟨v125, e30, hf⟩ := hf
          have r30 := oc_gI e30
          rw [o27] at r30
          rw [oi_ne (Or.inr (by decide))] at r30
          subst r30
          clear e30
          replace hf := jbind hf
          obtain ⟨p130, e31, hf⟩ := hf
          have r31 := oc_gR e31
          rw [o27] at r31
          rw [u2_ne (Or.inl (by omega))] at r31
          rw [S25.1] at r31
          cases r31
          clear e31
          replace hf := jbind hf
          obtain ⟨q135, e32, hf⟩ := hf
          replace e32 := (jcv_o e32).2
          have F27 : frD x (oc h) (oc h114) := frD_tr F25 (frD_R (by rw [o27]; exact frR_u2 (by omega)))
          have S27 : rrS (oc h114) x := rrS_D S F27
          have J27 : jlen h114 (x + 24) = some 8 ∧ jlen h114 (x + 25) = some 8 := ⟨lm_pf e27 _ _ J25.1, lm_pf e27 _ _ J25.2⟩
          have Z27 : h114.1 = h.1 := z27.trans Z25
          have K27 : ck (oc h114) (x + 1) b L m T st _ := ck_D K25 (by rw [o27]; exact frR_u2 (by omega))
          have a25 : oi (oc q108.2) (x + 21) 6 = oi (oc h87) (x + 21) 6 := by unfold oi; rw [f25 _ _ (by omega)]
          have R27 : rodE (oc h114) (x + 21) (upd (hgW W (T (k + 1)).2 (T (k + 3)).2) (13 + 8 * cN W) q108.1) := by
            rw [o27]
            refine rodE_th R25 (by rw [g0i]; omega) n8 (fun j hj => ?_) (by rw [g0i]; omega)
            rw [a25]
            exact chV_bit (by omega) (by rw [v25]; exact tkF_01) j hj
          obtain ⟨r32, f32, z32⟩ := E_X10_take K27 (by decide) e32
          have F32 : frD x (oc h) (oc q135.2) := frD_tr F27 (frD_5 f32)
          have S32 : rrS (oc q135.2) x := rrS_D S F32
          have J32 : jlen q135.2 (x + 24) = some 8 ∧ jlen q135.2 (x + 25) = some 8 := ⟨Ln_X10_take e32 _ _ J27.1, Ln_X10_take e32 _ _ J27.2⟩
          have Z32 : q135.2.1 = h.1 := z32.trans Z27
          have R32 := rodE_5 R27 f32
          replace hf := jbind hf
          obtain ⟨v138, e33, hf⟩ := hf
          obtain ⟨v32, K32⟩ := tk_both K27 (by rcases r32 with z | ⟨z1, z2⟩; exact Or.inl z; rw [z2]; exact Or.inr ⟨z1, rfl, rfl⟩)
          have r33 := E_X11_withBit (i := cN W) hcn e33
          subst r33
          replace hf := jbind hf
          obtain ⟨h141, e34, hf⟩ := hf
          obtain ⟨o34, z34⟩ := oc_pf e34
          replace hf := jbind hf
          obtain ⟨p147, e35, hf⟩ := hf
          have r35 := oc_gR e35
          rw [o34] at r35
          rw [u2_ne (Or.inl (by omega))] at r35
          rw [S32.2.2] at r35
          cases r35
          clear e35
          replace hf := jbind hf
          obtain ⟨p150, e36, hf⟩ := hf
          have r36 := oc_gR e36
          rw [o34] at r36
          rw [u2_ne (Or.inr (by decide))] at r36
          rw [R32.1.2.2.1] at r36
          cases r36
          clear e36
          replace hf := jbind hf
          obtain ⟨q156, e37, hf⟩ := hf
          replace e37 := (jcv_o e37).2
          have F34 : frD x (oc h) (oc h141) := frD_tr F32 (frD_R (by rw [o34]; exact frR_u2 (by omega)))
          have S34 : rrS (oc h141) x := rrS_D S F34
          have J34 : jlen h141 (x + 24) = some 8 ∧ jlen h141 (x + 25) = some 8 := ⟨lm_pf e34 _ _ J32.1, lm_pf e34 _ _ J32.2⟩
          have Z34 : h141.1 = h.1 := z34.trans Z32
          have K34 : ck (oc h141) (x + 1) b L m T st _ := ck_D K32 (by rw [o34]; exact frR_u2 (by omega))
          have a32 : oi (oc q135.2) (x + 21) 7 = oi (oc q108.2) (x + 21) 7 := by unfold oi; rw [f32 _ _ (by omega), o27, u2_ne (by omega)]
          have R34 : rodE (oc h141) (x + 21) (upd (upd (hgW W (T (k + 1)).2 (T (k + 3)).2) (13 + 8 * cN W) q108.1) (14 + 8 * cN W) q135.1) := by
            rw [o34]
            refine rodE_wd R32 (by rw [upd_ne (by omega), g0i]; omega) n8 (fun j hj => ?_) (by rw [upd_ne (by omega), g0i]; omega)
            rw [a32]
            exact chV_bit (by omega) (by rw [v32]; exact tkF_01) j hj
          obtain ⟨r37, z37⟩ := E_X9_readMore (c := cN W) (d := 24) K34 S34 rfl rfl (by omega) hcn n8 (by decide) J34.1 e37
          have Z37 : q156.2.1 = h.1 := z37.trans Z34
          obtain ⟨Q37, D37⟩ := rm_S R34.1 (by omega) r37
          have F37 : frD x (oc h) (oc q156.2) := frD_tr F34 D37
          have S37 : rrS (oc q156.2) x := rrS_D S F37
          replace hf := jite hf
          rcases hf with ⟨c38, hf⟩ | ⟨c38, hf⟩
          · skip
            cases hf
            -- leaf 11110: ((0 : Int32), q156.2)
            obtain ⟨f, C1, C2, C3, -⟩ := rm_no R34.1 (by omega) r37 c38
            exact ⟨lnC_r (by unfold rdRing; rw [if_pos y2, if_pos y9, if_pos y12, if_pos y15, C1]; all_goals rfl) ⟨rfl, C2, C3⟩, F37, Z37⟩
          · skip
            replace hf := jbind hf
            obtain ⟨p165, e39, hf⟩ := hf
            have r39 := oc_gR e39
            rw [S37.2.2] at r39
            cases r39
            clear e39
            replace hf := jbind hf
            obtain ⟨p168, e40, hf⟩ := hf
            have r40 := oc_gR e40
            rw [Q37.2.2.2.1] at r40
            cases r40
            clear e40
            replace hf := jbind hf
            obtain ⟨q174, e41, hf⟩ := hf
            replace e41 := (jcv_o e41).2
            obtain ⟨c1, C1, C2, C3, -⟩ := rm_ok (p := 15 + 8 * cN W) K34 R34 (by omega) (by rw [upd_ne (by omega), upd_ne (by omega), hg_z (by omega)]) (fun O v y => rodE_fd y n8) r37 c38
            have J37 : jlen q156.2 (x + 25) = some 8 := Ln_X9_readMore e37 _ _ J34.2
            obtain ⟨r41, z41⟩ := E_X9_readMore (c := cN W) (d := 25) C2 S37 rfl rfl (by omega) hcn n8 (by decide) J37 e41
            have Z41 : q174.2.1 = h.1 := z41.trans Z37
            obtain ⟨Q41, D41⟩ := rm_S Q37 (by omega) r41
            have F41 : frD x (oc h) (oc q174.2) := frD_tr F37 D41
            have rr : ∀ z, rdMore T 4 9 c1.1 = z → rdRing T W k = (match z with | .inr f => .inr f | .inl d => .inl (d.1, rgW W (T (k + 1)).2 (T (k + 3)).2 (tkF T 8 (k + 4)).2 (tkF T 7 (tkF T 8 (k + 4)).1).2 c1.2 d.2)) := fun z e => by
              subst e
              unfold rdRing
              rw [if_pos y2, if_pos y9, if_pos y12, if_pos y15, C1]
              all_goals rfl
            replace hf := jite hf
            rcases hf with ⟨c42, hf⟩ | ⟨c42, hf⟩
            · skip
              cases hf
              -- leaf 111110: ((0 : Int32), q174.2)
              obtain ⟨f, B1, B2, B3, -⟩ := rm_no Q37 (by omega) r41 c42
              exact ⟨lnC_r (rr _ B1) ⟨rfl, B2, B3⟩, F41, Z41⟩
            · skip
              cases hf
              -- leaf 111111: ((1 : Int32), q174.2)
              obtain ⟨d1, B1, B2, B3, -⟩ := rm_ok (p := 16 + 8 * cN W) C2 C3 (by omega) (by rw [upd_ne (by omega), upd_ne (by omega), upd_ne (by omega), hg_z (by omega)]) (fun O v y => rodE_ln y n8) r41 c42
              rw [v25, v32] at B3
              exact ⟨lnC_l (rr _ B1) ⟨rfl, B2, B3⟩, F41, Z41⟩
end
section
/-! a line of a pole's text, the class -/
def bndP (w : Int32) (W : jWd) : Int32 × Int32 := if w = 5 then (0, 7) else if w = 6 then (0, 999) else if w = 19 then (0, W 0 - 2) else if w = 21 then (1, 31) else (0, 31)
def kpW (w : Int32) (W : jWd) (v : Int32) : jWd := if w = 5 then upd W 3 v else if w = 19 then upd W (18 + 8 * v.toInt.toNat) 1 else if w = 20 then upd W 7 (chV (W 7) v.toInt.toNat 1) else if w = 21 then upd W 5 v else if w = 22 then upd W 6 v else upd W 4 v
def bgn (w : Int32) : Prop := w = 19 ∨ w = 20 ∨ w = 21 ∨ w = 22 ∨ w = 5 ∨ w = 6
theorem rdPole_n {T : Nat → Int32 × Int32} {W : jWd} {k : Nat} {w : Int32} (e : (T k).1 = w) (hb : bgn w) : rdPole T W k = rdNum T (k + 1) (bndP w W).1 (bndP w W).2 (kpW w W) := by
  unfold rdPole
  rw [e]
  rcases hb with z | z | z | z | z | z <;> subst z <;> rfl
theorem rdPole_0 {T : Nat → Int32 × Int32} {W : jWd} {k : Nat} (e : (T k).1 = 0) (n8 : ¬ W 0 = 8) : rdPole T W k = rdRing T W (k + 1) := by
  unfold rdPole
  rw [if_pos e, if_neg n8]
theorem rdPole_8 {T : Nat → Int32 × Int32} {W : jWd} {k : Nat} (e : (T k).1 = 0) (n8 : W 0 = 8) : rdPole T W k = .inr k := by
  unfold rdPole
  rw [if_pos e, if_pos n8]
theorem rdPole_x {T : Nat → Int32 × Int32} {W : jWd} {k : Nat} (e : (T k).1 ≠ 0) (hb : ¬ bgn (T k).1) : rdPole T W k = .inr k := by
  unfold bgn at hb
  unfold rdPole
  rw [if_neg e, if_neg (fun z => hb (by simp [z])), if_neg (fun z => hb (by simp [z])), if_neg (fun z => hb (by simp [z])), if_neg (fun z => hb (by simp [z])), if_neg (fun z => hb (by simp [z])), if_neg (fun z => hb (by simp [z]))]
theorem b_n {w : Int32} {W : jWd} {T : Nat → Int32 × Int32} {k : Nat} (K : wOK W) (h : nOK T k (bndP w W).1 (bndP w W).2) : 0 ≤ (T k).2.toInt ∧ (T k).2.toInt ≤ 999 ∧ (w ≠ 5 → w ≠ 6 → (T k).2.toInt ≤ 31) ∧ (w = 19 → (T k).2.toInt + 1 < (W 0).toInt) ∧ (w = 5 → (T k).2.toInt ≤ 7) ∧ (w = 21 → 1 ≤ (T k).2.toInt) := by
  obtain ⟨-, a, c⟩ := h
  rw [Int32.le_iff_toInt_le] at a c
  have k0 := K.1
  have l0 : (0 : Int32).toInt = 0 := rfl
  have l1 : (1 : Int32).toInt = 1 := rfl
  have l2 : (2 : Int32).toInt = 2 := rfl
  have l7 : (7 : Int32).toInt = 7 := rfl
  have l31 : (31 : Int32).toInt = 31 := rfl
  have l9 : (999 : Int32).toInt = 999 := rfl
  have e2 : (W 0 - 2).toInt = (W 0).toInt - 2 := by rw [jsub (by omega) (by omega)]; rfl
  unfold bndP at a c
  by_cases z5 : w = 5
  · subst z5; rw [if_pos rfl] at a c; dsimp only at a c
    exact ⟨by omega, by omega, fun z => absurd rfl z, fun z => absurd z (by decide), fun _ => by omega, fun z => absurd z (by decide)⟩
  · rw [if_neg z5] at a c
    by_cases z6 : w = 6
    · subst z6; rw [if_pos rfl] at a c; dsimp only at a c
      exact ⟨by omega, by omega, fun _ z => absurd rfl z, fun z => absurd z (by decide), fun z => absurd z (by decide), fun z => absurd z (by decide)⟩
    · rw [if_neg z6] at a c
      by_cases z19 : w = 19
      · subst z19; rw [if_pos rfl] at a c; dsimp only at a c
        exact ⟨by omega, by omega, fun _ _ => by omega, fun _ => by omega, fun z => absurd z (by decide), fun z => absurd z (by decide)⟩
      · rw [if_neg z19] at a c
        by_cases z21 : w = 21
        · subst z21; rw [if_pos rfl] at a c; dsimp only at a c
          exact ⟨by omega, by omega, fun _ _ => by omega, fun z => absurd z (by decide), fun z => absurd z (by decide), fun _ => by omega⟩
        · rw [if_neg z21] at a c; dsimp only at a c
          exact ⟨by omega, by omega, fun _ _ => by omega, fun z => absurd z z19, fun z => absurd z z5, fun z => absurd z z21⟩
theorem E_X9_readNumber {b : Nat → Int32} {L : Nat} {m : Nat} {T : Nat → Int32 × Int32} {st : Nat → Nat} {k : Nat} {x : Nat} {W : jWd} {n : Nat} {a0 : Nat} {x1 : Int32} {h : jH} {q : Int32 × jH} (K : ck (oc h) (x + 1) b L m T st k) (S : rrS (oc h) x) (ha : a0 = x + 34) (R : rodE (oc h) (x + 21) W) (KW : wOK W) (hf : F_X9_readNumber n a0 x1 h = some q) : ((nOK T k (bndP x1 W).1 (bndP x1 W).2 ∧ q.1 = (T k).2 ∧ ck (oc q.2) (x + 1) b L m T st (k + 1)) ∨ (¬ nOK T k (bndP x1 W).1 (bndP x1 W).2 ∧ q = (-1, h))) ∧ (∀ a j : Nat, ¬ (a = x + 1 ∧ j = 5) → oc q.2 a j = oc h a j) ∧ q.2.1 = h.1 := by
  unfold F_X9_readNumber at hf
  subst ha
  replace hf := jite hf
  rcases hf with ⟨c1, hf⟩ | ⟨c1, hf⟩
  · skip
    replace hf := jbind hf
    obtain ⟨p74, e2, hf⟩ := hf
    have r2 := oc_gR e2
    rw [S.1] at r2
    cases r2
    clear e2
    replace hf := jbind hf
    obtain ⟨q80, e3, hf⟩ := hf
    replace e3 := (jcv_o e3).2
    obtain ⟨r, f, z⟩ := E_X10_takeNumber K e3
    cases hf
    -- leaf 0: (q80.1, q80.2)
    have eb : bndP x1 W = (0, 7) := by unfold bndP; rw [if_pos c1]
    rw [eb]
    exact ⟨r, f, z⟩
  · skip
    replace hf := jite hf
    rcases hf with ⟨c4, hf⟩ | ⟨c4, hf⟩
    · skip
      replace hf := jbind hf
      obtain ⟨p85, e5, hf⟩ := hf
      have r5 := oc_gR e5
      rw [S.1] at r5
      cases r5
      clear e5
      replace hf := jbind hf
      obtain ⟨q92, e6, hf⟩ := hf
      replace e6 := (jcv_o e6).2
      obtain ⟨r, f, z⟩ := E_X10_takeNumber K e6
      cases hf
      -- leaf 10: (q92.1, q92.2)
      have eb : bndP x1 W = (0, 999) := by unfold bndP; rw [if_neg c1, if_pos c4]
      rw [eb]
      exact ⟨r, f, z⟩
    · skip
      replace hf := jite hf
      rcases hf with ⟨c7, hf⟩ | ⟨c7, hf⟩
      · skip
        replace hf := jbind hf
        obtain ⟨p45, e8, hf⟩ := hf
        have r8 := oc_gR e8
        rw [S.1] at r8
        cases r8
        clear e8
        replace hf := jbind hf
        obtain ⟨p50, e9, hf⟩ := hf
        have r9 := oc_gR e9
        rw [S.2.2] at r9
        cases r9
        clear e9
        replace hf := jbind hf
        obtain ⟨v53, e10, hf⟩ := hf
        have r10 := oc_gI e10
        subst r10
        clear e10
        replace hf := jbind hf
        obtain ⟨q58, e11, hf⟩ := hf
        replace e11 := (jcv_o e11).2
        obtain ⟨r, f, z⟩ := E_X10_takeNumber K e11
        cases hf
        -- leaf 110: (q58.1, q58.2)
        rw [R.2.1.1] at r
        have eb : bndP x1 W = (0, W 0 - 2) := by unfold bndP; rw [if_neg c1, if_neg c4, if_pos c7]
        rw [eb]
        exact ⟨r, f, z⟩
      · skip
        replace hf := jite hf
        rcases hf with ⟨c12, hf⟩ | ⟨c12, hf⟩
        · skip
          replace hf := jbind hf
          obtain ⟨p63, e13, hf⟩ := hf
          have r13 := oc_gR e13
          rw [S.1] at r13
          cases r13
          clear e13
          replace hf := jbind hf
          obtain ⟨q69, e14, hf⟩ := hf
          replace e14 := (jcv_o e14).2
          obtain ⟨r, f, z⟩ := E_X10_takeNumber K e14
          cases hf
          -- leaf 1110: (q69.1, q69.2)
          have eb : bndP x1 W = (1, 31) := by unfold bndP; rw [if_neg c1, if_neg c4, if_neg c7, if_pos c12]
          rw [eb]
          exact ⟨r, f, z⟩
        · skip
          replace hf := jbind hf
          obtain ⟨p97, e15, hf⟩ := hf
          have r15 := oc_gR e15
          rw [S.1] at r15
          cases r15
          clear e15
          replace hf := jbind hf
          obtain ⟨q103, e16, hf⟩ := hf
          replace e16 := (jcv_o e16).2
          obtain ⟨r, f, z⟩ := E_X10_takeNumber K e16
          cases hf
          -- leaf 1111: (q103.1, q103.2)
          have eb : bndP x1 W = (0, 31) := by unfold bndP; rw [if_neg c1, if_neg c4, if_neg c7, if_neg c12]
          rw [eb]
          exact ⟨r, f, z⟩
theorem E_X9_keepNumber {x : Nat} {W : jWd} {n : Nat} {a0 : Nat} {x1 : Int32} {x2 : Int32} {h : jH} {q : jH} (S : rrS (oc h) x) (ha : a0 = x + 34) (R : rodE (oc h) (x + 21) W) (KW : wOK W) (h0 : 0 ≤ x2.toInt) (h19 : x1 = 19 → x2.toInt + 1 < (W 0).toInt) (h20 : x1 = 20 → x2.toInt ≤ 31) (hf : F_X9_keepNumber n a0 x1 x2 h = some q) : rodE (oc q) (x + 21) (kpW x1 W x2) ∧ frR (x + 21) (oc h) (oc q) ∧ q.1 = h.1 := by
  unfold F_X9_keepNumber at hf
  subst ha
  have k0 := KW.1
  replace hf := jite hf
  rcases hf with ⟨c1, hf⟩ | ⟨c1, hf⟩
  · skip
    replace hf := jbind hf
    obtain ⟨p119, e2, hf⟩ := hf
    have r2 := oc_gR e2
    rw [S.2.2] at r2
    cases r2
    clear e2
    replace hf := jbind hf
    obtain ⟨h123, e3, hf⟩ := hf
    obtain ⟨o3, z3⟩ := oc_pf e3
    clear e3
    cases hf
    -- leaf 0: h123
    have ek : kpW x1 W x2 = upd W 3 x2 := by unfold kpW; rw [if_pos c1]
    refine ⟨?_, by rw [o3]; exact frR_u2 (by omega), z3⟩
    rw [ek, o3]
    exact rodE_i13 R
  · skip
    replace hf := jite hf
    rcases hf with ⟨c4, hf⟩ | ⟨c4, hf⟩
    · skip
      replace hf := jbind hf
      obtain ⟨p53, e5, hf⟩ := hf
      have r5 := oc_gR e5
      rw [S.2.2] at r5
      cases r5
      clear e5
      replace hf := jbind hf
      obtain ⟨p57, e6, hf⟩ := hf
      have r6 := oc_gR e6
      rw [S.2.2] at r6
      cases r6
      clear e6
      replace hf := jbind hf
      obtain ⟨v60, e7, hf⟩ := hf
      have r7 := oc_gI e7
      subst r7
      clear e7
      replace hf := jbind hf
      obtain ⟨v65, e8, hf⟩ := hf
      have r8 := E_X11_withBit (i := x2.toInt.toNat) (nI_k (by omega)) e8
      subst r8
      replace hf := jbind hf
      obtain ⟨h68, e9, hf⟩ := hf
      obtain ⟨o9, z9⟩ := oc_pf e9
      clear e9
      cases hf
      -- leaf 10: h68
      have b19 := h19 c4
      have ek : kpW x1 W x2 = upd W (18 + 8 * x2.toInt.toNat) 1 := by unfold kpW; rw [if_neg c1, if_pos c4]
      refine ⟨?_, by rw [o9]; exact frR_u2 (by omega), z9⟩
      rw [ek, o9]
      exact rodE_ct R (by omega) (by omega) (fun j hj => chV_bit (by omega) (Or.inr rfl) j hj) k0
    · skip
      replace hf := jite hf
      rcases hf with ⟨c10, hf⟩ | ⟨c10, hf⟩
      · skip
        replace hf := jbind hf
        obtain ⟨p75, e11, hf⟩ := hf
        have r11 := oc_gR e11
        rw [S.2.2] at r11
        cases r11
        clear e11
        replace hf := jbind hf
        obtain ⟨p79, e12, hf⟩ := hf
        have r12 := oc_gR e12
        rw [S.2.2] at r12
        cases r12
        clear e12
        replace hf := jbind hf
        obtain ⟨v82, e13, hf⟩ := hf
        have r13 := oc_gI e13
        subst r13
        clear e13
        replace hf := jbind hf
        obtain ⟨v87, e14, hf⟩ := hf
        have r14 := E_X11_withBit (i := x2.toInt.toNat) (nI_k (by omega)) e14
        subst r14
        replace hf := jbind hf
        obtain ⟨h90, e15, hf⟩ := hf
        obtain ⟨o15, z15⟩ := oc_pf e15
        clear e15
        cases hf
        -- leaf 110: h90
        have b20 := h20 c10
        have ek : kpW x1 W x2 = upd W 7 (chV (W 7) x2.toInt.toNat 1) := by unfold kpW; rw [if_neg c1, if_neg c4, if_pos c10]
        refine ⟨?_, by rw [o15]; exact frR_u2 (by omega), z15⟩
        rw [ek, o15]
        rw [R.2.1.2.1]
        exact rodE_i10 R
      · skip
        replace hf := jite hf
        rcases hf with ⟨c16, hf⟩ | ⟨c16, hf⟩
        · skip
          replace hf := jbind hf
          obtain ⟨p97, e17, hf⟩ := hf
          have r17 := oc_gR e17
          rw [S.2.2] at r17
          cases r17
          clear e17
          replace hf := jbind hf
          obtain ⟨h101, e18, hf⟩ := hf
          obtain ⟨o18, z18⟩ := oc_pf e18
          clear e18
          cases hf
          -- leaf 1110: h101
          have ek : kpW x1 W x2 = upd W 5 x2 := by unfold kpW; rw [if_neg c1, if_neg c4, if_neg c10, if_pos c16]
          refine ⟨?_, by rw [o18]; exact frR_u2 (by omega), z18⟩
          rw [ek, o18]
          exact rodE_i11 R
        · skip
          replace hf := jite hf
          rcases hf with ⟨c19, hf⟩ | ⟨c19, hf⟩
          · skip
            replace hf := jbind hf
            obtain ⟨p108, e20, hf⟩ := hf
            have r20 := oc_gR e20
            rw [S.2.2] at r20
            cases r20
            clear e20
            replace hf := jbind hf
            obtain ⟨h112, e21, hf⟩ := hf
            obtain ⟨o21, z21⟩ := oc_pf e21
            clear e21
            cases hf
            -- leaf 11110: h112
            have ek : kpW x1 W x2 = upd W 6 x2 := by unfold kpW; rw [if_neg c1, if_neg c4, if_neg c10, if_neg c16, if_pos c19]
            refine ⟨?_, by rw [o21]; exact frR_u2 (by omega), z21⟩
            rw [ek, o21]
            exact rodE_i12 R
          · skip
            replace hf := jbind hf
            obtain ⟨p130, e22, hf⟩ := hf
            have r22 := oc_gR e22
            rw [S.2.2] at r22
            cases r22
            clear e22
            replace hf := jbind hf
            obtain ⟨h134, e23, hf⟩ := hf
            obtain ⟨o23, z23⟩ := oc_pf e23
            clear e23
            cases hf
            -- leaf 11111: h134
            have ek : kpW x1 W x2 = upd W 4 x2 := by unfold kpW; rw [if_neg c1, if_neg c4, if_neg c10, if_neg c16, if_neg c19]
            refine ⟨?_, by rw [o23]; exact frR_u2 (by omega), z23⟩
            rw [ek, o23]
            exact rodE_i14 R
theorem E_X9_beginsLine {n : Nat} {x0 : Int32} {h : jH} {q : Int32} (hf : F_X9_beginsLine n x0 h = some q) : (q = 0 ∨ q = 1) ∧ (q = 1 ↔ (x0 = 0 ∨ bgn x0)) := by
  unfold F_X9_beginsLine at hf
  replace hf := jite hf
  rcases hf with ⟨c1, hf⟩ | ⟨c1, hf⟩
  · skip
    cases hf
    -- leaf 0: (1 : Int32)
    exact ⟨Or.inr rfl, fun _ => Or.inl c1, fun _ => rfl⟩
  · skip
    replace hf := jite hf
    rcases hf with ⟨c2, hf⟩ | ⟨c2, hf⟩
    · skip
      cases hf
      -- leaf 10: (1 : Int32)
      exact ⟨Or.inr rfl, fun _ => Or.inr (by unfold bgn; simp [c2]), fun _ => rfl⟩
    · skip
      replace hf := jite hf
      rcases hf with ⟨c3, hf⟩ | ⟨c3, hf⟩
      · skip
        cases hf
        -- leaf 110: (1 : Int32)
        exact ⟨Or.inr rfl, fun _ => Or.inr (by unfold bgn; simp [c3]), fun _ => rfl⟩
      · skip
        replace hf := jite hf
        rcases hf with ⟨c4, hf⟩ | ⟨c4, hf⟩
        · skip
          cases hf
          -- leaf 1110: (1 : Int32)
          exact ⟨Or.inr rfl, fun _ => Or.inr (by unfold bgn; simp [c4]), fun _ => rfl⟩
        · skip
          replace hf := jite hf
          rcases hf with ⟨c5, hf⟩ | ⟨c5, hf⟩
          · skip
            cases hf
            -- leaf 11110: (1 : Int32)
            exact ⟨Or.inr rfl, fun _ => Or.inr (by unfold bgn; simp [c5]), fun _ => rfl⟩
          · skip
            replace hf := jite hf
            rcases hf with ⟨c6, hf⟩ | ⟨c6, hf⟩
            · skip
              cases hf
              -- leaf 111110: (1 : Int32)
              exact ⟨Or.inr rfl, fun _ => Or.inr (by unfold bgn; simp [c6]), fun _ => rfl⟩
            · skip
              replace hf := jite hf
              rcases hf with ⟨c7, hf⟩ | ⟨c7, hf⟩
              · skip
                cases hf
                -- leaf 1111110: (1 : Int32)
                exact ⟨Or.inr rfl, fun _ => Or.inr (by unfold bgn; simp [c7]), fun _ => rfl⟩
              · skip
                cases hf
                -- leaf 1111111: (0 : Int32)
                exact ⟨Or.inl rfl, fun z => absurd z (by decide), fun z => by unfold bgn at z; exfalso; simp [c1, c2, c3, c4, c5, c6, c7] at z⟩
theorem E_X9_readLine_33 {b : Nat → Int32} {L : Nat} {m : Nat} {T : Nat → Int32 × Int32} {st : Nat → Nat} {k : Nat} {x : Nat} {W : jWd} {n : Nat} {a0 : Nat} {x1 : Int32} {h : jH} {q : Int32 × jH} (K : ck (oc h) (x + 1) b L m T st k) (S : rrS (oc h) x) (ha : a0 = x + 34) (R : rodE (oc h) (x + 21) W) (KW : wOK W) (hn : (T k).1 ≠ -1) (hx : x1 = (T k).1) (hb : x1 = 0 ∨ bgn x1) (n8 : x1 = 0 → ¬ W 0 = 8) (J : jlen h (x + 24) = some 8 ∧ jlen h (x + 25) = some 8) (hf : F_X9_readLine_33 n a0 x1 h = some q) : lnC (oc q.2) q.1 x b L m T st (rdPole T W k) ∧ frD x (oc h) (oc q.2) ∧ q.2.1 = h.1 := by
  unfold F_X9_readLine_33 at hf
  subst ha
  replace hf := jbind hf
  obtain ⟨p34, e1, hf⟩ := hf
  have r1 := oc_gR e1
  rw [S.1] at r1
  cases r1
  clear e1
  replace hf := jbind hf
  obtain ⟨h37, e2, hf⟩ := hf
  replace e2 := (jcv_o e2).2
  obtain ⟨K2, f2, z2⟩ := E_X10_skip K hn e2
  have F2 : frD x (oc h) (oc h37) := frD_5 f2
  have S2 : rrS (oc h37) x := rrS_D S F2
  have R2 := rodE_5 R f2
  replace hf := jite hf
  rcases hf with ⟨c3, hf⟩ | ⟨c3, hf⟩
  · skip
    replace hf := jbind hf
    obtain ⟨q45, e4, hf⟩ := hf
    replace e4 := (jcv_o e4).2
    have J2 : jlen h37 (x + 24) = some 8 ∧ jlen h37 (x + 25) = some 8 := ⟨Ln_X10_skip e2 _ _ J.1, Ln_X10_skip e2 _ _ J.2⟩
    obtain ⟨r4, f4, z4⟩ := E_X9_readRing K2 S2 rfl R2 KW (cN_lt KW (n8 c3)) J2 e4
    replace hf := jite hf
    rcases hf with ⟨c5, hf⟩ | ⟨c5, hf⟩
    · skip
      cases hf
      -- leaf 00: (q45.1, q45.2)
      rw [rdPole_0 (hx.symm.trans c3) (n8 c3)]
      exact ⟨r4, frD_tr F2 f4, z4.trans z2⟩
    · skip
      cases hf
  · skip
    replace hf := jbind hf
    obtain ⟨q51, e6, hf⟩ := hf
    replace e6 := (jcv_o e6).2
    obtain ⟨r6, f6, z6⟩ := E_X9_readNumber K2 S2 rfl R2 KW e6
    have hb2 := hb.resolve_left c3
    replace hf := jite hf
    rcases hf with ⟨c7, hf⟩ | ⟨c7, hf⟩
    · skip
      cases hf
      -- leaf 10: ((0 : Int32), q51.2)
      rcases r6 with ⟨y6, v6, -⟩ | ⟨y6, w⟩
      · exfalso
        have := (b_n KW y6).1
        rw [← v6, c7] at this
        exact absurd this (by decide)
      rw [w]
      exact ⟨lnC_r (by rw [rdPole_n hx.symm hb2]; unfold rdNum; rw [if_neg y6]) ⟨rfl, K2, R2.1⟩, F2, z2⟩
    · skip
      replace hf := jbind hf
      obtain ⟨h65, e8, hf⟩ := hf
      replace e8 := (jcv_o e8).2
      rcases r6 with ⟨y6, v6, K6⟩ | ⟨-, w⟩
      rotate_left
      · exact absurd (by rw [w]) c7
      have S6 : rrS (oc q51.2) x := rrS_D S2 (frD_5 f6)
      have R6 := rodE_5 R2 f6
      have bn := b_n KW y6
      obtain ⟨R8, f8, z8⟩ := E_X9_keepNumber S6 rfl R6 KW (by rw [v6]; exact bn.1) (fun z => by rw [v6]; exact bn.2.2.2.1 z) (fun z => by rw [v6]; exact bn.2.2.1 (by rw [z]; decide) (by rw [z]; decide)) e8
      cases hf
      -- leaf 11: ((1 : Int32), h65)
      rw [v6] at R8
      exact ⟨lnC_l (by rw [rdPole_n hx.symm hb2]; unfold rdNum; rw [if_pos y6]) ⟨rfl, ck_D K6 f8, R8⟩, frD_tr F2 (frD_tr (frD_5 f6) (frD_R f8)), z8.trans (z6.trans z2)⟩
theorem E_X9_readLine {b : Nat → Int32} {L : Nat} {m : Nat} {T : Nat → Int32 × Int32} {st : Nat → Nat} {k : Nat} {x : Nat} {W : jWd} {n : Nat} {a0 : Nat} {h : jH} {q : Int32 × jH} (K : ck (oc h) (x + 1) b L m T st k) (S : rrS (oc h) x) (ha : a0 = x + 34) (R : rodE (oc h) (x + 21) W) (KW : wOK W) (J : jlen h (x + 24) = some 8 ∧ jlen h (x + 25) = some 8) (hf : F_X9_readLine n a0 h = some q) : lnC (oc q.2) q.1 x b L m T st (rdPole T W k) ∧ frD x (oc h) (oc q.2) ∧ q.2.1 = h.1 := by
  unfold F_X9_readLine at hf
  subst ha
  replace hf := jbind hf
  obtain ⟨p1, e1, hf⟩ := hf
  have r1 := oc_gR e1
  rw [S.1] at r1
  cases r1
  clear e1
  replace hf := jbind hf
  obtain ⟨v4, e2, hf⟩ := hf
  replace e2 := (jcv_o e2).2
  have r2 := E_X10_kind K e2
  replace hf := jbind hf
  obtain ⟨v9, e3, hf⟩ := hf
  have r3 := E_X9_beginsLine e3
  replace hf := jite hf
  rcases hf with ⟨c4, hf⟩ | ⟨c4, hf⟩
  · skip
    cases hf
    -- leaf 0: ((0 : Int32), h)
    rw [r2] at r3
    have nb : ¬ ((T k).1 = 0 ∨ bgn (T k).1) := fun z => absurd (c4.symm.trans (r3.2.mpr z)) (by decide)
    exact ⟨lnC_r (rdPole_x (fun z => nb (Or.inl z)) (fun z => nb (Or.inr z))) ⟨rfl, K, R.1⟩, frD_0, rfl⟩
  · skip
    replace hf := jite hf
    rcases hf with ⟨c5, hf⟩ | ⟨c5, hf⟩
    · skip
      replace hf := jbind hf
      obtain ⟨p20, e6, hf⟩ := hf
      have r6 := oc_gR e6
      rw [S.2.2] at r6
      cases r6
      clear e6
      replace hf := jbind hf
      obtain ⟨v23, e7, hf⟩ := hf
      have r7 := oc_gI e7
      subst r7
      clear e7
      replace hf := jite hf
      rcases hf with ⟨c8, hf⟩ | ⟨c8, hf⟩
      · skip
        -- leaf 100: F_X9_readLine_33 n a0 v4 h
        rw [R.2.1.1] at c8
        exact E_X9_readLine_33 K S rfl R KW (by rw [← r2, c5]; decide) r2 (Or.inl c5) (fun _ z => by rw [z] at c8; exact absurd c8 (by decide)) J hf
      · skip
        cases hf
        -- leaf 101: ((0 : Int32), h)
        rw [R.2.1.1, Int32.lt_iff_toInt_lt, show (8 : Int32).toInt = 8 from rfl] at c8
        have k0 := KW.1
        exact ⟨lnC_r (rdPole_8 (r2.symm.trans c5) (nI_k (k := 8) (by show (W 0).toInt = 8; omega))) ⟨rfl, K, R.1⟩, frD_0, rfl⟩
    · skip
      -- leaf 11: F_X9_readLine_33 n a0 v4 h
      have hb : bgn v4 := (r3.2.mp (r3.1.resolve_left c4)).resolve_left c5
      exact E_X9_readLine_33 K S rfl R KW (by rw [← r2]; intro z; rw [z] at hb; exact absurd hb (by unfold bgn; decide)) r2 (Or.inr hb) (fun z => absurd z c5) J hf
end
section
/-! what a pole's text does keeps the world in its bounds -/
def okW (W W2 : jWd) : Prop := wOK W2 ∧ (∀ k : Nat, k = 1 ∨ k = 2 ∨ 435 ≤ k → W2 k = W k)
theorem rdMore_b {T : Nat → Int32 × Int32} {w hi : Int32} {k : Nat} {c : Nat × Int32} (e : rdMore T w hi k = .inl c) (h0 : 0 ≤ hi.toInt) : 0 ≤ c.2.toInt ∧ c.2.toInt ≤ hi.toInt := by
  unfold rdMore at e
  split at e
  · split at e
    · rename_i z
      cases e
      obtain ⟨-, a, b⟩ := z
      rw [Int32.le_iff_toInt_le] at a b
      exact ⟨a, b⟩
    · cases e
  · cases e
    exact ⟨Int.le_refl 0, h0⟩
theorem rdRing_ok {T : Nat → Int32 × Int32} {W : jWd} {k : Nat} {p : Nat × jWd} (K : wOK W) (n8 : ¬ W 0 = 8) (e : rdRing T W k = .inl p) : okW W p.2 := by
  have n := cN_lt K n8
  unfold rdRing at e
  split at e
  · split at e
    · rename_i z1
      split at e
      · split at e
        · rename_i z2
          split at e
          · cases e
          · rename_i c ec
            split at e
            · cases e
            · rename_i d ed
              cases e
              obtain ⟨-, a1, a2⟩ := z1
              obtain ⟨-, b1, b2⟩ := z2
              rw [Int32.le_iff_toInt_le] at a1 a2 b1 b2
              obtain ⟨l0, l31⟩ := leW_0 K
              have c1 := rdMore_b ec (by decide)
              have d1 := rdMore_b ed (by decide)
              refine ⟨rgW_ok K ⟨by omega, by omega⟩ ⟨b1, b2⟩ ⟨n8, a1, a2⟩ tkF_01 tkF_01 c1 d1, fun j hj => ?_⟩
              show upd _ _ _ j = _
              rw [upd_ne (by omega), upd_ne (by omega), upd_ne (by omega), upd_ne (by omega)]
              exact hg_lo (by omega) (by omega)
        · cases e
      · cases e
    · cases e
  · cases e
theorem kpW_ok {T : Nat → Int32 × Int32} {W : jWd} {k : Nat} {w : Int32} (K : wOK W) (hb : bgn w) (h : nOK T k (bndP w W).1 (bndP w W).2) : okW W (kpW w W (T k).2) := by
  obtain ⟨b1, b2, b3, b4, b5, b6⟩ := b_n K h
  have k0 := K.1
  have law : ∀ (i : Nat) (v : Int32), (i ≠ 1 ∧ i ≠ 2 ∧ i < 435) → ∀ k : Nat, k = 1 ∨ k = 2 ∨ 435 ≤ k → upd W i v k = W k := fun i v hi k hk => upd_ne (by omega)
  rcases hb with z | z | z | z | z | z <;> subst z
  · exact ⟨wOK_ct K (Or.inr ⟨rfl, by have := b4 rfl; omega⟩), law _ _ (by have := b3 (by decide) (by decide); omega)⟩
  · exact ⟨wOK_7 K, law _ _ (by omega)⟩
  · exact ⟨wOK_5 K ⟨b6 rfl, b3 (by decide) (by decide)⟩, law _ _ (by omega)⟩
  · exact ⟨wOK_6 K ⟨b1, b3 (by decide) (by decide)⟩, law _ _ (by omega)⟩
  · exact ⟨wOK_3 K ⟨b1, b5 rfl⟩, law _ _ (by omega)⟩
  · exact ⟨wOK_4 K ⟨b1, by omega⟩, law _ _ (by omega)⟩
theorem rdPole_ok {T : Nat → Int32 × Int32} {W : jWd} {k : Nat} {p : Nat × jWd} (K : wOK W) (e : rdPole T W k = .inl p) : okW W p.2 := by
  by_cases e0 : (T k).1 = 0
  · by_cases n8 : W 0 = 8
    · rw [rdPole_8 e0 n8] at e; cases e
    · rw [rdPole_0 e0 n8] at e; exact rdRing_ok K n8 e
  · by_cases hb : bgn (T k).1
    · rw [rdPole_n rfl hb] at e
      unfold rdNum at e
      split at e
      · rename_i z
        cases e
        exact kpW_ok K hb z
      · cases e
    · rw [rdPole_x e0 hb] at e; cases e
theorem okW_tr {W W2 W3 : jWd} (a : okW W W2) (b : okW W2 W3) : okW W W3 := ⟨b.1, fun k hk => (b.2 k hk).trans (a.2 k hk)⟩
theorem rdLines_ok {T : Nat → Int32 × Int32} : ∀ (n : Nat) {W W2 : jWd} {k : Nat}, wOK W → rdLines (rdPole T) T n W k = .inl W2 → okW W W2
  | 0, W, W2, k, K, e => by cases e
  | n + 1, W, W2, k, K, e => by
    unfold rdLines at e
    split at e
    · cases e
    · rename_i d ed
      have a := rdPole_ok K ed
      split at e
      · cases e; exact a
      · split at e
        · exact okW_tr a (rdLines_ok n a.1 e)
        · cases e
/-- what the class answers to a whole text -/
def lrC (O : jO) (v : Int32) (x : Nat) (st : Nat → Nat) (r : jWd ⊕ Nat) : Prop := (∀ W, r = .inl W → v = -1 ∧ rodE O (x + 21) W) ∧ (∀ f, r = .inr f → v = nI (st f) ∧ rodS O (x + 21))
theorem lrC_l {O : jO} {v : Int32} {x : Nat} {st : Nat → Nat} {r : jWd ⊕ Nat} {W : jWd} (e : r = .inl W) (h : v = -1 ∧ rodE O (x + 21) W) : lrC O v x st r := ⟨fun p z => (by rw [e] at z; cases z; exact h), fun f z => (by rw [e] at z; cases z)⟩
theorem lrC_r {O : jO} {v : Int32} {x k : Nat} {st : Nat → Nat} {r : jWd ⊕ Nat} (e : r = .inr k) (h : v = nI (st k) ∧ rodS O (x + 21)) : lrC O v x st r := ⟨fun p z => (by rw [e] at z; cases z), fun f z => (by rw [e] at z; cases z; exact h)⟩
theorem rl_r {S : Type} {ln : S → Nat → (Nat × S) ⊕ Nat} {T : Nat → Int32 × Int32} {n k f : Nat} {W : S} (e : ln W k = .inr f) : rdLines ln T (n + 1) W k = .inr f := by
  unfold rdLines
  rw [e]
theorem rl_e {S : Type} {ln : S → Nat → (Nat × S) ⊕ Nat} {T : Nat → Int32 × Int32} {n k : Nat} {W : S} {d : Nat × S} (e : ln W k = .inl d) (z : (T d.1).1 = -1) : rdLines ln T (n + 1) W k = .inl d.2 := by
  unfold rdLines
  rw [e]
  dsimp only
  rw [if_pos z]
theorem rl_s {S : Type} {ln : S → Nat → (Nat × S) ⊕ Nat} {T : Nat → Int32 × Int32} {n k : Nat} {W : S} {d : Nat × S} (e : ln W k = .inl d) (z : (T d.1).1 = 59) : rdLines ln T (n + 1) W k = rdLines ln T n d.2 (d.1 + 1) := by
  conv => lhs; unfold rdLines
  rw [e]
  dsimp only
  rw [if_neg (by rw [z]; decide), if_pos z]
theorem rl_x {S : Type} {ln : S → Nat → (Nat × S) ⊕ Nat} {T : Nat → Int32 × Int32} {n k : Nat} {W : S} {d : Nat × S} (e : ln W k = .inl d) (z : (T d.1).1 ≠ -1) (z2 : (T d.1).1 ≠ 59) : rdLines ln T (n + 1) W k = .inr d.1 := by
  unfold rdLines
  rw [e]
  dsimp only
  rw [if_neg z, if_neg z2]
theorem E_X4_read_R_22 {n : Nat} {b : Nat → Int32} {L : Nat} {m : Nat} {T : Nat → Int32 × Int32} {st : Nat → Nat} {x : Nat} : ∀ (k : Nat) {a0 : Nat} {x1 : Int32} {h : jH} {q : Int32 × jH} (kk : Nat) (j : Nat) (W : jWd) (K : ck (oc h) (x + 1) b L m T st kk) (S : rrS (oc h) x) (ha : a0 = x + 34) (R : rodE (oc h) (x + 21) W) (KW : wOK W) (J : jlen h (x + 24) = some 8 ∧ jlen h (x + 25) = some 8) (hx : x1 = nI j) (hj : j ≤ 14), F_X4_read_R_22 n k a0 x1 h = some q → lrC (oc q.2) q.1 x st (rdLines (rdPole T) T (14 - j) W kk) ∧ frD x (oc h) (oc q.2) ∧ q.2.1 = h.1
  | 0, a0, x1, h, q, kk, j, W, K, S, ha, R, KW, J, hx, hj, hf => by cases hf
  | k + 1, a0, x1, h, q, kk, j, W, K, S, ha, R, KW, J, hx, hj, hf => by
    replace hf : F_X4_read_R_22_b n (F_X4_read_R_22 n k) a0 x1 h = some q := hf
    unfold F_X4_read_R_22_b at hf
    subst ha
    replace hf := jbind hf
    obtain ⟨v24, e1, hf⟩ := hf
    have r1 := oc_gI e1
    subst r1
    clear e1
    replace hf := jite hf
    rcases hf with ⟨c2, hf⟩ | ⟨c2, hf⟩
    · skip
      replace hf := jbind hf
      obtain ⟨p85, e3, hf⟩ := hf
      have r3 := oc_gR e3
      rw [S.1] at r3
      cases r3
      clear e3
      replace hf := jbind hf
      obtain ⟨v88, e4, hf⟩ := hf
      replace e4 := (jcv_o e4).2
      have r4 := E_X10_start K e4
      cases hf
      -- leaf 0: (v88, h)
      have e14 : oi (oc h) (x + 34) 1 = 14 := by unfold oi; rw [S.2.1]; rfl
      rw [e14, hx, Int32.le_iff_toInt_le, nI_toInt (by omega), show (14 : Int32).toInt = 14 from rfl] at c2
      rw [show 14 - j = 0 by omega]
      exact ⟨lrC_r rfl ⟨r4, R.1⟩, frD_0, rfl⟩
    · skip
      replace hf := jbind hf
      obtain ⟨q31, e5, hf⟩ := hf
      replace e5 := (jcv_o e5).2
      have e14 : oi (oc h) (x + 34) 1 = 14 := by unfold oi; rw [S.2.1]; rfl
      rw [e14, hx, Int32.le_iff_toInt_le, nI_toInt (by omega), show (14 : Int32).toInt = 14 from rfl] at c2
      have ej : 14 - j = 14 - (j + 1) + 1 := by omega
      obtain ⟨r5, f5, z5⟩ := E_X9_readLine K S rfl R KW J e5
      have S5 : rrS (oc q31.2) x := rrS_D S f5
      replace hf := jite hf
      rcases hf with ⟨c6, hf⟩ | ⟨c6, hf⟩
      · skip
        replace hf := jbind hf
        obtain ⟨p38, e7, hf⟩ := hf
        have r7 := oc_gR e7
        rw [S5.1] at r7
        cases r7
        clear e7
        replace hf := jbind hf
        obtain ⟨v41, e8, hf⟩ := hf
        replace e8 := (jcv_o e8).2
        rcases hR : rdPole T W kk with d | f
        · exact absurd (c6.symm.trans (r5.1 d hR).1) (by decide)
        obtain ⟨-, K5, R5⟩ := r5.2 f hR
        have r8 := E_X10_start K5 e8
        cases hf
        -- leaf 10: (v41, q31.2)
        rw [ej]
        exact ⟨lrC_r (rl_r hR) ⟨r8, R5⟩, f5, z5⟩
      · skip
        replace hf := jbind hf
        obtain ⟨p46, e9, hf⟩ := hf
        have r9 := oc_gR e9
        rw [S5.1] at r9
        cases r9
        clear e9
        replace hf := jbind hf
        obtain ⟨v49, e10, hf⟩ := hf
        replace e10 := (jcv_o e10).2
        rcases hR : rdPole T W kk with d | f
        rotate_left
        · exact absurd (r5.2 f hR).1 c6
        obtain ⟨-, K5, R5⟩ := r5.1 d hR
        have ok5 := rdPole_ok KW hR
        have J5 : jlen q31.2 (x + 24) = some 8 ∧ jlen q31.2 (x + 25) = some 8 := ⟨Ln_X9_readLine e5 _ _ J.1, Ln_X9_readLine e5 _ _ J.2⟩
        have r10 := E_X10_kind K5 e10
        replace hf := jite hf
        rcases hf with ⟨c11, hf⟩ | ⟨c11, hf⟩
        · skip
          cases hf
          -- leaf 110: ((- 1 : Int32), q31.2)
          rw [ej]
          rw [r10] at c11
          exact ⟨lrC_l (rl_e hR c11) ⟨rfl, R5⟩, f5, z5⟩
        · skip
          replace hf := jbind hf
          obtain ⟨p59, e12, hf⟩ := hf
          have r12 := oc_gR e12
          rw [S5.1] at r12
          cases r12
          clear e12
          replace hf := jbind hf
          obtain ⟨q64, e13, hf⟩ := hf
          replace e13 := (jcv_o e13).2
          obtain ⟨r13, f13, z13⟩ := E_X10_take K5 (by decide) e13
          have S13 : rrS (oc q64.2) x := rrS_D S5 (frD_5 f13)
          replace hf := jite hf
          rcases hf with ⟨c14, hf⟩ | ⟨c14, hf⟩
          · skip
            replace hf := jbind hf
            obtain ⟨p71, e15, hf⟩ := hf
            have r15 := oc_gR e15
            rw [S13.1] at r15
            cases r15
            clear e15
            replace hf := jbind hf
            obtain ⟨v74, e16, hf⟩ := hf
            replace e16 := (jcv_o e16).2
            rcases r13 with ⟨-, w, -⟩ | ⟨y, w⟩
            · exact absurd (c14.symm.trans w) (by decide)
            have r16 := E_X10_start (by rw [w]; exact K5) e16
            cases hf
            -- leaf 1110: (v74, q64.2)
            rw [r10] at c11
            rw [ej]
            exact ⟨lrC_r (rl_x hR c11 y) ⟨r16, by rw [w]; exact R5.1⟩, frD_tr f5 (frD_5 f13), z13.trans z5⟩
          · skip
            -- leaf 1111: rc22 a0 (x1 + (1 : Int32)) q64.2
            rcases r13 with ⟨y, -, K13⟩ | ⟨-, w⟩
            rotate_left
            · exact absurd (by rw [w]) c14
            rw [hx] at hf
            obtain ⟨a1, a2, a3⟩ := E_X4_read_R_22 k (d.1 + 1) (j + 1) d.2 K13 S13 rfl (rodE_5 R5 f13) ok5.1 ⟨Ln_X10_take e13 _ _ J5.1, Ln_X10_take e13 _ _ J5.2⟩ (nI_1 j) (by omega) hf
            rw [ej, rl_s hR y]
            exact ⟨a1, frD_tr f5 (frD_tr (frD_5 f13) a2), a3.trans (z13.trans z5)⟩
theorem E_X4_read_R {b : Nat → Int32} {L : Nat} {x : Nat} {W : jWd} {n : Nat} {a0 : Nat} {h : jH} {q : Int32 × jH} (C : ctb (oc h) (x + 1) b L) (S : rrS (oc h) x) (ha : a0 = x + 34) (R : rodE (oc h) (x + 21) W) (KW : wOK W) (J : jlen h (x + 24) = some 8 ∧ jlen h (x + 25) = some 8) (hf : F_X4_read_R n a0 h = some q) : ∃ (m : Nat) (T : Nat → Int32 × Int32) (st en : Nat → Nat), tkE b L m T st en ∧ lrC (oc q.2) q.1 x st (if (T 0).1 = -1 then .inl W else rdLines (rdPole T) T 14 W 0) ∧ (∀ a j : Nat, ¬ (a = x + 1 ∧ (j = 4 ∨ j = 5)) → ¬ (x + 3 ≤ a ∧ a ≤ x + 5) → ¬ (x + 21 ≤ a ∧ a ≤ x + 27) → oc q.2 a j = oc h a j) ∧ q.2.1 = h.1 := by
  unfold F_X4_read_R at hf
  subst ha
  replace hf := jbind hf
  obtain ⟨p1, e1, hf⟩ := hf
  have r1 := oc_gR e1
  rw [S.1] at r1
  cases r1
  clear e1
  replace hf := jbind hf
  obtain ⟨h4, e2, hf⟩ := hf
  replace e2 := (jcv_o e2).2
  obtain ⟨m, T, st, en, H, K2, f2, z2⟩ := E_X10_scan C e2
  have S2 : rrS (oc h4) x := ⟨(f2 _ _ (by omega) (by omega)).trans S.1, (f2 _ _ (by omega) (by omega)).trans S.2.1, (f2 _ _ (by omega) (by omega)).trans S.2.2⟩
  have R2 : rodE (oc h4) (x + 21) W := rodE_fr R (fun a k h1 h2 => f2 a k (by omega) (by omega))
  have J2 : jlen h4 (x + 24) = some 8 ∧ jlen h4 (x + 25) = some 8 := ⟨Ln_X10_scan e2 _ _ J.1, Ln_X10_scan e2 _ _ J.2⟩
  replace hf := jbind hf
  obtain ⟨p8, e3, hf⟩ := hf
  have r3 := oc_gR e3
  rw [S2.1] at r3
  cases r3
  clear e3
  replace hf := jbind hf
  obtain ⟨v11, e4, hf⟩ := hf
  replace e4 := (jcv_o e4).2
  have r4 := E_X10_kind K2 e4
  replace hf := jite hf
  rcases hf with ⟨c5, hf⟩ | ⟨c5, hf⟩
  · skip
    cases hf
    -- leaf 0: ((- 1 : Int32), h4)
    rw [r4] at c5
    refine ⟨m, T, st, en, H, ?_, fun a j u1 u2 _ => f2 a j u1 (by omega), z2⟩
    rw [if_pos c5]
    exact lrC_l rfl ⟨rfl, R2⟩
  · skip
    -- leaf 1: F_X4_read_R_22 n n a0 (0 : Int32) h4
    rw [r4] at c5
    obtain ⟨a1, a2, a3⟩ := E_X4_read_R_22 n 0 0 W K2 S2 rfl R2 KW J2 rfl (by omega) hf
    refine ⟨m, T, st, en, H, ?_, fun a j u1 u2 u3 => (a2 a j (by omega) u3).trans (f2 a j u1 (by omega)), a3.trans z2⟩
    rw [if_neg c5]
    exact a1
end
