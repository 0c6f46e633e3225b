section
/-! comparisons and atoms, the class -/
theorem lwC_p5 {x L m nl s : Nat} {b : Nat → Int32} {T : Nat → Int32 × Int32} {st : Nat → Nat} {h h2 h3 : jH} {v : Int32} {r : jRd} (f : ∀ a j : Nat, ¬ (a = x + 1 ∧ j = 5) → oc h2 a j = oc h a j) (z : h2.1 = h.1) (B : lwC x b L m T st h2 v h3 nl s r) : lwC x b L m T st h v h3 nl s r := by
  refine ⟨fun d y => ?_, B.2.1, frC_tr (frC_5 f) B.2.2.1, B.2.2.2.trans z⟩
  obtain ⟨b1, b2, b3⟩ := B.1 d y
  have b4 := cwA_tr (cwA_0 (nl := nl) (s := s) f) (by simpa using b3)
  exact ⟨b1, b2, by simpa using b4⟩
def cmpS (T : Nat → Int32 × Int32) (k : Nat) : jRd := sqP (rdSum T 2000 k) (fun j => if (T j).1 = 60 then sqP (rdSum T 2000 (j + 1)) (fun i => .inl (i, [(13, 0)])) else if (T j).1 = 62 then sqP (rdSum T 2000 (j + 1)) (fun i => .inl (i, [(14, 0)])) else .inr j)
def gPc (x : Nat) (b : Nat → Int32) (L m : Nat) (T : Nat → Int32 × Int32) (st : Nat → Nat) (w : Nat) (g : Nat → Int32 → jH → Option (Int32 × jH)) : Prop :=
  ∀ (k nl s dp : Nat) (h : jH) (q : Int32 × jH), cc (oc h) x b L m T st k nl s → dp ≤ 6 → g (x + 35) (nI dp) h = some q → lwC x b L m T st h q.1 q.2 nl s (rdG T 2000 w dp k)
theorem E_X3_readComparison_43 {b : Nat → Int32} {L : Nat} {m : Nat} {T : Nat → Int32 × Int32} {st : Nat → Nat} {en : Nat → Nat} {x : Nat} {nl : Nat} {k : Nat} {s : Nat} {c : Int32} {n : Nat} {a0 : Nat} {x1 : Int32} {h : jH} {q : Int32 × jH} (H : tkE b L m T st en) (ha : a0 = x + 35) (R : cc (oc h) x b L m T st k nl s) (hs : s + 1 ≤ k) (hc : cod (c, 0) = x1) (hf : F_X3_readComparison_43 n a0 x1 h = some q) : lwC x b L m T st h q.1 q.2 nl s (sqP (rdSum T 2000 k) (fun i => .inl (i, [(c, 0)]))) := by
  unfold F_X3_readComparison_43 at hf
  subst ha
  replace hf := jbind hf
  obtain ⟨q44, e1, hf⟩ := hf
  replace e1 := (jcv_o e1).2
  have kk := cc_k R
  have A := E_X3_readSum (F := 2000) H rfl R (by omega) e1
  have SS1 : rlS (oc q44.2) x := rlS_C R.2.1 A.2.2.1
  replace hf := jbind hf
  obtain ⟨p49, e2, hf⟩ := hf
  have r2 := oc_gR e2
  rw [SS1.2.2] at r2
  cases r2
  clear e2
  replace hf := jbind hf
  obtain ⟨h53, e3, hf⟩ := hf
  replace e3 := (jcv_o e3).2
  replace hf := jite hf
  rcases hf with ⟨c4, hf⟩ | ⟨c4, hf⟩
  · skip
    cases hf
    -- leaf 0: (q44.1, h53)
    rcases hA : rdSum T 2000 k with d | f
    · obtain ⟨v, R4, w4⟩ := A.1 d hA
      obtain ⟨p1, p2, p3, p4⟩ := sum_i H hA
      obtain ⟨R5, w5, f5, z5⟩ := cc_em R4 (by omega) e3
      rw [← hA]
      exact lwC_sq hA w4 A.2.2.1 A.2.2.2 (lwC_l rfl v R5 (by rw [List.map_cons, hc]; exact w5) f5 z5)
    · obtain ⟨v, k4, s4, c5⟩ := A.2.1 f hA
      obtain ⟨k5, f5, z5, c6⟩ := ck_em k4 c5 e3
      exact lwC_r (sq_r rfl) v k5 c6 (frC_tr A.2.2.1 f5) (z5.trans A.2.2.2)
  · skip
    cases hf
theorem E_X3_readComparison {b : Nat → Int32} {L : Nat} {m : Nat} {T : Nat → Int32 × Int32} {st : Nat → Nat} {en : Nat → Nat} {x : Nat} {nl : Nat} {k : Nat} {s : Nat} {n : Nat} {a0 : Nat} {h : jH} {q : Int32 × jH} (H : tkE b L m T st en) (ha : a0 = x + 35) (R : cc (oc h) x b L m T st k nl s) (hf : F_X3_readComparison n a0 h = some q) : lwC x b L m T st h q.1 q.2 nl s (cmpS T k) := by
  unfold F_X3_readComparison at hf
  subst ha
  replace hf := jbind hf
  obtain ⟨q1, e1, hf⟩ := hf
  replace e1 := (jcv_o e1).2
  have kk := cc_k R
  have A := E_X3_readSum (F := 2000) H rfl R (by omega) e1
  have SS1 : rlS (oc q1.2) x := rlS_C R.2.1 A.2.2.1
  replace hf := jite hf
  rcases hf with ⟨c2, hf⟩ | ⟨c2, hf⟩
  · skip
    cases hf
    -- leaf 0: ((0 : Int32), q1.2)
    rcases hA : rdSum T 2000 k with d | f
    · exact absurd (c2.symm.trans (A.1 d hA).1) (by decide)
    obtain ⟨-, k4, c5⟩ := A.2.1 f hA
    exact lwC_r (sq_r hA) rfl k4 c5 A.2.2.1 A.2.2.2
  · skip
    replace hf := jbind hf
    obtain ⟨p10, e3, hf⟩ := hf
    have r3 := oc_gR e3
    rw [SS1.1] at r3
    cases r3
    clear e3
    replace hf := jbind hf
    obtain ⟨v13, e4, hf⟩ := hf
    replace e4 := (jcv_o e4).2
    rcases hA : rdSum T 2000 k with d | f
    rotate_left
    · exact absurd (A.2.1 f hA).1 c2
    obtain ⟨-, R4, w4⟩ := A.1 d hA
    obtain ⟨p1, p2, p3, p4⟩ := sum_i H hA
    have r4 := E_X10_kind R4.1 e4
    replace hf := jbind hf
    obtain ⟨p18, e5, hf⟩ := hf
    have r5 := oc_gR e5
    rw [SS1.1] at r5
    cases r5
    clear e5
    replace hf := jbind hf
    obtain ⟨q23, e6, hf⟩ := hf
    replace e6 := (jcv_o e6).2
    obtain ⟨r6, f6, z6⟩ := E_X10_take (x1 := 60) R4.1 (by decide) e6
    have SS6 : rlS (oc q23.2) x := rlS_C R4.2.1 (frC_5 f6)
    replace hf := jite hf
    rcases hf with ⟨c7, hf⟩ | ⟨c7, hf⟩
    · skip
      replace hf := jbind hf
      obtain ⟨p30, e8, hf⟩ := hf
      have r8 := oc_gR e8
      rw [SS6.1] at r8
      cases r8
      clear e8
      replace hf := jbind hf
      obtain ⟨q35, e9, hf⟩ := hf
      replace e9 := (jcv_o e9).2
      rcases r6 with ⟨-, w, -⟩ | ⟨t6, w6⟩
      · exact absurd (c7.symm.trans w) (by decide)
      have R6 : cc (oc q23.2) x b L m T st d.1 nl (s + d.2.length) := by rw [w6]; exact R4
      obtain ⟨r9, f9, z9⟩ := E_X10_take (x1 := 62) R6.1 (by decide) e9
      have SS9 : rlS (oc q35.2) x := rlS_C R6.2.1 (frC_5 f9)
      replace hf := jite hf
      rcases hf with ⟨c10, hf⟩ | ⟨c10, hf⟩
      · skip
        cases hf
        -- leaf 100: ((0 : Int32), q35.2)
        rcases r9 with ⟨-, w, -⟩ | ⟨t9, w9⟩
        · exact absurd (c10.symm.trans w) (by decide)
        refine lwC_sq hA w4 A.2.2.1 A.2.2.2 ?_
        rw [if_neg t6, if_neg t9]
        exact lwC_r rfl rfl (by rw [w9]; exact R6.1) ⟨_, by rw [w9]; exact R6.2.2.1⟩ (frC_tr (frC_5 f6) (frC_5 f9)) (z9.trans z6)
      · skip
        -- leaf 101: F_X3_readComparison_43 n a0 v13 q35.2
        rcases r9 with ⟨t9, v9, K9⟩ | ⟨-, w⟩
        rotate_left
        · exact absurd (by rw [w]) c10
        have R9 := cc_5 R6 K9 f9 (Nat.le_succ _)
        have sk := R.2.2.2
        have B := E_X3_readComparison_43 (c := 14) H rfl R9 (by omega) (by rw [r4, t9]; rfl) hf
        refine lwC_sq hA w4 A.2.2.1 A.2.2.2 ?_
        rw [if_neg t6, if_pos t9]
        exact lwC_p5 f6 z6 (lwC_p5 f9 z9 B)
    · skip
      -- leaf 11: F_X3_readComparison_43 n a0 v13 q23.2
      rcases r6 with ⟨t6, v6, K6⟩ | ⟨-, w⟩
      rotate_left
      · exact absurd (by rw [w]) c7
      have R6 := cc_5 R4 K6 f6 (Nat.le_succ _)
      have sk := R.2.2.2
      have B := E_X3_readComparison_43 (c := 13) H rfl R6 (by omega) (by rw [r4, t6]; rfl) hf
      refine lwC_sq hA w4 A.2.2.1 A.2.2.2 ?_
      rw [if_pos t6]
      exact lwC_p5 f6 z6 B
theorem E_X3_readAtom_128 {b : Nat → Int32} {L : Nat} {m : Nat} {T : Nat → Int32 × Int32} {st : Nat → Nat} {en : Nat → Nat} {x : Nat} {nl : Nat} {k : Nat} {s : Nat} {n : Nat} {g0 : Nat → Int32 → jH → Option (Int32 × jH)} {g1 : Nat → Int32 → jH → Option (Int32 × jH)} {a0 : Nat} {h : jH} {q : Int32 × jH} (H : tkE b L m T st en) (ha : a0 = x + 35) (R : cc (oc h) x b L m T st k nl s) (hf : F_X3_readAtom_128 n g0 g1 a0 h = some q) : lwC x b L m T st h q.1 q.2 nl s (cmpS T k) := by
  unfold F_X3_readAtom_128 at hf
  subst ha
  replace hf := jbind hf
  obtain ⟨q129, e1, hf⟩ := hf
  replace e1 := (jcv_o e1).2
  have A := E_X3_readComparison H rfl R e1
  replace hf := jite hf
  rcases hf with ⟨c2, hf⟩ | ⟨c2, hf⟩
  · skip
    cases hf
    -- leaf 0: (q129.1, q129.2)
    exact A
  · skip
    cases hf
theorem E_X3_readAtom_28 {b : Nat → Int32} {L : Nat} {m : Nat} {T : Nat → Int32 × Int32} {st : Nat → Nat} {en : Nat → Nat} {x : Nat} {nl : Nat} {k : Nat} {s : Nat} {dp : Nat} {n : Nat} {g0 : Nat → Int32 → jH → Option (Int32 × jH)} {g1 : Nat → Int32 → jH → Option (Int32 × jH)} {a0 : Nat} {x1 : Int32} {x2 : Int32} {h : jH} {q : Int32 × jH} (H : tkE b L m T st en) (G0 : gPc x b L m T st 0 g0) (G1 : gPc x b L m T st 1 g1) (ha : a0 = x + 35) (R : cc (oc h) x b L m T st k nl s) (hx : x1 = nI dp) (hk : x2 = (T k).1) (hd : dp ≤ 6) (hd2 : (T k).1 = 11 ∨ (T k).1 = 40 → dp < 6) (hf : F_X3_readAtom_28 n g0 g1 a0 x1 x2 h = some q) : lwC x b L m T st h q.1 q.2 nl s (rdG T 2000 1 dp k) := by
  unfold F_X3_readAtom_28 at hf
  subst ha
  have kk := cc_k R
  have sk := R.2.2.2
  have E := (g_2 (w := 1) (dp := dp) H kk.2 kk.1 (by decide)).trans rdG_1
  replace hf := jbind hf
  obtain ⟨p29, e1, hf⟩ := hf
  have r1 := oc_gR e1
  rw [R.2.1.1] at r1
  cases r1
  clear e1
  replace hf := jbind hf
  obtain ⟨q34, e2, hf⟩ := hf
  replace e2 := (jcv_o e2).2
  obtain ⟨r2, f2, z2⟩ := E_X10_take (x1 := 11) R.1 (by decide) e2
  have SS2 : rlS (oc q34.2) x := rlS_C R.2.1 (frC_5 f2)
  replace hf := jite hf
  rcases hf with ⟨c3, hf⟩ | ⟨c3, hf⟩
  · skip
    replace hf := jbind hf
    obtain ⟨p60, e4, hf⟩ := hf
    have r4 := oc_gR e4
    rw [SS2.1] at r4
    cases r4
    clear e4
    replace hf := jbind hf
    obtain ⟨q65, e5, hf⟩ := hf
    replace e5 := (jcv_o e5).2
    rcases r2 with ⟨-, w, -⟩ | ⟨t2, w2⟩
    · exact absurd (c3.symm.trans w) (by decide)
    have R2 : cc (oc q34.2) x b L m T st k nl s := by rw [w2]; exact R
    obtain ⟨r5, f5, z5⟩ := E_X10_take (x1 := 40) R2.1 (by decide) e5
    have SS5 : rlS (oc q65.2) x := rlS_C R2.2.1 (frC_5 f5)
    replace hf := jite hf
    rcases hf with ⟨c6, hf⟩ | ⟨c6, hf⟩
    · skip
      replace hf := jite hf
      rcases hf with ⟨c7, hf⟩ | ⟨c7, hf⟩
      · skip
        -- leaf 000: F_X3_readAtom_128 n g0 g1 a0 q65.2
        rcases r5 with ⟨-, w, -⟩ | ⟨t5, w5⟩
        · exact absurd (c6.symm.trans w) (by decide)
        have R5 : cc (oc q65.2) x b L m T st k nl s := by rw [w5]; exact R2
        have f25 : ∀ a j : Nat, ¬ (a = x + 1 ∧ j = 5) → oc q65.2 a j = oc h a j := fun a j u => (f5 a j u).trans (f2 a j u)
        have nt : ¬ (7 ≤ (T k).1.toInt ∧ (T k).1.toInt ≤ 10) := fun z => by
          rw [hk, Int32.lt_iff_toInt_lt] at c7
          have l7 : (7 : Int32).toInt = 7 := rfl
          have l10 : (10 : Int32).toInt = 10 := rfl
          omega
        have B := E_X3_readAtom_128 H rfl R5 hf
        rw [E, if_neg t5, if_neg t2, if_neg nt]
        exact lwC_p5 f25 (z5.trans z2) B
      · skip
        replace hf := jite hf
        rcases hf with ⟨c8, hf⟩ | ⟨c8, hf⟩
        · skip
          -- leaf 0010: F_X3_readAtom_128 n g0 g1 a0 q65.2
          rcases r5 with ⟨-, w, -⟩ | ⟨t5, w5⟩
          · exact absurd (c6.symm.trans w) (by decide)
          have R5 : cc (oc q65.2) x b L m T st k nl s := by rw [w5]; exact R2
          have f25 : ∀ a j : Nat, ¬ (a = x + 1 ∧ j = 5) → oc q65.2 a j = oc h a j := fun a j u => (f5 a j u).trans (f2 a j u)
          have nt : ¬ (7 ≤ (T k).1.toInt ∧ (T k).1.toInt ≤ 10) := fun z => by
            rw [hk, Int32.lt_iff_toInt_lt] at c8
            have l7 : (7 : Int32).toInt = 7 := rfl
            have l10 : (10 : Int32).toInt = 10 := rfl
            omega
          have B := E_X3_readAtom_128 H rfl R5 hf
          rw [E, if_neg t5, if_neg t2, if_neg nt]
          exact lwC_p5 f25 (z5.trans z2) B
        · skip
          replace hf := jbind hf
          obtain ⟨p112, e9, hf⟩ := hf
          have r9 := oc_gR e9
          rw [SS5.1] at r9
          cases r9
          clear e9
          replace hf := jbind hf
          obtain ⟨h115, e10, hf⟩ := hf
          replace e10 := (jcv_o e10).2
          rcases r5 with ⟨-, w, -⟩ | ⟨t5, w5⟩
          · exact absurd (c6.symm.trans w) (by decide)
          have R5 : cc (oc q65.2) x b L m T st k nl s := by rw [w5]; exact R2
          have f25 : ∀ a j : Nat, ¬ (a = x + 1 ∧ j = 5) → oc q65.2 a j = oc h a j := fun a j u => (f5 a j u).trans (f2 a j u)
          have tg : 7 ≤ (T k).1.toInt ∧ (T k).1.toInt ≤ 10 := by
            rw [hk, Int32.lt_iff_toInt_lt] at c7
            rw [hk, Int32.lt_iff_toInt_lt] at c8
            have l7 : (7 : Int32).toInt = 7 := rfl
            have l10 : (10 : Int32).toInt = 10 := rfl
            omega
          obtain ⟨K10, f10, z10⟩ := E_X10_skip R5.1 (fun y => by rw [y] at tg; exact absurd tg.1 (by decide)) e10
          have R10 := cc_5 R5 K10 f10 (Nat.le_succ _)
          replace hf := jbind hf
          obtain ⟨p119, e11, hf⟩ := hf
          have r11 := oc_gR e11
          rw [R10.2.1.2.2] at r11
          cases r11
          clear e11
          replace hf := jbind hf
          obtain ⟨h123, e12, hf⟩ := hf
          replace e12 := (jcv_o e12).2
          cases hf
          -- leaf 0011: ((1 : Int32), h123)
          obtain ⟨R12, w12, f12, z12⟩ := cc_em R10 (by omega) e12
          rw [hk] at w12
          rw [E, if_neg t5, if_neg t2, if_pos tg]
          exact lwC_p5 f25 (z5.trans z2) (lwC_p5 f10 z10 (lwC_l rfl rfl R12 (by rw [List.map_cons, cod_p (by omega)]; exact w12) f12 z12))
    · skip
      replace hf := jbind hf
      obtain ⟨q75, e13, hf⟩ := hf
      replace e13 := (jcv_o e13).2
      rcases r5 with ⟨t5, v5, K5⟩ | ⟨-, w⟩
      rotate_left
      · exact absurd (by rw [w]) c6
      have R5 := cc_5 R2 K5 f5 (Nat.le_succ _)
      have dl := hd2 (Or.inr t5)
      rw [hx, nI_1] at e13
      have A := G0 (k + 1) nl s (dp + 1) q65.2 q75 R5 (by omega) e13
      have E1 := E.trans ((if_pos t5).trans (if_neg (show ¬ dp = 6 by omega)))
      have f25 : ∀ a j : Nat, ¬ (a = x + 1 ∧ j = 5) → oc q65.2 a j = oc h a j := fun a j u => (f5 a j u).trans (f2 a j u)
      have SS13 : rlS (oc q75.2) x := rlS_C R5.2.1 A.2.2.1
      replace hf := jite hf
      rcases hf with ⟨c14, hf⟩ | ⟨c14, hf⟩
      · skip
        cases hf
        -- leaf 010: ((0 : Int32), q75.2)
        rcases hA : rdG T 2000 0 (dp + 1) (k + 1) with d | f
        · exact absurd (c14.symm.trans (A.1 d hA).1) (by decide)
        obtain ⟨-, k4, c5⟩ := A.2.1 f hA
        rw [E1]
        exact lwC_p5 f25 (z5.trans z2) (lwC_r (sq_r hA) rfl k4 c5 A.2.2.1 A.2.2.2)
      · skip
        replace hf := jbind hf
        obtain ⟨p82, e15, hf⟩ := hf
        have r15 := oc_gR e15
        rw [SS13.1] at r15
        cases r15
        clear e15
        replace hf := jbind hf
        obtain ⟨q87, e16, hf⟩ := hf
        replace e16 := (jcv_o e16).2
        rcases hA : rdG T 2000 0 (dp + 1) (k + 1) with d | f
        rotate_left
        · exact absurd (A.2.1 f hA).1 c14
        obtain ⟨-, R14, w14⟩ := A.1 d hA
        obtain ⟨r16, f16, z16⟩ := E_X10_take (x1 := 41) R14.1 (by decide) e16
        have SS16 : rlS (oc q87.2) x := rlS_C R14.2.1 (frC_5 f16)
        replace hf := jite hf
        rcases hf with ⟨c17, hf⟩ | ⟨c17, hf⟩
        · skip
          cases hf
          -- leaf 0110: ((0 : Int32), q87.2)
          rcases r16 with ⟨-, w, -⟩ | ⟨t16, w16⟩
          · exact absurd (c17.symm.trans w) (by decide)
          rw [E1]
          refine lwC_p5 f25 (z5.trans z2) (lwC_sq hA w14 A.2.2.1 A.2.2.2 ?_)
          rw [if_neg t16]
          exact lwC_r rfl rfl (by rw [w16]; exact R14.1) ⟨_, by rw [w16]; exact R14.2.2.1⟩ (frC_5 f16) z16
        · skip
          cases hf
          -- leaf 0111: ((1 : Int32), q87.2)
          rcases r16 with ⟨t16, v16, K16⟩ | ⟨-, w⟩
          rotate_left
          · exact absurd (by rw [w]) c17
          rw [E1]
          refine lwC_p5 f25 (z5.trans z2) (lwC_sq hA w14 A.2.2.1 A.2.2.2 ?_)
          rw [if_pos t16]
          exact lwC_nl rfl rfl (cc_5 R14 K16 f16 (Nat.le_succ _)) f16 z16
  · skip
    replace hf := jbind hf
    obtain ⟨q44, e18, hf⟩ := hf
    replace e18 := (jcv_o e18).2
    rcases r2 with ⟨t2, v2, K2⟩ | ⟨-, w⟩
    rotate_left
    · exact absurd (by rw [w]) c3
    have R2 := cc_5 R K2 f2 (Nat.le_succ _)
    have dl := hd2 (Or.inl t2)
    rw [hx, nI_1] at e18
    have A := G1 (k + 1) nl s (dp + 1) q34.2 q44 R2 (by omega) e18
    have E1 := E.trans ((if_neg (show ¬ (T k).1 = 40 by rw [t2]; decide)).trans ((if_pos t2).trans (if_neg (show ¬ dp = 6 by omega))))
    have SS18 : rlS (oc q44.2) x := rlS_C R2.2.1 A.2.2.1
    replace hf := jbind hf
    obtain ⟨p49, e19, hf⟩ := hf
    have r19 := oc_gR e19
    rw [SS18.2.2] at r19
    cases r19
    clear e19
    replace hf := jbind hf
    obtain ⟨h54, e20, hf⟩ := hf
    replace e20 := (jcv_o e20).2
    replace hf := jite hf
    rcases hf with ⟨c21, hf⟩ | ⟨c21, hf⟩
    · skip
      cases hf
      -- leaf 10: (q44.1, h54)
      rw [E1]
      refine lwC_p5 f2 z2 ?_
      rcases hA : rdG T 2000 1 (dp + 1) (k + 1) with d | f
      · obtain ⟨v, R4, w4⟩ := A.1 d hA
        have gi := g_i H 2000 (by have := cc_k R2; omega) hA
        obtain ⟨R5, w5, f5, z5⟩ := cc_em R4 (by omega) e20
        rw [← hA]
        exact lwC_sq hA w4 A.2.2.1 A.2.2.2 (lwC_l rfl v R5 w5 f5 z5)
      · obtain ⟨v, k4, s4, c5⟩ := A.2.1 f hA
        obtain ⟨k5, f5, z5, c6⟩ := ck_em k4 c5 e20
        exact lwC_r (sq_r rfl) v k5 c6 (frC_tr A.2.2.1 f5) (z5.trans A.2.2.2)
    · skip
      cases hf
theorem E_X3_readAtom_20 {b : Nat → Int32} {L : Nat} {m : Nat} {T : Nat → Int32 × Int32} {st : Nat → Nat} {en : Nat → Nat} {x : Nat} {nl : Nat} {k : Nat} {s : Nat} {dp : Nat} {n : Nat} {g0 : Nat → Int32 → jH → Option (Int32 × jH)} {g1 : Nat → Int32 → jH → Option (Int32 × jH)} {a0 : Nat} {x1 : Int32} {x2 : Int32} {h : jH} {q : Int32 × jH} (H : tkE b L m T st en) (G0 : gPc x b L m T st 0 g0) (G1 : gPc x b L m T st 1 g1) (ha : a0 = x + 35) (R : cc (oc h) x b L m T st k nl s) (hx : x1 = nI dp) (hk : x2 = (T k).1) (hd : dp ≤ 6) (ht : (T k).1 = 11 ∨ (T k).1 = 40) (hf : F_X3_readAtom_20 n g0 g1 a0 x1 x2 h = some q) : lwC x b L m T st h q.1 q.2 nl s (rdG T 2000 1 dp k) := by
  unfold F_X3_readAtom_20 at hf
  subst ha
  replace hf := jite hf
  rcases hf with ⟨c1, hf⟩ | ⟨c1, hf⟩
  · skip
    -- leaf 0: F_X3_readAtom_28 n g0 g1 a0 x1 x2 h
    rw [hx, Int32.lt_iff_toInt_lt, nI_toInt (by omega), show (6 : Int32).toInt = 6 from rfl] at c1
    exact E_X3_readAtom_28 H G0 G1 rfl R hx hk hd (fun _ => by omega) hf
  · skip
    cases hf
    -- leaf 1: ((0 : Int32), h)
    rw [hx, Int32.lt_iff_toInt_lt, nI_toInt (by omega), show (6 : Int32).toInt = 6 from rfl] at c1
    have kk := cc_k R
    have d6 : dp = 6 := by omega
    have E := (g_2 (w := 1) (dp := dp) H kk.2 kk.1 (by decide)).trans rdG_1
    refine lwC_r (k := k) ?_ rfl R.1 ⟨s, R.2.2.1⟩ frC_0 rfl
    rw [E]
    by_cases t : (T k).1 = 40
    · rw [if_pos t, if_pos d6]
    · rw [if_neg t, if_pos (ht.resolve_right t), if_pos d6]
theorem E_X3_readAtom {b : Nat → Int32} {L : Nat} {m : Nat} {T : Nat → Int32 × Int32} {st : Nat → Nat} {en : Nat → Nat} {x : Nat} {nl : Nat} {k : Nat} {s : Nat} {dp : Nat} {n : Nat} {g0 : Nat → Int32 → jH → Option (Int32 × jH)} {g1 : Nat → Int32 → jH → Option (Int32 × jH)} {a0 : Nat} {x1 : Int32} {h : jH} {q : Int32 × jH} (H : tkE b L m T st en) (G0 : gPc x b L m T st 0 g0) (G1 : gPc x b L m T st 1 g1) (ha : a0 = x + 35) (R : cc (oc h) x b L m T st k nl s) (hx : x1 = nI dp) (hd : dp ≤ 6) (hf : F_X3_readAtom n g0 g1 a0 x1 h = some q) : lwC x b L m T st h q.1 q.2 nl s (rdG T 2000 1 dp k) := by
  unfold F_X3_readAtom at hf
  subst ha
  replace hf := jbind hf
  obtain ⟨p1, e1, hf⟩ := hf
  have r1 := oc_gR e1
  rw [R.2.1.1] at r1
  cases r1
  clear e1
  replace hf := jbind hf
  obtain ⟨v4, e2, hf⟩ := hf
  replace e2 := (jcv_o e2).2
  have r2 := E_X10_kind R.1 e2
  replace hf := jite hf
  rcases hf with ⟨c3, hf⟩ | ⟨c3, hf⟩
  · skip
    -- leaf 0: F_X3_readAtom_20 n g0 g1 a0 x1 v4 h
    exact E_X3_readAtom_20 H G0 G1 rfl R hx r2 hd (Or.inl (r2.symm.trans c3)) hf
  · skip
    replace hf := jite hf
    rcases hf with ⟨c4, hf⟩ | ⟨c4, hf⟩
    · skip
      -- leaf 10: F_X3_readAtom_20 n g0 g1 a0 x1 v4 h
      exact E_X3_readAtom_20 H G0 G1 rfl R hx r2 hd (Or.inr (r2.symm.trans c4)) hf
    · skip
      -- leaf 11: F_X3_readAtom_28 n g0 g1 a0 x1 v4 h
      exact E_X3_readAtom_28 H G0 G1 rfl R hx r2 hd (fun z => by rcases z with z | z; exact absurd (r2.trans z) c3; exact absurd (r2.trans z) c4) hf
end
section
/-! conditions joined, the class -/
def flg (a : Int32) : Nat := if a = 0 then 0 else 1
def xT (T : Nat → Int32 × Int32) (o : Int32) (dp j : Nat) : jRd := if o = 0 then rdG T 2000 4 dp j else sqP (.inl (j, [(17, 0)])) (fun i => rdG T 2000 4 dp i)
def xA (T : Nat → Int32 × Int32) (a : Int32) (dp j : Nat) : jRd := if a = 0 then rdG T 2000 3 dp j else sqP (.inl (j, [(16, 0)])) (fun i => rdG T 2000 3 dp i)
def xC (T : Nat → Int32 × Int32) (a o : Int32) (dp k : Nat) : jRd := sqP (sqP (rdG T 2000 1 dp k) (fun j => xA T a dp j)) (fun j => xT T o dp j)
def gL (x : Nat) (b : Nat → Int32) (L m : Nat) (T : Nat → Int32 × Int32) (st : Nat → Nat) (rcc : Nat → Int32 → Int32 → Int32 → Int32 → jH → Option (Int32 × jH)) : Prop :=
  ∀ (k nl s j dp : Nat) (a o : Int32) (h : jH) (q : Int32 × jH), cc (oc h) x b L m T st k nl s → s + flg a + flg o ≤ k → 2 * j ≤ k → dp ≤ 6 → rcc (x + 35) (nI dp) a o (nI j) h = some q → lwC x b L m T st h q.1 q.2 nl s (xC T a o dp k)
theorem E_X3_readCondition_65 {b : Nat → Int32} {L : Nat} {m : Nat} {T : Nat → Int32 × Int32} {st : Nat → Nat} {en : Nat → Nat} {x : Nat} {nl : Nat} {k : Nat} {s : Nat} {j : Nat} {dp : Nat} {n : Nat} {g0 : Nat → Int32 → jH → Option (Int32 × jH)} {g1 : Nat → Int32 → jH → Option (Int32 × jH)} {rc7 : Nat → Int32 → Int32 → Int32 → Int32 → jH → Option (Int32 × jH)} {a0 : Nat} {x1 : Int32} {x2 : Int32} {x4 : Int32} {h : jH} {q : Int32 × jH} (H : tkE b L m T st en) (G : gL x b L m T st rc7) (ha : a0 = x + 35) (R : cc (oc h) x b L m T st k nl s) (hx : x1 = nI dp) (h4 : x4 = nI j) (hj : 2 * j + 1 ≤ k) (hd : dp ≤ 6) (h2 : x2 = 0) (hf : F_X3_readCondition_65 n g0 g1 rc7 a0 x1 x2 x4 h = some q) : lwC x b L m T st h q.1 q.2 nl s (rdG T 2000 4 dp k) := by
  unfold F_X3_readCondition_65 at hf
  subst ha
  have kk := cc_k R
  have sk := R.2.2.2
  have E := (g_2 (w := 4) (dp := dp) H kk.2 kk.1 (by decide)).trans rdG_4
  replace hf := jbind hf
  obtain ⟨p66, e1, hf⟩ := hf
  have r1 := oc_gR e1
  rw [R.2.1.1] at r1
  cases r1
  clear e1
  replace hf := jbind hf
  obtain ⟨q71, e2, hf⟩ := hf
  replace e2 := (jcv_o e2).2
  obtain ⟨r2, f2, z2⟩ := E_X10_take (x1 := 13) R.1 (by decide) e2
  have SS2 : rlS (oc q71.2) x := rlS_C R.2.1 (frC_5 f2)
  replace hf := jite hf
  rcases hf with ⟨c3, hf⟩ | ⟨c3, hf⟩
  · skip
    cases hf
    -- leaf 0: ((1 : Int32), q71.2)
    rcases r2 with ⟨-, w, -⟩ | ⟨t2, w2⟩
    · exact absurd (c3.symm.trans w) (by decide)
    exact lwC_p5 f2 z2 (lwC_nl (E.trans (if_neg t2)) rfl (by rw [w2]; exact R) (fun _ _ _ => rfl) rfl)
  · skip
    -- leaf 1: rc7 a0 x1 x2 q71.1 (x4 + (1 : Int32)) q71.2
    rcases r2 with ⟨t2, v2, K2⟩ | ⟨-, w⟩
    rotate_left
    · exact absurd (by rw [w]) c3
    have R2 := cc_5 R K2 f2 (Nat.le_succ _)
    rw [hx, h4, nI_1, h2, v2] at hf
    have e0 : flg 0 = 0 := rfl
    have e1 : flg 1 = 1 := rfl
    have B := G (k + 1) nl s (j + 1) dp 0 1 q71.2 q R2 (by omega) (by omega) hd hf
    have E2 := (g_2 (w := 2) (dp := dp) (k := k + 1) H kk.2 (by have := cc_k R2; omega) (by decide)).trans rdG_2
    rw [E, if_pos t2, E2]
    exact lwC_p5 f2 z2 B
theorem E_X3_readCondition_38 {b : Nat → Int32} {L : Nat} {m : Nat} {T : Nat → Int32 × Int32} {st : Nat → Nat} {en : Nat → Nat} {x : Nat} {nl : Nat} {k : Nat} {s : Nat} {j : Nat} {dp : Nat} {n : Nat} {g0 : Nat → Int32 → jH → Option (Int32 × jH)} {g1 : Nat → Int32 → jH → Option (Int32 × jH)} {rc7 : Nat → Int32 → Int32 → Int32 → Int32 → jH → Option (Int32 × jH)} {a0 : Nat} {x1 : Int32} {x3 : Int32} {x4 : Int32} {h : jH} {q : Int32 × jH} (H : tkE b L m T st en) (G : gL x b L m T st rc7) (ha : a0 = x + 35) (R : cc (oc h) x b L m T st k nl s) (hx : x1 = nI dp) (h4 : x4 = nI j) (hj : 2 * j + 1 ≤ k) (hd : dp ≤ 6) (hb : s + flg x3 ≤ k) (hf : F_X3_readCondition_38 n g0 g1 rc7 a0 x1 x3 x4 h = some q) : lwC x b L m T st h q.1 q.2 nl s (sqP (rdG T 2000 3 dp k) (fun i => xT T x3 dp i)) := by
  unfold F_X3_readCondition_38 at hf
  subst ha
  have kk := cc_k R
  have sk := R.2.2.2
  have E := (g_2 (w := 3) (dp := dp) H kk.2 kk.1 (by decide)).trans rdG_3
  replace hf := jbind hf
  obtain ⟨p39, e1, hf⟩ := hf
  have r1 := oc_gR e1
  rw [R.2.1.1] at r1
  cases r1
  clear e1
  replace hf := jbind hf
  obtain ⟨q44, e2, hf⟩ := hf
  replace e2 := (jcv_o e2).2
  obtain ⟨r2, f2, z2⟩ := E_X10_take (x1 := 12) R.1 (by decide) e2
  have SS2 : rlS (oc q44.2) x := rlS_C R.2.1 (frC_5 f2)
  replace hf := jite hf
  rcases hf with ⟨c3, hf⟩ | ⟨c3, hf⟩
  · skip
    replace hf := jite hf
    rcases hf with ⟨c4, hf⟩ | ⟨c4, hf⟩
    · skip
      -- leaf 00: F_X3_readCondition_65 n g0 g1 rc7 a0 x1 q44.1 x4 q44.2
      rcases r2 with ⟨-, w, -⟩ | ⟨t2, w2⟩
      · exact absurd (c3.symm.trans w) (by decide)
      have R2 : cc (oc q44.2) x b L m T st k nl s := by rw [w2]; exact R
      have B := E_X3_readCondition_65 H G rfl R2 hx h4 hj hd c3 hf
      rw [E, if_neg t2, sq_0, xT, if_pos c4]
      exact lwC_p5 f2 z2 B
    · skip
      replace hf := jbind hf
      obtain ⟨p57, e5, hf⟩ := hf
      have r5 := oc_gR e5
      rw [SS2.2.2] at r5
      cases r5
      clear e5
      replace hf := jbind hf
      obtain ⟨h62, e6, hf⟩ := hf
      replace e6 := (jcv_o e6).2
      rcases r2 with ⟨-, w, -⟩ | ⟨t2, w2⟩
      · exact absurd (c3.symm.trans w) (by decide)
      have R2 : cc (oc q44.2) x b L m T st k nl s := by rw [w2]; exact R
      have e1 : flg x3 = 1 := if_neg c4
      obtain ⟨R6, w6, f6, z6⟩ := cc_em R2 (by omega) e6
      -- leaf 01: F_X3_readCondition_65 n g0 g1 rc7 a0 x1 q44.1 x4 h62
      have B := E_X3_readCondition_65 H G rfl R6 hx h4 hj hd c3 hf
      rw [E, if_neg t2, sq_0, xT, if_neg c4]
      exact lwC_p5 f2 z2 (lwC_sq (f := fun i => rdG T 2000 4 dp i) (d := (k, [(17, 0)])) rfl w6 f6 z6 B)
  · skip
    -- leaf 1: rc7 a0 x1 q44.1 x3 (x4 + (1 : Int32)) q44.2
    rcases r2 with ⟨t2, v2, K2⟩ | ⟨-, w⟩
    rotate_left
    · exact absurd (by rw [w]) c3
    have R2 := cc_5 R K2 f2 (Nat.le_succ _)
    rw [hx, h4, nI_1, v2] at hf
    have e1 : flg 1 = 1 := rfl
    have B := G (k + 1) nl s (j + 1) dp 1 x3 q44.2 q R2 (by omega) (by omega) hd hf
    rw [E, if_pos t2]
    exact lwC_p5 f2 z2 B
theorem E_X3_readCondition_7 {n : Nat} {g0 : Nat → Int32 → jH → Option (Int32 × jH)} {g1 : Nat → Int32 → jH → Option (Int32 × jH)} {b : Nat → Int32} {L : Nat} {m : Nat} {T : Nat → Int32 × Int32} {st : Nat → Nat} {en : Nat → Nat} {x : Nat} {nl : Nat} (H : tkE b L m T st en) (G1 : gPc x b L m T st 1 g1) : ∀ (k : Nat) {a0 : Nat} {x1 : Int32} {x2 : Int32} {x3 : Int32} {x4 : Int32} {h : jH} {q : Int32 × jH} (k0 : Nat) (s : Nat) (j : Nat) (dp : Nat) (ha : a0 = x + 35) (R : cc (oc h) x b L m T st k0 nl s) (hx : x1 = nI dp) (h4 : x4 = nI j) (hb : s + flg x2 + flg x3 ≤ k0) (hj : 2 * j ≤ k0) (hd : dp ≤ 6), F_X3_readCondition_7 n g0 g1 k a0 x1 x2 x3 x4 h = some q → lwC x b L m T st h q.1 q.2 nl s (xC T x2 x3 dp k0)
  | 0, a0, x1, x2, x3, x4, h, q, k0, s, j, dp, ha, R, hx, h4, hb, hj, hd, hf => by cases hf
  | k + 1, a0, x1, x2, x3, x4, h, q, k0, s, j, dp, ha, R, hx, h4, hb, hj, hd, hf => by
    replace hf : F_X3_readCondition_7_b n g0 g1 (F_X3_readCondition_7 n g0 g1 k) a0 x1 x2 x3 x4 h = some q := hf
    unfold F_X3_readCondition_7_b at hf
    subst ha
    have kk := cc_k R
    have sk := R.2.2.2
    replace hf := jite hf
    rcases hf with ⟨c1, hf⟩ | ⟨c1, hf⟩
    · skip
      cases hf
      -- leaf 0: ((0 : Int32), h)
      rw [h4, Int32.le_iff_toInt_le, nI_toInt (by omega), show (400 : Int32).toInt = 400 from rfl] at c1
      omega
    · skip
      replace hf := jbind hf
      obtain ⟨q17, e2, hf⟩ := hf
      replace e2 := (jcv_o e2).2
      have A := G1 k0 nl s dp h q17 R hd (by rw [hx] at e2; exact e2)
      have SS2 : rlS (oc q17.2) x := rlS_C R.2.1 A.2.2.1
      have GG : gL x b L m T st (F_X3_readCondition_7 n g0 g1 k) := fun k2 nl2 s2 j2 dp2 a2 o2 h2 q2 y1 y2 y3 y4 y5 => E_X3_readCondition_7 H G1 k k2 s2 j2 dp2 rfl y1 rfl rfl y2 y3 y4 y5
      replace hf := jite hf
      rcases hf with ⟨c3, hf⟩ | ⟨c3, hf⟩
      · skip
        cases hf
        -- leaf 10: ((0 : Int32), q17.2)
        rcases hA : rdG T 2000 1 dp k0 with d | f
        · exact absurd (c3.symm.trans (A.1 d hA).1) (by decide)
        obtain ⟨-, k4, c5⟩ := A.2.1 f hA
        exact lwC_r (sq_r (sq_r hA)) rfl k4 c5 A.2.2.1 A.2.2.2
      · skip
        replace hf := jite hf
        rcases hf with ⟨c4, hf⟩ | ⟨c4, hf⟩
        · skip
          -- leaf 110: F_X3_readCondition_38 n g0 g1 rc7 a0 x1 x3 x4 q17.2
          rcases hA : rdG T 2000 1 dp k0 with d | f
          rotate_left
          · exact absurd (A.2.1 f hA).1 c3
          obtain ⟨-, R4, w4⟩ := A.1 d hA
          have gi := g_i H 2000 kk.1 hA
          have gi4 := gi.2.2.2 (by decide)
          have e0 : flg x2 = 0 := if_pos c4
          have B := E_X3_readCondition_38 (j := j) H GG rfl R4 hx h4 (by omega) hd (by omega) hf
          unfold xC
          rw [sq_as]
          refine lwC_sq hA w4 A.2.2.1 A.2.2.2 ?_
          rw [xA, if_pos c4]
          exact B
        · skip
          replace hf := jbind hf
          obtain ⟨p30, e5, hf⟩ := hf
          have r5 := oc_gR e5
          rw [SS2.2.2] at r5
          cases r5
          clear e5
          replace hf := jbind hf
          obtain ⟨h35, e6, hf⟩ := hf
          replace e6 := (jcv_o e6).2
          rcases hA : rdG T 2000 1 dp k0 with d | f
          rotate_left
          · exact absurd (A.2.1 f hA).1 c3
          obtain ⟨-, R4, w4⟩ := A.1 d hA
          have gi := g_i H 2000 kk.1 hA
          have gi4 := gi.2.2.2 (by decide)
          have e1 : flg x2 = 1 := if_neg c4
          obtain ⟨R6, w6, f6, z6⟩ := cc_em R4 (by omega) e6
          -- leaf 111: F_X3_readCondition_38 n g0 g1 rc7 a0 x1 x3 x4 h35
          have B := E_X3_readCondition_38 (j := j) H GG rfl R6 hx h4 (by omega) hd (by omega) hf
          unfold xC
          rw [sq_as]
          refine lwC_sq hA w4 A.2.2.1 A.2.2.2 ?_
          rw [xA, if_neg c4, sq_as]
          exact lwC_sq (f := fun j => sqP (rdG T 2000 3 dp j) (fun i => xT T x3 dp i)) (d := (d.1, [(16, 0)])) rfl w6 f6 z6 B
theorem E_X3_readCondition {b : Nat → Int32} {L : Nat} {m : Nat} {T : Nat → Int32 × Int32} {st : Nat → Nat} {en : Nat → Nat} {x : Nat} {nl : Nat} {k : Nat} {s : Nat} {dp : Nat} {n : Nat} {g0 : Nat → Int32 → jH → Option (Int32 × jH)} {g1 : Nat → Int32 → jH → Option (Int32 × jH)} {a0 : Nat} {x1 : Int32} {h : jH} {q : Int32 × jH} (H : tkE b L m T st en) (G1 : gPc x b L m T st 1 g1) (ha : a0 = x + 35) (R : cc (oc h) x b L m T st k nl s) (hx : x1 = nI dp) (hd : dp ≤ 6) (hf : F_X3_readCondition n g0 g1 a0 x1 h = some q) : lwC x b L m T st h q.1 q.2 nl s (rdG T 2000 0 dp k) := by
  unfold F_X3_readCondition at hf
  subst ha
  have kk := cc_k R
  have sk := R.2.2.2
  -- leaf : F_X3_readCondition_7 n g0 g1 n a0 x1 (0 : Int32) (0 : Int32) (0 : Int32) h
  have e0 : flg 0 = 0 := rfl
  have B := E_X3_readCondition_7 H G1 n k s 0 dp rfl R hx rfl (by omega) (by omega) hd hf
  have E := (g_2 (w := 0) (dp := dp) H kk.2 kk.1 (by decide)).trans rdG_0
  have E2 := (g_2 (w := 2) (dp := dp) H kk.2 kk.1 (by decide)).trans rdG_2
  rw [E, E2]
  exact B
theorem R_RC {x : Nat} {b : Nat → Int32} {L m : Nat} {T : Nat → Int32 × Int32} {st en : Nat → Nat} (H : tkE b L m T st en) {n : Nat} : ∀ d : Nat, gPc x b L m T st 0 (FG_RC n d 0) ∧ gPc x b L m T st 1 (FG_RC n d 1)
  | 0 => ⟨fun k nl s dp h q R hd e => (by cases e), fun k nl s dp h q R hd e => (by cases e)⟩
  | d + 1 => by
    obtain ⟨i0, i1⟩ := R_RC H (n := n) d
    refine ⟨fun k nl s dp h q R hd e => ?_, fun k nl s dp h q R hd e => ?_⟩
    · have e2 : F_X3_readCondition n (FG_RC n d 0) (FG_RC n d 1) (x + 35) (nI dp) h = some q := e
      exact E_X3_readCondition H i1 rfl R rfl hd e2
    · have e2 : F_X3_readAtom n (FG_RC n d 0) (FG_RC n d 1) (x + 35) (nI dp) h = some q := e
      exact E_X3_readAtom H i0 i1 rfl R rfl hd e2
end
section
/-! a line of a law's text, the class -/
/-- what a line leaves alone -/
def frJ (x : Nat) (O O2 : jO) : Prop := ∀ a k : Nat, ¬ (a = x + 1 ∧ k = 5) → ¬ (a = x + 28 ∧ (k = 6 ∨ k = 8)) → ¬ (x + 29 ≤ a ∧ a ≤ x + 32) → O2 a k = O a k
theorem frJ_tr {x : Nat} {O O2 O3 : jO} (a : frJ x O O2) (c : frJ x O2 O3) : frJ x O O3 := fun b k h1 h2 h3 => (c b k h1 h2 h3).trans (a b k h1 h2 h3)
theorem frJ_C {x : Nat} {O O2 : jO} (f : frC x O O2) : frJ x O O2 := fun a k h1 h2 h3 => f a k h1 (by omega) (by omega) (by omega)
theorem frJ_5 {x : Nat} {O O2 : jO} (f : ∀ a j : Nat, ¬ (a = x + 1 ∧ j = 5) → O2 a j = O a j) : frJ x O O2 := fun a j h _ _ => f a j h
theorem frJ_0 {x : Nat} {O : jO} : frJ x O O := fun _ _ _ _ _ => rfl
theorem lawS_J {x : Nat} {O O2 : jO} (S : lawS O (x + 28)) (f : frJ x O O2) : lawS O2 (x + 28) := by
  obtain ⟨a, b, c, d, e⟩ := S
  exact ⟨(f _ _ (by omega) (by omega) (by omega)).trans a, (f _ _ (by omega) (by omega) (by omega)).trans b, (f _ _ (by omega) (by omega) (by omega)).trans c, (f _ _ (by omega) (by omega) (by omega)).trans d, (f _ _ (by omega) (by omega) (by omega)).trans e⟩
theorem rlS_J {x : Nat} {O O2 : jO} (S : rlS O x) (f : frJ x O O2) : rlS O2 x := ⟨(f _ _ (by omega) (by omega) (by omega)).trans S.1, (f _ _ (by omega) (by omega) (by omega)).trans S.2.1, (f _ _ (by omega) (by omega) (by omega)).trans S.2.2⟩
/-- the draft before a line: nl lines, s codes -/
def dr0 (O : jO) (x nl s : Nat) : Prop := lawS O (x + 28) ∧ oi O (x + 28) 8 = nI nl ∧ oi O (x + 28) 6 = nI s
/-- the line with kind, amount and steps l was put behind nl lines and s codes -/
def dr1 (O O2 : jO) (x nl s : Nat) (kd am : Int32) (l : List (Int32 × Int32)) : Prop :=
  dr0 O2 x (nl + 1) (s + l.length) ∧ (∀ i, oi O2 (x + 29) i = if i = nl then kd else oi O (x + 29) i) ∧ (∀ i, oi O2 (x + 30) i = if i = nl then am else oi O (x + 30) i) ∧ (∀ i, oi O2 (x + 31) i = if i = nl then nI (s + l.length) else oi O (x + 31) i) ∧
  (∀ i, oi O2 (x + 32) i = if s ≤ i ∧ i < s + l.length then (l.map cod).getD (i - s) 0 else oi O (x + 32) i)
theorem dr1_5 {O O1 O2 : jO} {x nl s : Nat} {kd am : Int32} {l : List (Int32 × Int32)} (f : ∀ a j : Nat, ¬ (a = x + 1 ∧ j = 5) → O1 a j = O a j) (D : dr1 O1 O2 x nl s kd am l) : dr1 O O2 x nl s kd am l := by
  have g : ∀ a j : Nat, ¬ (a = x + 1 ∧ j = 5) → oi O1 a j = oi O a j := fun a j h => by unfold oi; rw [f a j h]
  obtain ⟨d0, d1, d2, d3, d4⟩ := D
  exact ⟨d0, fun i => by rw [d1 i, g _ _ (by omega)], fun i => by rw [d2 i, g _ _ (by omega)], fun i => by rw [d3 i, g _ _ (by omega)], fun i => by rw [d4 i, g _ _ (by omega)]⟩
theorem E_X2_begin {n : Nat} {a0 : Nat} {h : jH} {q : jH} (hf : F_X2_begin n a0 h = some q) : oi (oc q) a0 7 = 1 ∧ oi (oc q) a0 8 = 0 ∧ oi (oc q) a0 6 = 0 ∧ (∀ a k : Nat, ¬ (a = a0 ∧ (k = 6 ∨ k = 7 ∨ k = 8)) → oc q a k = oc h a k) ∧ q.1 = h.1 := by
  unfold F_X2_begin at hf
  replace hf := jbind hf
  obtain ⟨h2, e1, hf⟩ := hf
  obtain ⟨o1, z1⟩ := oc_pf e1
  clear e1
  replace hf := jbind hf
  obtain ⟨h7, e2, hf⟩ := hf
  obtain ⟨o2, z2⟩ := oc_pf e2
  clear e2
  replace hf := jbind hf
  obtain ⟨h12, e3, hf⟩ := hf
  obtain ⟨o3, z3⟩ := oc_pf e3
  clear e3
  cases hf
  -- leaf : h12
  exact ⟨by rw [o3, oi_ne (Or.inr (by decide)), o2, oi_ne (Or.inr (by decide)), o1, oi_eq], by rw [o3, oi_ne (Or.inr (by decide)), o2, oi_eq], by rw [o3, oi_eq], fun a k u => by rw [o3, u2_ne (by omega), o2, u2_ne (by omega), o1, u2_ne (by omega)], z3.trans (z2.trans z1)⟩
theorem E_X2_addLine {x : Nat} {nl : Nat} {s : Nat} {n : Nat} {a0 : Nat} {x1 : Int32} {x2 : Int32} {h : jH} {q : jH} (ha : a0 = x + 28) (D : dr0 (oc h) x nl s) (hn : nl < 12) (hf : F_X2_addLine n a0 x1 x2 h = some q) : dr1 (oc h) (oc q) x nl s x1 x2 [] ∧ (∀ a k : Nat, ¬ (a = x + 28 ∧ k = 8) → ¬ (x + 29 ≤ a ∧ a ≤ x + 31) → oc q a k = oc h a k) ∧ q.1 = h.1 := by
  unfold F_X2_addLine at hf
  subst ha
  obtain ⟨LS, g8, g6⟩ := D
  replace hf := jbind hf
  obtain ⟨v1, e1, hf⟩ := hf
  have r1 := oc_gI e1
  subst r1
  clear e1
  replace hf := jite hf
  rcases hf with ⟨c2, hf⟩ | ⟨c2, hf⟩
  · skip
    cases hf
    -- leaf 0: h
    rw [g8, Int32.le_iff_toInt_le, nI_toInt (by omega), show (12 : Int32).toInt = 12 from rfl] at c2
    omega
  · skip
    replace hf := jbind hf
    obtain ⟨p10, e3, hf⟩ := hf
    have r3 := oc_gR e3
    rw [LS.1] at r3
    cases r3
    clear e3
    replace hf := jbind hf
    obtain ⟨v14, e4, hf⟩ := hf
    have r4 := oc_gI e4
    subst r4
    clear e4
    replace hf := jbind hf
    obtain ⟨h18, e5, hf⟩ := hf
    obtain ⟨o5, z5, y5⟩ := oc_as e5
    rw [jnar0] at o5
    clear e5
    replace hf := jbind hf
    obtain ⟨p20, e6, hf⟩ := hf
    have r6 := oc_gR e6
    rw [o5] at r6
    rw [u2_ne (Or.inl (by omega))] at r6
    rw [LS.2.1] at r6
    cases r6
    clear e6
    replace hf := jbind hf
    obtain ⟨v24, e7, hf⟩ := hf
    have r7 := oc_gI e7
    rw [o5] at r7
    rw [oi_ne (Or.inl (by omega))] at r7
    subst r7
    clear e7
    replace hf := jbind hf
    obtain ⟨h28, e8, hf⟩ := hf
    obtain ⟨o8, z8, y8⟩ := oc_as e8
    rw [jnar0] at o8
    clear e8
    replace hf := jbind hf
    obtain ⟨p30, e9, hf⟩ := hf
    have r9 := oc_gR e9
    rw [o8] at r9
    rw [u2_ne (Or.inl (by omega))] at r9
    rw [o5] at r9
    rw [u2_ne (Or.inl (by omega))] at r9
    rw [LS.2.2.1] at r9
    cases r9
    clear e9
    replace hf := jbind hf
    obtain ⟨v34, e10, hf⟩ := hf
    have r10 := oc_gI e10
    rw [o8] at r10
    rw [oi_ne (Or.inl (by omega))] at r10
    rw [o5] at r10
    rw [oi_ne (Or.inl (by omega))] at r10
    subst r10
    clear e10
    replace hf := jbind hf
    obtain ⟨v38, e11, hf⟩ := hf
    have r11 := oc_gI e11
    rw [o8] at r11
    rw [oi_ne (Or.inl (by omega))] at r11
    rw [o5] at r11
    rw [oi_ne (Or.inl (by omega))] at r11
    subst r11
    clear e11
    replace hf := jbind hf
    obtain ⟨h41, e12, hf⟩ := hf
    obtain ⟨o12, z12, y12⟩ := oc_as e12
    rw [jnar0] at o12
    clear e12
    replace hf := jbind hf
    obtain ⟨v44, e13, hf⟩ := hf
    have r13 := oc_gI e13
    rw [o12] at r13
    rw [oi_ne (Or.inl (by omega))] at r13
    rw [o8] at r13
    rw [oi_ne (Or.inl (by omega))] at r13
    rw [o5] at r13
    rw [oi_ne (Or.inl (by omega))] at r13
    subst r13
    clear e13
    replace hf := jbind hf
    obtain ⟨h49, e14, hf⟩ := hf
    obtain ⟨o14, z14⟩ := oc_pf e14
    clear e14
    cases hf
    -- leaf 1: h49
    have o5 : oc h18 = u2 (oc h) (x + 29) _ (.int x1) := o5
    have o8 : oc h28 = u2 (oc h18) (x + 30) _ (.int x2) := o8
    have o12 : oc h41 = u2 (oc h28) (x + 31) _ (.int _) := o12
    rw [g8, nI_cl (by omega)] at o5 o8 o12
    rw [g6] at o12
    rw [g8, nI_1] at o14
    have F : ∀ a k : Nat, ¬ (a = x + 28 ∧ k = 8) → ¬ (x + 29 ≤ a ∧ a ≤ x + 31) → oc q a k = oc h a k := fun a k u1 u2 => by rw [o14, u2_ne (by omega), o12, u2_ne (by omega), o8, u2_ne (by omega), o5, u2_ne (by omega)]
    refine ⟨⟨⟨lawS_J LS (fun a k _ u2 u3 => F a k (by omega) (by omega)), by rw [o14, oi_eq], ?_⟩, fun i => ?_, fun i => ?_, fun i => ?_, fun i => ?_⟩, F, z14.trans (z12.trans (z8.trans z5))⟩
    · rw [o14, oi_ne (Or.inr (by decide)), o12, oi_ne (Or.inl (by omega)), o8, oi_ne (Or.inl (by omega)), o5, oi_ne (Or.inl (by omega))]; exact g6
    · rw [o14, oi_ne (Or.inl (by omega)), o12, oi_ne (Or.inl (by omega)), o8, oi_ne (Or.inl (by omega)), o5]
      by_cases y : i = nl
      · rw [y, oi_eq, if_pos rfl]
      · rw [oi_ne (Or.inr y), if_neg y]
    · rw [o14, oi_ne (Or.inl (by omega)), o12, oi_ne (Or.inl (by omega)), o8]
      by_cases y : i = nl
      · rw [y, oi_eq, if_pos rfl]
      · rw [oi_ne (Or.inr y), if_neg y, o5, oi_ne (Or.inl (by omega))]
    · rw [o14, oi_ne (Or.inl (by omega)), o12]
      by_cases y : i = nl
      · rw [y, oi_eq, if_pos rfl]; rfl
      · rw [oi_ne (Or.inr y), if_neg y, o8, oi_ne (Or.inl (by omega)), o5, oi_ne (Or.inl (by omega))]
    · rw [if_neg (by simp), o14, oi_ne (Or.inl (by omega)), o12, oi_ne (Or.inl (by omega)), o8, oi_ne (Or.inl (by omega)), o5, oi_ne (Or.inl (by omega))]
def rdIf (T : Nat → Int32 × Int32) (k : Nat) : jRd := if (T k).1 = 14 then rdG T 2000 0 0 (k + 1) else .inl (k, [])
theorem E_X3_readLine_76 {b : Nat → Int32} {L : Nat} {m : Nat} {T : Nat → Int32 × Int32} {st : Nat → Nat} {en : Nat → Nat} {x : Nat} {nl : Nat} {k : Nat} {s : Nat} {n : Nat} {a0 : Nat} {x2 : Int32} {sa0 : Nat} {s1 : Int32} {h : jH} {q : Int32 × jH} (H : tkE b L m T st en) (ha : a0 = x + 35) (RS : rlS (oc h) x) (K : ck (oc h) (x + 1) b L m T st k) (D : dr0 (oc h) x nl s) (hn : nl < 12) (sk : s ≤ k) (hs0 : x + 28 = sa0) (hf : F_X3_readLine_76 n a0 x2 sa0 s1 h = some q) : (∀ d, rdIf T k = .inl d → q.1 = 1 ∧ ck (oc q.2) (x + 1) b L m T st d.1 ∧ s + d.2.length ≤ d.1 ∧ dr1 (oc h) (oc q.2) x nl s s1 x2 d.2) ∧ (∀ f, rdIf T k = .inr f → q.1 = 0 ∧ ck (oc q.2) (x + 1) b L m T st f) ∧ frJ x (oc h) (oc q.2) ∧ q.2.1 = h.1 := by
  unfold F_X3_readLine_76 at hf
  subst ha hs0
  replace hf := jbind hf
  obtain ⟨h77, e1, hf⟩ := hf
  replace e1 := (jcv_o e1).2
  obtain ⟨D1, f1, z1⟩ := E_X2_addLine rfl D hn e1
  have K1 : ck (oc h77) (x + 1) b L m T st k := ck_fr K (fun a j h1 h2 => f1 a j (by omega) (by omega))
  have F1 : frJ x (oc h) (oc h77) := fun a j _ u2 u3 => f1 a j (by omega) (by omega)
  have SS1 : rlS (oc h77) x := rlS_J RS F1
  replace hf := jbind hf
  obtain ⟨p81, e2, hf⟩ := hf
  have r2 := oc_gR e2
  rw [SS1.1] at r2
  cases r2
  clear e2
  replace hf := jbind hf
  obtain ⟨q86, e3, hf⟩ := hf
  replace e3 := (jcv_o e3).2
  obtain ⟨r3, f3, z3⟩ := E_X10_take K1 (by decide) e3
  replace hf := jite hf
  rcases hf with ⟨c4, hf⟩ | ⟨c4, hf⟩
  · skip
    cases hf
    -- leaf 0: ((1 : Int32), q86.2)
    rcases r3 with ⟨-, w, -⟩ | ⟨t3, w3⟩
    · exact absurd (c4.symm.trans w) (by decide)
    have E : rdIf T k = .inl (k, []) := if_neg t3
    rw [w3]
    refine ⟨fun d y => ?_, fun f y => (by rw [E] at y; cases y), F1, z1⟩
    rw [E] at y
    cases y
    exact ⟨rfl, K1, sk, D1⟩
  · skip
    replace hf := jbind hf
    obtain ⟨q94, e5, hf⟩ := hf
    replace e5 := (jcv_o e5).2
    rcases r3 with ⟨t3, -, K3⟩ | ⟨-, w⟩
    rotate_left
    · exact absurd (by rw [w]) c4
    have R1 : cc (oc h77) x b L m T st k (nl + 1) s := ⟨K1, SS1, ⟨D1.1.1, D1.1.2.2, D1.1.2.1, by omega, by omega⟩, sk⟩
    have R3 := cc_5 R1 K3 f3 (Nat.le_succ _)
    have A := lwC_p5 f3 z3 ((R_RC H 20).1 (k + 1) (nl + 1) s 0 q86.2 q94 R3 (by omega) e5)
    have E : rdIf T k = rdG T 2000 0 0 (k + 1) := if_pos t3
    replace hf := jite hf
    rcases hf with ⟨c6, hf⟩ | ⟨c6, hf⟩
    · skip
      cases hf
      -- leaf 10: ((0 : Int32), q94.2)
      refine ⟨fun d y => ?_, fun f y => ?_, frJ_tr F1 (frJ_C A.2.2.1), A.2.2.2.trans z1⟩
      · rw [E] at y; exact absurd (c6.symm.trans (A.1 d y).1) (by decide)
      · rw [E] at y; exact ⟨rfl, (A.2.1 f y).2.1⟩
    · skip
      cases hf
      -- leaf 11: ((1 : Int32), q94.2)
      refine ⟨fun d y => ?_, fun f y => ?_, frJ_tr F1 (frJ_C A.2.2.1), A.2.2.2.trans z1⟩
      · rw [E] at y
        obtain ⟨-, R9, w1, w2, w3⟩ := A.1 d y
        obtain ⟨-, d1, d2, d3, d4⟩ := D1
        refine ⟨rfl, R9.1, R9.2.2.2, ⟨R9.2.2.1.1, R9.2.2.1.2.2.1, R9.2.2.1.2.1⟩, fun i => ?_, fun i => ?_, fun i => ?_, fun i => ?_⟩
        · rw [← d1 i]; unfold oi; rw [w3 _ _ (by omega) (by omega) (by omega) (by omega)]
        · rw [← d2 i]; unfold oi; rw [w3 _ _ (by omega) (by omega) (by omega) (by omega)]
        · rw [w2 i, d3 i, List.length_map]
          by_cases z : i = nl
          · by_cases z2 : d.2 = []
            · rw [if_neg (by simp [z2]), if_pos z, if_pos z, z2]
            · rw [if_pos ⟨by omega, by simp [z2]⟩, if_pos z]
          · rw [if_neg (fun y => z (by omega)), if_neg z, if_neg z]
        · rw [w1 i, List.length_map]
          split
          · rfl
          · rw [d4 i, if_neg (by simp)]
      · rw [E] at y; exact absurd (A.2.1 f y).1 c6
theorem E_X3_readLine_27 {b : Nat → Int32} {L : Nat} {m : Nat} {T : Nat → Int32 × Int32} {st : Nat → Nat} {en : Nat → Nat} {x : Nat} {nl : Nat} {k : Nat} {s : Nat} {n : Nat} {a0 : Nat} {x1 : Int32} {h : jH} {q : Int32 × jH} (H : tkE b L m T st en) (ha : a0 = x + 35) (RS : rlS (oc h) x) (K : ck (oc h) (x + 1) b L m T st k) (D : dr0 (oc h) x nl s) (hn : nl < 12) (sk : s ≤ k) (hk : x1 = (T k).1) (hw : (T k).1 = 3 ∨ (T k).1 = 15 ∨ (T k).1 = 16) (hf : F_X3_readLine_27 n a0 x1 h = some q) : (∀ d, rdLT T (k + 1) = .inl d → q.1 = 1 ∧ ck (oc q.2) (x + 1) b L m T st d.1 ∧ s + d.2.length ≤ d.1 ∧ dr1 (oc h) (oc q.2) x nl s (kdL (T k).1) (T (k + 1)).2 d.2) ∧ (∀ f, rdLT T (k + 1) = .inr f → q.1 = 0 ∧ ck (oc q.2) (x + 1) b L m T st f) ∧ frJ x (oc h) (oc q.2) ∧ q.2.1 = h.1 := by
  unfold F_X3_readLine_27 at hf
  subst ha
  have hne : (T k).1 ≠ -1 := by rcases hw with z | z | z <;> rw [z] <;> decide
  replace hf := jbind hf
  obtain ⟨p28, e1, hf⟩ := hf
  have r1 := oc_gR e1
  rw [RS.1] at r1
  cases r1
  clear e1
  replace hf := jbind hf
  obtain ⟨h31, e2, hf⟩ := hf
  replace e2 := (jcv_o e2).2
  obtain ⟨K2, f2, z2⟩ := E_X10_skip K hne e2
  have SS2 : rlS (oc h31) x := rlS_J RS (frJ_5 f2)
  replace hf := jbind hf
  obtain ⟨p35, e3, hf⟩ := hf
  have r3 := oc_gR e3
  rw [SS2.1] at r3
  cases r3
  clear e3
  replace hf := jbind hf
  obtain ⟨q41, e4, hf⟩ := hf
  replace e4 := (jcv_o e4).2
  obtain ⟨r4, f4, z4⟩ := E_X10_takeNumber K2 e4
  have SS4 : rlS (oc q41.2) x := rlS_J SS2 (frJ_5 f4)
  have f24 : ∀ a j : Nat, ¬ (a = x + 1 ∧ j = 5) → oc q41.2 a j = oc h a j := fun a j u => (f4 a j u).trans (f2 a j u)
  have D4 : dr0 (oc q41.2) x nl s := ⟨lawS_J D.1 (frJ_5 f24), by rw [← D.2.1]; unfold oi; rw [f24 _ _ (by omega)], by rw [← D.2.2]; unfold oi; rw [f24 _ _ (by omega)]⟩
  replace hf := jite hf
  rcases hf with ⟨c5, hf⟩ | ⟨c5, hf⟩
  · skip
    cases hf
    -- leaf 0: ((0 : Int32), q41.2)
    rcases r4 with ⟨y4, w, -⟩ | ⟨y4, w⟩
    · exfalso
      have := y4.2.1
      rw [← w, c5] at this
      exact absurd this (by decide)
    have E : rdLT T (k + 1) = .inr (k + 1) := if_neg y4
    rw [w]
    refine ⟨fun d y => (by rw [E] at y; cases y), fun f y => ?_, frJ_5 f2, z2⟩
    rw [E] at y
    cases y
    exact ⟨rfl, K2⟩
  · skip
    replace hf := jbind hf
    obtain ⟨p53, e6, hf⟩ := hf
    have r6 := oc_gR e6
    rw [SS4.2.2] at r6
    cases r6
    clear e6
    replace hf := jite hf
    rcases hf with ⟨c7, hf⟩ | ⟨c7, hf⟩
    · skip
      -- leaf 10: F_X3_readLine_76 n a0 q41.1 p53 (0 : Int32) q41.2
      rcases r4 with ⟨y4, v4, K4⟩ | ⟨-, w⟩
      rotate_left
      · exact absurd (by rw [w]) c5
      obtain ⟨a1, a2, a3, a4⟩ := E_X3_readLine_76 H rfl SS4 K4 D4 hn (by omega) rfl hf
      have E : rdLT T (k + 1) = rdIf T (k + 2) := if_pos y4
      refine ⟨fun d y => ?_, fun f y => ?_, frJ_tr (frJ_5 f24) a3, a4.trans (z4.trans z2)⟩
      · rw [E] at y
        obtain ⟨b1, b2, b3, b4⟩ := a1 d y
        rw [v4] at b4
        rw [show kdL (T k).1 = 0 by rw [← hk, c7]; rfl]
        exact ⟨b1, b2, b3, dr1_5 f24 b4⟩
      · rw [E] at y; exact a2 f y
    · skip
      replace hf := jite hf
      rcases hf with ⟨c8, hf⟩ | ⟨c8, hf⟩
      · skip
        -- leaf 110: F_X3_readLine_76 n a0 q41.1 p53 (1 : Int32) q41.2
        rcases r4 with ⟨y4, v4, K4⟩ | ⟨-, w⟩
        rotate_left
        · exact absurd (by rw [w]) c5
        obtain ⟨a1, a2, a3, a4⟩ := E_X3_readLine_76 H rfl SS4 K4 D4 hn (by omega) rfl hf
        have E : rdLT T (k + 1) = rdIf T (k + 2) := if_pos y4
        refine ⟨fun d y => ?_, fun f y => ?_, frJ_tr (frJ_5 f24) a3, a4.trans (z4.trans z2)⟩
        · rw [E] at y
          obtain ⟨b1, b2, b3, b4⟩ := a1 d y
          rw [v4] at b4
          rw [show kdL (T k).1 = 1 by rw [← hk, c8]; rfl]
          exact ⟨b1, b2, b3, dr1_5 f24 b4⟩
        · rw [E] at y; exact a2 f y
      · skip
        -- leaf 111: F_X3_readLine_76 n a0 q41.1 p53 (2 : Int32) q41.2
        rcases r4 with ⟨y4, v4, K4⟩ | ⟨-, w⟩
        rotate_left
        · exact absurd (by rw [w]) c5
        obtain ⟨a1, a2, a3, a4⟩ := E_X3_readLine_76 H rfl SS4 K4 D4 hn (by omega) rfl hf
        have E : rdLT T (k + 1) = rdIf T (k + 2) := if_pos y4
        refine ⟨fun d y => ?_, fun f y => ?_, frJ_tr (frJ_5 f24) a3, a4.trans (z4.trans z2)⟩
        · rw [E] at y
          obtain ⟨b1, b2, b3, b4⟩ := a1 d y
          rw [v4] at b4
          rw [show kdL (T k).1 = 2 by rw [← hk]; unfold kdL; rw [if_neg c7, if_neg c8]]
          exact ⟨b1, b2, b3, dr1_5 f24 b4⟩
        · rw [E] at y; exact a2 f y
theorem E_X3_readLine {b : Nat → Int32} {L : Nat} {m : Nat} {T : Nat → Int32 × Int32} {st : Nat → Nat} {en : Nat → Nat} {x : Nat} {nl : Nat} {k : Nat} {s : Nat} {n : Nat} {a0 : Nat} {h : jH} {q : Int32 × jH} (H : tkE b L m T st en) (ha : a0 = x + 35) (RS : rlS (oc h) x) (K : ck (oc h) (x + 1) b L m T st k) (D : dr0 (oc h) x nl s) (hn : nl < 12) (sk : s ≤ k) (hf : F_X3_readLine n a0 h = some q) : (((T k).1 = 3 ∨ (T k).1 = 15 ∨ (T k).1 = 16) → (∀ d, rdLT T (k + 1) = .inl d → q.1 = 1 ∧ ck (oc q.2) (x + 1) b L m T st d.1 ∧ s + d.2.length ≤ d.1 ∧ dr1 (oc h) (oc q.2) x nl s (kdL (T k).1) (T (k + 1)).2 d.2) ∧ (∀ f, rdLT T (k + 1) = .inr f → q.1 = 0 ∧ ck (oc q.2) (x + 1) b L m T st f)) ∧ (¬ ((T k).1 = 3 ∨ (T k).1 = 15 ∨ (T k).1 = 16) → q.1 = 0 ∧ ck (oc q.2) (x + 1) b L m T st k) ∧ frJ x (oc h) (oc q.2) ∧ q.2.1 = h.1 := by
  unfold F_X3_readLine at hf
  subst ha
  replace hf := jbind hf
  obtain ⟨p1, e1, hf⟩ := hf
  have r1 := oc_gR e1
  rw [RS.1] at r1
  cases r1
  clear e1
  replace hf := jbind hf
  obtain ⟨v4, e2, hf⟩ := hf
  replace e2 := (jcv_o e2).2
  have r2 := E_X10_kind K e2
  replace hf := jite hf
  rcases hf with ⟨c3, hf⟩ | ⟨c3, hf⟩
  · skip
    -- leaf 0: F_X3_readLine_27 n a0 v4 h
    have hw : (T k).1 = 3 ∨ (T k).1 = 15 ∨ (T k).1 = 16 := Or.inl (r2.symm.trans c3)
    obtain ⟨a1, a2, a3, a4⟩ := E_X3_readLine_27 H rfl RS K D hn sk r2 hw hf
    exact ⟨fun _ => ⟨a1, a2⟩, fun z => absurd hw z, a3, a4⟩
  · skip
    replace hf := jite hf
    rcases hf with ⟨c4, hf⟩ | ⟨c4, hf⟩
    · skip
      -- leaf 10: F_X3_readLine_27 n a0 v4 h
      have hw : (T k).1 = 3 ∨ (T k).1 = 15 ∨ (T k).1 = 16 := Or.inr (Or.inl (r2.symm.trans c4))
      obtain ⟨a1, a2, a3, a4⟩ := E_X3_readLine_27 H rfl RS K D hn sk r2 hw hf
      exact ⟨fun _ => ⟨a1, a2⟩, fun z => absurd hw z, a3, a4⟩
    · skip
      replace hf := jite hf
      rcases hf with ⟨c5, hf⟩ | ⟨c5, hf⟩
      · skip
        -- leaf 110: F_X3_readLine_27 n a0 v4 h
        have hw : (T k).1 = 3 ∨ (T k).1 = 15 ∨ (T k).1 = 16 := Or.inr (Or.inr (r2.symm.trans c5))
        obtain ⟨a1, a2, a3, a4⟩ := E_X3_readLine_27 H rfl RS K D hn sk r2 hw hf
        exact ⟨fun _ => ⟨a1, a2⟩, fun z => absurd hw z, a3, a4⟩
      · skip
        cases hf
        -- leaf 111: ((0 : Int32), h)
        have hw : ¬ ((T k).1 = 3 ∨ (T k).1 = 15 ∨ (T k).1 = 16) := fun z => by rcases z with z | z | z; exact c3 (r2.trans z); exact c4 (r2.trans z); exact c5 (r2.trans z)
        exact ⟨fun z => absurd z hw, fun _ => ⟨rfl, K⟩, frJ_0, rfl⟩
end
section
/-! the steps of a condition are of their kinds -/
def tyL : List (Int32 × Int32) → List Bool → Option (List Bool)
  | [], ty => some ty
  | e :: t, ty => (tyC e.1 ty).bind (fun u => tyL t u)
theorem tyL_2 : ∀ {l t : List (Int32 × Int32)} {ty u v : List Bool}, tyL l ty = some u → tyL t u = some v → tyL (l ++ t) ty = some v
  | [], t, ty, u, v, a, c => by
    cases a
    exact c
  | e :: l, t, ty, u, v, a, c => by
    show (tyC e.1 ty).bind (fun u => tyL (l ++ t) u) = _
    replace a : (tyC e.1 ty).bind (fun u => tyL l u) = some u := a
    cases hc : tyC e.1 ty with
    | none => rw [hc] at a; cases a
    | some y =>
      rw [hc] at a
      exact tyL_2 (l := l) a c
theorem tyL_1 {e : Int32 × Int32} {ty u : List Bool} (a : tyC e.1 ty = some u) : tyL [e] ty = some u := by
  show (tyC e.1 ty).bind (fun u => some u) = _
  rw [a]
  rfl
theorem tyC_p {s : Int32} {ty : List Bool} (h : s.toInt ≤ 11) (hl : ty.length ≤ 22) : tyC s ty = some ((decide (7 ≤ s.toInt) && decide (s.toInt ≤ 10)) :: ty) := (if_pos h).trans (if_pos hl)
def stepOK (e : Int32 × Int32) : Prop := (0 ≤ e.1.toInt ∧ e.1.toInt ≤ 10) ∨ (e.1 = 11 ∧ 0 ≤ e.2.toInt ∧ e.2.toInt ≤ 999) ∨ e.1 = 12 ∨ e.1 = 13 ∨ e.1 = 14 ∨ e.1 = 15 ∨ e.1 = 16 ∨ e.1 = 17
theorem cod_R {e : Int32 × Int32} (h : stepOK e) : codeR (cod e) e.1 e.2 := by
  obtain ⟨s, n⟩ := e
  unfold stepOK at h
  dsimp only at h ⊢
  rcases h with h | ⟨h, h2, h3⟩ | h | h | h | h | h | h
  · exact Or.inl ⟨h.1, h.2, if_pos h.2⟩
  · subst h
    refine Or.inr (Or.inl ⟨rfl, h2, h3, ?_⟩)
    rw [cod_n]
    have l : (256 : Int32).toInt = 256 := rfl
    rw [jadd (by omega) (by omega), l]
  · subst h; exact Or.inr (Or.inr (Or.inl ⟨rfl, rfl⟩))
  · subst h; exact Or.inr (Or.inr (Or.inr (Or.inl ⟨rfl, rfl⟩)))
  · subst h; exact Or.inr (Or.inr (Or.inr (Or.inr (Or.inl ⟨rfl, rfl⟩))))
  · subst h; exact Or.inr (Or.inr (Or.inr (Or.inr (Or.inr (Or.inl ⟨rfl, rfl⟩)))))
  · subst h; exact Or.inr (Or.inr (Or.inr (Or.inr (Or.inr (Or.inr (Or.inl ⟨rfl, rfl⟩))))))
  · subst h; exact Or.inr (Or.inr (Or.inr (Or.inr (Or.inr (Or.inr (Or.inr ⟨rfl, rfl⟩))))))
def okL (l : List (Int32 × Int32)) : Prop := ∀ e ∈ l, stepOK e
theorem okL_2 {l t : List (Int32 × Int32)} (a : okL l) (c : okL t) : okL (l ++ t) := fun e h => by
  rcases List.mem_append.mp h with y | y
  · exact a e y
  · exact c e y
theorem okL_1 {e : Int32 × Int32} (h : stepOK e) : okL [e] := fun f y => by
  have : f = e := by simpa using y
  subst this; exact h
theorem okL_0 : okL [] := fun f y => by cases y
section
variable {T : Nat → Int32 × Int32}
theorem part_t {k : Nat} {d : Nat × List (Int32 × Int32)} (e : rdPart T k = .inl d) : okL d.2 ∧ ∀ ty : List Bool, ty.length ≤ 22 → tyL d.2 ty = some (false :: ty) := by
  unfold rdPart at e
  split at e
  · rename_i z
    cases e
    refine ⟨okL_1 (Or.inl ⟨z.1, by dsimp only; omega⟩), fun ty h => tyL_1 ?_⟩
    dsimp only
    rw [tyC_p (by omega) h, show decide (7 ≤ (T k).1.toInt) = false from decide_eq_false (by omega)]
    rfl
  · split at e
    · rename_i z
      cases e
      obtain ⟨-, a, c⟩ := z
      rw [Int32.le_iff_toInt_le] at a c
      exact ⟨okL_1 (Or.inr (Or.inl ⟨rfl, a, c⟩)), fun ty h => tyL_1 (tyC_p (show (11 : Int32).toInt ≤ 11 by decide) h)⟩
    · cases e
theorem sl_t : ∀ (F : Nat) {k : Nat} {d : Nat × List (Int32 × Int32)}, rdSL T F k = .inl d → okL d.2 ∧ ∀ ty : List Bool, ty.length ≤ 21 → tyL d.2 (false :: ty) = some (false :: ty)
  | 0, k, d, e => by cases e
  | F + 1, k, d, e => by
    unfold rdSL at e
    split at e
    · obtain ⟨d1, e1, a1, a2, a3⟩ := sq_inv e
      obtain ⟨d2, e2, b1, b2, b3⟩ := sq_inv a2
      cases b1
      obtain ⟨c1, c2⟩ := part_t a1
      obtain ⟨g1, g2⟩ := sl_t F b2
      subst a3 b3
      exact ⟨okL_2 c1 (okL_2 (okL_1 (Or.inr (Or.inr (Or.inl rfl)))) g1), fun ty h => tyL_2 (c2 (false :: ty) (by simp; omega)) (tyL_2 (tyL_1 rfl) (g2 ty h))⟩
    · cases e
      exact ⟨okL_0, fun ty h => rfl⟩
theorem sum_t {F k : Nat} {d : Nat × List (Int32 × Int32)} (e : rdSum T F k = .inl d) : okL d.2 ∧ ∀ ty : List Bool, ty.length ≤ 21 → tyL d.2 ty = some (false :: ty) := by
  obtain ⟨d1, e1, a1, a2, a3⟩ := sq_inv e
  obtain ⟨c1, c2⟩ := part_t a1
  obtain ⟨g1, g2⟩ := sl_t F a2
  subst a3
  exact ⟨okL_2 c1 g1, fun ty h => tyL_2 (c2 ty (by omega)) (g2 ty h)⟩
theorem g_t : ∀ (F : Nat) {w dp k : Nat} {d : Nat × List (Int32 × Int32)}, w ≤ 4 → dp ≤ 6 → rdG T F w dp k = .inl d → okL d.2 ∧ ∀ ty : List Bool, (w = 0 → ty.length ≤ 2 * dp → tyL d.2 ty = some (true :: ty)) ∧ (w = 1 → ty.length ≤ 2 * dp + 2 → tyL d.2 ty = some (true :: ty)) ∧ (w = 2 → ty.length ≤ 2 * dp + 1 → tyL d.2 ty = some (true :: ty)) ∧ (w = 3 → ty.length ≤ 2 * dp + 1 → tyL d.2 (true :: ty) = some (true :: ty)) ∧ (w = 4 → ty.length ≤ 2 * dp → tyL d.2 (true :: ty) = some (true :: ty))
  | 0, w, dp, k, d, hw, hd, e => by cases e
  | F + 1, w, dp, k, d, hw, hd, e => by
    rcases (by omega : w = 0 ∨ w = 1 ∨ w = 2 ∨ w = 3 ∨ w = 4) with y | y | y | y | y <;> subst y
    · rw [rdG_0] at e
      obtain ⟨d1, e1, a1, a2, a3⟩ := sq_inv e
      obtain ⟨c1, c2⟩ := g_t F (by decide) hd a1
      obtain ⟨g1, g2⟩ := g_t F (by decide) hd a2
      subst a3
      exact ⟨okL_2 c1 g1, fun ty => ⟨fun _ h => tyL_2 ((c2 ty).2.2.1 rfl (by omega)) ((g2 ty).2.2.2.2 rfl h), fun z => absurd z (by decide), fun z => absurd z (by decide), fun z => absurd z (by decide), fun z => absurd z (by decide)⟩⟩
    · have fin : ∀ {l : List (Int32 × Int32)}, okL l → (∀ ty : List Bool, ty.length ≤ 2 * dp + 2 → tyL l ty = some (true :: ty)) → okL l ∧ ∀ ty : List Bool, (1 = 0 → ty.length ≤ 2 * dp → tyL l ty = some (true :: ty)) ∧ (1 = 1 → ty.length ≤ 2 * dp + 2 → tyL l ty = some (true :: ty)) ∧ (1 = 2 → ty.length ≤ 2 * dp + 1 → tyL l ty = some (true :: ty)) ∧ (1 = 3 → ty.length ≤ 2 * dp + 1 → tyL l (true :: ty) = some (true :: ty)) ∧ (1 = 4 → ty.length ≤ 2 * dp → tyL l (true :: ty) = some (true :: ty)) := fun a c => ⟨a, fun ty => ⟨fun z => absurd z (by decide), fun _ h => c ty h, fun z => absurd z (by decide), fun z => absurd z (by decide), fun z => absurd z (by decide)⟩⟩
      rw [rdG_1] at e
      split at e
      · split at e
        · cases e
        · rename_i d6
          obtain ⟨d1, e1, a1, a2, a3⟩ := sq_inv e
          obtain ⟨c1, c2⟩ := g_t F (by decide) (by omega) a1
          split at a2
          · cases a2
            subst a3
            exact fin (by rw [List.append_nil]; exact c1) (fun ty h => by rw [List.append_nil]; exact (c2 ty).1 rfl (by omega))
          · cases a2
      · split at e
        · split at e
          · cases e
          · rename_i d6
            obtain ⟨d1, e1, a1, a2, a3⟩ := sq_inv e
            obtain ⟨c1, c2⟩ := g_t F (by decide) (by omega) a1
            cases a2
            subst a3
            exact fin (okL_2 c1 (okL_1 (Or.inr (Or.inr (Or.inr (Or.inr (Or.inr (Or.inl rfl)))))))) (fun ty h => tyL_2 ((c2 ty).2.1 rfl (by omega)) (tyL_1 rfl))
        · split at e
          · rename_i z
            cases e
            refine fin (okL_1 (Or.inl ⟨by dsimp only; omega, z.2⟩)) (fun ty h => tyL_1 ?_)
            dsimp only
            rw [tyC_p (by omega) (by omega), show decide (7 ≤ (T k).1.toInt) = true from decide_eq_true z.1, show decide ((T k).1.toInt ≤ 10) = true from decide_eq_true z.2]
            rfl
          · obtain ⟨d1, e1, a1, a2, a3⟩ := sq_inv e
            obtain ⟨c1, c2⟩ := sum_t a1
            split at a2
            · obtain ⟨d2, e2, b1, b2, b3⟩ := sq_inv a2
              obtain ⟨g1, g2⟩ := sum_t b1
              cases b2
              subst a3 b3
              exact fin (okL_2 c1 (okL_2 g1 (okL_1 (Or.inr (Or.inr (Or.inr (Or.inl rfl))))))) (fun ty h => tyL_2 (c2 ty (by omega)) (tyL_2 (g2 (false :: ty) (by simp; omega)) (tyL_1 rfl)))
            · split at a2
              · obtain ⟨d2, e2, b1, b2, b3⟩ := sq_inv a2
                obtain ⟨g1, g2⟩ := sum_t b1
                cases b2
                subst a3 b3
                exact fin (okL_2 c1 (okL_2 g1 (okL_1 (Or.inr (Or.inr (Or.inr (Or.inr (Or.inl rfl)))))))) (fun ty h => tyL_2 (c2 ty (by omega)) (tyL_2 (g2 (false :: ty) (by simp; omega)) (tyL_1 rfl)))
              · cases a2
    · rw [rdG_2] at e
      obtain ⟨d1, e1, a1, a2, a3⟩ := sq_inv e
      obtain ⟨c1, c2⟩ := g_t F (by decide) hd a1
      obtain ⟨g1, g2⟩ := g_t F (by decide) hd a2
      subst a3
      exact ⟨okL_2 c1 g1, fun ty => ⟨fun z => absurd z (by decide), fun z => absurd z (by decide), fun _ h => tyL_2 ((c2 ty).2.1 rfl (by omega)) ((g2 ty).2.2.2.1 rfl h), fun z => absurd z (by decide), fun z => absurd z (by decide)⟩⟩
    · rw [rdG_3] at e
      split at e
      · obtain ⟨d1, e1, a1, a2, a3⟩ := sq_inv e
        obtain ⟨d2, e2, b1, b2, b3⟩ := sq_inv a2
        cases b1
        obtain ⟨c1, c2⟩ := g_t F (by decide) hd a1
        obtain ⟨g1, g2⟩ := g_t F (by decide) hd b2
        subst a3 b3
        exact ⟨okL_2 c1 (okL_2 (okL_1 (Or.inr (Or.inr (Or.inr (Or.inr (Or.inr (Or.inr (Or.inl rfl)))))))) g1), fun ty => ⟨fun z => absurd z (by decide), fun z => absurd z (by decide), fun z => absurd z (by decide), fun _ h => tyL_2 ((c2 (true :: ty)).2.1 rfl (by simp; omega)) (tyL_2 (tyL_1 rfl) ((g2 ty).2.2.2.1 rfl h)), fun z => absurd z (by decide)⟩⟩
      · cases e
        exact ⟨okL_0, fun ty => ⟨fun z => absurd z (by decide), fun z => absurd z (by decide), fun z => absurd z (by decide), fun _ h => rfl, fun z => absurd z (by decide)⟩⟩
    · rw [rdG_4] at e
      split at e
      · obtain ⟨d1, e1, a1, a2, a3⟩ := sq_inv e
        obtain ⟨d2, e2, b1, b2, b3⟩ := sq_inv a2
        cases b1
        obtain ⟨c1, c2⟩ := g_t F (by decide) hd a1
        obtain ⟨g1, g2⟩ := g_t F (by decide) hd b2
        subst a3 b3
        exact ⟨okL_2 c1 (okL_2 (okL_1 (Or.inr (Or.inr (Or.inr (Or.inr (Or.inr (Or.inr (Or.inr rfl)))))))) g1), fun ty => ⟨fun z => absurd z (by decide), fun z => absurd z (by decide), fun z => absurd z (by decide), fun z => absurd z (by decide), fun _ h => tyL_2 ((c2 (true :: ty)).2.2.1 rfl (by simp; omega)) (tyL_2 (tyL_1 rfl) ((g2 ty).2.2.2.2 rfl h))⟩⟩
      · cases e
        exact ⟨okL_0, fun ty => ⟨fun z => absurd z (by decide), fun z => absurd z (by decide), fun z => absurd z (by decide), fun z => absurd z (by decide), fun _ h => rfl⟩⟩
/-- the steps of a line -/
theorem lt_t {k : Nat} {d : Nat × List (Int32 × Int32)} (e : rdLT T k = .inl d) : okL d.2 ∧ (tyL d.2 [] = some [] ∨ tyL d.2 [] = some [true]) ∧ nOK T k 0 100 := by
  unfold rdLT at e
  split at e
  · rename_i z
    split at e
    · obtain ⟨c1, c2⟩ := g_t 2000 (by decide) (by decide) e
      exact ⟨c1, Or.inr ((c2 []).1 rfl (by simp)), z⟩
    · cases e
      exact ⟨okL_0, Or.inl rfl, z⟩
  · cases e
end
end
