/-! comparisons and atoms, the class -/
theorem lwC_p5 {x L m nl s : Nat} {b : Nat → Int32} {T : Nat → Int32 × Int32} {st : Nat → Nat} {h h2 h3 : jH} {v : Int32} {r : jRd} (f : ∀ a j : Nat, ¬ (a = x + 1 ∧ j = 5) → oc h2 a j = oc h a j) (z : h2.1 = h.1) (B : lwC x b L m T st h2 v h3 nl s r) : lwC x b L m T st h v h3 nl s r := by
  refine ⟨fun d y => ?_, B.2.1, frC_tr (frC_5 f) B.2.2.1, B.2.2.2.trans z⟩
  obtain ⟨b1, b2, b3⟩ := B.1 d y
  have b4 := cwA_tr (cwA_0 (nl := nl) (s := s) f) (by simpa using b3)
  exact ⟨b1, b2, by simpa using b4⟩
def cmpS (T : Nat → Int32 × Int32) (k : Nat) : jRd := sqP (rdSum T 2000 k) (fun j => if (T j).1 = 60 then sqP (rdSum T 2000 (j + 1)) (fun i => .inl (i, [(13, 0)])) else if (T j).1 = 62 then sqP (rdSum T 2000 (j + 1)) (fun i => .inl (i, [(14, 0)])) else .inr j)
def gPc (x : Nat) (b : Nat → Int32) (L m : Nat) (T : Nat → Int32 × Int32) (st : Nat → Nat) (w : Nat) (g : Nat → Int32 → jH → Option (Int32 × jH)) : Prop :=
  ∀ (k nl s dp : Nat) (h : jH) (q : Int32 × jH), cc (oc h) x b L m T st k nl s → dp ≤ 6 → g (x + 35) (nI dp) h = some q → lwC x b L m T st h q.1 q.2 nl s (rdG T 2000 w dp k)
theorem E_X3_readComparison_43 {b : Nat → Int32} {L : Nat} {m : Nat} {T : Nat → Int32 × Int32} {st : Nat → Nat} {en : Nat → Nat} {x : Nat} {nl : Nat} {k : Nat} {s : Nat} {c : Int32} {n : Nat} {a0 : Nat} {x1 : Int32} {h : jH} {q : Int32 × jH} (H : tkE b L m T st en) (ha : a0 = x + 35) (R : cc (oc h) x b L m T st k nl s) (hs : s + 1 ≤ k) (hc : cod (c, 0) = x1) (hf : F_X3_readComparison_43 n a0 x1 h = some q) : lwC x b L m T st h q.1 q.2 nl s (sqP (rdSum T 2000 k) (fun i => .inl (i, [(c, 0)]))) := by
  unfold F_X3_readComparison_43 at hf
  subst ha
  replace hf := jbind hf
  obtain ⟨q44, e1, hf⟩ := hf
  replace e1 := (jcv_o e1).2
  have kk := cc_k R
  have A := E_X3_readSum (F := 2000) H rfl R (by omega) e1
  have SS1 : rlS (oc q44.2) x := rlS_C R.2.1 A.2.2.1
  replace hf := jbind hf
  obtain ⟨p49, e2, hf⟩ := hf
  have r2 := oc_gR e2
  rw [SS1.2.2] at r2
  cases r2
  clear e2
  replace hf := jbind hf
  obtain ⟨h53, e3, hf⟩ := hf
  replace e3 := (jcv_o e3).2
  replace hf := jite hf
  rcases hf with ⟨c4, hf⟩ | ⟨c4, hf⟩
  · skip
    cases hf
    -- leaf 0: (q44.1, h53)
    rcases hA : rdSum T 2000 k with d | f
    · obtain ⟨v, R4, w4⟩ := A.1 d hA
      obtain ⟨p1, p2, p3, p4⟩ := sum_i H hA
      obtain ⟨R5, w5, f5, z5⟩ := cc_em R4 (by omega) e3
      rw [← hA]
      exact lwC_sq hA w4 A.2.2.1 A.2.2.2 (lwC_l rfl v R5 (by rw [List.map_cons, hc]; exact w5) f5 z5)
    · obtain ⟨v, k4, s4, c5⟩ := A.2.1 f hA
      obtain ⟨k5, f5, z5, c6⟩ := ck_em k4 c5 e3
      exact lwC_r (sq_r rfl) v k5 c6 (frC_tr A.2.2.1 f5) (z5.trans A.2.2.2)
  · skip
    cases hf
theorem E_X3_readComparison {b : Nat → Int32} {L : Nat} {m : Nat} {T : Nat → Int32 × Int32} {st : Nat → Nat} {en : Nat → Nat} {x : Nat} {nl : Nat} {k : Nat} {s : Nat} {n : Nat} {a0 : Nat} {h : jH} {q : Int32 × jH} (H : tkE b L m T st en) (ha : a0 = x + 35) (R : cc (oc h) x b L m T st k nl s) (hf : F_X3_readComparison n a0 h = some q) : lwC x b L m T st h q.1 q.2 nl s (cmpS T k) := by
  unfold F_X3_readComparison at hf
  subst ha
  replace hf := jbind hf
  obtain ⟨q1, e1, hf⟩ := hf
  replace e1 := (jcv_o e1).2
  have kk := cc_k R
  have A := E_X3_readSum (F := 2000) H rfl R (by omega) e1
  have SS1 : rlS (oc q1.2) x := rlS_C R.2.1 A.2.2.1
  replace hf := jite hf
  rcases hf with ⟨c2, hf⟩ | ⟨c2, hf⟩
  · skip
    cases hf
    -- leaf 0: ((0 : Int32), q1.2)
    rcases hA : rdSum T 2000 k with d | f
    · exact absurd (c2.symm.trans (A.1 d hA).1) (by decide)
    obtain ⟨-, k4, c5⟩ := A.2.1 f hA
    exact lwC_r (sq_r hA) rfl k4 c5 A.2.2.1 A.2.2.2
  · skip
    replace hf := jbind hf
    obtain ⟨p10, e3, hf⟩ := hf
    have r3 := oc_gR e3
    rw [SS1.1] at r3
    cases r3
    clear e3
    replace hf := jbind hf
    obtain ⟨v13, e4, hf⟩ := hf
    replace e4 := (jcv_o e4).2
    rcases hA : rdSum T 2000 k with d | f
    rotate_left
    · exact absurd (A.2.1 f hA).1 c2
    obtain ⟨-, R4, w4⟩ := A.1 d hA
    obtain ⟨p1, p2, p3, p4⟩ := sum_i H hA
    have r4 := E_X10_kind R4.1 e4
    replace hf := jbind hf
    obtain ⟨p18, e5, hf⟩ := hf
    have r5 := oc_gR e5
    rw [SS1.1] at r5
    cases r5
    clear e5
    replace hf := jbind hf
    obtain ⟨q23, e6, hf⟩ := hf
    replace e6 := (jcv_o e6).2
    obtain ⟨r6, f6, z6⟩ := E_X10_take (x1 := 60) R4.1 (by decide) e6
    have SS6 : rlS (oc q23.2) x := rlS_C R4.2.1 (frC_5 f6)
    replace hf := jite hf
    rcases hf with ⟨c7, hf⟩ | ⟨c7, hf⟩
    · skip
      replace hf := jbind hf
      obtain ⟨p30, e8, hf⟩ := hf
      have r8 := oc_gR e8
      rw [SS6.1] at r8
      cases r8
      clear e8
      replace hf := jbind hf
      obtain ⟨q35, e9, hf⟩ := hf
      replace e9 := (jcv_o e9).2
      rcases r6 with ⟨-, w, -⟩ | ⟨t6, w6⟩
      · exact absurd (c7.symm.trans w) (by decide)
      have R6 : cc (oc q23.2) x b L m T st d.1 nl (s + d.2.length) := by rw [w6]; exact R4
      obtain ⟨r9, f9, z9⟩ := E_X10_take (x1 := 62) R6.1 (by decide) e9
      have SS9 : rlS (oc q35.2) x := rlS_C R6.2.1 (frC_5 f9)
      replace hf := jite hf
      rcases hf with ⟨c10, hf⟩ | ⟨c10, hf⟩
      · skip
        cases hf
        -- leaf 100: ((0 : Int32), q35.2)
        rcases r9 with ⟨-, w, -⟩ | ⟨t9, w9⟩
        · exact absurd (c10.symm.trans w) (by decide)
        refine lwC_sq hA w4 A.2.2.1 A.2.2.2 ?_
        rw [if_neg t6, if_neg t9]
        exact lwC_r rfl rfl (by rw [w9]; exact R6.1) ⟨_, by rw [w9]; exact R6.2.2.1⟩ (frC_tr (frC_5 f6) (frC_5 f9)) (z9.trans z6)
      · skip
        -- leaf 101: F_X3_readComparison_43 n a0 v13 q35.2
        rcases r9 with ⟨t9, v9, K9⟩ | ⟨-, w⟩
        rotate_left
        · exact absurd (by rw [w]) c10
        have R9 := cc_5 R6 K9 f9 (Nat.le_succ _)
        have sk := R.2.2.2
        have B := E_X3_readComparison_43 (c := 14) H rfl R9 (by omega) (by rw [r4, t9]; rfl) hf
        refine lwC_sq hA w4 A.2.2.1 A.2.2.2 ?_
        rw [if_neg t6, if_pos t9]
        exact lwC_p5 f6 z6 (lwC_p5 f9 z9 B)
    · skip
      -- leaf 11: F_X3_readComparison_43 n a0 v13 q23.2
      rcases r6 with ⟨t6, v6, K6⟩ | ⟨-, w⟩
      rotate_left
      · exact absurd (by rw [w]) c7
      have R6 := cc_5 R4 K6 f6 (Nat.le_succ _)
      have sk := R.2.2.2
      have B := E_X3_readComparison_43 (c := 13) H rfl R6 (by omega) (by rw [r4, t6]; rfl) hf
      refine lwC_sq hA w4 A.2.2.1 A.2.2.2 ?_
      rw [if_pos t6]
      exact lwC_p5 f6 z6 B
theorem E_X3_readAtom_128 {b : Nat → Int32} {L : Nat} {m : Nat} {T : Nat → Int32 × Int32} {st : Nat → Nat} {en : Nat → Nat} {x : Nat} {nl : Nat} {k : Nat} {s : Nat} {n : Nat} {g0 : Nat → Int32 → jH → Option (Int32 × jH)} {g1 : Nat → Int32 → jH → Option (Int32 × jH)} {a0 : Nat} {h : jH} {q : Int32 × jH} (H : tkE b L m T st en) (ha : a0 = x + 35) (R : cc (oc h) x b L m T st k nl s) (hf : F_X3_readAtom_128 n g0 g1 a0 h = some q) : lwC x b L m T st h q.1 q.2 nl s (cmpS T k) := by
  unfold F_X3_readAtom_128 at hf
  subst ha
  replace hf := jbind hf
  obtain ⟨q129, e1, hf⟩ := hf
  replace e1 := (jcv_o e1).2
  have A := E_X3_readComparison H rfl R e1
  replace hf := jite hf
  rcases hf with ⟨c2, hf⟩ | ⟨c2, hf⟩
  · skip
    cases hf
    -- leaf 0: (q129.1, q129.2)
    exact A
  · skip
    cases hf
theorem E_X3_readAtom_28 {b : Nat → Int32} {L : Nat} {m : Nat} {T : Nat → Int32 × Int32} {st : Nat → Nat} {en : Nat → Nat} {x : Nat} {nl : Nat} {k : Nat} {s : Nat} {dp : Nat} {n : Nat} {g0 : Nat → Int32 → jH → Option (Int32 × jH)} {g1 : Nat → Int32 → jH → Option (Int32 × jH)} {a0 : Nat} {x1 : Int32} {x2 : Int32} {h : jH} {q : Int32 × jH} (H : tkE b L m T st en) (G0 : gPc x b L m T st 0 g0) (G1 : gPc x b L m T st 1 g1) (ha : a0 = x + 35) (R : cc (oc h) x b L m T st k nl s) (hx : x1 = nI dp) (hk : x2 = (T k).1) (hd : dp ≤ 6) (hd2 : (T k).1 = 11 ∨ (T k).1 = 40 → dp < 6) (hf : F_X3_readAtom_28 n g0 g1 a0 x1 x2 h = some q) : lwC x b L m T st h q.1 q.2 nl s (rdG T 2000 1 dp k) := by
  unfold F_X3_readAtom_28 at hf
  subst ha
  have kk := cc_k R
  have sk := R.2.2.2
  have E := (g_2 (w := 1) (dp := dp) H kk.2 kk.1 (by decide)).trans rdG_1
  replace hf := jbind hf
  obtain ⟨p29, e1, hf⟩ := hf
  have r1 := oc_gR e1
  rw [R.2.1.1] at r1
  cases r1
  clear e1
  replace hf := jbind hf
  obtain ⟨q34, e2, hf⟩ := hf
  replace e2 := (jcv_o e2).2
  obtain ⟨r2, f2, z2⟩ := E_X10_take (x1 := 11) R.1 (by decide) e2
  have SS2 : rlS (oc q34.2) x := rlS_C R.2.1 (frC_5 f2)
  replace hf := jite hf
  rcases hf with ⟨c3, hf⟩ | ⟨c3, hf⟩
  · skip
    replace hf := jbind hf
    obtain ⟨p60, e4, hf⟩ := hf
    have r4 := oc_gR e4
    rw [SS2.1] at r4
    cases r4
    clear e4
    replace hf := jbind hf
    obtain ⟨q65, e5, hf⟩ := hf
    replace e5 := (jcv_o e5).2
    rcases r2 with ⟨-, w, -⟩ | ⟨t2, w2⟩
    · exact absurd (c3.symm.trans w) (by decide)
    have R2 : cc (oc q34.2) x b L m T st k nl s := by rw [w2]; exact R
    obtain ⟨r5, f5, z5⟩ := E_X10_take (x1 := 40) R2.1 (by decide) e5
    have SS5 : rlS (oc q65.2) x := rlS_C R2.2.1 (frC_5 f5)
    replace hf := jite hf
    rcases hf with ⟨c6, hf⟩ | ⟨c6, hf⟩
    · skip
      replace hf := jite hf
      rcases hf with ⟨c7, hf⟩ | ⟨c7, hf⟩
      · skip
        -- leaf 000: F_X3_readAtom_128 n g0 g1 a0 q65.2
        rcases r5 with ⟨-, w, -⟩ | ⟨t5, w5⟩
        · exact absurd (c6.symm.trans w) (by decide)
        have R5 : cc (oc q65.2) x b L m T st k nl s := by rw [w5]; exact R2
        have f25 : ∀ a j : Nat, ¬ (a = x + 1 ∧ j = 5) → oc q65.2 a j = oc h a j := fun a j u => (f5 a j u).trans (f2 a j u)
        have nt : ¬ (7 ≤ (T k).1.toInt ∧ (T k).1.toInt ≤ 10) := fun z => by
          rw [hk, Int32.lt_iff_toInt_lt] at c7
          have l7 : (7 : Int32).toInt = 7 := rfl
          have l10 : (10 : Int32).toInt = 10 := rfl
          omega
        have B := E_X3_readAtom_128 H rfl R5 hf
        rw [E, if_neg t5, if_neg t2, if_neg nt]
        exact lwC_p5 f25 (z5.trans z2) B
      · skip
        replace hf := jite hf
        rcases hf with ⟨c8, hf⟩ | ⟨c8, hf⟩
        · skip
          -- leaf 0010: F_X3_readAtom_128 n g0 g1 a0 q65.2
          rcases r5 with ⟨-, w, -⟩ | ⟨t5, w5⟩
          · exact absurd (c6.symm.trans w) (by decide)
          have R5 : cc (oc q65.2) x b L m T st k nl s := by rw [w5]; exact R2
          have f25 : ∀ a j : Nat, ¬ (a = x + 1 ∧ j = 5) → oc q65.2 a j = oc h a j := fun a j u => (f5 a j u).trans (f2 a j u)
          have nt : ¬ (7 ≤ (T k).1.toInt ∧ (T k).1.toInt ≤ 10) := fun z => by
            rw [hk, Int32.lt_iff_toInt_lt] at c8
            have l7 : (7 : Int32).toInt = 7 := rfl
            have l10 : (10 : Int32).toInt = 10 := rfl
            omega
          have B := E_X3_readAtom_128 H rfl R5 hf
          rw [E, if_neg t5, if_neg t2, if_neg nt]
          exact lwC_p5 f25 (z5.trans z2) B
        · skip
          replace hf := jbind hf
          obtain ⟨p112, e9, hf⟩ := hf
          have r9 := oc_gR e9
          rw [SS5.1] at r9
          cases r9
          clear e9
          replace hf := jbind hf
          obtain ⟨h115, e10, hf⟩ := hf
          replace e10 := (jcv_o e10).2
          rcases r5 with ⟨-, w, -⟩ | ⟨t5, w5⟩
          · exact absurd (c6.symm.trans w) (by decide)
          have R5 : cc (oc q65.2) x b L m T st k nl s := by rw [w5]; exact R2
          have f25 : ∀ a j : Nat, ¬ (a = x + 1 ∧ j = 5) → oc q65.2 a j = oc h a j := fun a j u => (f5 a j u).trans (f2 a j u)
          have tg : 7 ≤ (T k).1.toInt ∧ (T k).1.toInt ≤ 10 := by
            rw [hk, Int32.lt_iff_toInt_lt] at c7
            rw [hk, Int32.lt_iff_toInt_lt] at c8
            have l7 : (7 : Int32).toInt = 7 := rfl
            have l10 : (10 : Int32).toInt = 10 := rfl
            omega
          obtain ⟨K10, f10, z10⟩ := E_X10_skip R5.1 (fun y => by rw [y] at tg; exact absurd tg.1 (by decide)) e10
          have R10 := cc_5 R5 K10 f10 (Nat.le_succ _)
          replace hf := jbind hf
          obtain ⟨p119, e11, hf⟩ := hf
          have r11 := oc_gR e11
          rw [R10.2.1.2.2] at r11
          cases r11
          clear e11
          replace hf := jbind hf
          obtain ⟨h123, e12, hf⟩ := hf
          replace e12 := (jcv_o e12).2
          cases hf
          -- leaf 0011: ((1 : Int32), h123)
          obtain ⟨R12, w12, f12, z12⟩ := cc_em R10 (by omega) e12
          rw [hk] at w12
          rw [E, if_neg t5, if_neg t2, if_pos tg]
          exact lwC_p5 f25 (z5.trans z2) (lwC_p5 f10 z10 (lwC_l rfl rfl R12 (by rw [List.map_cons, cod_p (by omega)]; exact w12) f12 z12))
    · skip
      replace hf := jbind hf
      obtain ⟨q75, e13, hf⟩ := hf
      replace e13 := (jcv_o e13).2
      rcases r5 with ⟨t5, v5, K5⟩ | ⟨-, w⟩
      rotate_left
      · exact absurd (by rw [w]) c6
      have R5 := cc_5 R2 K5 f5 (Nat.le_succ _)
      have dl := hd2 (Or.inr t5)
      rw [hx, nI_1] at e13
      have A := G0 (k + 1) nl s (dp + 1) q65.2 q75 R5 (by omega) e13
      have E1 := E.trans ((if_pos t5).trans (if_neg (show ¬ dp = 6 by omega)))
      have f25 : ∀ a j : Nat, ¬ (a = x + 1 ∧ j = 5) → oc q65.2 a j = oc h a j := fun a j u => (f5 a j u).trans (f2 a j u)
      have SS13 : rlS (oc q75.2) x := rlS_C R5.2.1 A.2.2.1
      replace hf := jite hf
      rcases hf with ⟨c14, hf⟩ | ⟨c14, hf⟩
      · skip
        cases hf
        -- leaf 010: ((0 : Int32), q75.2)
        rcases hA : rdG T 2000 0 (dp + 1) (k + 1) with d | f
        · exact absurd (c14.symm.trans (A.1 d hA).1) (by decide)
        obtain ⟨-, k4, c5⟩ := A.2.1 f hA
        rw [E1]
        exact lwC_p5 f25 (z5.trans z2) (lwC_r (sq_r hA) rfl k4 c5 A.2.2.1 A.2.2.2)
      · skip
        replace hf := jbind hf
        obtain ⟨p82, e15, hf⟩ := hf
        have r15 := oc_gR e15
        rw [SS13.1] at r15
        cases r15
        clear e15
        replace hf := jbind hf
        obtain ⟨q87, e16, hf⟩ := hf
        replace e16 := (jcv_o e16).2
        rcases hA : rdG T 2000 0 (dp + 1) (k + 1) with d | f
        rotate_left
        · exact absurd (A.2.1 f hA).1 c14
        obtain ⟨-, R14, w14⟩ := A.1 d hA
        obtain ⟨r16, f16, z16⟩ := E_X10_take (x1 := 41) R14.1 (by decide) e16
        have SS16 : rlS (oc q87.2) x := rlS_C R14.2.1 (frC_5 f16)
        replace hf := jite hf
        rcases hf with ⟨c17, hf⟩ | ⟨c17, hf⟩
        · skip
          cases hf
          -- leaf 0110: ((0 : Int32), q87.2)
          rcases r16 with ⟨-, w, -⟩ | ⟨t16, w16⟩
          · exact absurd (c17.symm.trans w) (by decide)
          rw [E1]
          refine lwC_p5 f25 (z5.trans z2) (lwC_sq hA w14 A.2.2.1 A.2.2.2 ?_)
          rw [if_neg t16]
          exact lwC_r rfl rfl (by rw [w16]; exact R14.1) ⟨_, by rw [w16]; exact R14.2.2.1⟩ (frC_5 f16) z16
        · skip
          cases hf
          -- leaf 0111: ((1 : Int32), q87.2)
          rcases r16 with ⟨t16, v16, K16⟩ | ⟨-, w⟩
          rotate_left
          · exact absurd (by rw [w]) c17
          rw [E1]
          refine lwC_p5 f25 (z5.trans z2) (lwC_sq hA w14 A.2.2.1 A.2.2.2 ?_)
          rw [if_pos t16]
          exact lwC_nl rfl rfl (cc_5 R14 K16 f16 (Nat.le_succ _)) f16 z16
  · skip
    replace hf := jbind hf
    obtain ⟨q44, e18, hf⟩ := hf
    replace e18 := (jcv_o e18).2
    rcases r2 with ⟨t2, v2, K2⟩ | ⟨-, w⟩
    rotate_left
    · exact absurd (by rw [w]) c3
    have R2 := cc_5 R K2 f2 (Nat.le_succ _)
    have dl := hd2 (Or.inl t2)
    rw [hx, nI_1] at e18
    have A := G1 (k + 1) nl s (dp + 1) q34.2 q44 R2 (by omega) e18
    have E1 := E.trans ((if_neg (show ¬ (T k).1 = 40 by rw [t2]; decide)).trans ((if_pos t2).trans (if_neg (show ¬ dp = 6 by omega))))
    have SS18 : rlS (oc q44.2) x := rlS_C R2.2.1 A.2.2.1
    replace hf := jbind hf
    obtain ⟨p49, e19, hf⟩ := hf
    have r19 := oc_gR e19
    rw [SS18.2.2] at r19
    cases r19
    clear e19
    replace hf := jbind hf
    obtain ⟨h54, e20, hf⟩ := hf
    replace e20 := (jcv_o e20).2
    replace hf := jite hf
    rcases hf with ⟨c21, hf⟩ | ⟨c21, hf⟩
    · skip
      cases hf
      -- leaf 10: (q44.1, h54)
      rw [E1]
      refine lwC_p5 f2 z2 ?_
      rcases hA : rdG T 2000 1 (dp + 1) (k + 1) with d | f
      · obtain ⟨v, R4, w4⟩ := A.1 d hA
        have gi := g_i H 2000 (by have := cc_k R2; omega) hA
        obtain ⟨R5, w5, f5, z5⟩ := cc_em R4 (by omega) e20
        rw [← hA]
        exact lwC_sq hA w4 A.2.2.1 A.2.2.2 (lwC_l rfl v R5 w5 f5 z5)
      · obtain ⟨v, k4, s4, c5⟩ := A.2.1 f hA
        obtain ⟨k5, f5, z5, c6⟩ := ck_em k4 c5 e20
        exact lwC_r (sq_r rfl) v k5 c6 (frC_tr A.2.2.1 f5) (z5.trans A.2.2.2)
    · skip
      cases hf
theorem E_X3_readAtom_20 {b : Nat → Int32} {L : Nat} {m : Nat} {T : Nat → Int32 × Int32} {st : Nat → Nat} {en : Nat → Nat} {x : Nat} {nl : Nat} {k : Nat} {s : Nat} {dp : Nat} {n : Nat} {g0 : Nat → Int32 → jH → Option (Int32 × jH)} {g1 : Nat → Int32 → jH → Option (Int32 × jH)} {a0 : Nat} {x1 : Int32} {x2 : Int32} {h : jH} {q : Int32 × jH} (H : tkE b L m T st en) (G0 : gPc x b L m T st 0 g0) (G1 : gPc x b L m T st 1 g1) (ha : a0 = x + 35) (R : cc (oc h) x b L m T st k nl s) (hx : x1 = nI dp) (hk : x2 = (T k).1) (hd : dp ≤ 6) (ht : (T k).1 = 11 ∨ (T k).1 = 40) (hf : F_X3_readAtom_20 n g0 g1 a0 x1 x2 h = some q) : lwC x b L m T st h q.1 q.2 nl s (rdG T 2000 1 dp k) := by
  unfold F_X3_readAtom_20 at hf
  subst ha
  replace hf := jite hf
  rcases hf with ⟨c1, hf⟩ | ⟨c1, hf⟩
  · skip
    -- leaf 0: F_X3_readAtom_28 n g0 g1 a0 x1 x2 h
    rw [hx, Int32.lt_iff_toInt_lt, nI_toInt (by omega), show (6 : Int32).toInt = 6 from rfl] at c1
    exact E_X3_readAtom_28 H G0 G1 rfl R hx hk hd (fun _ => by omega) hf
  · skip
    cases hf
    -- leaf 1: ((0 : Int32), h)
    rw [hx, Int32.lt_iff_toInt_lt, nI_toInt (by omega), show (6 : Int32).toInt = 6 from rfl] at c1
    have kk := cc_k R
    have d6 : dp = 6 := by omega
    have E := (g_2 (w := 1) (dp := dp) H kk.2 kk.1 (by decide)).trans rdG_1
    refine lwC_r (k := k) ?_ rfl R.1 ⟨s, R.2.2.1⟩ frC_0 rfl
    rw [E]
    by_cases t : (T k).1 = 40
    · rw [if_pos t, if_pos d6]
    · rw [if_neg t, if_pos (ht.resolve_right t), if_pos d6]
theorem E_X3_readAtom {b : Nat → Int32} {L : Nat} {m : Nat} {T : Nat → Int32 × Int32} {st : Nat → Nat} {en : Nat → Nat} {x : Nat} {nl : Nat} {k : Nat} {s : Nat} {dp : Nat} {n : Nat} {g0 : Nat → Int32 → jH → Option (Int32 × jH)} {g1 : Nat → Int32 → jH → Option (Int32 × jH)} {a0 : Nat} {x1 : Int32} {h : jH} {q : Int32 × jH} (H : tkE b L m T st en) (G0 : gPc x b L m T st 0 g0) (G1 : gPc x b L m T st 1 g1) (ha : a0 = x + 35) (R : cc (oc h) x b L m T st k nl s) (hx : x1 = nI dp) (hd : dp ≤ 6) (hf : F_X3_readAtom n g0 g1 a0 x1 h = some q) : lwC x b L m T st h q.1 q.2 nl s (rdG T 2000 1 dp k) := by
  unfold F_X3_readAtom at hf
  subst ha
  replace hf := jbind hf
  obtain ⟨p1, e1, hf⟩ := hf
  have r1 := oc_gR e1
  rw [R.2.1.1] at r1
  cases r1
  clear e1
  replace hf := jbind hf
  obtain ⟨v4, e2, hf⟩ := hf
  replace e2 := (jcv_o e2).2
  have r2 := E_X10_kind R.1 e2
  replace hf := jite hf
  rcases hf with ⟨c3, hf⟩ | ⟨c3, hf⟩
  · skip
    -- leaf 0: F_X3_readAtom_20 n g0 g1 a0 x1 v4 h
    exact E_X3_readAtom_20 H G0 G1 rfl R hx r2 hd (Or.inl (r2.symm.trans c3)) hf
  · skip
    replace hf := jite hf
    rcases hf with ⟨c4, hf⟩ | ⟨c4, hf⟩
    · skip
      -- leaf 10: F_X3_readAtom_20 n g0 g1 a0 x1 v4 h
      exact E_X3_readAtom_20 H G0 G1 rfl R hx r2 hd (Or.inr (r2.symm.trans c4)) hf
    · skip
      -- leaf 11: F_X3_readAtom_28 n g0 g1 a0 x1 v4 h
      exact E_X3_readAtom_28 H G0 G1 rfl R hx r2 hd (fun z => by rcases z with z | z; exact absurd (r2.trans z) c3; exact absurd (r2.trans z) c4) hf
