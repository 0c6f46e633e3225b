/-! conditions joined, the class -/
def flg (a : Int32) : Nat := if a = 0 then 0 else 1
def xT (T : Nat → Int32 × Int32) (o : Int32) (dp j : Nat) : jRd := if o = 0 then rdG T 2000 4 dp j else sqP (.inl (j, [(17, 0)])) (fun i => rdG T 2000 4 dp i)
def xA (T : Nat → Int32 × Int32) (a : Int32) (dp j : Nat) : jRd := if a = 0 then rdG T 2000 3 dp j else sqP (.inl (j, [(16, 0)])) (fun i => rdG T 2000 3 dp i)
def xC (T : Nat → Int32 × Int32) (a o : Int32) (dp k : Nat) : jRd := sqP (sqP (rdG T 2000 1 dp k) (fun j => xA T a dp j)) (fun j => xT T o dp j)
def gL (x : Nat) (b : Nat → Int32) (L m : Nat) (T : Nat → Int32 × Int32) (st : Nat → Nat) (rcc : Nat → Int32 → Int32 → Int32 → Int32 → jH → Option (Int32 × jH)) : Prop :=
  ∀ (k nl s j dp : Nat) (a o : Int32) (h : jH) (q : Int32 × jH), cc (oc h) x b L m T st k nl s → s + flg a + flg o ≤ k → 2 * j ≤ k → dp ≤ 6 → rcc (x + 35) (nI dp) a o (nI j) h = some q → lwC x b L m T st h q.1 q.2 nl s (xC T a o dp k)
theorem E_X3_readCondition_65 {b : Nat → Int32} {L : Nat} {m : Nat} {T : Nat → Int32 × Int32} {st : Nat → Nat} {en : Nat → Nat} {x : Nat} {nl : Nat} {k : Nat} {s : Nat} {j : Nat} {dp : Nat} {n : Nat} {g0 : Nat → Int32 → jH → Option (Int32 × jH)} {g1 : Nat → Int32 → jH → Option (Int32 × jH)} {rc7 : Nat → Int32 → Int32 → Int32 → Int32 → jH → Option (Int32 × jH)} {a0 : Nat} {x1 : Int32} {x2 : Int32} {x4 : Int32} {h : jH} {q : Int32 × jH} (H : tkE b L m T st en) (G : gL x b L m T st rc7) (ha : a0 = x + 35) (R : cc (oc h) x b L m T st k nl s) (hx : x1 = nI dp) (h4 : x4 = nI j) (hj : 2 * j + 1 ≤ k) (hd : dp ≤ 6) (h2 : x2 = 0) (hf : F_X3_readCondition_65 n g0 g1 rc7 a0 x1 x2 x4 h = some q) : lwC x b L m T st h q.1 q.2 nl s (rdG T 2000 4 dp k) := by
  unfold F_X3_readCondition_65 at hf
  subst ha
  have kk := cc_k R
  have sk := R.2.2.2
  have E := (g_2 (w := 4) (dp := dp) H kk.2 kk.1 (by decide)).trans rdG_4
  replace hf := jbind hf
  obtain ⟨p66, e1, hf⟩ := hf
  have r1 := oc_gR e1
  rw [R.2.1.1] at r1
  cases r1
  clear e1
  replace hf := jbind hf
  obtain ⟨q71, e2, hf⟩ := hf
  replace e2 := (jcv_o e2).2
  obtain ⟨r2, f2, z2⟩ := E_X10_take (x1 := 13) R.1 (by decide) e2
  have SS2 : rlS (oc q71.2) x := rlS_C R.2.1 (frC_5 f2)
  replace hf := jite hf
  rcases hf with ⟨c3, hf⟩ | ⟨c3, hf⟩
  · skip
    cases hf
    -- leaf 0: ((1 : Int32), q71.2)
    rcases r2 with ⟨-, w, -⟩ | ⟨t2, w2⟩
    · exact absurd (c3.symm.trans w) (by decide)
    exact lwC_p5 f2 z2 (lwC_nl (E.trans (if_neg t2)) rfl (by rw [w2]; exact R) (fun _ _ _ => rfl) rfl)
  · skip
    -- leaf 1: rc7 a0 x1 x2 q71.1 (x4 + (1 : Int32)) q71.2
    rcases r2 with ⟨t2, v2, K2⟩ | ⟨-, w⟩
    rotate_left
    · exact absurd (by rw [w]) c3
    have R2 := cc_5 R K2 f2 (Nat.le_succ _)
    rw [hx, h4, nI_1, h2, v2] at hf
    have e0 : flg 0 = 0 := rfl
    have e1 : flg 1 = 1 := rfl
    have B := G (k + 1) nl s (j + 1) dp 0 1 q71.2 q R2 (by omega) (by omega) hd hf
    have E2 := (g_2 (w := 2) (dp := dp) (k := k + 1) H kk.2 (by have := cc_k R2; omega) (by decide)).trans rdG_2
    rw [E, if_pos t2, E2]
    exact lwC_p5 f2 z2 B
theorem E_X3_readCondition_38 {b : Nat → Int32} {L : Nat} {m : Nat} {T : Nat → Int32 × Int32} {st : Nat → Nat} {en : Nat → Nat} {x : Nat} {nl : Nat} {k : Nat} {s : Nat} {j : Nat} {dp : Nat} {n : Nat} {g0 : Nat → Int32 → jH → Option (Int32 × jH)} {g1 : Nat → Int32 → jH → Option (Int32 × jH)} {rc7 : Nat → Int32 → Int32 → Int32 → Int32 → jH → Option (Int32 × jH)} {a0 : Nat} {x1 : Int32} {x3 : Int32} {x4 : Int32} {h : jH} {q : Int32 × jH} (H : tkE b L m T st en) (G : gL x b L m T st rc7) (ha : a0 = x + 35) (R : cc (oc h) x b L m T st k nl s) (hx : x1 = nI dp) (h4 : x4 = nI j) (hj : 2 * j + 1 ≤ k) (hd : dp ≤ 6) (hb : s + flg x3 ≤ k) (hf : F_X3_readCondition_38 n g0 g1 rc7 a0 x1 x3 x4 h = some q) : lwC x b L m T st h q.1 q.2 nl s (sqP (rdG T 2000 3 dp k) (fun i => xT T x3 dp i)) := by
  unfold F_X3_readCondition_38 at hf
  subst ha
  have kk := cc_k R
  have sk := R.2.2.2
  have E := (g_2 (w := 3) (dp := dp) H kk.2 kk.1 (by decide)).trans rdG_3
  replace hf := jbind hf
  obtain ⟨p39, e1, hf⟩ := hf
  have r1 := oc_gR e1
  rw [R.2.1.1] at r1
  cases r1
  clear e1
  replace hf := jbind hf
  obtain ⟨q44, e2, hf⟩ := hf
  replace e2 := (jcv_o e2).2
  obtain ⟨r2, f2, z2⟩ := E_X10_take (x1 := 12) R.1 (by decide) e2
  have SS2 : rlS (oc q44.2) x := rlS_C R.2.1 (frC_5 f2)
  replace hf := jite hf
  rcases hf with ⟨c3, hf⟩ | ⟨c3, hf⟩
  · skip
    replace hf := jite hf
    rcases hf with ⟨c4, hf⟩ | ⟨c4, hf⟩
    · skip
      -- leaf 00: F_X3_readCondition_65 n g0 g1 rc7 a0 x1 q44.1 x4 q44.2
      rcases r2 with ⟨-, w, -⟩ | ⟨t2, w2⟩
      · exact absurd (c3.symm.trans w) (by decide)
      have R2 : cc (oc q44.2) x b L m T st k nl s := by rw [w2]; exact R
      have B := E_X3_readCondition_65 H G rfl R2 hx h4 hj hd c3 hf
      rw [E, if_neg t2, sq_0, xT, if_pos c4]
      exact lwC_p5 f2 z2 B
    · skip
      replace hf := jbind hf
      obtain ⟨p57, e5, hf⟩ := hf
      have r5 := oc_gR e5
      rw [SS2.2.2] at r5
      cases r5
      clear e5
      replace hf := jbind hf
      obtain ⟨h62, e6, hf⟩ := hf
      replace e6 := (jcv_o e6).2
      rcases r2 with ⟨-, w, -⟩ | ⟨t2, w2⟩
      · exact absurd (c3.symm.trans w) (by decide)
      have R2 : cc (oc q44.2) x b L m T st k nl s := by rw [w2]; exact R
      have e1 : flg x3 = 1 := if_neg c4
      obtain ⟨R6, w6, f6, z6⟩ := cc_em R2 (by omega) e6
      -- leaf 01: F_X3_readCondition_65 n g0 g1 rc7 a0 x1 q44.1 x4 h62
      have B := E_X3_readCondition_65 H G rfl R6 hx h4 hj hd c3 hf
      rw [E, if_neg t2, sq_0, xT, if_neg c4]
      exact lwC_p5 f2 z2 (lwC_sq (f := fun i => rdG T 2000 4 dp i) (d := (k, [(17, 0)])) rfl w6 f6 z6 B)
  · skip
    -- leaf 1: rc7 a0 x1 q44.1 x3 (x4 + (1 : Int32)) q44.2
    rcases r2 with ⟨t2, v2, K2⟩ | ⟨-, w⟩
    rotate_left
    · exact absurd (by rw [w]) c3
    have R2 := cc_5 R K2 f2 (Nat.le_succ _)
    rw [hx, h4, nI_1, v2] at hf
    have e1 : flg 1 = 1 := rfl
    have B := G (k + 1) nl s (j + 1) dp 1 x3 q44.2 q R2 (by omega) (by omega) hd hf
    rw [E, if_pos t2]
    exact lwC_p5 f2 z2 B
theorem E_X3_readCondition_7 {n : Nat} {g0 : Nat → Int32 → jH → Option (Int32 × jH)} {g1 : Nat → Int32 → jH → Option (Int32 × jH)} {b : Nat → Int32} {L : Nat} {m : Nat} {T : Nat → Int32 × Int32} {st : Nat → Nat} {en : Nat → Nat} {x : Nat} {nl : Nat} (H : tkE b L m T st en) (G1 : gPc x b L m T st 1 g1) : ∀ (k : Nat) {a0 : Nat} {x1 : Int32} {x2 : Int32} {x3 : Int32} {x4 : Int32} {h : jH} {q : Int32 × jH} (k0 : Nat) (s : Nat) (j : Nat) (dp : Nat) (ha : a0 = x + 35) (R : cc (oc h) x b L m T st k0 nl s) (hx : x1 = nI dp) (h4 : x4 = nI j) (hb : s + flg x2 + flg x3 ≤ k0) (hj : 2 * j ≤ k0) (hd : dp ≤ 6), F_X3_readCondition_7 n g0 g1 k a0 x1 x2 x3 x4 h = some q → lwC x b L m T st h q.1 q.2 nl s (xC T x2 x3 dp k0)
  | 0, a0, x1, x2, x3, x4, h, q, k0, s, j, dp, ha, R, hx, h4, hb, hj, hd, hf => by cases hf
  | k + 1, a0, x1, x2, x3, x4, h, q, k0, s, j, dp, ha, R, hx, h4, hb, hj, hd, hf => by
    replace hf : F_X3_readCondition_7_b n g0 g1 (F_X3_readCondition_7 n g0 g1 k) a0 x1 x2 x3 x4 h = some q := hf
    unfold F_X3_readCondition_7_b at hf
    subst ha
    have kk := cc_k R
    have sk := R.2.2.2
    replace hf := jite hf
    rcases hf with ⟨c1, hf⟩ | ⟨c1, hf⟩
    · skip
      cases hf
      -- leaf 0: ((0 : Int32), h)
      rw [h4, Int32.le_iff_toInt_le, nI_toInt (by omega), show (400 : Int32).toInt = 400 from rfl] at c1
      omega
    · skip
      replace hf := jbind hf
      obtain ⟨q17, e2, hf⟩ := hf
      replace e2 := (jcv_o e2).2
      have A := G1 k0 nl s dp h q17 R hd (by rw [hx] at e2; exact e2)
      have SS2 : rlS (oc q17.2) x := rlS_C R.2.1 A.2.2.1
      have GG : gL x b L m T st (F_X3_readCondition_7 n g0 g1 k) := fun k2 nl2 s2 j2 dp2 a2 o2 h2 q2 y1 y2 y3 y4 y5 => E_X3_readCondition_7 H G1 k k2 s2 j2 dp2 rfl y1 rfl rfl y2 y3 y4 y5
      replace hf := jite hf
      rcases hf with ⟨c3, hf⟩ | ⟨c3, hf⟩
      · skip
        cases hf
        -- leaf 10: ((0 : Int32), q17.2)
        rcases hA : rdG T 2000 1 dp k0 with d | f
        · exact absurd (c3.symm.trans (A.1 d hA).1) (by decide)
        obtain ⟨-, k4, c5⟩ := A.2.1 f hA
        exact lwC_r (sq_r (sq_r hA)) rfl k4 c5 A.2.2.1 A.2.2.2
      · skip
        replace hf := jite hf
        rcases hf with ⟨c4, hf⟩ | ⟨c4, hf⟩
        · skip
          -- leaf 110: F_X3_readCondition_38 n g0 g1 rc7 a0 x1 x3 x4 q17.2
          rcases hA : rdG T 2000 1 dp k0 with d | f
          rotate_left
          · exact absurd (A.2.1 f hA).1 c3
          obtain ⟨-, R4, w4⟩ := A.1 d hA
          have gi := g_i H 2000 kk.1 hA
          have gi4 := gi.2.2.2 (by decide)
          have e0 : flg x2 = 0 := if_pos c4
          have B := E_X3_readCondition_38 (j := j) H GG rfl R4 hx h4 (by omega) hd (by omega) hf
          unfold xC
          rw [sq_as]
          refine lwC_sq hA w4 A.2.2.1 A.2.2.2 ?_
          rw [xA, if_pos c4]
          exact B
        · skip
          replace hf := jbind hf
          obtain ⟨p30, e5, hf⟩ := hf
          have r5 := oc_gR e5
          rw [SS2.2.2] at r5
          cases r5
          clear e5
          replace hf := jbind hf
          obtain ⟨h35, e6, hf⟩ := hf
          replace e6 := (jcv_o e6).2
          rcases hA : rdG T 2000 1 dp k0 with d | f
          rotate_left
          · exact absurd (A.2.1 f hA).1 c3
          obtain ⟨-, R4, w4⟩ := A.1 d hA
          have gi := g_i H 2000 kk.1 hA
          have gi4 := gi.2.2.2 (by decide)
          have e1 : flg x2 = 1 := if_neg c4
          obtain ⟨R6, w6, f6, z6⟩ := cc_em R4 (by omega) e6
          -- leaf 111: F_X3_readCondition_38 n g0 g1 rc7 a0 x1 x3 x4 h35
          have B := E_X3_readCondition_38 (j := j) H GG rfl R6 hx h4 (by omega) hd (by omega) hf
          unfold xC
          rw [sq_as]
          refine lwC_sq hA w4 A.2.2.1 A.2.2.2 ?_
          rw [xA, if_neg c4, sq_as]
          exact lwC_sq (f := fun j => sqP (rdG T 2000 3 dp j) (fun i => xT T x3 dp i)) (d := (d.1, [(16, 0)])) rfl w6 f6 z6 B
theorem E_X3_readCondition {b : Nat → Int32} {L : Nat} {m : Nat} {T : Nat → Int32 × Int32} {st : Nat → Nat} {en : Nat → Nat} {x : Nat} {nl : Nat} {k : Nat} {s : Nat} {dp : Nat} {n : Nat} {g0 : Nat → Int32 → jH → Option (Int32 × jH)} {g1 : Nat → Int32 → jH → Option (Int32 × jH)} {a0 : Nat} {x1 : Int32} {h : jH} {q : Int32 × jH} (H : tkE b L m T st en) (G1 : gPc x b L m T st 1 g1) (ha : a0 = x + 35) (R : cc (oc h) x b L m T st k nl s) (hx : x1 = nI dp) (hd : dp ≤ 6) (hf : F_X3_readCondition n g0 g1 a0 x1 h = some q) : lwC x b L m T st h q.1 q.2 nl s (rdG T 2000 0 dp k) := by
  unfold F_X3_readCondition at hf
  subst ha
  have kk := cc_k R
  have sk := R.2.2.2
  -- leaf : F_X3_readCondition_7 n g0 g1 n a0 x1 (0 : Int32) (0 : Int32) (0 : Int32) h
  have e0 : flg 0 = 0 := rfl
  have B := E_X3_readCondition_7 H G1 n k s 0 dp rfl R hx rfl (by omega) (by omega) hd hf
  have E := (g_2 (w := 0) (dp := dp) H kk.2 kk.1 (by decide)).trans rdG_0
  have E2 := (g_2 (w := 2) (dp := dp) H kk.2 kk.1 (by decide)).trans rdG_2
  rw [E, E2]
  exact B
theorem R_RC {x : Nat} {b : Nat → Int32} {L m : Nat} {T : Nat → Int32 × Int32} {st en : Nat → Nat} (H : tkE b L m T st en) {n : Nat} : ∀ d : Nat, gPc x b L m T st 0 (FG_RC n d 0) ∧ gPc x b L m T st 1 (FG_RC n d 1)
  | 0 => ⟨fun k nl s dp h q R hd e => (by cases e), fun k nl s dp h q R hd e => (by cases e)⟩
  | d + 1 => by
    obtain ⟨i0, i1⟩ := R_RC H (n := n) d
    refine ⟨fun k nl s dp h q R hd e => ?_, fun k nl s dp h q R hd e => ?_⟩
    · have e2 : F_X3_readCondition n (FG_RC n d 0) (FG_RC n d 1) (x + 35) (nI dp) h = some q := e
      exact E_X3_readCondition H i1 rfl R rfl hd e2
    · have e2 : F_X3_readAtom n (FG_RC n d 0) (FG_RC n d 1) (x + 35) (nI dp) h = some q := e
      exact E_X3_readAtom H i0 i1 rfl R rfl hd e2
