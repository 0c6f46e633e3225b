section
/-! conditions joined, the class -/
def flg (a : Int32) : Nat := if a = 0 then 0 else 1
def xT (T : Nat → Int32 × Int32) (o : Int32) (dp j : Nat) : jRd := if o = 0 then rdG T 2000 4 dp j else sqP (.inl (j, [(17, 0)])) (fun i => rdG T 2000 4 dp i)
def xA (T : Nat → Int32 × Int32) (a : Int32) (dp j : Nat) : jRd := if a = 0 then rdG T 2000 3 dp j else sqP (.inl (j, [(16, 0)])) (fun i => rdG T 2000 3 dp i)
def xC (T : Nat → Int32 × Int32) (a o : Int32) (dp k : Nat) : jRd := sqP (sqP (rdG T 2000 1 dp k) (fun j => xA T a dp j)) (fun j => xT T o dp j)
def gL (x : Nat) (b : Nat → Int32) (L m : Nat) (T : Nat → Int32 × Int32) (st : Nat → Nat) (rcc : Nat → Int32 → Int32 → Int32 → Int32 → jH → Option (Int32 × jH)) : Prop :=
  ∀ (k nl s j dp : Nat) (a o : Int32) (h : jH) (q : Int32 × jH), cc (oc h) x b L m T st k nl s → s + flg a + flg o ≤ k → 2 * j ≤ k → dp ≤ 6 → rcc (x + 35) (nI dp) a o (nI j) h = some q → lwC x b L m T st h q.1 q.2 nl s (xC T a o dp k)
theorem E_X3_readCondition_65 {b : Nat → Int32} {L : Nat} {m : Nat} {T : Nat → Int32 × Int32} {st : Nat → Nat} {en : Nat → Nat} {x : Nat} {nl : Nat} {k : Nat} {s : Nat} {j : Nat} {dp : Nat} {n : Nat} {g0 : Nat → Int32 → jH → Option (Int32 × jH)} {g1 : Nat → Int32 → jH → Option (Int32 × jH)} {rc7 : Nat → Int32 → Int32 → Int32 → Int32 → jH → Option (Int32 × jH)} {a0 : Nat} {x1 : Int32} {x2 : Int32} {x4 : Int32} {h : jH} {q : Int32 × jH} (H : tkE b L m T st en) (G : gL x b L m T st rc7) (ha : a0 = x + 35) (R : cc (oc h) x b L m T st k nl s) (hx : x1 = nI dp) (h4 : x4 = nI j) (hj : 2 * j + 1 ≤ k) (hd : dp ≤ 6) (h2 : x2 = 0) (hf : F_X3_readCondition_65 n g0 g1 rc7 a0 x1 x2 x4 h = some q) : lwC x b L m T st h q.1 q.2 nl s (rdG T 2000 4 dp k) := by
  unfold F_X3_readCondition_65 at hf
  subst ha
  have kk := cc_k R
  have sk := R.2.2.2
  have E := (g_2 (w := 4) (dp := dp) H kk.2 kk.1 (by decide)).trans rdG_4
  replace hf := jbind hf
  obtain ⟨p66, e1, hf⟩ := hf
  have r1 := oc_gR e1
  rw [R.2.1.1] at r1
  cases r1
  clear e1
  replace hf := jbind hf
  obtain ⟨q71, e2, hf⟩ := hf
  replace e2 := (jcv_o e2).2
  obtain ⟨r2, f2, z2⟩ := E_X10_take (x1 := 13) R.1 (by decide) e2
  have SS2 : rlS (oc q71.2) x := rlS_C R.2.1 (frC_5 f2)
  replace hf := jite hf
  rcases hf with ⟨c3, hf⟩ | ⟨c3, hf⟩
  · skip
    cases hf
    -- leaf 0: ((1 : Int32), q71.2)
    rcases r2 with ⟨-, w, -⟩ | ⟨t2, w2⟩
    · exact absurd (c3.symm.trans w) (by decide)
    exact lwC_p5 f2 z2 (lwC_nl (E.trans (if_neg t2)) rfl (by rw [w2]; exact R) (fun _ _ _ => rfl) rfl)
  · skip
    -- leaf 1: rc7 a0 x1 x2 q71.1 (x4 + (1 : Int32)) q71.2
    rcases r2 with ⟨t2, v2, K2⟩ | ⟨-, w⟩
    rotate_left
    · exact absurd (by rw [w]) c3
    have R2 := cc_5 R K2 f2 (Nat.le_succ _)
    rw [hx, h4, nI_1, h2, v2] at hf
    have e0 : flg 0 = 0 := rfl
    have e1 : flg 1 = 1 := rfl
    have B := G (k + 1) nl s (j + 1) dp 0 1 q71.2 q R2 (by omega) (by omega) hd hf
    have E2 := (g_2 (w := 2) (dp := dp) (k := k + 1) H kk.2 (by have := cc_k R2; omega) (by decide)).trans rdG_2
    rw [E, if_pos t2, E2]
    exact lwC_p5 f2 z2 B
theorem E_X3_readCondition_38 {b : Nat → Int32} {L : Nat} {m : Nat} {T : Nat → Int32 × Int32} {st : Nat → Nat} {en : Nat → Nat} {x : Nat} {nl : Nat} {k : Nat} {s : Nat} {j : Nat} {dp : Nat} {n : Nat} {g0 : Nat → Int32 → jH → Option (Int32 × jH)} {g1 : Nat → Int32 → jH → Option (Int32 × jH)} {rc7 : Nat → Int32 → Int32 → Int32 → Int32 → jH → Option (Int32 × jH)} {a0 : Nat} {x1 : Int32} {x3 : Int32} {x4 : Int32} {h : jH} {q : Int32 × jH} (H : tkE b L m T st en) (G : gL x b L m T st rc7) (ha : a0 = x + 35) (R : cc (oc h) x b L m T st k nl s) (hx : x1 = nI dp) (h4 : x4 = nI j) (hj : 2 * j + 1 ≤ k) (hd : dp ≤ 6) (hb : s + flg x3 ≤ k) (hf : F_X3_readCondition_38 n g0 g1 rc7 a0 x1 x3 x4 h = some q) : lwC x b L m T st h q.1 q.2 nl s (sqP (rdG T 2000 3 dp k) (fun i => xT T x3 dp i)) := by
  unfold F_X3_readCondition_38 at hf
  subst ha
  have kk := cc_k R
  have sk := R.2.2.2
  have E := (g_2 (w := 3) (dp := dp) H kk.2 kk.1 (by decide)).trans rdG_3
  replace hf := jbind hf
  obtain ⟨p39, e1, hf⟩ := hf
  have r1 := oc_gR e1
  rw [R.2.1.1] at r1
  cases r1
  clear e1
  replace hf := jbind hf
  obtain ⟨q44, e2, hf⟩ := hf
  replace e2 := (jcv_o e2).2
  obtain ⟨r2, f2, z2⟩ := E_X10_take (x1 := 12) R.1 (by decide) e2
  have SS2 : rlS (oc q44.2) x := rlS_C R.2.1 (frC_5 f2)
  replace hf := jite hf
  rcases hf with ⟨c3, hf⟩ | ⟨c3, hf⟩
  · skip
    replace hf := jite hf
    rcases hf with ⟨c4, hf⟩ | ⟨c4, hf⟩
    · skip
      -- leaf 00: F_X3_readCondition_65 n g0 g1 rc7 a0 x1 q44.1 x4 q44.2
      rcases r2 with ⟨-, w, -⟩ | ⟨t2, w2⟩
      · exact absurd (c3.symm.trans w) (by decide)
      have R2 : cc (oc q44.2) x b L m T st k nl s := by rw [w2]; exact R
      have B := E_X3_readCondition_65 H G rfl R2 hx h4 hj hd c3 hf
      rw [E, if_neg t2, sq_0, xT, if_pos c4]
      exact lwC_p5 f2 z2 B
    · skip
      replace hf := jbind hf
      obtain ⟨p57, e5, hf⟩ := hf
      have r5 := oc_gR e5
      rw [SS2.2.2] at r5
      cases r5
      clear e5
      replace hf := jbind hf
      obtain ⟨h62, e6, hf⟩ := hf
      replace e6 := (jcv_o e6).2
      rcases r2 with ⟨-, w, -⟩ | ⟨t2, w2⟩
      · exact absurd (c3.symm.trans w) (by decide)
      have R2 : cc (oc q44.2) x b L m T st k nl s := by rw [w2]; exact R
      have e1 : flg x3 = 1 := if_neg c4
      obtain ⟨R6, w6, f6, z6⟩ := cc_em R2 (by omega) e6
      -- leaf 01: F_X3_readCondition_65 n g0 g1 rc7 a0 x1 q44.1 x4 h62
      have B := E_X3_readCondition_65 H G rfl R6 hx h4 hj hd c3 hf
      rw [E, if_neg t2, sq_0, xT, if_neg c4]
      exact lwC_p5 f2 z2 (lwC_sq (f := fun i => rdG T 2000 4 dp i) (d := (k, [(17, 0)])) rfl w6 f6 z6 B)
  · skip
    -- leaf 1: rc7 a0 x1 q44.1 x3 (x4 + (1 : Int32)) q44.2
    rcases r2 with ⟨t2, v2, K2⟩ | ⟨-, w⟩
    rotate_left
    · exact absurd (by rw [w]) c3
    have R2 := cc_5 R K2 f2 (Nat.le_succ _)
    rw [hx, h4, nI_1, v2] at hf
    have e1 : flg 1 = 1 := rfl
    have B := G (k + 1) nl s (j + 1) dp 1 x3 q44.2 q R2 (by omega) (by omega) hd hf
    rw [E, if_pos t2]
    exact lwC_p5 f2 z2 B
theorem E_X3_readCondition_7 {n : Nat} {g0 : Nat → Int32 → jH → Option (Int32 × jH)} {g1 : Nat → Int32 → jH → Option (Int32 × jH)} {b : Nat → Int32} {L : Nat} {m : Nat} {T : Nat → Int32 × Int32} {st : Nat → Nat} {en : Nat → Nat} {x : Nat} {nl : Nat} (H : tkE b L m T st en) (G1 : gPc x b L m T st 1 g1) : ∀ (k : Nat) {a0 : Nat} {x1 : Int32} {x2 : Int32} {x3 : Int32} {x4 : Int32} {h : jH} {q : Int32 × jH} (k0 : Nat) (s : Nat) (j : Nat) (dp : Nat) (ha : a0 = x + 35) (R : cc (oc h) x b L m T st k0 nl s) (hx : x1 = nI dp) (h4 : x4 = nI j) (hb : s + flg x2 + flg x3 ≤ k0) (hj : 2 * j ≤ k0) (hd : dp ≤ 6), F_X3_readCondition_7 n g0 g1 k a0 x1 x2 x3 x4 h = some q → lwC x b L m T st h q.1 q.2 nl s (xC T x2 x3 dp k0)
  | 0, a0, x1, x2, x3, x4, h, q, k0, s, j, dp, ha, R, hx, h4, hb, hj, hd, hf => by cases hf
  | k + 1, a0, x1, x2, x3, x4, h, q, k0, s, j, dp, ha, R, hx, h4, hb, hj, hd, hf => by
    replace hf : F_X3_readCondition_7_b n g0 g1 (F_X3_readCondition_7 n g0 g1 k) a0 x1 x2 x3 x4 h = some q := hf
    unfold F_X3_readCondition_7_b at hf
    subst ha
    have kk := cc_k R
    have sk := R.2.2.2
    replace hf := jite hf
    rcases hf with ⟨c1, hf⟩ | ⟨c1, hf⟩
    · skip
      cases hf
      -- leaf 0: ((0 : Int32), h)
      rw [h4, Int32.le_iff_toInt_le, nI_toInt (by omega), show (400 : Int32).toInt = 400 from rfl] at c1
      omega
    · skip
      replace hf := jbind hf
      obtain ⟨q17, e2, hf⟩ := hf
      replace e2 := (jcv_o e2).2
      have A := G1 k0 nl s dp h q17 R hd (by rw [hx] at e2; exact e2)
      have SS2 : rlS (oc q17.2) x := rlS_C R.2.1 A.2.2.1
      have GG : gL x b L m T st (F_X3_readCondition_7 n g0 g1 k) := fun k2 nl2 s2 j2 dp2 a2 o2 h2 q2 y1 y2 y3 y4 y5 => E_X3_readCondition_7 H G1 k k2 s2 j2 dp2 rfl y1 rfl rfl y2 y3 y4 y5
      replace hf := jite hf
      rcases hf with ⟨c3, hf⟩ | ⟨c3, hf⟩
      · skip
        cases hf
        -- leaf 10: ((0 : Int32), q17.2)
        rcases hA : rdG T 2000 1 dp k0 with d | f
        · exact absurd (c3.symm.trans (A.1 d hA).1) (by decide)
        obtain ⟨-, k4, c5⟩ := A.2.1 f hA
        exact lwC_r (sq_r (sq_r hA)) rfl k4 c5 A.2.2.1 A.2.2.2
      · skip
        replace hf := jite hf
        rcases hf with ⟨c4, hf⟩ | ⟨c4, hf⟩
        · skip
          -- leaf 110: F_X3_readCondition_38 n g0 g1 rc7 a0 x1 x3 x4 q17.2
          rcases hA : rdG T 2000 1 dp k0 with d | f
          rotate_left
          · exact absurd (A.2.1 f hA).1 c3
          obtain ⟨-, R4, w4⟩ := A.1 d hA
          have gi := g_i H 2000 kk.1 hA
          have gi4 := gi.2.2.2 (by decide)
          have e0 : flg x2 = 0 := if_pos c4
          have B := E_X3_readCondition_38 (j := j) H GG rfl R4 hx h4 (by omega) hd (by omega) hf
          unfold xC
          rw [sq_as]
          refine lwC_sq hA w4 A.2.2.1 A.2.2.2 ?_
          rw [xA, if_pos c4]
          exact B
        · skip
          replace hf := jbind hf
          obtain ⟨p30, e5, hf⟩ := hf
          have r5 := oc_gR e5
          rw [SS2.2.2] at r5
          cases r5
          clear e5
          replace hf := jbind hf
          obtain ⟨h35, e6, hf⟩ := hf
          replace e6 := (jcv_o e6).2
          rcases hA : rdG T 2000 1 dp k0 with d | f
          rotate_left
          · exact absurd (A.2.1 f hA).1 c3
          obtain ⟨-, R4, w4⟩ := A.1 d hA
          have gi := g_i H 2000 kk.1 hA
          have gi4 := gi.2.2.2 (by decide)
          have e1 : flg x2 = 1 := if_neg c4
          obtain ⟨R6, w6, f6, z6⟩ := cc_em R4 (by omega) e6
          -- leaf 111: F_X3_readCondition_38 n g0 g1 rc7 a0 x1 x3 x4 h35
          have B := E_X3_readCondition_38 (j := j) H GG rfl R6 hx h4 (by omega) hd (by omega) hf
          unfold xC
          rw [sq_as]
          refine lwC_sq hA w4 A.2.2.1 A.2.2.2 ?_
          rw [xA, if_neg c4, sq_as]
          exact lwC_sq (f := fun j => sqP (rdG T 2000 3 dp j) (fun i => xT T x3 dp i)) (d := (d.1, [(16, 0)])) rfl w6 f6 z6 B
theorem E_X3_readCondition {b : Nat → Int32} {L : Nat} {m : Nat} {T : Nat → Int32 × Int32} {st : Nat → Nat} {en : Nat → Nat} {x : Nat} {nl : Nat} {k : Nat} {s : Nat} {dp : Nat} {n : Nat} {g0 : Nat → Int32 → jH → Option (Int32 × jH)} {g1 : Nat → Int32 → jH → Option (Int32 × jH)} {a0 : Nat} {x1 : Int32} {h : jH} {q : Int32 × jH} (H : tkE b L m T st en) (G1 : gPc x b L m T st 1 g1) (ha : a0 = x + 35) (R : cc (oc h) x b L m T st k nl s) (hx : x1 = nI dp) (hd : dp ≤ 6) (hf : F_X3_readCondition n g0 g1 a0 x1 h = some q) : lwC x b L m T st h q.1 q.2 nl s (rdG T 2000 0 dp k) := by
  unfold F_X3_readCondition at hf
  subst ha
  have kk := cc_k R
  have sk := R.2.2.2
  -- leaf : F_X3_readCondition_7 n g0 g1 n a0 x1 (0 : Int32) (0 : Int32) (0 : Int32) h
  have e0 : flg 0 = 0 := rfl
  have B := E_X3_readCondition_7 H G1 n k s 0 dp rfl R hx rfl (by omega) (by omega) hd hf
  have E := (g_2 (w := 0) (dp := dp) H kk.2 kk.1 (by decide)).trans rdG_0
  have E2 := (g_2 (w := 2) (dp := dp) H kk.2 kk.1 (by decide)).trans rdG_2
  rw [E, E2]
  exact B
theorem R_RC {x : Nat} {b : Nat → Int32} {L m : Nat} {T : Nat → Int32 × Int32} {st en : Nat → Nat} (H : tkE b L m T st en) {n : Nat} : ∀ d : Nat, gPc x b L m T st 0 (FG_RC n d 0) ∧ gPc x b L m T st 1 (FG_RC n d 1)
  | 0 => ⟨fun k nl s dp h q R hd e => (by cases e), fun k nl s dp h q R hd e => (by cases e)⟩
  | d + 1 => by
    obtain ⟨i0, i1⟩ := R_RC H (n := n) d
    refine ⟨fun k nl s dp h q R hd e => ?_, fun k nl s dp h q R hd e => ?_⟩
    · have e2 : F_X3_readCondition n (FG_RC n d 0) (FG_RC n d 1) (x + 35) (nI dp) h = some q := e
      exact E_X3_readCondition H i1 rfl R rfl hd e2
    · have e2 : F_X3_readAtom n (FG_RC n d 0) (FG_RC n d 1) (x + 35) (nI dp) h = some q := e
      exact E_X3_readAtom H i0 i1 rfl R rfl hd e2
end
section
/-! a line of a law's text, the class -/
/-- what a line leaves alone -/
def frJ (x : Nat) (O O2 : jO) : Prop := ∀ a k : Nat, ¬ (a = x + 1 ∧ k = 5) → ¬ (a = x + 28 ∧ (k = 6 ∨ k = 8)) → ¬ (x + 29 ≤ a ∧ a ≤ x + 32) → O2 a k = O a k
theorem frJ_tr {x : Nat} {O O2 O3 : jO} (a : frJ x O O2) (c : frJ x O2 O3) : frJ x O O3 := fun b k h1 h2 h3 => (c b k h1 h2 h3).trans (a b k h1 h2 h3)
theorem frJ_C {x : Nat} {O O2 : jO} (f : frC x O O2) : frJ x O O2 := fun a k h1 h2 h3 => f a k h1 (by omega) (by omega) (by omega)
theorem frJ_5 {x : Nat} {O O2 : jO} (f : ∀ a j : Nat, ¬ (a = x + 1 ∧ j = 5) → O2 a j = O a j) : frJ x O O2 := fun a j h _ _ => f a j h
theorem frJ_0 {x : Nat} {O : jO} : frJ x O O := fun _ _ _ _ _ => rfl
theorem lawS_J {x : Nat} {O O2 : jO} (S : lawS O (x + 28)) (f : frJ x O O2) : lawS O2 (x + 28) := by
  obtain ⟨a, b, c, d, e⟩ := S
  exact ⟨(f _ _ (by omega) (by omega) (by omega)).trans a, (f _ _ (by omega) (by omega) (by omega)).trans b, (f _ _ (by omega) (by omega) (by omega)).trans c, (f _ _ (by omega) (by omega) (by omega)).trans d, (f _ _ (by omega) (by omega) (by omega)).trans e⟩
theorem rlS_J {x : Nat} {O O2 : jO} (S : rlS O x) (f : frJ x O O2) : rlS O2 x := ⟨(f _ _ (by omega) (by omega) (by omega)).trans S.1, (f _ _ (by omega) (by omega) (by omega)).trans S.2.1, (f _ _ (by omega) (by omega) (by omega)).trans S.2.2⟩
/-- the draft before a line: nl lines, s codes -/
def dr0 (O : jO) (x nl s : Nat) : Prop := lawS O (x + 28) ∧ oi O (x + 28) 8 = nI nl ∧ oi O (x + 28) 6 = nI s
/-- the line with kind, amount and steps l was put behind nl lines and s codes -/
def dr1 (O O2 : jO) (x nl s : Nat) (kd am : Int32) (l : List (Int32 × Int32)) : Prop :=
  dr0 O2 x (nl + 1) (s + l.length) ∧ (∀ i, oi O2 (x + 29) i = if i = nl then kd else oi O (x + 29) i) ∧ (∀ i, oi O2 (x + 30) i = if i = nl then am else oi O (x + 30) i) ∧ (∀ i, oi O2 (x + 31) i = if i = nl then nI (s + l.length) else oi O (x + 31) i) ∧
  (∀ i, oi O2 (x + 32) i = if s ≤ i ∧ i < s + l.length then (l.map cod).getD (i - s) 0 else oi O (x + 32) i)
theorem dr1_5 {O O1 O2 : jO} {x nl s : Nat} {kd am : Int32} {l : List (Int32 × Int32)} (f : ∀ a j : Nat, ¬ (a = x + 1 ∧ j = 5) → O1 a j = O a j) (D : dr1 O1 O2 x nl s kd am l) : dr1 O O2 x nl s kd am l := by
  have g : ∀ a j : Nat, ¬ (a = x + 1 ∧ j = 5) → oi O1 a j = oi O a j := fun a j h => by unfold oi; rw [f a j h]
  obtain ⟨d0, d1, d2, d3, d4⟩ := D
  exact ⟨d0, fun i => by rw [d1 i, g _ _ (by omega)], fun i => by rw [d2 i, g _ _ (by omega)], fun i => by rw [d3 i, g _ _ (by omega)], fun i => by rw [d4 i, g _ _ (by omega)]⟩
theorem E_X2_begin {n : Nat} {a0 : Nat} {h : jH} {q : jH} (hf : F_X2_begin n a0 h = some q) : oi (oc q) a0 7 = 1 ∧ oi (oc q) a0 8 = 0 ∧ oi (oc q) a0 6 = 0 ∧ (∀ a k : Nat, ¬ (a = a0 ∧ (k = 6 ∨ k = 7 ∨ k = 8)) → oc q a k = oc h a k) ∧ q.1 = h.1 := by
  unfold F_X2_begin at hf
  replace hf := jbind hf
  obtain ⟨h2, e1, hf⟩ := hf
  obtain ⟨o1, z1⟩ := oc_pf e1
  clear e1
  replace hf := jbind hf
  obtain ⟨h7, e2, hf⟩ := hf
  obtain ⟨o2, z2⟩ := oc_pf e2
  clear e2
  replace hf := jbind hf
  obtain ⟨h12, e3, hf⟩ := hf
  obtain ⟨o3, z3⟩ := oc_pf e3
  clear e3
  cases hf
  -- leaf : h12
  exact ⟨by rw [o3, oi_ne (Or.inr (by decide)), o2, oi_ne (Or.inr (by decide)), o1, oi_eq], by rw [o3, oi_ne (Or.inr (by decide)), o2, oi_eq], by rw [o3, oi_eq], fun a k u => by rw [o3, u2_ne (by omega), o2, u2_ne (by omega), o1, u2_ne (by omega)], z3.trans (z2.trans z1)⟩
theorem E_X2_addLine {x : Nat} {nl : Nat} {s : Nat} {n : Nat} {a0 : Nat} {x1 : Int32} {x2 : Int32} {h : jH} {q : jH} (ha : a0 = x + 28) (D : dr0 (oc h) x nl s) (hn : nl < 12) (hf : F_X2_addLine n a0 x1 x2 h = some q) : dr1 (oc h) (oc q) x nl s x1 x2 [] ∧ (∀ a k : Nat, ¬ (a = x + 28 ∧ k = 8) → ¬ (x + 29 ≤ a ∧ a ≤ x + 31) → oc q a k = oc h a k) ∧ q.1 = h.1 := by
  unfold F_X2_addLine at hf
  subst ha
  obtain ⟨LS, g8, g6⟩ := D
  replace hf := jbind hf
  obtain ⟨v1, e1, hf⟩ := hf
  have r1 := oc_gI e1
  subst r1
  clear e1
  replace hf := jite hf
  rcases hf with ⟨c2, hf⟩ | ⟨c2, hf⟩
  · skip
    cases hf
    -- leaf 0: h
    rw [g8, Int32.le_iff_toInt_le, nI_toInt (by omega), show (12 : Int32).toInt = 12 from rfl] at c2
    omega
  · skip
    replace hf := jbind hf
    obtain ⟨p10, e3, hf⟩ := hf
    have r3 := oc_gR e3
    rw [LS.1] at r3
    cases r3
    clear e3
    replace hf := jbind hf
    obtain ⟨v14, e4, hf⟩ := hf
    have r4 := oc_gI e4
    subst r4
    clear e4
    replace hf := jbind hf
    obtain ⟨h18, e5, hf⟩ := hf
    obtain ⟨o5, z5, y5⟩ := oc_as e5
    rw [jnar0] at o5
    clear e5
    replace hf := jbind hf
    obtain ⟨p20, e6, hf⟩ := hf
    have r6 := oc_gR e6
    rw [o5] at r6
    rw [u2_ne (Or.inl (by omega))] at r6
    rw [LS.2.1] at r6
    cases r6
    clear e6
    replace hf := jbind hf
    obtain ⟨v24, e7, hf⟩ := hf
    have r7 := oc_gI e7
    rw [o5] at r7
    rw [oi_ne (Or.inl (by omega))] at r7
    subst r7
    clear e7
    replace hf := jbind hf
    obtain ⟨h28, e8, hf⟩ := hf
    obtain ⟨o8, z8, y8⟩ := oc_as e8
    rw [jnar0] at o8
    clear e8
    replace hf := jbind hf
    obtain ⟨p30, e9, hf⟩ := hf
    have r9 := oc_gR e9
    rw [o8] at r9
    rw [u2_ne (Or.inl (by omega))] at r9
    rw [o5] at r9
    rw [u2_ne (Or.inl (by omega))] at r9
    rw [LS.2.2.1] at r9
    cases r9
    clear e9
    replace hf := jbind hf
    obtain ⟨v34, e10, hf⟩ := hf
    have r10 := oc_gI e10
    rw [o8] at r10
    rw [oi_ne (Or.inl (by omega))] at r10
    rw [o5] at r10
    rw [oi_ne (Or.inl (by omega))] at r10
    subst r10
    clear e10
    replace hf := jbind hf
    obtain ⟨v38, e11, hf⟩ := hf
    have r11 := oc_gI e11
    rw [o8] at r11
    rw [oi_ne (Or.inl (by omega))] at r11
    rw [o5] at r11
    rw [oi_ne (Or.inl (by omega))] at r11
    subst r11
    clear e11
    replace hf := jbind hf
    obtain ⟨h41, e12, hf⟩ := hf
    obtain ⟨o12, z12, y12⟩ := oc_as e12
    rw [jnar0] at o12
    clear e12
    replace hf := jbind hf
    obtain ⟨v44, e13, hf⟩ := hf
    have r13 := oc_gI e13
    rw [o12] at r13
    rw [oi_ne (Or.inl (by omega))] at r13
    rw [o8] at r13
    rw [oi_ne (Or.inl (by omega))] at r13
    rw [o5] at r13
    rw [oi_ne (Or.inl (by omega))] at r13
    subst r13
    clear e13
    replace hf := jbind hf
    obtain ⟨h49, e14, hf⟩ := hf
    obtain ⟨o14, z14⟩ := oc_pf e14
    clear e14
    cases hf
    -- leaf 1: h49
    have o5 : oc h18 = u2 (oc h) (x + 29) _ (.int x1) := o5
    have o8 : oc h28 = u2 (oc h18) (x + 30) _ (.int x2) := o8
    have o12 : oc h41 = u2 (oc h28) (x + 31) _ (.int _) := o12
    rw [g8, nI_cl (by omega)] at o5 o8 o12
    rw [g6] at o12
    rw [g8, nI_1] at o14
    have F : ∀ a k : Nat, ¬ (a = x + 28 ∧ k = 8) → ¬ (x + 29 ≤ a ∧ a ≤ x + 31) → oc q a k = oc h a k := fun a k u1 u2 => by rw [o14, u2_ne (by omega), o12, u2_ne (by omega), o8, u2_ne (by omega), o5, u2_ne (by omega)]
    refine ⟨⟨⟨lawS_J LS (fun a k _ u2 u3 => F a k (by omega) (by omega)), by rw [o14, oi_eq], ?_⟩, fun i => ?_, fun i => ?_, fun i => ?_, fun i => ?_⟩, F, z14.trans (z12.trans (z8.trans z5))⟩
    · rw [o14, oi_ne (Or.inr (by decide)), o12, oi_ne (Or.inl (by omega)), o8, oi_ne (Or.inl (by omega)), o5, oi_ne (Or.inl (by omega))]; exact g6
    · rw [o14, oi_ne (Or.inl (by omega)), o12, oi_ne (Or.inl (by omega)), o8, oi_ne (Or.inl (by omega)), o5]
      by_cases y : i = nl
      · rw [y, oi_eq, if_pos rfl]
      · rw [oi_ne (Or.inr y), if_neg y]
    · rw [o14, oi_ne (Or.inl (by omega)), o12, oi_ne (Or.inl (by omega)), o8]
      by_cases y : i = nl
      · rw [y, oi_eq, if_pos rfl]
      · rw [oi_ne (Or.inr y), if_neg y, o5, oi_ne (Or.inl (by omega))]
    · rw [o14, oi_ne (Or.inl (by omega)), o12]
      by_cases y : i = nl
      · rw [y, oi_eq, if_pos rfl]; rfl
      · rw [oi_ne (Or.inr y), if_neg y, o8, oi_ne (Or.inl (by omega)), o5, oi_ne (Or.inl (by omega))]
    · rw [if_neg (by simp), o14, oi_ne (Or.inl (by omega)), o12, oi_ne (Or.inl (by omega)), o8, oi_ne (Or.inl (by omega)), o5, oi_ne (Or.inl (by omega))]
def rdIf (T : Nat → Int32 × Int32) (k : Nat) : jRd := if (T k).1 = 14 then rdG T 2000 0 0 (k + 1) else .inl (k, [])
theorem E_X3_readLine_76 {b : Nat → Int32} {L : Nat} {m : Nat} {T : Nat → Int32 × Int32} {st : Nat → Nat} {en : Nat → Nat} {x : Nat} {nl : Nat} {k : Nat} {s : Nat} {n : Nat} {a0 : Nat} {x2 : Int32} {sa0 : Nat} {s1 : Int32} {h : jH} {q : Int32 × jH} (H : tkE b L m T st en) (ha : a0 = x + 35) (RS : rlS (oc h) x) (K : ck (oc h) (x + 1) b L m T st k) (D : dr0 (oc h) x nl s) (hn : nl < 12) (sk : s ≤ k) (hs0 : x + 28 = sa0) (hf : F_X3_readLine_76 n a0 x2 sa0 s1 h = some q) : (∀ d, rdIf T k = .inl d → q.1 = 1 ∧ ck (oc q.2) (x + 1) b L m T st d.1 ∧ s + d.2.length ≤ d.1 ∧ dr1 (oc h) (oc q.2) x nl s s1 x2 d.2) ∧ (∀ f, rdIf T k = .inr f → q.1 = 0 ∧ ck (oc q.2) (x + 1) b L m T st f) ∧ frJ x (oc h) (oc q.2) ∧ q.2.1 = h.1 := by
  unfold F_X3_readLine_76 at hf
  subst ha hs0
  replace hf := jbind hf
  obtain ⟨h77, e1, hf⟩ := hf
  replace e1 := (jcv_o e1).2
  obtain ⟨D1, f1, z1⟩ := E_X2_addLine rfl D hn e1
  have K1 : ck (oc h77) (x + 1) b L m T st k := ck_fr K (fun a j h1 h2 => f1 a j (by omega) (by omega))
  have F1 : frJ x (oc h) (oc h77) := fun a j _ u2 u3 => f1 a j (by omega) (by omega)
  have SS1 : rlS (oc h77) x := rlS_J RS F1
  replace hf := jbind hf
  obtain ⟨p81, e2, hf⟩ := hf
  have r2 := oc_gR e2
  rw [SS1.1] at r2
  cases r2
  clear e2
  replace hf := jbind hf
  obtain ⟨q86, e3, hf⟩ := hf
  replace e3 := (jcv_o e3).2
  obtain ⟨r3, f3, z3⟩ := E_X10_take K1 (by decide) e3
  replace hf := jite hf
  rcases hf with ⟨c4, hf⟩ | ⟨c4, hf⟩
  · skip
    cases hf
    -- leaf 0: ((1 : Int32), q86.2)
    rcases r3 with ⟨-, w, -⟩ | ⟨t3, w3⟩
    · exact absurd (c4.symm.trans w) (by decide)
    have E : rdIf T k = .inl (k, []) := if_neg t3
    rw [w3]
    refine ⟨fun d y => ?_, fun f y => (by rw [E] at y; cases y), F1, z1⟩
    rw [E] at y
    cases y
    exact ⟨rfl, K1, sk, D1⟩
  · skip
    replace hf := jbind hf
    obtain ⟨q94, e5, hf⟩ := hf
    replace e5 := (jcv_o e5).2
    rcases r3 with ⟨t3, -, K3⟩ | ⟨-, w⟩
    rotate_left
    · exact absurd (by rw [w]) c4
    have R1 : cc (oc h77) x b L m T st k (nl + 1) s := ⟨K1, SS1, ⟨D1.1.1, D1.1.2.2, D1.1.2.1, by omega, by omega⟩, sk⟩
    have R3 := cc_5 R1 K3 f3 (Nat.le_succ _)
    have A := lwC_p5 f3 z3 ((R_RC H 20).1 (k + 1) (nl + 1) s 0 q86.2 q94 R3 (by omega) e5)
    have E : rdIf T k = rdG T 2000 0 0 (k + 1) := if_pos t3
    replace hf := jite hf
    rcases hf with ⟨c6, hf⟩ | ⟨c6, hf⟩
    · skip
      cases hf
      -- leaf 10: ((0 : Int32), q94.2)
      refine ⟨fun d y => ?_, fun f y => ?_, frJ_tr F1 (frJ_C A.2.2.1), A.2.2.2.trans z1⟩
      · rw [E] at y; exact absurd (c6.symm.trans (A.1 d y).1) (by decide)
      · rw [E] at y; exact ⟨rfl, (A.2.1 f y).2.1⟩
    · skip
      cases hf
      -- leaf 11: ((1 : Int32), q94.2)
      refine ⟨fun d y => ?_, fun f y => ?_, frJ_tr F1 (frJ_C A.2.2.1), A.2.2.2.trans z1⟩
      · rw [E] at y
        obtain ⟨-, R9, w1, w2, w3⟩ := A.1 d y
        obtain ⟨-, d1, d2, d3, d4⟩ := D1
        refine ⟨rfl, R9.1, R9.2.2.2, ⟨R9.2.2.1.1, R9.2.2.1.2.2.1, R9.2.2.1.2.1⟩, fun i => ?_, fun i => ?_, fun i => ?_, fun i => ?_⟩
        · rw [← d1 i]; unfold oi; rw [w3 _ _ (by omega) (by omega) (by omega) (by omega)]
        · rw [← d2 i]; unfold oi; rw [w3 _ _ (by omega) (by omega) (by omega) (by omega)]
        · rw [w2 i, d3 i, List.length_map]
          by_cases z : i = nl
          · by_cases z2 : d.2 = []
            · rw [if_neg (by simp [z2]), if_pos z, if_pos z, z2]
            · rw [if_pos ⟨by omega, by simp [z2]⟩, if_pos z]
          · rw [if_neg (fun y => z (by omega)), if_neg z, if_neg z]
        · rw [w1 i, List.length_map]
          split
          · rfl
          · rw [d4 i, if_neg (by simp)]
      · rw [E] at y; exact absurd (A.2.1 f y).1 c6
theorem E_X3_readLine_27 {b : Nat → Int32} {L : Nat} {m : Nat} {T : Nat → Int32 × Int32} {st : Nat → Nat} {en : Nat → Nat} {x : Nat} {nl : Nat} {k : Nat} {s : Nat} {n : Nat} {a0 : Nat} {x1 : Int32} {h : jH} {q : Int32 × jH} (H : tkE b L m T st en) (ha : a0 = x + 35) (RS : rlS (oc h) x) (K : ck (oc h) (x + 1) b L m T st k) (D : dr0 (oc h) x nl s) (hn : nl < 12) (sk : s ≤ k) (hk : x1 = (T k).1) (hw : (T k).1 = 3 ∨ (T k).1 = 15 ∨ (T k).1 = 16) (hf : F_X3_readLine_27 n a0 x1 h = some q) : (∀ d, rdLT T (k + 1) = .inl d → q.1 = 1 ∧ ck (oc q.2) (x + 1) b L m T st d.1 ∧ s + d.2.length ≤ d.1 ∧ dr1 (oc h) (oc q.2) x nl s (kdL (T k).1) (T (k + 1)).2 d.2) ∧ (∀ f, rdLT T (k + 1) = .inr f → q.1 = 0 ∧ ck (oc q.2) (x + 1) b L m T st f) ∧ frJ x (oc h) (oc q.2) ∧ q.2.1 = h.1 := by
  unfold F_X3_readLine_27 at hf
  subst ha
  have hne : (T k).1 ≠ -1 := by rcases hw with z | z | z <;> rw [z] <;> decide
  replace hf := jbind hf
  obtain ⟨p28, e1, hf⟩ := hf
  have r1 := oc_gR e1
  rw [RS.1] at r1
  cases r1
  clear e1
  replace hf := jbind hf
  obtain ⟨h31, e2, hf⟩ := hf
  replace e2 := (jcv_o e2).2
  obtain ⟨K2, f2, z2⟩ := E_X10_skip K hne e2
  have SS2 : rlS (oc h31) x := rlS_J RS (frJ_5 f2)
  replace hf := jbind hf
  obtain ⟨p35, e3, hf⟩ := hf
  have r3 := oc_gR e3
  rw [SS2.1] at r3
  cases r3
  clear e3
  replace hf := jbind hf
  obtain ⟨q41, e4, hf⟩ := hf
  replace e4 := (jcv_o e4).2
  obtain ⟨r4, f4, z4⟩ := E_X10_takeNumber K2 e4
  have SS4 : rlS (oc q41.2) x := rlS_J SS2 (frJ_5 f4)
  have f24 : ∀ a j : Nat, ¬ (a = x + 1 ∧ j = 5) → oc q41.2 a j = oc h a j := fun a j u => (f4 a j u).trans (f2 a j u)
  have D4 : dr0 (oc q41.2) x nl s := ⟨lawS_J D.1 (frJ_5 f24), by rw [← D.2.1]; unfold oi; rw [f24 _ _ (by omega)], by rw [← D.2.2]; unfold oi; rw [f24 _ _ (by omega)]⟩
  replace hf := jite hf
  rcases hf with ⟨c5, hf⟩ | ⟨c5, hf⟩
  · skip
    cases hf
    -- leaf 0: ((0 : Int32), q41.2)
    rcases r4 with ⟨y4, w, -⟩ | ⟨y4, w⟩
    · exfalso
      have := y4.2.1
      rw [← w, c5] at this
      exact absurd this (by decide)
    have E : rdLT T (k + 1) = .inr (k + 1) := if_neg y4
    rw [w]
    refine ⟨fun d y => (by rw [E] at y; cases y), fun f y => ?_, frJ_5 f2, z2⟩
    rw [E] at y
    cases y
    exact ⟨rfl, K2⟩
  · skip
    replace hf := jbind hf
    obtain ⟨p53, e6, hf⟩ := hf
    have r6 := oc_gR e6
    rw [SS4.2.2] at r6
    cases r6
    clear e6
    replace hf := jite hf
    rcases hf with ⟨c7, hf⟩ | ⟨c7, hf⟩
    · skip
      -- leaf 10: F_X3_readLine_76 n a0 q41.1 p53 (0 : Int32) q41.2
      rcases r4 with ⟨y4, v4, K4⟩ | ⟨-, w⟩
      rotate_left
      · exact absurd (by rw [w]) c5
      obtain ⟨a1, a2, a3, a4⟩ := E_X3_readLine_76 H rfl SS4 K4 D4 hn (by omega) rfl hf
      have E : rdLT T (k + 1) = rdIf T (k + 2) := if_pos y4
      refine ⟨fun d y => ?_, fun f y => ?_, frJ_tr (frJ_5 f24) a3, a4.trans (z4.trans z2)⟩
      · rw [E] at y
        obtain ⟨b1, b2, b3, b4⟩ := a1 d y
        rw [v4] at b4
        rw [show kdL (T k).1 = 0 by rw [← hk, c7]; rfl]
        exact ⟨b1, b2, b3, dr1_5 f24 b4⟩
      · rw [E] at y; exact a2 f y
    · skip
      replace hf := jite hf
      rcases hf with ⟨c8, hf⟩ | ⟨c8, hf⟩
      · skip
        -- leaf 110: F_X3_readLine_76 n a0 q41.1 p53 (1 : Int32) q41.2
        rcases r4 with ⟨y4, v4, K4⟩ | ⟨-, w⟩
        rotate_left
        · exact absurd (by rw [w]) c5
        obtain ⟨a1, a2, a3, a4⟩ := E_X3_readLine_76 H rfl SS4 K4 D4 hn (by omega) rfl hf
        have E : rdLT T (k + 1) = rdIf T (k + 2) := if_pos y4
        refine ⟨fun d y => ?_, fun f y => ?_, frJ_tr (frJ_5 f24) a3, a4.trans (z4.trans z2)⟩
        · rw [E] at y
          obtain ⟨b1, b2, b3, b4⟩ := a1 d y
          rw [v4] at b4
          rw [show kdL (T k).1 = 1 by rw [← hk, c8]; rfl]
          exact ⟨b1, b2, b3, dr1_5 f24 b4⟩
        · rw [E] at y; exact a2 f y
      · skip
        -- leaf 111: F_X3_readLine_76 n a0 q41.1 p53 (2 : Int32) q41.2
        rcases r4 with ⟨y4, v4, K4⟩ | ⟨-, w⟩
        rotate_left
        · exact absurd (by rw [w]) c5
        obtain ⟨a1, a2, a3, a4⟩ := E_X3_readLine_76 H rfl SS4 K4 D4 hn (by omega) rfl hf
        have E : rdLT T (k + 1) = rdIf T (k + 2) := if_pos y4
        refine ⟨fun d y => ?_, fun f y => ?_, frJ_tr (frJ_5 f24) a3, a4.trans (z4.trans z2)⟩
        · rw [E] at y
          obtain ⟨b1, b2, b3, b4⟩ := a1 d y
          rw [v4] at b4
          rw [show kdL (T k).1 = 2 by rw [← hk]; unfold kdL; rw [if_neg c7, if_neg c8]]
          exact ⟨b1, b2, b3, dr1_5 f24 b4⟩
        · rw [E] at y; exact a2 f y
theorem E_X3_readLine {b : Nat → Int32} {L : Nat} {m : Nat} {T : Nat → Int32 × Int32} {st : Nat → Nat} {en : Nat → Nat} {x : Nat} {nl : Nat} {k : Nat} {s : Nat} {n : Nat} {a0 : Nat} {h : jH} {q : Int32 × jH} (H : tkE b L m T st en) (ha : a0 = x + 35) (RS : rlS (oc h) x) (K : ck (oc h) (x + 1) b L m T st k) (D : dr0 (oc h) x nl s) (hn : nl < 12) (sk : s ≤ k) (hf : F_X3_readLine n a0 h = some q) : (((T k).1 = 3 ∨ (T k).1 = 15 ∨ (T k).1 = 16) → (∀ d, rdLT T (k + 1) = .inl d → q.1 = 1 ∧ ck (oc q.2) (x + 1) b L m T st d.1 ∧ s + d.2.length ≤ d.1 ∧ dr1 (oc h) (oc q.2) x nl s (kdL (T k).1) (T (k + 1)).2 d.2) ∧ (∀ f, rdLT T (k + 1) = .inr f → q.1 = 0 ∧ ck (oc q.2) (x + 1) b L m T st f)) ∧ (¬ ((T k).1 = 3 ∨ (T k).1 = 15 ∨ (T k).1 = 16) → q.1 = 0 ∧ ck (oc q.2) (x + 1) b L m T st k) ∧ frJ x (oc h) (oc q.2) ∧ q.2.1 = h.1 := by
  unfold F_X3_readLine at hf
  subst ha
  replace hf := jbind hf
  obtain ⟨p1, e1, hf⟩ := hf
  have r1 := oc_gR e1
  rw [RS.1] at r1
  cases r1
  clear e1
  replace hf := jbind hf
  obtain ⟨v4, e2, hf⟩ := hf
  replace e2 := (jcv_o e2).2
  have r2 := E_X10_kind K e2
  replace hf := jite hf
  rcases hf with ⟨c3, hf⟩ | ⟨c3, hf⟩
  · skip
    -- leaf 0: F_X3_readLine_27 n a0 v4 h
    have hw : (T k).1 = 3 ∨ (T k).1 = 15 ∨ (T k).1 = 16 := Or.inl (r2.symm.trans c3)
    obtain ⟨a1, a2, a3, a4⟩ := E_X3_readLine_27 H rfl RS K D hn sk r2 hw hf
    exact ⟨fun _ => ⟨a1, a2⟩, fun z => absurd hw z, a3, a4⟩
  · skip
    replace hf := jite hf
    rcases hf with ⟨c4, hf⟩ | ⟨c4, hf⟩
    · skip
      -- leaf 10: F_X3_readLine_27 n a0 v4 h
      have hw : (T k).1 = 3 ∨ (T k).1 = 15 ∨ (T k).1 = 16 := Or.inr (Or.inl (r2.symm.trans c4))
      obtain ⟨a1, a2, a3, a4⟩ := E_X3_readLine_27 H rfl RS K D hn sk r2 hw hf
      exact ⟨fun _ => ⟨a1, a2⟩, fun z => absurd hw z, a3, a4⟩
    · skip
      replace hf := jite hf
      rcases hf with ⟨c5, hf⟩ | ⟨c5, hf⟩
      · skip
        -- leaf 110: F_X3_readLine_27 n a0 v4 h
        have hw : (T k).1 = 3 ∨ (T k).1 = 15 ∨ (T k).1 = 16 := Or.inr (Or.inr (r2.symm.trans c5))
        obtain ⟨a1, a2, a3, a4⟩ := E_X3_readLine_27 H rfl RS K D hn sk r2 hw hf
        exact ⟨fun _ => ⟨a1, a2⟩, fun z => absurd hw z, a3, a4⟩
      · skip
        cases hf
        -- leaf 111: ((0 : Int32), h)
        have hw : ¬ ((T k).1 = 3 ∨ (T k).1 = 15 ∨ (T k).1 = 16) := fun z => by rcases z with z | z | z; exact c3 (r2.trans z); exact c4 (r2.trans z); exact c5 (r2.trans z)
        exact ⟨fun z => absurd z hw, fun _ => ⟨rfl, K⟩, frJ_0, rfl⟩
end
section
/-! the steps of a condition are of their kinds -/
def tyL : List (Int32 × Int32) → List Bool → Option (List Bool)
  | [], ty => some ty
  | e :: t, ty => (tyC e.1 ty).bind (fun u => tyL t u)
theorem tyL_2 : ∀ {l t : List (Int32 × Int32)} {ty u v : List Bool}, tyL l ty = some u → tyL t u = some v → tyL (l ++ t) ty = some v
  | [], t, ty, u, v, a, c => by
    cases a
    exact c
  | e :: l, t, ty, u, v, a, c => by
    show (tyC e.1 ty).bind (fun u => tyL (l ++ t) u) = _
    replace a : (tyC e.1 ty).bind (fun u => tyL l u) = some u := a
    cases hc : tyC e.1 ty with
    | none => rw [hc] at a; cases a
    | some y =>
      rw [hc] at a
      exact tyL_2 (l := l) a c
theorem tyL_1 {e : Int32 × Int32} {ty u : List Bool} (a : tyC e.1 ty = some u) : tyL [e] ty = some u := by
  show (tyC e.1 ty).bind (fun u => some u) = _
  rw [a]
  rfl
theorem tyC_p {s : Int32} {ty : List Bool} (h : s.toInt ≤ 11) (hl : ty.length ≤ 22) : tyC s ty = some ((decide (7 ≤ s.toInt) && decide (s.toInt ≤ 10)) :: ty) := (if_pos h).trans (if_pos hl)
def stepOK (e : Int32 × Int32) : Prop := (0 ≤ e.1.toInt ∧ e.1.toInt ≤ 10) ∨ (e.1 = 11 ∧ 0 ≤ e.2.toInt ∧ e.2.toInt ≤ 999) ∨ e.1 = 12 ∨ e.1 = 13 ∨ e.1 = 14 ∨ e.1 = 15 ∨ e.1 = 16 ∨ e.1 = 17
theorem cod_R {e : Int32 × Int32} (h : stepOK e) : codeR (cod e) e.1 e.2 := by
  obtain ⟨s, n⟩ := e
  unfold stepOK at h
  dsimp only at h ⊢
  rcases h with h | ⟨h, h2, h3⟩ | h | h | h | h | h | h
  · exact Or.inl ⟨h.1, h.2, if_pos h.2⟩
  · subst h
    refine Or.inr (Or.inl ⟨rfl, h2, h3, ?_⟩)
    rw [cod_n]
    have l : (256 : Int32).toInt = 256 := rfl
    rw [jadd (by omega) (by omega), l]
  · subst h; exact Or.inr (Or.inr (Or.inl ⟨rfl, rfl⟩))
  · subst h; exact Or.inr (Or.inr (Or.inr (Or.inl ⟨rfl, rfl⟩)))
  · subst h; exact Or.inr (Or.inr (Or.inr (Or.inr (Or.inl ⟨rfl, rfl⟩))))
  · subst h; exact Or.inr (Or.inr (Or.inr (Or.inr (Or.inr (Or.inl ⟨rfl, rfl⟩)))))
  · subst h; exact Or.inr (Or.inr (Or.inr (Or.inr (Or.inr (Or.inr (Or.inl ⟨rfl, rfl⟩))))))
  · subst h; exact Or.inr (Or.inr (Or.inr (Or.inr (Or.inr (Or.inr (Or.inr ⟨rfl, rfl⟩))))))
def okL (l : List (Int32 × Int32)) : Prop := ∀ e ∈ l, stepOK e
theorem okL_2 {l t : List (Int32 × Int32)} (a : okL l) (c : okL t) : okL (l ++ t) := fun e h => by
  rcases List.mem_append.mp h with y | y
  · exact a e y
  · exact c e y
theorem okL_1 {e : Int32 × Int32} (h : stepOK e) : okL [e] := fun f y => by
  have : f = e := by simpa using y
  subst this; exact h
theorem okL_0 : okL [] := fun f y => by cases y
section
variable {T : Nat → Int32 × Int32}
theorem part_t {k : Nat} {d : Nat × List (Int32 × Int32)} (e : rdPart T k = .inl d) : okL d.2 ∧ ∀ ty : List Bool, ty.length ≤ 22 → tyL d.2 ty = some (false :: ty) := by
  unfold rdPart at e
  split at e
  · rename_i z
    cases e
    refine ⟨okL_1 (Or.inl ⟨z.1, by dsimp only; omega⟩), fun ty h => tyL_1 ?_⟩
    dsimp only
    rw [tyC_p (by omega) h, show decide (7 ≤ (T k).1.toInt) = false from decide_eq_false (by omega)]
    rfl
  · split at e
    · rename_i z
      cases e
      obtain ⟨-, a, c⟩ := z
      rw [Int32.le_iff_toInt_le] at a c
      exact ⟨okL_1 (Or.inr (Or.inl ⟨rfl, a, c⟩)), fun ty h => tyL_1 (tyC_p (show (11 : Int32).toInt ≤ 11 by decide) h)⟩
    · cases e
theorem sl_t : ∀ (F : Nat) {k : Nat} {d : Nat × List (Int32 × Int32)}, rdSL T F k = .inl d → okL d.2 ∧ ∀ ty : List Bool, ty.length ≤ 21 → tyL d.2 (false :: ty) = some (false :: ty)
  | 0, k, d, e => by cases e
  | F + 1, k, d, e => by
    unfold rdSL at e
    split at e
    · obtain ⟨d1, e1, a1, a2, a3⟩ := sq_inv e
      obtain ⟨d2, e2, b1, b2, b3⟩ := sq_inv a2
      cases b1
      obtain ⟨c1, c2⟩ := part_t a1
      obtain ⟨g1, g2⟩ := sl_t F b2
      subst a3 b3
      exact ⟨okL_2 c1 (okL_2 (okL_1 (Or.inr (Or.inr (Or.inl rfl)))) g1), fun ty h => tyL_2 (c2 (false :: ty) (by simp; omega)) (tyL_2 (tyL_1 rfl) (g2 ty h))⟩
    · cases e
      exact ⟨okL_0, fun ty h => rfl⟩
theorem sum_t {F k : Nat} {d : Nat × List (Int32 × Int32)} (e : rdSum T F k = .inl d) : okL d.2 ∧ ∀ ty : List Bool, ty.length ≤ 21 → tyL d.2 ty = some (false :: ty) := by
  obtain ⟨d1, e1, a1, a2, a3⟩ := sq_inv e
  obtain ⟨c1, c2⟩ := part_t a1
  obtain ⟨g1, g2⟩ := sl_t F a2
  subst a3
  exact ⟨okL_2 c1 g1, fun ty h => tyL_2 (c2 ty (by omega)) (g2 ty h)⟩
theorem g_t : ∀ (F : Nat) {w dp k : Nat} {d : Nat × List (Int32 × Int32)}, w ≤ 4 → dp ≤ 6 → rdG T F w dp k = .inl d → okL d.2 ∧ ∀ ty : List Bool, (w = 0 → ty.length ≤ 2 * dp → tyL d.2 ty = some (true :: ty)) ∧ (w = 1 → ty.length ≤ 2 * dp + 2 → tyL d.2 ty = some (true :: ty)) ∧ (w = 2 → ty.length ≤ 2 * dp + 1 → tyL d.2 ty = some (true :: ty)) ∧ (w = 3 → ty.length ≤ 2 * dp + 1 → tyL d.2 (true :: ty) = some (true :: ty)) ∧ (w = 4 → ty.length ≤ 2 * dp → tyL d.2 (true :: ty) = some (true :: ty))
  | 0, w, dp, k, d, hw, hd, e => by cases e
  | F + 1, w, dp, k, d, hw, hd, e => by
    rcases (by omega : w = 0 ∨ w = 1 ∨ w = 2 ∨ w = 3 ∨ w = 4) with y | y | y | y | y <;> subst y
    · rw [rdG_0] at e
      obtain ⟨d1, e1, a1, a2, a3⟩ := sq_inv e
      obtain ⟨c1, c2⟩ := g_t F (by decide) hd a1
      obtain ⟨g1, g2⟩ := g_t F (by decide) hd a2
      subst a3
      exact ⟨okL_2 c1 g1, fun ty => ⟨fun _ h => tyL_2 ((c2 ty).2.2.1 rfl (by omega)) ((g2 ty).2.2.2.2 rfl h), fun z => absurd z (by decide), fun z => absurd z (by decide), fun z => absurd z (by decide), fun z => absurd z (by decide)⟩⟩
    · have fin : ∀ {l : List (Int32 × Int32)}, okL l → (∀ ty : List Bool, ty.length ≤ 2 * dp + 2 → tyL l ty = some (true :: ty)) → okL l ∧ ∀ ty : List Bool, (1 = 0 → ty.length ≤ 2 * dp → tyL l ty = some (true :: ty)) ∧ (1 = 1 → ty.length ≤ 2 * dp + 2 → tyL l ty = some (true :: ty)) ∧ (1 = 2 → ty.length ≤ 2 * dp + 1 → tyL l ty = some (true :: ty)) ∧ (1 = 3 → ty.length ≤ 2 * dp + 1 → tyL l (true :: ty) = some (true :: ty)) ∧ (1 = 4 → ty.length ≤ 2 * dp → tyL l (true :: ty) = some (true :: ty)) := fun a c => ⟨a, fun ty => ⟨fun z => absurd z (by decide), fun _ h => c ty h, fun z => absurd z (by decide), fun z => absurd z (by decide), fun z => absurd z (by decide)⟩⟩
      rw [rdG_1] at e
      split at e
      · split at e
        · cases e
        · rename_i d6
          obtain ⟨d1, e1, a1, a2, a3⟩ := sq_inv e
          obtain ⟨c1, c2⟩ := g_t F (by decide) (by omega) a1
          split at a2
          · cases a2
            subst a3
            exact fin (by rw [List.append_nil]; exact c1) (fun ty h => by rw [List.append_nil]; exact (c2 ty).1 rfl (by omega))
          · cases a2
      · split at e
        · split at e
          · cases e
          · rename_i d6
            obtain ⟨d1, e1, a1, a2, a3⟩ := sq_inv e
            obtain ⟨c1, c2⟩ := g_t F (by decide) (by omega) a1
            cases a2
            subst a3
            exact fin (okL_2 c1 (okL_1 (Or.inr (Or.inr (Or.inr (Or.inr (Or.inr (Or.inl rfl)))))))) (fun ty h => tyL_2 ((c2 ty).2.1 rfl (by omega)) (tyL_1 rfl))
        · split at e
          · rename_i z
            cases e
            refine fin (okL_1 (Or.inl ⟨by dsimp only; omega, z.2⟩)) (fun ty h => tyL_1 ?_)
            dsimp only
            rw [tyC_p (by omega) (by omega), show decide (7 ≤ (T k).1.toInt) = true from decide_eq_true z.1, show decide ((T k).1.toInt ≤ 10) = true from decide_eq_true z.2]
            rfl
          · obtain ⟨d1, e1, a1, a2, a3⟩ := sq_inv e
            obtain ⟨c1, c2⟩ := sum_t a1
            split at a2
            · obtain ⟨d2, e2, b1, b2, b3⟩ := sq_inv a2
              obtain ⟨g1, g2⟩ := sum_t b1
              cases b2
              subst a3 b3
              exact fin (okL_2 c1 (okL_2 g1 (okL_1 (Or.inr (Or.inr (Or.inr (Or.inl rfl))))))) (fun ty h => tyL_2 (c2 ty (by omega)) (tyL_2 (g2 (false :: ty) (by simp; omega)) (tyL_1 rfl)))
            · split at a2
              · obtain ⟨d2, e2, b1, b2, b3⟩ := sq_inv a2
                obtain ⟨g1, g2⟩ := sum_t b1
                cases b2
                subst a3 b3
                exact fin (okL_2 c1 (okL_2 g1 (okL_1 (Or.inr (Or.inr (Or.inr (Or.inr (Or.inl rfl)))))))) (fun ty h => tyL_2 (c2 ty (by omega)) (tyL_2 (g2 (false :: ty) (by simp; omega)) (tyL_1 rfl)))
              · cases a2
    · rw [rdG_2] at e
      obtain ⟨d1, e1, a1, a2, a3⟩ := sq_inv e
      obtain ⟨c1, c2⟩ := g_t F (by decide) hd a1
      obtain ⟨g1, g2⟩ := g_t F (by decide) hd a2
      subst a3
      exact ⟨okL_2 c1 g1, fun ty => ⟨fun z => absurd z (by decide), fun z => absurd z (by decide), fun _ h => tyL_2 ((c2 ty).2.1 rfl (by omega)) ((g2 ty).2.2.2.1 rfl h), fun z => absurd z (by decide), fun z => absurd z (by decide)⟩⟩
    · rw [rdG_3] at e
      split at e
      · obtain ⟨d1, e1, a1, a2, a3⟩ := sq_inv e
        obtain ⟨d2, e2, b1, b2, b3⟩ := sq_inv a2
        cases b1
        obtain ⟨c1, c2⟩ := g_t F (by decide) hd a1
        obtain ⟨g1, g2⟩ := g_t F (by decide) hd b2
        subst a3 b3
        exact ⟨okL_2 c1 (okL_2 (okL_1 (Or.inr (Or.inr (Or.inr (Or.inr (Or.inr (Or.inr (Or.inl rfl)))))))) g1), fun ty => ⟨fun z => absurd z (by decide), fun z => absurd z (by decide), fun z => absurd z (by decide), fun _ h => tyL_2 ((c2 (true :: ty)).2.1 rfl (by simp; omega)) (tyL_2 (tyL_1 rfl) ((g2 ty).2.2.2.1 rfl h)), fun z => absurd z (by decide)⟩⟩
      · cases e
        exact ⟨okL_0, fun ty => ⟨fun z => absurd z (by decide), fun z => absurd z (by decide), fun z => absurd z (by decide), fun _ h => rfl, fun z => absurd z (by decide)⟩⟩
    · rw [rdG_4] at e
      split at e
      · obtain ⟨d1, e1, a1, a2, a3⟩ := sq_inv e
        obtain ⟨d2, e2, b1, b2, b3⟩ := sq_inv a2
        cases b1
        obtain ⟨c1, c2⟩ := g_t F (by decide) hd a1
        obtain ⟨g1, g2⟩ := g_t F (by decide) hd b2
        subst a3 b3
        exact ⟨okL_2 c1 (okL_2 (okL_1 (Or.inr (Or.inr (Or.inr (Or.inr (Or.inr (Or.inr (Or.inr rfl)))))))) g1), fun ty => ⟨fun z => absurd z (by decide), fun z => absurd z (by decide), fun z => absurd z (by decide), fun z => absurd z (by decide), fun _ h => tyL_2 ((c2 (true :: ty)).2.2.1 rfl (by simp; omega)) (tyL_2 (tyL_1 rfl) ((g2 ty).2.2.2.2 rfl h))⟩⟩
      · cases e
        exact ⟨okL_0, fun ty => ⟨fun z => absurd z (by decide), fun z => absurd z (by decide), fun z => absurd z (by decide), fun z => absurd z (by decide), fun _ h => rfl⟩⟩
/-- the steps of a line -/
theorem lt_t {k : Nat} {d : Nat × List (Int32 × Int32)} (e : rdLT T k = .inl d) : okL d.2 ∧ (tyL d.2 [] = some [] ∨ tyL d.2 [] = some [true]) ∧ nOK T k 0 100 := by
  unfold rdLT at e
  split at e
  · rename_i z
    split at e
    · obtain ⟨c1, c2⟩ := g_t 2000 (by decide) (by decide) e
      exact ⟨c1, Or.inr ((c2 []).1 rfl (by simp)), z⟩
    · cases e
      exact ⟨okL_0, Or.inl rfl, z⟩
  · cases e
end
end
section
/-! the draft of a law and the reference's draft tell the same lines -/
theorem emW_hi : ∀ (l : List (Int32 × Int32)) (W : jWd) (s i : Nat), emW W s l i = if 1333 + 2 * s ≤ i ∧ i < 1333 + 2 * (s + l.length) then (if (i - 1333) % 2 = 0 then (l.getD ((i - 1333) / 2 - s) (0, 0)).1 else (l.getD ((i - 1333) / 2 - s) (0, 0)).2) else W i
  | [], W, s, i => by
    rw [if_neg (by simp)]
    rfl
  | e :: t, W, s, i => by
    show emW (upd (upd W (1333 + 2 * s) e.1) (1334 + 2 * s) e.2) (s + 1) t i = _
    rw [emW_hi t _ (s + 1) i, List.length_cons]
    by_cases y : i = 1333 + 2 * s
    · subst y
      rw [if_neg (by omega), upd_ne (by omega), upd_eq, if_pos (by omega), if_pos (by omega), show (1333 + 2 * s - 1333) / 2 - s = 0 by omega]
      rfl
    · by_cases z : i = 1334 + 2 * s
      · subst z
        rw [if_neg (by omega), upd_eq, if_pos (by omega), if_neg (by omega), show (1334 + 2 * s - 1333) / 2 - s = 0 by omega]
        rfl
      · by_cases u : 1333 + 2 * (s + 1) ≤ i ∧ i < 1333 + 2 * (s + 1 + t.length)
        · rw [if_pos u, if_pos (show 1333 + 2 * s ≤ i ∧ i < 1333 + 2 * (s + (t.length + 1)) by omega), show (i - 1333) / 2 - s = ((i - 1333) / 2 - (s + 1)) + 1 by omega]
          rfl
        · rw [if_neg u, upd_ne (by omega), upd_ne (by omega), if_neg (by omega)]
theorem lnW_at {W : jWd} {n s : Nat} {e : jLn} (hn : n < 12) : lnW W n s e (1285 + 4 * n) = e.1.1 ∧ lnW W n s e (1286 + 4 * n) = e.1.2 ∧ lnW W n s e (1287 + 4 * n) = nI s ∧ lnW W n s e (1288 + 4 * n) = nI (s + e.2.length) := by
  unfold lnW
  refine ⟨?_, ?_, ?_, ?_⟩
  · rw [upd_ne (by omega), emW_lo _ _ _ (by omega), upd_ne (by omega), upd_ne (by omega), upd_eq]
  · rw [upd_ne (by omega), emW_lo _ _ _ (by omega), upd_ne (by omega), upd_eq]
  · rw [upd_ne (by omega), emW_lo _ _ _ (by omega), upd_eq]
  · rw [upd_eq]
theorem lnW_old {W : jWd} {n s i : Nat} {e : jLn} (hn : n < 12) (h : (1285 ≤ i ∧ i < 1285 + 4 * n) ∨ (1333 ≤ i ∧ i < 1333 + 2 * s)) : lnW W n s e i = W i := by
  unfold lnW
  rw [upd_ne (by omega), emW_hi, if_neg (by omega), upd_ne (by omega), upd_ne (by omega), upd_ne (by omega)]
theorem lnW_st {W : jWd} {n s j : Nat} {e : jLn} (hn : n < 12) (h : s ≤ j ∧ j < s + e.2.length) : lnW W n s e (1333 + 2 * j) = (e.2.getD (j - s) (0, 0)).1 ∧ lnW W n s e (1334 + 2 * j) = (e.2.getD (j - s) (0, 0)).2 := by
  unfold lnW
  refine ⟨?_, ?_⟩
  · rw [upd_ne (by omega), emW_hi, if_pos (by omega), if_pos (by omega), show (1333 + 2 * j - 1333) / 2 - s = j - s by omega]
  · rw [upd_ne (by omega), emW_hi, if_pos (by omega), if_neg (by omega), show (1334 + 2 * j - 1333) / 2 - s = j - s by omega]
theorem tyR_L {W : jWd} {s : Nat} {l : List (Int32 × Int32)} (h : ∀ i, i < l.length → W (484 + 2 * (s + i)) = (l.getD i (0, 0)).1) : ∀ k, k ≤ l.length → tyR W s k = tyL (l.take k) []
  | 0, _ => rfl
  | k + 1, hk => by
    unfold tyR
    rw [tyR_L h k (by omega), List.take_add_one, List.getElem?_eq_getElem (by omega)]
    have e : W (484 + 2 * (s + k)) = (l[k]'(by omega)).1 := by rw [h k (by omega), List.getD_eq_getElem?_getD, List.getElem?_eq_getElem (by omega)]; rfl
    rw [e]
    cases hc : tyL (l.take k) [] with
    | none =>
      have : ∀ (u t : List (Int32 × Int32)) (ty : List Bool), tyL u ty = none → tyL (u ++ t) ty = none := by
        intro u
        induction u with
        | nil => intro t ty q; cases q
        | cons a u ih =>
          intro t ty q
          show (tyC a.1 ty).bind (fun v => tyL (u ++ t) v) = none
          replace q : (tyC a.1 ty).bind (fun v => tyL u v) = none := q
          cases ha : tyC a.1 ty with
          | none => rfl
          | some v => rw [ha] at q; exact ih t v q
      rw [this _ _ _ hc]
      rfl
    | some u =>
      show tyC (l[k]'(by omega)).1 u = _
      cases hd : tyC (l[k]'(by omega)).1 u with
      | none =>
        have : ∀ (v : List (Int32 × Int32)) (ty : List Bool) (e : Int32 × Int32), tyL v ty = some u → tyC e.1 u = none → tyL (v ++ [e]) ty = none := by
          intro v
          induction v with
          | nil => intro ty e q r; cases q; show (tyC e.1 _).bind _ = none; rw [r]; rfl
          | cons a v ih =>
            intro ty e q r
            show (tyC a.1 ty).bind (fun w => tyL (v ++ [e]) w) = none
            replace q : (tyC a.1 ty).bind (fun w => tyL v w) = some u := q
            cases ha : tyC a.1 ty with
            | none => rfl
            | some w => rw [ha] at q; exact ih w e q r
        exact (this _ _ _ hc hd).symm
      | some w => exact (tyL_2 hc (tyL_1 hd)).symm
/-- the draft's arrays tell the lines of V (at its draft's places): nl lines, s codes -/
def dE (O : jO) (x : Nat) (V : jWd) (nl s : Nat) : Prop := linE O (x + 28) (fun k => V (k + 849)) nl ∧ (∀ i, i < nl → (V (1288 + 4 * i)).toInt ≤ (s : Int)) ∧ (nl = 0 → s = 0) ∧ (0 < nl → V (1288 + 4 * (nl - 1)) = nI s)
theorem dE_0 {O : jO} {x : Nat} {V : jWd} : dE O x V 0 0 := ⟨fun i hi => by omega, fun i hi => by omega, fun _ => rfl, fun h => by omega⟩
theorem dE_s {O O2 : jO} {x nl s : Nat} {V : jWd} {kd am : Int32} {l : List (Int32 × Int32)} (D : dE O x V nl s) (hn : nl < 12) (hs : s + l.length ≤ 400) (N : dr1 O O2 x nl s kd am l) (ok : okL l) (ty : tyL l [] = some [] ∨ tyL l [] = some [true]) (ha : 0 ≤ am.toInt ∧ am.toInt ≤ 100) : dE O2 x (lnW V nl s ((kd, am), l)) (nl + 1) (s + l.length) := by
  obtain ⟨LE, mono, z0, zl⟩ := D
  obtain ⟨-, n1, n2, n3, n4⟩ := N
  obtain ⟨a1, a2, a3, a4⟩ := lnW_at (W := V) (s := s) (e := ((kd, am), l)) hn
  have old : ∀ i, (1285 ≤ i ∧ i < 1285 + 4 * nl) ∨ (1333 ≤ i ∧ i < 1333 + 2 * s) → lnW V nl s ((kd, am), l) i = V i := fun i h => lnW_old hn h
  refine ⟨fun i hi => ?_, fun i hi => ?_, fun h => by omega, fun _ => ?_⟩
  · by_cases y : i = nl
    · subst y
      show oi O2 (x + 29) i = lnW V i s ((kd, am), l) (436 + 4 * i + 849) ∧ oi O2 (x + 30) i = lnW V i s ((kd, am), l) (437 + 4 * i + 849) ∧ oi O2 (x + 31) i = lnW V i s ((kd, am), l) (439 + 4 * i + 849) ∧ lnW V i s ((kd, am), l) (438 + 4 * i + 849) = (if i = 0 then 0 else lnW V i s ((kd, am), l) (439 + 4 * (i - 1) + 849)) ∧ 0 ≤ (lnW V i s ((kd, am), l) (438 + 4 * i + 849)).toInt ∧ (lnW V i s ((kd, am), l) (438 + 4 * i + 849)).toInt ≤ (lnW V i s ((kd, am), l) (439 + 4 * i + 849)).toInt ∧ (lnW V i s ((kd, am), l) (439 + 4 * i + 849)).toInt ≤ 400 ∧ 0 ≤ (lnW V i s ((kd, am), l) (437 + 4 * i + 849)).toInt ∧ (lnW V i s ((kd, am), l) (437 + 4 * i + 849)).toInt ≤ 100 ∧
        (∀ j : Nat, (lnW V i s ((kd, am), l) (438 + 4 * i + 849)).toInt ≤ (j : Int) → (j : Int) < (lnW V i s ((kd, am), l) (439 + 4 * i + 849)).toInt → codeR (oi O2 (x + 32) j) (lnW V i s ((kd, am), l) (484 + 2 * j + 849)) (lnW V i s ((kd, am), l) (485 + 2 * j + 849))) ∧
        (∃ ty, tyR (fun k => lnW V i s ((kd, am), l) (k + 849)) (lnW V i s ((kd, am), l) (438 + 4 * i + 849)).toInt.toNat ((lnW V i s ((kd, am), l) (439 + 4 * i + 849)).toInt.toNat - (lnW V i s ((kd, am), l) (438 + 4 * i + 849)).toInt.toNat) = some ty ∧ (ty = [] ∨ ty = [true]))
      rw [show 436 + 4 * i + 849 = 1285 + 4 * i by omega, show 437 + 4 * i + 849 = 1286 + 4 * i by omega, show 438 + 4 * i + 849 = 1287 + 4 * i by omega, show 439 + 4 * i + 849 = 1288 + 4 * i by omega, a1, a2, a3, a4, nI_toInt (by omega), nI_toInt (by dsimp only; omega)]
      dsimp only
      refine ⟨by rw [n1 i, if_pos rfl], by rw [n2 i, if_pos rfl], by rw [n3 i, if_pos rfl], ?_, by omega, by omega, by omega, ha.1, ha.2, fun j h1 h2 => ?_, ?_⟩
      · by_cases z : i = 0
        · rw [if_pos z, z0 z]; rfl
        · rw [if_neg z, old _ (by omega), show 439 + 4 * (i - 1) + 849 = 1288 + 4 * (i - 1) by omega, zl (by omega)]
      · obtain ⟨b1, b2⟩ := lnW_st (W := V) (n := i) (s := s) (j := j) (e := ((kd, am), l)) hn (by dsimp only; omega)
        rw [show 484 + 2 * j + 849 = 1333 + 2 * j by omega, show 485 + 2 * j + 849 = 1334 + 2 * j by omega, b1, b2, n4 j, if_pos (by omega)]
        have hj : j - s < l.length := by omega
        have e1 : (l.map cod).getD (j - s) 0 = cod (l.getD (j - s) (0, 0)) := by
          rw [List.getD_eq_getElem?_getD, List.getD_eq_getElem?_getD, List.getElem?_map, List.getElem?_eq_getElem hj]
          rfl
        have e2 : l.getD (j - s) (0, 0) ∈ l := by
          rw [List.getD_eq_getElem?_getD, List.getElem?_eq_getElem hj]
          exact List.getElem_mem hj
        rw [e1]
        exact cod_R (ok _ e2)
      · rw [show ((s : Int)).toNat = s by omega, show ((s + l.length : Nat) : Int).toNat - s = l.length by omega]
        have t := tyR_L (W := fun k => lnW V i s ((kd, am), l) (k + 849)) (s := s) (l := l) (fun q hq => by
          obtain ⟨b1, -⟩ := lnW_st (W := V) (n := i) (s := s) (j := s + q) (e := ((kd, am), l)) hn (by dsimp only; omega)
          try dsimp only at b1
          try dsimp only
          rw [show 484 + 2 * (s + q) + 849 = 1333 + 2 * (s + q) by omega, b1, show s + q - s = q by omega]) l.length (Nat.le_refl _)
        rw [List.take_length] at t
        rw [t]
        rcases ty with q | q
        · exact ⟨[], q, Or.inl rfl⟩
        · exact ⟨[true], q, Or.inr rfl⟩
    · have hi2 : i < nl := by omega
      have m9 := mono i hi2
      obtain ⟨c1, c2, c3, c4, c5, c6, c7, c8, c9, c10, c11⟩ := LE i hi2
      try dsimp only at c1 c2 c3 c4 c5 c6 c7 c8 c9 c10 c11
      try dsimp only
      have m9b : (V (439 + 4 * i + 849)).toInt ≤ (s : Int) := by rw [show 439 + 4 * i + 849 = 1288 + 4 * i by omega]; exact m9
      rw [old (436 + 4 * i + 849) (by omega), old (437 + 4 * i + 849) (by omega), old (438 + 4 * i + 849) (by omega), old (439 + 4 * i + 849) (by omega)]
      refine ⟨?_, ?_, ?_, ?_, c5, c6, c7, c8, c9, fun j h1 h2 => ?_, ?_⟩
      · show oi O2 (x + 29) i = _
        rw [n1 i, if_neg y]; exact c1
      · show oi O2 (x + 30) i = _
        rw [n2 i, if_neg y]; exact c2
      · show oi O2 (x + 31) i = _
        rw [n3 i, if_neg y]; exact c3
      · by_cases z : i = 0
        · rw [if_pos z]; rw [if_pos z] at c4; exact c4
        · rw [if_neg z, old _ (by omega)]; rw [if_neg z] at c4; exact c4
      · rw [old _ (by omega), old _ (by omega)]
        show codeR (oi O2 (x + 32) j) _ _
        rw [n4 j, if_neg (by omega)]
        exact c10 j h1 h2
      · obtain ⟨t, q1, q2⟩ := c11
        refine ⟨t, ?_, q2⟩
        rw [← q1]
        have cg : ∀ k, (V (438 + 4 * i + 849)).toInt.toNat + k ≤ s → tyR (fun k => lnW V nl s ((kd, am), l) (k + 849)) (V (438 + 4 * i + 849)).toInt.toNat k = tyR (fun k => V (k + 849)) (V (438 + 4 * i + 849)).toInt.toNat k := by
          intro k
          induction k with
          | zero => intro _; rfl
          | succ k ih =>
            intro hk
            unfold tyR
            rw [ih (by omega)]
            try dsimp only
            rw [old _ (by omega)]
        exact cg _ (by omega)
  · by_cases y : i = nl
    · subst y
      rw [a4, nI_toInt (by dsimp only; omega)]
      exact Int.le_refl _
    · rw [old _ (by omega)]
      have := mono i (by omega)
      omega
  · rw [show nl + 1 - 1 = nl by omega]
    exact a4
end
section
/-! a law's text, the class -/
theorem dE_fr {O O2 : jO} {x nl s : Nat} {V : jWd} (D : dE O x V nl s) (f : ∀ a k : Nat, x + 29 ≤ a → a ≤ x + 32 → O2 a k = O a k) : dE O2 x V nl s := by
  obtain ⟨L, a, b, c⟩ := D
  have g : ∀ a k : Nat, x + 29 ≤ a → a ≤ x + 32 → oi O2 a k = oi O a k := fun a k h1 h2 => by unfold oi; rw [f a k h1 h2]
  refine ⟨fun i hi => ?_, a, b, c⟩
  obtain ⟨c1, c2, c3, c4, c5, c6, c7, c8, c9, c10, c11⟩ := L i hi
  exact ⟨(g (x + 29) i (by omega) (by omega)).trans c1, (g (x + 30) i (by omega) (by omega)).trans c2, (g (x + 31) i (by omega) (by omega)).trans c3, c4, c5, c6, c7, c8, c9, fun j h1 h2 => by have := c10 j h1 h2; rw [show x + 28 + 4 = x + 32 by omega] at this ⊢; rw [g (x + 32) j (by omega) (by omega)]; exact this, c11⟩
def DL (O : jO) (x : Nat) (b : Nat → Int32) (L m : Nat) (T : Nat → Int32 × Int32) (st : Nat → Nat) (W0 : jWd) (S : List jLn) (k : Nat) : Prop :=
  rlS O x ∧ ck O (x + 1) b L m T st k ∧ dr0 O x (lwS W0 S).2.1 (lwS W0 S).2.2 ∧ dE O x (lwS W0 S).1 (lwS W0 S).2.1 (lwS W0 S).2.2 ∧ (lwS W0 S).2.2 ≤ k
theorem DL_5 {O O2 : jO} {x L m k k2 : Nat} {b : Nat → Int32} {T : Nat → Int32 × Int32} {st : Nat → Nat} {W0 : jWd} {S : List jLn} (D : DL O x b L m T st W0 S k) (K : ck O2 (x + 1) b L m T st k2) (f : ∀ a j : Nat, ¬ (a = x + 1 ∧ j = 5) → O2 a j = O a j) (hk : k ≤ k2) : DL O2 x b L m T st W0 S k2 := by
  obtain ⟨a, -, ⟨d1, d2, d3⟩, e, g⟩ := D
  exact ⟨rlS_J a (frJ_5 f), K, ⟨lawS_J d1 (frJ_5 f), by rw [← d2]; unfold oi; rw [f _ _ (by omega)], by rw [← d3]; unfold oi; rw [f _ _ (by omega)]⟩, dE_fr e (fun a k h1 h2 => f a k (by omega)), by omega⟩
theorem law_lineC {x L m k n : Nat} {b : Nat → Int32} {T : Nat → Int32 × Int32} {st en : Nat → Nat} {W0 : jWd} {S : List jLn} {h : jH} {q : Int32 × jH} (H : tkE b L m T st en) (D : DL (oc h) x b L m T st W0 S k) (hn : (lwS W0 S).2.1 < 12) (e : F_X3_readLine n (x + 35) h = some q) :
    (∀ p, rdLaw T S k = .inl p → q.1 = 1 ∧ DL (oc q.2) x b L m T st W0 p.2 p.1) ∧ (∀ f, rdLaw T S k = .inr f → q.1 = 0 ∧ ck (oc q.2) (x + 1) b L m T st f) ∧ frJ x (oc h) (oc q.2) ∧ q.2.1 = h.1 := by
  obtain ⟨RS, K, d0, DE, sk⟩ := D
  obtain ⟨a1, a2, a3, a4⟩ := E_X3_readLine H rfl RS K d0 hn sk e
  refine ⟨fun p y => ?_, fun f y => ?_, a3, a4⟩
  · unfold rdLaw at y
    split at y
    · rename_i t
      split at y
      · cases y
      · rename_i d hd
        cases y
        obtain ⟨v, K2, s2, D2⟩ := (a1 t).1 d hd
        obtain ⟨t1, t2, t3⟩ := lt_t hd
        obtain ⟨-, t4, t5⟩ := t3
        rw [Int32.le_iff_toInt_le] at t4 t5
        have km := K2.2.2.2.2.1
        have m4 := K2.2.2.1
        refine ⟨v, rlS_J RS a3, K2, ?_, ?_, ?_⟩
        · rw [lwS_app]; exact D2.1
        · rw [lwS_app]; exact dE_s DE hn (by omega) D2 t1 t2 ⟨t4, t5⟩
        · rw [lwS_app]; exact s2
    · cases y
  · unfold rdLaw at y
    split at y
    · rename_i t
      split at y
      · rename_i g hg
        cases y
        exact (a1 t).2 _ hg
      · cases y
    · rename_i t
      cases y
      exact a2 t
def lrL (O : jO) (v : Int32) (x : Nat) (st : Nat → Nat) (W0 : jWd) (r : List jLn ⊕ Nat) : Prop := (∀ S, r = .inl S → v = -1 ∧ dr0 O x (lwS W0 S).2.1 (lwS W0 S).2.2 ∧ dE O x (lwS W0 S).1 (lwS W0 S).2.1 (lwS W0 S).2.2 ∧ (lwS W0 S).2.1 ≤ 12) ∧ (∀ f, r = .inr f → v = nI (st f))
theorem lrL_l {O : jO} {v : Int32} {x : Nat} {st : Nat → Nat} {W0 : jWd} {r : List jLn ⊕ Nat} {S : List jLn} (e : r = .inl S) (h : v = -1 ∧ dr0 O x (lwS W0 S).2.1 (lwS W0 S).2.2 ∧ dE O x (lwS W0 S).1 (lwS W0 S).2.1 (lwS W0 S).2.2 ∧ (lwS W0 S).2.1 ≤ 12) : lrL O v x st W0 r := ⟨fun p z => (by rw [e] at z; cases z; exact h), fun f z => (by rw [e] at z; cases z)⟩
theorem lrL_r {O : jO} {v : Int32} {x k : Nat} {st : Nat → Nat} {W0 : jWd} {r : List jLn ⊕ Nat} (e : r = .inr k) (h : v = nI (st k)) : lrL O v x st W0 r := ⟨fun p z => (by rw [e] at z; cases z), fun f z => (by rw [e] at z; cases z; exact h)⟩
theorem rdLaw_n {T : Nat → Int32 × Int32} {S : List jLn} {k : Nat} {p : Nat × List jLn} {W0 : jWd} (e : rdLaw T S k = .inl p) : (lwS W0 p.2).2.1 = (lwS W0 S).2.1 + 1 := by
  unfold rdLaw at e
  split at e
  · split at e
    · cases e
    · cases e
      rw [lwS_app]
  · cases e
theorem E_X4_read_L_22 {n : Nat} {b : Nat → Int32} {L : Nat} {m : Nat} {T : Nat → Int32 × Int32} {st : Nat → Nat} {en : Nat → Nat} {x : Nat} {W0 : jWd} (H : tkE b L m T st en) : ∀ (k : Nat) {a0 : Nat} {x1 : Int32} {h : jH} {q : Int32 × jH} (kk : Nat) (j : Nat) (S : List jLn) (ha : a0 = x + 35) (D : DL (oc h) x b L m T st W0 S kk) (hn : (lwS W0 S).2.1 = j) (hx : x1 = nI j) (hj : j ≤ 12), F_X4_read_L_22 n k a0 x1 h = some q → lrL (oc q.2) q.1 x st W0 (rdLines (rdLaw T) T (12 - j) S kk) ∧ frJ x (oc h) (oc q.2) ∧ q.2.1 = h.1
  | 0, a0, x1, h, q, kk, j, S, ha, D, hn, hx, hj, hf => by cases hf
  | k + 1, a0, x1, h, q, kk, j, S, ha, D, hn, hx, hj, hf => by
    replace hf : F_X4_read_L_22_b n (F_X4_read_L_22 n k) a0 x1 h = some q := hf
    unfold F_X4_read_L_22_b at hf
    subst ha
    replace hf := jbind hf
    obtain ⟨v24, e1, hf⟩ := hf
    have r1 := oc_gI e1
    subst r1
    clear e1
    replace hf := jite hf
    rcases hf with ⟨c2, hf⟩ | ⟨c2, hf⟩
    · skip
      replace hf := jbind hf
      obtain ⟨p85, e3, hf⟩ := hf
      have r3 := oc_gR e3
      rw [D.1.1] at r3
      cases r3
      clear e3
      replace hf := jbind hf
      obtain ⟨v88, e4, hf⟩ := hf
      replace e4 := (jcv_o e4).2
      have r4 := E_X10_start D.2.1 e4
      cases hf
      -- leaf 0: (v88, h)
      have e12 : oi (oc h) (x + 35) 1 = 12 := by unfold oi; rw [D.1.2.1]; rfl
      rw [e12, hx, Int32.le_iff_toInt_le, nI_toInt (by omega), show (12 : Int32).toInt = 12 from rfl] at c2
      rw [show 12 - j = 0 by omega]
      exact ⟨lrL_r rfl r4, frJ_0, rfl⟩
    · skip
      replace hf := jbind hf
      obtain ⟨q31, e5, hf⟩ := hf
      replace e5 := (jcv_o e5).2
      have e12 : oi (oc h) (x + 35) 1 = 12 := by unfold oi; rw [D.1.2.1]; rfl
      rw [e12, hx, Int32.le_iff_toInt_le, nI_toInt (by omega), show (12 : Int32).toInt = 12 from rfl] at c2
      have ej : 12 - j = 12 - (j + 1) + 1 := by omega
      obtain ⟨a1, a2, f5, z5⟩ := law_lineC H D (by omega) e5
      have S5 : rlS (oc q31.2) x := rlS_J D.1 f5
      replace hf := jite hf
      rcases hf with ⟨c6, hf⟩ | ⟨c6, hf⟩
      · skip
        replace hf := jbind hf
        obtain ⟨p38, e7, hf⟩ := hf
        have r7 := oc_gR e7
        rw [S5.1] at r7
        cases r7
        clear e7
        replace hf := jbind hf
        obtain ⟨v41, e8, hf⟩ := hf
        replace e8 := (jcv_o e8).2
        rcases hR : rdLaw T S kk with d | f
        · exact absurd (c6.symm.trans (a1 d hR).1) (by decide)
        obtain ⟨-, K5⟩ := a2 f hR
        have r8 := E_X10_start K5 e8
        cases hf
        -- leaf 10: (v41, q31.2)
        rw [ej]
        exact ⟨lrL_r (rl_r hR) r8, f5, z5⟩
      · skip
        replace hf := jbind hf
        obtain ⟨p46, e9, hf⟩ := hf
        have r9 := oc_gR e9
        rw [S5.1] at r9
        cases r9
        clear e9
        replace hf := jbind hf
        obtain ⟨v49, e10, hf⟩ := hf
        replace e10 := (jcv_o e10).2
        rcases hR : rdLaw T S kk with d | f
        rotate_left
        · exact absurd (a2 f hR).1 c6
        obtain ⟨-, D5⟩ := a1 d hR
        have dn := rdLaw_n (W0 := W0) hR
        have r10 := E_X10_kind D5.2.1 e10
        replace hf := jite hf
        rcases hf with ⟨c11, hf⟩ | ⟨c11, hf⟩
        · skip
          cases hf
          -- leaf 110: ((- 1 : Int32), q31.2)
          rw [ej]
          rw [r10] at c11
          exact ⟨lrL_l (rl_e hR c11) ⟨rfl, D5.2.2.1, D5.2.2.2.1, by omega⟩, f5, z5⟩
        · skip
          replace hf := jbind hf
          obtain ⟨p59, e12, hf⟩ := hf
          have r12 := oc_gR e12
          rw [S5.1] at r12
          cases r12
          clear e12
          replace hf := jbind hf
          obtain ⟨q64, e13, hf⟩ := hf
          replace e13 := (jcv_o e13).2
          obtain ⟨r13, f13, z13⟩ := E_X10_take D5.2.1 (by decide) e13
          have S13 : rlS (oc q64.2) x := rlS_J S5 (frJ_5 f13)
          replace hf := jite hf
          rcases hf with ⟨c14, hf⟩ | ⟨c14, hf⟩
          · skip
            replace hf := jbind hf
            obtain ⟨p71, e15, hf⟩ := hf
            have r15 := oc_gR e15
            rw [S13.1] at r15
            cases r15
            clear e15
            replace hf := jbind hf
            obtain ⟨v74, e16, hf⟩ := hf
            replace e16 := (jcv_o e16).2
            rcases r13 with ⟨-, w, -⟩ | ⟨y, w⟩
            · exact absurd (c14.symm.trans w) (by decide)
            have r16 := E_X10_start (by rw [w]; exact D5.2.1) e16
            cases hf
            -- leaf 1110: (v74, q64.2)
            rw [r10] at c11
            rw [ej]
            exact ⟨lrL_r (rl_x hR c11 y) r16, frJ_tr f5 (frJ_5 f13), z13.trans z5⟩
          · skip
            -- leaf 1111: rc22 a0 (x1 + (1 : Int32)) q64.2
            rcases r13 with ⟨y, -, K13⟩ | ⟨-, w⟩
            rotate_left
            · exact absurd (by rw [w]) c14
            rw [hx] at hf
            obtain ⟨b1, b2, b3⟩ := E_X4_read_L_22 H k (d.1 + 1) (j + 1) d.2 rfl (DL_5 D5 K13 f13 (Nat.le_succ _)) (by omega) (nI_1 j) (by omega) hf
            rw [ej, rl_s hR y]
            exact ⟨b1, frJ_tr f5 (frJ_tr (frJ_5 f13) b2), b3.trans (z13.trans z5)⟩
theorem E_X4_read_L {b : Nat → Int32} {L : Nat} {x : Nat} {W0 : jWd} {n : Nat} {a0 : Nat} {h : jH} {q : Int32 × jH} (C : ctb (oc h) (x + 1) b L) (ha : a0 = x + 35) (RS : rlS (oc h) x) (D0 : dr0 (oc h) x 0 0) (hf : F_X4_read_L n a0 h = some q) : ∃ (m : Nat) (T : Nat → Int32 × Int32) (st en : Nat → Nat), tkE b L m T st en ∧ m ≤ 400 ∧ lrL (oc q.2) q.1 x st W0 (if (T 0).1 = -1 then .inl [] else rdLines (rdLaw T) T 12 [] 0) ∧ (∀ a j : Nat, ¬ (a = x + 1 ∧ (j = 4 ∨ j = 5)) → ¬ (x + 3 ≤ a ∧ a ≤ x + 5) → ¬ (a = x + 28 ∧ (j = 6 ∨ j = 8)) → ¬ (x + 29 ≤ a ∧ a ≤ x + 32) → oc q.2 a j = oc h a j) ∧ q.2.1 = h.1 := by
  unfold F_X4_read_L at hf
  subst ha
  replace hf := jbind hf
  obtain ⟨p1, e1, hf⟩ := hf
  have r1 := oc_gR e1
  rw [RS.1] at r1
  cases r1
  clear e1
  replace hf := jbind hf
  obtain ⟨h4, e2, hf⟩ := hf
  replace e2 := (jcv_o e2).2
  obtain ⟨m, T, st, en, H, K2, f2, z2⟩ := E_X10_scan C e2
  have S2 : rlS (oc h4) x := ⟨(f2 _ _ (by omega) (by omega)).trans RS.1, (f2 _ _ (by omega) (by omega)).trans RS.2.1, (f2 _ _ (by omega) (by omega)).trans RS.2.2⟩
  have D2 : dr0 (oc h4) x 0 0 := ⟨by obtain ⟨y1, y2, y3, y4, y5⟩ := D0.1; exact ⟨(f2 _ _ (by omega) (by omega)).trans y1, (f2 _ _ (by omega) (by omega)).trans y2, (f2 _ _ (by omega) (by omega)).trans y3, (f2 _ _ (by omega) (by omega)).trans y4, (f2 _ _ (by omega) (by omega)).trans y5⟩, by rw [← D0.2.1]; unfold oi; rw [f2 _ _ (by omega) (by omega)], by rw [← D0.2.2]; unfold oi; rw [f2 _ _ (by omega) (by omega)]⟩
  replace hf := jbind hf
  obtain ⟨p8, e3, hf⟩ := hf
  have r3 := oc_gR e3
  rw [S2.1] at r3
  cases r3
  clear e3
  replace hf := jbind hf
  obtain ⟨v11, e4, hf⟩ := hf
  replace e4 := (jcv_o e4).2
  have r4 := E_X10_kind K2 e4
  replace hf := jite hf
  rcases hf with ⟨c5, hf⟩ | ⟨c5, hf⟩
  · skip
    cases hf
    -- leaf 0: ((- 1 : Int32), h4)
    rw [r4] at c5
    refine ⟨m, T, st, en, H, K2.2.2.1, ?_, fun a j u1 u2 _ _ => f2 a j u1 (by omega), z2⟩
    rw [if_pos c5]
    exact lrL_l rfl ⟨rfl, D2, dE_0, by show 0 ≤ 12; omega⟩
  · skip
    -- leaf 1: F_X4_read_L_22 n n a0 (0 : Int32) h4
    rw [r4] at c5
    obtain ⟨a1, a2, a3⟩ := E_X4_read_L_22 (W0 := W0) H n 0 0 [] rfl ⟨S2, K2, D2, dE_0, Nat.le_refl 0⟩ rfl rfl (by omega) hf
    refine ⟨m, T, st, en, H, K2.2.2.1, ?_, fun a j u1 u2 u3 u4 => (a2 a j (by omega) u3 u4).trans (f2 a j u1 (by omega)), a3.trans z2⟩
    rw [if_neg c5]
    exact a1
end
section
/-! law keeps the relation -/
theorem tyR_cc {W W2 : jWd} (h : ∀ k, 436 ≤ k → k < 1284 → W2 k = W k) (a : Nat) : ∀ k, a + k ≤ 400 → tyR W2 a k = tyR W a k
  | 0, _ => rfl
  | k + 1, hk => by
    unfold tyR
    rw [tyR_cc h a k (by omega), h _ (by omega) (by omega)]
theorem linE_cb {O : jO} {l n : Nat} {W W2 : jWd} (D : linE O l W n) (hn : n ≤ 12) (h : ∀ k, 436 ≤ k → k < 1284 → W2 k = W k) : linE O l W2 n := by
  intro i hi
  obtain ⟨a1, a2, a3, a4, a5, a6, a7, a8, a9, a10, a11⟩ := D i hi
  have h4 : (if i = 0 then 0 else W2 (439 + 4 * (i - 1))) = (if i = 0 then 0 else W (439 + 4 * (i - 1)) : Int32) := by
    split
    · rfl
    · exact h _ (by omega) (by omega)
  rw [h4, h (436 + 4 * i) (by omega) (by omega), h (437 + 4 * i) (by omega) (by omega), h (438 + 4 * i) (by omega) (by omega), h (439 + 4 * i) (by omega) (by omega)]
  refine ⟨a1, a2, a3, a4, a5, a6, a7, a8, a9, fun j u w => ?_, ?_⟩
  · rw [h _ (by omega) (by omega), h _ (by omega) (by omega)]; exact a10 j u w
  · rw [tyR_cc h _ _ (by omega)]; exact a11
theorem lawW_lo {W : jWd} {S : List jLn} {k : Nat} (h : k < 435) (h2 : k ≠ 2) : lawW W S k = W k := by
  unfold lawW
  rw [if_neg h2, if_neg (by omega), if_neg (by omega), if_neg (by omega)]
  exact lwS_lo (by omega)
theorem lawW_E {O : jO} {x : Nat} {W : jWd} {S : List jLn} (LS : lawS O (x + 28)) (g7 : oi O (x + 28) 7 = 1) (g8 : oi O (x + 28) 8 = nI (lwS W S).2.1) (hn : (lwS W S).2.1 ≤ 12) (D : dE O x (lwS W S).1 (lwS W S).2.1 (lwS W S).2.2) : lawE O (x + 28) (lawW W S) := by
  have w2 : lawW W S 2 = 1 := if_pos rfl
  have w435 : lawW W S 435 = nI (lwS W S).2.1 := by
    unfold lawW
    rw [if_neg (by decide), if_pos rfl]
  refine ⟨LS, by rw [w2]; exact g7, Or.inr w2, fun _ => ⟨by rw [w435]; exact g8, by rw [w435, nI_toInt (by omega)]; omega, ?_⟩⟩
  rw [w435, nI_toInt (by omega), show ((lwS W S).2.1 : Int).toNat = (lwS W S).2.1 by omega]
  refine linE_cb D.1 hn fun k h1 h2 => ?_
  unfold lawW
  rw [if_neg (by omega), if_neg (by omega), if_pos (by omega)]
theorem rodE_c2 {O : jO} {b : Nat} {W W2 : jWd} (R : rodE O b W) (K : wOK W) (h : ∀ k, k < 435 → k ≠ 2 → W2 k = W k) : rodE O b W2 := by
  have K0 := K.1
  have k9 := K.2.2.2.2.2.2.2.2.2.1
  obtain ⟨S, I, RB, RC, L1, L2, L3⟩ := R
  unfold rodE
  rw [h 0 (by omega) (by omega), h 7 (by omega) (by omega), h 5 (by omega) (by omega), h 6 (by omega) (by omega), h 3 (by omega) (by omega), h 4 (by omega) (by omega), h 8 (by omega) (by omega), h 10 (by omega) (by omega), h 1 (by omega) (by omega)]
  refine ⟨S, I, fun i hi => ?_, RC, ?_⟩
  · rw [h _ (by omega) (by omega), h _ (by omega) (by omega), h _ (by omega) (by omega), h _ (by omega) (by omega), h _ (by omega) (by omega), h _ (by omega) (by omega), h _ (by omega) (by omega), h _ (by omega) (by omega)]
    exact RB i hi
  · unfold logE
    rw [h 9 (by omega) (by omega)]
    refine ⟨L1, L2, fun a ha => ?_⟩
    rw [h _ (by omega) (by omega), h _ (by omega) (by omega), h _ (by omega) (by omega), h _ (by omega) (by omega), h _ (by omega) (by omega), h _ (by omega) (by omega)]
    exact L3 a ha
theorem wOK_c2 {W W2 : jWd} (K : wOK W) (h : ∀ k, k < 75 → k ≠ 2 → W2 k = W k) : wOK W2 := by
  obtain ⟨k0, k1, k2, k3, k4, k5, k6, k7, k8, k9, k10⟩ := K
  unfold wOK
  rw [h 0 (by omega) (by omega), h 3 (by omega) (by omega), h 4 (by omega) (by omega), h 5 (by omega) (by omega), h 6 (by omega) (by omega), h 8 (by omega) (by omega), h 9 (by omega) (by omega), h 1 (by omega) (by omega)]
  refine ⟨k0, fun i hi => ?_, fun i hi => ?_, fun i hi => ?_, k4, k5, k6, k7, k8, k9, k10⟩
  · rw [h _ (by omega) (by omega), h _ (by omega) (by omega), h _ (by omega) (by omega), h _ (by omega) (by omega), h _ (by omega) (by omega), h _ (by omega) (by omega), h _ (by omega) (by omega), h _ (by omega) (by omega)]
    exact k1 i hi
  · rw [h _ (by omega) (by omega), h _ (by omega) (by omega)]
    exact k2 i hi
  · rw [h _ (by omega) (by omega)]
    exact k3 i hi
theorem E_X11_law {b : Nat → Int32} {L : Nat} {x : Nat} {W : jWd} {n : Nat} {a0 : Nat} {h : jH} {q : jR × jH} (ha : x = a0) (X0 : oc h x 0 = .ref (x + 1)) (X3 : oc h x 3 = .ref (x + 19)) (I : rdrS (oc h) x) (C : ctb (oc h) (x + 1) b L) (SL : lawS (oc h) (x + 13)) (hf : F_X11_law n a0 h = some q) : ∃ (m : Nat) (T : Nat → Int32 × Int32) (st en : Nat → Nat), tkE b L m T st en ∧ m ≤ 400 ∧ (∀ f, (if (T 0).1 = -1 then .inl [] else rdLines (rdLaw T) T 12 [] 0) = .inr f → q.1 = .inr 0 ∧ oi (oc q.2) x 12 = nI (st f) ∧ (∀ a k : Nat, ¬ (a = x ∧ k = 12) → ¬ (a = x + 1 ∧ 4 ≤ k ∧ k ≤ 6) → ¬ (x + 3 ≤ a ∧ a ≤ x + 5) → ¬ (a = x + 28 ∧ 6 ≤ k) → ¬ (x + 29 ≤ a ∧ a ≤ x + 32) → oc q.2 a k = oc h a k)) ∧ (∀ S, (if (T 0).1 = -1 then .inl [] else rdLines (rdLaw T) T 12 [] 0) = .inl S → q.1 = .inl (nI (lwS W S).2.1) ∧ oi (oc q.2) x 12 = -1 ∧ lawE (oc q.2) (x + 13) (lawW W S) ∧ oi (oc q.2) (x + 19) 2 = 0 ∧ (∀ a k : Nat, ¬ (a = x ∧ k = 12) → ¬ (a = x + 1 ∧ 4 ≤ k ∧ k ≤ 6) → ¬ (x + 3 ≤ a ∧ a ≤ x + 5) → ¬ (a = x + 28 ∧ 6 ≤ k) → ¬ (x + 29 ≤ a ∧ a ≤ x + 32) → ¬ (x + 13 ≤ a ∧ a ≤ x + 18) → ¬ (a = x + 19 ∧ k = 2) → oc q.2 a k = oc h a k)) ∧ oi (oc q.2) (x + 1) 6 = 0 ∧ lawS (oc q.2) (x + 28) ∧ q.2.1 = h.1 := by
  unfold F_X11_law at hf
  subst ha
  replace hf := jbind hf
  obtain ⟨p1, e1, hf⟩ := hf
  have r1 := oc_gR e1
  rw [I.1.2.2.1] at r1
  cases r1
  clear e1
  replace hf := jbind hf
  obtain ⟨h4, e2, hf⟩ := hf
  replace e2 := (jcv_o e2).2
  obtain ⟨g7, g8, g6, f2, z2⟩ := E_X2_begin e2
  have C2 : ctb (oc h4) (x + 1) b L := ctb_fr C (fun a k u => f2 _ _ (by omega))
  have S2 : rlS (oc h4) x := ⟨(f2 _ _ (by omega)).trans I.2.2.1.1, (f2 _ _ (by omega)).trans I.2.2.1.2.1, (f2 _ _ (by omega)).trans I.2.2.1.2.2⟩
  have LS2 : lawS (oc h4) (x + 28) := by obtain ⟨y1, y2, y3, y4, y5⟩ := I.2.2.2.2.2; exact ⟨(f2 _ _ (by omega)).trans y1, (f2 _ _ (by omega)).trans y2, (f2 _ _ (by omega)).trans y3, (f2 _ _ (by omega)).trans y4, (f2 _ _ (by omega)).trans y5⟩
  have x7 : oc h4 x 7 = .ref (x + 35) := (f2 _ _ (by omega)).trans I.1.2.2.2.2.1
  replace hf := jbind hf
  obtain ⟨p9, e3, hf⟩ := hf
  have r3 := oc_gR e3
  rw [x7] at r3
  cases r3
  clear e3
  replace hf := jbind hf
  obtain ⟨q12, e4, hf⟩ := hf
  replace e4 := (jcv_o e4).2
  obtain ⟨m, T, st, en, H, hm4, r4, f4, z4⟩ := E_X4_read_L (W0 := W) C2 rfl S2 ⟨LS2, g8, g6⟩ e4
  have g4 : ∀ k, oc q12.2 x k = oc h x k := fun k => (f4 _ _ (by omega) (by omega) (by omega) (by omega)).trans (f2 _ _ (by omega))
  have x0 : oc q12.2 x 0 = .ref (x + 1) := (g4 0).trans X0
  have x2 : oc q12.2 x 2 = .ref (x + 13) := (g4 2).trans I.1.1
  have x3 : oc q12.2 x 3 = .ref (x + 19) := (g4 3).trans X3
  have x5 : oc q12.2 x 5 = .ref (x + 28) := (g4 5).trans I.1.2.2.1
  replace hf := jbind hf
  obtain ⟨h15, e5, hf⟩ := hf
  obtain ⟨o5, z5⟩ := oc_pf e5
  clear e5
  replace hf := jbind hf
  obtain ⟨p19, e6, hf⟩ := hf
  have r6 := oc_gR e6
  rw [o5] at r6
  rw [u2_ne (Or.inr (by decide))] at r6
  rw [x0] at r6
  cases r6
  clear e6
  replace hf := jbind hf
  obtain ⟨h23, e7, hf⟩ := hf
  obtain ⟨o7, z7⟩ := oc_pf e7
  clear e7
  replace hf := jbind hf
  obtain ⟨v27, e8, hf⟩ := hf
  have r8 := oc_gI e8
  rw [o7] at r8
  rw [oi_ne (Or.inl (by omega))] at r8
  rw [o5] at r8
  rw [oi_eq] at r8
  subst r8
  clear e8
  have q23 : ∀ a k : Nat, ¬ (a = x ∧ k = 12) → ¬ (a = x + 1 ∧ k = 6) → oc h23 a k = oc q12.2 a k := fun a k u1 u2 => by rw [o7, u2_ne (by omega), o5, u2_ne (by omega)]
  have f23 : ∀ a k : Nat, ¬ (a = x ∧ k = 12) → ¬ (a = x + 1 ∧ 4 ≤ k ∧ k ≤ 6) → ¬ (x + 3 ≤ a ∧ a ≤ x + 5) → ¬ (a = x + 28 ∧ 6 ≤ k) → ¬ (x + 29 ≤ a ∧ a ≤ x + 32) → oc h23 a k = oc h a k := fun a k u1 u2 u3 u4 u5 => (q23 a k u1 (by omega)).trans ((f4 a k (by omega) (by omega) (by omega) (by omega)).trans (f2 a k (by omega)))
  have g23 : oi (oc h23) (x + 1) 6 = 0 := by rw [o7, oi_eq]
  have n23 : oi (oc h23) x 12 = q12.1 := by rw [o7, oi_ne (Or.inl (by omega)), o5, oi_eq]
  have z23 : h23.1 = h.1 := z7.trans (z5.trans (z4.trans z2))
  have LS23 : lawS (oc h23) (x + 28) := by obtain ⟨y1, y2, y3, y4, y5⟩ := I.2.2.2.2.2; exact ⟨(f23 _ _ (by omega) (by omega) (by omega) (by omega) (by omega)).trans y1, (f23 _ _ (by omega) (by omega) (by omega) (by omega) (by omega)).trans y2, (f23 _ _ (by omega) (by omega) (by omega) (by omega) (by omega)).trans y3, (f23 _ _ (by omega) (by omega) (by omega) (by omega) (by omega)).trans y4, (f23 _ _ (by omega) (by omega) (by omega) (by omega) (by omega)).trans y5⟩
  replace hf := jite hf
  rcases hf with ⟨c9, hf⟩ | ⟨c9, hf⟩
  · skip
    replace hf := jbind hf
    obtain ⟨p45, e10, hf⟩ := hf
    have r10 := oc_gR e10
    rw [o7] at r10
    rw [u2_ne (Or.inl (by omega))] at r10
    rw [o5] at r10
    rw [u2_ne (Or.inr (by decide))] at r10
    rw [x2] at r10
    cases r10
    clear e10
    replace hf := jbind hf
    obtain ⟨p49, e11, hf⟩ := hf
    have r11 := oc_gR e11
    rw [o7] at r11
    rw [u2_ne (Or.inl (by omega))] at r11
    rw [o5] at r11
    rw [u2_ne (Or.inr (by decide))] at r11
    rw [x5] at r11
    cases r11
    clear e11
    replace hf := jbind hf
    obtain ⟨h52, e12, hf⟩ := hf
    replace e12 := (jcv_o e12).2
    rcases hR : (if (T 0).1 = -1 then .inl [] else rdLines (rdLaw T) T 12 [] 0) with S | f
    rotate_left
    · exfalso
      have y := r4.2 f hR
      rw [c9] at y
      have sl := tk_L H f
      have hL := H.1
      exact nI_ng (x := -1) (by omega) (by decide) y
    obtain ⟨-, d0, DE, n12⟩ := r4.1 S hR
    have gi : ∀ a k : Nat, ¬ (a = x ∧ k = 12) → ¬ (a = x + 1 ∧ k = 6) → oi (oc h23) a k = oi (oc q12.2) a k := fun a k u1 u2 => by unfold oi; rw [q23 a k u1 u2]
    have LE : lawE (oc h23) (x + 28) (lawW W S) := lawW_E LS23 (by rw [gi _ _ (by omega) (by omega), ← g7]; unfold oi; rw [f4 _ _ (by omega) (by omega) (by omega) (by omega)]) ((gi _ _ (by omega) (by omega)).trans d0.2.1) n12 (dE_fr DE (fun a k u1 u2 => q23 a k (by omega) (by omega)))
    have L13 : lawS (oc h23) (x + 13) := by obtain ⟨y1, y2, y3, y4, y5⟩ := SL; exact ⟨(f23 _ _ (by omega) (by omega) (by omega) (by omega) (by omega)).trans y1, (f23 _ _ (by omega) (by omega) (by omega) (by omega) (by omega)).trans y2, (f23 _ _ (by omega) (by omega) (by omega) (by omega) (by omega)).trans y3, (f23 _ _ (by omega) (by omega) (by omega) (by omega) (by omega)).trans y4, (f23 _ _ (by omega) (by omega) (by omega) (by omega) (by omega)).trans y5⟩
    obtain ⟨R12, f12, z12⟩ := E_X2_copyFrom (d := x + 13) (r := x + 28) rfl rfl (by omega) L13 LE e12
    have x2c : oc h52 x 2 = .ref (x + 13) := (f12 _ _ (by omega)).trans ((q23 _ _ (by omega) (by omega)).trans x2)
    have x3c : oc h52 x 3 = .ref (x + 19) := (f12 _ _ (by omega)).trans ((q23 _ _ (by omega) (by omega)).trans x3)
    replace hf := jbind hf
    obtain ⟨p56, e13, hf⟩ := hf
    have r13 := oc_gR e13
    rw [x3c] at r13
    cases r13
    clear e13
    replace hf := jbind hf
    obtain ⟨h59, e14, hf⟩ := hf
    replace e14 := (jcv_o e14).2
    obtain ⟨o14, z14⟩ := E_X0_forget e14
    replace hf := jbind hf
    obtain ⟨p63, e15, hf⟩ := hf
    have r15 := oc_gR e15
    rw [o14] at r15
    rw [u2_ne (Or.inl (by omega))] at r15
    rw [x2c] at r15
    cases r15
    clear e15
    replace hf := jbind hf
    obtain ⟨v66, e16, hf⟩ := hf
    have r16 := oc_gI e16
    rw [o14] at r16
    rw [oi_ne (Or.inl (by omega))] at r16
    subst r16
    clear e16
    cases hf
    -- leaf 0: (.inl v66, h59)
    have k59 : ∀ a k : Nat, ¬ (x + 13 ≤ a ∧ a ≤ x + 18) → ¬ (a = x + 19 ∧ k = 2) → oc h59 a k = oc h23 a k := fun a k u1 u2 => by rw [o14, u2_ne (by omega), f12 a k (by omega)]
    have L59 : lawE (oc h59) (x + 13) (lawW W S) := lawE_fr R12 (fun a k u1 u2 _ => by rw [o14, u2_ne (by omega)])
    have a8 : oi (oc h52) (x + 13) 8 = nI (lwS W S).2.1 := by
      have := (R12.2.2.2 (if_pos rfl)).1
      rw [this]
      unfold lawW
      rw [if_neg (by decide), if_pos rfl]
    refine ⟨m, T, st, en, H, hm4, fun f y => (by rw [hR] at y; cases y), fun S3 y => ?_, ?_, ?_, ?_⟩
    · rw [hR] at y
      cases y
      refine ⟨by rw [a8], ?_, L59, ?_, fun a k u1 u2 u3 u4 u5 u6 u7 => (k59 a k u6 u7).trans (f23 a k u1 u2 u3 u4 u5)⟩
      · show oi (oc h59) x 12 = -1
        unfold oi
        rw [k59 _ _ (by omega) (by omega)]
        exact n23.trans c9
      · show oi (oc h59) (x + 19) 2 = 0
        rw [o14, oi_eq]
    · show oi (oc h59) (x + 1) 6 = 0
      unfold oi
      rw [k59 _ _ (by omega) (by omega)]
      exact g23
    · obtain ⟨y1, y2, y3, y4, y5⟩ := LS23
      exact ⟨(k59 _ _ (by omega) (by omega)).trans y1, (k59 _ _ (by omega) (by omega)).trans y2, (k59 _ _ (by omega) (by omega)).trans y3, (k59 _ _ (by omega) (by omega)).trans y4, (k59 _ _ (by omega) (by omega)).trans y5⟩
    · exact z14.trans (z12.trans z23)
  · skip
    cases hf
    -- leaf 1: (.inr 0, h23)
    rcases hR : (if (T 0).1 = -1 then .inl [] else rdLines (rdLaw T) T 12 [] 0) with S | f
    · exact absurd (r4.1 S hR).1 c9
    have v5 := r4.2 f hR
    refine ⟨m, T, st, en, H, hm4, fun f2 y => ?_, fun W3 y => (by rw [hR] at y; cases y), g23, LS23, z23⟩
    rw [hR] at y
    cases y
    exact ⟨rfl, n23.trans v5, f23⟩
theorem eq_law {x nx r L n : Nat} {W : jWd} {h : jH} {q : jR × jH} {p : Int32 × jH} (E : eqS x nx r L W h) (hB : ∀ i, i < 400 → -128 ≤ (oi (oc h) (x + 46) i).toInt ∧ (oi (oc h) (x + 46) i).toInt ≤ 127) (e1 : F_X11_law n x h = some q) (e2 : F_X12_law n (x + 40) q.2 = some p) :
    (∃ r2 W2, eqS x nx r2 0 W2 p.2) ∧ ansE [(0, 1)] q.1 p.1 (oi (oc p.2) (x + 40) 0) := by
  obtain ⟨⟨x0, x1, x3, -, -, -, ts, M⟩, ⟨n1, n2, n3, n4, n5, n6, -, -, -⟩, ⟨R, hw, K, LE, LK, LB⟩, ⟨l1, l2, l3, l4, I⟩⟩ := id E
  have C : ctb (oc h) (x + 1) (fun i => oi (oc h) (x + 46) i) L := ⟨ts, l1, l3, fun i hi => l4 i hi, hB⟩
  obtain ⟨m, T, st, en, H, hm4, a1, a2, a3, a4, a5⟩ := E_X11_law (W := W) rfl x0 x3 I.1 C LE.1 e1
  have FQ : ∀ a k : Nat, ¬ (a = x ∧ k = 12) → ¬ (a = x + 1 ∧ 4 ≤ k ∧ k ≤ 6) → ¬ (x + 3 ≤ a ∧ a ≤ x + 5) → ¬ (a = x + 28 ∧ 6 ≤ k) → ¬ (x + 29 ≤ a ∧ a ≤ x + 32) → ¬ (x + 13 ≤ a ∧ a ≤ x + 18) → ¬ (a = x + 19 ∧ k = 2) → oc q.2 a k = oc h a k := fun a k u1 u2 u3 u4 u5 u6 u7 => by
    rcases hR : (if (T 0).1 = -1 then .inl [] else rdLines (rdLaw T) T 12 [] 0 : List jLn ⊕ Nat) with S | f
    · exact (a2 S hR).2.2.2.2 a k u1 u2 u3 u4 u5 u6 u7
    · exact (a1 f hR).2.2 a k u1 u2 u3 u4 u5
  have k2 : ∀ a k : Nat, x + 33 ≤ a → oc q.2 a k = oc h a k := fun a k z => FQ a k (by omega) (by omega) (by omega) (by omega) (by omega) (by omega) (by omega)
  have ki : ∀ a k : Nat, x + 33 ≤ a → oi (oc q.2) a k = oi (oc h) a k := fun a k z => by unfold oi; rw [k2 a k z]
  have M2 : mS (oc q.2) (x + 40) := by
    obtain ⟨s1, s2, s3, s4, s5, s8, s15, s17, s19, s20, s21⟩ := M
    have k3 : ∀ k, oc q.2 (x + 40) k = oc h (x + 40) k := fun k => k2 _ k (by omega)
    exact ⟨(k3 _).trans s1, (k3 _).trans s2, (k3 _).trans s3, (k3 _).trans s4, (k3 _).trans s5, (k3 _).trans s8, (k3 _).trans s15, (k3 _).trans s17, (k3 _).trans s19, (k3 _).trans s20, (k3 _).trans s21⟩
  have w2 : wl (oc q.2) (x + 40) = W := by rw [← hw]; funext k; exact ki (x + 41) k (by omega)
  obtain ⟨b1, b2, b3, b4, b5⟩ := E_X12_law H M2 w2 ((ki _ _ (by omega)).trans l2) (fun i => ki (x + 46) i (by omega)) hm4 e2
  have fp : ∀ a k : Nat, a ≠ x + 41 → ¬ (a = x + 40 ∧ (k = 0 ∨ k = 7 ∨ (9 ≤ k ∧ k ≤ 14) ∨ k = 16)) → oc p.2 a k = oc q.2 a k := fun a k u1 u3 => b4 a k (fun c hc z => by simp at hc; omega) (fun z y => u3 ⟨z, by simp at y; omega⟩)
  have fpi : ∀ a k : Nat, a ≤ x + 39 → oi (oc p.2) a k = oi (oc q.2) a k := fun a k z => by unfold oi; rw [fp a k (by omega) (by omega)]
  have F : ∀ a k : Nat, ¬ txc x a k → oc p.2 a k = oc h a k := fun a k z => by
    unfold txc at z
    exact (fp a k (by omega) (by omega)).trans (FQ a k (by omega) (by omega) (by omega) (by omega) (by omega) (by omega) (by omega))
  have T2 : oi (oc p.2) (x + 1) 6 = nI 0 ∧ oi (oc p.2) (x + 40) 9 = nI 0 ∧ 0 ≤ 400 := ⟨(fpi _ _ (by omega)).trans a3, b3, by omega⟩
  have D2 : rodS (oc p.2) (x + 21) ∧ lawS (oc p.2) (x + 28) := ⟨rodS_fr I.1.2.2.2.2.1 (fun k => (fp _ _ (by omega) (by omega)).trans (FQ _ _ (by omega) (by omega) (by omega) (by omega) (by omega) (by omega) (by omega))) ((fp _ _ (by omega) (by omega)).trans (FQ _ _ (by omega) (by omega) (by omega) (by omega) (by omega) (by omega) (by omega))), by
    obtain ⟨g1, g2, g3, g4, g5⟩ := a4
    exact ⟨(fp _ _ (by omega) (by omega)).trans g1, (fp _ _ (by omega) (by omega)).trans g2, (fp _ _ (by omega) (by omega)).trans g3, (fp _ _ (by omega) (by omega)).trans g4, (fp _ _ (by omega) (by omega)).trans g5⟩⟩
  have fR : ∀ a k : Nat, x + 6 ≤ a → a ≤ x + 12 → oc p.2 a k = oc h a k := fun a k z1 z2 => (fp a k (by omega) (by omega)).trans (FQ a k (by omega) (by omega) (by omega) (by omega) (by omega) (by omega) (by omega))
  rcases hR : (if (T 0).1 = -1 then .inl [] else rdLines (rdLaw T) T 12 [] 0 : List jLn ⊕ Nat) with S | f
  · obtain ⟨v, n12, LL, s0, G⟩ := a2 S hR
    obtain ⟨v2, -, y0, c14, y7, yw⟩ := b2 S hR
    have L3 : lawE (oc p.2) (x + 13) (lawW W S) := lawE_fr LL (fun a k z1 z2 _ => fp a k (by omega) (by omega))
    exact ⟨⟨0, _, eq_bld E F (b5.trans a5) (Or.inl ⟨rfl, (fpi _ _ (by omega)).trans s0, y7⟩) ⟨rodE_c2 (rodE_fr R (fun a k z1 z2 => fR a k z1 (by omega))) K (fun k h1 h2 => lawW_lo h1 h2), yw, wOK_c2 K (fun k h1 h2 => lawW_lo (by omega) h2), L3, lawK_of L3, lawB_of L3⟩ T2 D2 (((fpi _ _ (by omega)).trans n12).trans c14.symm)⟩, Or.inl ⟨by rw [v, v2], y0⟩⟩
  · obtain ⟨v, n12, G⟩ := a1 f hR
    obtain ⟨v2, y0, c14, y7, yW⟩ := b1 f hR
    have fL : ∀ a k : Nat, x + 13 ≤ a → a ≤ x + 18 → oc p.2 a k = oc h a k := fun a k z1 z2 => (fp a k (by omega) (by omega)).trans (G a k (by omega) (by omega) (by omega) (by omega) (by omega))
    obtain ⟨q1, q2, q3, q4, q5⟩ := wd_cb R K LE yW (fun a k z1 z2 => fR a k z1 (by omega)) (fun a k z1 z2 _ => fL a k z1 (by omega))
    have g19 : oi (oc p.2) (x + 19) 2 = oi (oc h) (x + 19) 2 := by unfold oi; rw [fp _ _ (by omega) (by omega), G _ _ (by omega) (by omega) (by omega) (by omega) (by omega)]
    have f13 : oi (oc p.2) (x + 13) 7 = oi (oc h) (x + 13) 7 := by unfold oi; rw [fL _ _ (by omega) (by omega)]
    exact ⟨⟨r, _, eq_bld E F (b5.trans a5) (Or.inr ⟨rfl, g19, y7.trans (ki _ _ (by omega)), f13⟩) ⟨q1, rfl, q2, q3, q4, q5⟩ T2 D2 (((fpi _ _ (by omega)).trans n12).trans c14.symm)⟩, Or.inr ⟨(0, 1), by simp, v, v2, y0⟩⟩
end
section
theorem FQ_X12_throwsIf {n : Nat} {a0 : Nat} {x1 : Int32} {x2 : Int32} {h : jH} {q : Int32 × jH} (M : mS (oc h) a0) (hf : F_X12_throwsIf n a0 x1 x2 h = some q) : frM a0 [] [0] (oc h) (oc q.2) := by
  unfold F_X12_throwsIf at hf
  replace hf := jite hf
  rcases hf with ⟨-, hf⟩ | ⟨-, hf⟩
  · replace hf := jite hf
    rcases hf with ⟨-, hf⟩ | ⟨-, hf⟩
    · cases hf
      exact frM_rfl
    · cases hf
  · obtain ⟨h6, e1, hf⟩ := jbind hf
    have f1 : frM a0 [] [0] (oc h) (oc h6) := by rw [(oc_pf e1).1]; exact frM_f (by decide)
    have m1 := mS_fr M f1 (by decide) (by decide)
    replace hf := jite hf
    rcases hf with ⟨-, hf⟩ | ⟨-, hf⟩
    · cases hf
      exact f1
    · cases hf
theorem FQ_X12_holdsLine_222 {n : Nat} {rc22 : Nat → Int32 → Int32 → Int32 → Int32 → jH → Option (Int32 × jH)} (hrc22 : ∀ {z0 : Nat} {z1 : Int32} {z2 : Int32} {z3 : Int32} {z4 : Int32} {h : jH} {q : Int32 × jH}, mS (oc h) z0 → rc22 z0 z1 z2 z3 z4 h = some q → frM z0 [8] [] (oc h) (oc q.2)) {a0 : Nat} {x2 : Int32} {x3 : Int32} {x4 : Int32} {x5 : Int32} {x6 : Int32} {x7 : Int32} {x8 : Int32} {s0 : Int32} {h : jH} {q : Int32 × jH} (M : mS (oc h) a0) (hf : F_X12_holdsLine_222 n rc22 a0 x2 x3 x4 x5 x6 x7 x8 s0 h = some q) : frM a0 [8] [] (oc h) (oc q.2) := by
  unfold F_X12_holdsLine_222 at hf
  obtain ⟨p225, e1, hf⟩ := jbind hf
  have r1 := oc_gR e1
  rw [M.2.2.2.2.2.2.2.1] at r1
  cases r1
  replace hf := jite hf
  rcases hf with ⟨-, hf⟩ | ⟨-, hf⟩
  · obtain ⟨h256, e2, hf⟩ := jbind hf
    have f2 : frM a0 [8] [] (oc h) (oc h256) := by rw [(oc_as e2).1]; exact frM_c (by decide)
    have m2 := mS_fr M f2 (by decide) (by decide)
    exact (frM_tr f2 (frM_le (hrc22 m2 hf) (by decide) (by decide)))
  · replace hf := jite hf
    rcases hf with ⟨-, hf⟩ | ⟨-, hf⟩
    · obtain ⟨h256, e3, hf⟩ := jbind hf
      have f3 : frM a0 [8] [] (oc h) (oc h256) := by rw [(oc_as e3).1]; exact frM_c (by decide)
      have m3 := mS_fr M f3 (by decide) (by decide)
      exact (frM_tr f3 (frM_le (hrc22 m3 hf) (by decide) (by decide)))
    · obtain ⟨h256, e4, hf⟩ := jbind hf
      have f4 : frM a0 [8] [] (oc h) (oc h256) := by rw [(oc_as e4).1]; exact frM_c (by decide)
      have m4 := mS_fr M f4 (by decide) (by decide)
      exact (frM_tr f4 (frM_le (hrc22 m4 hf) (by decide) (by decide)))
theorem FQ_X12_holdsLine_22 {n : Nat} {k : Nat} : ∀ {a0 : Nat} {x2 : Int32} {x3 : Int32} {x4 : Int32} {x5 : Int32} {h : jH} {q : Int32 × jH}, mS (oc h) a0 → F_X12_holdsLine_22 n k a0 x2 x3 x4 x5 h = some q → frM a0 [8] [] (oc h) (oc q.2) := by
  induction k with
  | zero =>
    intro a0 x2 x3 x4 x5 h q M hf
    cases hf
  | succ k ih =>
    intro a0 x2 x3 x4 x5 h q M hf
    replace hf : F_X12_holdsLine_22_b n (F_X12_holdsLine_22 n k) a0 x2 x3 x4 x5 h = some q := hf
    unfold F_X12_holdsLine_22_b at hf
    obtain ⟨p25, e1, hf⟩ := jbind hf
    have r1 := oc_gR e1
    rw [M.1] at r1
    cases r1
    obtain ⟨v32, e2, hf⟩ := jbind hf
    replace hf := jite hf
    rcases hf with ⟨-, hf⟩ | ⟨-, hf⟩
    · replace hf := jite hf
      rcases hf with ⟨-, hf⟩ | ⟨-, hf⟩
      · cases hf
        exact frM_rfl
      · obtain ⟨p268, e3, hf⟩ := jbind hf
        have r3 := oc_gR e3
        rw [M.2.2.2.2.2.2.2.1] at r3
        cases r3
        obtain ⟨v272, e4, hf⟩ := jbind hf
        replace hf := jite hf
        rcases hf with ⟨-, hf⟩ | ⟨-, hf⟩
        · cases hf
          exact frM_rfl
        · cases hf
          exact frM_rfl
    · obtain ⟨p37, e5, hf⟩ := jbind hf
      have r5 := oc_gR e5
      rw [M.1] at r5
      cases r5
      obtain ⟨v48, e6, hf⟩ := jbind hf
      replace hf := jite hf
      rcases hf with ⟨-, hf⟩ | ⟨-, hf⟩
      · replace hf := jite hf
        rcases hf with ⟨-, hf⟩ | ⟨-, hf⟩
        · obtain ⟨p100, e7, hf⟩ := jbind hf
          have r7 := oc_gR e7
          rw [M.2.2.2.2.2.2.2.1] at r7
          cases r7
          obtain ⟨p108, e8, hf⟩ := jbind hf
          have r8 := oc_gR e8
          rw [M.2.2.2.2.2.2.2.1] at r8
          cases r8
          obtain ⟨v114, e9, hf⟩ := jbind hf
          obtain ⟨h116, e10, hf⟩ := jbind hf
          have f10 : frM a0 [8] [] (oc h) (oc h116) := by rw [(oc_as e10).1]; exact frM_c (by decide)
          have m10 := mS_fr M f10 (by decide) (by decide)
          exact (frM_tr f10 (frM_le (ih m10 hf) (by decide) (by decide)))
        · obtain ⟨p124, e11, hf⟩ := jbind hf
          have r11 := oc_gR e11
          rw [M.2.2.2.2.2.2.2.1] at r11
          cases r11
          obtain ⟨v130, e12, hf⟩ := jbind hf
          obtain ⟨p134, e13, hf⟩ := jbind hf
          have r13 := oc_gR e13
          rw [M.2.2.2.2.2.2.2.1] at r13
          cases r13
          obtain ⟨v138, e14, hf⟩ := jbind hf
          replace hf := jite hf
          rcases hf with ⟨-, hf⟩ | ⟨-, hf⟩
          · replace hf := jite hf
            rcases hf with ⟨-, hf⟩ | ⟨-, hf⟩
            · exact (frM_le (FQ_X12_holdsLine_222 ih M hf) (by decide) (by decide))
            · exact (frM_le (FQ_X12_holdsLine_222 ih M hf) (by decide) (by decide))
          · replace hf := jite hf
            rcases hf with ⟨-, hf⟩ | ⟨-, hf⟩
            · replace hf := jite hf
              rcases hf with ⟨-, hf⟩ | ⟨-, hf⟩
              · exact (frM_le (FQ_X12_holdsLine_222 ih M hf) (by decide) (by decide))
              · exact (frM_le (FQ_X12_holdsLine_222 ih M hf) (by decide) (by decide))
            · replace hf := jite hf
              rcases hf with ⟨-, hf⟩ | ⟨-, hf⟩
              · replace hf := jite hf
                rcases hf with ⟨-, hf⟩ | ⟨-, hf⟩
                · exact (frM_le (FQ_X12_holdsLine_222 ih M hf) (by decide) (by decide))
                · exact (frM_le (FQ_X12_holdsLine_222 ih M hf) (by decide) (by decide))
              · replace hf := jite hf
                rcases hf with ⟨-, hf⟩ | ⟨-, hf⟩
                · exact (frM_le (FQ_X12_holdsLine_222 ih M hf) (by decide) (by decide))
                · exact (frM_le (FQ_X12_holdsLine_222 ih M hf) (by decide) (by decide))
      · obtain ⟨p59, e15, hf⟩ := jbind hf
        have r15 := oc_gR e15
        rw [M.2.2.2.2.2.2.2.1] at r15
        cases r15
        obtain ⟨p67, e16, hf⟩ := jbind hf
        have r16 := oc_gR e16
        rw [M.1] at r16
        cases r16
        obtain ⟨v80, e17, hf⟩ := jbind hf
        obtain ⟨v82, e18, hf⟩ := jbind hf
        replace e18 := (jcv_o e18).2
        obtain ⟨h85, e19, hf⟩ := jbind hf
        have f19 : frM a0 [8] [] (oc h) (oc h85) := by rw [(oc_as e19).1]; exact frM_c (by decide)
        have m19 := mS_fr M f19 (by decide) (by decide)
        exact (frM_tr f19 (frM_le (ih m19 hf) (by decide) (by decide)))
theorem FQ_X12_holdsLine {n : Nat} {a0 : Nat} {x1 : Int32} {x2 : Int32} {h : jH} {q : Int32 × jH} (M : mS (oc h) a0) (hf : F_X12_holdsLine n a0 x1 x2 h = some q) : frM a0 [8] [] (oc h) (oc q.2) := by
  unfold F_X12_holdsLine at hf
  obtain ⟨p12, e1, hf⟩ := jbind hf
  have r1 := oc_gR e1
  rw [M.1] at r1
  cases r1
  obtain ⟨v19, e2, hf⟩ := jbind hf
  exact (frM_le (FQ_X12_holdsLine_22 M hf) (by decide) (by decide))
theorem FQ_X12_sumOf_5 {n : Nat} {k : Nat} : ∀ {a0 : Nat} {x1 : Int32} {x2 : Int32} {x3 : Int32} {x4 : Int32} {h : jH} {q : Int32 × jH}, mS (oc h) a0 → F_X12_sumOf_5 n k a0 x1 x2 x3 x4 h = some q → frM a0 [8] [] (oc h) (oc q.2) := by
  induction k with
  | zero =>
    intro a0 x1 x2 x3 x4 h q M hf
    cases hf
  | succ k ih =>
    intro a0 x1 x2 x3 x4 h q M hf
    replace hf : F_X12_sumOf_5_b n (F_X12_sumOf_5 n k) a0 x1 x2 x3 x4 h = some q := hf
    unfold F_X12_sumOf_5_b at hf
    obtain ⟨p8, e1, hf⟩ := jbind hf
    have r1 := oc_gR e1
    rw [M.1] at r1
    cases r1
    obtain ⟨v14, e2, hf⟩ := jbind hf
    replace hf := jite hf
    rcases hf with ⟨-, hf⟩ | ⟨-, hf⟩
    · cases hf
      exact frM_rfl
    · obtain ⟨p19, e3, hf⟩ := jbind hf
      have r3 := oc_gR e3
      rw [M.1] at r3
      cases r3
      obtain ⟨v30, e4, hf⟩ := jbind hf
      replace hf := jite hf
      rcases hf with ⟨-, hf⟩ | ⟨-, hf⟩
      · obtain ⟨q39, e5, hf⟩ := jbind hf
        replace e5 := (jcv_o e5).2
        have f5 : frM a0 [8] [] (oc h) (oc q39.2) := frM_le (FQ_X12_holdsLine M e5) (by decide) (by decide)
        have m5 := mS_fr M f5 (by decide) (by decide)
        replace hf := jite hf
        rcases hf with ⟨-, hf⟩ | ⟨-, hf⟩
        · exact (frM_tr f5 (frM_le (ih m5 hf) (by decide) (by decide)))
        · obtain ⟨p47, e6, hf⟩ := jbind hf
          have r6 := oc_gR e6
          rw [m5.1] at r6
          cases r6
          obtain ⟨v60, e7, hf⟩ := jbind hf
          exact (frM_tr f5 (frM_le (ih m5 hf) (by decide) (by decide)))
      · exact (frM_le (ih M hf) (by decide) (by decide))
theorem FQ_X12_sumOf {n : Nat} {a0 : Nat} {x1 : Int32} {x2 : Int32} {h : jH} {q : Int32 × jH} (M : mS (oc h) a0) (hf : F_X12_sumOf n a0 x1 x2 h = some q) : frM a0 [8] [] (oc h) (oc q.2) := by
  unfold F_X12_sumOf at hf
  exact (frM_le (FQ_X12_sumOf_5 M hf) (by decide) (by decide))
theorem FQ_X12_byLaw {n : Nat} {a0 : Nat} {x1 : Int32} {x2 : Int32} {h : jH} {q : Int32 × jH} (M : mS (oc h) a0) (hf : F_X12_byLaw n a0 x1 x2 h = some q) : frM a0 [8] [] (oc h) (oc q.2) := by
  unfold F_X12_byLaw at hf
  obtain ⟨p1, e1, hf⟩ := jbind hf
  have r1 := oc_gR e1
  rw [M.1] at r1
  cases r1
  obtain ⟨v5, e2, hf⟩ := jbind hf
  replace hf := jite hf
  rcases hf with ⟨-, hf⟩ | ⟨-, hf⟩
  · obtain ⟨q13, e3, hf⟩ := jbind hf
    replace e3 := (jcv_o e3).2
    have f3 : frM a0 [8] [] (oc h) (oc q13.2) := frM_le (FQ_X12_sumOf M e3) (by decide) (by decide)
    have m3 := mS_fr M f3 (by decide) (by decide)
    cases hf
    exact f3
  · replace hf := jite hf
    rcases hf with ⟨-, hf⟩ | ⟨-, hf⟩
    · obtain ⟨p24, e4, hf⟩ := jbind hf
      have r4 := oc_gR e4
      rw [M.1] at r4
      cases r4
      obtain ⟨v28, e5, hf⟩ := jbind hf
      obtain ⟨v29, e6, hf⟩ := jbind hf
      replace e6 := (jcv_o e6).2
      replace hf := jite hf
      rcases hf with ⟨-, hf⟩ | ⟨-, hf⟩
      · cases hf
        exact frM_rfl
      · cases hf
        exact frM_rfl
    · replace hf := jite hf
      rcases hf with ⟨-, hf⟩ | ⟨-, hf⟩
      · cases hf
        exact frM_rfl
      · cases hf
        exact frM_rfl
theorem FQ_X12_ring_34 {n : Nat} {a0 : Nat} {x1 : Int32} {x2 : Int32} {sa0 : Nat} {s1 : Int32} {h : jH} {q : Int32 × jH} (hs : a0 = sa0) (M : mS (oc h) a0) (hf : F_X12_ring_34 n a0 x1 x2 sa0 s1 h = some q) : frM a0 [8] [0] (oc h) (oc q.2) := by
  unfold F_X12_ring_34 at hf
  subst hs
  obtain ⟨q35, e1, hf⟩ := jbind hf
  replace e1 := (jcv_o e1).2
  have f1 : frM a0 [8] [0] (oc h) (oc q35.2) := frM_le (FQ_X12_throwsIf M e1) (by decide) (by decide)
  have m1 := mS_fr M f1 (by decide) (by decide)
  replace hf := jite hf
  rcases hf with ⟨-, hf⟩ | ⟨-, hf⟩
  · replace hf := jite hf
    rcases hf with ⟨-, hf⟩ | ⟨-, hf⟩
    · obtain ⟨v86, e2, hf⟩ := jbind hf
      replace e2 := (jcv_o e2).2
      replace hf := jite hf
      rcases hf with ⟨-, hf⟩ | ⟨-, hf⟩
      · cases hf
        exact f1
      · obtain ⟨v98, e3, hf⟩ := jbind hf
        replace e3 := (jcv_o e3).2
        cases hf
        exact f1
    · replace hf := jite hf
      rcases hf with ⟨-, hf⟩ | ⟨-, hf⟩
      · obtain ⟨q105, e4, hf⟩ := jbind hf
        replace e4 := (jcv_o e4).2
        have f4 : frM a0 [8] [0] (oc q35.2) (oc q105.2) := frM_le (FQ_X12_byLaw m1 e4) (by decide) (by decide)
        have m4 := mS_fr m1 f4 (by decide) (by decide)
        cases hf
        exact (frM_tr f1 f4)
      · replace hf := jite hf
        rcases hf with ⟨-, hf⟩ | ⟨-, hf⟩
        · obtain ⟨q112, e5, hf⟩ := jbind hf
          replace e5 := (jcv_o e5).2
          have f5 : frM a0 [8] [0] (oc q35.2) (oc q112.2) := frM_le (FQ_X12_byLaw m1 e5) (by decide) (by decide)
          have m5 := mS_fr m1 f5 (by decide) (by decide)
          cases hf
          exact (frM_tr f1 f5)
        · replace hf := jite hf
          rcases hf with ⟨-, hf⟩ | ⟨-, hf⟩
          · obtain ⟨q119, e6, hf⟩ := jbind hf
            replace e6 := (jcv_o e6).2
            have f6 : frM a0 [8] [0] (oc q35.2) (oc q119.2) := frM_le (FQ_X12_byLaw m1 e6) (by decide) (by decide)
            have m6 := mS_fr m1 f6 (by decide) (by decide)
            cases hf
            exact (frM_tr f1 f6)
          · replace hf := jite hf
            rcases hf with ⟨-, hf⟩ | ⟨-, hf⟩
            · obtain ⟨v125, e7, hf⟩ := jbind hf
              replace e7 := (jcv_o e7).2
              cases hf
              exact f1
            · replace hf := jite hf
              rcases hf with ⟨-, hf⟩ | ⟨-, hf⟩
              · obtain ⟨v131, e8, hf⟩ := jbind hf
                replace e8 := (jcv_o e8).2
                cases hf
                exact f1
              · obtain ⟨v138, e9, hf⟩ := jbind hf
                replace e9 := (jcv_o e9).2
                cases hf
                exact f1
  · cases hf
    exact f1
theorem FQ_X12_ring {n : Nat} {a0 : Nat} {x1 : Int32} {x2 : Int32} {h : jH} {q : Int32 × jH} (M : mS (oc h) a0) (hf : F_X12_ring n a0 x1 x2 h = some q) : frM a0 [8] [0] (oc h) (oc q.2) := by
  unfold F_X12_ring at hf
  obtain ⟨h2, e1, hf⟩ := jbind hf
  have f1 : frM a0 [8] [0] (oc h) (oc h2) := by rw [(oc_pf e1).1]; exact frM_f (by decide)
  have m1 := mS_fr M f1 (by decide) (by decide)
  obtain ⟨v8, e2, hf⟩ := jbind hf
  replace e2 := (jcv_o e2).2
  obtain ⟨q12, e3, hf⟩ := jbind hf
  replace e3 := (jcv_o e3).2
  have f3 : frM a0 [8] [0] (oc h2) (oc q12.2) := frM_le (FQ_X12_throwsIf m1 e3) (by decide) (by decide)
  have m3 := mS_fr m1 f3 (by decide) (by decide)
  replace hf := jite hf
  rcases hf with ⟨-, hf⟩ | ⟨-, hf⟩
  · obtain ⟨v23, e4, hf⟩ := jbind hf
    replace hf := jite hf
    rcases hf with ⟨-, hf⟩ | ⟨-, hf⟩
    · exact (frM_tr (frM_tr f1 f3) (frM_le (FQ_X12_ring_34 rfl m3 hf) (by decide) (by decide)))
    · exact (frM_tr (frM_tr f1 f3) (frM_le (FQ_X12_ring_34 rfl m3 hf) (by decide) (by decide)))
  · cases hf
    exact (frM_tr f1 f3)
theorem FQ_X12_keepsAll_2 {n : Nat} {k : Nat} : ∀ {a0 : Nat} {x1 : Int32} {h : jH} {q : jH}, mS (oc h) a0 → F_X12_keepsAll_2 n k a0 x1 h = some q → frM a0 [4] [] (oc h) (oc q) := by
  induction k with
  | zero =>
    intro a0 x1 h q M hf
    cases hf
  | succ k ih =>
    intro a0 x1 h q M hf
    replace hf : F_X12_keepsAll_2_b n (F_X12_keepsAll_2 n k) a0 x1 h = some q := hf
    unfold F_X12_keepsAll_2_b at hf
    replace hf := jite hf
    rcases hf with ⟨-, hf⟩ | ⟨-, hf⟩
    · cases hf
      exact frM_rfl
    · obtain ⟨p10, e1, hf⟩ := jbind hf
      have r1 := oc_gR e1
      rw [M.2.2.2.1] at r1
      cases r1
      obtain ⟨p15, e2, hf⟩ := jbind hf
      have r2 := oc_gR e2
      rw [M.1] at r2
      cases r2
      obtain ⟨v19, e3, hf⟩ := jbind hf
      obtain ⟨h20, e4, hf⟩ := jbind hf
      have f4 : frM a0 [4] [] (oc h) (oc h20) := by rw [(oc_as e4).1]; exact frM_c (by decide)
      have m4 := mS_fr M f4 (by decide) (by decide)
      exact (frM_tr f4 (frM_le (ih m4 hf) (by decide) (by decide)))
theorem FQ_X12_keepsAll {n : Nat} {a0 : Nat} {h : jH} {q : jH} (M : mS (oc h) a0) (hf : F_X12_keepsAll n a0 h = some q) : frM a0 [4] [] (oc h) (oc q) := by
  unfold F_X12_keepsAll at hf
  exact (frM_le (FQ_X12_keepsAll_2 M hf) (by decide) (by decide))
theorem FQ_X12_pulls_29 {n : Nat} {a0 : Nat} {x4 : Int32} {h : jH} {q : Int32 × jH} (M : mS (oc h) a0) (hf : F_X12_pulls_29 n a0 x4 h = some q) : frM a0 [1] [] (oc h) (oc q.2) := by
  unfold F_X12_pulls_29 at hf
  obtain ⟨p30, e1, hf⟩ := jbind hf
  have r1 := oc_gR e1
  rw [M.1] at r1
  cases r1
  obtain ⟨p39, e2, hf⟩ := jbind hf
  have r2 := oc_gR e2
  rw [M.1] at r2
  cases r2
  obtain ⟨v44, e3, hf⟩ := jbind hf
  obtain ⟨v46, e4, hf⟩ := jbind hf
  obtain ⟨h53, e5, hf⟩ := jbind hf
  have f5 : frM a0 [1] [] (oc h) (oc h53) := by rw [(oc_as e5).1]; exact frM_c (by decide)
  have m5 := mS_fr M f5 (by decide) (by decide)
  cases hf
  exact f5
theorem FQ_X12_goesOne_52 {n : Nat} {rc10 : Nat → Int32 → Int32 → Int32 → jH → Option (Int32 × jH)} (hrc10 : ∀ {z0 : Nat} {z1 : Int32} {z2 : Int32} {z3 : Int32} {h : jH} {q : Int32 × jH}, mS (oc h) z0 → rc10 z0 z1 z2 z3 h = some q → frM z0 [1] [18] (oc h) (oc q.2)) {a0 : Nat} {x2 : Int32} {x3 : Int32} {x4 : Int32} {sa0 : Nat} {s1 : Int32} {s2 : Int32} {s3 : Int32} {h : jH} {q : Int32 × jH} (hs : sa0 = a0 + 1) (M : mS (oc h) a0) (hf : F_X12_goesOne_52 n rc10 a0 x2 x3 x4 sa0 s1 s2 s3 h = some q) : frM a0 [1] [18] (oc h) (oc q.2) := by
  unfold F_X12_goesOne_52 at hf
  subst hs
  obtain ⟨h53, e1, hf⟩ := jbind hf
  have f1 : frM a0 [1] [18] (oc h) (oc h53) := by rw [(oc_as e1).1]; exact frM_c (by decide)
  have m1 := mS_fr M f1 (by decide) (by decide)
  obtain ⟨v56, e2, hf⟩ := jbind hf
  obtain ⟨v63, e3, hf⟩ := jbind hf
  replace e3 := (jcv_o e3).2
  replace hf := jite hf
  rcases hf with ⟨-, hf⟩ | ⟨-, hf⟩
  · obtain ⟨h75, e4, hf⟩ := jbind hf
    have f4 : frM a0 [1] [18] (oc h53) (oc h75) := by rw [(oc_pf e4).1]; exact frM_f (by decide)
    have m4 := mS_fr m1 f4 (by decide) (by decide)
    exact (frM_tr (frM_tr f1 f4) (frM_le (hrc10 m4 hf) (by decide) (by decide)))
  · obtain ⟨h75, e5, hf⟩ := jbind hf
    have f5 : frM a0 [1] [18] (oc h53) (oc h75) := by rw [(oc_pf e5).1]; exact frM_f (by decide)
    have m5 := mS_fr m1 f5 (by decide) (by decide)
    exact (frM_tr (frM_tr f1 f5) (frM_le (hrc10 m5 hf) (by decide) (by decide)))
theorem FQ_X12_goesOne_10 {n : Nat} {k : Nat} : ∀ {a0 : Nat} {x2 : Int32} {x3 : Int32} {x4 : Int32} {h : jH} {q : Int32 × jH}, mS (oc h) a0 → F_X12_goesOne_10 n k a0 x2 x3 x4 h = some q → frM a0 [1] [18] (oc h) (oc q.2) := by
  induction k with
  | zero =>
    intro a0 x2 x3 x4 h q M hf
    cases hf
  | succ k ih =>
    intro a0 x2 x3 x4 h q M hf
    replace hf : F_X12_goesOne_10_b n (F_X12_goesOne_10 n k) a0 x2 x3 x4 h = some q := hf
    unfold F_X12_goesOne_10_b at hf
    obtain ⟨v13, e1, hf⟩ := jbind hf
    replace e1 := (jcv_o e1).2
    replace hf := jite hf
    rcases hf with ⟨-, hf⟩ | ⟨-, hf⟩
    · replace hf := jite hf
      rcases hf with ⟨-, hf⟩ | ⟨-, hf⟩
      · cases hf
        exact frM_rfl
      · cases hf
        exact frM_rfl
    · obtain ⟨v22, e2, hf⟩ := jbind hf
      replace hf := jite hf
      rcases hf with ⟨-, hf⟩ | ⟨-, hf⟩
      · exact (frM_le (ih M hf) (by decide) (by decide))
      · obtain ⟨p32, e3, hf⟩ := jbind hf
        have r3 := oc_gR e3
        rw [M.1] at r3
        cases r3
        obtain ⟨v38, e4, hf⟩ := jbind hf
        obtain ⟨v42, e5, hf⟩ := jbind hf
        replace hf := jite hf
        rcases hf with ⟨-, hf⟩ | ⟨-, hf⟩
        · exact (frM_le (FQ_X12_goesOne_52 ih rfl M hf) (by decide) (by decide))
        · exact (frM_le (FQ_X12_goesOne_52 ih rfl M hf) (by decide) (by decide))
theorem FQ_X12_goesOne {n : Nat} {a0 : Nat} {x1 : Int32} {x2 : Int32} {h : jH} {q : Int32 × jH} (M : mS (oc h) a0) (hf : F_X12_goesOne n a0 x1 x2 h = some q) : frM a0 [1] [18] (oc h) (oc q.2) := by
  unfold F_X12_goesOne at hf
  obtain ⟨v3, e1, hf⟩ := jbind hf
  replace e1 := (jcv_o e1).2
  exact (frM_le (FQ_X12_goesOne_10 M hf) (by decide) (by decide))
theorem FQ_X12_pulls_8 {n : Nat} {k : Nat} : ∀ {a0 : Nat} {x1 : Int32} {x2 : Int32} {x3 : Int32} {x4 : Int32} {h : jH} {q : Int32 × jH}, mS (oc h) a0 → F_X12_pulls_8 n k a0 x1 x2 x3 x4 h = some q → frM a0 [1] [18] (oc h) (oc q.2) := by
  induction k with
  | zero =>
    intro a0 x1 x2 x3 x4 h q M hf
    cases hf
  | succ k ih =>
    intro a0 x1 x2 x3 x4 h q M hf
    replace hf : F_X12_pulls_8_b n (F_X12_pulls_8 n k) a0 x1 x2 x3 x4 h = some q := hf
    unfold F_X12_pulls_8_b at hf
    replace hf := jite hf
    rcases hf with ⟨-, hf⟩ | ⟨-, hf⟩
    · exact (frM_le (FQ_X12_pulls_29 M hf) (by decide) (by decide))
    · obtain ⟨q17, e1, hf⟩ := jbind hf
      replace e1 := (jcv_o e1).2
      have f1 : frM a0 [1] [18] (oc h) (oc q17.2) := frM_le (FQ_X12_goesOne M e1) (by decide) (by decide)
      have m1 := mS_fr M f1 (by decide) (by decide)
      replace hf := jite hf
      rcases hf with ⟨-, hf⟩ | ⟨-, hf⟩
      · exact (frM_tr f1 (frM_le (FQ_X12_pulls_29 m1 hf) (by decide) (by decide)))
      · exact (frM_tr f1 (frM_le (ih m1 hf) (by decide) (by decide)))
theorem FQ_X12_pulls {n : Nat} {a0 : Nat} {x1 : Int32} {x2 : Int32} {x3 : Int32} {h : jH} {q : Int32 × jH} (M : mS (oc h) a0) (hf : F_X12_pulls n a0 x1 x2 x3 h = some q) : frM a0 [1] [18] (oc h) (oc q.2) := by
  unfold F_X12_pulls at hf
  obtain ⟨h2, e1, hf⟩ := jbind hf
  have f1 : frM a0 [1] [18] (oc h) (oc h2) := by rw [(oc_pf e1).1]; exact frM_f (by decide)
  have m1 := mS_fr M f1 (by decide) (by decide)
  exact (frM_tr f1 (frM_le (FQ_X12_pulls_8 m1 hf) (by decide) (by decide)))
theorem FQ_X12_bringsBack_2 {n : Nat} {k : Nat} : ∀ {a0 : Nat} {x1 : Int32} {h : jH} {q : jH}, mS (oc h) a0 → F_X12_bringsBack_2 n k a0 x1 h = some q → frM a0 [1] [] (oc h) (oc q) := by
  induction k with
  | zero =>
    intro a0 x1 h q M hf
    cases hf
  | succ k ih =>
    intro a0 x1 h q M hf
    replace hf : F_X12_bringsBack_2_b n (F_X12_bringsBack_2 n k) a0 x1 h = some q := hf
    unfold F_X12_bringsBack_2_b at hf
    replace hf := jite hf
    rcases hf with ⟨-, hf⟩ | ⟨-, hf⟩
    · cases hf
      exact frM_rfl
    · obtain ⟨p10, e1, hf⟩ := jbind hf
      have r1 := oc_gR e1
      rw [M.1] at r1
      cases r1
      obtain ⟨p15, e2, hf⟩ := jbind hf
      have r2 := oc_gR e2
      rw [M.2.2.2.1] at r2
      cases r2
      obtain ⟨v19, e3, hf⟩ := jbind hf
      obtain ⟨h20, e4, hf⟩ := jbind hf
      have f4 : frM a0 [1] [] (oc h) (oc h20) := by rw [(oc_as e4).1]; exact frM_c (by decide)
      have m4 := mS_fr M f4 (by decide) (by decide)
      exact (frM_tr f4 (frM_le (ih m4 hf) (by decide) (by decide)))
theorem FQ_X12_bringsBack {n : Nat} {a0 : Nat} {h : jH} {q : jH} (M : mS (oc h) a0) (hf : F_X12_bringsBack n a0 h = some q) : frM a0 [1] [] (oc h) (oc q) := by
  unfold F_X12_bringsBack at hf
  exact (frM_le (FQ_X12_bringsBack_2 M hf) (by decide) (by decide))
theorem FQ_X12_goes {n : Nat} {a0 : Nat} {x1 : Int32} {x2 : Int32} {h : jH} {q : Int32 × jH} (M : mS (oc h) a0) (hf : F_X12_goes n a0 x1 x2 h = some q) : frM a0 [1, 4] [0, 18] (oc h) (oc q.2) := by
  unfold F_X12_goes at hf
  obtain ⟨h2, e1, hf⟩ := jbind hf
  have f1 : frM a0 [1, 4] [0, 18] (oc h) (oc h2) := by rw [(oc_pf e1).1]; exact frM_f (by decide)
  have m1 := mS_fr M f1 (by decide) (by decide)
  obtain ⟨v8, e2, hf⟩ := jbind hf
  replace e2 := (jcv_o e2).2
  obtain ⟨q12, e3, hf⟩ := jbind hf
  replace e3 := (jcv_o e3).2
  have f3 : frM a0 [1, 4] [0, 18] (oc h2) (oc q12.2) := frM_le (FQ_X12_throwsIf m1 e3) (by decide) (by decide)
  have m3 := mS_fr m1 f3 (by decide) (by decide)
  replace hf := jite hf
  rcases hf with ⟨-, hf⟩ | ⟨-, hf⟩
  · obtain ⟨h21, e4, hf⟩ := jbind hf
    replace e4 := (jcv_o e4).2
    have f4 : frM a0 [1, 4] [0, 18] (oc q12.2) (oc h21) := frM_le (FQ_X12_keepsAll m3 e4) (by decide) (by decide)
    have m4 := mS_fr m3 f4 (by decide) (by decide)
    obtain ⟨q29, e5, hf⟩ := jbind hf
    replace e5 := (jcv_o e5).2
    have f5 : frM a0 [1, 4] [0, 18] (oc h21) (oc q29.2) := frM_le (FQ_X12_pulls m4 e5) (by decide) (by decide)
    have m5 := mS_fr m4 f5 (by decide) (by decide)
    obtain ⟨h34, e6, hf⟩ := jbind hf
    replace e6 := (jcv_o e6).2
    have f6 : frM a0 [1, 4] [0, 18] (oc q29.2) (oc h34) := frM_le (FQ_X12_bringsBack m5 e6) (by decide) (by decide)
    have m6 := mS_fr m5 f6 (by decide) (by decide)
    cases hf
    exact (frM_tr (frM_tr (frM_tr (frM_tr f1 f3) f4) f5) f6)
  · cases hf
    exact (frM_tr f1 f3)
theorem FQ_X12_with {n : Nat} {a0 : Nat} {x1 : Int32} {x2 : Int32} {h : jH} {q : Int32 × jH} (M : mS (oc h) a0) (hf : F_X12_with n a0 x1 x2 h = some q) : frM a0 [] [0] (oc h) (oc q.2) := by
  unfold F_X12_with at hf
  obtain ⟨h2, e1, hf⟩ := jbind hf
  have f1 : frM a0 [] [0] (oc h) (oc h2) := by rw [(oc_pf e1).1]; exact frM_f (by decide)
  have m1 := mS_fr M f1 (by decide) (by decide)
  obtain ⟨v8, e2, hf⟩ := jbind hf
  replace e2 := (jcv_o e2).2
  obtain ⟨q12, e3, hf⟩ := jbind hf
  replace e3 := (jcv_o e3).2
  have f3 : frM a0 [] [0] (oc h2) (oc q12.2) := frM_le (FQ_X12_throwsIf m1 e3) (by decide) (by decide)
  have m3 := mS_fr m1 f3 (by decide) (by decide)
  replace hf := jite hf
  rcases hf with ⟨-, hf⟩ | ⟨-, hf⟩
  · obtain ⟨v25, e4, hf⟩ := jbind hf
    replace e4 := (jcv_o e4).2
    cases hf
    exact (frM_tr f1 f3)
  · cases hf
    exact (frM_tr f1 f3)
theorem FQ_X12_would_60 {n : Nat} {a0 : Nat} {s0 : Int32} {h : jH} {q : Int32 × jH} (M : mS (oc h) a0) (hf : F_X12_would_60 n a0 s0 h = some q) : frM a0 [1] [] (oc h) (oc q.2) := by
  unfold F_X12_would_60 at hf
  obtain ⟨h63, e1, hf⟩ := jbind hf
  replace e1 := (jcv_o e1).2
  have f1 : frM a0 [1] [] (oc h) (oc h63) := frM_le (FQ_X12_bringsBack M e1) (by decide) (by decide)
  have m1 := mS_fr M f1 (by decide) (by decide)
  cases hf
  exact f1
theorem FQ_X12_would {n : Nat} {a0 : Nat} {x1 : Int32} {x2 : Int32} {x3 : Int32} {x4 : Int32} {h : jH} {q : Int32 × jH} (M : mS (oc h) a0) (hf : F_X12_would n a0 x1 x2 x3 x4 h = some q) : frM a0 [1, 4] [0, 18] (oc h) (oc q.2) := by
  unfold F_X12_would at hf
  obtain ⟨h2, e1, hf⟩ := jbind hf
  have f1 : frM a0 [1, 4] [0, 18] (oc h) (oc h2) := by rw [(oc_pf e1).1]; exact frM_f (by decide)
  have m1 := mS_fr M f1 (by decide) (by decide)
  obtain ⟨v8, e2, hf⟩ := jbind hf
  replace e2 := (jcv_o e2).2
  obtain ⟨q12, e3, hf⟩ := jbind hf
  replace e3 := (jcv_o e3).2
  have f3 : frM a0 [1, 4] [0, 18] (oc h2) (oc q12.2) := frM_le (FQ_X12_throwsIf m1 e3) (by decide) (by decide)
  have m3 := mS_fr m1 f3 (by decide) (by decide)
  replace hf := jite hf
  rcases hf with ⟨-, hf⟩ | ⟨-, hf⟩
  · obtain ⟨v20, e4, hf⟩ := jbind hf
    obtain ⟨q24, e5, hf⟩ := jbind hf
    replace e5 := (jcv_o e5).2
    have f5 : frM a0 [1, 4] [0, 18] (oc q12.2) (oc q24.2) := frM_le (FQ_X12_throwsIf m3 e5) (by decide) (by decide)
    have m5 := mS_fr m3 f5 (by decide) (by decide)
    replace hf := jite hf
    rcases hf with ⟨-, hf⟩ | ⟨-, hf⟩
    · obtain ⟨h33, e6, hf⟩ := jbind hf
      replace e6 := (jcv_o e6).2
      have f6 : frM a0 [1, 4] [0, 18] (oc q24.2) (oc h33) := frM_le (FQ_X12_keepsAll m5 e6) (by decide) (by decide)
      have m6 := mS_fr m5 f6 (by decide) (by decide)
      obtain ⟨q40, e7, hf⟩ := jbind hf
      replace e7 := (jcv_o e7).2
      have f7 : frM a0 [1, 4] [0, 18] (oc h33) (oc q40.2) := frM_le (FQ_X12_pulls m6 e7) (by decide) (by decide)
      have m7 := mS_fr m6 f7 (by decide) (by decide)
      replace hf := jite hf
      rcases hf with ⟨-, hf⟩ | ⟨-, hf⟩
      · obtain ⟨v57, e8, hf⟩ := jbind hf
        replace e8 := (jcv_o e8).2
        exact (frM_tr (frM_tr (frM_tr (frM_tr (frM_tr f1 f3) f5) f6) f7) (frM_le (FQ_X12_would_60 m7 hf) (by decide) (by decide)))
      · obtain ⟨v50, e9, hf⟩ := jbind hf
        exact (frM_tr (frM_tr (frM_tr (frM_tr (frM_tr f1 f3) f5) f6) f7) (frM_le (FQ_X12_would_60 m7 hf) (by decide) (by decide)))
    · cases hf
      exact (frM_tr (frM_tr f1 f3) f5)
  · cases hf
    exact (frM_tr f1 f3)
theorem FQ_X12_uses {n : Nat} {a0 : Nat} {h : jH} {q : jH} (M : mS (oc h) a0) (hf : F_X12_uses n a0 h = some q) : frM a0 [] [0, 9, 10, 11] (oc h) (oc q) := by
  unfold F_X12_uses at hf
  obtain ⟨h2, e1, hf⟩ := jbind hf
  have f1 : frM a0 [] [0, 9, 10, 11] (oc h) (oc h2) := by rw [(oc_pf e1).1]; exact frM_f (by decide)
  have m1 := mS_fr M f1 (by decide) (by decide)
  obtain ⟨v7, e2, hf⟩ := jbind hf
  obtain ⟨h10, e3, hf⟩ := jbind hf
  have f3 : frM a0 [] [0, 9, 10, 11] (oc h2) (oc h10) := by rw [(oc_pf e3).1]; exact frM_f (by decide)
  have m3 := mS_fr m1 f3 (by decide) (by decide)
  obtain ⟨h15, e4, hf⟩ := jbind hf
  have f4 : frM a0 [] [0, 9, 10, 11] (oc h10) (oc h15) := by rw [(oc_pf e4).1]; exact frM_f (by decide)
  have m4 := mS_fr m3 f4 (by decide) (by decide)
  obtain ⟨h20, e5, hf⟩ := jbind hf
  have f5 : frM a0 [] [0, 9, 10, 11] (oc h15) (oc h20) := by rw [(oc_pf e5).1]; exact frM_f (by decide)
  have m5 := mS_fr m4 f5 (by decide) (by decide)
  cases hf
  exact (frM_tr (frM_tr (frM_tr f1 f3) f4) f5)
theorem FQ_X12_areCaught_2 {n : Nat} {k : Nat} : ∀ {a0 : Nat} {x1 : Int32} {x2 : Int32} {h : jH} {q : jH}, mS (oc h) a0 → F_X12_areCaught_2 n k a0 x1 x2 h = some q → frM a0 [1] [] (oc h) (oc q) := by
  induction k with
  | zero =>
    intro a0 x1 x2 h q M hf
    cases hf
  | succ k ih =>
    intro a0 x1 x2 h q M hf
    replace hf : F_X12_areCaught_2_b n (F_X12_areCaught_2 n k) a0 x1 x2 h = some q := hf
    unfold F_X12_areCaught_2_b at hf
    obtain ⟨v4, e1, hf⟩ := jbind hf
    replace e1 := (jcv_o e1).2
    replace hf := jite hf
    rcases hf with ⟨-, hf⟩ | ⟨-, hf⟩
    · cases hf
      exact frM_rfl
    · obtain ⟨p11, e2, hf⟩ := jbind hf
      have r2 := oc_gR e2
      rw [M.1] at r2
      cases r2
      obtain ⟨v17, e3, hf⟩ := jbind hf
      obtain ⟨v22, e4, hf⟩ := jbind hf
      replace hf := jite hf
      rcases hf with ⟨-, hf⟩ | ⟨-, hf⟩
      · obtain ⟨h33, e5, hf⟩ := jbind hf
        have f5 : frM a0 [1] [] (oc h) (oc h33) := by rw [(oc_as e5).1]; exact frM_c (by decide)
        have m5 := mS_fr M f5 (by decide) (by decide)
        exact (frM_tr f5 (frM_le (ih m5 hf) (by decide) (by decide)))
      · obtain ⟨h33, e6, hf⟩ := jbind hf
        have f6 : frM a0 [1] [] (oc h) (oc h33) := by rw [(oc_as e6).1]; exact frM_c (by decide)
        have m6 := mS_fr M f6 (by decide) (by decide)
        exact (frM_tr f6 (frM_le (ih m6 hf) (by decide) (by decide)))
theorem FQ_X12_areCaught {n : Nat} {a0 : Nat} {x1 : Int32} {h : jH} {q : jH} (M : mS (oc h) a0) (hf : F_X12_areCaught n a0 x1 h = some q) : frM a0 [1] [] (oc h) (oc q) := by
  unfold F_X12_areCaught at hf
  exact (frM_le (FQ_X12_areCaught_2 M hf) (by decide) (by decide))
theorem FQ_X12_wentWith {n : Nat} {a0 : Nat} {x1 : Int32} {x2 : Int32} {x3 : Int32} {x4 : Int32} {h : jH} {q : Int32 × jH} (M : mS (oc h) a0) (hf : F_X12_wentWith n a0 x1 x2 x3 x4 h = some q) : frM a0 [1, 4] [18] (oc h) (oc q.2) := by
  unfold F_X12_wentWith at hf
  obtain ⟨h1, e1, hf⟩ := jbind hf
  replace e1 := (jcv_o e1).2
  have f1 : frM a0 [1, 4] [18] (oc h) (oc h1) := frM_le (FQ_X12_keepsAll M e1) (by decide) (by decide)
  have m1 := mS_fr M f1 (by decide) (by decide)
  obtain ⟨h6, e2, hf⟩ := jbind hf
  replace e2 := (jcv_o e2).2
  have f2 : frM a0 [1, 4] [18] (oc h1) (oc h6) := frM_le (FQ_X12_areCaught m1 e2) (by decide) (by decide)
  have m2 := mS_fr m1 f2 (by decide) (by decide)
  obtain ⟨q14, e3, hf⟩ := jbind hf
  replace e3 := (jcv_o e3).2
  have f3 : frM a0 [1, 4] [18] (oc h6) (oc q14.2) := frM_le (FQ_X12_pulls m2 e3) (by decide) (by decide)
  have m3 := mS_fr m2 f3 (by decide) (by decide)
  obtain ⟨h20, e4, hf⟩ := jbind hf
  replace e4 := (jcv_o e4).2
  have f4 : frM a0 [1, 4] [18] (oc q14.2) (oc h20) := frM_le (FQ_X12_bringsBack m3 e4) (by decide) (by decide)
  have m4 := mS_fr m3 f4 (by decide) (by decide)
  cases hf
  exact (frM_tr (frM_tr (frM_tr f1 f2) f3) f4)
theorem FQ_X12_fits_41 {n : Nat} {rc4 : Nat → Int32 → Int32 → Int32 → jH → Option (Int32 × jH)} (hrc4 : ∀ {z0 : Nat} {z1 : Int32} {z2 : Int32} {z3 : Int32} {h : jH} {q : Int32 × jH}, mS (oc h) z0 → rc4 z0 z1 z2 z3 h = some q → frM z0 [1, 4] [18] (oc h) (oc q.2)) {a0 : Nat} {x1 : Int32} {x3 : Int32} {sa0 : Nat} {s1 : Int32} {s2 : Int32} {s3 : Int32} {h : jH} {q : Int32 × jH} (hs : a0 = sa0) (M : mS (oc h) a0) (hf : F_X12_fits_41 n rc4 a0 x1 x3 sa0 s1 s2 s3 h = some q) : frM a0 [1, 4] [18] (oc h) (oc q.2) := by
  unfold F_X12_fits_41 at hf
  subst hs
  obtain ⟨p42, e1, hf⟩ := jbind hf
  have r1 := oc_gR e1
  rw [M.2.2.2.2.2.1] at r1
  cases r1
  obtain ⟨v48, e2, hf⟩ := jbind hf
  obtain ⟨q49, e3, hf⟩ := jbind hf
  replace e3 := (jcv_o e3).2
  have f3 : frM a0 [1, 4] [18] (oc h) (oc q49.2) := frM_le (FQ_X12_wentWith M e3) (by decide) (by decide)
  have m3 := mS_fr M f3 (by decide) (by decide)
  obtain ⟨p53, e4, hf⟩ := jbind hf
  have r4 := oc_gR e4
  rw [m3.2.2.2.2.2.1] at r4
  cases r4
  obtain ⟨v59, e5, hf⟩ := jbind hf
  replace hf := jite hf
  rcases hf with ⟨-, hf⟩ | ⟨-, hf⟩
  · exact (frM_tr f3 (frM_le (hrc4 m3 hf) (by decide) (by decide)))
  · exact (frM_tr f3 (frM_le (hrc4 m3 hf) (by decide) (by decide)))
theorem FQ_X12_fits_4 {n : Nat} {k : Nat} : ∀ {a0 : Nat} {x1 : Int32} {x2 : Int32} {x3 : Int32} {h : jH} {q : Int32 × jH}, mS (oc h) a0 → F_X12_fits_4 n k a0 x1 x2 x3 h = some q → frM a0 [1, 4] [18] (oc h) (oc q.2) := by
  induction k with
  | zero =>
    intro a0 x1 x2 x3 h q M hf
    cases hf
  | succ k ih =>
    intro a0 x1 x2 x3 h q M hf
    replace hf : F_X12_fits_4_b n (F_X12_fits_4 n k) a0 x1 x2 x3 h = some q := hf
    unfold F_X12_fits_4_b at hf
    obtain ⟨v6, e1, hf⟩ := jbind hf
    replace hf := jite hf
    rcases hf with ⟨-, hf⟩ | ⟨-, hf⟩
    · replace hf := jite hf
      rcases hf with ⟨-, hf⟩ | ⟨-, hf⟩
      · cases hf
        exact frM_rfl
      · cases hf
    · replace hf := jite hf
      rcases hf with ⟨-, hf⟩ | ⟨-, hf⟩
      · replace hf := jite hf
        rcases hf with ⟨-, hf⟩ | ⟨-, hf⟩
        · cases hf
          exact frM_rfl
        · cases hf
      · obtain ⟨p19, e2, hf⟩ := jbind hf
        have r2 := oc_gR e2
        rw [M.2.2.2.2.2.1] at r2
        cases r2
        obtain ⟨v23, e3, hf⟩ := jbind hf
        obtain ⟨p25, e4, hf⟩ := jbind hf
        have r4 := oc_gR e4
        rw [M.2.2.2.2.2.1] at r4
        cases r4
        obtain ⟨v31, e5, hf⟩ := jbind hf
        replace hf := jite hf
        rcases hf with ⟨-, hf⟩ | ⟨-, hf⟩
        · exact (frM_le (FQ_X12_fits_41 ih rfl M hf) (by decide) (by decide))
        · exact (frM_le (FQ_X12_fits_41 ih rfl M hf) (by decide) (by decide))
theorem FQ_X12_fits {n : Nat} {a0 : Nat} {x1 : Int32} {h : jH} {q : Int32 × jH} (M : mS (oc h) a0) (hf : F_X12_fits n a0 x1 h = some q) : frM a0 [1, 4] [18] (oc h) (oc q.2) := by
  unfold F_X12_fits at hf
  exact (frM_le (FQ_X12_fits_4 M hf) (by decide) (by decide))
theorem FQ_X12_snags_36 {n : Nat} {k : Nat} : ∀ {a0 : Nat} {x1 : Int32} {x2 : Int32} {x3 : Int32} {x4 : Int32} {h : jH} {q : Int32 × jH}, mS (oc h) a0 → F_X12_snags_36 n k a0 x1 x2 x3 x4 h = some q → frM a0 [1, 4] [18] (oc h) (oc q.2) := by
  induction k with
  | zero =>
    intro a0 x1 x2 x3 x4 h q M hf
    cases hf
  | succ k ih =>
    intro a0 x1 x2 x3 x4 h q M hf
    replace hf : F_X12_snags_36_b n (F_X12_snags_36 n k) a0 x1 x2 x3 x4 h = some q := hf
    unfold F_X12_snags_36_b at hf
    obtain ⟨v39, e1, hf⟩ := jbind hf
    replace e1 := (jcv_o e1).2
    replace hf := jite hf
    rcases hf with ⟨-, hf⟩ | ⟨-, hf⟩
    · replace hf := jite hf
      rcases hf with ⟨-, hf⟩ | ⟨-, hf⟩
      · cases hf
        exact frM_rfl
      · replace hf := jite hf
        rcases hf with ⟨-, hf⟩ | ⟨-, hf⟩
        · cases hf
          exact frM_rfl
        · cases hf
          exact frM_rfl
    · obtain ⟨q48, e2, hf⟩ := jbind hf
      replace e2 := (jcv_o e2).2
      have f2 : frM a0 [1, 4] [18] (oc h) (oc q48.2) := frM_le (FQ_X12_fits M e2) (by decide) (by decide)
      have m2 := mS_fr M f2 (by decide) (by decide)
      replace hf := jite hf
      rcases hf with ⟨-, hf⟩ | ⟨-, hf⟩
      · exact (frM_tr f2 (frM_le (ih m2 hf) (by decide) (by decide)))
      · exact (frM_tr f2 (frM_le (ih m2 hf) (by decide) (by decide)))
theorem FQ_X12_snags_17 {n : Nat} {a0 : Nat} {x1 : Int32} {sa0 : Nat} {s1 : Int32} {h : jH} {q : Int32 × jH} (hs : a0 = sa0) (M : mS (oc h) a0) (hf : F_X12_snags_17 n a0 x1 sa0 s1 h = some q) : frM a0 [1, 4] [0, 18] (oc h) (oc q.2) := by
  unfold F_X12_snags_17 at hf
  subst hs
  obtain ⟨q18, e1, hf⟩ := jbind hf
  replace e1 := (jcv_o e1).2
  have f1 : frM a0 [1, 4] [0, 18] (oc h) (oc q18.2) := frM_le (FQ_X12_throwsIf M e1) (by decide) (by decide)
  have m1 := mS_fr M f1 (by decide) (by decide)
  replace hf := jite hf
  rcases hf with ⟨-, hf⟩ | ⟨-, hf⟩
  · obtain ⟨v29, e2, hf⟩ := jbind hf
    replace e2 := (jcv_o e2).2
    exact (frM_tr f1 (frM_le (FQ_X12_snags_36 m1 hf) (by decide) (by decide)))
  · cases hf
    exact f1
theorem FQ_X12_snags {n : Nat} {a0 : Nat} {x1 : Int32} {h : jH} {q : Int32 × jH} (M : mS (oc h) a0) (hf : F_X12_snags n a0 x1 h = some q) : frM a0 [1, 4] [0, 9, 10, 11, 18] (oc h) (oc q.2) := by
  unfold F_X12_snags at hf
  obtain ⟨h1, e1, hf⟩ := jbind hf
  replace e1 := (jcv_o e1).2
  have f1 : frM a0 [1, 4] [0, 9, 10, 11, 18] (oc h) (oc h1) := frM_le (FQ_X12_uses M e1) (by decide) (by decide)
  have m1 := mS_fr M f1 (by decide) (by decide)
  obtain ⟨v6, e2, hf⟩ := jbind hf
  replace e2 := (jcv_o e2).2
  replace hf := jite hf
  rcases hf with ⟨-, hf⟩ | ⟨-, hf⟩
  · exact (frM_tr f1 (frM_le (FQ_X12_snags_17 rfl m1 hf) (by decide) (by decide)))
  · exact (frM_tr f1 (frM_le (FQ_X12_snags_17 rfl m1 hf) (by decide) (by decide)))
theorem FQ_X12_partBy_29 {n : Nat} {k : Nat} : ∀ {a0 : Nat} {x1 : Int32} {x2 : Int32} {x3 : Int32} {x4 : Int32} {h : jH} {q : Int32 × jH}, mS (oc h) a0 → F_X12_partBy_29 n k a0 x1 x2 x3 x4 h = some q → frM a0 [1, 4, 10] [18] (oc h) (oc q.2) := by
  induction k with
  | zero =>
    intro a0 x1 x2 x3 x4 h q M hf
    cases hf
  | succ k ih =>
    intro a0 x1 x2 x3 x4 h q M hf
    replace hf : F_X12_partBy_29_b n (F_X12_partBy_29 n k) a0 x1 x2 x3 x4 h = some q := hf
    unfold F_X12_partBy_29_b at hf
    obtain ⟨v32, e1, hf⟩ := jbind hf
    replace e1 := (jcv_o e1).2
    replace hf := jite hf
    rcases hf with ⟨-, hf⟩ | ⟨-, hf⟩
    · cases hf
      exact frM_rfl
    · obtain ⟨p39, e2, hf⟩ := jbind hf
      have r2 := oc_gR e2
      rw [M.2.2.2.2.2.2.2.2.1] at r2
      cases r2
      obtain ⟨v44, e3, hf⟩ := jbind hf
      replace hf := jite hf
      rcases hf with ⟨-, hf⟩ | ⟨-, hf⟩
      · exact (frM_le (ih M hf) (by decide) (by decide))
      · obtain ⟨q58, e4, hf⟩ := jbind hf
        replace e4 := (jcv_o e4).2
        have f4 : frM a0 [1, 4, 10] [18] (oc h) (oc q58.2) := frM_le (FQ_X12_wentWith M e4) (by decide) (by decide)
        have m4 := mS_fr M f4 (by decide) (by decide)
        obtain ⟨p64, e5, hf⟩ := jbind hf
        have r5 := oc_gR e5
        rw [m4.2.2.2.2.2.2.2.2.2.1] at r5
        cases r5
        obtain ⟨v70, e6, hf⟩ := jbind hf
        obtain ⟨h73, e7, hf⟩ := jbind hf
        have f7 : frM a0 [1, 4, 10] [18] (oc q58.2) (oc h73) := by rw [(oc_as e7).1]; exact frM_c (by decide)
        have m7 := mS_fr m4 f7 (by decide) (by decide)
        obtain ⟨p76, e8, hf⟩ := jbind hf
        have r8 := oc_gR e8
        rw [m7.2.2.2.2.2.2.2.2.2.1] at r8
        cases r8
        obtain ⟨v81, e9, hf⟩ := jbind hf
        exact (frM_tr (frM_tr f4 f7) (frM_le (ih m7 hf) (by decide) (by decide)))
theorem FQ_X12_partBy_5 {n : Nat} {k : Nat} : ∀ {a0 : Nat} {x1 : Int32} {x2 : Int32} {x3 : Int32} {x4 : Int32} {h : jH} {q : Int32 × jH}, mS (oc h) a0 → F_X12_partBy_5 n k a0 x1 x2 x3 x4 h = some q → frM a0 [1, 4, 10] [18] (oc h) (oc q.2) := by
  induction k with
  | zero =>
    intro a0 x1 x2 x3 x4 h q M hf
    cases hf
  | succ k ih =>
    intro a0 x1 x2 x3 x4 h q M hf
    replace hf : F_X12_partBy_5_b n (F_X12_partBy_5 n k) a0 x1 x2 x3 x4 h = some q := hf
    unfold F_X12_partBy_5_b at hf
    replace hf := jite hf
    rcases hf with ⟨-, hf⟩ | ⟨-, hf⟩
    · exact (frM_le (FQ_X12_partBy_29 M hf) (by decide) (by decide))
    · obtain ⟨p13, e1, hf⟩ := jbind hf
      have r1 := oc_gR e1
      rw [M.2.2.2.2.2.2.2.2.2.1] at r1
      cases r1
      obtain ⟨h19, e2, hf⟩ := jbind hf
      have f2 : frM a0 [1, 4, 10] [18] (oc h) (oc h19) := by rw [(oc_as e2).1]; exact frM_c (by decide)
      have m2 := mS_fr M f2 (by decide) (by decide)
      exact (frM_tr f2 (frM_le (ih m2 hf) (by decide) (by decide)))
theorem FQ_X12_partBy {n : Nat} {a0 : Nat} {x1 : Int32} {x2 : Int32} {h : jH} {q : Int32 × jH} (M : mS (oc h) a0) (hf : F_X12_partBy n a0 x1 x2 h = some q) : frM a0 [1, 4, 10] [18] (oc h) (oc q.2) := by
  unfold F_X12_partBy at hf
  exact (frM_le (FQ_X12_partBy_5 M hf) (by decide) (by decide))
theorem FQ_X12_tries_132 {n : Nat} {rc81 : Nat → Int32 → Int32 → Int32 → Int32 → jH → Option (Int32 × jH)} (hrc81 : ∀ {z0 : Nat} {z1 : Int32} {z2 : Int32} {z3 : Int32} {z4 : Int32} {h : jH} {q : Int32 × jH}, mS (oc h) z0 → rc81 z0 z1 z2 z3 z4 h = some q → frM z0 [1, 4, 10] [18] (oc h) (oc q.2)) {a0 : Nat} {x1 : Int32} {x3 : Int32} {x4 : Int32} {x5 : Int32} {s0 : Int32} {h : jH} {q : Int32 × jH} (M : mS (oc h) a0) (hf : F_X12_tries_132 n rc81 a0 x1 x3 x4 x5 s0 h = some q) : frM a0 [1, 4, 10] [18] (oc h) (oc q.2) := by
  unfold F_X12_tries_132 at hf
  exact (frM_le (hrc81 M hf) (by decide) (by decide))
theorem FQ_X12_tries_115 {n : Nat} {rc81 : Nat → Int32 → Int32 → Int32 → Int32 → jH → Option (Int32 × jH)} (hrc81 : ∀ {z0 : Nat} {z1 : Int32} {z2 : Int32} {z3 : Int32} {z4 : Int32} {h : jH} {q : Int32 × jH}, mS (oc h) z0 → rc81 z0 z1 z2 z3 z4 h = some q → frM z0 [1, 4, 10] [18] (oc h) (oc q.2)) {a0 : Nat} {x1 : Int32} {x2 : Int32} {x3 : Int32} {x4 : Int32} {sa0 : Nat} {s1 : Int32} {s2 : Int32} {h : jH} {q : Int32 × jH} (hs : a0 = sa0) (M : mS (oc h) a0) (hf : F_X12_tries_115 n rc81 a0 x1 x2 x3 x4 sa0 s1 s2 h = some q) : frM a0 [1, 4, 10] [18] (oc h) (oc q.2) := by
  unfold F_X12_tries_115 at hf
  subst hs
  obtain ⟨q115, e1, hf⟩ := jbind hf
  replace e1 := (jcv_o e1).2
  have f1 : frM a0 [1, 4, 10] [18] (oc h) (oc q115.2) := frM_le (FQ_X12_partBy M e1) (by decide) (by decide)
  have m1 := mS_fr M f1 (by decide) (by decide)
  replace hf := jite hf
  rcases hf with ⟨-, hf⟩ | ⟨-, hf⟩
  · exact (frM_tr f1 (frM_le (FQ_X12_tries_132 hrc81 m1 hf) (by decide) (by decide)))
  · exact (frM_tr f1 (frM_le (FQ_X12_tries_132 hrc81 m1 hf) (by decide) (by decide)))
theorem FQ_X12_tries_81 {n : Nat} {k : Nat} : ∀ {a0 : Nat} {x1 : Int32} {x2 : Int32} {x3 : Int32} {x4 : Int32} {h : jH} {q : Int32 × jH}, mS (oc h) a0 → F_X12_tries_81 n k a0 x1 x2 x3 x4 h = some q → frM a0 [1, 4, 10] [18] (oc h) (oc q.2) := by
  induction k with
  | zero =>
    intro a0 x1 x2 x3 x4 h q M hf
    cases hf
  | succ k ih =>
    intro a0 x1 x2 x3 x4 h q M hf
    replace hf : F_X12_tries_81_b n (F_X12_tries_81 n k) a0 x1 x2 x3 x4 h = some q := hf
    unfold F_X12_tries_81_b at hf
    obtain ⟨v85, e1, hf⟩ := jbind hf
    replace e1 := (jcv_o e1).2
    replace hf := jite hf
    rcases hf with ⟨-, hf⟩ | ⟨-, hf⟩
    · cases hf
      exact frM_rfl
    · replace hf := jite hf
      rcases hf with ⟨-, hf⟩ | ⟨-, hf⟩
      · cases hf
        exact frM_rfl
      · replace hf := jite hf
        rcases hf with ⟨-, hf⟩ | ⟨-, hf⟩
        · exact (frM_le (FQ_X12_tries_115 ih rfl M hf) (by decide) (by decide))
        · exact (frM_le (FQ_X12_tries_115 ih rfl M hf) (by decide) (by decide))
theorem FQ_X12_tries_30 {n : Nat} {k : Nat} : ∀ {a0 : Nat} {x1 : Int32} {x2 : Int32} {h : jH} {q : Int32 × jH}, mS (oc h) a0 → F_X12_tries_30 n k a0 x1 x2 h = some q → frM a0 [1, 4, 9, 10] [18] (oc h) (oc q.2) := by
  induction k with
  | zero =>
    intro a0 x1 x2 h q M hf
    cases hf
  | succ k ih =>
    intro a0 x1 x2 h q M hf
    replace hf : F_X12_tries_30_b n (F_X12_tries_30 n k) a0 x1 x2 h = some q := hf
    unfold F_X12_tries_30_b at hf
    obtain ⟨v32, e1, hf⟩ := jbind hf
    replace e1 := (jcv_o e1).2
    replace hf := jite hf
    rcases hf with ⟨-, hf⟩ | ⟨-, hf⟩
    · exact (frM_le (FQ_X12_tries_81 M hf) (by decide) (by decide))
    · obtain ⟨p39, e2, hf⟩ := jbind hf
      have r2 := oc_gR e2
      rw [M.2.2.2.2.2.2.2.2.1] at r2
      cases r2
      obtain ⟨q45, e3, hf⟩ := jbind hf
      replace e3 := (jcv_o e3).2
      have f3 : frM a0 [1, 4, 9, 10] [18] (oc h) (oc q45.2) := frM_le (FQ_X12_fits M e3) (by decide) (by decide)
      have m3 := mS_fr M f3 (by decide) (by decide)
      obtain ⟨h48, e4, hf⟩ := jbind hf
      have f4 : frM a0 [1, 4, 9, 10] [18] (oc q45.2) (oc h48) := by rw [(oc_as e4).1]; exact frM_c (by decide)
      have m4 := mS_fr m3 f4 (by decide) (by decide)
      obtain ⟨p51, e5, hf⟩ := jbind hf
      have r5 := oc_gR e5
      rw [m4.2.2.2.2.2.2.2.2.1] at r5
      cases r5
      obtain ⟨v55, e6, hf⟩ := jbind hf
      replace hf := jite hf
      rcases hf with ⟨-, hf⟩ | ⟨-, hf⟩
      · exact (frM_tr (frM_tr f3 f4) (frM_le (ih m4 hf) (by decide) (by decide)))
      · exact (frM_tr (frM_tr f3 f4) (frM_le (ih m4 hf) (by decide) (by decide)))
theorem FQ_X12_tries_17 {n : Nat} {a0 : Nat} {sa0 : Nat} {s1 : Int32} {h : jH} {q : Int32 × jH} (hs : a0 = sa0) (M : mS (oc h) a0) (hf : F_X12_tries_17 n a0 sa0 s1 h = some q) : frM a0 [1, 4, 9, 10] [0, 18] (oc h) (oc q.2) := by
  unfold F_X12_tries_17 at hf
  subst hs
  obtain ⟨q18, e1, hf⟩ := jbind hf
  replace e1 := (jcv_o e1).2
  have f1 : frM a0 [1, 4, 9, 10] [0, 18] (oc h) (oc q18.2) := frM_le (FQ_X12_throwsIf M e1) (by decide) (by decide)
  have m1 := mS_fr M f1 (by decide) (by decide)
  replace hf := jite hf
  rcases hf with ⟨-, hf⟩ | ⟨-, hf⟩
  · exact (frM_tr f1 (frM_le (FQ_X12_tries_30 m1 hf) (by decide) (by decide)))
  · cases hf
    exact f1
theorem FQ_X12_tries {n : Nat} {a0 : Nat} {h : jH} {q : Int32 × jH} (M : mS (oc h) a0) (hf : F_X12_tries n a0 h = some q) : frM a0 [1, 4, 9, 10] [0, 9, 10, 11, 18] (oc h) (oc q.2) := by
  unfold F_X12_tries at hf
  obtain ⟨h1, e1, hf⟩ := jbind hf
  replace e1 := (jcv_o e1).2
  have f1 : frM a0 [1, 4, 9, 10] [0, 9, 10, 11, 18] (oc h) (oc h1) := frM_le (FQ_X12_uses M e1) (by decide) (by decide)
  have m1 := mS_fr M f1 (by decide) (by decide)
  obtain ⟨v6, e2, hf⟩ := jbind hf
  replace e2 := (jcv_o e2).2
  replace hf := jite hf
  rcases hf with ⟨-, hf⟩ | ⟨-, hf⟩
  · exact (frM_tr f1 (frM_le (FQ_X12_tries_17 rfl m1 hf) (by decide) (by decide)))
  · exact (frM_tr f1 (frM_le (FQ_X12_tries_17 rfl m1 hf) (by decide) (by decide)))
theorem FQ_X12_loosen_51 {n : Nat} {k : Nat} : ∀ {a0 : Nat} {x1 : Int32} {x2 : Int32} {x3 : Int32} {x4 : Int32} {x5 : Int32} {x6 : Int32} {x7 : Int32} {h : jH} {q : Int32 × jH}, mS (oc h) a0 → F_X12_loosen_51 n k a0 x1 x2 x3 x4 x5 x6 x7 h = some q → frM a0 [1, 4] [18] (oc h) (oc q.2) := by
  induction k with
  | zero =>
    intro a0 x1 x2 x3 x4 x5 x6 x7 h q M hf
    cases hf
  | succ k ih =>
    intro a0 x1 x2 x3 x4 x5 x6 x7 h q M hf
    replace hf : F_X12_loosen_51_b n (F_X12_loosen_51 n k) a0 x1 x2 x3 x4 x5 x6 x7 h = some q := hf
    unfold F_X12_loosen_51_b at hf
    replace hf := jite hf
    rcases hf with ⟨-, hf⟩ | ⟨-, hf⟩
    · cases hf
      exact frM_rfl
    · replace hf := jite hf
      rcases hf with ⟨-, hf⟩ | ⟨-, hf⟩
      · obtain ⟨v70, e1, hf⟩ := jbind hf
        replace hf := jite hf
        rcases hf with ⟨-, hf⟩ | ⟨-, hf⟩
        · exact (frM_le (ih M hf) (by decide) (by decide))
        · obtain ⟨q89, e2, hf⟩ := jbind hf
          replace e2 := (jcv_o e2).2
          have f2 : frM a0 [1, 4] [18] (oc h) (oc q89.2) := frM_le (FQ_X12_wentWith M e2) (by decide) (by decide)
          have m2 := mS_fr M f2 (by decide) (by decide)
          replace hf := jite hf
          rcases hf with ⟨-, hf⟩ | ⟨-, hf⟩
          · obtain ⟨v105, e3, hf⟩ := jbind hf
            exact (frM_tr f2 (frM_le (ih m2 hf) (by decide) (by decide)))
          · exact (frM_tr f2 (frM_le (ih m2 hf) (by decide) (by decide)))
      · exact (frM_le (ih M hf) (by decide) (by decide))
theorem FQ_X12_loosen {n : Nat} {a0 : Nat} {x1 : Int32} {x2 : Int32} {x3 : Int32} {h : jH} {q : Int32 × jH} (M : mS (oc h) a0) (hf : F_X12_loosen n a0 x1 x2 x3 h = some q) : frM a0 [1, 4] [0, 18] (oc h) (oc q.2) := by
  unfold F_X12_loosen at hf
  obtain ⟨h2, e1, hf⟩ := jbind hf
  have f1 : frM a0 [1, 4] [0, 18] (oc h) (oc h2) := by rw [(oc_pf e1).1]; exact frM_f (by decide)
  have m1 := mS_fr M f1 (by decide) (by decide)
  obtain ⟨v8, e2, hf⟩ := jbind hf
  replace e2 := (jcv_o e2).2
  obtain ⟨q12, e3, hf⟩ := jbind hf
  replace e3 := (jcv_o e3).2
  have f3 : frM a0 [1, 4] [0, 18] (oc h2) (oc q12.2) := frM_le (FQ_X12_throwsIf m1 e3) (by decide) (by decide)
  have m3 := mS_fr m1 f3 (by decide) (by decide)
  replace hf := jite hf
  rcases hf with ⟨-, hf⟩ | ⟨-, hf⟩
  · obtain ⟨v20, e4, hf⟩ := jbind hf
    obtain ⟨q24, e5, hf⟩ := jbind hf
    replace e5 := (jcv_o e5).2
    have f5 : frM a0 [1, 4] [0, 18] (oc q12.2) (oc q24.2) := frM_le (FQ_X12_throwsIf m3 e5) (by decide) (by decide)
    have m5 := mS_fr m3 f5 (by decide) (by decide)
    replace hf := jite hf
    rcases hf with ⟨-, hf⟩ | ⟨-, hf⟩
    · obtain ⟨v35, e6, hf⟩ := jbind hf
      replace e6 := (jcv_o e6).2
      exact (frM_tr (frM_tr (frM_tr f1 f3) f5) (frM_le (FQ_X12_loosen_51 m5 hf) (by decide) (by decide)))
    · cases hf
      exact (frM_tr (frM_tr f1 f3) f5)
  · cases hf
    exact (frM_tr f1 f3)
theorem FQ_X12_tight_83 {n : Nat} {rc39 : Nat → Int32 → Int32 → Int32 → Int32 → jH → Option (Int32 × jH)} (hrc39 : ∀ {z0 : Nat} {z1 : Int32} {z2 : Int32} {z3 : Int32} {z4 : Int32} {h : jH} {q : Int32 × jH}, mS (oc h) z0 → rc39 z0 z1 z2 z3 z4 h = some q → frM z0 [] [] (oc h) (oc q.2)) {a0 : Nat} {x1 : Int32} {x3 : Int32} {x4 : Int32} {x5 : Int32} {s0 : Int32} {h : jH} {q : Int32 × jH} (M : mS (oc h) a0) (hf : F_X12_tight_83 n rc39 a0 x1 x3 x4 x5 s0 h = some q) : frM a0 [] [] (oc h) (oc q.2) := by
  unfold F_X12_tight_83 at hf
  exact (frM_le (hrc39 M hf) (by decide) (by decide))
theorem FQ_X12_tight_39 {n : Nat} {k : Nat} : ∀ {a0 : Nat} {x1 : Int32} {x2 : Int32} {x3 : Int32} {x4 : Int32} {h : jH} {q : Int32 × jH}, mS (oc h) a0 → F_X12_tight_39 n k a0 x1 x2 x3 x4 h = some q → frM a0 [] [] (oc h) (oc q.2) := by
  induction k with
  | zero =>
    intro a0 x1 x2 x3 x4 h q M hf
    cases hf
  | succ k ih =>
    intro a0 x1 x2 x3 x4 h q M hf
    replace hf : F_X12_tight_39_b n (F_X12_tight_39 n k) a0 x1 x2 x3 x4 h = some q := hf
    unfold F_X12_tight_39_b at hf
    obtain ⟨v44, e1, hf⟩ := jbind hf
    replace e1 := (jcv_o e1).2
    replace hf := jite hf
    rcases hf with ⟨-, hf⟩ | ⟨-, hf⟩
    · cases hf
      exact frM_rfl
    · obtain ⟨v58, e2, hf⟩ := jbind hf
      replace e2 := (jcv_o e2).2
      obtain ⟨v65, e3, hf⟩ := jbind hf
      replace e3 := (jcv_o e3).2
      replace hf := jite hf
      rcases hf with ⟨-, hf⟩ | ⟨-, hf⟩
      · exact (frM_le (FQ_X12_tight_83 ih M hf) (by decide) (by decide))
      · exact (frM_le (FQ_X12_tight_83 ih M hf) (by decide) (by decide))
theorem FQ_X12_tight_21 {n : Nat} {a0 : Nat} {x1 : Int32} {sa0 : Nat} {s1 : Int32} {h : jH} {q : Int32 × jH} (hs : a0 = sa0) (M : mS (oc h) a0) (hf : F_X12_tight_21 n a0 x1 sa0 s1 h = some q) : frM a0 [] [0] (oc h) (oc q.2) := by
  unfold F_X12_tight_21 at hf
  subst hs
  obtain ⟨q22, e1, hf⟩ := jbind hf
  replace e1 := (jcv_o e1).2
  have f1 : frM a0 [] [0] (oc h) (oc q22.2) := frM_le (FQ_X12_throwsIf M e1) (by decide) (by decide)
  have m1 := mS_fr M f1 (by decide) (by decide)
  replace hf := jite hf
  rcases hf with ⟨-, hf⟩ | ⟨-, hf⟩
  · exact (frM_tr f1 (frM_le (FQ_X12_tight_39 m1 hf) (by decide) (by decide)))
  · cases hf
    exact f1
theorem FQ_X12_tight {n : Nat} {a0 : Nat} {x1 : Int32} {h : jH} {q : Int32 × jH} (M : mS (oc h) a0) (hf : F_X12_tight n a0 x1 h = some q) : frM a0 [] [0] (oc h) (oc q.2) := by
  unfold F_X12_tight at hf
  obtain ⟨h2, e1, hf⟩ := jbind hf
  have f1 : frM a0 [] [0] (oc h) (oc h2) := by rw [(oc_pf e1).1]; exact frM_f (by decide)
  have m1 := mS_fr M f1 (by decide) (by decide)
  obtain ⟨v10, e2, hf⟩ := jbind hf
  replace hf := jite hf
  rcases hf with ⟨-, hf⟩ | ⟨-, hf⟩
  · exact (frM_tr f1 (frM_le (FQ_X12_tight_21 rfl m1 hf) (by decide) (by decide)))
  · exact (frM_tr f1 (frM_le (FQ_X12_tight_21 rfl m1 hf) (by decide) (by decide)))
theorem FQ_X12_lit_21 {n : Nat} {a0 : Nat} {x1 : Int32} {sa0 : Nat} {s1 : Int32} {h : jH} {q : Int32 × jH} (hs : a0 = sa0) (M : mS (oc h) a0) (hf : F_X12_lit_21 n a0 x1 sa0 s1 h = some q) : frM a0 [] [0] (oc h) (oc q.2) := by
  unfold F_X12_lit_21 at hf
  subst hs
  obtain ⟨q22, e1, hf⟩ := jbind hf
  replace e1 := (jcv_o e1).2
  have f1 : frM a0 [] [0] (oc h) (oc q22.2) := frM_le (FQ_X12_throwsIf M e1) (by decide) (by decide)
  have m1 := mS_fr M f1 (by decide) (by decide)
  replace hf := jite hf
  rcases hf with ⟨-, hf⟩ | ⟨-, hf⟩
  · obtain ⟨v34, e2, hf⟩ := jbind hf
    replace e2 := (jcv_o e2).2
    cases hf
    exact f1
  · cases hf
    exact f1
theorem FQ_X12_lit {n : Nat} {a0 : Nat} {x1 : Int32} {h : jH} {q : Int32 × jH} (M : mS (oc h) a0) (hf : F_X12_lit n a0 x1 h = some q) : frM a0 [] [0] (oc h) (oc q.2) := by
  unfold F_X12_lit at hf
  obtain ⟨h2, e1, hf⟩ := jbind hf
  have f1 : frM a0 [] [0] (oc h) (oc h2) := by rw [(oc_pf e1).1]; exact frM_f (by decide)
  have m1 := mS_fr M f1 (by decide) (by decide)
  obtain ⟨v10, e2, hf⟩ := jbind hf
  replace hf := jite hf
  rcases hf with ⟨-, hf⟩ | ⟨-, hf⟩
  · exact (frM_tr f1 (frM_le (FQ_X12_lit_21 rfl m1 hf) (by decide) (by decide)))
  · exact (frM_tr f1 (frM_le (FQ_X12_lit_21 rfl m1 hf) (by decide) (by decide)))
theorem FQ_X12_drawn {n : Nat} {a0 : Nat} {x1 : Int32} {h : jH} {q : Int32 × jH} (M : mS (oc h) a0) (hf : F_X12_drawn n a0 x1 h = some q) : frM a0 [1] [] (oc h) (oc q.2) := by
  unfold F_X12_drawn at hf
  obtain ⟨p1, e1, hf⟩ := jbind hf
  have r1 := oc_gR e1
  rw [M.1] at r1
  cases r1
  obtain ⟨p9, e2, hf⟩ := jbind hf
  have r2 := oc_gR e2
  rw [M.1] at r2
  cases r2
  obtain ⟨v14, e3, hf⟩ := jbind hf
  obtain ⟨h20, e4, hf⟩ := jbind hf
  have f4 : frM a0 [1] [] (oc h) (oc h20) := by rw [(oc_as e4).1]; exact frM_c (by decide)
  have m4 := mS_fr M f4 (by decide) (by decide)
  obtain ⟨p22, e5, hf⟩ := jbind hf
  have r5 := oc_gR e5
  rw [m4.1] at r5
  cases r5
  obtain ⟨v27, e6, hf⟩ := jbind hf
  replace hf := jite hf
  rcases hf with ⟨-, hf⟩ | ⟨-, hf⟩
  · cases hf
  · cases hf
    exact f4
theorem FQ_X12_tells_5 {n : Nat} {k : Nat} : ∀ {a0 : Nat} {x1 : Int32} {x2 : Int32} {x3 : Int32} {x4 : Int32} {h : jH} {q : jH}, mS (oc h) a0 → F_X12_tells_5 n k a0 x1 x2 x3 x4 h = some q → frM a0 [1] [] (oc h) (oc q) := by
  induction k with
  | zero =>
    intro a0 x1 x2 x3 x4 h q M hf
    cases hf
  | succ k ih =>
    intro a0 x1 x2 x3 x4 h q M hf
    replace hf : F_X12_tells_5_b n (F_X12_tells_5 n k) a0 x1 x2 x3 x4 h = some q := hf
    unfold F_X12_tells_5_b at hf
    replace hf := jite hf
    rcases hf with ⟨-, hf⟩ | ⟨-, hf⟩
    · obtain ⟨p42, e1, hf⟩ := jbind hf
      have r1 := oc_gR e1
      rw [M.1] at r1
      cases r1
      obtain ⟨p48, e2, hf⟩ := jbind hf
      have r2 := oc_gR e2
      rw [M.1] at r2
      cases r2
      obtain ⟨v52, e3, hf⟩ := jbind hf
      obtain ⟨h53, e4, hf⟩ := jbind hf
      have f4 : frM a0 [1] [] (oc h) (oc h53) := by rw [(oc_as e4).1]; exact frM_c (by decide)
      have m4 := mS_fr M f4 (by decide) (by decide)
      obtain ⟨p55, e5, hf⟩ := jbind hf
      have r5 := oc_gR e5
      rw [m4.1] at r5
      cases r5
      obtain ⟨p61, e6, hf⟩ := jbind hf
      have r6 := oc_gR e6
      rw [m4.1] at r6
      cases r6
      obtain ⟨v65, e7, hf⟩ := jbind hf
      obtain ⟨h66, e8, hf⟩ := jbind hf
      have f8 : frM a0 [1] [] (oc h53) (oc h66) := by rw [(oc_as e8).1]; exact frM_c (by decide)
      have m8 := mS_fr m4 f8 (by decide) (by decide)
      obtain ⟨p68, e9, hf⟩ := jbind hf
      have r9 := oc_gR e9
      rw [m8.1] at r9
      cases r9
      obtain ⟨h74, e10, hf⟩ := jbind hf
      have f10 : frM a0 [1] [] (oc h66) (oc h74) := by rw [(oc_as e10).1]; exact frM_c (by decide)
      have m10 := mS_fr m8 f10 (by decide) (by decide)
      obtain ⟨p76, e11, hf⟩ := jbind hf
      have r11 := oc_gR e11
      rw [m10.1] at r11
      cases r11
      obtain ⟨h82, e12, hf⟩ := jbind hf
      have f12 : frM a0 [1] [] (oc h74) (oc h82) := by rw [(oc_as e12).1]; exact frM_c (by decide)
      have m12 := mS_fr m10 f12 (by decide) (by decide)
      obtain ⟨p84, e13, hf⟩ := jbind hf
      have r13 := oc_gR e13
      rw [m12.1] at r13
      cases r13
      obtain ⟨h90, e14, hf⟩ := jbind hf
      have f14 : frM a0 [1] [] (oc h82) (oc h90) := by rw [(oc_as e14).1]; exact frM_c (by decide)
      have m14 := mS_fr m12 f14 (by decide) (by decide)
      obtain ⟨p92, e15, hf⟩ := jbind hf
      have r15 := oc_gR e15
      rw [m14.1] at r15
      cases r15
      obtain ⟨v100, e16, hf⟩ := jbind hf
      replace e16 := (jcv_o e16).2
      obtain ⟨h103, e17, hf⟩ := jbind hf
      have f17 : frM a0 [1] [] (oc h90) (oc h103) := by rw [(oc_as e17).1]; exact frM_c (by decide)
      have m17 := mS_fr m14 f17 (by decide) (by decide)
      obtain ⟨p105, e18, hf⟩ := jbind hf
      have r18 := oc_gR e18
      rw [m17.1] at r18
      cases r18
      obtain ⟨p113, e19, hf⟩ := jbind hf
      have r19 := oc_gR e19
      rw [m17.1] at r19
      cases r19
      obtain ⟨v118, e20, hf⟩ := jbind hf
      obtain ⟨h124, e21, hf⟩ := jbind hf
      have f21 : frM a0 [1] [] (oc h103) (oc h124) := by rw [(oc_as e21).1]; exact frM_c (by decide)
      have m21 := mS_fr m17 f21 (by decide) (by decide)
      cases hf
      exact (frM_tr (frM_tr (frM_tr (frM_tr (frM_tr (frM_tr f4 f8) f10) f12) f14) f17) f21)
    · obtain ⟨p13, e22, hf⟩ := jbind hf
      have r22 := oc_gR e22
      rw [M.1] at r22
      cases r22
      obtain ⟨p22, e23, hf⟩ := jbind hf
      have r23 := oc_gR e23
      rw [M.1] at r23
      cases r23
      obtain ⟨v33, e24, hf⟩ := jbind hf
      obtain ⟨h34, e25, hf⟩ := jbind hf
      have f25 : frM a0 [1] [] (oc h) (oc h34) := by rw [(oc_as e25).1]; exact frM_c (by decide)
      have m25 := mS_fr M f25 (by decide) (by decide)
      exact (frM_tr f25 (frM_le (ih m25 hf) (by decide) (by decide)))
theorem FQ_X12_tells {n : Nat} {a0 : Nat} {x1 : Int32} {x2 : Int32} {x3 : Int32} {h : jH} {q : jH} (M : mS (oc h) a0) (hf : F_X12_tells n a0 x1 x2 x3 h = some q) : frM a0 [1] [] (oc h) (oc q) := by
  unfold F_X12_tells at hf
  exact (frM_le (FQ_X12_tells_5 M hf) (by decide) (by decide))
theorem FQ_X12_catches_4 {n : Nat} {k : Nat} : ∀ {a0 : Nat} {x1 : Int32} {x2 : Int32} {h : jH} {q : Int32 × jH}, mS (oc h) a0 → F_X12_catches_4 n k a0 x1 x2 h = some q → frM a0 [1, 8] [] (oc h) (oc q.2) := by
  induction k with
  | zero =>
    intro a0 x1 x2 h q M hf
    cases hf
  | succ k ih =>
    intro a0 x1 x2 h q M hf
    replace hf : F_X12_catches_4_b n (F_X12_catches_4 n k) a0 x1 x2 h = some q := hf
    unfold F_X12_catches_4_b at hf
    obtain ⟨v6, e1, hf⟩ := jbind hf
    replace e1 := (jcv_o e1).2
    replace hf := jite hf
    rcases hf with ⟨-, hf⟩ | ⟨-, hf⟩
    · cases hf
      exact frM_rfl
    · obtain ⟨v14, e2, hf⟩ := jbind hf
      replace e2 := (jcv_o e2).2
      replace hf := jite hf
      rcases hf with ⟨-, hf⟩ | ⟨-, hf⟩
      · obtain ⟨v25, e3, hf⟩ := jbind hf
        replace e3 := (jcv_o e3).2
        replace hf := jite hf
        rcases hf with ⟨-, hf⟩ | ⟨-, hf⟩
        · obtain ⟨q34, e4, hf⟩ := jbind hf
          replace e4 := (jcv_o e4).2
          have f4 : frM a0 [1, 8] [] (oc h) (oc q34.2) := frM_le (FQ_X12_drawn M e4) (by decide) (by decide)
          have m4 := mS_fr M f4 (by decide) (by decide)
          obtain ⟨q40, e5, hf⟩ := jbind hf
          replace e5 := (jcv_o e5).2
          have f5 : frM a0 [1, 8] [] (oc q34.2) (oc q40.2) := frM_le (FQ_X12_byLaw m4 e5) (by decide) (by decide)
          have m5 := mS_fr m4 f5 (by decide) (by decide)
          replace hf := jite hf
          rcases hf with ⟨-, hf⟩ | ⟨-, hf⟩
          · obtain ⟨p50, e6, hf⟩ := jbind hf
            have r6 := oc_gR e6
            rw [m5.1] at r6
            cases r6
            obtain ⟨v56, e7, hf⟩ := jbind hf
            obtain ⟨h60, e8, hf⟩ := jbind hf
            have f8 : frM a0 [1, 8] [] (oc q40.2) (oc h60) := by rw [(oc_as e8).1]; exact frM_c (by decide)
            have m8 := mS_fr m5 f8 (by decide) (by decide)
            obtain ⟨h65, e9, hf⟩ := jbind hf
            replace e9 := (jcv_o e9).2
            have f9 : frM a0 [1, 8] [] (oc h60) (oc h65) := frM_le (FQ_X12_tells m8 e9) (by decide) (by decide)
            have m9 := mS_fr m8 f9 (by decide) (by decide)
            exact (frM_tr (frM_tr (frM_tr (frM_tr f4 f5) f8) f9) (frM_le (ih m9 hf) (by decide) (by decide)))
          · exact (frM_tr (frM_tr f4 f5) (frM_le (ih m5 hf) (by decide) (by decide)))
        · exact (frM_le (ih M hf) (by decide) (by decide))
      · exact (frM_le (ih M hf) (by decide) (by decide))
theorem FQ_X12_catches {n : Nat} {a0 : Nat} {h : jH} {q : Int32 × jH} (M : mS (oc h) a0) (hf : F_X12_catches n a0 h = some q) : frM a0 [1, 8] [] (oc h) (oc q.2) := by
  unfold F_X12_catches at hf
  exact (frM_le (FQ_X12_catches_4 M hf) (by decide) (by decide))
theorem FQ_X12_falls_4 {n : Nat} {k : Nat} : ∀ {a0 : Nat} {x1 : Int32} {x2 : Int32} {h : jH} {q : Int32 × jH}, mS (oc h) a0 → F_X12_falls_4 n k a0 x1 x2 h = some q → frM a0 [1, 8] [] (oc h) (oc q.2) := by
  induction k with
  | zero =>
    intro a0 x1 x2 h q M hf
    cases hf
  | succ k ih =>
    intro a0 x1 x2 h q M hf
    replace hf : F_X12_falls_4_b n (F_X12_falls_4 n k) a0 x1 x2 h = some q := hf
    unfold F_X12_falls_4_b at hf
    obtain ⟨v6, e1, hf⟩ := jbind hf
    replace e1 := (jcv_o e1).2
    replace hf := jite hf
    rcases hf with ⟨-, hf⟩ | ⟨-, hf⟩
    · cases hf
      exact frM_rfl
    · obtain ⟨v16, e2, hf⟩ := jbind hf
      replace e2 := (jcv_o e2).2
      replace hf := jite hf
      rcases hf with ⟨-, hf⟩ | ⟨-, hf⟩
      · exact (frM_le (ih M hf) (by decide) (by decide))
      · obtain ⟨q25, e3, hf⟩ := jbind hf
        replace e3 := (jcv_o e3).2
        have f3 : frM a0 [1, 8] [] (oc h) (oc q25.2) := frM_le (FQ_X12_drawn M e3) (by decide) (by decide)
        have m3 := mS_fr M f3 (by decide) (by decide)
        obtain ⟨q31, e4, hf⟩ := jbind hf
        replace e4 := (jcv_o e4).2
        have f4 : frM a0 [1, 8] [] (oc q25.2) (oc q31.2) := frM_le (FQ_X12_byLaw m3 e4) (by decide) (by decide)
        have m4 := mS_fr m3 f4 (by decide) (by decide)
        replace hf := jite hf
        rcases hf with ⟨-, hf⟩ | ⟨-, hf⟩
        · obtain ⟨p41, e5, hf⟩ := jbind hf
          have r5 := oc_gR e5
          rw [m4.1] at r5
          cases r5
          obtain ⟨v47, e6, hf⟩ := jbind hf
          obtain ⟨h51, e7, hf⟩ := jbind hf
          have f7 : frM a0 [1, 8] [] (oc q31.2) (oc h51) := by rw [(oc_as e7).1]; exact frM_c (by decide)
          have m7 := mS_fr m4 f7 (by decide) (by decide)
          obtain ⟨h56, e8, hf⟩ := jbind hf
          replace e8 := (jcv_o e8).2
          have f8 : frM a0 [1, 8] [] (oc h51) (oc h56) := frM_le (FQ_X12_tells m7 e8) (by decide) (by decide)
          have m8 := mS_fr m7 f8 (by decide) (by decide)
          exact (frM_tr (frM_tr (frM_tr (frM_tr f3 f4) f7) f8) (frM_le (ih m8 hf) (by decide) (by decide)))
        · exact (frM_tr (frM_tr f3 f4) (frM_le (ih m4 hf) (by decide) (by decide)))
theorem FQ_X12_falls {n : Nat} {a0 : Nat} {h : jH} {q : Int32 × jH} (M : mS (oc h) a0) (hf : F_X12_falls n a0 h = some q) : frM a0 [1, 8] [] (oc h) (oc q.2) := by
  unfold F_X12_falls at hf
  exact (frM_le (FQ_X12_falls_4 M hf) (by decide) (by decide))
theorem FQ_X12_oneHour_61 {n : Nat} {a0 : Nat} {s0 : Int32} {h : jH} {q : Int32 × jH} (M : mS (oc h) a0) (hf : F_X12_oneHour_61 n a0 s0 h = some q) : frM a0 [1] [] (oc h) (oc q.2) := by
  unfold F_X12_oneHour_61 at hf
  obtain ⟨p63, e1, hf⟩ := jbind hf
  have r1 := oc_gR e1
  rw [M.1] at r1
  cases r1
  obtain ⟨v68, e2, hf⟩ := jbind hf
  obtain ⟨h71, e3, hf⟩ := jbind hf
  have f3 : frM a0 [1] [] (oc h) (oc h71) := by rw [(oc_as e3).1]; exact frM_c (by decide)
  have m3 := mS_fr M f3 (by decide) (by decide)
  obtain ⟨p73, e4, hf⟩ := jbind hf
  have r4 := oc_gR e4
  rw [m3.1] at r4
  cases r4
  obtain ⟨v77, e5, hf⟩ := jbind hf
  replace hf := jite hf
  rcases hf with ⟨-, hf⟩ | ⟨-, hf⟩
  · obtain ⟨p84, e6, hf⟩ := jbind hf
    have r6 := oc_gR e6
    rw [m3.1] at r6
    cases r6
    obtain ⟨h89, e7, hf⟩ := jbind hf
    have f7 : frM a0 [1] [] (oc h71) (oc h89) := by rw [(oc_as e7).1]; exact frM_c (by decide)
    have m7 := mS_fr m3 f7 (by decide) (by decide)
    obtain ⟨p91, e8, hf⟩ := jbind hf
    have r8 := oc_gR e8
    rw [m7.1] at r8
    cases r8
    obtain ⟨p99, e9, hf⟩ := jbind hf
    have r9 := oc_gR e9
    rw [m7.1] at r9
    cases r9
    obtain ⟨v103, e10, hf⟩ := jbind hf
    obtain ⟨h109, e11, hf⟩ := jbind hf
    have f11 : frM a0 [1] [] (oc h89) (oc h109) := by rw [(oc_as e11).1]; exact frM_c (by decide)
    have m11 := mS_fr m7 f11 (by decide) (by decide)
    cases hf
    exact (frM_tr (frM_tr f3 f7) f11)
  · cases hf
    exact f3
theorem FQ_X12_oneHour_2 {n : Nat} {k : Nat} : ∀ {a0 : Nat} {x1 : Int32} {x2 : Int32} {h : jH} {q : Int32 × jH}, mS (oc h) a0 → F_X12_oneHour_2 n k a0 x1 x2 h = some q → frM a0 [1, 8] [] (oc h) (oc q.2) := by
  induction k with
  | zero =>
    intro a0 x1 x2 h q M hf
    cases hf
  | succ k ih =>
    intro a0 x1 x2 h q M hf
    replace hf : F_X12_oneHour_2_b n (F_X12_oneHour_2 n k) a0 x1 x2 h = some q := hf
    unfold F_X12_oneHour_2_b at hf
    obtain ⟨v4, e1, hf⟩ := jbind hf
    replace e1 := (jcv_o e1).2
    replace hf := jite hf
    rcases hf with ⟨-, hf⟩ | ⟨-, hf⟩
    · replace hf := jite hf
      rcases hf with ⟨-, hf⟩ | ⟨-, hf⟩
      · obtain ⟨q53, e2, hf⟩ := jbind hf
        replace e2 := (jcv_o e2).2
        have f2 : frM a0 [1, 8] [] (oc h) (oc q53.2) := frM_le (FQ_X12_catches M e2) (by decide) (by decide)
        have m2 := mS_fr M f2 (by decide) (by decide)
        obtain ⟨q57, e3, hf⟩ := jbind hf
        replace e3 := (jcv_o e3).2
        have f3 : frM a0 [1, 8] [] (oc q53.2) (oc q57.2) := frM_le (FQ_X12_falls m2 e3) (by decide) (by decide)
        have m3 := mS_fr m2 f3 (by decide) (by decide)
        exact (frM_tr (frM_tr f2 f3) (frM_le (FQ_X12_oneHour_61 m3 hf) (by decide) (by decide)))
      · exact (frM_le (FQ_X12_oneHour_61 M hf) (by decide) (by decide))
    · obtain ⟨p11, e4, hf⟩ := jbind hf
      have r4 := oc_gR e4
      rw [M.1] at r4
      cases r4
      obtain ⟨v16, e5, hf⟩ := jbind hf
      obtain ⟨v24, e6, hf⟩ := jbind hf
      replace e6 := (jcv_o e6).2
      obtain ⟨q30, e7, hf⟩ := jbind hf
      replace e7 := (jcv_o e7).2
      have f7 : frM a0 [1, 8] [] (oc h) (oc q30.2) := frM_le (FQ_X12_byLaw M e7) (by decide) (by decide)
      have m7 := mS_fr M f7 (by decide) (by decide)
      obtain ⟨h37, e8, hf⟩ := jbind hf
      have f8 : frM a0 [1, 8] [] (oc q30.2) (oc h37) := by rw [(oc_as e8).1]; exact frM_c (by decide)
      have m8 := mS_fr m7 f8 (by decide) (by decide)
      exact (frM_tr (frM_tr f7 f8) (frM_le (ih m8 hf) (by decide) (by decide)))
theorem FQ_X12_oneHour {n : Nat} {a0 : Nat} {x1 : Int32} {h : jH} {q : Int32 × jH} (M : mS (oc h) a0) (hf : F_X12_oneHour n a0 x1 h = some q) : frM a0 [1, 8] [] (oc h) (oc q.2) := by
  unfold F_X12_oneHour at hf
  exact (frM_le (FQ_X12_oneHour_2 M hf) (by decide) (by decide))
theorem FQ_X12_goesOn_5 {n : Nat} {k : Nat} : ∀ {a0 : Nat} {x1 : Int32} {x2 : Int32} {x3 : Int32} {x4 : Int32} {h : jH} {q : Int32 × jH}, mS (oc h) a0 → F_X12_goesOn_5 n k a0 x1 x2 x3 x4 h = some q → frM a0 [1, 8] [] (oc h) (oc q.2) := by
  induction k with
  | zero =>
    intro a0 x1 x2 x3 x4 h q M hf
    cases hf
  | succ k ih =>
    intro a0 x1 x2 x3 x4 h q M hf
    replace hf : F_X12_goesOn_5_b n (F_X12_goesOn_5 n k) a0 x1 x2 x3 x4 h = some q := hf
    unfold F_X12_goesOn_5_b at hf
    replace hf := jite hf
    rcases hf with ⟨-, hf⟩ | ⟨-, hf⟩
    · cases hf
      exact frM_rfl
    · obtain ⟨q14, e1, hf⟩ := jbind hf
      replace e1 := (jcv_o e1).2
      have f1 : frM a0 [1, 8] [] (oc h) (oc q14.2) := frM_le (FQ_X12_oneHour M e1) (by decide) (by decide)
      have m1 := mS_fr M f1 (by decide) (by decide)
      exact (frM_tr f1 (frM_le (ih m1 hf) (by decide) (by decide)))
theorem FQ_X12_goesOn {n : Nat} {a0 : Nat} {x1 : Int32} {x2 : Int32} {h : jH} {q : Int32 × jH} (M : mS (oc h) a0) (hf : F_X12_goesOn n a0 x1 x2 h = some q) : frM a0 [1, 8] [] (oc h) (oc q.2) := by
  unfold F_X12_goesOn at hf
  exact (frM_le (FQ_X12_goesOn_5 M hf) (by decide) (by decide))
theorem FQ_X12_faded {n : Nat} {a0 : Nat} {x1 : Int32} {h : jH} {q : Int32 × jH} (M : mS (oc h) a0) (hf : F_X12_faded n a0 x1 h = some q) : frM a0 [1, 4, 8] [0] (oc h) (oc q.2) := by
  unfold F_X12_faded at hf
  obtain ⟨h2, e1, hf⟩ := jbind hf
  have f1 : frM a0 [1, 4, 8] [0] (oc h) (oc h2) := by rw [(oc_pf e1).1]; exact frM_f (by decide)
  have m1 := mS_fr M f1 (by decide) (by decide)
  obtain ⟨v7, e2, hf⟩ := jbind hf
  obtain ⟨q11, e3, hf⟩ := jbind hf
  replace e3 := (jcv_o e3).2
  have f3 : frM a0 [1, 4, 8] [0] (oc h2) (oc q11.2) := frM_le (FQ_X12_throwsIf m1 e3) (by decide) (by decide)
  have m3 := mS_fr m1 f3 (by decide) (by decide)
  replace hf := jite hf
  rcases hf with ⟨-, hf⟩ | ⟨-, hf⟩
  · obtain ⟨h20, e4, hf⟩ := jbind hf
    replace e4 := (jcv_o e4).2
    have f4 : frM a0 [1, 4, 8] [0] (oc q11.2) (oc h20) := frM_le (FQ_X12_keepsAll m3 e4) (by decide) (by decide)
    have m4 := mS_fr m3 f4 (by decide) (by decide)
    obtain ⟨q26, e5, hf⟩ := jbind hf
    replace e5 := (jcv_o e5).2
    have f5 : frM a0 [1, 4, 8] [0] (oc h20) (oc q26.2) := frM_le (FQ_X12_goesOn m4 e5) (by decide) (by decide)
    have m5 := mS_fr m4 f5 (by decide) (by decide)
    obtain ⟨v31, e6, hf⟩ := jbind hf
    replace e6 := (jcv_o e6).2
    obtain ⟨h36, e7, hf⟩ := jbind hf
    replace e7 := (jcv_o e7).2
    have f7 : frM a0 [1, 4, 8] [0] (oc q26.2) (oc h36) := frM_le (FQ_X12_bringsBack m5 e7) (by decide) (by decide)
    have m7 := mS_fr m5 f7 (by decide) (by decide)
    cases hf
    exact (frM_tr (frM_tr (frM_tr (frM_tr f1 f3) f4) f5) f7)
  · cases hf
    exact (frM_tr f1 f3)
theorem FQ_X12_lets_103 {n : Nat} {a0 : Nat} {x1 : Int32} {x2 : Int32} {x4 : Int32} {x5 : Int32} {s0 : Int32} {h : jH} {q : Int32 × jH} (M : mS (oc h) a0) (hf : F_X12_lets_103 n x1 x2 x4 x5 s0 h = some q) : frM a0 [] [] (oc h) (oc q.2) := by
  unfold F_X12_lets_103 at hf
  replace hf := jite hf
  rcases hf with ⟨-, hf⟩ | ⟨-, hf⟩
  · replace hf := jite hf
    rcases hf with ⟨-, hf⟩ | ⟨-, hf⟩
    · cases hf
      exact frM_rfl
    · cases hf
      exact frM_rfl
  · cases hf
    exact frM_rfl
theorem FQ_X12_lets_48 {n : Nat} {k : Nat} : ∀ {a0 : Nat} {x1 : Int32} {x2 : Int32} {x3 : Int32} {x4 : Int32} {h : jH} {q : Int32 × jH}, mS (oc h) a0 → F_X12_lets_48 n k a0 x1 x2 x3 x4 h = some q → frM a0 [] [] (oc h) (oc q.2) := by
  induction k with
  | zero =>
    intro a0 x1 x2 x3 x4 h q M hf
    cases hf
  | succ k ih =>
    intro a0 x1 x2 x3 x4 h q M hf
    replace hf : F_X12_lets_48_b n (F_X12_lets_48 n k) a0 x1 x2 x3 x4 h = some q := hf
    unfold F_X12_lets_48_b at hf
    obtain ⟨v51, e1, hf⟩ := jbind hf
    replace e1 := (jcv_o e1).2
    replace hf := jite hf
    rcases hf with ⟨-, hf⟩ | ⟨-, hf⟩
    · obtain ⟨v75, e2, hf⟩ := jbind hf
      replace e2 := (jcv_o e2).2
      replace hf := jite hf
      rcases hf with ⟨-, hf⟩ | ⟨-, hf⟩
      · cases hf
      · obtain ⟨v83, e3, hf⟩ := jbind hf
        replace e3 := (jcv_o e3).2
        replace hf := jite hf
        rcases hf with ⟨-, hf⟩ | ⟨-, hf⟩
        · cases hf
        · replace hf := jite hf
          rcases hf with ⟨-, hf⟩ | ⟨-, hf⟩
          · exact (frM_le (FQ_X12_lets_103 M hf) (by decide) (by decide))
          · exact (frM_le (FQ_X12_lets_103 M hf) (by decide) (by decide))
    · obtain ⟨v62, e4, hf⟩ := jbind hf
      replace e4 := (jcv_o e4).2
      exact (frM_le (ih M hf) (by decide) (by decide))
theorem FQ_X12_lets_34 {n : Nat} {a0 : Nat} {x1 : Int32} {x2 : Int32} {sa0 : Nat} {s1 : Int32} {h : jH} {q : Int32 × jH} (hs : a0 = sa0) (M : mS (oc h) a0) (hf : F_X12_lets_34 n a0 x1 x2 sa0 s1 h = some q) : frM a0 [] [0] (oc h) (oc q.2) := by
  unfold F_X12_lets_34 at hf
  subst hs
  obtain ⟨q35, e1, hf⟩ := jbind hf
  replace e1 := (jcv_o e1).2
  have f1 : frM a0 [] [0] (oc h) (oc q35.2) := frM_le (FQ_X12_throwsIf M e1) (by decide) (by decide)
  have m1 := mS_fr M f1 (by decide) (by decide)
  replace hf := jite hf
  rcases hf with ⟨-, hf⟩ | ⟨-, hf⟩
  · exact (frM_tr f1 (frM_le (FQ_X12_lets_48 m1 hf) (by decide) (by decide)))
  · cases hf
    exact f1
theorem FQ_X12_lets {n : Nat} {a0 : Nat} {x1 : Int32} {x2 : Int32} {h : jH} {q : Int32 × jH} (M : mS (oc h) a0) (hf : F_X12_lets n a0 x1 x2 h = some q) : frM a0 [] [0] (oc h) (oc q.2) := by
  unfold F_X12_lets at hf
  obtain ⟨h2, e1, hf⟩ := jbind hf
  have f1 : frM a0 [] [0] (oc h) (oc h2) := by rw [(oc_pf e1).1]; exact frM_f (by decide)
  have m1 := mS_fr M f1 (by decide) (by decide)
  obtain ⟨v8, e2, hf⟩ := jbind hf
  replace e2 := (jcv_o e2).2
  obtain ⟨q12, e3, hf⟩ := jbind hf
  replace e3 := (jcv_o e3).2
  have f3 : frM a0 [] [0] (oc h2) (oc q12.2) := frM_le (FQ_X12_throwsIf m1 e3) (by decide) (by decide)
  have m3 := mS_fr m1 f3 (by decide) (by decide)
  replace hf := jite hf
  rcases hf with ⟨-, hf⟩ | ⟨-, hf⟩
  · obtain ⟨v23, e4, hf⟩ := jbind hf
    replace hf := jite hf
    rcases hf with ⟨-, hf⟩ | ⟨-, hf⟩
    · exact (frM_tr (frM_tr f1 f3) (frM_le (FQ_X12_lets_34 rfl m3 hf) (by decide) (by decide)))
    · exact (frM_tr (frM_tr f1 f3) (frM_le (FQ_X12_lets_34 rfl m3 hf) (by decide) (by decide)))
  · cases hf
    exact (frM_tr f1 f3)
theorem FQ_X12_rests_42 {n : Nat} {rc34 : Nat → Int32 → Int32 → Int32 → jH → Option (Int32 × jH)} (hrc34 : ∀ {z0 : Nat} {z1 : Int32} {z2 : Int32} {z3 : Int32} {h : jH} {q : Int32 × jH}, mS (oc h) z0 → rc34 z0 z1 z2 z3 h = some q → frM z0 [] [] (oc h) (oc q.2)) {k : Nat} : ∀ {a0 : Nat} {x1 : Int32} {x2 : Int32} {x3 : Int32} {x4 : Int32} {h : jH} {q : Int32 × jH}, mS (oc h) a0 → F_X12_rests_42 n rc34 k a0 x1 x2 x3 x4 h = some q → frM a0 [] [] (oc h) (oc q.2) := by
  induction k with
  | zero =>
    intro a0 x1 x2 x3 x4 h q M hf
    cases hf
  | succ k ih =>
    intro a0 x1 x2 x3 x4 h q M hf
    replace hf : F_X12_rests_42_b n rc34 (F_X12_rests_42 n rc34 k) a0 x1 x2 x3 x4 h = some q := hf
    unfold F_X12_rests_42_b at hf
    replace hf := jite hf
    rcases hf with ⟨-, hf⟩ | ⟨-, hf⟩
    · exact (frM_le (hrc34 M hf) (by decide) (by decide))
    · obtain ⟨v54, e1, hf⟩ := jbind hf
      replace e1 := (jcv_o e1).2
      obtain ⟨v64, e2, hf⟩ := jbind hf
      replace e2 := (jcv_o e2).2
      replace hf := jite hf
      rcases hf with ⟨-, hf⟩ | ⟨-, hf⟩
      · exact (frM_le (ih M hf) (by decide) (by decide))
      · obtain ⟨v75, e3, hf⟩ := jbind hf
        replace e3 := (jcv_o e3).2
        obtain ⟨v85, e4, hf⟩ := jbind hf
        replace e4 := (jcv_o e4).2
        replace hf := jite hf
        rcases hf with ⟨-, hf⟩ | ⟨-, hf⟩
        · exact (frM_le (ih M hf) (by decide) (by decide))
        · exact (frM_le (ih M hf) (by decide) (by decide))
theorem FQ_X12_rests_34 {n : Nat} {k : Nat} : ∀ {a0 : Nat} {x1 : Int32} {x2 : Int32} {x3 : Int32} {h : jH} {q : Int32 × jH}, mS (oc h) a0 → F_X12_rests_34 n k a0 x1 x2 x3 h = some q → frM a0 [] [] (oc h) (oc q.2) := by
  induction k with
  | zero =>
    intro a0 x1 x2 x3 h q M hf
    cases hf
  | succ k ih =>
    intro a0 x1 x2 x3 h q M hf
    replace hf : F_X12_rests_34_b n (F_X12_rests_34 n k) a0 x1 x2 x3 h = some q := hf
    unfold F_X12_rests_34_b at hf
    replace hf := jite hf
    rcases hf with ⟨-, hf⟩ | ⟨-, hf⟩
    · cases hf
      exact frM_rfl
    · exact (frM_le (FQ_X12_rests_42 ih M hf) (by decide) (by decide))
theorem FQ_X12_rests {n : Nat} {a0 : Nat} {x1 : Int32} {h : jH} {q : Int32 × jH} (M : mS (oc h) a0) (hf : F_X12_rests n a0 x1 h = some q) : frM a0 [] [0] (oc h) (oc q.2) := by
  unfold F_X12_rests at hf
  obtain ⟨h2, e1, hf⟩ := jbind hf
  have f1 : frM a0 [] [0] (oc h) (oc h2) := by rw [(oc_pf e1).1]; exact frM_f (by decide)
  have m1 := mS_fr M f1 (by decide) (by decide)
  obtain ⟨v8, e2, hf⟩ := jbind hf
  replace e2 := (jcv_o e2).2
  obtain ⟨q12, e3, hf⟩ := jbind hf
  replace e3 := (jcv_o e3).2
  have f3 : frM a0 [] [0] (oc h2) (oc q12.2) := frM_le (FQ_X12_throwsIf m1 e3) (by decide) (by decide)
  have m3 := mS_fr m1 f3 (by decide) (by decide)
  replace hf := jite hf
  rcases hf with ⟨-, hf⟩ | ⟨-, hf⟩
  · obtain ⟨v22, e4, hf⟩ := jbind hf
    replace e4 := (jcv_o e4).2
    replace hf := jite hf
    rcases hf with ⟨-, hf⟩ | ⟨-, hf⟩
    · cases hf
      exact (frM_tr f1 f3)
    · exact (frM_tr (frM_tr f1 f3) (frM_le (FQ_X12_rests_34 m3 hf) (by decide) (by decide)))
  · cases hf
    exact (frM_tr f1 f3)
theorem FQ_X12_odds_65 {n : Nat} {k : Nat} : ∀ {a0 : Nat} {x2 : Int32} {x3 : Int32} {x4 : Int32} {x5 : Int32} {h : jH} {q : Int32 × jH}, mS (oc h) a0 → F_X12_odds_65 n k x2 x3 x4 x5 h = some q → frM a0 [] [] (oc h) (oc q.2) := by
  induction k with
  | zero =>
    intro a0 x2 x3 x4 x5 h q M hf
    cases hf
  | succ k ih =>
    intro a0 x2 x3 x4 x5 h q M hf
    replace hf : F_X12_odds_65_b n (F_X12_odds_65 n k) x2 x3 x4 x5 h = some q := hf
    unfold F_X12_odds_65_b at hf
    replace hf := jite hf
    rcases hf with ⟨-, hf⟩ | ⟨-, hf⟩
    · cases hf
      exact frM_rfl
    · exact (frM_le (ih M hf) (by decide) (by decide))
theorem FQ_X12_odds_33 {n : Nat} {a0 : Nat} {x1 : Int32} {x2 : Int32} {sa0 : Nat} {s1 : Int32} {h : jH} {q : Int32 × jH} (hs : a0 = sa0) (M : mS (oc h) a0) (hf : F_X12_odds_33 n a0 x1 x2 sa0 s1 h = some q) : frM a0 [8] [0] (oc h) (oc q.2) := by
  unfold F_X12_odds_33 at hf
  subst hs
  obtain ⟨q34, e1, hf⟩ := jbind hf
  replace e1 := (jcv_o e1).2
  have f1 : frM a0 [8] [0] (oc h) (oc q34.2) := frM_le (FQ_X12_throwsIf M e1) (by decide) (by decide)
  have m1 := mS_fr M f1 (by decide) (by decide)
  replace hf := jite hf
  rcases hf with ⟨-, hf⟩ | ⟨-, hf⟩
  · obtain ⟨q49, e2, hf⟩ := jbind hf
    replace e2 := (jcv_o e2).2
    have f2 : frM a0 [8] [0] (oc q34.2) (oc q49.2) := frM_le (FQ_X12_byLaw m1 e2) (by decide) (by decide)
    have m2 := mS_fr m1 f2 (by decide) (by decide)
    exact (frM_tr (frM_tr f1 f2) (frM_le (FQ_X12_odds_65 m2 hf) (by decide) (by decide)))
  · cases hf
    exact f1
theorem FQ_X12_odds {n : Nat} {a0 : Nat} {x1 : Int32} {x2 : Int32} {h : jH} {q : Int32 × jH} (M : mS (oc h) a0) (hf : F_X12_odds n a0 x1 x2 h = some q) : frM a0 [8] [0] (oc h) (oc q.2) := by
  unfold F_X12_odds at hf
  obtain ⟨h2, e1, hf⟩ := jbind hf
  have f1 : frM a0 [8] [0] (oc h) (oc h2) := by rw [(oc_pf e1).1]; exact frM_f (by decide)
  have m1 := mS_fr M f1 (by decide) (by decide)
  obtain ⟨v8, e2, hf⟩ := jbind hf
  replace e2 := (jcv_o e2).2
  obtain ⟨q12, e3, hf⟩ := jbind hf
  replace e3 := (jcv_o e3).2
  have f3 : frM a0 [8] [0] (oc h2) (oc q12.2) := frM_le (FQ_X12_throwsIf m1 e3) (by decide) (by decide)
  have m3 := mS_fr m1 f3 (by decide) (by decide)
  replace hf := jite hf
  rcases hf with ⟨-, hf⟩ | ⟨-, hf⟩
  · obtain ⟨v22, e4, hf⟩ := jbind hf
    replace hf := jite hf
    rcases hf with ⟨-, hf⟩ | ⟨-, hf⟩
    · exact (frM_tr (frM_tr f1 f3) (frM_le (FQ_X12_odds_33 rfl m3 hf) (by decide) (by decide)))
    · exact (frM_tr (frM_tr f1 f3) (frM_le (FQ_X12_odds_33 rfl m3 hf) (by decide) (by decide)))
  · cases hf
    exact (frM_tr f1 f3)
theorem FQ_X12_ahead {n : Nat} {a0 : Nat} {x1 : Int32} {x2 : Int32} {h : jH} {q : Int32 × jH} (M : mS (oc h) a0) (hf : F_X12_ahead n a0 x1 x2 h = some q) : frM a0 [1, 4, 8] [0] (oc h) (oc q.2) := by
  unfold F_X12_ahead at hf
  obtain ⟨h2, e1, hf⟩ := jbind hf
  have f1 : frM a0 [1, 4, 8] [0] (oc h) (oc h2) := by rw [(oc_pf e1).1]; exact frM_f (by decide)
  have m1 := mS_fr M f1 (by decide) (by decide)
  obtain ⟨v8, e2, hf⟩ := jbind hf
  replace e2 := (jcv_o e2).2
  obtain ⟨q12, e3, hf⟩ := jbind hf
  replace e3 := (jcv_o e3).2
  have f3 : frM a0 [1, 4, 8] [0] (oc h2) (oc q12.2) := frM_le (FQ_X12_throwsIf m1 e3) (by decide) (by decide)
  have m3 := mS_fr m1 f3 (by decide) (by decide)
  replace hf := jite hf
  rcases hf with ⟨-, hf⟩ | ⟨-, hf⟩
  · obtain ⟨v20, e4, hf⟩ := jbind hf
    obtain ⟨q24, e5, hf⟩ := jbind hf
    replace e5 := (jcv_o e5).2
    have f5 : frM a0 [1, 4, 8] [0] (oc q12.2) (oc q24.2) := frM_le (FQ_X12_throwsIf m3 e5) (by decide) (by decide)
    have m5 := mS_fr m3 f5 (by decide) (by decide)
    replace hf := jite hf
    rcases hf with ⟨-, hf⟩ | ⟨-, hf⟩
    · obtain ⟨h33, e6, hf⟩ := jbind hf
      replace e6 := (jcv_o e6).2
      have f6 : frM a0 [1, 4, 8] [0] (oc q24.2) (oc h33) := frM_le (FQ_X12_keepsAll m5 e6) (by decide) (by decide)
      have m6 := mS_fr m5 f6 (by decide) (by decide)
      obtain ⟨q39, e7, hf⟩ := jbind hf
      replace e7 := (jcv_o e7).2
      have f7 : frM a0 [1, 4, 8] [0] (oc h33) (oc q39.2) := frM_le (FQ_X12_goesOn m6 e7) (by decide) (by decide)
      have m7 := mS_fr m6 f7 (by decide) (by decide)
      obtain ⟨v46, e8, hf⟩ := jbind hf
      replace e8 := (jcv_o e8).2
      obtain ⟨h51, e9, hf⟩ := jbind hf
      replace e9 := (jcv_o e9).2
      have f9 : frM a0 [1, 4, 8] [0] (oc q39.2) (oc h51) := frM_le (FQ_X12_bringsBack m7 e9) (by decide) (by decide)
      have m9 := mS_fr m7 f9 (by decide) (by decide)
      cases hf
      exact (frM_tr (frM_tr (frM_tr (frM_tr (frM_tr f1 f3) f5) f6) f7) f9)
    · cases hf
      exact (frM_tr (frM_tr f1 f3) f5)
  · cases hf
    exact (frM_tr f1 f3)
theorem FQ_X12_trial_47 {n : Nat} {a0 : Nat} {s0 : Int32} {h : jH} {q : Int32 × jH} (M : mS (oc h) a0) (hf : F_X12_trial_47 n a0 s0 h = some q) : frM a0 [1] [] (oc h) (oc q.2) := by
  unfold F_X12_trial_47 at hf
  obtain ⟨h49, e1, hf⟩ := jbind hf
  replace e1 := (jcv_o e1).2
  have f1 : frM a0 [1] [] (oc h) (oc h49) := frM_le (FQ_X12_bringsBack M e1) (by decide) (by decide)
  have m1 := mS_fr M f1 (by decide) (by decide)
  cases hf
  exact f1
theorem FQ_X12_trial {n : Nat} {a0 : Nat} {x1 : Int32} {x2 : Int32} {h : jH} {q : Int32 × jH} (M : mS (oc h) a0) (hf : F_X12_trial n a0 x1 x2 h = some q) : frM a0 [1, 4, 8] [0] (oc h) (oc q.2) := by
  unfold F_X12_trial at hf
  obtain ⟨h2, e1, hf⟩ := jbind hf
  have f1 : frM a0 [1, 4, 8] [0] (oc h) (oc h2) := by rw [(oc_pf e1).1]; exact frM_f (by decide)
  have m1 := mS_fr M f1 (by decide) (by decide)
  obtain ⟨v7, e2, hf⟩ := jbind hf
  obtain ⟨q11, e3, hf⟩ := jbind hf
  replace e3 := (jcv_o e3).2
  have f3 : frM a0 [1, 4, 8] [0] (oc h2) (oc q11.2) := frM_le (FQ_X12_throwsIf m1 e3) (by decide) (by decide)
  have m3 := mS_fr m1 f3 (by decide) (by decide)
  replace hf := jite hf
  rcases hf with ⟨-, hf⟩ | ⟨-, hf⟩
  · obtain ⟨h20, e4, hf⟩ := jbind hf
    replace e4 := (jcv_o e4).2
    have f4 : frM a0 [1, 4, 8] [0] (oc q11.2) (oc h20) := frM_le (FQ_X12_keepsAll m3 e4) (by decide) (by decide)
    have m4 := mS_fr m3 f4 (by decide) (by decide)
    obtain ⟨q26, e5, hf⟩ := jbind hf
    replace e5 := (jcv_o e5).2
    have f5 : frM a0 [1, 4, 8] [0] (oc h20) (oc q26.2) := frM_le (FQ_X12_goesOn m4 e5) (by decide) (by decide)
    have m5 := mS_fr m4 f5 (by decide) (by decide)
    replace hf := jite hf
    rcases hf with ⟨-, hf⟩ | ⟨-, hf⟩
    · obtain ⟨v44, e6, hf⟩ := jbind hf
      replace e6 := (jcv_o e6).2
      exact (frM_tr (frM_tr (frM_tr (frM_tr f1 f3) f4) f5) (frM_le (FQ_X12_trial_47 m5 hf) (by decide) (by decide)))
    · obtain ⟨v35, e7, hf⟩ := jbind hf
      replace e7 := (jcv_o e7).2
      exact (frM_tr (frM_tr (frM_tr (frM_tr f1 f3) f4) f5) (frM_le (FQ_X12_trial_47 m5 hf) (by decide) (by decide)))
  · cases hf
    exact (frM_tr f1 f3)
theorem FQ_X12_span_28 {n : Nat} {k : Nat} : ∀ {a0 : Nat} {x1 : Int32} {x2 : Int32} {x3 : Int32} {x4 : Int32} {h : jH} {q : Int32 × jH}, mS (oc h) a0 → F_X12_span_28 n k a0 x1 x2 x3 x4 h = some q → frM a0 [1, 8] [] (oc h) (oc q.2) := by
  induction k with
  | zero =>
    intro a0 x1 x2 x3 x4 h q M hf
    cases hf
  | succ k ih =>
    intro a0 x1 x2 x3 x4 h q M hf
    replace hf : F_X12_span_28_b n (F_X12_span_28 n k) a0 x1 x2 x3 x4 h = some q := hf
    unfold F_X12_span_28_b at hf
    replace hf := jite hf
    rcases hf with ⟨-, hf⟩ | ⟨-, hf⟩
    · cases hf
      exact frM_rfl
    · obtain ⟨p36, e1, hf⟩ := jbind hf
      have r1 := oc_gR e1
      rw [M.1] at r1
      cases r1
      obtain ⟨h43, e2, hf⟩ := jbind hf
      have f2 : frM a0 [1, 8] [] (oc h) (oc h43) := by rw [(oc_as e2).1]; exact frM_c (by decide)
      have m2 := mS_fr M f2 (by decide) (by decide)
      obtain ⟨q47, e3, hf⟩ := jbind hf
      replace e3 := (jcv_o e3).2
      have f3 : frM a0 [1, 8] [] (oc h43) (oc q47.2) := frM_le (FQ_X12_goesOn m2 e3) (by decide) (by decide)
      have m3 := mS_fr m2 f3 (by decide) (by decide)
      obtain ⟨v54, e4, hf⟩ := jbind hf
      replace e4 := (jcv_o e4).2
      obtain ⟨v57, e5, hf⟩ := jbind hf
      obtain ⟨v61, e6, hf⟩ := jbind hf
      replace e6 := (jcv_o e6).2
      obtain ⟨v64, e7, hf⟩ := jbind hf
      obtain ⟨h71, e8, hf⟩ := jbind hf
      replace e8 := (jcv_o e8).2
      have f8 : frM a0 [1, 8] [] (oc q47.2) (oc h71) := frM_le (FQ_X12_bringsBack m3 e8) (by decide) (by decide)
      have m8 := mS_fr m3 f8 (by decide) (by decide)
      replace hf := jite hf
      rcases hf with ⟨-, hf⟩ | ⟨-, hf⟩
      · replace hf := jite hf
        rcases hf with ⟨-, hf⟩ | ⟨-, hf⟩
        · exact (frM_tr (frM_tr (frM_tr f2 f3) f8) (frM_le (ih m8 hf) (by decide) (by decide)))
        · exact (frM_tr (frM_tr (frM_tr f2 f3) f8) (frM_le (ih m8 hf) (by decide) (by decide)))
      · exact (frM_tr (frM_tr (frM_tr f2 f3) f8) (frM_le (ih m8 hf) (by decide) (by decide)))
theorem FQ_X12_span {n : Nat} {a0 : Nat} {x1 : Int32} {x2 : Int32} {h : jH} {q : Int32 × jH} (M : mS (oc h) a0) (hf : F_X12_span n a0 x1 x2 h = some q) : frM a0 [1, 4, 8] [0] (oc h) (oc q.2) := by
  unfold F_X12_span at hf
  obtain ⟨h2, e1, hf⟩ := jbind hf
  have f1 : frM a0 [1, 4, 8] [0] (oc h) (oc h2) := by rw [(oc_pf e1).1]; exact frM_f (by decide)
  have m1 := mS_fr M f1 (by decide) (by decide)
  obtain ⟨v7, e2, hf⟩ := jbind hf
  obtain ⟨q11, e3, hf⟩ := jbind hf
  replace e3 := (jcv_o e3).2
  have f3 : frM a0 [1, 4, 8] [0] (oc h2) (oc q11.2) := frM_le (FQ_X12_throwsIf m1 e3) (by decide) (by decide)
  have m3 := mS_fr m1 f3 (by decide) (by decide)
  replace hf := jite hf
  rcases hf with ⟨-, hf⟩ | ⟨-, hf⟩
  · obtain ⟨h20, e4, hf⟩ := jbind hf
    replace e4 := (jcv_o e4).2
    have f4 : frM a0 [1, 4, 8] [0] (oc q11.2) (oc h20) := frM_le (FQ_X12_keepsAll m3 e4) (by decide) (by decide)
    have m4 := mS_fr m3 f4 (by decide) (by decide)
    exact (frM_tr (frM_tr (frM_tr f1 f3) f4) (frM_le (FQ_X12_span_28 m4 hf) (by decide) (by decide)))
  · cases hf
    exact (frM_tr f1 f3)
theorem FQ_X12_led_36 {n : Nat} {k : Nat} : ∀ {a0 : Nat} {x1 : Int32} {x2 : Int32} {x3 : Int32} {x4 : Int32} {x5 : Int32} {h : jH} {q : Int32 × jH}, mS (oc h) a0 → F_X12_led_36 n k a0 x1 x2 x3 x4 x5 h = some q → frM a0 [] [] (oc h) (oc q.2) := by
  induction k with
  | zero =>
    intro a0 x1 x2 x3 x4 x5 h q M hf
    cases hf
  | succ k ih =>
    intro a0 x1 x2 x3 x4 x5 h q M hf
    replace hf : F_X12_led_36_b n (F_X12_led_36 n k) a0 x1 x2 x3 x4 x5 h = some q := hf
    unfold F_X12_led_36_b at hf
    replace hf := jite hf
    rcases hf with ⟨-, hf⟩ | ⟨-, hf⟩
    · replace hf := jite hf
      rcases hf with ⟨-, hf⟩ | ⟨-, hf⟩
      · cases hf
        exact frM_rfl
      · cases hf
        exact frM_rfl
    · obtain ⟨v45, e1, hf⟩ := jbind hf
      replace e1 := (jcv_o e1).2
      replace hf := jite hf
      rcases hf with ⟨-, hf⟩ | ⟨-, hf⟩
      · obtain ⟨v62, e2, hf⟩ := jbind hf
        replace e2 := (jcv_o e2).2
        exact (frM_le (ih M hf) (by decide) (by decide))
      · exact (frM_le (ih M hf) (by decide) (by decide))
theorem FQ_X12_led {n : Nat} {a0 : Nat} {x1 : Int32} {x2 : Int32} {h : jH} {q : Int32 × jH} (M : mS (oc h) a0) (hf : F_X12_led n a0 x1 x2 h = some q) : frM a0 [] [0] (oc h) (oc q.2) := by
  unfold F_X12_led at hf
  obtain ⟨h2, e1, hf⟩ := jbind hf
  have f1 : frM a0 [] [0] (oc h) (oc h2) := by rw [(oc_pf e1).1]; exact frM_f (by decide)
  have m1 := mS_fr M f1 (by decide) (by decide)
  obtain ⟨v8, e2, hf⟩ := jbind hf
  replace e2 := (jcv_o e2).2
  obtain ⟨q12, e3, hf⟩ := jbind hf
  replace e3 := (jcv_o e3).2
  have f3 : frM a0 [] [0] (oc h2) (oc q12.2) := frM_le (FQ_X12_throwsIf m1 e3) (by decide) (by decide)
  have m3 := mS_fr m1 f3 (by decide) (by decide)
  replace hf := jite hf
  rcases hf with ⟨-, hf⟩ | ⟨-, hf⟩
  · obtain ⟨p26, e4, hf⟩ := jbind hf
    have r4 := oc_gR e4
    rw [m3.1] at r4
    cases r4
    obtain ⟨v31, e5, hf⟩ := jbind hf
    exact (frM_tr (frM_tr f1 f3) (frM_le (FQ_X12_led_36 m3 hf) (by decide) (by decide)))
  · cases hf
    exact (frM_tr f1 f3)
theorem FQ_X12_log_20 {n : Nat} {a0 : Nat} {x1 : Int32} {x2 : Int32} {sa0 : Nat} {s1 : Int32} {h : jH} {q : Int32 × jH} (hs : a0 = sa0) (M : mS (oc h) a0) (hf : F_X12_log_20 n a0 x1 x2 sa0 s1 h = some q) : frM a0 [] [0] (oc h) (oc q.2) := by
  unfold F_X12_log_20 at hf
  subst hs
  obtain ⟨q21, e1, hf⟩ := jbind hf
  replace e1 := (jcv_o e1).2
  have f1 : frM a0 [] [0] (oc h) (oc q21.2) := frM_le (FQ_X12_throwsIf M e1) (by decide) (by decide)
  have m1 := mS_fr M f1 (by decide) (by decide)
  replace hf := jite hf
  rcases hf with ⟨-, hf⟩ | ⟨-, hf⟩
  · obtain ⟨p32, e2, hf⟩ := jbind hf
    have r2 := oc_gR e2
    rw [m1.1] at r2
    cases r2
    obtain ⟨v37, e3, hf⟩ := jbind hf
    obtain ⟨v40, e4, hf⟩ := jbind hf
    replace hf := jite hf
    rcases hf with ⟨-, hf⟩ | ⟨-, hf⟩
    · cases hf
      exact f1
    · obtain ⟨v49, e5, hf⟩ := jbind hf
      replace e5 := (jcv_o e5).2
      cases hf
      exact f1
  · cases hf
    exact f1
theorem FQ_X12_log {n : Nat} {a0 : Nat} {x1 : Int32} {x2 : Int32} {h : jH} {q : Int32 × jH} (M : mS (oc h) a0) (hf : F_X12_log n a0 x1 x2 h = some q) : frM a0 [] [0] (oc h) (oc q.2) := by
  unfold F_X12_log at hf
  obtain ⟨h2, e1, hf⟩ := jbind hf
  have f1 : frM a0 [] [0] (oc h) (oc h2) := by rw [(oc_pf e1).1]; exact frM_f (by decide)
  have m1 := mS_fr M f1 (by decide) (by decide)
  obtain ⟨v9, e2, hf⟩ := jbind hf
  replace hf := jite hf
  rcases hf with ⟨-, hf⟩ | ⟨-, hf⟩
  · exact (frM_tr f1 (frM_le (FQ_X12_log_20 rfl m1 hf) (by decide) (by decide)))
  · exact (frM_tr f1 (frM_le (FQ_X12_log_20 rfl m1 hf) (by decide) (by decide)))
theorem FQ_X12_best_113 {n : Nat} {rc14 : Nat → Int32 → Int32 → Int32 → jH → Option (Int32 × jH)} (hrc14 : ∀ {z0 : Nat} {z1 : Int32} {z2 : Int32} {z3 : Int32} {h : jH} {q : Int32 × jH}, mS (oc h) z0 → rc14 z0 z1 z2 z3 h = some q → frM z0 [1, 4] [18] (oc h) (oc q.2)) {a0 : Nat} {x1 : Int32} {x2 : Int32} {x3 : Int32} {h : jH} {q : Int32 × jH} (M : mS (oc h) a0) (hf : F_X12_best_113 n rc14 a0 x1 x2 x3 h = some q) : frM a0 [1, 4] [18] (oc h) (oc q.2) := by
  unfold F_X12_best_113 at hf
  obtain ⟨h114, e1, hf⟩ := jbind hf
  replace e1 := (jcv_o e1).2
  have f1 : frM a0 [1, 4] [18] (oc h) (oc h114) := frM_le (FQ_X12_bringsBack M e1) (by decide) (by decide)
  have m1 := mS_fr M f1 (by decide) (by decide)
  exact (frM_tr f1 (frM_le (hrc14 m1 hf) (by decide) (by decide)))
theorem FQ_X12_best_99 {n : Nat} {rc14 : Nat → Int32 → Int32 → Int32 → jH → Option (Int32 × jH)} (hrc14 : ∀ {z0 : Nat} {z1 : Int32} {z2 : Int32} {z3 : Int32} {h : jH} {q : Int32 × jH}, mS (oc h) z0 → rc14 z0 z1 z2 z3 h = some q → frM z0 [1, 4] [18] (oc h) (oc q.2)) {rc34 : Nat → Int32 → Int32 → Int32 → Int32 → Int32 → jH → Option (Int32 × jH)} (hrc34 : ∀ {z0 : Nat} {z1 : Int32} {z2 : Int32} {z3 : Int32} {z4 : Int32} {z5 : Int32} {h : jH} {q : Int32 × jH}, mS (oc h) z0 → rc34 z0 z1 z2 z3 z4 z5 h = some q → frM z0 [1, 4] [18] (oc h) (oc q.2)) {a0 : Nat} {x2 : Int32} {x3 : Int32} {x4 : Int32} {x5 : Int32} {x6 : Int32} {s0 : Int32} {h : jH} {q : Int32 × jH} (M : mS (oc h) a0) (hf : F_X12_best_99 n rc14 rc34 a0 x2 x3 x4 x5 x6 s0 h = some q) : frM a0 [1, 4] [18] (oc h) (oc q.2) := by
  unfold F_X12_best_99 at hf
  exact (frM_le (hrc34 M hf) (by decide) (by decide))
theorem FQ_X12_best_62 {n : Nat} {rc14 : Nat → Int32 → Int32 → Int32 → jH → Option (Int32 × jH)} (hrc14 : ∀ {z0 : Nat} {z1 : Int32} {z2 : Int32} {z3 : Int32} {h : jH} {q : Int32 × jH}, mS (oc h) z0 → rc14 z0 z1 z2 z3 h = some q → frM z0 [1, 4] [18] (oc h) (oc q.2)) {rc34 : Nat → Int32 → Int32 → Int32 → Int32 → Int32 → jH → Option (Int32 × jH)} (hrc34 : ∀ {z0 : Nat} {z1 : Int32} {z2 : Int32} {z3 : Int32} {z4 : Int32} {z5 : Int32} {h : jH} {q : Int32 × jH}, mS (oc h) z0 → rc34 z0 z1 z2 z3 z4 z5 h = some q → frM z0 [1, 4] [18] (oc h) (oc q.2)) {a0 : Nat} {x1 : Int32} {x2 : Int32} {x3 : Int32} {x5 : Int32} {sa0 : Nat} {s1 : Int32} {s2 : Int32} {h : jH} {q : Int32 × jH} (hs : a0 = sa0) (M : mS (oc h) a0) (hf : F_X12_best_62 n rc14 rc34 a0 x1 x2 x3 x5 sa0 s1 s2 h = some q) : frM a0 [1, 4] [18] (oc h) (oc q.2) := by
  unfold F_X12_best_62 at hf
  subst hs
  obtain ⟨q62, e1, hf⟩ := jbind hf
  replace e1 := (jcv_o e1).2
  have f1 : frM a0 [1, 4] [18] (oc h) (oc q62.2) := frM_le (FQ_X12_goesOne M e1) (by decide) (by decide)
  have m1 := mS_fr M f1 (by decide) (by decide)
  replace hf := jite hf
  rcases hf with ⟨-, hf⟩ | ⟨-, hf⟩
  · replace hf := jite hf
    rcases hf with ⟨-, hf⟩ | ⟨-, hf⟩
    · exact (frM_tr f1 (frM_le (FQ_X12_best_99 hrc14 hrc34 m1 hf) (by decide) (by decide)))
    · exact (frM_tr f1 (frM_le (FQ_X12_best_99 hrc14 hrc34 m1 hf) (by decide) (by decide)))
  · obtain ⟨v73, e2, hf⟩ := jbind hf
    replace e2 := (jcv_o e2).2
    replace hf := jite hf
    rcases hf with ⟨-, hf⟩ | ⟨-, hf⟩
    · exact (frM_tr f1 (frM_le (FQ_X12_best_99 hrc14 hrc34 m1 hf) (by decide) (by decide)))
    · exact (frM_tr f1 (frM_le (FQ_X12_best_99 hrc14 hrc34 m1 hf) (by decide) (by decide)))
theorem FQ_X12_best_34 {n : Nat} {rc14 : Nat → Int32 → Int32 → Int32 → jH → Option (Int32 × jH)} (hrc14 : ∀ {z0 : Nat} {z1 : Int32} {z2 : Int32} {z3 : Int32} {h : jH} {q : Int32 × jH}, mS (oc h) z0 → rc14 z0 z1 z2 z3 h = some q → frM z0 [1, 4] [18] (oc h) (oc q.2)) {k : Nat} : ∀ {a0 : Nat} {x1 : Int32} {x2 : Int32} {x3 : Int32} {x4 : Int32} {x5 : Int32} {h : jH} {q : Int32 × jH}, mS (oc h) a0 → F_X12_best_34 n rc14 k a0 x1 x2 x3 x4 x5 h = some q → frM a0 [1, 4] [18] (oc h) (oc q.2) := by
  induction k with
  | zero =>
    intro a0 x1 x2 x3 x4 x5 h q M hf
    cases hf
  | succ k ih =>
    intro a0 x1 x2 x3 x4 x5 h q M hf
    replace hf : F_X12_best_34_b n rc14 (F_X12_best_34 n rc14 k) a0 x1 x2 x3 x4 x5 h = some q := hf
    unfold F_X12_best_34_b at hf
    replace hf := jite hf
    rcases hf with ⟨-, hf⟩ | ⟨-, hf⟩
    · exact (frM_le (FQ_X12_best_113 hrc14 M hf) (by decide) (by decide))
    · replace hf := jite hf
      rcases hf with ⟨-, hf⟩ | ⟨-, hf⟩
      · exact (frM_le (FQ_X12_best_113 hrc14 M hf) (by decide) (by decide))
      · replace hf := jite hf
        rcases hf with ⟨-, hf⟩ | ⟨-, hf⟩
        · exact (frM_le (FQ_X12_best_62 hrc14 ih rfl M hf) (by decide) (by decide))
        · exact (frM_le (FQ_X12_best_62 hrc14 ih rfl M hf) (by decide) (by decide))
theorem FQ_X12_best_14 {n : Nat} {k : Nat} : ∀ {a0 : Nat} {x1 : Int32} {x2 : Int32} {x3 : Int32} {h : jH} {q : Int32 × jH}, mS (oc h) a0 → F_X12_best_14 n k a0 x1 x2 x3 h = some q → frM a0 [1, 4] [18] (oc h) (oc q.2) := by
  induction k with
  | zero =>
    intro a0 x1 x2 x3 h q M hf
    cases hf
  | succ k ih =>
    intro a0 x1 x2 x3 h q M hf
    replace hf : F_X12_best_14_b n (F_X12_best_14 n k) a0 x1 x2 x3 h = some q := hf
    unfold F_X12_best_14_b at hf
    obtain ⟨v17, e1, hf⟩ := jbind hf
    replace e1 := (jcv_o e1).2
    replace hf := jite hf
    rcases hf with ⟨-, hf⟩ | ⟨-, hf⟩
    · cases hf
      exact frM_rfl
    · obtain ⟨h28, e2, hf⟩ := jbind hf
      replace e2 := (jcv_o e2).2
      have f2 : frM a0 [1, 4] [18] (oc h) (oc h28) := frM_le (FQ_X12_keepsAll M e2) (by decide) (by decide)
      have m2 := mS_fr M f2 (by decide) (by decide)
      exact (frM_tr f2 (frM_le (FQ_X12_best_34 ih m2 hf) (by decide) (by decide)))
theorem FQ_X12_best {n : Nat} {a0 : Nat} {h : jH} {q : Int32 × jH} (M : mS (oc h) a0) (hf : F_X12_best n a0 h = some q) : frM a0 [1, 4] [0, 18] (oc h) (oc q.2) := by
  unfold F_X12_best at hf
  obtain ⟨h2, e1, hf⟩ := jbind hf
  have f1 : frM a0 [1, 4] [0, 18] (oc h) (oc h2) := by rw [(oc_pf e1).1]; exact frM_f (by decide)
  have m1 := mS_fr M f1 (by decide) (by decide)
  obtain ⟨v8, e2, hf⟩ := jbind hf
  replace e2 := (jcv_o e2).2
  exact (frM_tr f1 (frM_le (FQ_X12_best_14 m1 hf) (by decide) (by decide)))
theorem FQ_X12_stepsTo_72 {n : Nat} {a0 : Nat} {x4 : Int32} {h : jH} {q : Int32 × jH} (M : mS (oc h) a0) (hf : F_X12_stepsTo_72 n a0 x4 h = some q) : frM a0 [1] [] (oc h) (oc q.2) := by
  unfold F_X12_stepsTo_72 at hf
  obtain ⟨h73, e1, hf⟩ := jbind hf
  replace e1 := (jcv_o e1).2
  have f1 : frM a0 [1] [] (oc h) (oc h73) := frM_le (FQ_X12_bringsBack M e1) (by decide) (by decide)
  have m1 := mS_fr M f1 (by decide) (by decide)
  cases hf
  exact f1
theorem FQ_X12_stepsTo_15 {n : Nat} {k : Nat} : ∀ {a0 : Nat} {x1 : Int32} {x2 : Int32} {x3 : Int32} {x4 : Int32} {x5 : Int32} {x6 : Int32} {h : jH} {q : Int32 × jH}, mS (oc h) a0 → F_X12_stepsTo_15 n k a0 x1 x2 x3 x4 x5 x6 h = some q → frM a0 [1] [18] (oc h) (oc q.2) := by
  induction k with
  | zero =>
    intro a0 x1 x2 x3 x4 x5 x6 h q M hf
    cases hf
  | succ k ih =>
    intro a0 x1 x2 x3 x4 x5 x6 h q M hf
    replace hf : F_X12_stepsTo_15_b n (F_X12_stepsTo_15 n k) a0 x1 x2 x3 x4 x5 x6 h = some q := hf
    unfold F_X12_stepsTo_15_b at hf
    replace hf := jite hf
    rcases hf with ⟨-, hf⟩ | ⟨-, hf⟩
    · exact (frM_le (FQ_X12_stepsTo_72 M hf) (by decide) (by decide))
    · replace hf := jite hf
      rcases hf with ⟨-, hf⟩ | ⟨-, hf⟩
      · exact (frM_le (FQ_X12_stepsTo_72 M hf) (by decide) (by decide))
      · replace hf := jite hf
        rcases hf with ⟨-, hf⟩ | ⟨-, hf⟩
        · obtain ⟨q38, e1, hf⟩ := jbind hf
          replace e1 := (jcv_o e1).2
          have f1 : frM a0 [1] [18] (oc h) (oc q38.2) := frM_le (FQ_X12_goesOne M e1) (by decide) (by decide)
          have m1 := mS_fr M f1 (by decide) (by decide)
          replace hf := jite hf
          rcases hf with ⟨-, hf⟩ | ⟨-, hf⟩
          · exact (frM_tr f1 (frM_le (ih m1 hf) (by decide) (by decide)))
          · obtain ⟨v50, e2, hf⟩ := jbind hf
            replace e2 := (jcv_o e2).2
            replace hf := jite hf
            rcases hf with ⟨-, hf⟩ | ⟨-, hf⟩
            · exact (frM_tr f1 (frM_le (ih m1 hf) (by decide) (by decide)))
            · exact (frM_tr f1 (frM_le (ih m1 hf) (by decide) (by decide)))
        · exact (frM_le (FQ_X12_stepsTo_72 M hf) (by decide) (by decide))
theorem FQ_X12_stepsTo {n : Nat} {a0 : Nat} {x1 : Int32} {x2 : Int32} {x3 : Int32} {h : jH} {q : Int32 × jH} (M : mS (oc h) a0) (hf : F_X12_stepsTo n a0 x1 x2 x3 h = some q) : frM a0 [1, 4] [18] (oc h) (oc q.2) := by
  unfold F_X12_stepsTo at hf
  obtain ⟨h9, e1, hf⟩ := jbind hf
  replace e1 := (jcv_o e1).2
  have f1 : frM a0 [1, 4] [18] (oc h) (oc h9) := frM_le (FQ_X12_keepsAll M e1) (by decide) (by decide)
  have m1 := mS_fr M f1 (by decide) (by decide)
  exact (frM_tr f1 (frM_le (FQ_X12_stepsTo_15 m1 hf) (by decide) (by decide)))
theorem FQ_X12_fewestTo_58 {n : Nat} {rc10 : Nat → Int32 → Int32 → Int32 → Int32 → Int32 → jH → Option (Int32 × jH)} (hrc10 : ∀ {z0 : Nat} {z1 : Int32} {z2 : Int32} {z3 : Int32} {z4 : Int32} {z5 : Int32} {h : jH} {q : Int32 × jH}, mS (oc h) z0 → rc10 z0 z1 z2 z3 z4 z5 h = some q → frM z0 [1, 4] [18] (oc h) (oc q.2)) {a0 : Nat} {x1 : Int32} {x2 : Int32} {x4 : Int32} {x5 : Int32} {x6 : Int32} {s0 : Int32} {h : jH} {q : Int32 × jH} (M : mS (oc h) a0) (hf : F_X12_fewestTo_58 n rc10 a0 x1 x2 x4 x5 x6 s0 h = some q) : frM a0 [1, 4] [18] (oc h) (oc q.2) := by
  unfold F_X12_fewestTo_58 at hf
  exact (frM_le (hrc10 M hf) (by decide) (by decide))
theorem FQ_X12_fewestTo_40 {n : Nat} {rc10 : Nat → Int32 → Int32 → Int32 → Int32 → Int32 → jH → Option (Int32 × jH)} (hrc10 : ∀ {z0 : Nat} {z1 : Int32} {z2 : Int32} {z3 : Int32} {z4 : Int32} {z5 : Int32} {h : jH} {q : Int32 × jH}, mS (oc h) z0 → rc10 z0 z1 z2 z3 z4 z5 h = some q → frM z0 [1, 4] [18] (oc h) (oc q.2)) {a0 : Nat} {x1 : Int32} {x2 : Int32} {x3 : Int32} {x4 : Int32} {x5 : Int32} {sa0 : Nat} {s1 : Int32} {s2 : Int32} {s3 : Int32} {h : jH} {q : Int32 × jH} (hs : a0 = sa0) (M : mS (oc h) a0) (hf : F_X12_fewestTo_40 n rc10 a0 x1 x2 x3 x4 x5 sa0 s1 s2 s3 h = some q) : frM a0 [1, 4] [18] (oc h) (oc q.2) := by
  unfold F_X12_fewestTo_40 at hf
  subst hs
  obtain ⟨q40, e1, hf⟩ := jbind hf
  replace e1 := (jcv_o e1).2
  have f1 : frM a0 [1, 4] [18] (oc h) (oc q40.2) := frM_le (FQ_X12_stepsTo M e1) (by decide) (by decide)
  have m1 := mS_fr M f1 (by decide) (by decide)
  replace hf := jite hf
  rcases hf with ⟨-, hf⟩ | ⟨-, hf⟩
  · exact (frM_tr f1 (frM_le (FQ_X12_fewestTo_58 hrc10 m1 hf) (by decide) (by decide)))
  · exact (frM_tr f1 (frM_le (FQ_X12_fewestTo_58 hrc10 m1 hf) (by decide) (by decide)))
theorem FQ_X12_fewestTo_10 {n : Nat} {k : Nat} : ∀ {a0 : Nat} {x1 : Int32} {x2 : Int32} {x3 : Int32} {x4 : Int32} {x5 : Int32} {h : jH} {q : Int32 × jH}, mS (oc h) a0 → F_X12_fewestTo_10 n k a0 x1 x2 x3 x4 x5 h = some q → frM a0 [1, 4] [18] (oc h) (oc q.2) := by
  induction k with
  | zero =>
    intro a0 x1 x2 x3 x4 x5 h q M hf
    cases hf
  | succ k ih =>
    intro a0 x1 x2 x3 x4 x5 h q M hf
    replace hf : F_X12_fewestTo_10_b n (F_X12_fewestTo_10 n k) a0 x1 x2 x3 x4 x5 h = some q := hf
    unfold F_X12_fewestTo_10_b at hf
    obtain ⟨v14, e1, hf⟩ := jbind hf
    replace e1 := (jcv_o e1).2
    replace hf := jite hf
    rcases hf with ⟨-, hf⟩ | ⟨-, hf⟩
    · replace hf := jite hf
      rcases hf with ⟨-, hf⟩ | ⟨-, hf⟩
      · replace hf := jite hf
        rcases hf with ⟨-, hf⟩ | ⟨-, hf⟩
        · cases hf
          exact frM_rfl
        · cases hf
          exact frM_rfl
      · cases hf
        exact frM_rfl
    · replace hf := jite hf
      rcases hf with ⟨-, hf⟩ | ⟨-, hf⟩
      · exact (frM_le (FQ_X12_fewestTo_40 ih rfl M hf) (by decide) (by decide))
      · exact (frM_le (FQ_X12_fewestTo_40 ih rfl M hf) (by decide) (by decide))
theorem FQ_X12_fewestTo {n : Nat} {a0 : Nat} {x1 : Int32} {x2 : Int32} {h : jH} {q : Int32 × jH} (M : mS (oc h) a0) (hf : F_X12_fewestTo n a0 x1 x2 h = some q) : frM a0 [1, 4] [18] (oc h) (oc q.2) := by
  unfold F_X12_fewestTo at hf
  exact (frM_le (FQ_X12_fewestTo_10 M hf) (by decide) (by decide))
theorem FQ_X12_fewest {n : Nat} {a0 : Nat} {x1 : Int32} {h : jH} {q : Int32 × jH} (M : mS (oc h) a0) (hf : F_X12_fewest n a0 x1 h = some q) : frM a0 [1, 4] [0, 18] (oc h) (oc q.2) := by
  unfold F_X12_fewest at hf
  obtain ⟨h2, e1, hf⟩ := jbind hf
  have f1 : frM a0 [1, 4] [0, 18] (oc h) (oc h2) := by rw [(oc_pf e1).1]; exact frM_f (by decide)
  have m1 := mS_fr M f1 (by decide) (by decide)
  obtain ⟨v7, e2, hf⟩ := jbind hf
  replace e2 := (jcv_o e2).2
  replace hf := jite hf
  rcases hf with ⟨-, hf⟩ | ⟨-, hf⟩
  · obtain ⟨q20, e3, hf⟩ := jbind hf
    replace e3 := (jcv_o e3).2
    have f3 : frM a0 [1, 4] [0, 18] (oc h2) (oc q20.2) := frM_le (FQ_X12_fewestTo m1 e3) (by decide) (by decide)
    have m3 := mS_fr m1 f3 (by decide) (by decide)
    cases hf
    exact (frM_tr f1 f3)
  · cases hf
    exact f1
theorem FQ_X12_first {n : Nat} {a0 : Nat} {x1 : Int32} {h : jH} {q : Int32 × jH} (M : mS (oc h) a0) (hf : F_X12_first n a0 x1 h = some q) : frM a0 [1, 4] [0, 18] (oc h) (oc q.2) := by
  unfold F_X12_first at hf
  obtain ⟨h2, e1, hf⟩ := jbind hf
  have f1 : frM a0 [1, 4] [0, 18] (oc h) (oc h2) := by rw [(oc_pf e1).1]; exact frM_f (by decide)
  have m1 := mS_fr M f1 (by decide) (by decide)
  obtain ⟨v7, e2, hf⟩ := jbind hf
  replace e2 := (jcv_o e2).2
  replace hf := jite hf
  rcases hf with ⟨-, hf⟩ | ⟨-, hf⟩
  · obtain ⟨q20, e3, hf⟩ := jbind hf
    replace e3 := (jcv_o e3).2
    have f3 : frM a0 [1, 4] [0, 18] (oc h2) (oc q20.2) := frM_le (FQ_X12_fewestTo m1 e3) (by decide) (by decide)
    have m3 := mS_fr m1 f3 (by decide) (by decide)
    cases hf
    exact (frM_tr f1 f3)
  · cases hf
    exact f1
theorem FQ_X12_pale_49 {n : Nat} {a0 : Nat} {x1 : Int32} {h : jH} {q : Int32 × jH} (M : mS (oc h) a0) (hf : F_X12_pale_49 n a0 x1 h = some q) : frM a0 [1] [] (oc h) (oc q.2) := by
  unfold F_X12_pale_49 at hf
  obtain ⟨h50, e1, hf⟩ := jbind hf
  replace e1 := (jcv_o e1).2
  have f1 : frM a0 [1] [] (oc h) (oc h50) := frM_le (FQ_X12_bringsBack M e1) (by decide) (by decide)
  have m1 := mS_fr M f1 (by decide) (by decide)
  cases hf
  exact f1
theorem FQ_X12_pale_36 {n : Nat} {rc13 : Nat → Int32 → Int32 → jH → Option (Int32 × jH)} (hrc13 : ∀ {z0 : Nat} {z1 : Int32} {z2 : Int32} {h : jH} {q : Int32 × jH}, mS (oc h) z0 → rc13 z0 z1 z2 h = some q → frM z0 [1, 8] [] (oc h) (oc q.2)) {a0 : Nat} {x2 : Int32} {s0 : Int32} {h : jH} {q : Int32 × jH} (M : mS (oc h) a0) (hf : F_X12_pale_36 n rc13 a0 x2 s0 h = some q) : frM a0 [1, 8] [] (oc h) (oc q.2) := by
  unfold F_X12_pale_36 at hf
  obtain ⟨q39, e1, hf⟩ := jbind hf
  replace e1 := (jcv_o e1).2
  have f1 : frM a0 [1, 8] [] (oc h) (oc q39.2) := frM_le (FQ_X12_oneHour M e1) (by decide) (by decide)
  have m1 := mS_fr M f1 (by decide) (by decide)
  exact (frM_tr f1 (frM_le (hrc13 m1 hf) (by decide) (by decide)))
theorem FQ_X12_pale_13 {n : Nat} {k : Nat} : ∀ {a0 : Nat} {x1 : Int32} {x2 : Int32} {h : jH} {q : Int32 × jH}, mS (oc h) a0 → F_X12_pale_13 n k a0 x1 x2 h = some q → frM a0 [1, 8] [] (oc h) (oc q.2) := by
  induction k with
  | zero =>
    intro a0 x1 x2 h q M hf
    cases hf
  | succ k ih =>
    intro a0 x1 x2 h q M hf
    replace hf : F_X12_pale_13_b n (F_X12_pale_13 n k) a0 x1 x2 h = some q := hf
    unfold F_X12_pale_13_b at hf
    replace hf := jite hf
    rcases hf with ⟨-, hf⟩ | ⟨-, hf⟩
    · exact (frM_le (FQ_X12_pale_49 M hf) (by decide) (by decide))
    · replace hf := jite hf
      rcases hf with ⟨-, hf⟩ | ⟨-, hf⟩
      · obtain ⟨v25, e1, hf⟩ := jbind hf
        replace e1 := (jcv_o e1).2
        replace hf := jite hf
        rcases hf with ⟨-, hf⟩ | ⟨-, hf⟩
        · exact (frM_le (FQ_X12_pale_36 ih M hf) (by decide) (by decide))
        · exact (frM_le (FQ_X12_pale_36 ih M hf) (by decide) (by decide))
      · exact (frM_le (FQ_X12_pale_49 M hf) (by decide) (by decide))
theorem FQ_X12_pale {n : Nat} {a0 : Nat} {h : jH} {q : Int32 × jH} (M : mS (oc h) a0) (hf : F_X12_pale n a0 h = some q) : frM a0 [1, 4, 8] [0] (oc h) (oc q.2) := by
  unfold F_X12_pale at hf
  obtain ⟨h2, e1, hf⟩ := jbind hf
  have f1 : frM a0 [1, 4, 8] [0] (oc h) (oc h2) := by rw [(oc_pf e1).1]; exact frM_f (by decide)
  have m1 := mS_fr M f1 (by decide) (by decide)
  obtain ⟨h8, e2, hf⟩ := jbind hf
  replace e2 := (jcv_o e2).2
  have f2 : frM a0 [1, 4, 8] [0] (oc h2) (oc h8) := frM_le (FQ_X12_keepsAll m1 e2) (by decide) (by decide)
  have m2 := mS_fr m1 f2 (by decide) (by decide)
  exact (frM_tr (frM_tr f1 f2) (frM_le (FQ_X12_pale_13 m2 hf) (by decide) (by decide)))
theorem FQ_X12_fault {n : Nat} {a0 : Nat} {h : jH} {q : Int32 × jH} (M : mS (oc h) a0) (hf : F_X12_fault n a0 h = some q) : frM a0 [] [0] (oc h) (oc q.2) := by
  unfold F_X12_fault at hf
  obtain ⟨h2, e1, hf⟩ := jbind hf
  have f1 : frM a0 [] [0] (oc h) (oc h2) := by rw [(oc_pf e1).1]; exact frM_f (by decide)
  have m1 := mS_fr M f1 (by decide) (by decide)
  obtain ⟨v6, e2, hf⟩ := jbind hf
  cases hf
  exact f1
theorem FQ_X12_shade {n : Nat} {a0 : Nat} {h : jH} {q : Int32 × jH} (M : mS (oc h) a0) (hf : F_X12_shade n a0 h = some q) : frM a0 [] [0] (oc h) (oc q.2) := by
  unfold F_X12_shade at hf
  obtain ⟨h2, e1, hf⟩ := jbind hf
  have f1 : frM a0 [] [0] (oc h) (oc h2) := by rw [(oc_pf e1).1]; exact frM_f (by decide)
  have m1 := mS_fr M f1 (by decide) (by decide)
  obtain ⟨v6, e2, hf⟩ := jbind hf
  replace e2 := (jcv_o e2).2
  cases hf
  exact f1
theorem FQ_X12_dark {n : Nat} {a0 : Nat} {h : jH} {q : Int32 × jH} (M : mS (oc h) a0) (hf : F_X12_dark n a0 h = some q) : frM a0 [] [0] (oc h) (oc q.2) := by
  unfold F_X12_dark at hf
  obtain ⟨h2, e1, hf⟩ := jbind hf
  have f1 : frM a0 [] [0] (oc h) (oc h2) := by rw [(oc_pf e1).1]; exact frM_f (by decide)
  have m1 := mS_fr M f1 (by decide) (by decide)
  obtain ⟨v6, e2, hf⟩ := jbind hf
  replace e2 := (jcv_o e2).2
  cases hf
  exact f1
theorem FQ_X12_bare {n : Nat} {a0 : Nat} {h : jH} {q : Int32 × jH} (M : mS (oc h) a0) (hf : F_X12_bare n a0 h = some q) : frM a0 [] [0] (oc h) (oc q.2) := by
  unfold F_X12_bare at hf
  obtain ⟨h2, e1, hf⟩ := jbind hf
  have f1 : frM a0 [] [0] (oc h) (oc h2) := by rw [(oc_pf e1).1]; exact frM_f (by decide)
  have m1 := mS_fr M f1 (by decide) (by decide)
  obtain ⟨p6, e2, hf⟩ := jbind hf
  have r2 := oc_gR e2
  rw [m1.1] at r2
  cases r2
  obtain ⟨v11, e3, hf⟩ := jbind hf
  obtain ⟨v13, e4, hf⟩ := jbind hf
  replace e4 := (jcv_o e4).2
  cases hf
  exact f1
theorem FQ_X12_order_26 {n : Nat} {rc9 : Nat → Int32 → Int32 → jH → Option (Int32 × jH)} (hrc9 : ∀ {z0 : Nat} {z1 : Int32} {z2 : Int32} {h : jH} {q : Int32 × jH}, mS (oc h) z0 → rc9 z0 z1 z2 h = some q → frM z0 [11] [] (oc h) (oc q.2)) {k : Nat} : ∀ {a0 : Nat} {x1 : Int32} {x2 : Int32} {x3 : Int32} {h : jH} {q : Int32 × jH}, mS (oc h) a0 → F_X12_order_26 n rc9 k a0 x1 x2 x3 h = some q → frM a0 [11] [] (oc h) (oc q.2) := by
  induction k with
  | zero =>
    intro a0 x1 x2 x3 h q M hf
    cases hf
  | succ k ih =>
    intro a0 x1 x2 x3 h q M hf
    replace hf : F_X12_order_26_b n rc9 (F_X12_order_26 n rc9 k) a0 x1 x2 x3 h = some q := hf
    unfold F_X12_order_26_b at hf
    replace hf := jite hf
    rcases hf with ⟨-, hf⟩ | ⟨-, hf⟩
    · obtain ⟨p86, e1, hf⟩ := jbind hf
      have r1 := oc_gR e1
      rw [M.2.2.2.2.2.2.2.2.2.2] at r1
      cases r1
      obtain ⟨v90, e2, hf⟩ := jbind hf
      exact (frM_le (hrc9 M hf) (by decide) (by decide))
    · obtain ⟨p32, e3, hf⟩ := jbind hf
      have r3 := oc_gR e3
      rw [M.2.2.2.2.2.2.2.2.2.2] at r3
      cases r3
      obtain ⟨v39, e4, hf⟩ := jbind hf
      replace e4 := (jcv_o e4).2
      obtain ⟨v45, e5, hf⟩ := jbind hf
      replace e5 := (jcv_o e5).2
      replace hf := jite hf
      rcases hf with ⟨-, hf⟩ | ⟨-, hf⟩
      · obtain ⟨p72, e6, hf⟩ := jbind hf
        have r6 := oc_gR e6
        rw [M.2.2.2.2.2.2.2.2.2.2] at r6
        cases r6
        obtain ⟨v76, e7, hf⟩ := jbind hf
        obtain ⟨h77, e8, hf⟩ := jbind hf
        have f8 : frM a0 [11] [] (oc h) (oc h77) := by rw [(oc_as e8).1]; exact frM_c (by decide)
        have m8 := mS_fr M f8 (by decide) (by decide)
        exact (frM_tr f8 (frM_le (ih m8 hf) (by decide) (by decide)))
      · obtain ⟨p52, e9, hf⟩ := jbind hf
        have r9 := oc_gR e9
        rw [M.2.2.2.2.2.2.2.2.2.2] at r9
        cases r9
        obtain ⟨v56, e10, hf⟩ := jbind hf
        obtain ⟨p58, e11, hf⟩ := jbind hf
        have r11 := oc_gR e11
        rw [M.2.2.2.2.2.2.2.2.2.2] at r11
        cases r11
        obtain ⟨v62, e12, hf⟩ := jbind hf
        obtain ⟨h77, e13, hf⟩ := jbind hf
        have f13 : frM a0 [11] [] (oc h) (oc h77) := by rw [(oc_as e13).1]; exact frM_c (by decide)
        have m13 := mS_fr M f13 (by decide) (by decide)
        exact (frM_tr f13 (frM_le (ih m13 hf) (by decide) (by decide)))
theorem FQ_X12_order_9 {n : Nat} {k : Nat} : ∀ {a0 : Nat} {x1 : Int32} {x2 : Int32} {h : jH} {q : Int32 × jH}, mS (oc h) a0 → F_X12_order_9 n k a0 x1 x2 h = some q → frM a0 [11] [] (oc h) (oc q.2) := by
  induction k with
  | zero =>
    intro a0 x1 x2 h q M hf
    cases hf
  | succ k ih =>
    intro a0 x1 x2 h q M hf
    replace hf : F_X12_order_9_b n (F_X12_order_9 n k) a0 x1 x2 h = some q := hf
    unfold F_X12_order_9_b at hf
    obtain ⟨v11, e1, hf⟩ := jbind hf
    replace e1 := (jcv_o e1).2
    replace hf := jite hf
    rcases hf with ⟨-, hf⟩ | ⟨-, hf⟩
    · obtain ⟨v102, e2, hf⟩ := jbind hf
      replace e2 := (jcv_o e2).2
      cases hf
      exact frM_rfl
    · obtain ⟨p18, e3, hf⟩ := jbind hf
      have r3 := oc_gR e3
      rw [M.2.2.2.2.2.2.2.2.2.2] at r3
      cases r3
      obtain ⟨h23, e4, hf⟩ := jbind hf
      have f4 : frM a0 [11] [] (oc h) (oc h23) := by rw [(oc_as e4).1]; exact frM_c (by decide)
      have m4 := mS_fr M f4 (by decide) (by decide)
      exact (frM_tr f4 (frM_le (FQ_X12_order_26 ih m4 hf) (by decide) (by decide)))
theorem FQ_X12_order {n : Nat} {a0 : Nat} {h : jH} {q : Int32 × jH} (M : mS (oc h) a0) (hf : F_X12_order n a0 h = some q) : frM a0 [11] [0] (oc h) (oc q.2) := by
  unfold F_X12_order at hf
  obtain ⟨h2, e1, hf⟩ := jbind hf
  have f1 : frM a0 [11] [0] (oc h) (oc h2) := by rw [(oc_pf e1).1]; exact frM_f (by decide)
  have m1 := mS_fr M f1 (by decide) (by decide)
  exact (frM_tr f1 (frM_le (FQ_X12_order_9 m1 hf) (by decide) (by decide)))
theorem FQ_X12_slack_9 {n : Nat} {k : Nat} : ∀ {a0 : Nat} {x1 : Int32} {x2 : Int32} {h : jH} {q : Int32 × jH}, mS (oc h) a0 → F_X12_slack_9 n k a0 x1 x2 h = some q → frM a0 [] [] (oc h) (oc q.2) := by
  induction k with
  | zero =>
    intro a0 x1 x2 h q M hf
    cases hf
  | succ k ih =>
    intro a0 x1 x2 h q M hf
    replace hf : F_X12_slack_9_b n (F_X12_slack_9 n k) a0 x1 x2 h = some q := hf
    unfold F_X12_slack_9_b at hf
    obtain ⟨v11, e1, hf⟩ := jbind hf
    replace e1 := (jcv_o e1).2
    replace hf := jite hf
    rcases hf with ⟨-, hf⟩ | ⟨-, hf⟩
    · cases hf
      exact frM_rfl
    · obtain ⟨v21, e2, hf⟩ := jbind hf
      replace e2 := (jcv_o e2).2
      obtain ⟨v26, e3, hf⟩ := jbind hf
      replace e3 := (jcv_o e3).2
      exact (frM_le (ih M hf) (by decide) (by decide))
theorem FQ_X12_slack {n : Nat} {a0 : Nat} {h : jH} {q : Int32 × jH} (M : mS (oc h) a0) (hf : F_X12_slack n a0 h = some q) : frM a0 [] [0] (oc h) (oc q.2) := by
  unfold F_X12_slack at hf
  obtain ⟨h2, e1, hf⟩ := jbind hf
  have f1 : frM a0 [] [0] (oc h) (oc h2) := by rw [(oc_pf e1).1]; exact frM_f (by decide)
  have m1 := mS_fr M f1 (by decide) (by decide)
  exact (frM_tr f1 (frM_le (FQ_X12_slack_9 m1 hf) (by decide) (by decide)))
theorem FQ_X12_taut_9 {n : Nat} {k : Nat} : ∀ {a0 : Nat} {x1 : Int32} {x2 : Int32} {h : jH} {q : Int32 × jH}, mS (oc h) a0 → F_X12_taut_9 n k a0 x1 x2 h = some q → frM a0 [] [] (oc h) (oc q.2) := by
  induction k with
  | zero =>
    intro a0 x1 x2 h q M hf
    cases hf
  | succ k ih =>
    intro a0 x1 x2 h q M hf
    replace hf : F_X12_taut_9_b n (F_X12_taut_9 n k) a0 x1 x2 h = some q := hf
    unfold F_X12_taut_9_b at hf
    obtain ⟨v11, e1, hf⟩ := jbind hf
    replace e1 := (jcv_o e1).2
    replace hf := jite hf
    rcases hf with ⟨-, hf⟩ | ⟨-, hf⟩
    · cases hf
      exact frM_rfl
    · obtain ⟨v20, e2, hf⟩ := jbind hf
      replace e2 := (jcv_o e2).2
      obtain ⟨v26, e3, hf⟩ := jbind hf
      replace e3 := (jcv_o e3).2
      replace hf := jite hf
      rcases hf with ⟨-, hf⟩ | ⟨-, hf⟩
      · exact (frM_le (ih M hf) (by decide) (by decide))
      · exact (frM_le (ih M hf) (by decide) (by decide))
theorem FQ_X12_taut {n : Nat} {a0 : Nat} {h : jH} {q : Int32 × jH} (M : mS (oc h) a0) (hf : F_X12_taut n a0 h = some q) : frM a0 [] [0] (oc h) (oc q.2) := by
  unfold F_X12_taut at hf
  obtain ⟨h2, e1, hf⟩ := jbind hf
  have f1 : frM a0 [] [0] (oc h) (oc h2) := by rw [(oc_pf e1).1]; exact frM_f (by decide)
  have m1 := mS_fr M f1 (by decide) (by decide)
  exact (frM_tr f1 (frM_le (FQ_X12_taut_9 m1 hf) (by decide) (by decide)))
theorem FQ_X12_sunny_69 {n : Nat} {rc11 : Nat → Int32 → Int32 → Int32 → jH → Option (Int32 × jH)} (hrc11 : ∀ {z0 : Nat} {z1 : Int32} {z2 : Int32} {z3 : Int32} {h : jH} {q : Int32 × jH}, mS (oc h) z0 → rc11 z0 z1 z2 z3 h = some q → frM z0 [] [] (oc h) (oc q.2)) {a0 : Nat} {x2 : Int32} {x3 : Int32} {x4 : Int32} {s0 : Int32} {h : jH} {q : Int32 × jH} (M : mS (oc h) a0) (hf : F_X12_sunny_69 n rc11 a0 x2 x3 x4 s0 h = some q) : frM a0 [] [] (oc h) (oc q.2) := by
  unfold F_X12_sunny_69 at hf
  exact (frM_le (hrc11 M hf) (by decide) (by decide))
theorem FQ_X12_sunny_25 {n : Nat} {rc11 : Nat → Int32 → Int32 → Int32 → jH → Option (Int32 × jH)} (hrc11 : ∀ {z0 : Nat} {z1 : Int32} {z2 : Int32} {z3 : Int32} {h : jH} {q : Int32 × jH}, mS (oc h) z0 → rc11 z0 z1 z2 z3 h = some q → frM z0 [] [] (oc h) (oc q.2)) {k : Nat} : ∀ {a0 : Nat} {x1 : Int32} {x2 : Int32} {x3 : Int32} {x4 : Int32} {x5 : Int32} {h : jH} {q : Int32 × jH}, mS (oc h) a0 → F_X12_sunny_25 n rc11 k a0 x1 x2 x3 x4 x5 h = some q → frM a0 [] [] (oc h) (oc q.2) := by
  induction k with
  | zero =>
    intro a0 x1 x2 x3 x4 x5 h q M hf
    cases hf
  | succ k ih =>
    intro a0 x1 x2 x3 x4 x5 h q M hf
    replace hf : F_X12_sunny_25_b n rc11 (F_X12_sunny_25 n rc11 k) a0 x1 x2 x3 x4 x5 h = some q := hf
    unfold F_X12_sunny_25_b at hf
    replace hf := jite hf
    rcases hf with ⟨-, hf⟩ | ⟨-, hf⟩
    · replace hf := jite hf
      rcases hf with ⟨-, hf⟩ | ⟨-, hf⟩
      · exact (frM_le (FQ_X12_sunny_69 hrc11 M hf) (by decide) (by decide))
      · exact (frM_le (FQ_X12_sunny_69 hrc11 M hf) (by decide) (by decide))
    · obtain ⟨v38, e1, hf⟩ := jbind hf
      replace e1 := (jcv_o e1).2
      replace hf := jite hf
      rcases hf with ⟨-, hf⟩ | ⟨-, hf⟩
      · exact (frM_le (ih M hf) (by decide) (by decide))
      · exact (frM_le (ih M hf) (by decide) (by decide))
theorem FQ_X12_sunny_11 {n : Nat} {k : Nat} : ∀ {a0 : Nat} {x1 : Int32} {x2 : Int32} {x3 : Int32} {h : jH} {q : Int32 × jH}, mS (oc h) a0 → F_X12_sunny_11 n k a0 x1 x2 x3 h = some q → frM a0 [] [] (oc h) (oc q.2) := by
  induction k with
  | zero =>
    intro a0 x1 x2 x3 h q M hf
    cases hf
  | succ k ih =>
    intro a0 x1 x2 x3 h q M hf
    replace hf : F_X12_sunny_11_b n (F_X12_sunny_11 n k) a0 x1 x2 x3 h = some q := hf
    unfold F_X12_sunny_11_b at hf
    obtain ⟨v13, e1, hf⟩ := jbind hf
    replace e1 := (jcv_o e1).2
    replace hf := jite hf
    rcases hf with ⟨-, hf⟩ | ⟨-, hf⟩
    · cases hf
      exact frM_rfl
    · exact (frM_le (FQ_X12_sunny_25 ih M hf) (by decide) (by decide))
theorem FQ_X12_sunny {n : Nat} {a0 : Nat} {h : jH} {q : Int32 × jH} (M : mS (oc h) a0) (hf : F_X12_sunny n a0 h = some q) : frM a0 [] [0] (oc h) (oc q.2) := by
  unfold F_X12_sunny at hf
  obtain ⟨h2, e1, hf⟩ := jbind hf
  have f1 : frM a0 [] [0] (oc h) (oc h2) := by rw [(oc_pf e1).1]; exact frM_f (by decide)
  have m1 := mS_fr M f1 (by decide) (by decide)
  exact (frM_tr f1 (frM_le (FQ_X12_sunny_11 m1 hf) (by decide) (by decide)))
theorem FQ_X12_envy_9 {n : Nat} {k : Nat} : ∀ {a0 : Nat} {x1 : Int32} {x2 : Int32} {h : jH} {q : Int32 × jH}, mS (oc h) a0 → F_X12_envy_9 n k a0 x1 x2 h = some q → frM a0 [] [] (oc h) (oc q.2) := by
  induction k with
  | zero =>
    intro a0 x1 x2 h q M hf
    cases hf
  | succ k ih =>
    intro a0 x1 x2 h q M hf
    replace hf : F_X12_envy_9_b n (F_X12_envy_9 n k) a0 x1 x2 h = some q := hf
    unfold F_X12_envy_9_b at hf
    obtain ⟨v11, e1, hf⟩ := jbind hf
    replace e1 := (jcv_o e1).2
    replace hf := jite hf
    rcases hf with ⟨-, hf⟩ | ⟨-, hf⟩
    · cases hf
      exact frM_rfl
    · obtain ⟨v21, e2, hf⟩ := jbind hf
      replace e2 := (jcv_o e2).2
      obtain ⟨v29, e3, hf⟩ := jbind hf
      replace e3 := (jcv_o e3).2
      replace hf := jite hf
      rcases hf with ⟨-, hf⟩ | ⟨-, hf⟩
      · exact (frM_le (ih M hf) (by decide) (by decide))
      · exact (frM_le (ih M hf) (by decide) (by decide))
theorem FQ_X12_envy {n : Nat} {a0 : Nat} {h : jH} {q : Int32 × jH} (M : mS (oc h) a0) (hf : F_X12_envy n a0 h = some q) : frM a0 [] [0] (oc h) (oc q.2) := by
  unfold F_X12_envy at hf
  obtain ⟨h2, e1, hf⟩ := jbind hf
  have f1 : frM a0 [] [0] (oc h) (oc h2) := by rw [(oc_pf e1).1]; exact frM_f (by decide)
  have m1 := mS_fr M f1 (by decide) (by decide)
  exact (frM_tr f1 (frM_le (FQ_X12_envy_9 m1 hf) (by decide) (by decide)))
theorem FQ_X12_bunch_41 {n : Nat} {rc11 : Nat → Int32 → Int32 → Int32 → jH → Option (Int32 × jH)} (hrc11 : ∀ {z0 : Nat} {z1 : Int32} {z2 : Int32} {z3 : Int32} {h : jH} {q : Int32 × jH}, mS (oc h) z0 → rc11 z0 z1 z2 z3 h = some q → frM z0 [] [] (oc h) (oc q.2)) {a0 : Nat} {x1 : Int32} {x3 : Int32} {s0 : Int32} {h : jH} {q : Int32 × jH} (M : mS (oc h) a0) (hf : F_X12_bunch_41 n rc11 a0 x1 x3 s0 h = some q) : frM a0 [] [] (oc h) (oc q.2) := by
  unfold F_X12_bunch_41 at hf
  exact (frM_le (hrc11 M hf) (by decide) (by decide))
theorem FQ_X12_bunch_11 {n : Nat} {k : Nat} : ∀ {a0 : Nat} {x1 : Int32} {x2 : Int32} {x3 : Int32} {h : jH} {q : Int32 × jH}, mS (oc h) a0 → F_X12_bunch_11 n k a0 x1 x2 x3 h = some q → frM a0 [] [] (oc h) (oc q.2) := by
  induction k with
  | zero =>
    intro a0 x1 x2 x3 h q M hf
    cases hf
  | succ k ih =>
    intro a0 x1 x2 x3 h q M hf
    replace hf : F_X12_bunch_11_b n (F_X12_bunch_11 n k) a0 x1 x2 x3 h = some q := hf
    unfold F_X12_bunch_11_b at hf
    obtain ⟨v13, e1, hf⟩ := jbind hf
    replace e1 := (jcv_o e1).2
    replace hf := jite hf
    rcases hf with ⟨-, hf⟩ | ⟨-, hf⟩
    · cases hf
      exact frM_rfl
    · replace hf := jite hf
      rcases hf with ⟨-, hf⟩ | ⟨-, hf⟩
      · exact (frM_le (FQ_X12_bunch_41 ih M hf) (by decide) (by decide))
      · obtain ⟨v27, e2, hf⟩ := jbind hf
        replace e2 := (jcv_o e2).2
        replace hf := jite hf
        rcases hf with ⟨-, hf⟩ | ⟨-, hf⟩
        · exact (frM_le (FQ_X12_bunch_41 ih M hf) (by decide) (by decide))
        · exact (frM_le (FQ_X12_bunch_41 ih M hf) (by decide) (by decide))
theorem FQ_X12_bunch {n : Nat} {a0 : Nat} {h : jH} {q : Int32 × jH} (M : mS (oc h) a0) (hf : F_X12_bunch n a0 h = some q) : frM a0 [] [0] (oc h) (oc q.2) := by
  unfold F_X12_bunch at hf
  obtain ⟨h2, e1, hf⟩ := jbind hf
  have f1 : frM a0 [] [0] (oc h) (oc h2) := by rw [(oc_pf e1).1]; exact frM_f (by decide)
  have m1 := mS_fr M f1 (by decide) (by decide)
  exact (frM_tr f1 (frM_le (FQ_X12_bunch_11 m1 hf) (by decide) (by decide)))
theorem FQ_X12_wooden {n : Nat} {a0 : Nat} {h : jH} {q : Int32 × jH} (M : mS (oc h) a0) (hf : F_X12_wooden n a0 h = some q) : frM a0 [] [0] (oc h) (oc q.2) := by
  unfold F_X12_wooden at hf
  obtain ⟨h2, e1, hf⟩ := jbind hf
  have f1 : frM a0 [] [0] (oc h) (oc h2) := by rw [(oc_pf e1).1]; exact frM_f (by decide)
  have m1 := mS_fr M f1 (by decide) (by decide)
  obtain ⟨v7, e2, hf⟩ := jbind hf
  replace e2 := (jcv_o e2).2
  cases hf
  exact f1
theorem FQ_X12_caught {n : Nat} {a0 : Nat} {h : jH} {q : Int32 × jH} (M : mS (oc h) a0) (hf : F_X12_caught n a0 h = some q) : frM a0 [] [0] (oc h) (oc q.2) := by
  unfold F_X12_caught at hf
  obtain ⟨h2, e1, hf⟩ := jbind hf
  have f1 : frM a0 [] [0] (oc h) (oc h2) := by rw [(oc_pf e1).1]; exact frM_f (by decide)
  have m1 := mS_fr M f1 (by decide) (by decide)
  obtain ⟨v8, e2, hf⟩ := jbind hf
  replace e2 := (jcv_o e2).2
  cases hf
  exact f1
theorem FQ_X12_loose {n : Nat} {a0 : Nat} {h : jH} {q : Int32 × jH} (M : mS (oc h) a0) (hf : F_X12_loose n a0 h = some q) : frM a0 [] [0] (oc h) (oc q.2) := by
  unfold F_X12_loose at hf
  obtain ⟨h2, e1, hf⟩ := jbind hf
  have f1 : frM a0 [] [0] (oc h) (oc h2) := by rw [(oc_pf e1).1]; exact frM_f (by decide)
  have m1 := mS_fr M f1 (by decide) (by decide)
  obtain ⟨v6, e2, hf⟩ := jbind hf
  replace e2 := (jcv_o e2).2
  cases hf
  exact f1
theorem FQ_X12_beyond_9 {n : Nat} {k : Nat} : ∀ {a0 : Nat} {x1 : Int32} {x2 : Int32} {h : jH} {q : Int32 × jH}, mS (oc h) a0 → F_X12_beyond_9 n k a0 x1 x2 h = some q → frM a0 [] [] (oc h) (oc q.2) := by
  induction k with
  | zero =>
    intro a0 x1 x2 h q M hf
    cases hf
  | succ k ih =>
    intro a0 x1 x2 h q M hf
    replace hf : F_X12_beyond_9_b n (F_X12_beyond_9 n k) a0 x1 x2 h = some q := hf
    unfold F_X12_beyond_9_b at hf
    obtain ⟨v11, e1, hf⟩ := jbind hf
    replace e1 := (jcv_o e1).2
    replace hf := jite hf
    rcases hf with ⟨-, hf⟩ | ⟨-, hf⟩
    · cases hf
      exact frM_rfl
    · obtain ⟨v21, e2, hf⟩ := jbind hf
      replace e2 := (jcv_o e2).2
      replace hf := jite hf
      rcases hf with ⟨-, hf⟩ | ⟨-, hf⟩
      · exact (frM_le (ih M hf) (by decide) (by decide))
      · obtain ⟨v30, e3, hf⟩ := jbind hf
        replace e3 := (jcv_o e3).2
        obtain ⟨p34, e4, hf⟩ := jbind hf
        have r4 := oc_gR e4
        rw [M.1] at r4
        cases r4
        obtain ⟨v38, e5, hf⟩ := jbind hf
        replace hf := jite hf
        rcases hf with ⟨-, hf⟩ | ⟨-, hf⟩
        · exact (frM_le (ih M hf) (by decide) (by decide))
        · exact (frM_le (ih M hf) (by decide) (by decide))
theorem FQ_X12_beyond {n : Nat} {a0 : Nat} {h : jH} {q : Int32 × jH} (M : mS (oc h) a0) (hf : F_X12_beyond n a0 h = some q) : frM a0 [] [0] (oc h) (oc q.2) := by
  unfold F_X12_beyond at hf
  obtain ⟨h2, e1, hf⟩ := jbind hf
  have f1 : frM a0 [] [0] (oc h) (oc h2) := by rw [(oc_pf e1).1]; exact frM_f (by decide)
  have m1 := mS_fr M f1 (by decide) (by decide)
  exact (frM_tr f1 (frM_le (FQ_X12_beyond_9 m1 hf) (by decide) (by decide)))
theorem FQ_X12_twins_19 {n : Nat} {rc9 : Nat → Int32 → Int32 → jH → Option (Int32 × jH)} (hrc9 : ∀ {z0 : Nat} {z1 : Int32} {z2 : Int32} {h : jH} {q : Int32 × jH}, mS (oc h) z0 → rc9 z0 z1 z2 h = some q → frM z0 [] [] (oc h) (oc q.2)) {k : Nat} : ∀ {a0 : Nat} {x1 : Int32} {x2 : Int32} {x3 : Int32} {h : jH} {q : Int32 × jH}, mS (oc h) a0 → F_X12_twins_19 n rc9 k a0 x1 x2 x3 h = some q → frM a0 [] [] (oc h) (oc q.2) := by
  induction k with
  | zero =>
    intro a0 x1 x2 x3 h q M hf
    cases hf
  | succ k ih =>
    intro a0 x1 x2 x3 h q M hf
    replace hf : F_X12_twins_19_b n rc9 (F_X12_twins_19 n rc9 k) a0 x1 x2 x3 h = some q := hf
    unfold F_X12_twins_19_b at hf
    replace hf := jite hf
    rcases hf with ⟨-, hf⟩ | ⟨-, hf⟩
    · exact (frM_le (hrc9 M hf) (by decide) (by decide))
    · obtain ⟨v28, e1, hf⟩ := jbind hf
      replace e1 := (jcv_o e1).2
      replace hf := jite hf
      rcases hf with ⟨-, hf⟩ | ⟨-, hf⟩
      · exact (frM_le (ih M hf) (by decide) (by decide))
      · exact (frM_le (ih M hf) (by decide) (by decide))
theorem FQ_X12_twins_9 {n : Nat} {k : Nat} : ∀ {a0 : Nat} {x1 : Int32} {x2 : Int32} {h : jH} {q : Int32 × jH}, mS (oc h) a0 → F_X12_twins_9 n k a0 x1 x2 h = some q → frM a0 [] [] (oc h) (oc q.2) := by
  induction k with
  | zero =>
    intro a0 x1 x2 h q M hf
    cases hf
  | succ k ih =>
    intro a0 x1 x2 h q M hf
    replace hf : F_X12_twins_9_b n (F_X12_twins_9 n k) a0 x1 x2 h = some q := hf
    unfold F_X12_twins_9_b at hf
    obtain ⟨v11, e1, hf⟩ := jbind hf
    replace e1 := (jcv_o e1).2
    replace hf := jite hf
    rcases hf with ⟨-, hf⟩ | ⟨-, hf⟩
    · cases hf
      exact frM_rfl
    · exact (frM_le (FQ_X12_twins_19 ih M hf) (by decide) (by decide))
theorem FQ_X12_twins {n : Nat} {a0 : Nat} {h : jH} {q : Int32 × jH} (M : mS (oc h) a0) (hf : F_X12_twins n a0 h = some q) : frM a0 [] [0] (oc h) (oc q.2) := by
  unfold F_X12_twins at hf
  obtain ⟨h2, e1, hf⟩ := jbind hf
  have f1 : frM a0 [] [0] (oc h) (oc h2) := by rw [(oc_pf e1).1]; exact frM_f (by decide)
  have m1 := mS_fr M f1 (by decide) (by decide)
  exact (frM_tr f1 (frM_le (FQ_X12_twins_9 m1 hf) (by decide) (by decide)))
theorem FQ_X12_count {n : Nat} {a0 : Nat} {x1 : Int32} {h : jH} {q : Int32 × jH} (M : mS (oc h) a0) (hf : F_X12_count n a0 x1 h = some q) : frM a0 [] [0] (oc h) (oc q.2) := by
  unfold F_X12_count at hf
  obtain ⟨h2, e1, hf⟩ := jbind hf
  have f1 : frM a0 [] [0] (oc h) (oc h2) := by rw [(oc_pf e1).1]; exact frM_f (by decide)
  have m1 := mS_fr M f1 (by decide) (by decide)
  replace hf := jite hf
  rcases hf with ⟨-, hf⟩ | ⟨-, hf⟩
  · obtain ⟨p41, e2, hf⟩ := jbind hf
    have r2 := oc_gR e2
    rw [m1.1] at r2
    cases r2
    obtain ⟨v45, e3, hf⟩ := jbind hf
    replace hf := jite hf
    rcases hf with ⟨-, hf⟩ | ⟨-, hf⟩
    · obtain ⟨p51, e4, hf⟩ := jbind hf
      have r4 := oc_gR e4
      rw [m1.1] at r4
      cases r4
      obtain ⟨v57, e5, hf⟩ := jbind hf
      cases hf
      exact f1
    · cases hf
      exact f1
  · replace hf := jite hf
    rcases hf with ⟨-, hf⟩ | ⟨-, hf⟩
    · obtain ⟨p64, e6, hf⟩ := jbind hf
      have r6 := oc_gR e6
      rw [m1.1] at r6
      cases r6
      obtain ⟨v69, e7, hf⟩ := jbind hf
      cases hf
      exact f1
    · replace hf := jite hf
      rcases hf with ⟨-, hf⟩ | ⟨-, hf⟩
      · obtain ⟨v72, e8, hf⟩ := jbind hf
        cases hf
        exact f1
      · obtain ⟨v80, e9, hf⟩ := jbind hf
        replace hf := jite hf
        rcases hf with ⟨-, hf⟩ | ⟨-, hf⟩
        · cases hf
          exact f1
        · obtain ⟨p87, e10, hf⟩ := jbind hf
          have r10 := oc_gR e10
          rw [m1.1] at r10
          cases r10
          obtain ⟨v91, e11, hf⟩ := jbind hf
          cases hf
          exact f1
end
section
/-! what asks only: class and reference stay alike -/
/-- the cells that a question may change -/
def qrc (x a k : Nat) : Prop := (a = x + 1 ∧ 4 ≤ k ∧ k ≤ 6) ∨ (a = x + 13 ∧ k = 5) ∨ a = x + 18 ∨ (a = x + 21 ∧ 5 ≤ k) ∨ (x + 22 ≤ a ∧ a ≤ x + 25) ∨ (a = x + 26 ∧ 1 ≤ k) ∨ a = x + 27 ∨ (a = x + 36 ∧ 2 ≤ k) ∨ (a = x + 37 ∧ 4 ≤ k) ∨ a = x + 38 ∨ a = x + 39 ∨ a = x + 41 ∨ a = x + 44 ∨ (x + 48 ≤ a ∧ a ≤ x + 51) ∨ (a = x + 40 ∧ (k = 0 ∨ (9 ≤ k ∧ k ≤ 11) ∨ k = 18))
theorem eq_qry {x nx r L L2 : Nat} {W : jWd} {h h3 : jH} (E : eqS x nx r L W h) (f : ∀ a k : Nat, ¬ qrc x a k → oc h3 a k = oc h a k) (hz : h.1 ≤ h3.1) (hw2 : wl (oc h3) (x + 40) = W) (T2 : oi (oc h3) (x + 1) 6 = nI L2 ∧ oi (oc h3) (x + 40) 9 = nI L2 ∧ L2 ≤ 400) : eqS x nx r L2 W h3 := by
  obtain ⟨⟨e0, e1, e3, e8, e36, e19, ⟨t0, t1, t2, t3⟩, s1, s2, s3, s4, s5, s8, s15, s17, s19, s20, s21⟩, ⟨n1, n2, n3, n4, n5, n6, S, P, A⟩, ⟨R, -, K, LE, LK, LB⟩, ⟨l1, l2, l3, l4, I⟩⟩ := E
  have g : ∀ a k : Nat, ¬ qrc x a k → oi (oc h3) a k = oi (oc h) a k := fun a k z => by unfold oi; rw [f a k z]
  have c : ∀ k : Nat, oc h3 x k = oc h x k := fun k => f _ _ (by unfold qrc; omega)
  have m : ∀ k : Nat, k = 1 ∨ k = 2 ∨ k = 3 ∨ k = 4 ∨ k = 5 ∨ k = 8 ∨ k = 15 ∨ k = 17 ∨ k = 19 ∨ k = 20 ∨ k = 21 → oc h3 (x + 40) k = oc h (x + 40) k := fun k z => f _ _ (by unfold qrc; omega)
  have t : ∀ k : Nat, k ≤ 3 → oc h3 (x + 1) k = oc h (x + 1) k := fun k z => f _ _ (by unfold qrc; omega)
  obtain ⟨q1, q2⟩ := slot_keep (O2 := oc h3) (z2 := h3.1) (fun a k z => f a k (by unfold qrc; omega)) (by omega) S P
  obtain ⟨⟨u1, u2, u3, u4, u5, u6⟩, ⟨v1, v2, v3⟩, ⟨w1, w2, w3⟩, ⟨y1, y2, y3, y4, y5⟩, ⟨o0, o1, o2, o3, o4, o5⟩, ⟨k0, k1, k2, k3, k4⟩⟩ := I.1
  have d : ∀ k : Nat, k ≤ 4 → oc h3 (x + 21) k = oc h (x + 21) k := fun k z => f _ _ (by unfold qrc; omega)
  have e : ∀ k : Nat, k ≤ 4 → oc h3 (x + 28) k = oc h (x + 28) k := fun k z => f _ _ (by unfold qrc; omega)
  have S3 : rdrS (oc h3) x := ⟨⟨(c _).trans u1, (c _).trans u2, (c _).trans u3, (c _).trans u4, (c _).trans u5, (c _).trans u6⟩,
    ⟨(f _ _ (by unfold qrc; omega)).trans v1, (f _ _ (by unfold qrc; omega)).trans v2, (f _ _ (by unfold qrc; omega)).trans v3⟩, ⟨(f _ _ (by unfold qrc; omega)).trans w1, (f _ _ (by unfold qrc; omega)).trans w2, (f _ _ (by unfold qrc; omega)).trans w3⟩,
    ⟨(f _ _ (by unfold qrc; omega)).trans y1, (f _ _ (by unfold qrc; omega)).trans y2, (f _ _ (by unfold qrc; omega)).trans y3, (f _ _ (by unfold qrc; omega)).trans y4, (f _ _ (by unfold qrc; omega)).trans y5⟩,
    ⟨(d _ (by omega)).trans o0, (d _ (by omega)).trans o1, (d _ (by omega)).trans o2, (d _ (by omega)).trans o3, (d _ (by omega)).trans o4, (f _ _ (by unfold qrc; omega)).trans o5⟩,
    ⟨(e _ (by omega)).trans k0, (e _ (by omega)).trans k1, (e _ (by omega)).trans k2, (e _ (by omega)).trans k3, (e _ (by omega)).trans k4⟩⟩
  have F3 : oi (oc h3) x 12 = oi (oc h3) (x + 40) 14 := by rw [g _ _ (by unfold qrc; omega), g _ _ (by unfold qrc; omega)]; exact I.2.1
  have I3 : imE (oc h3) h3.1 x := im_k2 (O := oc h) (z := h.1) (fun a k z => f a k (by unfold qrc; omega)) (fun s d hs e => Or.inl (by rw [← f (x + 20) s (by unfold qrc; omega)]; exact e)) (by omega) S3 F3 I
  have A3 : actE (oc h3) x (x + 40) r nx := by
    intro j hj
    obtain ⟨d, V, b1, b2, b3, b4, b5⟩ := A j hj
    have l : x + 52 < d := by
      rcases S ((nx + 11 - j) % 12) (by omega) with q | ⟨d2, q, q1, q2, q3⟩
      · rw [q] at b1; cases b1
      · rw [q] at b1; cases b1; exact q2
    exact ⟨d, V, (f _ _ (by unfold qrc; omega)).trans b1, rodE_fr b2 (fun a k h1 h2 => f _ _ (by unfold qrc; omega)), b3, fun k hk => (b4 k hk).trans (g _ _ (by unfold qrc; omega)).symm, b5.trans (g _ _ (by unfold qrc; omega)).symm⟩
  refine ⟨⟨(c _).trans e0, (c _).trans e1, (c _).trans e3, (c _).trans e8, (f _ _ (by unfold qrc; omega)).trans e36, (f _ _ (by unfold qrc; omega)).trans e19, ⟨(t _ (by omega)).trans t0, (t _ (by omega)).trans t1, (t _ (by omega)).trans t2, (t _ (by omega)).trans t3⟩,
    (m _ (by omega)).trans s1, (m _ (by omega)).trans s2, (m _ (by omega)).trans s3, (m _ (by omega)).trans s4, (m _ (by omega)).trans s5, (m _ (by omega)).trans s8, (m _ (by omega)).trans s15, (m _ (by omega)).trans s17, (m _ (by omega)).trans s19, (m _ (by omega)).trans s20, (m _ (by omega)).trans s21⟩,
    ⟨(g _ _ (by unfold qrc; omega)).trans n1, n2, by rw [g _ _ (by unfold qrc; omega)]; exact n3, (g _ _ (by unfold qrc; omega)).trans n4, n5, by omega, q1, q2, A3⟩,
    ⟨rodE_fr R (fun a k h1 h2 => f _ _ (by unfold qrc; omega)), hw2, K, lawE_fr LE (fun a k h1 h2 h3 => f _ _ (by unfold qrc; omega)), LK, LB⟩, ⟨T2.1, T2.2.1, T2.2.2, fun i hi => ?_, I3⟩⟩
  rw [g _ _ (by unfold qrc; omega), g _ _ (by unfold qrc; omega)]
  exact l4 i hi
/-- the tape stands as it was -/
theorem eq_qr0 {x nx r L : Nat} {W : jWd} {h h3 : jH} (E : eqS x nx r L W h) (f : ∀ a k : Nat, ¬ (qrc x a k ∧ a ≠ x + 1 ∧ ¬ (a = x + 40 ∧ 9 ≤ k ∧ k ≤ 11)) → oc h3 a k = oc h a k) (hz : h.1 ≤ h3.1) (hw2 : wl (oc h3) (x + 40) = W) : eqS x nx r L W h3 := by
  have E' := E
  obtain ⟨-, -, -, ⟨l1, l2, l3, -, -⟩⟩ := E'
  refine eq_qry E (fun a k z => f a k (fun y => z y.1)) hz hw2 ⟨?_, ?_, l3⟩
  · unfold oi at l1 ⊢; rw [f _ _ (by omega)]; exact l1
  · unfold oi at l2 ⊢; rw [f _ _ (by omega)]; exact l2
/-- nothing but scratch cells of the reference changed, the world not at all -/
theorem eq_ask {x nx r L : Nat} {W : jWd} {h h3 : jH} {cs fs : List Nat} (E : eqS x nx r L W h) (F : frM (x + 40) cs fs (oc h) (oc h3)) (hc : ∀ c ∈ cs, c = 4 ∨ (8 ≤ c ∧ c ≤ 11)) (hf : ∀ k ∈ fs, k = 0 ∨ k = 18) (hz : h.1 ≤ h3.1) : eqS x nx r L W h3 := by
  have f : ∀ a k : Nat, ¬ (a = x + 44 ∨ (x + 48 ≤ a ∧ a ≤ x + 51) ∨ (a = x + 40 ∧ (k = 0 ∨ k = 18))) → oc h3 a k = oc h a k := fun a k z => F a k (fun c h z2 => by have := hc c h; omega) (fun e z2 => by have := hf k z2; omega)
  refine eq_qr0 E (fun a k z => f a k (by unfold qrc at z; omega)) hz ?_
  rw [← E.2.2.1.2.1]
  funext k
  show oi _ _ _ = oi _ _ _
  unfold oi
  rw [f _ _ (by omega)]
end
