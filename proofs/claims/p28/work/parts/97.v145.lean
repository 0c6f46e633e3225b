/-! conditions joined, the reference -/
theorem E_X12_readAllOf_9 {n : Nat} {g0 : Nat → jH → Option (Int32 × jH)} {g1 : Nat → jH → Option (Int32 × jH)} {g2 : Nat → jH → Option (Int32 × jH)} {b : Nat → Int32} {L : Nat} {m : Nat} {T : Nat → Int32 × Int32} {st : Nat → Nat} {en : Nat → Nat} {dp : Nat} (H : tkE b L m T st en) (G : gPr b L m T st 1 1 g1) (hd : dp ≤ 6) : ∀ (k : Nat) {a0 : Nat} {h : jH} {q : Int32 × jH} (F : Nat) (k0 : Nat) (W : jWd) (s : Nat) (R : rr (oc h) a0 b L st m k0 W s dp) (hF : 4 * m + 1 ≤ F + 4 * k0), F_X12_readAllOf_9 n g0 g1 g2 k a0 h = some q → lwR a0 b L st m h q.1 q.2 W s dp (rdG T F 3 dp k0)
  | 0, a0, h, q, F, k0, W, s, R, hF, hf => by cases hf
  | k + 1, a0, h, q, F, k0, W, s, R, hF, hf => by
    replace hf : F_X12_readAllOf_9_b n g0 g1 g2 (F_X12_readAllOf_9 n g0 g1 g2 k) a0 h = some q := hf
    unfold F_X12_readAllOf_9_b at hf
    have km9 := R.2.2.2.2.2.1
    obtain ⟨F, rfl⟩ : ∃ F2, F = F2 + 1 := ⟨F - 1, by omega⟩
    replace hf := jbind hf
    obtain ⟨q12, e1, hf⟩ := hf
    replace e1 := (jcv_o e1).2
    obtain ⟨d1, g1, f1, z1⟩ := T_passes (w := 12) H (by decide) R.1 e1
    replace hf := jite hf
    rcases hf with ⟨c2, hf⟩ | ⟨c2, hf⟩
    · skip
      cases hf
      -- leaf 0: ((1 : Int32), q12.2)
      rcases d1 with ⟨w, -⟩ | ⟨-, t1, y1⟩
      · exact absurd (c2.symm.trans w) (by decide)
      exact lwR_nl ((rdG_3 (T := T) (F := F) (dp := dp) (k := k0)).trans (if_neg t1)) rfl (rr_fr R f1 y1 (Nat.le_refl _) km9) (fr2 f1) z1
    · skip
      replace hf := jbind hf
      obtain ⟨q19, e3, hf⟩ := hf
      replace e3 := (jcv_o e3).2
      rcases d1 with ⟨-, t1, y1⟩ | ⟨w, -⟩
      rotate_left
      · exact absurd w c2
      have km := tk_m H (k := k0) (by rw [t1]; decide)
      have R2 := rr_fr R f1 y1 (Nat.le_succ _) km
      have A := G a0 (k0 + 1) W s dp F q12.2 q19 R2 hd (by omega) e3
      have E := (rdG_3 (T := T) (F := F) (dp := dp) (k := k0)).trans (if_pos t1)
      replace hf := jite hf
      rcases hf with ⟨c4, hf⟩ | ⟨c4, hf⟩
      · skip
        cases hf
        -- leaf 10: ((0 : Int32), q19.2)
        rcases hA : rdG T F 1 dp (k0 + 1) with d | f
        · exact absurd (c4.symm.trans (A.1 d hA).1) (by decide)
        obtain ⟨v9, g9⟩ := A.2.1 f hA
        rw [E]
        exact lwR_r (sq_r hA) rfl g9 (frQ_tr (fr2 f1) A.2.2.1) (A.2.2.2.trans z1)
      · skip
        replace hf := jbind hf
        obtain ⟨h31, e5, hf⟩ := hf
        replace e5 := (jcv_o e5).2
        rcases hA : rdG T F 1 dp (k0 + 1) with d | f
        rotate_left
        · exact absurd (A.2.1 f hA).1 c4
        obtain ⟨-, R4⟩ := A.1 d hA
        have gi := g_i H F km hA
        have sk := R.2.2.2.2.1
        obtain ⟨R5, f5, z5⟩ := rr_em R4 (by omega) e5
        -- leaf 11: rc9 a0 h31
        have B := E_X12_readAllOf_9 H G hd k F d.1 _ _ R5 (by omega) hf
        rw [E]
        exact lwR_sq hA (frQ_tr (fr2 f1) A.2.2.1) (A.2.2.2.trans z1) (lwR_sq (f := fun i => rdG T F 3 dp i) (d := (d.1, [(16, 0)])) rfl f5 z5 B)
theorem E_X12_readAllOf {b : Nat → Int32} {L : Nat} {m : Nat} {T : Nat → Int32 × Int32} {st : Nat → Nat} {en : Nat → Nat} {k : Nat} {W : jWd} {s : Nat} {dp : Nat} {F : Nat} {n : Nat} {g0 : Nat → jH → Option (Int32 × jH)} {g1 : Nat → jH → Option (Int32 × jH)} {g2 : Nat → jH → Option (Int32 × jH)} {a0 : Nat} {h : jH} {q : Int32 × jH} (H : tkE b L m T st en) (G1 : gPr b L m T st 1 1 g1) (R : rr (oc h) a0 b L st m k W s dp) (hd : dp ≤ 6) (hF : 4 * m + 2 ≤ F + 4 * k) (hf : F_X12_readAllOf n g0 g1 g2 a0 h = some q) : lwR a0 b L st m h q.1 q.2 W s dp (rdG T F 2 dp k) := by
  unfold F_X12_readAllOf at hf
  have km9 := R.2.2.2.2.2.1
  obtain ⟨F, rfl⟩ : ∃ F2, F = F2 + 1 := ⟨F - 1, by omega⟩
  replace hf := jbind hf
  obtain ⟨q1, e1, hf⟩ := hf
  replace e1 := (jcv_o e1).2
  have A := G1 a0 k W s dp F h q1 R hd (by omega) e1
  replace hf := jite hf
  rcases hf with ⟨c2, hf⟩ | ⟨c2, hf⟩
  · skip
    cases hf
    -- leaf 0: ((0 : Int32), q1.2)
    rcases hA : rdG T F 1 dp k with d | f
    · exact absurd (c2.symm.trans (A.1 d hA).1) (by decide)
    rw [c2] at A
    rw [rdG_2]
    exact lwR_sr A hA
  · skip
    -- leaf 1: F_X12_readAllOf_9 n g0 g1 g2 n a0 q1.2
    rcases hA : rdG T F 1 dp k with d | f
    rotate_left
    · exact absurd (A.2.1 f hA).1 c2
    obtain ⟨-, R4⟩ := A.1 d hA
    have gi := g_i H F km9 hA
    have gi4 := gi.2.2.2 (by decide)
    rw [rdG_2]
    exact lwR_sq hA A.2.2.1 A.2.2.2 (E_X12_readAllOf_9 H G1 hd n F d.1 _ _ R4 (by omega) hf)
theorem E_X12_readCond_9 {n : Nat} {g0 : Nat → jH → Option (Int32 × jH)} {g1 : Nat → jH → Option (Int32 × jH)} {g2 : Nat → jH → Option (Int32 × jH)} {b : Nat → Int32} {L : Nat} {m : Nat} {T : Nat → Int32 × Int32} {st : Nat → Nat} {en : Nat → Nat} {dp : Nat} (H : tkE b L m T st en) (G : gPr b L m T st 2 2 g2) (hd : dp ≤ 6) : ∀ (k : Nat) {a0 : Nat} {h : jH} {q : Int32 × jH} (F : Nat) (k0 : Nat) (W : jWd) (s : Nat) (R : rr (oc h) a0 b L st m k0 W s dp) (hF : 4 * m + 1 ≤ F + 4 * k0), F_X12_readCond_9 n g0 g1 g2 k a0 h = some q → lwR a0 b L st m h q.1 q.2 W s dp (rdG T F 4 dp k0)
  | 0, a0, h, q, F, k0, W, s, R, hF, hf => by cases hf
  | k + 1, a0, h, q, F, k0, W, s, R, hF, hf => by
    replace hf : F_X12_readCond_9_b n g0 g1 g2 (F_X12_readCond_9 n g0 g1 g2 k) a0 h = some q := hf
    unfold F_X12_readCond_9_b at hf
    have km9 := R.2.2.2.2.2.1
    obtain ⟨F, rfl⟩ : ∃ F2, F = F2 + 1 := ⟨F - 1, by omega⟩
    replace hf := jbind hf
    obtain ⟨q12, e1, hf⟩ := hf
    replace e1 := (jcv_o e1).2
    obtain ⟨d1, g1, f1, z1⟩ := T_passes (w := 13) H (by decide) R.1 e1
    replace hf := jite hf
    rcases hf with ⟨c2, hf⟩ | ⟨c2, hf⟩
    · skip
      cases hf
      -- leaf 0: ((1 : Int32), q12.2)
      rcases d1 with ⟨w, -⟩ | ⟨-, t1, y1⟩
      · exact absurd (c2.symm.trans w) (by decide)
      exact lwR_nl ((rdG_4 (T := T) (F := F) (dp := dp) (k := k0)).trans (if_neg t1)) rfl (rr_fr R f1 y1 (Nat.le_refl _) km9) (fr2 f1) z1
    · skip
      replace hf := jbind hf
      obtain ⟨q19, e3, hf⟩ := hf
      replace e3 := (jcv_o e3).2
      rcases d1 with ⟨-, t1, y1⟩ | ⟨w, -⟩
      rotate_left
      · exact absurd w c2
      have km := tk_m H (k := k0) (by rw [t1]; decide)
      have R2 := rr_fr R f1 y1 (Nat.le_succ _) km
      have A := G a0 (k0 + 1) W s dp F q12.2 q19 R2 hd (by omega) e3
      have E := (rdG_4 (T := T) (F := F) (dp := dp) (k := k0)).trans (if_pos t1)
      replace hf := jite hf
      rcases hf with ⟨c4, hf⟩ | ⟨c4, hf⟩
      · skip
        cases hf
        -- leaf 10: ((0 : Int32), q19.2)
        rcases hA : rdG T F 2 dp (k0 + 1) with d | f
        · exact absurd (c4.symm.trans (A.1 d hA).1) (by decide)
        obtain ⟨v9, g9⟩ := A.2.1 f hA
        rw [E]
        exact lwR_r (sq_r hA) rfl g9 (frQ_tr (fr2 f1) A.2.2.1) (A.2.2.2.trans z1)
      · skip
        replace hf := jbind hf
        obtain ⟨h31, e5, hf⟩ := hf
        replace e5 := (jcv_o e5).2
        rcases hA : rdG T F 2 dp (k0 + 1) with d | f
        rotate_left
        · exact absurd (A.2.1 f hA).1 c4
        obtain ⟨-, R4⟩ := A.1 d hA
        have gi := g_i H F km hA
        have sk := R.2.2.2.2.1
        obtain ⟨R5, f5, z5⟩ := rr_em R4 (by omega) e5
        -- leaf 11: rc9 a0 h31
        have B := E_X12_readCond_9 H G hd k F d.1 _ _ R5 (by omega) hf
        rw [E]
        exact lwR_sq hA (frQ_tr (fr2 f1) A.2.2.1) (A.2.2.2.trans z1) (lwR_sq (f := fun i => rdG T F 4 dp i) (d := (d.1, [(17, 0)])) rfl f5 z5 B)
theorem E_X12_readCond {b : Nat → Int32} {L : Nat} {m : Nat} {T : Nat → Int32 × Int32} {st : Nat → Nat} {en : Nat → Nat} {k : Nat} {W : jWd} {s : Nat} {dp : Nat} {F : Nat} {n : Nat} {g0 : Nat → jH → Option (Int32 × jH)} {g1 : Nat → jH → Option (Int32 × jH)} {g2 : Nat → jH → Option (Int32 × jH)} {a0 : Nat} {h : jH} {q : Int32 × jH} (H : tkE b L m T st en) (G2 : gPr b L m T st 2 2 g2) (R : rr (oc h) a0 b L st m k W s dp) (hd : dp ≤ 6) (hF : 4 * m + 3 ≤ F + 4 * k) (hf : F_X12_readCond n g0 g1 g2 a0 h = some q) : lwR a0 b L st m h q.1 q.2 W s dp (rdG T F 0 dp k) := by
  unfold F_X12_readCond at hf
  have km9 := R.2.2.2.2.2.1
  obtain ⟨F, rfl⟩ : ∃ F2, F = F2 + 1 := ⟨F - 1, by omega⟩
  replace hf := jbind hf
  obtain ⟨q1, e1, hf⟩ := hf
  replace e1 := (jcv_o e1).2
  have A := G2 a0 k W s dp F h q1 R hd (by omega) e1
  replace hf := jite hf
  rcases hf with ⟨c2, hf⟩ | ⟨c2, hf⟩
  · skip
    cases hf
    -- leaf 0: ((0 : Int32), q1.2)
    rcases hA : rdG T F 2 dp k with d | f
    · exact absurd (c2.symm.trans (A.1 d hA).1) (by decide)
    rw [c2] at A
    rw [rdG_0]
    exact lwR_sr A hA
  · skip
    -- leaf 1: F_X12_readCond_9 n g0 g1 g2 n a0 q1.2
    rcases hA : rdG T F 2 dp k with d | f
    rotate_left
    · exact absurd (A.2.1 f hA).1 c2
    obtain ⟨-, R4⟩ := A.1 d hA
    have gi := g_i H F km9 hA
    have gi4 := gi.2.2.2 (by decide)
    rw [rdG_0]
    exact lwR_sq hA A.2.2.1 A.2.2.2 (E_X12_readCond_9 H G2 hd n F d.1 _ _ R4 (by omega) hf)
theorem R_MC {b : Nat → Int32} {L m : Nat} {T : Nat → Int32 × Int32} {st en : Nat → Nat} (H : tkE b L m T st en) {n : Nat} : ∀ d : Nat, gPr b L m T st 0 3 (FG_MC n d 0) ∧ gPr b L m T st 1 1 (FG_MC n d 1) ∧ gPr b L m T st 2 2 (FG_MC n d 2)
  | 0 => ⟨fun a0 k W s dp F h q R hd hF e => (by cases e), fun a0 k W s dp F h q R hd hF e => (by cases e), fun a0 k W s dp F h q R hd hF e => (by cases e)⟩
  | d + 1 => by
    obtain ⟨i0, i1, i2⟩ := R_MC H (n := n) d
    refine ⟨fun a0 k W s dp F h q R hd hF e => ?_, fun a0 k W s dp F h q R hd hF e => ?_, fun a0 k W s dp F h q R hd hF e => ?_⟩
    · have e2 : F_X12_readCond n (FG_MC n d 0) (FG_MC n d 1) (FG_MC n d 2) a0 h = some q := e
      exact E_X12_readCond H i2 R hd hF e2
    · have e2 : F_X12_readAtom n (FG_MC n d 0) (FG_MC n d 1) (FG_MC n d 2) a0 h = some q := e
      exact E_X12_readAtom H i0 i1 R hd hF e2
    · have e2 : F_X12_readAllOf n (FG_MC n d 0) (FG_MC n d 1) (FG_MC n d 2) a0 h = some q := e
      exact E_X12_readAllOf H i1 R hd hF e2
