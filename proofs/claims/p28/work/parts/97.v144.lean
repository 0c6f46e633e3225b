/-! conditions, the reference -/
def gPr (b : Nat → Int32) (L m : Nat) (T : Nat → Int32 × Int32) (st : Nat → Nat) (w c : Nat) (g : Nat → jH → Option (Int32 × jH)) : Prop :=
  ∀ (a0 k : Nat) (W : jWd) (s dp F : Nat) (h : jH) (q : Int32 × jH), rr (oc h) a0 b L st m k W s dp → dp ≤ 6 → 4 * m + c ≤ F + 4 * k → g a0 h = some q → lwR a0 b L st m h q.1 q.2 W s dp (rdG T F w dp k)
theorem rdG_0 {T : Nat → Int32 × Int32} {F dp k : Nat} : rdG T (F + 1) 0 dp k = sqP (rdG T F 2 dp k) (fun j => rdG T F 4 dp j) := by
  conv => lhs; unfold rdG
  exact if_pos rfl
theorem rdG_2 {T : Nat → Int32 × Int32} {F dp k : Nat} : rdG T (F + 1) 2 dp k = sqP (rdG T F 1 dp k) (fun j => rdG T F 3 dp j) := by
  conv => lhs; unfold rdG
  rw [if_neg (by decide), if_pos rfl]
theorem rdG_3 {T : Nat → Int32 × Int32} {F dp k : Nat} : rdG T (F + 1) 3 dp k = (if (T k).1 = 12 then sqP (rdG T F 1 dp (k + 1)) (fun j => sqP (.inl (j, [(16, 0)])) (fun i => rdG T F 3 dp i)) else .inl (k, [])) := by
  conv => lhs; unfold rdG
  rw [if_neg (by decide), if_neg (by decide), if_pos rfl]
theorem rdG_4 {T : Nat → Int32 × Int32} {F dp k : Nat} : rdG T (F + 1) 4 dp k = (if (T k).1 = 13 then sqP (rdG T F 2 dp (k + 1)) (fun j => sqP (.inl (j, [(17, 0)])) (fun i => rdG T F 4 dp i)) else .inl (k, [])) := by
  conv => lhs; unfold rdG
  rw [if_neg (by decide), if_neg (by decide), if_neg (by decide), if_pos rfl]
theorem rdG_1 {T : Nat → Int32 × Int32} {F dp k : Nat} : rdG T (F + 1) 1 dp k = (if (T k).1 = 40 then (if dp = 6 then .inr k else sqP (rdG T F 0 (dp + 1) (k + 1)) (fun j => if (T j).1 = 41 then .inl (j + 1, []) else .inr j))
    else if (T k).1 = 11 then (if dp = 6 then .inr k else sqP (rdG T F 1 (dp + 1) (k + 1)) (fun j => .inl (j, [(15, 0)])))
    else if 7 ≤ (T k).1.toInt ∧ (T k).1.toInt ≤ 10 then .inl (k + 1, [((T k).1, 0)])
    else sqP (rdSum T F k) (fun j => if (T j).1 = 60 then sqP (rdSum T F (j + 1)) (fun i => .inl (i, [(13, 0)])) else if (T j).1 = 62 then sqP (rdSum T F (j + 1)) (fun i => .inl (i, [(14, 0)])) else .inr j)) := by
  conv => lhs; unfold rdG
  rw [if_neg (by decide), if_neg (by decide), if_neg (by decide), if_neg (by decide)]
theorem rr_dp {O O2 : jO} {x L m k s dp dp2 : Nat} {b : Nat → Int32} {st : Nat → Nat} {W : jWd} (R : rr O x b L st m k W s dp) (e : O2 = u2 O x 13 (.int (nI dp2))) : rr O2 x b L st m k W s dp2 := by
  obtain ⟨R, a1, a2, a3, a4, a5, a6⟩ := R
  have f : frM x [] [13] O O2 := by rw [e]; exact frM_f (by decide)
  exact ⟨rc_fr R f (by decide) (by decide) (by decide) (by decide) (by decide), (wl_f f (by decide)).trans a1, (frM_oi f (by decide) (by decide)).trans a2, by rw [e, oi_eq], a4, a5, a6⟩
theorem lwR_pre {x L m s dp : Nat} {b : Nat → Int32} {st : Nat → Nat} {h h2 h3 : jH} {v : Int32} {W : jWd} {r : jRd} (f : frQ x (oc h) (oc h2)) (z : h2.1 = h.1) (B : lwR x b L st m h2 v h3 W s dp r) : lwR x b L st m h v h3 W s dp r := ⟨B.1, B.2.1, frQ_tr f B.2.2.1, B.2.2.2.trans z⟩
theorem E_X12_readAtom_173 {b : Nat → Int32} {L : Nat} {m : Nat} {st : Nat → Nat} {k : Nat} {W : jWd} {s : Nat} {dp : Nat} {n : Nat} {g0 : Nat → jH → Option (Int32 × jH)} {g1 : Nat → jH → Option (Int32 × jH)} {g2 : Nat → jH → Option (Int32 × jH)} {sa0 : Nat} {s1 : Int32} {h : jH} {q : Int32 × jH} (R : rr (oc h) sa0 b L st m k W s dp) (hs : s + 1 ≤ k) (hf : F_X12_readAtom_173 n g0 g1 g2 sa0 s1 h = some q) : lwR sa0 b L st m h q.1 q.2 W s dp (.inl (k, [(s1, 0)])) := by
  unfold F_X12_readAtom_173 at hf
  replace hf := jbind hf
  obtain ⟨h174, e1, hf⟩ := hf
  replace e1 := (jcv_o e1).2
  obtain ⟨R1, f1, z1⟩ := rr_em R hs e1
  cases hf
  -- leaf : ((1 : Int32), h174)
  exact lwR_l rfl rfl R1 f1 z1
theorem E_X12_readAtom_152 {b : Nat → Int32} {L : Nat} {m : Nat} {T : Nat → Int32 × Int32} {st : Nat → Nat} {en : Nat → Nat} {k : Nat} {W : jWd} {s : Nat} {dp : Nat} {F : Nat} {n : Nat} {g0 : Nat → jH → Option (Int32 × jH)} {g1 : Nat → jH → Option (Int32 × jH)} {g2 : Nat → jH → Option (Int32 × jH)} {a0 : Nat} {x1 : Int32} {h : jH} {q : Int32 × jH} (H : tkE b L m T st en) (R : rr (oc h) a0 b L st m k W s dp) (hs : s + 1 ≤ k) (hF : m < k + 1 + F) (hf : F_X12_readAtom_152 n g0 g1 g2 a0 x1 h = some q) : lwR a0 b L st m h q.1 q.2 W s dp (sqP (rdSum T F k) (fun i => .inl (i, [(if x1 = 0 then 14 else 13, 0)]))) := by
  unfold F_X12_readAtom_152 at hf
  replace hf := jbind hf
  obtain ⟨q153, e1, hf⟩ := hf
  replace e1 := (jcv_o e1).2
  have A := E_X12_readSum H R hF e1
  replace hf := jite hf
  rcases hf with ⟨c2, hf⟩ | ⟨c2, hf⟩
  · skip
    cases hf
    -- leaf 0: ((0 : Int32), q153.2)
    rcases hA : rdSum T F k with d | f
    · exact absurd (c2.symm.trans (A.1 d hA).1) (by decide)
    rw [c2] at A
    rw [← hA]
    exact lwR_sr A hA
  · skip
    replace hf := jite hf
    rcases hf with ⟨c3, hf⟩ | ⟨c3, hf⟩
    · skip
      -- leaf 10: F_X12_readAtom_173 n g0 g1 g2 a0 (14 : Int32) q153.2
      rcases hA : rdSum T F k with d | f
      rotate_left
      · exact absurd (A.2.1 f hA).1 c2
      obtain ⟨-, R4⟩ := A.1 d hA
      obtain ⟨p1, p2, p3, p4⟩ := sum_i H hA
      rw [← hA]
      refine lwR_sq hA A.2.2.1 A.2.2.2 ?_
      rw [if_pos c3]
      exact E_X12_readAtom_173 R4 (by omega) hf
    · skip
      -- leaf 11: F_X12_readAtom_173 n g0 g1 g2 a0 (13 : Int32) q153.2
      rcases hA : rdSum T F k with d | f
      rotate_left
      · exact absurd (A.2.1 f hA).1 c2
      obtain ⟨-, R4⟩ := A.1 d hA
      obtain ⟨p1, p2, p3, p4⟩ := sum_i H hA
      rw [← hA]
      refine lwR_sq hA A.2.2.1 A.2.2.2 ?_
      rw [if_neg c3]
      exact E_X12_readAtom_173 R4 (by omega) hf
theorem E_X12_readAtom {b : Nat → Int32} {L : Nat} {m : Nat} {T : Nat → Int32 × Int32} {st : Nat → Nat} {en : Nat → Nat} {k : Nat} {W : jWd} {s : Nat} {dp : Nat} {F : Nat} {n : Nat} {g0 : Nat → jH → Option (Int32 × jH)} {g1 : Nat → jH → Option (Int32 × jH)} {g2 : Nat → jH → Option (Int32 × jH)} {a0 : Nat} {h : jH} {q : Int32 × jH} (H : tkE b L m T st en) (G0 : gPr b L m T st 0 3 g0) (G1 : gPr b L m T st 1 1 g1) (R : rr (oc h) a0 b L st m k W s dp) (hd : dp ≤ 6) (hF : 4 * m + 1 ≤ F + 4 * k) (hf : F_X12_readAtom n g0 g1 g2 a0 h = some q) : lwR a0 b L st m h q.1 q.2 W s dp (rdG T F 1 dp k) := by
  unfold F_X12_readAtom at hf
  have g1x := G1
  have km9 := R.2.2.2.2.2.1
  obtain ⟨F, rfl⟩ : ∃ F2, F = F2 + 1 := ⟨F - 1, by omega⟩
  replace hf := jbind hf
  obtain ⟨q3, e1, hf⟩ := hf
  replace e1 := (jcv_o e1).2
  obtain ⟨d1, g1, f1, z1⟩ := T_sign (c := 40) H (by unfold sgn; decide) R.1 e1
  replace hf := jite hf
  rcases hf with ⟨c2, hf⟩ | ⟨c2, hf⟩
  · skip
    replace hf := jbind hf
    obtain ⟨q59, e3, hf⟩ := hf
    replace e3 := (jcv_o e3).2
    rcases d1 with ⟨w, -⟩ | ⟨-, t1, y1⟩
    · exact absurd (c2.symm.trans w) (by decide)
    have R2 := rr_fr R f1 y1 (Nat.le_refl _) km9
    obtain ⟨d3, g3, f3, z3⟩ := T_passes (w := 11) H (by decide) R2.1 e3
    replace hf := jite hf
    rcases hf with ⟨c4, hf⟩ | ⟨c4, hf⟩
    · skip
      replace hf := jbind hf
      obtain ⟨q115, e5, hf⟩ := hf
      replace e5 := (jcv_o e5).2
      rcases d3 with ⟨w, -⟩ | ⟨-, t3, y3⟩
      · exact absurd (c4.symm.trans w) (by decide)
      have R4 := rr_fr R2 f3 y3 (Nat.le_refl _) km9
      obtain ⟨d5, f5, z5⟩ := E_X12_readTag H R4 e5
      have f15 : frQ a0 (oc h) (oc q115.2) := frQ_tr (fr2 f1) (frQ_tr (fr2 f3) f5)
      have z15 : q115.2.1 = h.1 := z5.trans (z3.trans z1)
      replace hf := jite hf
      rcases hf with ⟨c6, hf⟩ | ⟨c6, hf⟩
      · skip
        replace hf := jbind hf
        obtain ⟨q124, e7, hf⟩ := hf
        replace e7 := (jcv_o e7).2
        rcases d5 with ⟨-, -, w, -⟩ | ⟨nt, -, R6⟩
        · exact absurd (c6.symm.trans w) (by decide)
        have A := lwR_pre f15 z15 (E_X12_readSum (F := F) H R6 (by omega) e7)
        have E := (rdG_1 (T := T) (F := F) (dp := dp) (k := k)).trans ((if_neg t1).trans ((if_neg t3).trans (if_neg nt)))
        replace hf := jite hf
        rcases hf with ⟨c8, hf⟩ | ⟨c8, hf⟩
        · skip
          cases hf
          -- leaf 0000: ((0 : Int32), q124.2)
          rcases hA : rdSum T F k with d | f
          · exact absurd (c8.symm.trans (A.1 d hA).1) (by decide)
          rw [c8] at A
          rw [E]
          exact lwR_sr A hA
        · skip
          replace hf := jbind hf
          obtain ⟨q135, e9, hf⟩ := hf
          replace e9 := (jcv_o e9).2
          rcases hA : rdSum T F k with d | f
          rotate_left
          · exact absurd (A.2.1 f hA).1 c8
          obtain ⟨-, R8⟩ := A.1 d hA
          obtain ⟨p1, p2, p3, p4⟩ := sum_i H hA
          have sk := R.2.2.2.2.1
          obtain ⟨d9, g9, f9, z9⟩ := T_sign (c := 60) H (by unfold sgn; decide) R8.1 e9
          replace hf := jite hf
          rcases hf with ⟨c10, hf⟩ | ⟨c10, hf⟩
          · skip
            replace hf := jbind hf
            obtain ⟨q146, e11, hf⟩ := hf
            replace e11 := (jcv_o e11).2
            rcases d9 with ⟨w, -⟩ | ⟨-, t9, y9⟩
            · exact absurd (c10.symm.trans w) (by decide)
            have R10 := rr_fr R8 f9 y9 (Nat.le_refl _) p2
            obtain ⟨d11, g11, f11, z11⟩ := T_sign (c := 62) H (by unfold sgn; decide) R10.1 e11
            replace hf := jite hf
            rcases hf with ⟨c12, hf⟩ | ⟨c12, hf⟩
            · skip
              cases hf
              -- leaf 000100: ((0 : Int32), q146.2)
              rcases d11 with ⟨w, -⟩ | ⟨-, t11, y11⟩
              · exact absurd (c12.symm.trans w) (by decide)
              rw [E]
              refine lwR_sq hA A.2.2.1 A.2.2.2 ?_
              rw [if_neg t9, if_neg t11]
              exact lwR_r rfl rfl g11 (frQ_tr (fr2 f9) (fr2 f11)) (z11.trans z9)
            · skip
              -- leaf 000101: F_X12_readAtom_152 n g0 g1 g2 a0 q135.1 q146.2
              rcases d11 with ⟨-, t11, y11⟩ | ⟨w, -⟩
              rotate_left
              · exact absurd w c12
              have km2 := tk_m H (k := d.1) (by rw [t11]; decide)
              have R11 := rr_fr R10 f11 y11 (Nat.le_succ _) km2
              have B := E_X12_readAtom_152 (F := F) H R11 (by omega) (by omega) hf
              rw [if_pos c10] at B
              rw [E]
              refine lwR_sq hA A.2.2.1 A.2.2.2 ?_
              rw [if_neg t9, if_pos t11]
              exact lwR_pre (frQ_tr (fr2 f9) (fr2 f11)) (z11.trans z9) B
          · skip
            -- leaf 00011: F_X12_readAtom_152 n g0 g1 g2 a0 q135.1 q135.2
            rcases d9 with ⟨-, t9, y9⟩ | ⟨w, -⟩
            rotate_left
            · exact absurd w c10
            have km2 := tk_m H (k := d.1) (by rw [t9]; decide)
            have R11 := rr_fr R8 f9 y9 (Nat.le_succ _) km2
            have B := E_X12_readAtom_152 (F := F) H R11 (by omega) (by omega) hf
            rw [if_neg c10] at B
            rw [E]
            refine lwR_sq hA A.2.2.1 A.2.2.2 ?_
            rw [if_pos t9]
            exact lwR_pre (fr2 f9) z9 B
      · skip
        cases hf
        -- leaf 001: ((1 : Int32), q115.2)
        rcases d5 with ⟨ta, tb, -, R6⟩ | ⟨-, w, -⟩
        rotate_left
        · exact absurd w c6
        exact lwR_l ((rdG_1 (T := T) (F := F) (dp := dp) (k := k)).trans ((if_neg t1).trans ((if_neg t3).trans (if_pos ⟨ta, tb⟩)))) rfl R6 f15 z15
    · skip
      replace hf := jbind hf
      obtain ⟨v66, e13, hf⟩ := hf
      have r13 := oc_gI e13
      subst r13
      clear e13
      rcases d3 with ⟨-, t3, y3⟩ | ⟨w, -⟩
      rotate_left
      · exact absurd w c4
      have km := tk_m H (k := k) (by rw [t3]; decide)
      have R22 := rr_fr R2 f3 y3 (Nat.le_succ _) km
      have d6 : oi (oc q59.2) a0 13 = nI dp := R22.2.2.2.1
      replace hf := jite hf
      rcases hf with ⟨c14, hf⟩ | ⟨c14, hf⟩
      · skip
        cases hf
        -- leaf 010: ((0 : Int32), q59.2)
        rw [d6, show (6 : Int32) = nI 6 from rfl, nI_eq (by omega) (by omega)] at c14
        exact lwR_r ((rdG_1 (T := T) (F := F) (dp := dp) (k := k)).trans ((if_neg t1).trans ((if_pos t3).trans (if_pos c14)))) rfl g3 (frQ_tr (fr2 f1) (fr2 f3)) (z3.trans z1)
      · skip
        replace hf := jbind hf
        obtain ⟨v78, e15, hf⟩ := hf
        have r15 := oc_gI e15
        subst r15
        clear e15
        replace hf := jbind hf
        obtain ⟨h83, e16, hf⟩ := hf
        obtain ⟨o16, z16⟩ := oc_pf e16
        clear e16
        replace hf := jbind hf
        obtain ⟨q87, e17, hf⟩ := hf
        replace e17 := (jcv_o e17).2
        rw [d6, show (6 : Int32) = nI 6 from rfl, nI_eq (by omega) (by omega)] at c14
        have R25 : rr (oc h83) a0 b L st m (k + 1) W s (dp + 1) := rr_dp R22 (by rw [o16, d6, nI_1])
        have A := G1 a0 (k + 1) W s (dp + 1) F h83 q87 R25 (by omega) (by omega) e17
        have fA : frQ a0 (oc h) (oc h83) := frQ_tr (fr2 f1) (frQ_tr (fr2 f3) (by rw [o16]; exact frQ_f (by decide)))
        have zA : h83.1 = h.1 := z16.trans (z3.trans z1)
        have E := (rdG_1 (T := T) (F := F) (dp := dp) (k := k)).trans ((if_neg t1).trans ((if_pos t3).trans (if_neg c14)))
        replace hf := jite hf
        rcases hf with ⟨c18, hf⟩ | ⟨c18, hf⟩
        · skip
          cases hf
          -- leaf 0110: ((0 : Int32), q87.2)
          rcases hA : rdG T F 1 (dp + 1) (k + 1) with d | f
          · exact absurd (c18.symm.trans (A.1 d hA).1) (by decide)
          obtain ⟨v9, g9⟩ := A.2.1 f hA
          rw [E]
          exact lwR_r (sq_r hA) rfl g9 (frQ_tr fA A.2.2.1) (A.2.2.2.trans zA)
        · skip
          replace hf := jbind hf
          obtain ⟨v97, e19, hf⟩ := hf
          have r19 := oc_gI e19
          subst r19
          clear e19
          rcases hA : rdG T F 1 (dp + 1) (k + 1) with d | f
          rotate_left
          · exact absurd (A.2.1 f hA).1 c18
          obtain ⟨-, R28⟩ := A.1 d hA
          have gi := g_i H F (by omega) hA
          have sk := R.2.2.2.2.1
          replace hf := jbind hf
          obtain ⟨h102, e20, hf⟩ := hf
          obtain ⟨o20, z20⟩ := oc_pf e20
          clear e20
          replace hf := jbind hf
          obtain ⟨h109, e21, hf⟩ := hf
          replace e21 := (jcv_o e21).2
          have R20 : rr (oc h102) a0 b L st m d.1 (emW W s d.2) (s + d.2.length) dp := rr_dp R28 (by rw [o20, R28.2.2.2.1, nI_pred])
          obtain ⟨R21, f21, z21⟩ := rr_em R20 (by omega) e21
          cases hf
          -- leaf 0111: ((1 : Int32), h109)
          rw [E]
          refine lwR_sq hA (frQ_tr fA (frQ_tr A.2.2.1 (by rw [o20]; exact frQ_f (by decide)))) (z20.trans (A.2.2.2.trans zA)) ?_
          exact lwR_l rfl rfl R21 f21 z21
  · skip
    replace hf := jbind hf
    obtain ⟨v10, e22, hf⟩ := hf
    have r22 := oc_gI e22
    subst r22
    clear e22
    rcases d1 with ⟨-, t1, y1⟩ | ⟨w, -⟩
    rotate_left
    · exact absurd w c2
    have km := tk_m H (k := k) (by rw [t1]; decide)
    have R22 := rr_fr R f1 y1 (Nat.le_succ _) km
    have d6 : oi (oc q3.2) a0 13 = nI dp := R22.2.2.2.1
    replace hf := jite hf
    rcases hf with ⟨c23, hf⟩ | ⟨c23, hf⟩
    · skip
      cases hf
      -- leaf 10: ((0 : Int32), q3.2)
      rw [d6, show (6 : Int32) = nI 6 from rfl, nI_eq (by omega) (by omega)] at c23
      exact lwR_r ((rdG_1 (T := T) (F := F) (dp := dp) (k := k)).trans ((if_pos t1).trans (if_pos c23))) rfl g1 (fr2 f1) z1
    · skip
      replace hf := jbind hf
      obtain ⟨v22, e24, hf⟩ := hf
      have r24 := oc_gI e24
      subst r24
      clear e24
      replace hf := jbind hf
      obtain ⟨h27, e25, hf⟩ := hf
      obtain ⟨o25, z25⟩ := oc_pf e25
      clear e25
      replace hf := jbind hf
      obtain ⟨q31, e26, hf⟩ := hf
      replace e26 := (jcv_o e26).2
      rw [d6, show (6 : Int32) = nI 6 from rfl, nI_eq (by omega) (by omega)] at c23
      have R25 : rr (oc h27) a0 b L st m (k + 1) W s (dp + 1) := rr_dp R22 (by rw [o25, d6, nI_1])
      have A := G0 a0 (k + 1) W s (dp + 1) F h27 q31 R25 (by omega) (by omega) e26
      have fA : frQ a0 (oc h) (oc h27) := frQ_tr (fr2 f1) (by rw [o25]; exact frQ_f (by decide))
      have zA : h27.1 = h.1 := z25.trans z1
      have E := (rdG_1 (T := T) (F := F) (dp := dp) (k := k)).trans ((if_pos t1).trans (if_neg c23))
      replace hf := jite hf
      rcases hf with ⟨c27, hf⟩ | ⟨c27, hf⟩
      · skip
        cases hf
        -- leaf 110: ((0 : Int32), q31.2)
        rcases hA : rdG T F 0 (dp + 1) (k + 1) with d | f
        · exact absurd (c27.symm.trans (A.1 d hA).1) (by decide)
        obtain ⟨v9, g9⟩ := A.2.1 f hA
        rw [E]
        exact lwR_r (sq_r hA) rfl g9 (frQ_tr fA A.2.2.1) (A.2.2.2.trans zA)
      · skip
        replace hf := jbind hf
        obtain ⟨v41, e28, hf⟩ := hf
        have r28 := oc_gI e28
        subst r28
        clear e28
        rcases hA : rdG T F 0 (dp + 1) (k + 1) with d | f
        rotate_left
        · exact absurd (A.2.1 f hA).1 c27
        obtain ⟨-, R28⟩ := A.1 d hA
        have gi := g_i H F (by omega) hA
        have sk := R.2.2.2.2.1
        replace hf := jbind hf
        obtain ⟨h46, e29, hf⟩ := hf
        obtain ⟨o29, z29⟩ := oc_pf e29
        clear e29
        replace hf := jbind hf
        obtain ⟨q52, e30, hf⟩ := hf
        replace e30 := (jcv_o e30).2
        have R29 : rr (oc h46) a0 b L st m d.1 (emW W s d.2) (s + d.2.length) dp := rr_dp R28 (by rw [o29, R28.2.2.2.1, nI_pred])
        obtain ⟨d30, g30, f30, z30⟩ := T_sign (c := 41) H (by unfold sgn; decide) R29.1 e30
        replace hf := jite hf
        rcases hf with ⟨c31, hf⟩ | ⟨c31, hf⟩
        · skip
          cases hf
          -- leaf 1110: (q52.1, q52.2)
          rw [E]
          refine lwR_sq hA (frQ_tr fA (frQ_tr A.2.2.1 (by rw [o29]; exact frQ_f (by decide)))) (z29.trans (A.2.2.2.trans zA)) ?_
          rcases d30 with ⟨v30, t30, y30⟩ | ⟨v30, t30, y30⟩
          · rw [if_pos t30]
            exact lwR_nl rfl v30 (rr_fr R29 f30 y30 (Nat.le_succ _) (tk_m H (by rw [t30]; decide))) (fr2 f30) z30
          · rw [if_neg t30]
            exact lwR_r rfl v30 g30 (fr2 f30) z30
        · skip
          cases hf
