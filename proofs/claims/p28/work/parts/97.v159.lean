theorem FQ_X12_throwsIf {n : Nat} {a0 : Nat} {x1 : Int32} {x2 : Int32} {h : jH} {q : Int32 × jH} (M : mS (oc h) a0) (hf : F_X12_throwsIf n a0 x1 x2 h = some q) : frM a0 [] [0] (oc h) (oc q.2) := by
  unfold F_X12_throwsIf at hf
  replace hf := jite hf
  rcases hf with ⟨-, hf⟩ | ⟨-, hf⟩
  · replace hf := jite hf
    rcases hf with ⟨-, hf⟩ | ⟨-, hf⟩
    · cases hf
      exact frM_rfl
    · cases hf
  · obtain ⟨h6, e1, hf⟩ := jbind hf
    have f1 : frM a0 [] [0] (oc h) (oc h6) := by rw [(oc_pf e1).1]; exact frM_f (by decide)
    have m1 := mS_fr M f1 (by decide) (by decide)
    replace hf := jite hf
    rcases hf with ⟨-, hf⟩ | ⟨-, hf⟩
    · cases hf
      exact f1
    · cases hf
theorem FQ_X12_holdsLine_222 {n : Nat} {rc22 : Nat → Int32 → Int32 → Int32 → Int32 → jH → Option (Int32 × jH)} (hrc22 : ∀ {z0 : Nat} {z1 : Int32} {z2 : Int32} {z3 : Int32} {z4 : Int32} {h : jH} {q : Int32 × jH}, mS (oc h) z0 → rc22 z0 z1 z2 z3 z4 h = some q → frM z0 [8] [] (oc h) (oc q.2)) {a0 : Nat} {x2 : Int32} {x3 : Int32} {x4 : Int32} {x5 : Int32} {x6 : Int32} {x7 : Int32} {x8 : Int32} {s0 : Int32} {h : jH} {q : Int32 × jH} (M : mS (oc h) a0) (hf : F_X12_holdsLine_222 n rc22 a0 x2 x3 x4 x5 x6 x7 x8 s0 h = some q) : frM a0 [8] [] (oc h) (oc q.2) := by
  unfold F_X12_holdsLine_222 at hf
  obtain ⟨p225, e1, hf⟩ := jbind hf
  have r1 := oc_gR e1
  rw [M.2.2.2.2.2.2.2.1] at r1
  cases r1
  replace hf := jite hf
  rcases hf with ⟨-, hf⟩ | ⟨-, hf⟩
  · obtain ⟨h256, e2, hf⟩ := jbind hf
    have f2 : frM a0 [8] [] (oc h) (oc h256) := by rw [(oc_as e2).1]; exact frM_c (by decide)
    have m2 := mS_fr M f2 (by decide) (by decide)
    exact (frM_tr f2 (frM_le (hrc22 m2 hf) (by decide) (by decide)))
  · replace hf := jite hf
    rcases hf with ⟨-, hf⟩ | ⟨-, hf⟩
    · obtain ⟨h256, e3, hf⟩ := jbind hf
      have f3 : frM a0 [8] [] (oc h) (oc h256) := by rw [(oc_as e3).1]; exact frM_c (by decide)
      have m3 := mS_fr M f3 (by decide) (by decide)
      exact (frM_tr f3 (frM_le (hrc22 m3 hf) (by decide) (by decide)))
    · obtain ⟨h256, e4, hf⟩ := jbind hf
      have f4 : frM a0 [8] [] (oc h) (oc h256) := by rw [(oc_as e4).1]; exact frM_c (by decide)
      have m4 := mS_fr M f4 (by decide) (by decide)
      exact (frM_tr f4 (frM_le (hrc22 m4 hf) (by decide) (by decide)))
theorem FQ_X12_holdsLine_22 {n : Nat} {k : Nat} : ∀ {a0 : Nat} {x2 : Int32} {x3 : Int32} {x4 : Int32} {x5 : Int32} {h : jH} {q : Int32 × jH}, mS (oc h) a0 → F_X12_holdsLine_22 n k a0 x2 x3 x4 x5 h = some q → frM a0 [8] [] (oc h) (oc q.2) := by
  induction k with
  | zero =>
    intro a0 x2 x3 x4 x5 h q M hf
    cases hf
  | succ k ih =>
    intro a0 x2 x3 x4 x5 h q M hf
    replace hf : F_X12_holdsLine_22_b n (F_X12_holdsLine_22 n k) a0 x2 x3 x4 x5 h = some q := hf
    unfold F_X12_holdsLine_22_b at hf
    obtain ⟨p25, e1, hf⟩ := jbind hf
    have r1 := oc_gR e1
    rw [M.1] at r1
    cases r1
    obtain ⟨v32, e2, hf⟩ := jbind hf
    replace hf := jite hf
    rcases hf with ⟨-, hf⟩ | ⟨-, hf⟩
    · replace hf := jite hf
      rcases hf with ⟨-, hf⟩ | ⟨-, hf⟩
      · cases hf
        exact frM_rfl
      · obtain ⟨p268, e3, hf⟩ := jbind hf
        have r3 := oc_gR e3
        rw [M.2.2.2.2.2.2.2.1] at r3
        cases r3
        obtain ⟨v272, e4, hf⟩ := jbind hf
        replace hf := jite hf
        rcases hf with ⟨-, hf⟩ | ⟨-, hf⟩
        · cases hf
          exact frM_rfl
        · cases hf
          exact frM_rfl
    · obtain ⟨p37, e5, hf⟩ := jbind hf
      have r5 := oc_gR e5
      rw [M.1] at r5
      cases r5
      obtain ⟨v48, e6, hf⟩ := jbind hf
      replace hf := jite hf
      rcases hf with ⟨-, hf⟩ | ⟨-, hf⟩
      · replace hf := jite hf
        rcases hf with ⟨-, hf⟩ | ⟨-, hf⟩
        · obtain ⟨p100, e7, hf⟩ := jbind hf
          have r7 := oc_gR e7
          rw [M.2.2.2.2.2.2.2.1] at r7
          cases r7
          obtain ⟨p108, e8, hf⟩ := jbind hf
          have r8 := oc_gR e8
          rw [M.2.2.2.2.2.2.2.1] at r8
          cases r8
          obtain ⟨v114, e9, hf⟩ := jbind hf
          obtain ⟨h116, e10, hf⟩ := jbind hf
          have f10 : frM a0 [8] [] (oc h) (oc h116) := by rw [(oc_as e10).1]; exact frM_c (by decide)
          have m10 := mS_fr M f10 (by decide) (by decide)
          exact (frM_tr f10 (frM_le (ih m10 hf) (by decide) (by decide)))
        · obtain ⟨p124, e11, hf⟩ := jbind hf
          have r11 := oc_gR e11
          rw [M.2.2.2.2.2.2.2.1] at r11
          cases r11
          obtain ⟨v130, e12, hf⟩ := jbind hf
          obtain ⟨p134, e13, hf⟩ := jbind hf
          have r13 := oc_gR e13
          rw [M.2.2.2.2.2.2.2.1] at r13
          cases r13
          obtain ⟨v138, e14, hf⟩ := jbind hf
          replace hf := jite hf
          rcases hf with ⟨-, hf⟩ | ⟨-, hf⟩
          · replace hf := jite hf
            rcases hf with ⟨-, hf⟩ | ⟨-, hf⟩
            · exact (frM_le (FQ_X12_holdsLine_222 ih M hf) (by decide) (by decide))
            · exact (frM_le (FQ_X12_holdsLine_222 ih M hf) (by decide) (by decide))
          · replace hf := jite hf
            rcases hf with ⟨-, hf⟩ | ⟨-, hf⟩
            · replace hf := jite hf
              rcases hf with ⟨-, hf⟩ | ⟨-, hf⟩
              · exact (frM_le (FQ_X12_holdsLine_222 ih M hf) (by decide) (by decide))
              · exact (frM_le (FQ_X12_holdsLine_222 ih M hf) (by decide) (by decide))
            · replace hf := jite hf
              rcases hf with ⟨-, hf⟩ | ⟨-, hf⟩
              · replace hf := jite hf
                rcases hf with ⟨-, hf⟩ | ⟨-, hf⟩
                · exact (frM_le (FQ_X12_holdsLine_222 ih M hf) (by decide) (by decide))
                · exact (frM_le (FQ_X12_holdsLine_222 ih M hf) (by decide) (by decide))
              · replace hf := jite hf
                rcases hf with ⟨-, hf⟩ | ⟨-, hf⟩
                · exact (frM_le (FQ_X12_holdsLine_222 ih M hf) (by decide) (by decide))
                · exact (frM_le (FQ_X12_holdsLine_222 ih M hf) (by decide) (by decide))
      · obtain ⟨p59, e15, hf⟩ := jbind hf
        have r15 := oc_gR e15
        rw [M.2.2.2.2.2.2.2.1] at r15
        cases r15
        obtain ⟨p67, e16, hf⟩ := jbind hf
        have r16 := oc_gR e16
        rw [M.1] at r16
        cases r16
        obtain ⟨v80, e17, hf⟩ := jbind hf
        obtain ⟨v82, e18, hf⟩ := jbind hf
        replace e18 := (jcv_o e18).2
        obtain ⟨h85, e19, hf⟩ := jbind hf
        have f19 : frM a0 [8] [] (oc h) (oc h85) := by rw [(oc_as e19).1]; exact frM_c (by decide)
        have m19 := mS_fr M f19 (by decide) (by decide)
        exact (frM_tr f19 (frM_le (ih m19 hf) (by decide) (by decide)))
theorem FQ_X12_holdsLine {n : Nat} {a0 : Nat} {x1 : Int32} {x2 : Int32} {h : jH} {q : Int32 × jH} (M : mS (oc h) a0) (hf : F_X12_holdsLine n a0 x1 x2 h = some q) : frM a0 [8] [] (oc h) (oc q.2) := by
  unfold F_X12_holdsLine at hf
  obtain ⟨p12, e1, hf⟩ := jbind hf
  have r1 := oc_gR e1
  rw [M.1] at r1
  cases r1
  obtain ⟨v19, e2, hf⟩ := jbind hf
  exact (frM_le (FQ_X12_holdsLine_22 M hf) (by decide) (by decide))
theorem FQ_X12_sumOf_5 {n : Nat} {k : Nat} : ∀ {a0 : Nat} {x1 : Int32} {x2 : Int32} {x3 : Int32} {x4 : Int32} {h : jH} {q : Int32 × jH}, mS (oc h) a0 → F_X12_sumOf_5 n k a0 x1 x2 x3 x4 h = some q → frM a0 [8] [] (oc h) (oc q.2) := by
  induction k with
  | zero =>
    intro a0 x1 x2 x3 x4 h q M hf
    cases hf
  | succ k ih =>
    intro a0 x1 x2 x3 x4 h q M hf
    replace hf : F_X12_sumOf_5_b n (F_X12_sumOf_5 n k) a0 x1 x2 x3 x4 h = some q := hf
    unfold F_X12_sumOf_5_b at hf
    obtain ⟨p8, e1, hf⟩ := jbind hf
    have r1 := oc_gR e1
    rw [M.1] at r1
    cases r1
    obtain ⟨v14, e2, hf⟩ := jbind hf
    replace hf := jite hf
    rcases hf with ⟨-, hf⟩ | ⟨-, hf⟩
    · cases hf
      exact frM_rfl
    · obtain ⟨p19, e3, hf⟩ := jbind hf
      have r3 := oc_gR e3
      rw [M.1] at r3
      cases r3
      obtain ⟨v30, e4, hf⟩ := jbind hf
      replace hf := jite hf
      rcases hf with ⟨-, hf⟩ | ⟨-, hf⟩
      · obtain ⟨q39, e5, hf⟩ := jbind hf
        replace e5 := (jcv_o e5).2
        have f5 : frM a0 [8] [] (oc h) (oc q39.2) := frM_le (FQ_X12_holdsLine M e5) (by decide) (by decide)
        have m5 := mS_fr M f5 (by decide) (by decide)
        replace hf := jite hf
        rcases hf with ⟨-, hf⟩ | ⟨-, hf⟩
        · exact (frM_tr f5 (frM_le (ih m5 hf) (by decide) (by decide)))
        · obtain ⟨p47, e6, hf⟩ := jbind hf
          have r6 := oc_gR e6
          rw [m5.1] at r6
          cases r6
          obtain ⟨v60, e7, hf⟩ := jbind hf
          exact (frM_tr f5 (frM_le (ih m5 hf) (by decide) (by decide)))
      · exact (frM_le (ih M hf) (by decide) (by decide))
theorem FQ_X12_sumOf {n : Nat} {a0 : Nat} {x1 : Int32} {x2 : Int32} {h : jH} {q : Int32 × jH} (M : mS (oc h) a0) (hf : F_X12_sumOf n a0 x1 x2 h = some q) : frM a0 [8] [] (oc h) (oc q.2) := by
  unfold F_X12_sumOf at hf
  exact (frM_le (FQ_X12_sumOf_5 M hf) (by decide) (by decide))
theorem FQ_X12_byLaw {n : Nat} {a0 : Nat} {x1 : Int32} {x2 : Int32} {h : jH} {q : Int32 × jH} (M : mS (oc h) a0) (hf : F_X12_byLaw n a0 x1 x2 h = some q) : frM a0 [8] [] (oc h) (oc q.2) := by
  unfold F_X12_byLaw at hf
  obtain ⟨p1, e1, hf⟩ := jbind hf
  have r1 := oc_gR e1
  rw [M.1] at r1
  cases r1
  obtain ⟨v5, e2, hf⟩ := jbind hf
  replace hf := jite hf
  rcases hf with ⟨-, hf⟩ | ⟨-, hf⟩
  · obtain ⟨q13, e3, hf⟩ := jbind hf
    replace e3 := (jcv_o e3).2
    have f3 : frM a0 [8] [] (oc h) (oc q13.2) := frM_le (FQ_X12_sumOf M e3) (by decide) (by decide)
    have m3 := mS_fr M f3 (by decide) (by decide)
    cases hf
    exact f3
  · replace hf := jite hf
    rcases hf with ⟨-, hf⟩ | ⟨-, hf⟩
    · obtain ⟨p24, e4, hf⟩ := jbind hf
      have r4 := oc_gR e4
      rw [M.1] at r4
      cases r4
      obtain ⟨v28, e5, hf⟩ := jbind hf
      obtain ⟨v29, e6, hf⟩ := jbind hf
      replace e6 := (jcv_o e6).2
      replace hf := jite hf
      rcases hf with ⟨-, hf⟩ | ⟨-, hf⟩
      · cases hf
        exact frM_rfl
      · cases hf
        exact frM_rfl
    · replace hf := jite hf
      rcases hf with ⟨-, hf⟩ | ⟨-, hf⟩
      · cases hf
        exact frM_rfl
      · cases hf
        exact frM_rfl
theorem FQ_X12_ring_34 {n : Nat} {a0 : Nat} {x1 : Int32} {x2 : Int32} {sa0 : Nat} {s1 : Int32} {h : jH} {q : Int32 × jH} (hs : a0 = sa0) (M : mS (oc h) a0) (hf : F_X12_ring_34 n a0 x1 x2 sa0 s1 h = some q) : frM a0 [8] [0] (oc h) (oc q.2) := by
  unfold F_X12_ring_34 at hf
  subst hs
  obtain ⟨q35, e1, hf⟩ := jbind hf
  replace e1 := (jcv_o e1).2
  have f1 : frM a0 [8] [0] (oc h) (oc q35.2) := frM_le (FQ_X12_throwsIf M e1) (by decide) (by decide)
  have m1 := mS_fr M f1 (by decide) (by decide)
  replace hf := jite hf
  rcases hf with ⟨-, hf⟩ | ⟨-, hf⟩
  · replace hf := jite hf
    rcases hf with ⟨-, hf⟩ | ⟨-, hf⟩
    · obtain ⟨v86, e2, hf⟩ := jbind hf
      replace e2 := (jcv_o e2).2
      replace hf := jite hf
      rcases hf with ⟨-, hf⟩ | ⟨-, hf⟩
      · cases hf
        exact f1
      · obtain ⟨v98, e3, hf⟩ := jbind hf
        replace e3 := (jcv_o e3).2
        cases hf
        exact f1
    · replace hf := jite hf
      rcases hf with ⟨-, hf⟩ | ⟨-, hf⟩
      · obtain ⟨q105, e4, hf⟩ := jbind hf
        replace e4 := (jcv_o e4).2
        have f4 : frM a0 [8] [0] (oc q35.2) (oc q105.2) := frM_le (FQ_X12_byLaw m1 e4) (by decide) (by decide)
        have m4 := mS_fr m1 f4 (by decide) (by decide)
        cases hf
        exact (frM_tr f1 f4)
      · replace hf := jite hf
        rcases hf with ⟨-, hf⟩ | ⟨-, hf⟩
        · obtain ⟨q112, e5, hf⟩ := jbind hf
          replace e5 := (jcv_o e5).2
          have f5 : frM a0 [8] [0] (oc q35.2) (oc q112.2) := frM_le (FQ_X12_byLaw m1 e5) (by decide) (by decide)
          have m5 := mS_fr m1 f5 (by decide) (by decide)
          cases hf
          exact (frM_tr f1 f5)
        · replace hf := jite hf
          rcases hf with ⟨-, hf⟩ | ⟨-, hf⟩
          · obtain ⟨q119, e6, hf⟩ := jbind hf
            replace e6 := (jcv_o e6).2
            have f6 : frM a0 [8] [0] (oc q35.2) (oc q119.2) := frM_le (FQ_X12_byLaw m1 e6) (by decide) (by decide)
            have m6 := mS_fr m1 f6 (by decide) (by decide)
            cases hf
            exact (frM_tr f1 f6)
          · replace hf := jite hf
            rcases hf with ⟨-, hf⟩ | ⟨-, hf⟩
            · obtain ⟨v125, e7, hf⟩ := jbind hf
              replace e7 := (jcv_o e7).2
              cases hf
              exact f1
            · replace hf := jite hf
              rcases hf with ⟨-, hf⟩ | ⟨-, hf⟩
              · obtain ⟨v131, e8, hf⟩ := jbind hf
                replace e8 := (jcv_o e8).2
                cases hf
                exact f1
              · obtain ⟨v138, e9, hf⟩ := jbind hf
                replace e9 := (jcv_o e9).2
                cases hf
                exact f1
  · cases hf
    exact f1
theorem FQ_X12_ring {n : Nat} {a0 : Nat} {x1 : Int32} {x2 : Int32} {h : jH} {q : Int32 × jH} (M : mS (oc h) a0) (hf : F_X12_ring n a0 x1 x2 h = some q) : frM a0 [8] [0] (oc h) (oc q.2) := by
  unfold F_X12_ring at hf
  obtain ⟨h2, e1, hf⟩ := jbind hf
  have f1 : frM a0 [8] [0] (oc h) (oc h2) := by rw [(oc_pf e1).1]; exact frM_f (by decide)
  have m1 := mS_fr M f1 (by decide) (by decide)
  obtain ⟨v8, e2, hf⟩ := jbind hf
  replace e2 := (jcv_o e2).2
  obtain ⟨q12, e3, hf⟩ := jbind hf
  replace e3 := (jcv_o e3).2
  have f3 : frM a0 [8] [0] (oc h2) (oc q12.2) := frM_le (FQ_X12_throwsIf m1 e3) (by decide) (by decide)
  have m3 := mS_fr m1 f3 (by decide) (by decide)
  replace hf := jite hf
  rcases hf with ⟨-, hf⟩ | ⟨-, hf⟩
  · obtain ⟨v23, e4, hf⟩ := jbind hf
    replace hf := jite hf
    rcases hf with ⟨-, hf⟩ | ⟨-, hf⟩
    · exact (frM_tr (frM_tr f1 f3) (frM_le (FQ_X12_ring_34 rfl m3 hf) (by decide) (by decide)))
    · exact (frM_tr (frM_tr f1 f3) (frM_le (FQ_X12_ring_34 rfl m3 hf) (by decide) (by decide)))
  · cases hf
    exact (frM_tr f1 f3)
theorem FQ_X12_keepsAll_2 {n : Nat} {k : Nat} : ∀ {a0 : Nat} {x1 : Int32} {h : jH} {q : jH}, mS (oc h) a0 → F_X12_keepsAll_2 n k a0 x1 h = some q → frM a0 [4] [] (oc h) (oc q) := by
  induction k with
  | zero =>
    intro a0 x1 h q M hf
    cases hf
  | succ k ih =>
    intro a0 x1 h q M hf
    replace hf : F_X12_keepsAll_2_b n (F_X12_keepsAll_2 n k) a0 x1 h = some q := hf
    unfold F_X12_keepsAll_2_b at hf
    replace hf := jite hf
    rcases hf with ⟨-, hf⟩ | ⟨-, hf⟩
    · cases hf
      exact frM_rfl
    · obtain ⟨p10, e1, hf⟩ := jbind hf
      have r1 := oc_gR e1
      rw [M.2.2.2.1] at r1
      cases r1
      obtain ⟨p15, e2, hf⟩ := jbind hf
      have r2 := oc_gR e2
      rw [M.1] at r2
      cases r2
      obtain ⟨v19, e3, hf⟩ := jbind hf
      obtain ⟨h20, e4, hf⟩ := jbind hf
      have f4 : frM a0 [4] [] (oc h) (oc h20) := by rw [(oc_as e4).1]; exact frM_c (by decide)
      have m4 := mS_fr M f4 (by decide) (by decide)
      exact (frM_tr f4 (frM_le (ih m4 hf) (by decide) (by decide)))
theorem FQ_X12_keepsAll {n : Nat} {a0 : Nat} {h : jH} {q : jH} (M : mS (oc h) a0) (hf : F_X12_keepsAll n a0 h = some q) : frM a0 [4] [] (oc h) (oc q) := by
  unfold F_X12_keepsAll at hf
  exact (frM_le (FQ_X12_keepsAll_2 M hf) (by decide) (by decide))
theorem FQ_X12_pulls_29 {n : Nat} {a0 : Nat} {x4 : Int32} {h : jH} {q : Int32 × jH} (M : mS (oc h) a0) (hf : F_X12_pulls_29 n a0 x4 h = some q) : frM a0 [1] [] (oc h) (oc q.2) := by
  unfold F_X12_pulls_29 at hf
  obtain ⟨p30, e1, hf⟩ := jbind hf
  have r1 := oc_gR e1
  rw [M.1] at r1
  cases r1
  obtain ⟨p39, e2, hf⟩ := jbind hf
  have r2 := oc_gR e2
  rw [M.1] at r2
  cases r2
  obtain ⟨v44, e3, hf⟩ := jbind hf
  obtain ⟨v46, e4, hf⟩ := jbind hf
  obtain ⟨h53, e5, hf⟩ := jbind hf
  have f5 : frM a0 [1] [] (oc h) (oc h53) := by rw [(oc_as e5).1]; exact frM_c (by decide)
  have m5 := mS_fr M f5 (by decide) (by decide)
  cases hf
  exact f5
theorem FQ_X12_goesOne_52 {n : Nat} {rc10 : Nat → Int32 → Int32 → Int32 → jH → Option (Int32 × jH)} (hrc10 : ∀ {z0 : Nat} {z1 : Int32} {z2 : Int32} {z3 : Int32} {h : jH} {q : Int32 × jH}, mS (oc h) z0 → rc10 z0 z1 z2 z3 h = some q → frM z0 [1] [18] (oc h) (oc q.2)) {a0 : Nat} {x2 : Int32} {x3 : Int32} {x4 : Int32} {sa0 : Nat} {s1 : Int32} {s2 : Int32} {s3 : Int32} {h : jH} {q : Int32 × jH} (hs : sa0 = a0 + 1) (M : mS (oc h) a0) (hf : F_X12_goesOne_52 n rc10 a0 x2 x3 x4 sa0 s1 s2 s3 h = some q) : frM a0 [1] [18] (oc h) (oc q.2) := by
  unfold F_X12_goesOne_52 at hf
  subst hs
  obtain ⟨h53, e1, hf⟩ := jbind hf
  have f1 : frM a0 [1] [18] (oc h) (oc h53) := by rw [(oc_as e1).1]; exact frM_c (by decide)
  have m1 := mS_fr M f1 (by decide) (by decide)
  obtain ⟨v56, e2, hf⟩ := jbind hf
  obtain ⟨v63, e3, hf⟩ := jbind hf
  replace e3 := (jcv_o e3).2
  replace hf := jite hf
  rcases hf with ⟨-, hf⟩ | ⟨-, hf⟩
  · obtain ⟨h75, e4, hf⟩ := jbind hf
    have f4 : frM a0 [1] [18] (oc h53) (oc h75) := by rw [(oc_pf e4).1]; exact frM_f (by decide)
    have m4 := mS_fr m1 f4 (by decide) (by decide)
    exact (frM_tr (frM_tr f1 f4) (frM_le (hrc10 m4 hf) (by decide) (by decide)))
  · obtain ⟨h75, e5, hf⟩ := jbind hf
    have f5 : frM a0 [1] [18] (oc h53) (oc h75) := by rw [(oc_pf e5).1]; exact frM_f (by decide)
    have m5 := mS_fr m1 f5 (by decide) (by decide)
    exact (frM_tr (frM_tr f1 f5) (frM_le (hrc10 m5 hf) (by decide) (by decide)))
theorem FQ_X12_goesOne_10 {n : Nat} {k : Nat} : ∀ {a0 : Nat} {x2 : Int32} {x3 : Int32} {x4 : Int32} {h : jH} {q : Int32 × jH}, mS (oc h) a0 → F_X12_goesOne_10 n k a0 x2 x3 x4 h = some q → frM a0 [1] [18] (oc h) (oc q.2) := by
  induction k with
  | zero =>
    intro a0 x2 x3 x4 h q M hf
    cases hf
  | succ k ih =>
    intro a0 x2 x3 x4 h q M hf
    replace hf : F_X12_goesOne_10_b n (F_X12_goesOne_10 n k) a0 x2 x3 x4 h = some q := hf
    unfold F_X12_goesOne_10_b at hf
    obtain ⟨v13, e1, hf⟩ := jbind hf
    replace e1 := (jcv_o e1).2
    replace hf := jite hf
    rcases hf with ⟨-, hf⟩ | ⟨-, hf⟩
    · replace hf := jite hf
      rcases hf with ⟨-, hf⟩ | ⟨-, hf⟩
      · cases hf
        exact frM_rfl
      · cases hf
        exact frM_rfl
    · obtain ⟨v22, e2, hf⟩ := jbind hf
      replace hf := jite hf
      rcases hf with ⟨-, hf⟩ | ⟨-, hf⟩
      · exact (frM_le (ih M hf) (by decide) (by decide))
      · obtain ⟨p32, e3, hf⟩ := jbind hf
        have r3 := oc_gR e3
        rw [M.1] at r3
        cases r3
        obtain ⟨v38, e4, hf⟩ := jbind hf
        obtain ⟨v42, e5, hf⟩ := jbind hf
        replace hf := jite hf
        rcases hf with ⟨-, hf⟩ | ⟨-, hf⟩
        · exact (frM_le (FQ_X12_goesOne_52 ih rfl M hf) (by decide) (by decide))
        · exact (frM_le (FQ_X12_goesOne_52 ih rfl M hf) (by decide) (by decide))
theorem FQ_X12_goesOne {n : Nat} {a0 : Nat} {x1 : Int32} {x2 : Int32} {h : jH} {q : Int32 × jH} (M : mS (oc h) a0) (hf : F_X12_goesOne n a0 x1 x2 h = some q) : frM a0 [1] [18] (oc h) (oc q.2) := by
  unfold F_X12_goesOne at hf
  obtain ⟨v3, e1, hf⟩ := jbind hf
  replace e1 := (jcv_o e1).2
  exact (frM_le (FQ_X12_goesOne_10 M hf) (by decide) (by decide))
theorem FQ_X12_pulls_8 {n : Nat} {k : Nat} : ∀ {a0 : Nat} {x1 : Int32} {x2 : Int32} {x3 : Int32} {x4 : Int32} {h : jH} {q : Int32 × jH}, mS (oc h) a0 → F_X12_pulls_8 n k a0 x1 x2 x3 x4 h = some q → frM a0 [1] [18] (oc h) (oc q.2) := by
  induction k with
  | zero =>
    intro a0 x1 x2 x3 x4 h q M hf
    cases hf
  | succ k ih =>
    intro a0 x1 x2 x3 x4 h q M hf
    replace hf : F_X12_pulls_8_b n (F_X12_pulls_8 n k) a0 x1 x2 x3 x4 h = some q := hf
    unfold F_X12_pulls_8_b at hf
    replace hf := jite hf
    rcases hf with ⟨-, hf⟩ | ⟨-, hf⟩
    · exact (frM_le (FQ_X12_pulls_29 M hf) (by decide) (by decide))
    · obtain ⟨q17, e1, hf⟩ := jbind hf
      replace e1 := (jcv_o e1).2
      have f1 : frM a0 [1] [18] (oc h) (oc q17.2) := frM_le (FQ_X12_goesOne M e1) (by decide) (by decide)
      have m1 := mS_fr M f1 (by decide) (by decide)
      replace hf := jite hf
      rcases hf with ⟨-, hf⟩ | ⟨-, hf⟩
      · exact (frM_tr f1 (frM_le (FQ_X12_pulls_29 m1 hf) (by decide) (by decide)))
      · exact (frM_tr f1 (frM_le (ih m1 hf) (by decide) (by decide)))
theorem FQ_X12_pulls {n : Nat} {a0 : Nat} {x1 : Int32} {x2 : Int32} {x3 : Int32} {h : jH} {q : Int32 × jH} (M : mS (oc h) a0) (hf : F_X12_pulls n a0 x1 x2 x3 h = some q) : frM a0 [1] [18] (oc h) (oc q.2) := by
  unfold F_X12_pulls at hf
  obtain ⟨h2, e1, hf⟩ := jbind hf
  have f1 : frM a0 [1] [18] (oc h) (oc h2) := by rw [(oc_pf e1).1]; exact frM_f (by decide)
  have m1 := mS_fr M f1 (by decide) (by decide)
  exact (frM_tr f1 (frM_le (FQ_X12_pulls_8 m1 hf) (by decide) (by decide)))
theorem FQ_X12_bringsBack_2 {n : Nat} {k : Nat} : ∀ {a0 : Nat} {x1 : Int32} {h : jH} {q : jH}, mS (oc h) a0 → F_X12_bringsBack_2 n k a0 x1 h = some q → frM a0 [1] [] (oc h) (oc q) := by
  induction k with
  | zero =>
    intro a0 x1 h q M hf
    cases hf
  | succ k ih =>
    intro a0 x1 h q M hf
    replace hf : F_X12_bringsBack_2_b n (F_X12_bringsBack_2 n k) a0 x1 h = some q := hf
    unfold F_X12_bringsBack_2_b at hf
    replace hf := jite hf
    rcases hf with ⟨-, hf⟩ | ⟨-, hf⟩
    · cases hf
      exact frM_rfl
    · obtain ⟨p10, e1, hf⟩ := jbind hf
      have r1 := oc_gR e1
      rw [M.1] at r1
      cases r1
      obtain ⟨p15, e2, hf⟩ := jbind hf
      have r2 := oc_gR e2
      rw [M.2.2.2.1] at r2
      cases r2
      obtain ⟨v19, e3, hf⟩ := jbind hf
      obtain ⟨h20, e4, hf⟩ := jbind hf
      have f4 : frM a0 [1] [] (oc h) (oc h20) := by rw [(oc_as e4).1]; exact frM_c (by decide)
      have m4 := mS_fr M f4 (by decide) (by decide)
      exact (frM_tr f4 (frM_le (ih m4 hf) (by decide) (by decide)))
theorem FQ_X12_bringsBack {n : Nat} {a0 : Nat} {h : jH} {q : jH} (M : mS (oc h) a0) (hf : F_X12_bringsBack n a0 h = some q) : frM a0 [1] [] (oc h) (oc q) := by
  unfold F_X12_bringsBack at hf
  exact (frM_le (FQ_X12_bringsBack_2 M hf) (by decide) (by decide))
theorem FQ_X12_goes {n : Nat} {a0 : Nat} {x1 : Int32} {x2 : Int32} {h : jH} {q : Int32 × jH} (M : mS (oc h) a0) (hf : F_X12_goes n a0 x1 x2 h = some q) : frM a0 [1, 4] [0, 18] (oc h) (oc q.2) := by
  unfold F_X12_goes at hf
  obtain ⟨h2, e1, hf⟩ := jbind hf
  have f1 : frM a0 [1, 4] [0, 18] (oc h) (oc h2) := by rw [(oc_pf e1).1]; exact frM_f (by decide)
  have m1 := mS_fr M f1 (by decide) (by decide)
  obtain ⟨v8, e2, hf⟩ := jbind hf
  replace e2 := (jcv_o e2).2
  obtain ⟨q12, e3, hf⟩ := jbind hf
  replace e3 := (jcv_o e3).2
  have f3 : frM a0 [1, 4] [0, 18] (oc h2) (oc q12.2) := frM_le (FQ_X12_throwsIf m1 e3) (by decide) (by decide)
  have m3 := mS_fr m1 f3 (by decide) (by decide)
  replace hf := jite hf
  rcases hf with ⟨-, hf⟩ | ⟨-, hf⟩
  · obtain ⟨h21, e4, hf⟩ := jbind hf
    replace e4 := (jcv_o e4).2
    have f4 : frM a0 [1, 4] [0, 18] (oc q12.2) (oc h21) := frM_le (FQ_X12_keepsAll m3 e4) (by decide) (by decide)
    have m4 := mS_fr m3 f4 (by decide) (by decide)
    obtain ⟨q29, e5, hf⟩ := jbind hf
    replace e5 := (jcv_o e5).2
    have f5 : frM a0 [1, 4] [0, 18] (oc h21) (oc q29.2) := frM_le (FQ_X12_pulls m4 e5) (by decide) (by decide)
    have m5 := mS_fr m4 f5 (by decide) (by decide)
    obtain ⟨h34, e6, hf⟩ := jbind hf
    replace e6 := (jcv_o e6).2
    have f6 : frM a0 [1, 4] [0, 18] (oc q29.2) (oc h34) := frM_le (FQ_X12_bringsBack m5 e6) (by decide) (by decide)
    have m6 := mS_fr m5 f6 (by decide) (by decide)
    cases hf
    exact (frM_tr (frM_tr (frM_tr (frM_tr f1 f3) f4) f5) f6)
  · cases hf
    exact (frM_tr f1 f3)
theorem FQ_X12_with {n : Nat} {a0 : Nat} {x1 : Int32} {x2 : Int32} {h : jH} {q : Int32 × jH} (M : mS (oc h) a0) (hf : F_X12_with n a0 x1 x2 h = some q) : frM a0 [] [0] (oc h) (oc q.2) := by
  unfold F_X12_with at hf
  obtain ⟨h2, e1, hf⟩ := jbind hf
  have f1 : frM a0 [] [0] (oc h) (oc h2) := by rw [(oc_pf e1).1]; exact frM_f (by decide)
  have m1 := mS_fr M f1 (by decide) (by decide)
  obtain ⟨v8, e2, hf⟩ := jbind hf
  replace e2 := (jcv_o e2).2
  obtain ⟨q12, e3, hf⟩ := jbind hf
  replace e3 := (jcv_o e3).2
  have f3 : frM a0 [] [0] (oc h2) (oc q12.2) := frM_le (FQ_X12_throwsIf m1 e3) (by decide) (by decide)
  have m3 := mS_fr m1 f3 (by decide) (by decide)
  replace hf := jite hf
  rcases hf with ⟨-, hf⟩ | ⟨-, hf⟩
  · obtain ⟨v25, e4, hf⟩ := jbind hf
    replace e4 := (jcv_o e4).2
    cases hf
    exact (frM_tr f1 f3)
  · cases hf
    exact (frM_tr f1 f3)
theorem FQ_X12_would_60 {n : Nat} {a0 : Nat} {s0 : Int32} {h : jH} {q : Int32 × jH} (M : mS (oc h) a0) (hf : F_X12_would_60 n a0 s0 h = some q) : frM a0 [1] [] (oc h) (oc q.2) := by
  unfold F_X12_would_60 at hf
  obtain ⟨h63, e1, hf⟩ := jbind hf
  replace e1 := (jcv_o e1).2
  have f1 : frM a0 [1] [] (oc h) (oc h63) := frM_le (FQ_X12_bringsBack M e1) (by decide) (by decide)
  have m1 := mS_fr M f1 (by decide) (by decide)
  cases hf
  exact f1
theorem FQ_X12_would {n : Nat} {a0 : Nat} {x1 : Int32} {x2 : Int32} {x3 : Int32} {x4 : Int32} {h : jH} {q : Int32 × jH} (M : mS (oc h) a0) (hf : F_X12_would n a0 x1 x2 x3 x4 h = some q) : frM a0 [1, 4] [0, 18] (oc h) (oc q.2) := by
  unfold F_X12_would at hf
  obtain ⟨h2, e1, hf⟩ := jbind hf
  have f1 : frM a0 [1, 4] [0, 18] (oc h) (oc h2) := by rw [(oc_pf e1).1]; exact frM_f (by decide)
  have m1 := mS_fr M f1 (by decide) (by decide)
  obtain ⟨v8, e2, hf⟩ := jbind hf
  replace e2 := (jcv_o e2).2
  obtain ⟨q12, e3, hf⟩ := jbind hf
  replace e3 := (jcv_o e3).2
  have f3 : frM a0 [1, 4] [0, 18] (oc h2) (oc q12.2) := frM_le (FQ_X12_throwsIf m1 e3) (by decide) (by decide)
  have m3 := mS_fr m1 f3 (by decide) (by decide)
  replace hf := jite hf
  rcases hf with ⟨-, hf⟩ | ⟨-, hf⟩
  · obtain ⟨v20, e4, hf⟩ := jbind hf
    obtain ⟨q24, e5, hf⟩ := jbind hf
    replace e5 := (jcv_o e5).2
    have f5 : frM a0 [1, 4] [0, 18] (oc q12.2) (oc q24.2) := frM_le (FQ_X12_throwsIf m3 e5) (by decide) (by decide)
    have m5 := mS_fr m3 f5 (by decide) (by decide)
    replace hf := jite hf
    rcases hf with ⟨-, hf⟩ | ⟨-, hf⟩
    · obtain ⟨h33, e6, hf⟩ := jbind hf
      replace e6 := (jcv_o e6).2
      have f6 : frM a0 [1, 4] [0, 18] (oc q24.2) (oc h33) := frM_le (FQ_X12_keepsAll m5 e6) (by decide) (by decide)
      have m6 := mS_fr m5 f6 (by decide) (by decide)
      obtain ⟨q40, e7, hf⟩ := jbind hf
      replace e7 := (jcv_o e7).2
      have f7 : frM a0 [1, 4] [0, 18] (oc h33) (oc q40.2) := frM_le (FQ_X12_pulls m6 e7) (by decide) (by decide)
      have m7 := mS_fr m6 f7 (by decide) (by decide)
      replace hf := jite hf
      rcases hf with ⟨-, hf⟩ | ⟨-, hf⟩
      · obtain ⟨v57, e8, hf⟩ := jbind hf
        replace e8 := (jcv_o e8).2
        exact (frM_tr (frM_tr (frM_tr (frM_tr (frM_tr f1 f3) f5) f6) f7) (frM_le (FQ_X12_would_60 m7 hf) (by decide) (by decide)))
      · obtain ⟨v50, e9, hf⟩ := jbind hf
        exact (frM_tr (frM_tr (frM_tr (frM_tr (frM_tr f1 f3) f5) f6) f7) (frM_le (FQ_X12_would_60 m7 hf) (by decide) (by decide)))
    · cases hf
      exact (frM_tr (frM_tr f1 f3) f5)
  · cases hf
    exact (frM_tr f1 f3)
theorem FQ_X12_uses {n : Nat} {a0 : Nat} {h : jH} {q : jH} (M : mS (oc h) a0) (hf : F_X12_uses n a0 h = some q) : frM a0 [] [0, 9, 10, 11] (oc h) (oc q) := by
  unfold F_X12_uses at hf
  obtain ⟨h2, e1, hf⟩ := jbind hf
  have f1 : frM a0 [] [0, 9, 10, 11] (oc h) (oc h2) := by rw [(oc_pf e1).1]; exact frM_f (by decide)
  have m1 := mS_fr M f1 (by decide) (by decide)
  obtain ⟨v7, e2, hf⟩ := jbind hf
  obtain ⟨h10, e3, hf⟩ := jbind hf
  have f3 : frM a0 [] [0, 9, 10, 11] (oc h2) (oc h10) := by rw [(oc_pf e3).1]; exact frM_f (by decide)
  have m3 := mS_fr m1 f3 (by decide) (by decide)
  obtain ⟨h15, e4, hf⟩ := jbind hf
  have f4 : frM a0 [] [0, 9, 10, 11] (oc h10) (oc h15) := by rw [(oc_pf e4).1]; exact frM_f (by decide)
  have m4 := mS_fr m3 f4 (by decide) (by decide)
  obtain ⟨h20, e5, hf⟩ := jbind hf
  have f5 : frM a0 [] [0, 9, 10, 11] (oc h15) (oc h20) := by rw [(oc_pf e5).1]; exact frM_f (by decide)
  have m5 := mS_fr m4 f5 (by decide) (by decide)
  cases hf
  exact (frM_tr (frM_tr (frM_tr f1 f3) f4) f5)
theorem FQ_X12_areCaught_2 {n : Nat} {k : Nat} : ∀ {a0 : Nat} {x1 : Int32} {x2 : Int32} {h : jH} {q : jH}, mS (oc h) a0 → F_X12_areCaught_2 n k a0 x1 x2 h = some q → frM a0 [1] [] (oc h) (oc q) := by
  induction k with
  | zero =>
    intro a0 x1 x2 h q M hf
    cases hf
  | succ k ih =>
    intro a0 x1 x2 h q M hf
    replace hf : F_X12_areCaught_2_b n (F_X12_areCaught_2 n k) a0 x1 x2 h = some q := hf
    unfold F_X12_areCaught_2_b at hf
    obtain ⟨v4, e1, hf⟩ := jbind hf
    replace e1 := (jcv_o e1).2
    replace hf := jite hf
    rcases hf with ⟨-, hf⟩ | ⟨-, hf⟩
    · cases hf
      exact frM_rfl
    · obtain ⟨p11, e2, hf⟩ := jbind hf
      have r2 := oc_gR e2
      rw [M.1] at r2
      cases r2
      obtain ⟨v17, e3, hf⟩ := jbind hf
      obtain ⟨v22, e4, hf⟩ := jbind hf
      replace hf := jite hf
      rcases hf with ⟨-, hf⟩ | ⟨-, hf⟩
      · obtain ⟨h33, e5, hf⟩ := jbind hf
        have f5 : frM a0 [1] [] (oc h) (oc h33) := by rw [(oc_as e5).1]; exact frM_c (by decide)
        have m5 := mS_fr M f5 (by decide) (by decide)
        exact (frM_tr f5 (frM_le (ih m5 hf) (by decide) (by decide)))
      · obtain ⟨h33, e6, hf⟩ := jbind hf
        have f6 : frM a0 [1] [] (oc h) (oc h33) := by rw [(oc_as e6).1]; exact frM_c (by decide)
        have m6 := mS_fr M f6 (by decide) (by decide)
        exact (frM_tr f6 (frM_le (ih m6 hf) (by decide) (by decide)))
theorem FQ_X12_areCaught {n : Nat} {a0 : Nat} {x1 : Int32} {h : jH} {q : jH} (M : mS (oc h) a0) (hf : F_X12_areCaught n a0 x1 h = some q) : frM a0 [1] [] (oc h) (oc q) := by
  unfold F_X12_areCaught at hf
  exact (frM_le (FQ_X12_areCaught_2 M hf) (by decide) (by decide))
theorem FQ_X12_wentWith {n : Nat} {a0 : Nat} {x1 : Int32} {x2 : Int32} {x3 : Int32} {x4 : Int32} {h : jH} {q : Int32 × jH} (M : mS (oc h) a0) (hf : F_X12_wentWith n a0 x1 x2 x3 x4 h = some q) : frM a0 [1, 4] [18] (oc h) (oc q.2) := by
  unfold F_X12_wentWith at hf
  obtain ⟨h1, e1, hf⟩ := jbind hf
  replace e1 := (jcv_o e1).2
  have f1 : frM a0 [1, 4] [18] (oc h) (oc h1) := frM_le (FQ_X12_keepsAll M e1) (by decide) (by decide)
  have m1 := mS_fr M f1 (by decide) (by decide)
  obtain ⟨h6, e2, hf⟩ := jbind hf
  replace e2 := (jcv_o e2).2
  have f2 : frM a0 [1, 4] [18] (oc h1) (oc h6) := frM_le (FQ_X12_areCaught m1 e2) (by decide) (by decide)
  have m2 := mS_fr m1 f2 (by decide) (by decide)
  obtain ⟨q14, e3, hf⟩ := jbind hf
  replace e3 := (jcv_o e3).2
  have f3 : frM a0 [1, 4] [18] (oc h6) (oc q14.2) := frM_le (FQ_X12_pulls m2 e3) (by decide) (by decide)
  have m3 := mS_fr m2 f3 (by decide) (by decide)
  obtain ⟨h20, e4, hf⟩ := jbind hf
  replace e4 := (jcv_o e4).2
  have f4 : frM a0 [1, 4] [18] (oc q14.2) (oc h20) := frM_le (FQ_X12_bringsBack m3 e4) (by decide) (by decide)
  have m4 := mS_fr m3 f4 (by decide) (by decide)
  cases hf
  exact (frM_tr (frM_tr (frM_tr f1 f2) f3) f4)
theorem FQ_X12_fits_41 {n : Nat} {rc4 : Nat → Int32 → Int32 → Int32 → jH → Option (Int32 × jH)} (hrc4 : ∀ {z0 : Nat} {z1 : Int32} {z2 : Int32} {z3 : Int32} {h : jH} {q : Int32 × jH}, mS (oc h) z0 → rc4 z0 z1 z2 z3 h = some q → frM z0 [1, 4] [18] (oc h) (oc q.2)) {a0 : Nat} {x1 : Int32} {x3 : Int32} {sa0 : Nat} {s1 : Int32} {s2 : Int32} {s3 : Int32} {h : jH} {q : Int32 × jH} (hs : a0 = sa0) (M : mS (oc h) a0) (hf : F_X12_fits_41 n rc4 a0 x1 x3 sa0 s1 s2 s3 h = some q) : frM a0 [1, 4] [18] (oc h) (oc q.2) := by
  unfold F_X12_fits_41 at hf
  subst hs
  obtain ⟨p42, e1, hf⟩ := jbind hf
  have r1 := oc_gR e1
  rw [M.2.2.2.2.2.1] at r1
  cases r1
  obtain ⟨v48, e2, hf⟩ := jbind hf
  obtain ⟨q49, e3, hf⟩ := jbind hf
  replace e3 := (jcv_o e3).2
  have f3 : frM a0 [1, 4] [18] (oc h) (oc q49.2) := frM_le (FQ_X12_wentWith M e3) (by decide) (by decide)
  have m3 := mS_fr M f3 (by decide) (by decide)
  obtain ⟨p53, e4, hf⟩ := jbind hf
  have r4 := oc_gR e4
  rw [m3.2.2.2.2.2.1] at r4
  cases r4
  obtain ⟨v59, e5, hf⟩ := jbind hf
  replace hf := jite hf
  rcases hf with ⟨-, hf⟩ | ⟨-, hf⟩
  · exact (frM_tr f3 (frM_le (hrc4 m3 hf) (by decide) (by decide)))
  · exact (frM_tr f3 (frM_le (hrc4 m3 hf) (by decide) (by decide)))
theorem FQ_X12_fits_4 {n : Nat} {k : Nat} : ∀ {a0 : Nat} {x1 : Int32} {x2 : Int32} {x3 : Int32} {h : jH} {q : Int32 × jH}, mS (oc h) a0 → F_X12_fits_4 n k a0 x1 x2 x3 h = some q → frM a0 [1, 4] [18] (oc h) (oc q.2) := by
  induction k with
  | zero =>
    intro a0 x1 x2 x3 h q M hf
    cases hf
  | succ k ih =>
    intro a0 x1 x2 x3 h q M hf
    replace hf : F_X12_fits_4_b n (F_X12_fits_4 n k) a0 x1 x2 x3 h = some q := hf
    unfold F_X12_fits_4_b at hf
    obtain ⟨v6, e1, hf⟩ := jbind hf
    replace hf := jite hf
    rcases hf with ⟨-, hf⟩ | ⟨-, hf⟩
    · replace hf := jite hf
      rcases hf with ⟨-, hf⟩ | ⟨-, hf⟩
      · cases hf
        exact frM_rfl
      · cases hf
    · replace hf := jite hf
      rcases hf with ⟨-, hf⟩ | ⟨-, hf⟩
      · replace hf := jite hf
        rcases hf with ⟨-, hf⟩ | ⟨-, hf⟩
        · cases hf
          exact frM_rfl
        · cases hf
      · obtain ⟨p19, e2, hf⟩ := jbind hf
        have r2 := oc_gR e2
        rw [M.2.2.2.2.2.1] at r2
        cases r2
        obtain ⟨v23, e3, hf⟩ := jbind hf
        obtain ⟨p25, e4, hf⟩ := jbind hf
        have r4 := oc_gR e4
        rw [M.2.2.2.2.2.1] at r4
        cases r4
        obtain ⟨v31, e5, hf⟩ := jbind hf
        replace hf := jite hf
        rcases hf with ⟨-, hf⟩ | ⟨-, hf⟩
        · exact (frM_le (FQ_X12_fits_41 ih rfl M hf) (by decide) (by decide))
        · exact (frM_le (FQ_X12_fits_41 ih rfl M hf) (by decide) (by decide))
theorem FQ_X12_fits {n : Nat} {a0 : Nat} {x1 : Int32} {h : jH} {q : Int32 × jH} (M : mS (oc h) a0) (hf : F_X12_fits n a0 x1 h = some q) : frM a0 [1, 4] [18] (oc h) (oc q.2) := by
  unfold F_X12_fits at hf
  exact (frM_le (FQ_X12_fits_4 M hf) (by decide) (by decide))
theorem FQ_X12_snags_36 {n : Nat} {k : Nat} : ∀ {a0 : Nat} {x1 : Int32} {x2 : Int32} {x3 : Int32} {x4 : Int32} {h : jH} {q : Int32 × jH}, mS (oc h) a0 → F_X12_snags_36 n k a0 x1 x2 x3 x4 h = some q → frM a0 [1, 4] [18] (oc h) (oc q.2) := by
  induction k with
  | zero =>
    intro a0 x1 x2 x3 x4 h q M hf
    cases hf
  | succ k ih =>
    intro a0 x1 x2 x3 x4 h q M hf
    replace hf : F_X12_snags_36_b n (F_X12_snags_36 n k) a0 x1 x2 x3 x4 h = some q := hf
    unfold F_X12_snags_36_b at hf
    obtain ⟨v39, e1, hf⟩ := jbind hf
    replace e1 := (jcv_o e1).2
    replace hf := jite hf
    rcases hf with ⟨-, hf⟩ | ⟨-, hf⟩
    · replace hf := jite hf
      rcases hf with ⟨-, hf⟩ | ⟨-, hf⟩
      · cases hf
        exact frM_rfl
      · replace hf := jite hf
        rcases hf with ⟨-, hf⟩ | ⟨-, hf⟩
        · cases hf
          exact frM_rfl
        · cases hf
          exact frM_rfl
    · obtain ⟨q48, e2, hf⟩ := jbind hf
      replace e2 := (jcv_o e2).2
      have f2 : frM a0 [1, 4] [18] (oc h) (oc q48.2) := frM_le (FQ_X12_fits M e2) (by decide) (by decide)
      have m2 := mS_fr M f2 (by decide) (by decide)
      replace hf := jite hf
      rcases hf with ⟨-, hf⟩ | ⟨-, hf⟩
      · exact (frM_tr f2 (frM_le (ih m2 hf) (by decide) (by decide)))
      · exact (frM_tr f2 (frM_le (ih m2 hf) (by decide) (by decide)))
theorem FQ_X12_snags_17 {n : Nat} {a0 : Nat} {x1 : Int32} {sa0 : Nat} {s1 : Int32} {h : jH} {q : Int32 × jH} (hs : a0 = sa0) (M : mS (oc h) a0) (hf : F_X12_snags_17 n a0 x1 sa0 s1 h = some q) : frM a0 [1, 4] [0, 18] (oc h) (oc q.2) := by
  unfold F_X12_snags_17 at hf
  subst hs
  obtain ⟨q18, e1, hf⟩ := jbind hf
  replace e1 := (jcv_o e1).2
  have f1 : frM a0 [1, 4] [0, 18] (oc h) (oc q18.2) := frM_le (FQ_X12_throwsIf M e1) (by decide) (by decide)
  have m1 := mS_fr M f1 (by decide) (by decide)
  replace hf := jite hf
  rcases hf with ⟨-, hf⟩ | ⟨-, hf⟩
  · obtain ⟨v29, e2, hf⟩ := jbind hf
    replace e2 := (jcv_o e2).2
    exact (frM_tr f1 (frM_le (FQ_X12_snags_36 m1 hf) (by decide) (by decide)))
  · cases hf
    exact f1
theorem FQ_X12_snags {n : Nat} {a0 : Nat} {x1 : Int32} {h : jH} {q : Int32 × jH} (M : mS (oc h) a0) (hf : F_X12_snags n a0 x1 h = some q) : frM a0 [1, 4] [0, 9, 10, 11, 18] (oc h) (oc q.2) := by
  unfold F_X12_snags at hf
  obtain ⟨h1, e1, hf⟩ := jbind hf
  replace e1 := (jcv_o e1).2
  have f1 : frM a0 [1, 4] [0, 9, 10, 11, 18] (oc h) (oc h1) := frM_le (FQ_X12_uses M e1) (by decide) (by decide)
  have m1 := mS_fr M f1 (by decide) (by decide)
  obtain ⟨v6, e2, hf⟩ := jbind hf
  replace e2 := (jcv_o e2).2
  replace hf := jite hf
  rcases hf with ⟨-, hf⟩ | ⟨-, hf⟩
  · exact (frM_tr f1 (frM_le (FQ_X12_snags_17 rfl m1 hf) (by decide) (by decide)))
  · exact (frM_tr f1 (frM_le (FQ_X12_snags_17 rfl m1 hf) (by decide) (by decide)))
theorem FQ_X12_partBy_29 {n : Nat} {k : Nat} : ∀ {a0 : Nat} {x1 : Int32} {x2 : Int32} {x3 : Int32} {x4 : Int32} {h : jH} {q : Int32 × jH}, mS (oc h) a0 → F_X12_partBy_29 n k a0 x1 x2 x3 x4 h = some q → frM a0 [1, 4, 10] [18] (oc h) (oc q.2) := by
  induction k with
  | zero =>
    intro a0 x1 x2 x3 x4 h q M hf
    cases hf
  | succ k ih =>
    intro a0 x1 x2 x3 x4 h q M hf
    replace hf : F_X12_partBy_29_b n (F_X12_partBy_29 n k) a0 x1 x2 x3 x4 h = some q := hf
    unfold F_X12_partBy_29_b at hf
    obtain ⟨v32, e1, hf⟩ := jbind hf
    replace e1 := (jcv_o e1).2
    replace hf := jite hf
    rcases hf with ⟨-, hf⟩ | ⟨-, hf⟩
    · cases hf
      exact frM_rfl
    · obtain ⟨p39, e2, hf⟩ := jbind hf
      have r2 := oc_gR e2
      rw [M.2.2.2.2.2.2.2.2.1] at r2
      cases r2
      obtain ⟨v44, e3, hf⟩ := jbind hf
      replace hf := jite hf
      rcases hf with ⟨-, hf⟩ | ⟨-, hf⟩
      · exact (frM_le (ih M hf) (by decide) (by decide))
      · obtain ⟨q58, e4, hf⟩ := jbind hf
        replace e4 := (jcv_o e4).2
        have f4 : frM a0 [1, 4, 10] [18] (oc h) (oc q58.2) := frM_le (FQ_X12_wentWith M e4) (by decide) (by decide)
        have m4 := mS_fr M f4 (by decide) (by decide)
        obtain ⟨p64, e5, hf⟩ := jbind hf
        have r5 := oc_gR e5
        rw [m4.2.2.2.2.2.2.2.2.2.1] at r5
        cases r5
        obtain ⟨v70, e6, hf⟩ := jbind hf
        obtain ⟨h73, e7, hf⟩ := jbind hf
        have f7 : frM a0 [1, 4, 10] [18] (oc q58.2) (oc h73) := by rw [(oc_as e7).1]; exact frM_c (by decide)
        have m7 := mS_fr m4 f7 (by decide) (by decide)
        obtain ⟨p76, e8, hf⟩ := jbind hf
        have r8 := oc_gR e8
        rw [m7.2.2.2.2.2.2.2.2.2.1] at r8
        cases r8
        obtain ⟨v81, e9, hf⟩ := jbind hf
        exact (frM_tr (frM_tr f4 f7) (frM_le (ih m7 hf) (by decide) (by decide)))
theorem FQ_X12_partBy_5 {n : Nat} {k : Nat} : ∀ {a0 : Nat} {x1 : Int32} {x2 : Int32} {x3 : Int32} {x4 : Int32} {h : jH} {q : Int32 × jH}, mS (oc h) a0 → F_X12_partBy_5 n k a0 x1 x2 x3 x4 h = some q → frM a0 [1, 4, 10] [18] (oc h) (oc q.2) := by
  induction k with
  | zero =>
    intro a0 x1 x2 x3 x4 h q M hf
    cases hf
  | succ k ih =>
    intro a0 x1 x2 x3 x4 h q M hf
    replace hf : F_X12_partBy_5_b n (F_X12_partBy_5 n k) a0 x1 x2 x3 x4 h = some q := hf
    unfold F_X12_partBy_5_b at hf
    replace hf := jite hf
    rcases hf with ⟨-, hf⟩ | ⟨-, hf⟩
    · exact (frM_le (FQ_X12_partBy_29 M hf) (by decide) (by decide))
    · obtain ⟨p13, e1, hf⟩ := jbind hf
      have r1 := oc_gR e1
      rw [M.2.2.2.2.2.2.2.2.2.1] at r1
      cases r1
      obtain ⟨h19, e2, hf⟩ := jbind hf
      have f2 : frM a0 [1, 4, 10] [18] (oc h) (oc h19) := by rw [(oc_as e2).1]; exact frM_c (by decide)
      have m2 := mS_fr M f2 (by decide) (by decide)
      exact (frM_tr f2 (frM_le (ih m2 hf) (by decide) (by decide)))
theorem FQ_X12_partBy {n : Nat} {a0 : Nat} {x1 : Int32} {x2 : Int32} {h : jH} {q : Int32 × jH} (M : mS (oc h) a0) (hf : F_X12_partBy n a0 x1 x2 h = some q) : frM a0 [1, 4, 10] [18] (oc h) (oc q.2) := by
  unfold F_X12_partBy at hf
  exact (frM_le (FQ_X12_partBy_5 M hf) (by decide) (by decide))
theorem FQ_X12_tries_132 {n : Nat} {rc81 : Nat → Int32 → Int32 → Int32 → Int32 → jH → Option (Int32 × jH)} (hrc81 : ∀ {z0 : Nat} {z1 : Int32} {z2 : Int32} {z3 : Int32} {z4 : Int32} {h : jH} {q : Int32 × jH}, mS (oc h) z0 → rc81 z0 z1 z2 z3 z4 h = some q → frM z0 [1, 4, 10] [18] (oc h) (oc q.2)) {a0 : Nat} {x1 : Int32} {x3 : Int32} {x4 : Int32} {x5 : Int32} {s0 : Int32} {h : jH} {q : Int32 × jH} (M : mS (oc h) a0) (hf : F_X12_tries_132 n rc81 a0 x1 x3 x4 x5 s0 h = some q) : frM a0 [1, 4, 10] [18] (oc h) (oc q.2) := by
  unfold F_X12_tries_132 at hf
  exact (frM_le (hrc81 M hf) (by decide) (by decide))
theorem FQ_X12_tries_115 {n : Nat} {rc81 : Nat → Int32 → Int32 → Int32 → Int32 → jH → Option (Int32 × jH)} (hrc81 : ∀ {z0 : Nat} {z1 : Int32} {z2 : Int32} {z3 : Int32} {z4 : Int32} {h : jH} {q : Int32 × jH}, mS (oc h) z0 → rc81 z0 z1 z2 z3 z4 h = some q → frM z0 [1, 4, 10] [18] (oc h) (oc q.2)) {a0 : Nat} {x1 : Int32} {x2 : Int32} {x3 : Int32} {x4 : Int32} {sa0 : Nat} {s1 : Int32} {s2 : Int32} {h : jH} {q : Int32 × jH} (hs : a0 = sa0) (M : mS (oc h) a0) (hf : F_X12_tries_115 n rc81 a0 x1 x2 x3 x4 sa0 s1 s2 h = some q) : frM a0 [1, 4, 10] [18] (oc h) (oc q.2) := by
  unfold F_X12_tries_115 at hf
  subst hs
  obtain ⟨q115, e1, hf⟩ := jbind hf
  replace e1 := (jcv_o e1).2
  have f1 : frM a0 [1, 4, 10] [18] (oc h) (oc q115.2) := frM_le (FQ_X12_partBy M e1) (by decide) (by decide)
  have m1 := mS_fr M f1 (by decide) (by decide)
  replace hf := jite hf
  rcases hf with ⟨-, hf⟩ | ⟨-, hf⟩
  · exact (frM_tr f1 (frM_le (FQ_X12_tries_132 hrc81 m1 hf) (by decide) (by decide)))
  · exact (frM_tr f1 (frM_le (FQ_X12_tries_132 hrc81 m1 hf) (by decide) (by decide)))
theorem FQ_X12_tries_81 {n : Nat} {k : Nat} : ∀ {a0 : Nat} {x1 : Int32} {x2 : Int32} {x3 : Int32} {x4 : Int32} {h : jH} {q : Int32 × jH}, mS (oc h) a0 → F_X12_tries_81 n k a0 x1 x2 x3 x4 h = some q → frM a0 [1, 4, 10] [18] (oc h) (oc q.2) := by
  induction k with
  | zero =>
    intro a0 x1 x2 x3 x4 h q M hf
    cases hf
  | succ k ih =>
    intro a0 x1 x2 x3 x4 h q M hf
    replace hf : F_X12_tries_81_b n (F_X12_tries_81 n k) a0 x1 x2 x3 x4 h = some q := hf
    unfold F_X12_tries_81_b at hf
    obtain ⟨v85, e1, hf⟩ := jbind hf
    replace e1 := (jcv_o e1).2
    replace hf := jite hf
    rcases hf with ⟨-, hf⟩ | ⟨-, hf⟩
    · cases hf
      exact frM_rfl
    · replace hf := jite hf
      rcases hf with ⟨-, hf⟩ | ⟨-, hf⟩
      · cases hf
        exact frM_rfl
      · replace hf := jite hf
        rcases hf with ⟨-, hf⟩ | ⟨-, hf⟩
        · exact (frM_le (FQ_X12_tries_115 ih rfl M hf) (by decide) (by decide))
        · exact (frM_le (FQ_X12_tries_115 ih rfl M hf) (by decide) (by decide))
theorem FQ_X12_tries_30 {n : Nat} {k : Nat} : ∀ {a0 : Nat} {x1 : Int32} {x2 : Int32} {h : jH} {q : Int32 × jH}, mS (oc h) a0 → F_X12_tries_30 n k a0 x1 x2 h = some q → frM a0 [1, 4, 9, 10] [18] (oc h) (oc q.2) := by
  induction k with
  | zero =>
    intro a0 x1 x2 h q M hf
    cases hf
  | succ k ih =>
    intro a0 x1 x2 h q M hf
    replace hf : F_X12_tries_30_b n (F_X12_tries_30 n k) a0 x1 x2 h = some q := hf
    unfold F_X12_tries_30_b at hf
    obtain ⟨v32, e1, hf⟩ := jbind hf
    replace e1 := (jcv_o e1).2
    replace hf := jite hf
    rcases hf with ⟨-, hf⟩ | ⟨-, hf⟩
    · exact (frM_le (FQ_X12_tries_81 M hf) (by decide) (by decide))
    · obtain ⟨p39, e2, hf⟩ := jbind hf
      have r2 := oc_gR e2
      rw [M.2.2.2.2.2.2.2.2.1] at r2
      cases r2
      obtain ⟨q45, e3, hf⟩ := jbind hf
      replace e3 := (jcv_o e3).2
      have f3 : frM a0 [1, 4, 9, 10] [18] (oc h) (oc q45.2) := frM_le (FQ_X12_fits M e3) (by decide) (by decide)
      have m3 := mS_fr M f3 (by decide) (by decide)
      obtain ⟨h48, e4, hf⟩ := jbind hf
      have f4 : frM a0 [1, 4, 9, 10] [18] (oc q45.2) (oc h48) := by rw [(oc_as e4).1]; exact frM_c (by decide)
      have m4 := mS_fr m3 f4 (by decide) (by decide)
      obtain ⟨p51, e5, hf⟩ := jbind hf
      have r5 := oc_gR e5
      rw [m4.2.2.2.2.2.2.2.2.1] at r5
      cases r5
      obtain ⟨v55, e6, hf⟩ := jbind hf
      replace hf := jite hf
      rcases hf with ⟨-, hf⟩ | ⟨-, hf⟩
      · exact (frM_tr (frM_tr f3 f4) (frM_le (ih m4 hf) (by decide) (by decide)))
      · exact (frM_tr (frM_tr f3 f4) (frM_le (ih m4 hf) (by decide) (by decide)))
theorem FQ_X12_tries_17 {n : Nat} {a0 : Nat} {sa0 : Nat} {s1 : Int32} {h : jH} {q : Int32 × jH} (hs : a0 = sa0) (M : mS (oc h) a0) (hf : F_X12_tries_17 n a0 sa0 s1 h = some q) : frM a0 [1, 4, 9, 10] [0, 18] (oc h) (oc q.2) := by
  unfold F_X12_tries_17 at hf
  subst hs
  obtain ⟨q18, e1, hf⟩ := jbind hf
  replace e1 := (jcv_o e1).2
  have f1 : frM a0 [1, 4, 9, 10] [0, 18] (oc h) (oc q18.2) := frM_le (FQ_X12_throwsIf M e1) (by decide) (by decide)
  have m1 := mS_fr M f1 (by decide) (by decide)
  replace hf := jite hf
  rcases hf with ⟨-, hf⟩ | ⟨-, hf⟩
  · exact (frM_tr f1 (frM_le (FQ_X12_tries_30 m1 hf) (by decide) (by decide)))
  · cases hf
    exact f1
theorem FQ_X12_tries {n : Nat} {a0 : Nat} {h : jH} {q : Int32 × jH} (M : mS (oc h) a0) (hf : F_X12_tries n a0 h = some q) : frM a0 [1, 4, 9, 10] [0, 9, 10, 11, 18] (oc h) (oc q.2) := by
  unfold F_X12_tries at hf
  obtain ⟨h1, e1, hf⟩ := jbind hf
  replace e1 := (jcv_o e1).2
  have f1 : frM a0 [1, 4, 9, 10] [0, 9, 10, 11, 18] (oc h) (oc h1) := frM_le (FQ_X12_uses M e1) (by decide) (by decide)
  have m1 := mS_fr M f1 (by decide) (by decide)
  obtain ⟨v6, e2, hf⟩ := jbind hf
  replace e2 := (jcv_o e2).2
  replace hf := jite hf
  rcases hf with ⟨-, hf⟩ | ⟨-, hf⟩
  · exact (frM_tr f1 (frM_le (FQ_X12_tries_17 rfl m1 hf) (by decide) (by decide)))
  · exact (frM_tr f1 (frM_le (FQ_X12_tries_17 rfl m1 hf) (by decide) (by decide)))
theorem FQ_X12_loosen_51 {n : Nat} {k : Nat} : ∀ {a0 : Nat} {x1 : Int32} {x2 : Int32} {x3 : Int32} {x4 : Int32} {x5 : Int32} {x6 : Int32} {x7 : Int32} {h : jH} {q : Int32 × jH}, mS (oc h) a0 → F_X12_loosen_51 n k a0 x1 x2 x3 x4 x5 x6 x7 h = some q → frM a0 [1, 4] [18] (oc h) (oc q.2) := by
  induction k with
  | zero =>
    intro a0 x1 x2 x3 x4 x5 x6 x7 h q M hf
    cases hf
  | succ k ih =>
    intro a0 x1 x2 x3 x4 x5 x6 x7 h q M hf
    replace hf : F_X12_loosen_51_b n (F_X12_loosen_51 n k) a0 x1 x2 x3 x4 x5 x6 x7 h = some q := hf
    unfold F_X12_loosen_51_b at hf
    replace hf := jite hf
    rcases hf with ⟨-, hf⟩ | ⟨-, hf⟩
    · cases hf
      exact frM_rfl
    · replace hf := jite hf
      rcases hf with ⟨-, hf⟩ | ⟨-, hf⟩
      · obtain ⟨v70, e1, hf⟩ := jbind hf
        replace hf := jite hf
        rcases hf with ⟨-, hf⟩ | ⟨-, hf⟩
        · exact (frM_le (ih M hf) (by decide) (by decide))
        · obtain ⟨q89, e2, hf⟩ := jbind hf
          replace e2 := (jcv_o e2).2
          have f2 : frM a0 [1, 4] [18] (oc h) (oc q89.2) := frM_le (FQ_X12_wentWith M e2) (by decide) (by decide)
          have m2 := mS_fr M f2 (by decide) (by decide)
          replace hf := jite hf
          rcases hf with ⟨-, hf⟩ | ⟨-, hf⟩
          · obtain ⟨v105, e3, hf⟩ := jbind hf
            exact (frM_tr f2 (frM_le (ih m2 hf) (by decide) (by decide)))
          · exact (frM_tr f2 (frM_le (ih m2 hf) (by decide) (by decide)))
      · exact (frM_le (ih M hf) (by decide) (by decide))
theorem FQ_X12_loosen {n : Nat} {a0 : Nat} {x1 : Int32} {x2 : Int32} {x3 : Int32} {h : jH} {q : Int32 × jH} (M : mS (oc h) a0) (hf : F_X12_loosen n a0 x1 x2 x3 h = some q) : frM a0 [1, 4] [0, 18] (oc h) (oc q.2) := by
  unfold F_X12_loosen at hf
  obtain ⟨h2, e1, hf⟩ := jbind hf
  have f1 : frM a0 [1, 4] [0, 18] (oc h) (oc h2) := by rw [(oc_pf e1).1]; exact frM_f (by decide)
  have m1 := mS_fr M f1 (by decide) (by decide)
  obtain ⟨v8, e2, hf⟩ := jbind hf
  replace e2 := (jcv_o e2).2
  obtain ⟨q12, e3, hf⟩ := jbind hf
  replace e3 := (jcv_o e3).2
  have f3 : frM a0 [1, 4] [0, 18] (oc h2) (oc q12.2) := frM_le (FQ_X12_throwsIf m1 e3) (by decide) (by decide)
  have m3 := mS_fr m1 f3 (by decide) (by decide)
  replace hf := jite hf
  rcases hf with ⟨-, hf⟩ | ⟨-, hf⟩
  · obtain ⟨v20, e4, hf⟩ := jbind hf
    obtain ⟨q24, e5, hf⟩ := jbind hf
    replace e5 := (jcv_o e5).2
    have f5 : frM a0 [1, 4] [0, 18] (oc q12.2) (oc q24.2) := frM_le (FQ_X12_throwsIf m3 e5) (by decide) (by decide)
    have m5 := mS_fr m3 f5 (by decide) (by decide)
    replace hf := jite hf
    rcases hf with ⟨-, hf⟩ | ⟨-, hf⟩
    · obtain ⟨v35, e6, hf⟩ := jbind hf
      replace e6 := (jcv_o e6).2
      exact (frM_tr (frM_tr (frM_tr f1 f3) f5) (frM_le (FQ_X12_loosen_51 m5 hf) (by decide) (by decide)))
    · cases hf
      exact (frM_tr (frM_tr f1 f3) f5)
  · cases hf
    exact (frM_tr f1 f3)
theorem FQ_X12_tight_83 {n : Nat} {rc39 : Nat → Int32 → Int32 → Int32 → Int32 → jH → Option (Int32 × jH)} (hrc39 : ∀ {z0 : Nat} {z1 : Int32} {z2 : Int32} {z3 : Int32} {z4 : Int32} {h : jH} {q : Int32 × jH}, mS (oc h) z0 → rc39 z0 z1 z2 z3 z4 h = some q → frM z0 [] [] (oc h) (oc q.2)) {a0 : Nat} {x1 : Int32} {x3 : Int32} {x4 : Int32} {x5 : Int32} {s0 : Int32} {h : jH} {q : Int32 × jH} (M : mS (oc h) a0) (hf : F_X12_tight_83 n rc39 a0 x1 x3 x4 x5 s0 h = some q) : frM a0 [] [] (oc h) (oc q.2) := by
  unfold F_X12_tight_83 at hf
  exact (frM_le (hrc39 M hf) (by decide) (by decide))
theorem FQ_X12_tight_39 {n : Nat} {k : Nat} : ∀ {a0 : Nat} {x1 : Int32} {x2 : Int32} {x3 : Int32} {x4 : Int32} {h : jH} {q : Int32 × jH}, mS (oc h) a0 → F_X12_tight_39 n k a0 x1 x2 x3 x4 h = some q → frM a0 [] [] (oc h) (oc q.2) := by
  induction k with
  | zero =>
    intro a0 x1 x2 x3 x4 h q M hf
    cases hf
  | succ k ih =>
    intro a0 x1 x2 x3 x4 h q M hf
    replace hf : F_X12_tight_39_b n (F_X12_tight_39 n k) a0 x1 x2 x3 x4 h = some q := hf
    unfold F_X12_tight_39_b at hf
    obtain ⟨v44, e1, hf⟩ := jbind hf
    replace e1 := (jcv_o e1).2
    replace hf := jite hf
    rcases hf with ⟨-, hf⟩ | ⟨-, hf⟩
    · cases hf
      exact frM_rfl
    · obtain ⟨v58, e2, hf⟩ := jbind hf
      replace e2 := (jcv_o e2).2
      obtain ⟨v65, e3, hf⟩ := jbind hf
      replace e3 := (jcv_o e3).2
      replace hf := jite hf
      rcases hf with ⟨-, hf⟩ | ⟨-, hf⟩
      · exact (frM_le (FQ_X12_tight_83 ih M hf) (by decide) (by decide))
      · exact (frM_le (FQ_X12_tight_83 ih M hf) (by decide) (by decide))
theorem FQ_X12_tight_21 {n : Nat} {a0 : Nat} {x1 : Int32} {sa0 : Nat} {s1 : Int32} {h : jH} {q : Int32 × jH} (hs : a0 = sa0) (M : mS (oc h) a0) (hf : F_X12_tight_21 n a0 x1 sa0 s1 h = some q) : frM a0 [] [0] (oc h) (oc q.2) := by
  unfold F_X12_tight_21 at hf
  subst hs
  obtain ⟨q22, e1, hf⟩ := jbind hf
  replace e1 := (jcv_o e1).2
  have f1 : frM a0 [] [0] (oc h) (oc q22.2) := frM_le (FQ_X12_throwsIf M e1) (by decide) (by decide)
  have m1 := mS_fr M f1 (by decide) (by decide)
  replace hf := jite hf
  rcases hf with ⟨-, hf⟩ | ⟨-, hf⟩
  · exact (frM_tr f1 (frM_le (FQ_X12_tight_39 m1 hf) (by decide) (by decide)))
  · cases hf
    exact f1
theorem FQ_X12_tight {n : Nat} {a0 : Nat} {x1 : Int32} {h : jH} {q : Int32 × jH} (M : mS (oc h) a0) (hf : F_X12_tight n a0 x1 h = some q) : frM a0 [] [0] (oc h) (oc q.2) := by
  unfold F_X12_tight at hf
  obtain ⟨h2, e1, hf⟩ := jbind hf
  have f1 : frM a0 [] [0] (oc h) (oc h2) := by rw [(oc_pf e1).1]; exact frM_f (by decide)
  have m1 := mS_fr M f1 (by decide) (by decide)
  obtain ⟨v10, e2, hf⟩ := jbind hf
  replace hf := jite hf
  rcases hf with ⟨-, hf⟩ | ⟨-, hf⟩
  · exact (frM_tr f1 (frM_le (FQ_X12_tight_21 rfl m1 hf) (by decide) (by decide)))
  · exact (frM_tr f1 (frM_le (FQ_X12_tight_21 rfl m1 hf) (by decide) (by decide)))
theorem FQ_X12_lit_21 {n : Nat} {a0 : Nat} {x1 : Int32} {sa0 : Nat} {s1 : Int32} {h : jH} {q : Int32 × jH} (hs : a0 = sa0) (M : mS (oc h) a0) (hf : F_X12_lit_21 n a0 x1 sa0 s1 h = some q) : frM a0 [] [0] (oc h) (oc q.2) := by
  unfold F_X12_lit_21 at hf
  subst hs
  obtain ⟨q22, e1, hf⟩ := jbind hf
  replace e1 := (jcv_o e1).2
  have f1 : frM a0 [] [0] (oc h) (oc q22.2) := frM_le (FQ_X12_throwsIf M e1) (by decide) (by decide)
  have m1 := mS_fr M f1 (by decide) (by decide)
  replace hf := jite hf
  rcases hf with ⟨-, hf⟩ | ⟨-, hf⟩
  · obtain ⟨v34, e2, hf⟩ := jbind hf
    replace e2 := (jcv_o e2).2
    cases hf
    exact f1
  · cases hf
    exact f1
theorem FQ_X12_lit {n : Nat} {a0 : Nat} {x1 : Int32} {h : jH} {q : Int32 × jH} (M : mS (oc h) a0) (hf : F_X12_lit n a0 x1 h = some q) : frM a0 [] [0] (oc h) (oc q.2) := by
  unfold F_X12_lit at hf
  obtain ⟨h2, e1, hf⟩ := jbind hf
  have f1 : frM a0 [] [0] (oc h) (oc h2) := by rw [(oc_pf e1).1]; exact frM_f (by decide)
  have m1 := mS_fr M f1 (by decide) (by decide)
  obtain ⟨v10, e2, hf⟩ := jbind hf
  replace hf := jite hf
  rcases hf with ⟨-, hf⟩ | ⟨-, hf⟩
  · exact (frM_tr f1 (frM_le (FQ_X12_lit_21 rfl m1 hf) (by decide) (by decide)))
  · exact (frM_tr f1 (frM_le (FQ_X12_lit_21 rfl m1 hf) (by decide) (by decide)))
theorem FQ_X12_drawn {n : Nat} {a0 : Nat} {x1 : Int32} {h : jH} {q : Int32 × jH} (M : mS (oc h) a0) (hf : F_X12_drawn n a0 x1 h = some q) : frM a0 [1] [] (oc h) (oc q.2) := by
  unfold F_X12_drawn at hf
  obtain ⟨p1, e1, hf⟩ := jbind hf
  have r1 := oc_gR e1
  rw [M.1] at r1
  cases r1
  obtain ⟨p9, e2, hf⟩ := jbind hf
  have r2 := oc_gR e2
  rw [M.1] at r2
  cases r2
  obtain ⟨v14, e3, hf⟩ := jbind hf
  obtain ⟨h20, e4, hf⟩ := jbind hf
  have f4 : frM a0 [1] [] (oc h) (oc h20) := by rw [(oc_as e4).1]; exact frM_c (by decide)
  have m4 := mS_fr M f4 (by decide) (by decide)
  obtain ⟨p22, e5, hf⟩ := jbind hf
  have r5 := oc_gR e5
  rw [m4.1] at r5
  cases r5
  obtain ⟨v27, e6, hf⟩ := jbind hf
  replace hf := jite hf
  rcases hf with ⟨-, hf⟩ | ⟨-, hf⟩
  · cases hf
  · cases hf
    exact f4
theorem FQ_X12_tells_5 {n : Nat} {k : Nat} : ∀ {a0 : Nat} {x1 : Int32} {x2 : Int32} {x3 : Int32} {x4 : Int32} {h : jH} {q : jH}, mS (oc h) a0 → F_X12_tells_5 n k a0 x1 x2 x3 x4 h = some q → frM a0 [1] [] (oc h) (oc q) := by
  induction k with
  | zero =>
    intro a0 x1 x2 x3 x4 h q M hf
    cases hf
  | succ k ih =>
    intro a0 x1 x2 x3 x4 h q M hf
    replace hf : F_X12_tells_5_b n (F_X12_tells_5 n k) a0 x1 x2 x3 x4 h = some q := hf
    unfold F_X12_tells_5_b at hf
    replace hf := jite hf
    rcases hf with ⟨-, hf⟩ | ⟨-, hf⟩
    · obtain ⟨p42, e1, hf⟩ := jbind hf
      have r1 := oc_gR e1
      rw [M.1] at r1
      cases r1
      obtain ⟨p48, e2, hf⟩ := jbind hf
      have r2 := oc_gR e2
      rw [M.1] at r2
      cases r2
      obtain ⟨v52, e3, hf⟩ := jbind hf
      obtain ⟨h53, e4, hf⟩ := jbind hf
      have f4 : frM a0 [1] [] (oc h) (oc h53) := by rw [(oc_as e4).1]; exact frM_c (by decide)
      have m4 := mS_fr M f4 (by decide) (by decide)
      obtain ⟨p55, e5, hf⟩ := jbind hf
      have r5 := oc_gR e5
      rw [m4.1] at r5
      cases r5
      obtain ⟨p61, e6, hf⟩ := jbind hf
      have r6 := oc_gR e6
      rw [m4.1] at r6
      cases r6
      obtain ⟨v65, e7, hf⟩ := jbind hf
      obtain ⟨h66, e8, hf⟩ := jbind hf
      have f8 : frM a0 [1] [] (oc h53) (oc h66) := by rw [(oc_as e8).1]; exact frM_c (by decide)
      have m8 := mS_fr m4 f8 (by decide) (by decide)
      obtain ⟨p68, e9, hf⟩ := jbind hf
      have r9 := oc_gR e9
      rw [m8.1] at r9
      cases r9
      obtain ⟨h74, e10, hf⟩ := jbind hf
      have f10 : frM a0 [1] [] (oc h66) (oc h74) := by rw [(oc_as e10).1]; exact frM_c (by decide)
      have m10 := mS_fr m8 f10 (by decide) (by decide)
      obtain ⟨p76, e11, hf⟩ := jbind hf
      have r11 := oc_gR e11
      rw [m10.1] at r11
      cases r11
      obtain ⟨h82, e12, hf⟩ := jbind hf
      have f12 : frM a0 [1] [] (oc h74) (oc h82) := by rw [(oc_as e12).1]; exact frM_c (by decide)
      have m12 := mS_fr m10 f12 (by decide) (by decide)
      obtain ⟨p84, e13, hf⟩ := jbind hf
      have r13 := oc_gR e13
      rw [m12.1] at r13
      cases r13
      obtain ⟨h90, e14, hf⟩ := jbind hf
      have f14 : frM a0 [1] [] (oc h82) (oc h90) := by rw [(oc_as e14).1]; exact frM_c (by decide)
      have m14 := mS_fr m12 f14 (by decide) (by decide)
      obtain ⟨p92, e15, hf⟩ := jbind hf
      have r15 := oc_gR e15
      rw [m14.1] at r15
      cases r15
      obtain ⟨v100, e16, hf⟩ := jbind hf
      replace e16 := (jcv_o e16).2
      obtain ⟨h103, e17, hf⟩ := jbind hf
      have f17 : frM a0 [1] [] (oc h90) (oc h103) := by rw [(oc_as e17).1]; exact frM_c (by decide)
      have m17 := mS_fr m14 f17 (by decide) (by decide)
      obtain ⟨p105, e18, hf⟩ := jbind hf
      have r18 := oc_gR e18
      rw [m17.1] at r18
      cases r18
      obtain ⟨p113, e19, hf⟩ := jbind hf
      have r19 := oc_gR e19
      rw [m17.1] at r19
      cases r19
      obtain ⟨v118, e20, hf⟩ := jbind hf
      obtain ⟨h124, e21, hf⟩ := jbind hf
      have f21 : frM a0 [1] [] (oc h103) (oc h124) := by rw [(oc_as e21).1]; exact frM_c (by decide)
      have m21 := mS_fr m17 f21 (by decide) (by decide)
      cases hf
      exact (frM_tr (frM_tr (frM_tr (frM_tr (frM_tr (frM_tr f4 f8) f10) f12) f14) f17) f21)
    · obtain ⟨p13, e22, hf⟩ := jbind hf
      have r22 := oc_gR e22
      rw [M.1] at r22
      cases r22
      obtain ⟨p22, e23, hf⟩ := jbind hf
      have r23 := oc_gR e23
      rw [M.1] at r23
      cases r23
      obtain ⟨v33, e24, hf⟩ := jbind hf
      obtain ⟨h34, e25, hf⟩ := jbind hf
      have f25 : frM a0 [1] [] (oc h) (oc h34) := by rw [(oc_as e25).1]; exact frM_c (by decide)
      have m25 := mS_fr M f25 (by decide) (by decide)
      exact (frM_tr f25 (frM_le (ih m25 hf) (by decide) (by decide)))
theorem FQ_X12_tells {n : Nat} {a0 : Nat} {x1 : Int32} {x2 : Int32} {x3 : Int32} {h : jH} {q : jH} (M : mS (oc h) a0) (hf : F_X12_tells n a0 x1 x2 x3 h = some q) : frM a0 [1] [] (oc h) (oc q) := by
  unfold F_X12_tells at hf
  exact (frM_le (FQ_X12_tells_5 M hf) (by decide) (by decide))
theorem FQ_X12_catches_4 {n : Nat} {k : Nat} : ∀ {a0 : Nat} {x1 : Int32} {x2 : Int32} {h : jH} {q : Int32 × jH}, mS (oc h) a0 → F_X12_catches_4 n k a0 x1 x2 h = some q → frM a0 [1, 8] [] (oc h) (oc q.2) := by
  induction k with
  | zero =>
    intro a0 x1 x2 h q M hf
    cases hf
  | succ k ih =>
    intro a0 x1 x2 h q M hf
    replace hf : F_X12_catches_4_b n (F_X12_catches_4 n k) a0 x1 x2 h = some q := hf
    unfold F_X12_catches_4_b at hf
    obtain ⟨v6, e1, hf⟩ := jbind hf
    replace e1 := (jcv_o e1).2
    replace hf := jite hf
    rcases hf with ⟨-, hf⟩ | ⟨-, hf⟩
    · cases hf
      exact frM_rfl
    · obtain ⟨v14, e2, hf⟩ := jbind hf
      replace e2 := (jcv_o e2).2
      replace hf := jite hf
      rcases hf with ⟨-, hf⟩ | ⟨-, hf⟩
      · obtain ⟨v25, e3, hf⟩ := jbind hf
        replace e3 := (jcv_o e3).2
        replace hf := jite hf
        rcases hf with ⟨-, hf⟩ | ⟨-, hf⟩
        · obtain ⟨q34, e4, hf⟩ := jbind hf
          replace e4 := (jcv_o e4).2
          have f4 : frM a0 [1, 8] [] (oc h) (oc q34.2) := frM_le (FQ_X12_drawn M e4) (by decide) (by decide)
          have m4 := mS_fr M f4 (by decide) (by decide)
          obtain ⟨q40, e5, hf⟩ := jbind hf
          replace e5 := (jcv_o e5).2
          have f5 : frM a0 [1, 8] [] (oc q34.2) (oc q40.2) := frM_le (FQ_X12_byLaw m4 e5) (by decide) (by decide)
          have m5 := mS_fr m4 f5 (by decide) (by decide)
          replace hf := jite hf
          rcases hf with ⟨-, hf⟩ | ⟨-, hf⟩
          · obtain ⟨p50, e6, hf⟩ := jbind hf
            have r6 := oc_gR e6
            rw [m5.1] at r6
            cases r6
            obtain ⟨v56, e7, hf⟩ := jbind hf
            obtain ⟨h60, e8, hf⟩ := jbind hf
            have f8 : frM a0 [1, 8] [] (oc q40.2) (oc h60) := by rw [(oc_as e8).1]; exact frM_c (by decide)
            have m8 := mS_fr m5 f8 (by decide) (by decide)
            obtain ⟨h65, e9, hf⟩ := jbind hf
            replace e9 := (jcv_o e9).2
            have f9 : frM a0 [1, 8] [] (oc h60) (oc h65) := frM_le (FQ_X12_tells m8 e9) (by decide) (by decide)
            have m9 := mS_fr m8 f9 (by decide) (by decide)
            exact (frM_tr (frM_tr (frM_tr (frM_tr f4 f5) f8) f9) (frM_le (ih m9 hf) (by decide) (by decide)))
          · exact (frM_tr (frM_tr f4 f5) (frM_le (ih m5 hf) (by decide) (by decide)))
        · exact (frM_le (ih M hf) (by decide) (by decide))
      · exact (frM_le (ih M hf) (by decide) (by decide))
theorem FQ_X12_catches {n : Nat} {a0 : Nat} {h : jH} {q : Int32 × jH} (M : mS (oc h) a0) (hf : F_X12_catches n a0 h = some q) : frM a0 [1, 8] [] (oc h) (oc q.2) := by
  unfold F_X12_catches at hf
  exact (frM_le (FQ_X12_catches_4 M hf) (by decide) (by decide))
theorem FQ_X12_falls_4 {n : Nat} {k : Nat} : ∀ {a0 : Nat} {x1 : Int32} {x2 : Int32} {h : jH} {q : Int32 × jH}, mS (oc h) a0 → F_X12_falls_4 n k a0 x1 x2 h = some q → frM a0 [1, 8] [] (oc h) (oc q.2) := by
  induction k with
  | zero =>
    intro a0 x1 x2 h q M hf
    cases hf
  | succ k ih =>
    intro a0 x1 x2 h q M hf
    replace hf : F_X12_falls_4_b n (F_X12_falls_4 n k) a0 x1 x2 h = some q := hf
    unfold F_X12_falls_4_b at hf
    obtain ⟨v6, e1, hf⟩ := jbind hf
    replace e1 := (jcv_o e1).2
    replace hf := jite hf
    rcases hf with ⟨-, hf⟩ | ⟨-, hf⟩
    · cases hf
      exact frM_rfl
    · obtain ⟨v16, e2, hf⟩ := jbind hf
      replace e2 := (jcv_o e2).2
      replace hf := jite hf
      rcases hf with ⟨-, hf⟩ | ⟨-, hf⟩
      · exact (frM_le (ih M hf) (by decide) (by decide))
      · obtain ⟨q25, e3, hf⟩ := jbind hf
        replace e3 := (jcv_o e3).2
        have f3 : frM a0 [1, 8] [] (oc h) (oc q25.2) := frM_le (FQ_X12_drawn M e3) (by decide) (by decide)
        have m3 := mS_fr M f3 (by decide) (by decide)
        obtain ⟨q31, e4, hf⟩ := jbind hf
        replace e4 := (jcv_o e4).2
        have f4 : frM a0 [1, 8] [] (oc q25.2) (oc q31.2) := frM_le (FQ_X12_byLaw m3 e4) (by decide) (by decide)
        have m4 := mS_fr m3 f4 (by decide) (by decide)
        replace hf := jite hf
        rcases hf with ⟨-, hf⟩ | ⟨-, hf⟩
        · obtain ⟨p41, e5, hf⟩ := jbind hf
          have r5 := oc_gR e5
          rw [m4.1] at r5
          cases r5
          obtain ⟨v47, e6, hf⟩ := jbind hf
          obtain ⟨h51, e7, hf⟩ := jbind hf
          have f7 : frM a0 [1, 8] [] (oc q31.2) (oc h51) := by rw [(oc_as e7).1]; exact frM_c (by decide)
          have m7 := mS_fr m4 f7 (by decide) (by decide)
          obtain ⟨h56, e8, hf⟩ := jbind hf
          replace e8 := (jcv_o e8).2
          have f8 : frM a0 [1, 8] [] (oc h51) (oc h56) := frM_le (FQ_X12_tells m7 e8) (by decide) (by decide)
          have m8 := mS_fr m7 f8 (by decide) (by decide)
          exact (frM_tr (frM_tr (frM_tr (frM_tr f3 f4) f7) f8) (frM_le (ih m8 hf) (by decide) (by decide)))
        · exact (frM_tr (frM_tr f3 f4) (frM_le (ih m4 hf) (by decide) (by decide)))
theorem FQ_X12_falls {n : Nat} {a0 : Nat} {h : jH} {q : Int32 × jH} (M : mS (oc h) a0) (hf : F_X12_falls n a0 h = some q) : frM a0 [1, 8] [] (oc h) (oc q.2) := by
  unfold F_X12_falls at hf
  exact (frM_le (FQ_X12_falls_4 M hf) (by decide) (by decide))
theorem FQ_X12_oneHour_61 {n : Nat} {a0 : Nat} {s0 : Int32} {h : jH} {q : Int32 × jH} (M : mS (oc h) a0) (hf : F_X12_oneHour_61 n a0 s0 h = some q) : frM a0 [1] [] (oc h) (oc q.2) := by
  unfold F_X12_oneHour_61 at hf
  obtain ⟨p63, e1, hf⟩ := jbind hf
  have r1 := oc_gR e1
  rw [M.1] at r1
  cases r1
  obtain ⟨v68, e2, hf⟩ := jbind hf
  obtain ⟨h71, e3, hf⟩ := jbind hf
  have f3 : frM a0 [1] [] (oc h) (oc h71) := by rw [(oc_as e3).1]; exact frM_c (by decide)
  have m3 := mS_fr M f3 (by decide) (by decide)
  obtain ⟨p73, e4, hf⟩ := jbind hf
  have r4 := oc_gR e4
  rw [m3.1] at r4
  cases r4
  obtain ⟨v77, e5, hf⟩ := jbind hf
  replace hf := jite hf
  rcases hf with ⟨-, hf⟩ | ⟨-, hf⟩
  · obtain ⟨p84, e6, hf⟩ := jbind hf
    have r6 := oc_gR e6
    rw [m3.1] at r6
    cases r6
    obtain ⟨h89, e7, hf⟩ := jbind hf
    have f7 : frM a0 [1] [] (oc h71) (oc h89) := by rw [(oc_as e7).1]; exact frM_c (by decide)
    have m7 := mS_fr m3 f7 (by decide) (by decide)
    obtain ⟨p91, e8, hf⟩ := jbind hf
    have r8 := oc_gR e8
    rw [m7.1] at r8
    cases r8
    obtain ⟨p99, e9, hf⟩ := jbind hf
    have r9 := oc_gR e9
    rw [m7.1] at r9
    cases r9
    obtain ⟨v103, e10, hf⟩ := jbind hf
    obtain ⟨h109, e11, hf⟩ := jbind hf
    have f11 : frM a0 [1] [] (oc h89) (oc h109) := by rw [(oc_as e11).1]; exact frM_c (by decide)
    have m11 := mS_fr m7 f11 (by decide) (by decide)
    cases hf
    exact (frM_tr (frM_tr f3 f7) f11)
  · cases hf
    exact f3
theorem FQ_X12_oneHour_2 {n : Nat} {k : Nat} : ∀ {a0 : Nat} {x1 : Int32} {x2 : Int32} {h : jH} {q : Int32 × jH}, mS (oc h) a0 → F_X12_oneHour_2 n k a0 x1 x2 h = some q → frM a0 [1, 8] [] (oc h) (oc q.2) := by
  induction k with
  | zero =>
    intro a0 x1 x2 h q M hf
    cases hf
  | succ k ih =>
    intro a0 x1 x2 h q M hf
    replace hf : F_X12_oneHour_2_b n (F_X12_oneHour_2 n k) a0 x1 x2 h = some q := hf
    unfold F_X12_oneHour_2_b at hf
    obtain ⟨v4, e1, hf⟩ := jbind hf
    replace e1 := (jcv_o e1).2
    replace hf := jite hf
    rcases hf with ⟨-, hf⟩ | ⟨-, hf⟩
    · replace hf := jite hf
      rcases hf with ⟨-, hf⟩ | ⟨-, hf⟩
      · obtain ⟨q53, e2, hf⟩ := jbind hf
        replace e2 := (jcv_o e2).2
        have f2 : frM a0 [1, 8] [] (oc h) (oc q53.2) := frM_le (FQ_X12_catches M e2) (by decide) (by decide)
        have m2 := mS_fr M f2 (by decide) (by decide)
        obtain ⟨q57, e3, hf⟩ := jbind hf
        replace e3 := (jcv_o e3).2
        have f3 : frM a0 [1, 8] [] (oc q53.2) (oc q57.2) := frM_le (FQ_X12_falls m2 e3) (by decide) (by decide)
        have m3 := mS_fr m2 f3 (by decide) (by decide)
        exact (frM_tr (frM_tr f2 f3) (frM_le (FQ_X12_oneHour_61 m3 hf) (by decide) (by decide)))
      · exact (frM_le (FQ_X12_oneHour_61 M hf) (by decide) (by decide))
    · obtain ⟨p11, e4, hf⟩ := jbind hf
      have r4 := oc_gR e4
      rw [M.1] at r4
      cases r4
      obtain ⟨v16, e5, hf⟩ := jbind hf
      obtain ⟨v24, e6, hf⟩ := jbind hf
      replace e6 := (jcv_o e6).2
      obtain ⟨q30, e7, hf⟩ := jbind hf
      replace e7 := (jcv_o e7).2
      have f7 : frM a0 [1, 8] [] (oc h) (oc q30.2) := frM_le (FQ_X12_byLaw M e7) (by decide) (by decide)
      have m7 := mS_fr M f7 (by decide) (by decide)
      obtain ⟨h37, e8, hf⟩ := jbind hf
      have f8 : frM a0 [1, 8] [] (oc q30.2) (oc h37) := by rw [(oc_as e8).1]; exact frM_c (by decide)
      have m8 := mS_fr m7 f8 (by decide) (by decide)
      exact (frM_tr (frM_tr f7 f8) (frM_le (ih m8 hf) (by decide) (by decide)))
theorem FQ_X12_oneHour {n : Nat} {a0 : Nat} {x1 : Int32} {h : jH} {q : Int32 × jH} (M : mS (oc h) a0) (hf : F_X12_oneHour n a0 x1 h = some q) : frM a0 [1, 8] [] (oc h) (oc q.2) := by
  unfold F_X12_oneHour at hf
  exact (frM_le (FQ_X12_oneHour_2 M hf) (by decide) (by decide))
theorem FQ_X12_goesOn_5 {n : Nat} {k : Nat} : ∀ {a0 : Nat} {x1 : Int32} {x2 : Int32} {x3 : Int32} {x4 : Int32} {h : jH} {q : Int32 × jH}, mS (oc h) a0 → F_X12_goesOn_5 n k a0 x1 x2 x3 x4 h = some q → frM a0 [1, 8] [] (oc h) (oc q.2) := by
  induction k with
  | zero =>
    intro a0 x1 x2 x3 x4 h q M hf
    cases hf
  | succ k ih =>
    intro a0 x1 x2 x3 x4 h q M hf
    replace hf : F_X12_goesOn_5_b n (F_X12_goesOn_5 n k) a0 x1 x2 x3 x4 h = some q := hf
    unfold F_X12_goesOn_5_b at hf
    replace hf := jite hf
    rcases hf with ⟨-, hf⟩ | ⟨-, hf⟩
    · cases hf
      exact frM_rfl
    · obtain ⟨q14, e1, hf⟩ := jbind hf
      replace e1 := (jcv_o e1).2
      have f1 : frM a0 [1, 8] [] (oc h) (oc q14.2) := frM_le (FQ_X12_oneHour M e1) (by decide) (by decide)
      have m1 := mS_fr M f1 (by decide) (by decide)
      exact (frM_tr f1 (frM_le (ih m1 hf) (by decide) (by decide)))
theorem FQ_X12_goesOn {n : Nat} {a0 : Nat} {x1 : Int32} {x2 : Int32} {h : jH} {q : Int32 × jH} (M : mS (oc h) a0) (hf : F_X12_goesOn n a0 x1 x2 h = some q) : frM a0 [1, 8] [] (oc h) (oc q.2) := by
  unfold F_X12_goesOn at hf
  exact (frM_le (FQ_X12_goesOn_5 M hf) (by decide) (by decide))
theorem FQ_X12_faded {n : Nat} {a0 : Nat} {x1 : Int32} {h : jH} {q : Int32 × jH} (M : mS (oc h) a0) (hf : F_X12_faded n a0 x1 h = some q) : frM a0 [1, 4, 8] [0] (oc h) (oc q.2) := by
  unfold F_X12_faded at hf
  obtain ⟨h2, e1, hf⟩ := jbind hf
  have f1 : frM a0 [1, 4, 8] [0] (oc h) (oc h2) := by rw [(oc_pf e1).1]; exact frM_f (by decide)
  have m1 := mS_fr M f1 (by decide) (by decide)
  obtain ⟨v7, e2, hf⟩ := jbind hf
  obtain ⟨q11, e3, hf⟩ := jbind hf
  replace e3 := (jcv_o e3).2
  have f3 : frM a0 [1, 4, 8] [0] (oc h2) (oc q11.2) := frM_le (FQ_X12_throwsIf m1 e3) (by decide) (by decide)
  have m3 := mS_fr m1 f3 (by decide) (by decide)
  replace hf := jite hf
  rcases hf with ⟨-, hf⟩ | ⟨-, hf⟩
  · obtain ⟨h20, e4, hf⟩ := jbind hf
    replace e4 := (jcv_o e4).2
    have f4 : frM a0 [1, 4, 8] [0] (oc q11.2) (oc h20) := frM_le (FQ_X12_keepsAll m3 e4) (by decide) (by decide)
    have m4 := mS_fr m3 f4 (by decide) (by decide)
    obtain ⟨q26, e5, hf⟩ := jbind hf
    replace e5 := (jcv_o e5).2
    have f5 : frM a0 [1, 4, 8] [0] (oc h20) (oc q26.2) := frM_le (FQ_X12_goesOn m4 e5) (by decide) (by decide)
    have m5 := mS_fr m4 f5 (by decide) (by decide)
    obtain ⟨v31, e6, hf⟩ := jbind hf
    replace e6 := (jcv_o e6).2
    obtain ⟨h36, e7, hf⟩ := jbind hf
    replace e7 := (jcv_o e7).2
    have f7 : frM a0 [1, 4, 8] [0] (oc q26.2) (oc h36) := frM_le (FQ_X12_bringsBack m5 e7) (by decide) (by decide)
    have m7 := mS_fr m5 f7 (by decide) (by decide)
    cases hf
    exact (frM_tr (frM_tr (frM_tr (frM_tr f1 f3) f4) f5) f7)
  · cases hf
    exact (frM_tr f1 f3)
theorem FQ_X12_lets_103 {n : Nat} {a0 : Nat} {x1 : Int32} {x2 : Int32} {x4 : Int32} {x5 : Int32} {s0 : Int32} {h : jH} {q : Int32 × jH} (M : mS (oc h) a0) (hf : F_X12_lets_103 n x1 x2 x4 x5 s0 h = some q) : frM a0 [] [] (oc h) (oc q.2) := by
  unfold F_X12_lets_103 at hf
  replace hf := jite hf
  rcases hf with ⟨-, hf⟩ | ⟨-, hf⟩
  · replace hf := jite hf
    rcases hf with ⟨-, hf⟩ | ⟨-, hf⟩
    · cases hf
      exact frM_rfl
    · cases hf
      exact frM_rfl
  · cases hf
    exact frM_rfl
theorem FQ_X12_lets_48 {n : Nat} {k : Nat} : ∀ {a0 : Nat} {x1 : Int32} {x2 : Int32} {x3 : Int32} {x4 : Int32} {h : jH} {q : Int32 × jH}, mS (oc h) a0 → F_X12_lets_48 n k a0 x1 x2 x3 x4 h = some q → frM a0 [] [] (oc h) (oc q.2) := by
  induction k with
  | zero =>
    intro a0 x1 x2 x3 x4 h q M hf
    cases hf
  | succ k ih =>
    intro a0 x1 x2 x3 x4 h q M hf
    replace hf : F_X12_lets_48_b n (F_X12_lets_48 n k) a0 x1 x2 x3 x4 h = some q := hf
    unfold F_X12_lets_48_b at hf
    obtain ⟨v51, e1, hf⟩ := jbind hf
    replace e1 := (jcv_o e1).2
    replace hf := jite hf
    rcases hf with ⟨-, hf⟩ | ⟨-, hf⟩
    · obtain ⟨v75, e2, hf⟩ := jbind hf
      replace e2 := (jcv_o e2).2
      replace hf := jite hf
      rcases hf with ⟨-, hf⟩ | ⟨-, hf⟩
      · cases hf
      · obtain ⟨v83, e3, hf⟩ := jbind hf
        replace e3 := (jcv_o e3).2
        replace hf := jite hf
        rcases hf with ⟨-, hf⟩ | ⟨-, hf⟩
        · cases hf
        · replace hf := jite hf
          rcases hf with ⟨-, hf⟩ | ⟨-, hf⟩
          · exact (frM_le (FQ_X12_lets_103 M hf) (by decide) (by decide))
          · exact (frM_le (FQ_X12_lets_103 M hf) (by decide) (by decide))
    · obtain ⟨v62, e4, hf⟩ := jbind hf
      replace e4 := (jcv_o e4).2
      exact (frM_le (ih M hf) (by decide) (by decide))
theorem FQ_X12_lets_34 {n : Nat} {a0 : Nat} {x1 : Int32} {x2 : Int32} {sa0 : Nat} {s1 : Int32} {h : jH} {q : Int32 × jH} (hs : a0 = sa0) (M : mS (oc h) a0) (hf : F_X12_lets_34 n a0 x1 x2 sa0 s1 h = some q) : frM a0 [] [0] (oc h) (oc q.2) := by
  unfold F_X12_lets_34 at hf
  subst hs
  obtain ⟨q35, e1, hf⟩ := jbind hf
  replace e1 := (jcv_o e1).2
  have f1 : frM a0 [] [0] (oc h) (oc q35.2) := frM_le (FQ_X12_throwsIf M e1) (by decide) (by decide)
  have m1 := mS_fr M f1 (by decide) (by decide)
  replace hf := jite hf
  rcases hf with ⟨-, hf⟩ | ⟨-, hf⟩
  · exact (frM_tr f1 (frM_le (FQ_X12_lets_48 m1 hf) (by decide) (by decide)))
  · cases hf
    exact f1
theorem FQ_X12_lets {n : Nat} {a0 : Nat} {x1 : Int32} {x2 : Int32} {h : jH} {q : Int32 × jH} (M : mS (oc h) a0) (hf : F_X12_lets n a0 x1 x2 h = some q) : frM a0 [] [0] (oc h) (oc q.2) := by
  unfold F_X12_lets at hf
  obtain ⟨h2, e1, hf⟩ := jbind hf
  have f1 : frM a0 [] [0] (oc h) (oc h2) := by rw [(oc_pf e1).1]; exact frM_f (by decide)
  have m1 := mS_fr M f1 (by decide) (by decide)
  obtain ⟨v8, e2, hf⟩ := jbind hf
  replace e2 := (jcv_o e2).2
  obtain ⟨q12, e3, hf⟩ := jbind hf
  replace e3 := (jcv_o e3).2
  have f3 : frM a0 [] [0] (oc h2) (oc q12.2) := frM_le (FQ_X12_throwsIf m1 e3) (by decide) (by decide)
  have m3 := mS_fr m1 f3 (by decide) (by decide)
  replace hf := jite hf
  rcases hf with ⟨-, hf⟩ | ⟨-, hf⟩
  · obtain ⟨v23, e4, hf⟩ := jbind hf
    replace hf := jite hf
    rcases hf with ⟨-, hf⟩ | ⟨-, hf⟩
    · exact (frM_tr (frM_tr f1 f3) (frM_le (FQ_X12_lets_34 rfl m3 hf) (by decide) (by decide)))
    · exact (frM_tr (frM_tr f1 f3) (frM_le (FQ_X12_lets_34 rfl m3 hf) (by decide) (by decide)))
  · cases hf
    exact (frM_tr f1 f3)
theorem FQ_X12_rests_42 {n : Nat} {rc34 : Nat → Int32 → Int32 → Int32 → jH → Option (Int32 × jH)} (hrc34 : ∀ {z0 : Nat} {z1 : Int32} {z2 : Int32} {z3 : Int32} {h : jH} {q : Int32 × jH}, mS (oc h) z0 → rc34 z0 z1 z2 z3 h = some q → frM z0 [] [] (oc h) (oc q.2)) {k : Nat} : ∀ {a0 : Nat} {x1 : Int32} {x2 : Int32} {x3 : Int32} {x4 : Int32} {h : jH} {q : Int32 × jH}, mS (oc h) a0 → F_X12_rests_42 n rc34 k a0 x1 x2 x3 x4 h = some q → frM a0 [] [] (oc h) (oc q.2) := by
  induction k with
  | zero =>
    intro a0 x1 x2 x3 x4 h q M hf
    cases hf
  | succ k ih =>
    intro a0 x1 x2 x3 x4 h q M hf
    replace hf : F_X12_rests_42_b n rc34 (F_X12_rests_42 n rc34 k) a0 x1 x2 x3 x4 h = some q := hf
    unfold F_X12_rests_42_b at hf
    replace hf := jite hf
    rcases hf with ⟨-, hf⟩ | ⟨-, hf⟩
    · exact (frM_le (hrc34 M hf) (by decide) (by decide))
    · obtain ⟨v54, e1, hf⟩ := jbind hf
      replace e1 := (jcv_o e1).2
      obtain ⟨v64, e2, hf⟩ := jbind hf
      replace e2 := (jcv_o e2).2
      replace hf := jite hf
      rcases hf with ⟨-, hf⟩ | ⟨-, hf⟩
      · exact (frM_le (ih M hf) (by decide) (by decide))
      · obtain ⟨v75, e3, hf⟩ := jbind hf
        replace e3 := (jcv_o e3).2
        obtain ⟨v85, e4, hf⟩ := jbind hf
        replace e4 := (jcv_o e4).2
        replace hf := jite hf
        rcases hf with ⟨-, hf⟩ | ⟨-, hf⟩
        · exact (frM_le (ih M hf) (by decide) (by decide))
        · exact (frM_le (ih M hf) (by decide) (by decide))
theorem FQ_X12_rests_34 {n : Nat} {k : Nat} : ∀ {a0 : Nat} {x1 : Int32} {x2 : Int32} {x3 : Int32} {h : jH} {q : Int32 × jH}, mS (oc h) a0 → F_X12_rests_34 n k a0 x1 x2 x3 h = some q → frM a0 [] [] (oc h) (oc q.2) := by
  induction k with
  | zero =>
    intro a0 x1 x2 x3 h q M hf
    cases hf
  | succ k ih =>
    intro a0 x1 x2 x3 h q M hf
    replace hf : F_X12_rests_34_b n (F_X12_rests_34 n k) a0 x1 x2 x3 h = some q := hf
    unfold F_X12_rests_34_b at hf
    replace hf := jite hf
    rcases hf with ⟨-, hf⟩ | ⟨-, hf⟩
    · cases hf
      exact frM_rfl
    · exact (frM_le (FQ_X12_rests_42 ih M hf) (by decide) (by decide))
theorem FQ_X12_rests {n : Nat} {a0 : Nat} {x1 : Int32} {h : jH} {q : Int32 × jH} (M : mS (oc h) a0) (hf : F_X12_rests n a0 x1 h = some q) : frM a0 [] [0] (oc h) (oc q.2) := by
  unfold F_X12_rests at hf
  obtain ⟨h2, e1, hf⟩ := jbind hf
  have f1 : frM a0 [] [0] (oc h) (oc h2) := by rw [(oc_pf e1).1]; exact frM_f (by decide)
  have m1 := mS_fr M f1 (by decide) (by decide)
  obtain ⟨v8, e2, hf⟩ := jbind hf
  replace e2 := (jcv_o e2).2
  obtain ⟨q12, e3, hf⟩ := jbind hf
  replace e3 := (jcv_o e3).2
  have f3 : frM a0 [] [0] (oc h2) (oc q12.2) := frM_le (FQ_X12_throwsIf m1 e3) (by decide) (by decide)
  have m3 := mS_fr m1 f3 (by decide) (by decide)
  replace hf := jite hf
  rcases hf with ⟨-, hf⟩ | ⟨-, hf⟩
  · obtain ⟨v22, e4, hf⟩ := jbind hf
    replace e4 := (jcv_o e4).2
    replace hf := jite hf
    rcases hf with ⟨-, hf⟩ | ⟨-, hf⟩
    · cases hf
      exact (frM_tr f1 f3)
    · exact (frM_tr (frM_tr f1 f3) (frM_le (FQ_X12_rests_34 m3 hf) (by decide) (by decide)))
  · cases hf
    exact (frM_tr f1 f3)
theorem FQ_X12_odds_65 {n : Nat} {k : Nat} : ∀ {a0 : Nat} {x2 : Int32} {x3 : Int32} {x4 : Int32} {x5 : Int32} {h : jH} {q : Int32 × jH}, mS (oc h) a0 → F_X12_odds_65 n k x2 x3 x4 x5 h = some q → frM a0 [] [] (oc h) (oc q.2) := by
  induction k with
  | zero =>
    intro a0 x2 x3 x4 x5 h q M hf
    cases hf
  | succ k ih =>
    intro a0 x2 x3 x4 x5 h q M hf
    replace hf : F_X12_odds_65_b n (F_X12_odds_65 n k) x2 x3 x4 x5 h = some q := hf
    unfold F_X12_odds_65_b at hf
    replace hf := jite hf
    rcases hf with ⟨-, hf⟩ | ⟨-, hf⟩
    · cases hf
      exact frM_rfl
    · exact (frM_le (ih M hf) (by decide) (by decide))
theorem FQ_X12_odds_33 {n : Nat} {a0 : Nat} {x1 : Int32} {x2 : Int32} {sa0 : Nat} {s1 : Int32} {h : jH} {q : Int32 × jH} (hs : a0 = sa0) (M : mS (oc h) a0) (hf : F_X12_odds_33 n a0 x1 x2 sa0 s1 h = some q) : frM a0 [8] [0] (oc h) (oc q.2) := by
  unfold F_X12_odds_33 at hf
  subst hs
  obtain ⟨q34, e1, hf⟩ := jbind hf
  replace e1 := (jcv_o e1).2
  have f1 : frM a0 [8] [0] (oc h) (oc q34.2) := frM_le (FQ_X12_throwsIf M e1) (by decide) (by decide)
  have m1 := mS_fr M f1 (by decide) (by decide)
  replace hf := jite hf
  rcases hf with ⟨-, hf⟩ | ⟨-, hf⟩
  · obtain ⟨q49, e2, hf⟩ := jbind hf
    replace e2 := (jcv_o e2).2
    have f2 : frM a0 [8] [0] (oc q34.2) (oc q49.2) := frM_le (FQ_X12_byLaw m1 e2) (by decide) (by decide)
    have m2 := mS_fr m1 f2 (by decide) (by decide)
    exact (frM_tr (frM_tr f1 f2) (frM_le (FQ_X12_odds_65 m2 hf) (by decide) (by decide)))
  · cases hf
    exact f1
theorem FQ_X12_odds {n : Nat} {a0 : Nat} {x1 : Int32} {x2 : Int32} {h : jH} {q : Int32 × jH} (M : mS (oc h) a0) (hf : F_X12_odds n a0 x1 x2 h = some q) : frM a0 [8] [0] (oc h) (oc q.2) := by
  unfold F_X12_odds at hf
  obtain ⟨h2, e1, hf⟩ := jbind hf
  have f1 : frM a0 [8] [0] (oc h) (oc h2) := by rw [(oc_pf e1).1]; exact frM_f (by decide)
  have m1 := mS_fr M f1 (by decide) (by decide)
  obtain ⟨v8, e2, hf⟩ := jbind hf
  replace e2 := (jcv_o e2).2
  obtain ⟨q12, e3, hf⟩ := jbind hf
  replace e3 := (jcv_o e3).2
  have f3 : frM a0 [8] [0] (oc h2) (oc q12.2) := frM_le (FQ_X12_throwsIf m1 e3) (by decide) (by decide)
  have m3 := mS_fr m1 f3 (by decide) (by decide)
  replace hf := jite hf
  rcases hf with ⟨-, hf⟩ | ⟨-, hf⟩
  · obtain ⟨v22, e4, hf⟩ := jbind hf
    replace hf := jite hf
    rcases hf with ⟨-, hf⟩ | ⟨-, hf⟩
    · exact (frM_tr (frM_tr f1 f3) (frM_le (FQ_X12_odds_33 rfl m3 hf) (by decide) (by decide)))
    · exact (frM_tr (frM_tr f1 f3) (frM_le (FQ_X12_odds_33 rfl m3 hf) (by decide) (by decide)))
  · cases hf
    exact (frM_tr f1 f3)
theorem FQ_X12_ahead {n : Nat} {a0 : Nat} {x1 : Int32} {x2 : Int32} {h : jH} {q : Int32 × jH} (M : mS (oc h) a0) (hf : F_X12_ahead n a0 x1 x2 h = some q) : frM a0 [1, 4, 8] [0] (oc h) (oc q.2) := by
  unfold F_X12_ahead at hf
  obtain ⟨h2, e1, hf⟩ := jbind hf
  have f1 : frM a0 [1, 4, 8] [0] (oc h) (oc h2) := by rw [(oc_pf e1).1]; exact frM_f (by decide)
  have m1 := mS_fr M f1 (by decide) (by decide)
  obtain ⟨v8, e2, hf⟩ := jbind hf
  replace e2 := (jcv_o e2).2
  obtain ⟨q12, e3, hf⟩ := jbind hf
  replace e3 := (jcv_o e3).2
  have f3 : frM a0 [1, 4, 8] [0] (oc h2) (oc q12.2) := frM_le (FQ_X12_throwsIf m1 e3) (by decide) (by decide)
  have m3 := mS_fr m1 f3 (by decide) (by decide)
  replace hf := jite hf
  rcases hf with ⟨-, hf⟩ | ⟨-, hf⟩
  · obtain ⟨v20, e4, hf⟩ := jbind hf
    obtain ⟨q24, e5, hf⟩ := jbind hf
    replace e5 := (jcv_o e5).2
    have f5 : frM a0 [1, 4, 8] [0] (oc q12.2) (oc q24.2) := frM_le (FQ_X12_throwsIf m3 e5) (by decide) (by decide)
    have m5 := mS_fr m3 f5 (by decide) (by decide)
    replace hf := jite hf
    rcases hf with ⟨-, hf⟩ | ⟨-, hf⟩
    · obtain ⟨h33, e6, hf⟩ := jbind hf
      replace e6 := (jcv_o e6).2
      have f6 : frM a0 [1, 4, 8] [0] (oc q24.2) (oc h33) := frM_le (FQ_X12_keepsAll m5 e6) (by decide) (by decide)
      have m6 := mS_fr m5 f6 (by decide) (by decide)
      obtain ⟨q39, e7, hf⟩ := jbind hf
      replace e7 := (jcv_o e7).2
      have f7 : frM a0 [1, 4, 8] [0] (oc h33) (oc q39.2) := frM_le (FQ_X12_goesOn m6 e7) (by decide) (by decide)
      have m7 := mS_fr m6 f7 (by decide) (by decide)
      obtain ⟨v46, e8, hf⟩ := jbind hf
      replace e8 := (jcv_o e8).2
      obtain ⟨h51, e9, hf⟩ := jbind hf
      replace e9 := (jcv_o e9).2
      have f9 : frM a0 [1, 4, 8] [0] (oc q39.2) (oc h51) := frM_le (FQ_X12_bringsBack m7 e9) (by decide) (by decide)
      have m9 := mS_fr m7 f9 (by decide) (by decide)
      cases hf
      exact (frM_tr (frM_tr (frM_tr (frM_tr (frM_tr f1 f3) f5) f6) f7) f9)
    · cases hf
      exact (frM_tr (frM_tr f1 f3) f5)
  · cases hf
    exact (frM_tr f1 f3)
theorem FQ_X12_trial_47 {n : Nat} {a0 : Nat} {s0 : Int32} {h : jH} {q : Int32 × jH} (M : mS (oc h) a0) (hf : F_X12_trial_47 n a0 s0 h = some q) : frM a0 [1] [] (oc h) (oc q.2) := by
  unfold F_X12_trial_47 at hf
  obtain ⟨h49, e1, hf⟩ := jbind hf
  replace e1 := (jcv_o e1).2
  have f1 : frM a0 [1] [] (oc h) (oc h49) := frM_le (FQ_X12_bringsBack M e1) (by decide) (by decide)
  have m1 := mS_fr M f1 (by decide) (by decide)
  cases hf
  exact f1
theorem FQ_X12_trial {n : Nat} {a0 : Nat} {x1 : Int32} {x2 : Int32} {h : jH} {q : Int32 × jH} (M : mS (oc h) a0) (hf : F_X12_trial n a0 x1 x2 h = some q) : frM a0 [1, 4, 8] [0] (oc h) (oc q.2) := by
  unfold F_X12_trial at hf
  obtain ⟨h2, e1, hf⟩ := jbind hf
  have f1 : frM a0 [1, 4, 8] [0] (oc h) (oc h2) := by rw [(oc_pf e1).1]; exact frM_f (by decide)
  have m1 := mS_fr M f1 (by decide) (by decide)
  obtain ⟨v7, e2, hf⟩ := jbind hf
  obtain ⟨q11, e3, hf⟩ := jbind hf
  replace e3 := (jcv_o e3).2
  have f3 : frM a0 [1, 4, 8] [0] (oc h2) (oc q11.2) := frM_le (FQ_X12_throwsIf m1 e3) (by decide) (by decide)
  have m3 := mS_fr m1 f3 (by decide) (by decide)
  replace hf := jite hf
  rcases hf with ⟨-, hf⟩ | ⟨-, hf⟩
  · obtain ⟨h20, e4, hf⟩ := jbind hf
    replace e4 := (jcv_o e4).2
    have f4 : frM a0 [1, 4, 8] [0] (oc q11.2) (oc h20) := frM_le (FQ_X12_keepsAll m3 e4) (by decide) (by decide)
    have m4 := mS_fr m3 f4 (by decide) (by decide)
    obtain ⟨q26, e5, hf⟩ := jbind hf
    replace e5 := (jcv_o e5).2
    have f5 : frM a0 [1, 4, 8] [0] (oc h20) (oc q26.2) := frM_le (FQ_X12_goesOn m4 e5) (by decide) (by decide)
    have m5 := mS_fr m4 f5 (by decide) (by decide)
    replace hf := jite hf
    rcases hf with ⟨-, hf⟩ | ⟨-, hf⟩
    · obtain ⟨v44, e6, hf⟩ := jbind hf
      replace e6 := (jcv_o e6).2
      exact (frM_tr (frM_tr (frM_tr (frM_tr f1 f3) f4) f5) (frM_le (FQ_X12_trial_47 m5 hf) (by decide) (by decide)))
    · obtain ⟨v35, e7, hf⟩ := jbind hf
      replace e7 := (jcv_o e7).2
      exact (frM_tr (frM_tr (frM_tr (frM_tr f1 f3) f4) f5) (frM_le (FQ_X12_trial_47 m5 hf) (by decide) (by decide)))
  · cases hf
    exact (frM_tr f1 f3)
theorem FQ_X12_span_28 {n : Nat} {k : Nat} : ∀ {a0 : Nat} {x1 : Int32} {x2 : Int32} {x3 : Int32} {x4 : Int32} {h : jH} {q : Int32 × jH}, mS (oc h) a0 → F_X12_span_28 n k a0 x1 x2 x3 x4 h = some q → frM a0 [1, 8] [] (oc h) (oc q.2) := by
  induction k with
  | zero =>
    intro a0 x1 x2 x3 x4 h q M hf
    cases hf
  | succ k ih =>
    intro a0 x1 x2 x3 x4 h q M hf
    replace hf : F_X12_span_28_b n (F_X12_span_28 n k) a0 x1 x2 x3 x4 h = some q := hf
    unfold F_X12_span_28_b at hf
    replace hf := jite hf
    rcases hf with ⟨-, hf⟩ | ⟨-, hf⟩
    · cases hf
      exact frM_rfl
    · obtain ⟨p36, e1, hf⟩ := jbind hf
      have r1 := oc_gR e1
      rw [M.1] at r1
      cases r1
      obtain ⟨h43, e2, hf⟩ := jbind hf
      have f2 : frM a0 [1, 8] [] (oc h) (oc h43) := by rw [(oc_as e2).1]; exact frM_c (by decide)
      have m2 := mS_fr M f2 (by decide) (by decide)
      obtain ⟨q47, e3, hf⟩ := jbind hf
      replace e3 := (jcv_o e3).2
      have f3 : frM a0 [1, 8] [] (oc h43) (oc q47.2) := frM_le (FQ_X12_goesOn m2 e3) (by decide) (by decide)
      have m3 := mS_fr m2 f3 (by decide) (by decide)
      obtain ⟨v54, e4, hf⟩ := jbind hf
      replace e4 := (jcv_o e4).2
      obtain ⟨v57, e5, hf⟩ := jbind hf
      obtain ⟨v61, e6, hf⟩ := jbind hf
      replace e6 := (jcv_o e6).2
      obtain ⟨v64, e7, hf⟩ := jbind hf
      obtain ⟨h71, e8, hf⟩ := jbind hf
      replace e8 := (jcv_o e8).2
      have f8 : frM a0 [1, 8] [] (oc q47.2) (oc h71) := frM_le (FQ_X12_bringsBack m3 e8) (by decide) (by decide)
      have m8 := mS_fr m3 f8 (by decide) (by decide)
      replace hf := jite hf
      rcases hf with ⟨-, hf⟩ | ⟨-, hf⟩
      · replace hf := jite hf
        rcases hf with ⟨-, hf⟩ | ⟨-, hf⟩
        · exact (frM_tr (frM_tr (frM_tr f2 f3) f8) (frM_le (ih m8 hf) (by decide) (by decide)))
        · exact (frM_tr (frM_tr (frM_tr f2 f3) f8) (frM_le (ih m8 hf) (by decide) (by decide)))
      · exact (frM_tr (frM_tr (frM_tr f2 f3) f8) (frM_le (ih m8 hf) (by decide) (by decide)))
theorem FQ_X12_span {n : Nat} {a0 : Nat} {x1 : Int32} {x2 : Int32} {h : jH} {q : Int32 × jH} (M : mS (oc h) a0) (hf : F_X12_span n a0 x1 x2 h = some q) : frM a0 [1, 4, 8] [0] (oc h) (oc q.2) := by
  unfold F_X12_span at hf
  obtain ⟨h2, e1, hf⟩ := jbind hf
  have f1 : frM a0 [1, 4, 8] [0] (oc h) (oc h2) := by rw [(oc_pf e1).1]; exact frM_f (by decide)
  have m1 := mS_fr M f1 (by decide) (by decide)
  obtain ⟨v7, e2, hf⟩ := jbind hf
  obtain ⟨q11, e3, hf⟩ := jbind hf
  replace e3 := (jcv_o e3).2
  have f3 : frM a0 [1, 4, 8] [0] (oc h2) (oc q11.2) := frM_le (FQ_X12_throwsIf m1 e3) (by decide) (by decide)
  have m3 := mS_fr m1 f3 (by decide) (by decide)
  replace hf := jite hf
  rcases hf with ⟨-, hf⟩ | ⟨-, hf⟩
  · obtain ⟨h20, e4, hf⟩ := jbind hf
    replace e4 := (jcv_o e4).2
    have f4 : frM a0 [1, 4, 8] [0] (oc q11.2) (oc h20) := frM_le (FQ_X12_keepsAll m3 e4) (by decide) (by decide)
    have m4 := mS_fr m3 f4 (by decide) (by decide)
    exact (frM_tr (frM_tr (frM_tr f1 f3) f4) (frM_le (FQ_X12_span_28 m4 hf) (by decide) (by decide)))
  · cases hf
    exact (frM_tr f1 f3)
theorem FQ_X12_led_36 {n : Nat} {k : Nat} : ∀ {a0 : Nat} {x1 : Int32} {x2 : Int32} {x3 : Int32} {x4 : Int32} {x5 : Int32} {h : jH} {q : Int32 × jH}, mS (oc h) a0 → F_X12_led_36 n k a0 x1 x2 x3 x4 x5 h = some q → frM a0 [] [] (oc h) (oc q.2) := by
  induction k with
  | zero =>
    intro a0 x1 x2 x3 x4 x5 h q M hf
    cases hf
  | succ k ih =>
    intro a0 x1 x2 x3 x4 x5 h q M hf
    replace hf : F_X12_led_36_b n (F_X12_led_36 n k) a0 x1 x2 x3 x4 x5 h = some q := hf
    unfold F_X12_led_36_b at hf
    replace hf := jite hf
    rcases hf with ⟨-, hf⟩ | ⟨-, hf⟩
    · replace hf := jite hf
      rcases hf with ⟨-, hf⟩ | ⟨-, hf⟩
      · cases hf
        exact frM_rfl
      · cases hf
        exact frM_rfl
    · obtain ⟨v45, e1, hf⟩ := jbind hf
      replace e1 := (jcv_o e1).2
      replace hf := jite hf
      rcases hf with ⟨-, hf⟩ | ⟨-, hf⟩
      · obtain ⟨v62, e2, hf⟩ := jbind hf
        replace e2 := (jcv_o e2).2
        exact (frM_le (ih M hf) (by decide) (by decide))
      · exact (frM_le (ih M hf) (by decide) (by decide))
theorem FQ_X12_led {n : Nat} {a0 : Nat} {x1 : Int32} {x2 : Int32} {h : jH} {q : Int32 × jH} (M : mS (oc h) a0) (hf : F_X12_led n a0 x1 x2 h = some q) : frM a0 [] [0] (oc h) (oc q.2) := by
  unfold F_X12_led at hf
  obtain ⟨h2, e1, hf⟩ := jbind hf
  have f1 : frM a0 [] [0] (oc h) (oc h2) := by rw [(oc_pf e1).1]; exact frM_f (by decide)
  have m1 := mS_fr M f1 (by decide) (by decide)
  obtain ⟨v8, e2, hf⟩ := jbind hf
  replace e2 := (jcv_o e2).2
  obtain ⟨q12, e3, hf⟩ := jbind hf
  replace e3 := (jcv_o e3).2
  have f3 : frM a0 [] [0] (oc h2) (oc q12.2) := frM_le (FQ_X12_throwsIf m1 e3) (by decide) (by decide)
  have m3 := mS_fr m1 f3 (by decide) (by decide)
  replace hf := jite hf
  rcases hf with ⟨-, hf⟩ | ⟨-, hf⟩
  · obtain ⟨p26, e4, hf⟩ := jbind hf
    have r4 := oc_gR e4
    rw [m3.1] at r4
    cases r4
    obtain ⟨v31, e5, hf⟩ := jbind hf
    exact (frM_tr (frM_tr f1 f3) (frM_le (FQ_X12_led_36 m3 hf) (by decide) (by decide)))
  · cases hf
    exact (frM_tr f1 f3)
theorem FQ_X12_log_20 {n : Nat} {a0 : Nat} {x1 : Int32} {x2 : Int32} {sa0 : Nat} {s1 : Int32} {h : jH} {q : Int32 × jH} (hs : a0 = sa0) (M : mS (oc h) a0) (hf : F_X12_log_20 n a0 x1 x2 sa0 s1 h = some q) : frM a0 [] [0] (oc h) (oc q.2) := by
  unfold F_X12_log_20 at hf
  subst hs
  obtain ⟨q21, e1, hf⟩ := jbind hf
  replace e1 := (jcv_o e1).2
  have f1 : frM a0 [] [0] (oc h) (oc q21.2) := frM_le (FQ_X12_throwsIf M e1) (by decide) (by decide)
  have m1 := mS_fr M f1 (by decide) (by decide)
  replace hf := jite hf
  rcases hf with ⟨-, hf⟩ | ⟨-, hf⟩
  · obtain ⟨p32, e2, hf⟩ := jbind hf
    have r2 := oc_gR e2
    rw [m1.1] at r2
    cases r2
    obtain ⟨v37, e3, hf⟩ := jbind hf
    obtain ⟨v40, e4, hf⟩ := jbind hf
    replace hf := jite hf
    rcases hf with ⟨-, hf⟩ | ⟨-, hf⟩
    · cases hf
      exact f1
    · obtain ⟨v49, e5, hf⟩ := jbind hf
      replace e5 := (jcv_o e5).2
      cases hf
      exact f1
  · cases hf
    exact f1
theorem FQ_X12_log {n : Nat} {a0 : Nat} {x1 : Int32} {x2 : Int32} {h : jH} {q : Int32 × jH} (M : mS (oc h) a0) (hf : F_X12_log n a0 x1 x2 h = some q) : frM a0 [] [0] (oc h) (oc q.2) := by
  unfold F_X12_log at hf
  obtain ⟨h2, e1, hf⟩ := jbind hf
  have f1 : frM a0 [] [0] (oc h) (oc h2) := by rw [(oc_pf e1).1]; exact frM_f (by decide)
  have m1 := mS_fr M f1 (by decide) (by decide)
  obtain ⟨v9, e2, hf⟩ := jbind hf
  replace hf := jite hf
  rcases hf with ⟨-, hf⟩ | ⟨-, hf⟩
  · exact (frM_tr f1 (frM_le (FQ_X12_log_20 rfl m1 hf) (by decide) (by decide)))
  · exact (frM_tr f1 (frM_le (FQ_X12_log_20 rfl m1 hf) (by decide) (by decide)))
theorem FQ_X12_best_113 {n : Nat} {rc14 : Nat → Int32 → Int32 → Int32 → jH → Option (Int32 × jH)} (hrc14 : ∀ {z0 : Nat} {z1 : Int32} {z2 : Int32} {z3 : Int32} {h : jH} {q : Int32 × jH}, mS (oc h) z0 → rc14 z0 z1 z2 z3 h = some q → frM z0 [1, 4] [18] (oc h) (oc q.2)) {a0 : Nat} {x1 : Int32} {x2 : Int32} {x3 : Int32} {h : jH} {q : Int32 × jH} (M : mS (oc h) a0) (hf : F_X12_best_113 n rc14 a0 x1 x2 x3 h = some q) : frM a0 [1, 4] [18] (oc h) (oc q.2) := by
  unfold F_X12_best_113 at hf
  obtain ⟨h114, e1, hf⟩ := jbind hf
  replace e1 := (jcv_o e1).2
  have f1 : frM a0 [1, 4] [18] (oc h) (oc h114) := frM_le (FQ_X12_bringsBack M e1) (by decide) (by decide)
  have m1 := mS_fr M f1 (by decide) (by decide)
  exact (frM_tr f1 (frM_le (hrc14 m1 hf) (by decide) (by decide)))
theorem FQ_X12_best_99 {n : Nat} {rc14 : Nat → Int32 → Int32 → Int32 → jH → Option (Int32 × jH)} (hrc14 : ∀ {z0 : Nat} {z1 : Int32} {z2 : Int32} {z3 : Int32} {h : jH} {q : Int32 × jH}, mS (oc h) z0 → rc14 z0 z1 z2 z3 h = some q → frM z0 [1, 4] [18] (oc h) (oc q.2)) {rc34 : Nat → Int32 → Int32 → Int32 → Int32 → Int32 → jH → Option (Int32 × jH)} (hrc34 : ∀ {z0 : Nat} {z1 : Int32} {z2 : Int32} {z3 : Int32} {z4 : Int32} {z5 : Int32} {h : jH} {q : Int32 × jH}, mS (oc h) z0 → rc34 z0 z1 z2 z3 z4 z5 h = some q → frM z0 [1, 4] [18] (oc h) (oc q.2)) {a0 : Nat} {x2 : Int32} {x3 : Int32} {x4 : Int32} {x5 : Int32} {x6 : Int32} {s0 : Int32} {h : jH} {q : Int32 × jH} (M : mS (oc h) a0) (hf : F_X12_best_99 n rc14 rc34 a0 x2 x3 x4 x5 x6 s0 h = some q) : frM a0 [1, 4] [18] (oc h) (oc q.2) := by
  unfold F_X12_best_99 at hf
  exact (frM_le (hrc34 M hf) (by decide) (by decide))
theorem FQ_X12_best_62 {n : Nat} {rc14 : Nat → Int32 → Int32 → Int32 → jH → Option (Int32 × jH)} (hrc14 : ∀ {z0 : Nat} {z1 : Int32} {z2 : Int32} {z3 : Int32} {h : jH} {q : Int32 × jH}, mS (oc h) z0 → rc14 z0 z1 z2 z3 h = some q → frM z0 [1, 4] [18] (oc h) (oc q.2)) {rc34 : Nat → Int32 → Int32 → Int32 → Int32 → Int32 → jH → Option (Int32 × jH)} (hrc34 : ∀ {z0 : Nat} {z1 : Int32} {z2 : Int32} {z3 : Int32} {z4 : Int32} {z5 : Int32} {h : jH} {q : Int32 × jH}, mS (oc h) z0 → rc34 z0 z1 z2 z3 z4 z5 h = some q → frM z0 [1, 4] [18] (oc h) (oc q.2)) {a0 : Nat} {x1 : Int32} {x2 : Int32} {x3 : Int32} {x5 : Int32} {sa0 : Nat} {s1 : Int32} {s2 : Int32} {h : jH} {q : Int32 × jH} (hs : a0 = sa0) (M : mS (oc h) a0) (hf : F_X12_best_62 n rc14 rc34 a0 x1 x2 x3 x5 sa0 s1 s2 h = some q) : frM a0 [1, 4] [18] (oc h) (oc q.2) := by
  unfold F_X12_best_62 at hf
  subst hs
  obtain ⟨q62, e1, hf⟩ := jbind hf
  replace e1 := (jcv_o e1).2
  have f1 : frM a0 [1, 4] [18] (oc h) (oc q62.2) := frM_le (FQ_X12_goesOne M e1) (by decide) (by decide)
  have m1 := mS_fr M f1 (by decide) (by decide)
  replace hf := jite hf
  rcases hf with ⟨-, hf⟩ | ⟨-, hf⟩
  · replace hf := jite hf
    rcases hf with ⟨-, hf⟩ | ⟨-, hf⟩
    · exact (frM_tr f1 (frM_le (FQ_X12_best_99 hrc14 hrc34 m1 hf) (by decide) (by decide)))
    · exact (frM_tr f1 (frM_le (FQ_X12_best_99 hrc14 hrc34 m1 hf) (by decide) (by decide)))
  · obtain ⟨v73, e2, hf⟩ := jbind hf
    replace e2 := (jcv_o e2).2
    replace hf := jite hf
    rcases hf with ⟨-, hf⟩ | ⟨-, hf⟩
    · exact (frM_tr f1 (frM_le (FQ_X12_best_99 hrc14 hrc34 m1 hf) (by decide) (by decide)))
    · exact (frM_tr f1 (frM_le (FQ_X12_best_99 hrc14 hrc34 m1 hf) (by decide) (by decide)))
theorem FQ_X12_best_34 {n : Nat} {rc14 : Nat → Int32 → Int32 → Int32 → jH → Option (Int32 × jH)} (hrc14 : ∀ {z0 : Nat} {z1 : Int32} {z2 : Int32} {z3 : Int32} {h : jH} {q : Int32 × jH}, mS (oc h) z0 → rc14 z0 z1 z2 z3 h = some q → frM z0 [1, 4] [18] (oc h) (oc q.2)) {k : Nat} : ∀ {a0 : Nat} {x1 : Int32} {x2 : Int32} {x3 : Int32} {x4 : Int32} {x5 : Int32} {h : jH} {q : Int32 × jH}, mS (oc h) a0 → F_X12_best_34 n rc14 k a0 x1 x2 x3 x4 x5 h = some q → frM a0 [1, 4] [18] (oc h) (oc q.2) := by
  induction k with
  | zero =>
    intro a0 x1 x2 x3 x4 x5 h q M hf
    cases hf
  | succ k ih =>
    intro a0 x1 x2 x3 x4 x5 h q M hf
    replace hf : F_X12_best_34_b n rc14 (F_X12_best_34 n rc14 k) a0 x1 x2 x3 x4 x5 h = some q := hf
    unfold F_X12_best_34_b at hf
    replace hf := jite hf
    rcases hf with ⟨-, hf⟩ | ⟨-, hf⟩
    · exact (frM_le (FQ_X12_best_113 hrc14 M hf) (by decide) (by decide))
    · replace hf := jite hf
      rcases hf with ⟨-, hf⟩ | ⟨-, hf⟩
      · exact (frM_le (FQ_X12_best_113 hrc14 M hf) (by decide) (by decide))
      · replace hf := jite hf
        rcases hf with ⟨-, hf⟩ | ⟨-, hf⟩
        · exact (frM_le (FQ_X12_best_62 hrc14 ih rfl M hf) (by decide) (by decide))
        · exact (frM_le (FQ_X12_best_62 hrc14 ih rfl M hf) (by decide) (by decide))
theorem FQ_X12_best_14 {n : Nat} {k : Nat} : ∀ {a0 : Nat} {x1 : Int32} {x2 : Int32} {x3 : Int32} {h : jH} {q : Int32 × jH}, mS (oc h) a0 → F_X12_best_14 n k a0 x1 x2 x3 h = some q → frM a0 [1, 4] [18] (oc h) (oc q.2) := by
  induction k with
  | zero =>
    intro a0 x1 x2 x3 h q M hf
    cases hf
  | succ k ih =>
    intro a0 x1 x2 x3 h q M hf
    replace hf : F_X12_best_14_b n (F_X12_best_14 n k) a0 x1 x2 x3 h = some q := hf
    unfold F_X12_best_14_b at hf
    obtain ⟨v17, e1, hf⟩ := jbind hf
    replace e1 := (jcv_o e1).2
    replace hf := jite hf
    rcases hf with ⟨-, hf⟩ | ⟨-, hf⟩
    · cases hf
      exact frM_rfl
    · obtain ⟨h28, e2, hf⟩ := jbind hf
      replace e2 := (jcv_o e2).2
      have f2 : frM a0 [1, 4] [18] (oc h) (oc h28) := frM_le (FQ_X12_keepsAll M e2) (by decide) (by decide)
      have m2 := mS_fr M f2 (by decide) (by decide)
      exact (frM_tr f2 (frM_le (FQ_X12_best_34 ih m2 hf) (by decide) (by decide)))
theorem FQ_X12_best {n : Nat} {a0 : Nat} {h : jH} {q : Int32 × jH} (M : mS (oc h) a0) (hf : F_X12_best n a0 h = some q) : frM a0 [1, 4] [0, 18] (oc h) (oc q.2) := by
  unfold F_X12_best at hf
  obtain ⟨h2, e1, hf⟩ := jbind hf
  have f1 : frM a0 [1, 4] [0, 18] (oc h) (oc h2) := by rw [(oc_pf e1).1]; exact frM_f (by decide)
  have m1 := mS_fr M f1 (by decide) (by decide)
  obtain ⟨v8, e2, hf⟩ := jbind hf
  replace e2 := (jcv_o e2).2
  exact (frM_tr f1 (frM_le (FQ_X12_best_14 m1 hf) (by decide) (by decide)))
theorem FQ_X12_stepsTo_72 {n : Nat} {a0 : Nat} {x4 : Int32} {h : jH} {q : Int32 × jH} (M : mS (oc h) a0) (hf : F_X12_stepsTo_72 n a0 x4 h = some q) : frM a0 [1] [] (oc h) (oc q.2) := by
  unfold F_X12_stepsTo_72 at hf
  obtain ⟨h73, e1, hf⟩ := jbind hf
  replace e1 := (jcv_o e1).2
  have f1 : frM a0 [1] [] (oc h) (oc h73) := frM_le (FQ_X12_bringsBack M e1) (by decide) (by decide)
  have m1 := mS_fr M f1 (by decide) (by decide)
  cases hf
  exact f1
theorem FQ_X12_stepsTo_15 {n : Nat} {k : Nat} : ∀ {a0 : Nat} {x1 : Int32} {x2 : Int32} {x3 : Int32} {x4 : Int32} {x5 : Int32} {x6 : Int32} {h : jH} {q : Int32 × jH}, mS (oc h) a0 → F_X12_stepsTo_15 n k a0 x1 x2 x3 x4 x5 x6 h = some q → frM a0 [1] [18] (oc h) (oc q.2) := by
  induction k with
  | zero =>
    intro a0 x1 x2 x3 x4 x5 x6 h q M hf
    cases hf
  | succ k ih =>
    intro a0 x1 x2 x3 x4 x5 x6 h q M hf
    replace hf : F_X12_stepsTo_15_b n (F_X12_stepsTo_15 n k) a0 x1 x2 x3 x4 x5 x6 h = some q := hf
    unfold F_X12_stepsTo_15_b at hf
    replace hf := jite hf
    rcases hf with ⟨-, hf⟩ | ⟨-, hf⟩
    · exact (frM_le (FQ_X12_stepsTo_72 M hf) (by decide) (by decide))
    · replace hf := jite hf
      rcases hf with ⟨-, hf⟩ | ⟨-, hf⟩
      · exact (frM_le (FQ_X12_stepsTo_72 M hf) (by decide) (by decide))
      · replace hf := jite hf
        rcases hf with ⟨-, hf⟩ | ⟨-, hf⟩
        · obtain ⟨q38, e1, hf⟩ := jbind hf
          replace e1 := (jcv_o e1).2
          have f1 : frM a0 [1] [18] (oc h) (oc q38.2) := frM_le (FQ_X12_goesOne M e1) (by decide) (by decide)
          have m1 := mS_fr M f1 (by decide) (by decide)
          replace hf := jite hf
          rcases hf with ⟨-, hf⟩ | ⟨-, hf⟩
          · exact (frM_tr f1 (frM_le (ih m1 hf) (by decide) (by decide)))
          · obtain ⟨v50, e2, hf⟩ := jbind hf
            replace e2 := (jcv_o e2).2
            replace hf := jite hf
            rcases hf with ⟨-, hf⟩ | ⟨-, hf⟩
            · exact (frM_tr f1 (frM_le (ih m1 hf) (by decide) (by decide)))
            · exact (frM_tr f1 (frM_le (ih m1 hf) (by decide) (by decide)))
        · exact (frM_le (FQ_X12_stepsTo_72 M hf) (by decide) (by decide))
theorem FQ_X12_stepsTo {n : Nat} {a0 : Nat} {x1 : Int32} {x2 : Int32} {x3 : Int32} {h : jH} {q : Int32 × jH} (M : mS (oc h) a0) (hf : F_X12_stepsTo n a0 x1 x2 x3 h = some q) : frM a0 [1, 4] [18] (oc h) (oc q.2) := by
  unfold F_X12_stepsTo at hf
  obtain ⟨h9, e1, hf⟩ := jbind hf
  replace e1 := (jcv_o e1).2
  have f1 : frM a0 [1, 4] [18] (oc h) (oc h9) := frM_le (FQ_X12_keepsAll M e1) (by decide) (by decide)
  have m1 := mS_fr M f1 (by decide) (by decide)
  exact (frM_tr f1 (frM_le (FQ_X12_stepsTo_15 m1 hf) (by decide) (by decide)))
theorem FQ_X12_fewestTo_58 {n : Nat} {rc10 : Nat → Int32 → Int32 → Int32 → Int32 → Int32 → jH → Option (Int32 × jH)} (hrc10 : ∀ {z0 : Nat} {z1 : Int32} {z2 : Int32} {z3 : Int32} {z4 : Int32} {z5 : Int32} {h : jH} {q : Int32 × jH}, mS (oc h) z0 → rc10 z0 z1 z2 z3 z4 z5 h = some q → frM z0 [1, 4] [18] (oc h) (oc q.2)) {a0 : Nat} {x1 : Int32} {x2 : Int32} {x4 : Int32} {x5 : Int32} {x6 : Int32} {s0 : Int32} {h : jH} {q : Int32 × jH} (M : mS (oc h) a0) (hf : F_X12_fewestTo_58 n rc10 a0 x1 x2 x4 x5 x6 s0 h = some q) : frM a0 [1, 4] [18] (oc h) (oc q.2) := by
  unfold F_X12_fewestTo_58 at hf
  exact (frM_le (hrc10 M hf) (by decide) (by decide))
theorem FQ_X12_fewestTo_40 {n : Nat} {rc10 : Nat → Int32 → Int32 → Int32 → Int32 → Int32 → jH → Option (Int32 × jH)} (hrc10 : ∀ {z0 : Nat} {z1 : Int32} {z2 : Int32} {z3 : Int32} {z4 : Int32} {z5 : Int32} {h : jH} {q : Int32 × jH}, mS (oc h) z0 → rc10 z0 z1 z2 z3 z4 z5 h = some q → frM z0 [1, 4] [18] (oc h) (oc q.2)) {a0 : Nat} {x1 : Int32} {x2 : Int32} {x3 : Int32} {x4 : Int32} {x5 : Int32} {sa0 : Nat} {s1 : Int32} {s2 : Int32} {s3 : Int32} {h : jH} {q : Int32 × jH} (hs : a0 = sa0) (M : mS (oc h) a0) (hf : F_X12_fewestTo_40 n rc10 a0 x1 x2 x3 x4 x5 sa0 s1 s2 s3 h = some q) : frM a0 [1, 4] [18] (oc h) (oc q.2) := by
  unfold F_X12_fewestTo_40 at hf
  subst hs
  obtain ⟨q40, e1, hf⟩ := jbind hf
  replace e1 := (jcv_o e1).2
  have f1 : frM a0 [1, 4] [18] (oc h) (oc q40.2) := frM_le (FQ_X12_stepsTo M e1) (by decide) (by decide)
  have m1 := mS_fr M f1 (by decide) (by decide)
  replace hf := jite hf
  rcases hf with ⟨-, hf⟩ | ⟨-, hf⟩
  · exact (frM_tr f1 (frM_le (FQ_X12_fewestTo_58 hrc10 m1 hf) (by decide) (by decide)))
  · exact (frM_tr f1 (frM_le (FQ_X12_fewestTo_58 hrc10 m1 hf) (by decide) (by decide)))
theorem FQ_X12_fewestTo_10 {n : Nat} {k : Nat} : ∀ {a0 : Nat} {x1 : Int32} {x2 : Int32} {x3 : Int32} {x4 : Int32} {x5 : Int32} {h : jH} {q : Int32 × jH}, mS (oc h) a0 → F_X12_fewestTo_10 n k a0 x1 x2 x3 x4 x5 h = some q → frM a0 [1, 4] [18] (oc h) (oc q.2) := by
  induction k with
  | zero =>
    intro a0 x1 x2 x3 x4 x5 h q M hf
    cases hf
  | succ k ih =>
    intro a0 x1 x2 x3 x4 x5 h q M hf
    replace hf : F_X12_fewestTo_10_b n (F_X12_fewestTo_10 n k) a0 x1 x2 x3 x4 x5 h = some q := hf
    unfold F_X12_fewestTo_10_b at hf
    obtain ⟨v14, e1, hf⟩ := jbind hf
    replace e1 := (jcv_o e1).2
    replace hf := jite hf
    rcases hf with ⟨-, hf⟩ | ⟨-, hf⟩
    · replace hf := jite hf
      rcases hf with ⟨-, hf⟩ | ⟨-, hf⟩
      · replace hf := jite hf
        rcases hf with ⟨-, hf⟩ | ⟨-, hf⟩
        · cases hf
          exact frM_rfl
        · cases hf
          exact frM_rfl
      · cases hf
        exact frM_rfl
    · replace hf := jite hf
      rcases hf with ⟨-, hf⟩ | ⟨-, hf⟩
      · exact (frM_le (FQ_X12_fewestTo_40 ih rfl M hf) (by decide) (by decide))
      · exact (frM_le (FQ_X12_fewestTo_40 ih rfl M hf) (by decide) (by decide))
theorem FQ_X12_fewestTo {n : Nat} {a0 : Nat} {x1 : Int32} {x2 : Int32} {h : jH} {q : Int32 × jH} (M : mS (oc h) a0) (hf : F_X12_fewestTo n a0 x1 x2 h = some q) : frM a0 [1, 4] [18] (oc h) (oc q.2) := by
  unfold F_X12_fewestTo at hf
  exact (frM_le (FQ_X12_fewestTo_10 M hf) (by decide) (by decide))
theorem FQ_X12_fewest {n : Nat} {a0 : Nat} {x1 : Int32} {h : jH} {q : Int32 × jH} (M : mS (oc h) a0) (hf : F_X12_fewest n a0 x1 h = some q) : frM a0 [1, 4] [0, 18] (oc h) (oc q.2) := by
  unfold F_X12_fewest at hf
  obtain ⟨h2, e1, hf⟩ := jbind hf
  have f1 : frM a0 [1, 4] [0, 18] (oc h) (oc h2) := by rw [(oc_pf e1).1]; exact frM_f (by decide)
  have m1 := mS_fr M f1 (by decide) (by decide)
  obtain ⟨v7, e2, hf⟩ := jbind hf
  replace e2 := (jcv_o e2).2
  replace hf := jite hf
  rcases hf with ⟨-, hf⟩ | ⟨-, hf⟩
  · obtain ⟨q20, e3, hf⟩ := jbind hf
    replace e3 := (jcv_o e3).2
    have f3 : frM a0 [1, 4] [0, 18] (oc h2) (oc q20.2) := frM_le (FQ_X12_fewestTo m1 e3) (by decide) (by decide)
    have m3 := mS_fr m1 f3 (by decide) (by decide)
    cases hf
    exact (frM_tr f1 f3)
  · cases hf
    exact f1
theorem FQ_X12_first {n : Nat} {a0 : Nat} {x1 : Int32} {h : jH} {q : Int32 × jH} (M : mS (oc h) a0) (hf : F_X12_first n a0 x1 h = some q) : frM a0 [1, 4] [0, 18] (oc h) (oc q.2) := by
  unfold F_X12_first at hf
  obtain ⟨h2, e1, hf⟩ := jbind hf
  have f1 : frM a0 [1, 4] [0, 18] (oc h) (oc h2) := by rw [(oc_pf e1).1]; exact frM_f (by decide)
  have m1 := mS_fr M f1 (by decide) (by decide)
  obtain ⟨v7, e2, hf⟩ := jbind hf
  replace e2 := (jcv_o e2).2
  replace hf := jite hf
  rcases hf with ⟨-, hf⟩ | ⟨-, hf⟩
  · obtain ⟨q20, e3, hf⟩ := jbind hf
    replace e3 := (jcv_o e3).2
    have f3 : frM a0 [1, 4] [0, 18] (oc h2) (oc q20.2) := frM_le (FQ_X12_fewestTo m1 e3) (by decide) (by decide)
    have m3 := mS_fr m1 f3 (by decide) (by decide)
    cases hf
    exact (frM_tr f1 f3)
  · cases hf
    exact f1
theorem FQ_X12_pale_49 {n : Nat} {a0 : Nat} {x1 : Int32} {h : jH} {q : Int32 × jH} (M : mS (oc h) a0) (hf : F_X12_pale_49 n a0 x1 h = some q) : frM a0 [1] [] (oc h) (oc q.2) := by
  unfold F_X12_pale_49 at hf
  obtain ⟨h50, e1, hf⟩ := jbind hf
  replace e1 := (jcv_o e1).2
  have f1 : frM a0 [1] [] (oc h) (oc h50) := frM_le (FQ_X12_bringsBack M e1) (by decide) (by decide)
  have m1 := mS_fr M f1 (by decide) (by decide)
  cases hf
  exact f1
theorem FQ_X12_pale_36 {n : Nat} {rc13 : Nat → Int32 → Int32 → jH → Option (Int32 × jH)} (hrc13 : ∀ {z0 : Nat} {z1 : Int32} {z2 : Int32} {h : jH} {q : Int32 × jH}, mS (oc h) z0 → rc13 z0 z1 z2 h = some q → frM z0 [1, 8] [] (oc h) (oc q.2)) {a0 : Nat} {x2 : Int32} {s0 : Int32} {h : jH} {q : Int32 × jH} (M : mS (oc h) a0) (hf : F_X12_pale_36 n rc13 a0 x2 s0 h = some q) : frM a0 [1, 8] [] (oc h) (oc q.2) := by
  unfold F_X12_pale_36 at hf
  obtain ⟨q39, e1, hf⟩ := jbind hf
  replace e1 := (jcv_o e1).2
  have f1 : frM a0 [1, 8] [] (oc h) (oc q39.2) := frM_le (FQ_X12_oneHour M e1) (by decide) (by decide)
  have m1 := mS_fr M f1 (by decide) (by decide)
  exact (frM_tr f1 (frM_le (hrc13 m1 hf) (by decide) (by decide)))
theorem FQ_X12_pale_13 {n : Nat} {k : Nat} : ∀ {a0 : Nat} {x1 : Int32} {x2 : Int32} {h : jH} {q : Int32 × jH}, mS (oc h) a0 → F_X12_pale_13 n k a0 x1 x2 h = some q → frM a0 [1, 8] [] (oc h) (oc q.2) := by
  induction k with
  | zero =>
    intro a0 x1 x2 h q M hf
    cases hf
  | succ k ih =>
    intro a0 x1 x2 h q M hf
    replace hf : F_X12_pale_13_b n (F_X12_pale_13 n k) a0 x1 x2 h = some q := hf
    unfold F_X12_pale_13_b at hf
    replace hf := jite hf
    rcases hf with ⟨-, hf⟩ | ⟨-, hf⟩
    · exact (frM_le (FQ_X12_pale_49 M hf) (by decide) (by decide))
    · replace hf := jite hf
      rcases hf with ⟨-, hf⟩ | ⟨-, hf⟩
      · obtain ⟨v25, e1, hf⟩ := jbind hf
        replace e1 := (jcv_o e1).2
        replace hf := jite hf
        rcases hf with ⟨-, hf⟩ | ⟨-, hf⟩
        · exact (frM_le (FQ_X12_pale_36 ih M hf) (by decide) (by decide))
        · exact (frM_le (FQ_X12_pale_36 ih M hf) (by decide) (by decide))
      · exact (frM_le (FQ_X12_pale_49 M hf) (by decide) (by decide))
theorem FQ_X12_pale {n : Nat} {a0 : Nat} {h : jH} {q : Int32 × jH} (M : mS (oc h) a0) (hf : F_X12_pale n a0 h = some q) : frM a0 [1, 4, 8] [0] (oc h) (oc q.2) := by
  unfold F_X12_pale at hf
  obtain ⟨h2, e1, hf⟩ := jbind hf
  have f1 : frM a0 [1, 4, 8] [0] (oc h) (oc h2) := by rw [(oc_pf e1).1]; exact frM_f (by decide)
  have m1 := mS_fr M f1 (by decide) (by decide)
  obtain ⟨h8, e2, hf⟩ := jbind hf
  replace e2 := (jcv_o e2).2
  have f2 : frM a0 [1, 4, 8] [0] (oc h2) (oc h8) := frM_le (FQ_X12_keepsAll m1 e2) (by decide) (by decide)
  have m2 := mS_fr m1 f2 (by decide) (by decide)
  exact (frM_tr (frM_tr f1 f2) (frM_le (FQ_X12_pale_13 m2 hf) (by decide) (by decide)))
theorem FQ_X12_fault {n : Nat} {a0 : Nat} {h : jH} {q : Int32 × jH} (M : mS (oc h) a0) (hf : F_X12_fault n a0 h = some q) : frM a0 [] [0] (oc h) (oc q.2) := by
  unfold F_X12_fault at hf
  obtain ⟨h2, e1, hf⟩ := jbind hf
  have f1 : frM a0 [] [0] (oc h) (oc h2) := by rw [(oc_pf e1).1]; exact frM_f (by decide)
  have m1 := mS_fr M f1 (by decide) (by decide)
  obtain ⟨v6, e2, hf⟩ := jbind hf
  cases hf
  exact f1
theorem FQ_X12_shade {n : Nat} {a0 : Nat} {h : jH} {q : Int32 × jH} (M : mS (oc h) a0) (hf : F_X12_shade n a0 h = some q) : frM a0 [] [0] (oc h) (oc q.2) := by
  unfold F_X12_shade at hf
  obtain ⟨h2, e1, hf⟩ := jbind hf
  have f1 : frM a0 [] [0] (oc h) (oc h2) := by rw [(oc_pf e1).1]; exact frM_f (by decide)
  have m1 := mS_fr M f1 (by decide) (by decide)
  obtain ⟨v6, e2, hf⟩ := jbind hf
  replace e2 := (jcv_o e2).2
  cases hf
  exact f1
theorem FQ_X12_dark {n : Nat} {a0 : Nat} {h : jH} {q : Int32 × jH} (M : mS (oc h) a0) (hf : F_X12_dark n a0 h = some q) : frM a0 [] [0] (oc h) (oc q.2) := by
  unfold F_X12_dark at hf
  obtain ⟨h2, e1, hf⟩ := jbind hf
  have f1 : frM a0 [] [0] (oc h) (oc h2) := by rw [(oc_pf e1).1]; exact frM_f (by decide)
  have m1 := mS_fr M f1 (by decide) (by decide)
  obtain ⟨v6, e2, hf⟩ := jbind hf
  replace e2 := (jcv_o e2).2
  cases hf
  exact f1
theorem FQ_X12_bare {n : Nat} {a0 : Nat} {h : jH} {q : Int32 × jH} (M : mS (oc h) a0) (hf : F_X12_bare n a0 h = some q) : frM a0 [] [0] (oc h) (oc q.2) := by
  unfold F_X12_bare at hf
  obtain ⟨h2, e1, hf⟩ := jbind hf
  have f1 : frM a0 [] [0] (oc h) (oc h2) := by rw [(oc_pf e1).1]; exact frM_f (by decide)
  have m1 := mS_fr M f1 (by decide) (by decide)
  obtain ⟨p6, e2, hf⟩ := jbind hf
  have r2 := oc_gR e2
  rw [m1.1] at r2
  cases r2
  obtain ⟨v11, e3, hf⟩ := jbind hf
  obtain ⟨v13, e4, hf⟩ := jbind hf
  replace e4 := (jcv_o e4).2
  cases hf
  exact f1
theorem FQ_X12_order_26 {n : Nat} {rc9 : Nat → Int32 → Int32 → jH → Option (Int32 × jH)} (hrc9 : ∀ {z0 : Nat} {z1 : Int32} {z2 : Int32} {h : jH} {q : Int32 × jH}, mS (oc h) z0 → rc9 z0 z1 z2 h = some q → frM z0 [11] [] (oc h) (oc q.2)) {k : Nat} : ∀ {a0 : Nat} {x1 : Int32} {x2 : Int32} {x3 : Int32} {h : jH} {q : Int32 × jH}, mS (oc h) a0 → F_X12_order_26 n rc9 k a0 x1 x2 x3 h = some q → frM a0 [11] [] (oc h) (oc q.2) := by
  induction k with
  | zero =>
    intro a0 x1 x2 x3 h q M hf
    cases hf
  | succ k ih =>
    intro a0 x1 x2 x3 h q M hf
    replace hf : F_X12_order_26_b n rc9 (F_X12_order_26 n rc9 k) a0 x1 x2 x3 h = some q := hf
    unfold F_X12_order_26_b at hf
    replace hf := jite hf
    rcases hf with ⟨-, hf⟩ | ⟨-, hf⟩
    · obtain ⟨p86, e1, hf⟩ := jbind hf
      have r1 := oc_gR e1
      rw [M.2.2.2.2.2.2.2.2.2.2] at r1
      cases r1
      obtain ⟨v90, e2, hf⟩ := jbind hf
      exact (frM_le (hrc9 M hf) (by decide) (by decide))
    · obtain ⟨p32, e3, hf⟩ := jbind hf
      have r3 := oc_gR e3
      rw [M.2.2.2.2.2.2.2.2.2.2] at r3
      cases r3
      obtain ⟨v39, e4, hf⟩ := jbind hf
      replace e4 := (jcv_o e4).2
      obtain ⟨v45, e5, hf⟩ := jbind hf
      replace e5 := (jcv_o e5).2
      replace hf := jite hf
      rcases hf with ⟨-, hf⟩ | ⟨-, hf⟩
      · obtain ⟨p72, e6, hf⟩ := jbind hf
        have r6 := oc_gR e6
        rw [M.2.2.2.2.2.2.2.2.2.2] at r6
        cases r6
        obtain ⟨v76, e7, hf⟩ := jbind hf
        obtain ⟨h77, e8, hf⟩ := jbind hf
        have f8 : frM a0 [11] [] (oc h) (oc h77) := by rw [(oc_as e8).1]; exact frM_c (by decide)
        have m8 := mS_fr M f8 (by decide) (by decide)
        exact (frM_tr f8 (frM_le (ih m8 hf) (by decide) (by decide)))
      · obtain ⟨p52, e9, hf⟩ := jbind hf
        have r9 := oc_gR e9
        rw [M.2.2.2.2.2.2.2.2.2.2] at r9
        cases r9
        obtain ⟨v56, e10, hf⟩ := jbind hf
        obtain ⟨p58, e11, hf⟩ := jbind hf
        have r11 := oc_gR e11
        rw [M.2.2.2.2.2.2.2.2.2.2] at r11
        cases r11
        obtain ⟨v62, e12, hf⟩ := jbind hf
        obtain ⟨h77, e13, hf⟩ := jbind hf
        have f13 : frM a0 [11] [] (oc h) (oc h77) := by rw [(oc_as e13).1]; exact frM_c (by decide)
        have m13 := mS_fr M f13 (by decide) (by decide)
        exact (frM_tr f13 (frM_le (ih m13 hf) (by decide) (by decide)))
theorem FQ_X12_order_9 {n : Nat} {k : Nat} : ∀ {a0 : Nat} {x1 : Int32} {x2 : Int32} {h : jH} {q : Int32 × jH}, mS (oc h) a0 → F_X12_order_9 n k a0 x1 x2 h = some q → frM a0 [11] [] (oc h) (oc q.2) := by
  induction k with
  | zero =>
    intro a0 x1 x2 h q M hf
    cases hf
  | succ k ih =>
    intro a0 x1 x2 h q M hf
    replace hf : F_X12_order_9_b n (F_X12_order_9 n k) a0 x1 x2 h = some q := hf
    unfold F_X12_order_9_b at hf
    obtain ⟨v11, e1, hf⟩ := jbind hf
    replace e1 := (jcv_o e1).2
    replace hf := jite hf
    rcases hf with ⟨-, hf⟩ | ⟨-, hf⟩
    · obtain ⟨v102, e2, hf⟩ := jbind hf
      replace e2 := (jcv_o e2).2
      cases hf
      exact frM_rfl
    · obtain ⟨p18, e3, hf⟩ := jbind hf
      have r3 := oc_gR e3
      rw [M.2.2.2.2.2.2.2.2.2.2] at r3
      cases r3
      obtain ⟨h23, e4, hf⟩ := jbind hf
      have f4 : frM a0 [11] [] (oc h) (oc h23) := by rw [(oc_as e4).1]; exact frM_c (by decide)
      have m4 := mS_fr M f4 (by decide) (by decide)
      exact (frM_tr f4 (frM_le (FQ_X12_order_26 ih m4 hf) (by decide) (by decide)))
theorem FQ_X12_order {n : Nat} {a0 : Nat} {h : jH} {q : Int32 × jH} (M : mS (oc h) a0) (hf : F_X12_order n a0 h = some q) : frM a0 [11] [0] (oc h) (oc q.2) := by
  unfold F_X12_order at hf
  obtain ⟨h2, e1, hf⟩ := jbind hf
  have f1 : frM a0 [11] [0] (oc h) (oc h2) := by rw [(oc_pf e1).1]; exact frM_f (by decide)
  have m1 := mS_fr M f1 (by decide) (by decide)
  exact (frM_tr f1 (frM_le (FQ_X12_order_9 m1 hf) (by decide) (by decide)))
theorem FQ_X12_slack_9 {n : Nat} {k : Nat} : ∀ {a0 : Nat} {x1 : Int32} {x2 : Int32} {h : jH} {q : Int32 × jH}, mS (oc h) a0 → F_X12_slack_9 n k a0 x1 x2 h = some q → frM a0 [] [] (oc h) (oc q.2) := by
  induction k with
  | zero =>
    intro a0 x1 x2 h q M hf
    cases hf
  | succ k ih =>
    intro a0 x1 x2 h q M hf
    replace hf : F_X12_slack_9_b n (F_X12_slack_9 n k) a0 x1 x2 h = some q := hf
    unfold F_X12_slack_9_b at hf
    obtain ⟨v11, e1, hf⟩ := jbind hf
    replace e1 := (jcv_o e1).2
    replace hf := jite hf
    rcases hf with ⟨-, hf⟩ | ⟨-, hf⟩
    · cases hf
      exact frM_rfl
    · obtain ⟨v21, e2, hf⟩ := jbind hf
      replace e2 := (jcv_o e2).2
      obtain ⟨v26, e3, hf⟩ := jbind hf
      replace e3 := (jcv_o e3).2
      exact (frM_le (ih M hf) (by decide) (by decide))
theorem FQ_X12_slack {n : Nat} {a0 : Nat} {h : jH} {q : Int32 × jH} (M : mS (oc h) a0) (hf : F_X12_slack n a0 h = some q) : frM a0 [] [0] (oc h) (oc q.2) := by
  unfold F_X12_slack at hf
  obtain ⟨h2, e1, hf⟩ := jbind hf
  have f1 : frM a0 [] [0] (oc h) (oc h2) := by rw [(oc_pf e1).1]; exact frM_f (by decide)
  have m1 := mS_fr M f1 (by decide) (by decide)
  exact (frM_tr f1 (frM_le (FQ_X12_slack_9 m1 hf) (by decide) (by decide)))
theorem FQ_X12_taut_9 {n : Nat} {k : Nat} : ∀ {a0 : Nat} {x1 : Int32} {x2 : Int32} {h : jH} {q : Int32 × jH}, mS (oc h) a0 → F_X12_taut_9 n k a0 x1 x2 h = some q → frM a0 [] [] (oc h) (oc q.2) := by
  induction k with
  | zero =>
    intro a0 x1 x2 h q M hf
    cases hf
  | succ k ih =>
    intro a0 x1 x2 h q M hf
    replace hf : F_X12_taut_9_b n (F_X12_taut_9 n k) a0 x1 x2 h = some q := hf
    unfold F_X12_taut_9_b at hf
    obtain ⟨v11, e1, hf⟩ := jbind hf
    replace e1 := (jcv_o e1).2
    replace hf := jite hf
    rcases hf with ⟨-, hf⟩ | ⟨-, hf⟩
    · cases hf
      exact frM_rfl
    · obtain ⟨v20, e2, hf⟩ := jbind hf
      replace e2 := (jcv_o e2).2
      obtain ⟨v26, e3, hf⟩ := jbind hf
      replace e3 := (jcv_o e3).2
      replace hf := jite hf
      rcases hf with ⟨-, hf⟩ | ⟨-, hf⟩
      · exact (frM_le (ih M hf) (by decide) (by decide))
      · exact (frM_le (ih M hf) (by decide) (by decide))
theorem FQ_X12_taut {n : Nat} {a0 : Nat} {h : jH} {q : Int32 × jH} (M : mS (oc h) a0) (hf : F_X12_taut n a0 h = some q) : frM a0 [] [0] (oc h) (oc q.2) := by
  unfold F_X12_taut at hf
  obtain ⟨h2, e1, hf⟩ := jbind hf
  have f1 : frM a0 [] [0] (oc h) (oc h2) := by rw [(oc_pf e1).1]; exact frM_f (by decide)
  have m1 := mS_fr M f1 (by decide) (by decide)
  exact (frM_tr f1 (frM_le (FQ_X12_taut_9 m1 hf) (by decide) (by decide)))
theorem FQ_X12_sunny_69 {n : Nat} {rc11 : Nat → Int32 → Int32 → Int32 → jH → Option (Int32 × jH)} (hrc11 : ∀ {z0 : Nat} {z1 : Int32} {z2 : Int32} {z3 : Int32} {h : jH} {q : Int32 × jH}, mS (oc h) z0 → rc11 z0 z1 z2 z3 h = some q → frM z0 [] [] (oc h) (oc q.2)) {a0 : Nat} {x2 : Int32} {x3 : Int32} {x4 : Int32} {s0 : Int32} {h : jH} {q : Int32 × jH} (M : mS (oc h) a0) (hf : F_X12_sunny_69 n rc11 a0 x2 x3 x4 s0 h = some q) : frM a0 [] [] (oc h) (oc q.2) := by
  unfold F_X12_sunny_69 at hf
  exact (frM_le (hrc11 M hf) (by decide) (by decide))
theorem FQ_X12_sunny_25 {n : Nat} {rc11 : Nat → Int32 → Int32 → Int32 → jH → Option (Int32 × jH)} (hrc11 : ∀ {z0 : Nat} {z1 : Int32} {z2 : Int32} {z3 : Int32} {h : jH} {q : Int32 × jH}, mS (oc h) z0 → rc11 z0 z1 z2 z3 h = some q → frM z0 [] [] (oc h) (oc q.2)) {k : Nat} : ∀ {a0 : Nat} {x1 : Int32} {x2 : Int32} {x3 : Int32} {x4 : Int32} {x5 : Int32} {h : jH} {q : Int32 × jH}, mS (oc h) a0 → F_X12_sunny_25 n rc11 k a0 x1 x2 x3 x4 x5 h = some q → frM a0 [] [] (oc h) (oc q.2) := by
  induction k with
  | zero =>
    intro a0 x1 x2 x3 x4 x5 h q M hf
    cases hf
  | succ k ih =>
    intro a0 x1 x2 x3 x4 x5 h q M hf
    replace hf : F_X12_sunny_25_b n rc11 (F_X12_sunny_25 n rc11 k) a0 x1 x2 x3 x4 x5 h = some q := hf
    unfold F_X12_sunny_25_b at hf
    replace hf := jite hf
    rcases hf with ⟨-, hf⟩ | ⟨-, hf⟩
    · replace hf := jite hf
      rcases hf with ⟨-, hf⟩ | ⟨-, hf⟩
      · exact (frM_le (FQ_X12_sunny_69 hrc11 M hf) (by decide) (by decide))
      · exact (frM_le (FQ_X12_sunny_69 hrc11 M hf) (by decide) (by decide))
    · obtain ⟨v38, e1, hf⟩ := jbind hf
      replace e1 := (jcv_o e1).2
      replace hf := jite hf
      rcases hf with ⟨-, hf⟩ | ⟨-, hf⟩
      · exact (frM_le (ih M hf) (by decide) (by decide))
      · exact (frM_le (ih M hf) (by decide) (by decide))
theorem FQ_X12_sunny_11 {n : Nat} {k : Nat} : ∀ {a0 : Nat} {x1 : Int32} {x2 : Int32} {x3 : Int32} {h : jH} {q : Int32 × jH}, mS (oc h) a0 → F_X12_sunny_11 n k a0 x1 x2 x3 h = some q → frM a0 [] [] (oc h) (oc q.2) := by
  induction k with
  | zero =>
    intro a0 x1 x2 x3 h q M hf
    cases hf
  | succ k ih =>
    intro a0 x1 x2 x3 h q M hf
    replace hf : F_X12_sunny_11_b n (F_X12_sunny_11 n k) a0 x1 x2 x3 h = some q := hf
    unfold F_X12_sunny_11_b at hf
    obtain ⟨v13, e1, hf⟩ := jbind hf
    replace e1 := (jcv_o e1).2
    replace hf := jite hf
    rcases hf with ⟨-, hf⟩ | ⟨-, hf⟩
    · cases hf
      exact frM_rfl
    · exact (frM_le (FQ_X12_sunny_25 ih M hf) (by decide) (by decide))
theorem FQ_X12_sunny {n : Nat} {a0 : Nat} {h : jH} {q : Int32 × jH} (M : mS (oc h) a0) (hf : F_X12_sunny n a0 h = some q) : frM a0 [] [0] (oc h) (oc q.2) := by
  unfold F_X12_sunny at hf
  obtain ⟨h2, e1, hf⟩ := jbind hf
  have f1 : frM a0 [] [0] (oc h) (oc h2) := by rw [(oc_pf e1).1]; exact frM_f (by decide)
  have m1 := mS_fr M f1 (by decide) (by decide)
  exact (frM_tr f1 (frM_le (FQ_X12_sunny_11 m1 hf) (by decide) (by decide)))
theorem FQ_X12_envy_9 {n : Nat} {k : Nat} : ∀ {a0 : Nat} {x1 : Int32} {x2 : Int32} {h : jH} {q : Int32 × jH}, mS (oc h) a0 → F_X12_envy_9 n k a0 x1 x2 h = some q → frM a0 [] [] (oc h) (oc q.2) := by
  induction k with
  | zero =>
    intro a0 x1 x2 h q M hf
    cases hf
  | succ k ih =>
    intro a0 x1 x2 h q M hf
    replace hf : F_X12_envy_9_b n (F_X12_envy_9 n k) a0 x1 x2 h = some q := hf
    unfold F_X12_envy_9_b at hf
    obtain ⟨v11, e1, hf⟩ := jbind hf
    replace e1 := (jcv_o e1).2
    replace hf := jite hf
    rcases hf with ⟨-, hf⟩ | ⟨-, hf⟩
    · cases hf
      exact frM_rfl
    · obtain ⟨v21, e2, hf⟩ := jbind hf
      replace e2 := (jcv_o e2).2
      obtain ⟨v29, e3, hf⟩ := jbind hf
      replace e3 := (jcv_o e3).2
      replace hf := jite hf
      rcases hf with ⟨-, hf⟩ | ⟨-, hf⟩
      · exact (frM_le (ih M hf) (by decide) (by decide))
      · exact (frM_le (ih M hf) (by decide) (by decide))
theorem FQ_X12_envy {n : Nat} {a0 : Nat} {h : jH} {q : Int32 × jH} (M : mS (oc h) a0) (hf : F_X12_envy n a0 h = some q) : frM a0 [] [0] (oc h) (oc q.2) := by
  unfold F_X12_envy at hf
  obtain ⟨h2, e1, hf⟩ := jbind hf
  have f1 : frM a0 [] [0] (oc h) (oc h2) := by rw [(oc_pf e1).1]; exact frM_f (by decide)
  have m1 := mS_fr M f1 (by decide) (by decide)
  exact (frM_tr f1 (frM_le (FQ_X12_envy_9 m1 hf) (by decide) (by decide)))
theorem FQ_X12_bunch_41 {n : Nat} {rc11 : Nat → Int32 → Int32 → Int32 → jH → Option (Int32 × jH)} (hrc11 : ∀ {z0 : Nat} {z1 : Int32} {z2 : Int32} {z3 : Int32} {h : jH} {q : Int32 × jH}, mS (oc h) z0 → rc11 z0 z1 z2 z3 h = some q → frM z0 [] [] (oc h) (oc q.2)) {a0 : Nat} {x1 : Int32} {x3 : Int32} {s0 : Int32} {h : jH} {q : Int32 × jH} (M : mS (oc h) a0) (hf : F_X12_bunch_41 n rc11 a0 x1 x3 s0 h = some q) : frM a0 [] [] (oc h) (oc q.2) := by
  unfold F_X12_bunch_41 at hf
  exact (frM_le (hrc11 M hf) (by decide) (by decide))
theorem FQ_X12_bunch_11 {n : Nat} {k : Nat} : ∀ {a0 : Nat} {x1 : Int32} {x2 : Int32} {x3 : Int32} {h : jH} {q : Int32 × jH}, mS (oc h) a0 → F_X12_bunch_11 n k a0 x1 x2 x3 h = some q → frM a0 [] [] (oc h) (oc q.2) := by
  induction k with
  | zero =>
    intro a0 x1 x2 x3 h q M hf
    cases hf
  | succ k ih =>
    intro a0 x1 x2 x3 h q M hf
    replace hf : F_X12_bunch_11_b n (F_X12_bunch_11 n k) a0 x1 x2 x3 h = some q := hf
    unfold F_X12_bunch_11_b at hf
    obtain ⟨v13, e1, hf⟩ := jbind hf
    replace e1 := (jcv_o e1).2
    replace hf := jite hf
    rcases hf with ⟨-, hf⟩ | ⟨-, hf⟩
    · cases hf
      exact frM_rfl
    · replace hf := jite hf
      rcases hf with ⟨-, hf⟩ | ⟨-, hf⟩
      · exact (frM_le (FQ_X12_bunch_41 ih M hf) (by decide) (by decide))
      · obtain ⟨v27, e2, hf⟩ := jbind hf
        replace e2 := (jcv_o e2).2
        replace hf := jite hf
        rcases hf with ⟨-, hf⟩ | ⟨-, hf⟩
        · exact (frM_le (FQ_X12_bunch_41 ih M hf) (by decide) (by decide))
        · exact (frM_le (FQ_X12_bunch_41 ih M hf) (by decide) (by decide))
theorem FQ_X12_bunch {n : Nat} {a0 : Nat} {h : jH} {q : Int32 × jH} (M : mS (oc h) a0) (hf : F_X12_bunch n a0 h = some q) : frM a0 [] [0] (oc h) (oc q.2) := by
  unfold F_X12_bunch at hf
  obtain ⟨h2, e1, hf⟩ := jbind hf
  have f1 : frM a0 [] [0] (oc h) (oc h2) := by rw [(oc_pf e1).1]; exact frM_f (by decide)
  have m1 := mS_fr M f1 (by decide) (by decide)
  exact (frM_tr f1 (frM_le (FQ_X12_bunch_11 m1 hf) (by decide) (by decide)))
theorem FQ_X12_wooden {n : Nat} {a0 : Nat} {h : jH} {q : Int32 × jH} (M : mS (oc h) a0) (hf : F_X12_wooden n a0 h = some q) : frM a0 [] [0] (oc h) (oc q.2) := by
  unfold F_X12_wooden at hf
  obtain ⟨h2, e1, hf⟩ := jbind hf
  have f1 : frM a0 [] [0] (oc h) (oc h2) := by rw [(oc_pf e1).1]; exact frM_f (by decide)
  have m1 := mS_fr M f1 (by decide) (by decide)
  obtain ⟨v7, e2, hf⟩ := jbind hf
  replace e2 := (jcv_o e2).2
  cases hf
  exact f1
theorem FQ_X12_caught {n : Nat} {a0 : Nat} {h : jH} {q : Int32 × jH} (M : mS (oc h) a0) (hf : F_X12_caught n a0 h = some q) : frM a0 [] [0] (oc h) (oc q.2) := by
  unfold F_X12_caught at hf
  obtain ⟨h2, e1, hf⟩ := jbind hf
  have f1 : frM a0 [] [0] (oc h) (oc h2) := by rw [(oc_pf e1).1]; exact frM_f (by decide)
  have m1 := mS_fr M f1 (by decide) (by decide)
  obtain ⟨v8, e2, hf⟩ := jbind hf
  replace e2 := (jcv_o e2).2
  cases hf
  exact f1
theorem FQ_X12_loose {n : Nat} {a0 : Nat} {h : jH} {q : Int32 × jH} (M : mS (oc h) a0) (hf : F_X12_loose n a0 h = some q) : frM a0 [] [0] (oc h) (oc q.2) := by
  unfold F_X12_loose at hf
  obtain ⟨h2, e1, hf⟩ := jbind hf
  have f1 : frM a0 [] [0] (oc h) (oc h2) := by rw [(oc_pf e1).1]; exact frM_f (by decide)
  have m1 := mS_fr M f1 (by decide) (by decide)
  obtain ⟨v6, e2, hf⟩ := jbind hf
  replace e2 := (jcv_o e2).2
  cases hf
  exact f1
theorem FQ_X12_beyond_9 {n : Nat} {k : Nat} : ∀ {a0 : Nat} {x1 : Int32} {x2 : Int32} {h : jH} {q : Int32 × jH}, mS (oc h) a0 → F_X12_beyond_9 n k a0 x1 x2 h = some q → frM a0 [] [] (oc h) (oc q.2) := by
  induction k with
  | zero =>
    intro a0 x1 x2 h q M hf
    cases hf
  | succ k ih =>
    intro a0 x1 x2 h q M hf
    replace hf : F_X12_beyond_9_b n (F_X12_beyond_9 n k) a0 x1 x2 h = some q := hf
    unfold F_X12_beyond_9_b at hf
    obtain ⟨v11, e1, hf⟩ := jbind hf
    replace e1 := (jcv_o e1).2
    replace hf := jite hf
    rcases hf with ⟨-, hf⟩ | ⟨-, hf⟩
    · cases hf
      exact frM_rfl
    · obtain ⟨v21, e2, hf⟩ := jbind hf
      replace e2 := (jcv_o e2).2
      replace hf := jite hf
      rcases hf with ⟨-, hf⟩ | ⟨-, hf⟩
      · exact (frM_le (ih M hf) (by decide) (by decide))
      · obtain ⟨v30, e3, hf⟩ := jbind hf
        replace e3 := (jcv_o e3).2
        obtain ⟨p34, e4, hf⟩ := jbind hf
        have r4 := oc_gR e4
        rw [M.1] at r4
        cases r4
        obtain ⟨v38, e5, hf⟩ := jbind hf
        replace hf := jite hf
        rcases hf with ⟨-, hf⟩ | ⟨-, hf⟩
        · exact (frM_le (ih M hf) (by decide) (by decide))
        · exact (frM_le (ih M hf) (by decide) (by decide))
theorem FQ_X12_beyond {n : Nat} {a0 : Nat} {h : jH} {q : Int32 × jH} (M : mS (oc h) a0) (hf : F_X12_beyond n a0 h = some q) : frM a0 [] [0] (oc h) (oc q.2) := by
  unfold F_X12_beyond at hf
  obtain ⟨h2, e1, hf⟩ := jbind hf
  have f1 : frM a0 [] [0] (oc h) (oc h2) := by rw [(oc_pf e1).1]; exact frM_f (by decide)
  have m1 := mS_fr M f1 (by decide) (by decide)
  exact (frM_tr f1 (frM_le (FQ_X12_beyond_9 m1 hf) (by decide) (by decide)))
theorem FQ_X12_twins_19 {n : Nat} {rc9 : Nat → Int32 → Int32 → jH → Option (Int32 × jH)} (hrc9 : ∀ {z0 : Nat} {z1 : Int32} {z2 : Int32} {h : jH} {q : Int32 × jH}, mS (oc h) z0 → rc9 z0 z1 z2 h = some q → frM z0 [] [] (oc h) (oc q.2)) {k : Nat} : ∀ {a0 : Nat} {x1 : Int32} {x2 : Int32} {x3 : Int32} {h : jH} {q : Int32 × jH}, mS (oc h) a0 → F_X12_twins_19 n rc9 k a0 x1 x2 x3 h = some q → frM a0 [] [] (oc h) (oc q.2) := by
  induction k with
  | zero =>
    intro a0 x1 x2 x3 h q M hf
    cases hf
  | succ k ih =>
    intro a0 x1 x2 x3 h q M hf
    replace hf : F_X12_twins_19_b n rc9 (F_X12_twins_19 n rc9 k) a0 x1 x2 x3 h = some q := hf
    unfold F_X12_twins_19_b at hf
    replace hf := jite hf
    rcases hf with ⟨-, hf⟩ | ⟨-, hf⟩
    · exact (frM_le (hrc9 M hf) (by decide) (by decide))
    · obtain ⟨v28, e1, hf⟩ := jbind hf
      replace e1 := (jcv_o e1).2
      replace hf := jite hf
      rcases hf with ⟨-, hf⟩ | ⟨-, hf⟩
      · exact (frM_le (ih M hf) (by decide) (by decide))
      · exact (frM_le (ih M hf) (by decide) (by decide))
theorem FQ_X12_twins_9 {n : Nat} {k : Nat} : ∀ {a0 : Nat} {x1 : Int32} {x2 : Int32} {h : jH} {q : Int32 × jH}, mS (oc h) a0 → F_X12_twins_9 n k a0 x1 x2 h = some q → frM a0 [] [] (oc h) (oc q.2) := by
  induction k with
  | zero =>
    intro a0 x1 x2 h q M hf
    cases hf
  | succ k ih =>
    intro a0 x1 x2 h q M hf
    replace hf : F_X12_twins_9_b n (F_X12_twins_9 n k) a0 x1 x2 h = some q := hf
    unfold F_X12_twins_9_b at hf
    obtain ⟨v11, e1, hf⟩ := jbind hf
    replace e1 := (jcv_o e1).2
    replace hf := jite hf
    rcases hf with ⟨-, hf⟩ | ⟨-, hf⟩
    · cases hf
      exact frM_rfl
    · exact (frM_le (FQ_X12_twins_19 ih M hf) (by decide) (by decide))
theorem FQ_X12_twins {n : Nat} {a0 : Nat} {h : jH} {q : Int32 × jH} (M : mS (oc h) a0) (hf : F_X12_twins n a0 h = some q) : frM a0 [] [0] (oc h) (oc q.2) := by
  unfold F_X12_twins at hf
  obtain ⟨h2, e1, hf⟩ := jbind hf
  have f1 : frM a0 [] [0] (oc h) (oc h2) := by rw [(oc_pf e1).1]; exact frM_f (by decide)
  have m1 := mS_fr M f1 (by decide) (by decide)
  exact (frM_tr f1 (frM_le (FQ_X12_twins_9 m1 hf) (by decide) (by decide)))
theorem FQ_X12_count {n : Nat} {a0 : Nat} {x1 : Int32} {h : jH} {q : Int32 × jH} (M : mS (oc h) a0) (hf : F_X12_count n a0 x1 h = some q) : frM a0 [] [0] (oc h) (oc q.2) := by
  unfold F_X12_count at hf
  obtain ⟨h2, e1, hf⟩ := jbind hf
  have f1 : frM a0 [] [0] (oc h) (oc h2) := by rw [(oc_pf e1).1]; exact frM_f (by decide)
  have m1 := mS_fr M f1 (by decide) (by decide)
  replace hf := jite hf
  rcases hf with ⟨-, hf⟩ | ⟨-, hf⟩
  · obtain ⟨p41, e2, hf⟩ := jbind hf
    have r2 := oc_gR e2
    rw [m1.1] at r2
    cases r2
    obtain ⟨v45, e3, hf⟩ := jbind hf
    replace hf := jite hf
    rcases hf with ⟨-, hf⟩ | ⟨-, hf⟩
    · obtain ⟨p51, e4, hf⟩ := jbind hf
      have r4 := oc_gR e4
      rw [m1.1] at r4
      cases r4
      obtain ⟨v57, e5, hf⟩ := jbind hf
      cases hf
      exact f1
    · cases hf
      exact f1
  · replace hf := jite hf
    rcases hf with ⟨-, hf⟩ | ⟨-, hf⟩
    · obtain ⟨p64, e6, hf⟩ := jbind hf
      have r6 := oc_gR e6
      rw [m1.1] at r6
      cases r6
      obtain ⟨v69, e7, hf⟩ := jbind hf
      cases hf
      exact f1
    · replace hf := jite hf
      rcases hf with ⟨-, hf⟩ | ⟨-, hf⟩
      · obtain ⟨v72, e8, hf⟩ := jbind hf
        cases hf
        exact f1
      · obtain ⟨v80, e9, hf⟩ := jbind hf
        replace hf := jite hf
        rcases hf with ⟨-, hf⟩ | ⟨-, hf⟩
        · cases hf
          exact f1
        · obtain ⟨p87, e10, hf⟩ := jbind hf
          have r10 := oc_gR e10
          rw [m1.1] at r10
          cases r10
          obtain ⟨v91, e11, hf⟩ := jbind hf
          cases hf
          exact f1
