section
/-! what the class's questions leave alone -/
def qcc (x a k : Nat) : Prop := (a = x + 13 ∧ k = 5) ∨ a = x + 18 ∨ (a = x + 21 ∧ 5 ≤ k) ∨ (x + 22 ≤ a ∧ a ≤ x + 25) ∨ (a = x + 26 ∧ 1 ≤ k) ∨ a = x + 27 ∨ (a = x + 36 ∧ 2 ≤ k) ∨ (a = x + 37 ∧ 4 ≤ k) ∨ a = x + 38 ∨ a = x + 39
def frK (x : Nat) (h h2 : jH) : Prop := (∀ a k : Nat, ¬ qcc x a k → oc h2 a k = oc h a k) ∧ h2.1 = h.1
theorem frK_rfl {x : Nat} {h : jH} : frK x h h := ⟨fun _ _ _ => rfl, rfl⟩
theorem frK_tr {x : Nat} {h h2 h3 : jH} (a : frK x h h2) (b : frK x h2 h3) : frK x h h3 := ⟨fun c k z => (b.1 c k z).trans (a.1 c k z), b.2.trans a.2⟩
theorem frK_w {x b j : Nat} {O : jO} {v : Value} (hq : qcc x b j) : ∀ a k : Nat, ¬ qcc x a k → u2 O b j v a k = O a k := fun a k z => u2_ne (by
  by_cases e : a = b
  · refine Or.inr (fun w => z ?_)
    rw [e, w]; exact hq
  · exact Or.inl e)
theorem frK_cp {x b a0 sp dp n : Nat} {O : jO} (hq : ∀ k : Nat, qcc x b k) : ∀ a k : Nat, ¬ qcc x a k → ucp O a0 sp b dp n a k = O a k := fun a k z => by
  unfold ucp
  by_cases e : a = b
  · subst e; exact absurd (hq k) z
  · rw [if_neg (fun w => e w.1)]
def clsS (O : jO) (x : Nat) : Prop := O x 0 = .ref (x + 1) ∧ O x 1 = .ref (x + 6) ∧ O x 8 = .ref (x + 36) ∧ O (x + 36) 0 = .ref (x + 13) ∧ O (x + 13) 4 = .ref (x + 18) ∧ rdrS O x
theorem clsS_fr {x : Nat} {h h2 : jH} (S : clsS (oc h) x) (F : frK x h h2) : clsS (oc h2) x := by
  obtain ⟨a0, a1, a8, a36, a13, ⟨u1, u2, u3, u4, u5, u6⟩, ⟨v1, v2, v3⟩, ⟨w1, w2, w3⟩, ⟨y1, y2, y3, y4, y5⟩, ⟨o0, o1, o2, o3, o4, o5⟩, ⟨k0, k1, k2, k3, k4⟩⟩ := S
  have f := F.1
  refine ⟨(f _ _ (by unfold qcc; omega)).trans a0, (f _ _ (by unfold qcc; omega)).trans a1, (f _ _ (by unfold qcc; omega)).trans a8, (f _ _ (by unfold qcc; omega)).trans a36, (f _ _ (by unfold qcc; omega)).trans a13, ⟨?_, ?_, ?_, ?_, ?_, ?_⟩, ⟨?_, ?_, ?_⟩, ⟨?_, ?_, ?_⟩, ⟨?_, ?_, ?_, ?_, ?_⟩, ⟨?_, ?_, ?_, ?_, ?_, ?_⟩, ⟨?_, ?_, ?_, ?_, ?_⟩⟩
  · exact (f _ _ (by unfold qcc; omega)).trans u1
  · exact (f _ _ (by unfold qcc; omega)).trans u2
  · exact (f _ _ (by unfold qcc; omega)).trans u3
  · exact (f _ _ (by unfold qcc; omega)).trans u4
  · exact (f _ _ (by unfold qcc; omega)).trans u5
  · exact (f _ _ (by unfold qcc; omega)).trans u6
  · exact (f _ _ (by unfold qcc; omega)).trans v1
  · exact (f _ _ (by unfold qcc; omega)).trans v2
  · exact (f _ _ (by unfold qcc; omega)).trans v3
  · exact (f _ _ (by unfold qcc; omega)).trans w1
  · exact (f _ _ (by unfold qcc; omega)).trans w2
  · exact (f _ _ (by unfold qcc; omega)).trans w3
  · exact (f _ _ (by unfold qcc; omega)).trans y1
  · exact (f _ _ (by unfold qcc; omega)).trans y2
  · exact (f _ _ (by unfold qcc; omega)).trans y3
  · exact (f _ _ (by unfold qcc; omega)).trans y4
  · exact (f _ _ (by unfold qcc; omega)).trans y5
  · exact (f _ _ (by unfold qcc; omega)).trans o0
  · exact (f _ _ (by unfold qcc; omega)).trans o1
  · exact (f _ _ (by unfold qcc; omega)).trans o2
  · exact (f _ _ (by unfold qcc; omega)).trans o3
  · exact (f _ _ (by unfold qcc; omega)).trans o4
  · exact (f _ _ (by unfold qcc; omega)).trans o5
  · exact (f _ _ (by unfold qcc; omega)).trans k0
  · exact (f _ _ (by unfold qcc; omega)).trans k1
  · exact (f _ _ (by unfold qcc; omega)).trans k2
  · exact (f _ _ (by unfold qcc; omega)).trans k3
  · exact (f _ _ (by unfold qcc; omega)).trans k4
theorem jthL {r : Int32} {h : jH} {k : Int32 → jH → Option (jR × jH)} {z : jR × jH} (e : jthen (.inl r, h) k = some z) : k r h = some z := e
theorem jthR {r : Nat} {h : jH} {k : Int32 → jH → Option (jR × jH)} {z : jR × jH} (e : jthen (.inr r, h) k = some z) : (Sum.inr r, h) = z := Option.some.inj e
theorem FC_X11_requireRing_0 {n : Nat} {x : Nat} {x1 : Int32} {h : jH} {q : jR × jH} (M : clsS (oc h) x) (hf : F_X11_requireRing n x x1 h = some q) : frK x h q.2 := by
  unfold F_X11_requireRing at hf
  replace hf := jite hf
  rcases hf with ⟨-, hf⟩ | ⟨-, hf⟩
  · cases hf
    exact frK_rfl
  · obtain ⟨p6, e1, hf⟩ := jbind hf
    have r1 := oc_gR e1
    rw [M.2.1] at r1
    cases r1
    obtain ⟨v9, e2, hf⟩ := jbind hf
    replace hf := jite hf
    rcases hf with ⟨-, hf⟩ | ⟨-, hf⟩
    · cases hf
      exact frK_rfl
    · cases hf
      exact frK_rfl
theorem FC_X2_pop_13 {n : Nat} {x : Nat}  {h : jH} {q : Int32 × jH} (M : clsS (oc h) x) (hf : F_X2_pop n (x + 13) h = some q) : frK x h q.2 := by
  unfold F_X2_pop at hf
  obtain ⟨v1, e1, hf⟩ := jbind hf
  replace hf := jite hf
  rcases hf with ⟨-, hf⟩ | ⟨-, hf⟩
  · obtain ⟨v11, e2, hf⟩ := jbind hf
    obtain ⟨h16, e3, hf⟩ := jbind hf
    have f3 : frK x h h16 := ⟨by rw [(oc_pf e3).1]; exact frK_w (by unfold qcc; omega), (oc_pf e3).2⟩
    have m3 := clsS_fr M f3
    obtain ⟨p20, e4, hf⟩ := jbind hf
    have r4 := oc_gR e4
    rw [m3.2.2.2.2.1] at r4
    cases r4
    obtain ⟨v24, e5, hf⟩ := jbind hf
    obtain ⟨v27, e6, hf⟩ := jbind hf
    cases hf
    exact f3
  · cases hf
    exact frK_rfl
theorem FC_X2_push_13 {n : Nat} {x : Nat} {x1 : Int32} {h : jH} {q : jH} (M : clsS (oc h) x) (hf : F_X2_push n (x + 13) x1 h = some q) : frK x h q := by
  unfold F_X2_push at hf
  obtain ⟨v1, e1, hf⟩ := jbind hf
  replace hf := jite hf
  rcases hf with ⟨-, hf⟩ | ⟨-, hf⟩
  · cases hf
    exact frK_rfl
  · obtain ⟨p10, e2, hf⟩ := jbind hf
    have r2 := oc_gR e2
    rw [M.2.2.2.2.1] at r2
    cases r2
    obtain ⟨v14, e3, hf⟩ := jbind hf
    obtain ⟨h18, e4, hf⟩ := jbind hf
    have f4 : frK x h h18 := ⟨by rw [(oc_as e4).1]; exact frK_w (by unfold qcc; omega), (oc_as e4).2.1⟩
    have m4 := clsS_fr M f4
    obtain ⟨v21, e5, hf⟩ := jbind hf
    obtain ⟨h26, e6, hf⟩ := jbind hf
    have f6 : frK x h18 h26 := ⟨by rw [(oc_pf e6).1]; exact frK_w (by unfold qcc; omega), (oc_pf e6).2⟩
    have m6 := clsS_fr m4 f6
    cases hf
    exact (frK_tr f4 f6)
theorem FC_X2_holds_23_13_6 {n : Nat} {x : Nat} {k : Nat} : ∀ {x1 : Int32} {x3 : Int32} {x4 : Int32} {h : jH} {q : Int32 × jH}, clsS (oc h) x → F_X2_holds_23 n k (x + 13) x1 (x + 6) x3 x4 h = some q → frK x h q.2 := by
  induction k with
  | zero =>
    intro x1 x3 x4 h q M hf
    cases hf
  | succ k ih =>
    intro x1 x3 x4 h q M hf
    replace hf : F_X2_holds_23_b n (F_X2_holds_23 n k) (x + 13) x1 (x + 6) x3 x4 h = some q := hf
    unfold F_X2_holds_23_b at hf
    obtain ⟨p26, e1, hf⟩ := jbind hf
    obtain ⟨v30, e2, hf⟩ := jbind hf
    replace hf := jite hf
    rcases hf with ⟨-, hf⟩ | ⟨-, hf⟩
    · obtain ⟨v113, e3, hf⟩ := jbind hf
      replace hf := jite hf
      rcases hf with ⟨-, hf⟩ | ⟨-, hf⟩
      · cases hf
        exact frK_rfl
      · obtain ⟨q120, e4, hf⟩ := jbind hf
        replace e4 := (jcv_o e4).2
        have f4 : frK x h q120.2 := (FC_X2_pop_13 M e4)
        have m4 := clsS_fr M f4
        replace hf := jite hf
        rcases hf with ⟨-, hf⟩ | ⟨-, hf⟩
        · cases hf
          exact f4
        · cases hf
          exact f4
    · obtain ⟨p35, e5, hf⟩ := jbind hf
      obtain ⟨v40, e6, hf⟩ := jbind hf
      obtain ⟨v45, e7, hf⟩ := jbind hf
      replace hf := jite hf
      rcases hf with ⟨-, hf⟩ | ⟨-, hf⟩
      · replace hf := jite hf
        rcases hf with ⟨-, hf⟩ | ⟨-, hf⟩
        · obtain ⟨q75, e8, hf⟩ := jbind hf
          replace e8 := (jcv_o e8).2
          have f8 : frK x h q75.2 := (FC_X2_pop_13 M e8)
          have m8 := clsS_fr M f8
          obtain ⟨h79, e9, hf⟩ := jbind hf
          replace e9 := (jcv_o e9).2
          have f9 : frK x q75.2 h79 := (FC_X2_push_13 m8 e9)
          have m9 := clsS_fr m8 f9
          exact (frK_tr (frK_tr f8 f9) (ih m9 hf))
        · obtain ⟨q86, e10, hf⟩ := jbind hf
          replace e10 := (jcv_o e10).2
          have f10 : frK x h q86.2 := (FC_X2_pop_13 M e10)
          have m10 := clsS_fr M f10
          obtain ⟨q95, e11, hf⟩ := jbind hf
          replace e11 := (jcv_o e11).2
          have f11 : frK x q86.2 q95.2 := (FC_X2_pop_13 m10 e11)
          have m11 := clsS_fr m10 f11
          obtain ⟨v100, e12, hf⟩ := jbind hf
          obtain ⟨h103, e13, hf⟩ := jbind hf
          replace e13 := (jcv_o e13).2
          have f13 : frK x q95.2 h103 := (FC_X2_push_13 m11 e13)
          have m13 := clsS_fr m11 f13
          exact (frK_tr (frK_tr (frK_tr f10 f11) f13) (ih m13 hf))
      · obtain ⟨v56, e14, hf⟩ := jbind hf
        obtain ⟨h59, e15, hf⟩ := jbind hf
        replace e15 := (jcv_o e15).2
        have f15 : frK x h h59 := (FC_X2_push_13 M e15)
        have m15 := clsS_fr M f15
        exact (frK_tr f15 (ih m15 hf))
theorem FC_X2_holds_13_6 {n : Nat} {x : Nat} {x1 : Int32} {x3 : Int32} {h : jH} {q : Int32 × jH} (M : clsS (oc h) x) (hf : F_X2_holds n (x + 13) x1 (x + 6) x3 h = some q) : frK x h q.2 := by
  unfold F_X2_holds at hf
  obtain ⟨h2, e1, hf⟩ := jbind hf
  have f1 : frK x h h2 := ⟨by rw [(oc_pf e1).1]; exact frK_w (by unfold qcc; omega), (oc_pf e1).2⟩
  have m1 := clsS_fr M f1
  replace hf := jite hf
  rcases hf with ⟨-, hf⟩ | ⟨-, hf⟩
  · exact (frK_tr f1 (FC_X2_holds_23_13_6 m1 hf))
  · obtain ⟨p14, e2, hf⟩ := jbind hf
    obtain ⟨v20, e3, hf⟩ := jbind hf
    exact (frK_tr f1 (FC_X2_holds_23_13_6 m1 hf))
theorem FC_X2_amount_20_13_6 {n : Nat} {x : Nat} {k : Nat} : ∀ {x1 : Int32} {x3 : Int32} {x4 : Int32} {x5 : Int32} {h : jH} {q : Int32 × jH}, clsS (oc h) x → F_X2_amount_20 n k (x + 13) x1 (x + 6) x3 x4 x5 h = some q → frK x h q.2 := by
  induction k with
  | zero =>
    intro x1 x3 x4 x5 h q M hf
    cases hf
  | succ k ih =>
    intro x1 x3 x4 x5 h q M hf
    replace hf : F_X2_amount_20_b n (F_X2_amount_20 n k) (x + 13) x1 (x + 6) x3 x4 x5 h = some q := hf
    unfold F_X2_amount_20_b at hf
    obtain ⟨v23, e1, hf⟩ := jbind hf
    replace hf := jite hf
    rcases hf with ⟨-, hf⟩ | ⟨-, hf⟩
    · cases hf
      exact frK_rfl
    · obtain ⟨p30, e2, hf⟩ := jbind hf
      obtain ⟨v35, e3, hf⟩ := jbind hf
      replace hf := jite hf
      rcases hf with ⟨-, hf⟩ | ⟨-, hf⟩
      · obtain ⟨q45, e4, hf⟩ := jbind hf
        replace e4 := (jcv_o e4).2
        have f4 : frK x h q45.2 := (FC_X2_holds_13_6 M e4)
        have m4 := clsS_fr M f4
        replace hf := jite hf
        rcases hf with ⟨-, hf⟩ | ⟨-, hf⟩
        · exact (frK_tr f4 (ih m4 hf))
        · obtain ⟨p54, e5, hf⟩ := jbind hf
          obtain ⟨v59, e6, hf⟩ := jbind hf
          exact (frK_tr f4 (ih m4 hf))
      · exact (ih M hf)
theorem FC_X2_amount_13_6 {n : Nat} {x : Nat} {x1 : Int32} {x3 : Int32} {h : jH} {q : Int32 × jH} (M : clsS (oc h) x) (hf : F_X2_amount n (x + 13) x1 (x + 6) x3 h = some q) : frK x h q.2 := by
  unfold F_X2_amount at hf
  obtain ⟨v1, e1, hf⟩ := jbind hf
  replace hf := jite hf
  rcases hf with ⟨-, hf⟩ | ⟨-, hf⟩
  · obtain ⟨v10, e2, hf⟩ := jbind hf
    cases hf
    exact frK_rfl
  · exact (FC_X2_amount_20_13_6 M hf)
theorem FC_X11_ring_0 {n : Nat} {x : Nat} {x1 : Int32} {x2 : Int32} {h : jH} {q : jR × jH} (M : clsS (oc h) x) (hf : F_X11_ring n x x1 x2 h = some q) : frK x h q.2 := by
  unfold F_X11_ring at hf
  obtain ⟨q2, e1, hf⟩ := jbind hf
  replace e1 := (jcv_o e1).2
  have f1 : frK x h q2.2 := (FC_X11_requireRing_0 M e1)
  have m1 := clsS_fr M f1
  obtain ⟨r2, h2⟩ := q2
  rcases r2 with r2 | r2
  · replace hf := jthL hf
    replace hf := jite hf
    rcases hf with ⟨-, hf⟩ | ⟨-, hf⟩
    · obtain ⟨p77, e3, hf⟩ := jbind hf
      have r3 := oc_gR e3
      rw [m1.2.1] at r3
      cases r3
      obtain ⟨p80, e4, hf⟩ := jbind hf
      obtain ⟨v84, e5, hf⟩ := jbind hf
      cases hf
      exact f1
    · replace hf := jite hf
      rcases hf with ⟨-, hf⟩ | ⟨-, hf⟩
      · obtain ⟨p87, e6, hf⟩ := jbind hf
        have r6 := oc_gR e6
        rw [m1.2.1] at r6
        cases r6
        obtain ⟨p90, e7, hf⟩ := jbind hf
        obtain ⟨v94, e8, hf⟩ := jbind hf
        cases hf
        exact f1
      · replace hf := jite hf
        rcases hf with ⟨-, hf⟩ | ⟨-, hf⟩
        · obtain ⟨p97, e9, hf⟩ := jbind hf
          have r9 := oc_gR e9
          rw [m1.2.1] at r9
          cases r9
          obtain ⟨v100, e10, hf⟩ := jbind hf
          obtain ⟨v104, e11, hf⟩ := jbind hf
          cases hf
          exact f1
        · replace hf := jite hf
          rcases hf with ⟨-, hf⟩ | ⟨-, hf⟩
          · obtain ⟨p109, e12, hf⟩ := jbind hf
            have r12 := oc_gR e12
            rw [m1.2.1] at r12
            cases r12
            obtain ⟨v112, e13, hf⟩ := jbind hf
            obtain ⟨v116, e14, hf⟩ := jbind hf
            cases hf
            exact f1
          · replace hf := jite hf
            rcases hf with ⟨-, hf⟩ | ⟨-, hf⟩
            · obtain ⟨p121, e15, hf⟩ := jbind hf
              have r15 := oc_gR e15
              rw [m1.2.1] at r15
              cases r15
              obtain ⟨p124, e16, hf⟩ := jbind hf
              obtain ⟨v128, e17, hf⟩ := jbind hf
              cases hf
              exact f1
            · replace hf := jite hf
              rcases hf with ⟨-, hf⟩ | ⟨-, hf⟩
              · obtain ⟨p131, e18, hf⟩ := jbind hf
                have r18 := oc_gR e18
                rw [m1.2.1] at r18
                cases r18
                obtain ⟨p134, e19, hf⟩ := jbind hf
                obtain ⟨v138, e20, hf⟩ := jbind hf
                cases hf
                exact f1
              · replace hf := jite hf
                rcases hf with ⟨-, hf⟩ | ⟨-, hf⟩
                · obtain ⟨p141, e21, hf⟩ := jbind hf
                  have r21 := oc_gR e21
                  rw [m1.2.1] at r21
                  cases r21
                  obtain ⟨v144, e22, hf⟩ := jbind hf
                  obtain ⟨v148, e23, hf⟩ := jbind hf
                  cases hf
                  exact f1
                · replace hf := jite hf
                  rcases hf with ⟨-, hf⟩ | ⟨-, hf⟩
                  · obtain ⟨p153, e24, hf⟩ := jbind hf
                    have r24 := oc_gR e24
                    rw [m1.2.1] at r24
                    cases r24
                    obtain ⟨v156, e25, hf⟩ := jbind hf
                    obtain ⟨v160, e26, hf⟩ := jbind hf
                    cases hf
                    exact f1
                  · replace hf := jite hf
                    rcases hf with ⟨-, hf⟩ | ⟨-, hf⟩
                    · obtain ⟨p165, e27, hf⟩ := jbind hf
                      have r27 := oc_gR e27
                      rw [m1.2.1] at r27
                      cases r27
                      obtain ⟨v170, e28, hf⟩ := jbind hf
                      replace e28 := (jcv_o e28).2
                      cases hf
                      exact f1
                    · replace hf := jite hf
                      rcases hf with ⟨-, hf⟩ | ⟨-, hf⟩
                      · obtain ⟨p175, e29, hf⟩ := jbind hf
                        have r29 := oc_gR e29
                        rw [m1.2.2.2.2.2.1.1] at r29
                        cases r29
                        obtain ⟨p180, e30, hf⟩ := jbind hf
                        have r30 := oc_gR e30
                        rw [m1.2.1] at r30
                        cases r30
                        obtain ⟨q184, e31, hf⟩ := jbind hf
                        replace e31 := (jcv_o e31).2
                        have f31 : frK x h2 q184.2 := (FC_X2_amount_13_6 m1 e31)
                        have m31 := clsS_fr m1 f31
                        cases hf
                        exact (frK_tr f1 f31)
                      · replace hf := jite hf
                        rcases hf with ⟨-, hf⟩ | ⟨-, hf⟩
                        · obtain ⟨p189, e32, hf⟩ := jbind hf
                          have r32 := oc_gR e32
                          rw [m1.2.2.2.2.2.1.1] at r32
                          cases r32
                          obtain ⟨p194, e33, hf⟩ := jbind hf
                          have r33 := oc_gR e33
                          rw [m1.2.1] at r33
                          cases r33
                          obtain ⟨q198, e34, hf⟩ := jbind hf
                          replace e34 := (jcv_o e34).2
                          have f34 : frK x h2 q198.2 := (FC_X2_amount_13_6 m1 e34)
                          have m34 := clsS_fr m1 f34
                          cases hf
                          exact (frK_tr f1 f34)
                        · replace hf := jite hf
                          rcases hf with ⟨-, hf⟩ | ⟨-, hf⟩
                          · obtain ⟨p203, e35, hf⟩ := jbind hf
                            have r35 := oc_gR e35
                            rw [m1.2.2.2.2.2.1.1] at r35
                            cases r35
                            obtain ⟨p208, e36, hf⟩ := jbind hf
                            have r36 := oc_gR e36
                            rw [m1.2.1] at r36
                            cases r36
                            obtain ⟨q212, e37, hf⟩ := jbind hf
                            replace e37 := (jcv_o e37).2
                            have f37 : frK x h2 q212.2 := (FC_X2_amount_13_6 m1 e37)
                            have m37 := clsS_fr m1 f37
                            cases hf
                            exact (frK_tr f1 f37)
                          · replace hf := jite hf
                            rcases hf with ⟨-, hf⟩ | ⟨-, hf⟩
                            · obtain ⟨p217, e38, hf⟩ := jbind hf
                              have r38 := oc_gR e38
                              rw [m1.2.1] at r38
                              cases r38
                              obtain ⟨v221, e39, hf⟩ := jbind hf
                              cases hf
                              exact f1
                            · replace hf := jite hf
                              rcases hf with ⟨-, hf⟩ | ⟨-, hf⟩
                              · obtain ⟨p226, e40, hf⟩ := jbind hf
                                have r40 := oc_gR e40
                                rw [m1.2.1] at r40
                                cases r40
                                obtain ⟨v230, e41, hf⟩ := jbind hf
                                cases hf
                                exact f1
                              · cases hf
                                exact f1
  · cases jthR hf
    exact f1
theorem FC_X5_copyFrom_26_v {n : Nat} {x : Nat} {a1 : Nat} {h : jH} {q : jH} (M : clsS (oc h) x) (hf : F_X5_copyFrom n (x + 26) a1 h = some q) : frK x h q := by
  unfold F_X5_copyFrom at hf
  obtain ⟨p1, e1, hf⟩ := jbind hf
  obtain ⟨p6, e2, hf⟩ := jbind hf
  have r2 := oc_gR e2
  rw [M.2.2.2.2.2.2.2.2.2.1.2.2.2.2.2] at r2
  cases r2
  obtain ⟨h12, e3, hf⟩ := jbind hf
  have f3 : frK x h h12 := ⟨by rw [(oc_cp e3).1]; exact frK_cp (fun k => by unfold qcc; omega), (oc_cp e3).2⟩
  have m3 := clsS_fr M f3
  obtain ⟨v17, e4, hf⟩ := jbind hf
  obtain ⟨h20, e5, hf⟩ := jbind hf
  have f5 : frK x h12 h20 := ⟨by rw [(oc_pf e5).1]; exact frK_w (by unfold qcc; omega), (oc_pf e5).2⟩
  have m5 := clsS_fr m3 f5
  obtain ⟨v25, e6, hf⟩ := jbind hf
  obtain ⟨h28, e7, hf⟩ := jbind hf
  have f7 : frK x h20 h28 := ⟨by rw [(oc_pf e7).1]; exact frK_w (by unfold qcc; omega), (oc_pf e7).2⟩
  have m7 := clsS_fr m5 f7
  cases hf
  exact (frK_tr (frK_tr f3 f5) f7)
theorem FC_X8_hangAs_21_6 {n : Nat} {x : Nat}  {h : jH} {q : jH} (M : clsS (oc h) x) (hf : F_X8_hangAs n (x + 21) (x + 6) h = some q) : frK x h q := by
  unfold F_X8_hangAs at hf
  obtain ⟨p1, e1, hf⟩ := jbind hf
  obtain ⟨p6, e2, hf⟩ := jbind hf
  have r2 := oc_gR e2
  rw [M.2.2.2.2.2.2.2.2.2.1.1] at r2
  cases r2
  obtain ⟨h12, e3, hf⟩ := jbind hf
  have f3 : frK x h h12 := ⟨by rw [(oc_cp e3).1]; exact frK_cp (fun k => by unfold qcc; omega), (oc_cp e3).2⟩
  have m3 := clsS_fr M f3
  obtain ⟨v17, e4, hf⟩ := jbind hf
  obtain ⟨h20, e5, hf⟩ := jbind hf
  have f5 : frK x h12 h20 := ⟨by rw [(oc_pf e5).1]; exact frK_w (by unfold qcc; omega), (oc_pf e5).2⟩
  have m5 := clsS_fr m3 f5
  obtain ⟨v25, e6, hf⟩ := jbind hf
  obtain ⟨h28, e7, hf⟩ := jbind hf
  have f7 : frK x h20 h28 := ⟨by rw [(oc_pf e7).1]; exact frK_w (by unfold qcc; omega), (oc_pf e7).2⟩
  have m7 := clsS_fr m5 f7
  cases hf
  exact (frK_tr (frK_tr f3 f5) f7)
theorem FC_X8_copyFrom_21_6 {n : Nat} {x : Nat}  {h : jH} {q : jH} (M : clsS (oc h) x) (hf : F_X8_copyFrom n (x + 21) (x + 6) h = some q) : frK x h q := by
  unfold F_X8_copyFrom at hf
  obtain ⟨p1, e1, hf⟩ := jbind hf
  obtain ⟨p6, e2, hf⟩ := jbind hf
  have r2 := oc_gR e2
  rw [M.2.2.2.2.2.2.2.2.2.1.2.1] at r2
  cases r2
  obtain ⟨h12, e3, hf⟩ := jbind hf
  have f3 : frK x h h12 := ⟨by rw [(oc_cp e3).1]; exact frK_cp (fun k => by unfold qcc; omega), (oc_cp e3).2⟩
  have m3 := clsS_fr M f3
  obtain ⟨p16, e4, hf⟩ := jbind hf
  obtain ⟨p21, e5, hf⟩ := jbind hf
  have r5 := oc_gR e5
  rw [m3.2.2.2.2.2.2.2.2.2.1.2.2.1] at r5
  cases r5
  obtain ⟨h27, e6, hf⟩ := jbind hf
  have f6 : frK x h12 h27 := ⟨by rw [(oc_cp e6).1]; exact frK_cp (fun k => by unfold qcc; omega), (oc_cp e6).2⟩
  have m6 := clsS_fr m3 f6
  obtain ⟨p31, e7, hf⟩ := jbind hf
  obtain ⟨p36, e8, hf⟩ := jbind hf
  have r8 := oc_gR e8
  rw [m6.2.2.2.2.2.2.2.2.2.1.2.2.2.1] at r8
  cases r8
  obtain ⟨h42, e9, hf⟩ := jbind hf
  have f9 : frK x h27 h42 := ⟨by rw [(oc_cp e9).1]; exact frK_cp (fun k => by unfold qcc; omega), (oc_cp e9).2⟩
  have m9 := clsS_fr m6 f9
  obtain ⟨p46, e10, hf⟩ := jbind hf
  have r10 := oc_gR e10
  rw [m9.2.2.2.2.2.2.2.2.2.1.2.2.2.2.1] at r10
  cases r10
  obtain ⟨p50, e11, hf⟩ := jbind hf
  obtain ⟨h53, e12, hf⟩ := jbind hf
  replace e12 := (jcv_o e12).2
  have f12 : frK x h42 h53 := (FC_X5_copyFrom_26_v m9 e12)
  have m12 := clsS_fr m9 f12
  obtain ⟨v58, e13, hf⟩ := jbind hf
  obtain ⟨h61, e14, hf⟩ := jbind hf
  have f14 : frK x h53 h61 := ⟨by rw [(oc_pf e14).1]; exact frK_w (by unfold qcc; omega), (oc_pf e14).2⟩
  have m14 := clsS_fr m12 f14
  obtain ⟨v66, e15, hf⟩ := jbind hf
  obtain ⟨h69, e16, hf⟩ := jbind hf
  have f16 : frK x h61 h69 := ⟨by rw [(oc_pf e16).1]; exact frK_w (by unfold qcc; omega), (oc_pf e16).2⟩
  have m16 := clsS_fr m14 f16
  obtain ⟨v74, e17, hf⟩ := jbind hf
  obtain ⟨h77, e18, hf⟩ := jbind hf
  have f18 : frK x h69 h77 := ⟨by rw [(oc_pf e18).1]; exact frK_w (by unfold qcc; omega), (oc_pf e18).2⟩
  have m18 := clsS_fr m16 f18
  obtain ⟨v82, e19, hf⟩ := jbind hf
  obtain ⟨h85, e20, hf⟩ := jbind hf
  have f20 : frK x h77 h85 := ⟨by rw [(oc_pf e20).1]; exact frK_w (by unfold qcc; omega), (oc_pf e20).2⟩
  have m20 := clsS_fr m18 f20
  obtain ⟨v90, e21, hf⟩ := jbind hf
  obtain ⟨h93, e22, hf⟩ := jbind hf
  have f22 : frK x h85 h93 := ⟨by rw [(oc_pf e22).1]; exact frK_w (by unfold qcc; omega), (oc_pf e22).2⟩
  have m22 := clsS_fr m20 f22
  obtain ⟨v98, e23, hf⟩ := jbind hf
  obtain ⟨h101, e24, hf⟩ := jbind hf
  have f24 : frK x h93 h101 := ⟨by rw [(oc_pf e24).1]; exact frK_w (by unfold qcc; omega), (oc_pf e24).2⟩
  have m24 := clsS_fr m22 f24
  obtain ⟨v106, e25, hf⟩ := jbind hf
  obtain ⟨h109, e26, hf⟩ := jbind hf
  have f26 : frK x h101 h109 := ⟨by rw [(oc_pf e26).1]; exact frK_w (by unfold qcc; omega), (oc_pf e26).2⟩
  have m26 := clsS_fr m24 f26
  obtain ⟨v114, e27, hf⟩ := jbind hf
  obtain ⟨h117, e28, hf⟩ := jbind hf
  have f28 : frK x h109 h117 := ⟨by rw [(oc_pf e28).1]; exact frK_w (by unfold qcc; omega), (oc_pf e28).2⟩
  have m28 := clsS_fr m26 f28
  obtain ⟨v122, e29, hf⟩ := jbind hf
  obtain ⟨h125, e30, hf⟩ := jbind hf
  have f30 : frK x h117 h125 := ⟨by rw [(oc_pf e30).1]; exact frK_w (by unfold qcc; omega), (oc_pf e30).2⟩
  have m30 := clsS_fr m28 f30
  obtain ⟨v130, e31, hf⟩ := jbind hf
  obtain ⟨h133, e32, hf⟩ := jbind hf
  have f32 : frK x h125 h133 := ⟨by rw [(oc_pf e32).1]; exact frK_w (by unfold qcc; omega), (oc_pf e32).2⟩
  have m32 := clsS_fr m30 f32
  obtain ⟨v138, e33, hf⟩ := jbind hf
  obtain ⟨h141, e34, hf⟩ := jbind hf
  have f34 : frK x h133 h141 := ⟨by rw [(oc_pf e34).1]; exact frK_w (by unfold qcc; omega), (oc_pf e34).2⟩
  have m34 := clsS_fr m32 f34
  obtain ⟨h146, e35, hf⟩ := jbind hf
  replace e35 := (jcv_o e35).2
  have f35 : frK x h141 h146 := (FC_X8_hangAs_21_6 m34 e35)
  have m35 := clsS_fr m34 f35
  cases hf
  exact (frK_tr (frK_tr (frK_tr (frK_tr (frK_tr (frK_tr (frK_tr (frK_tr (frK_tr (frK_tr (frK_tr (frK_tr (frK_tr (frK_tr (frK_tr f3 f6) f9) f12) f14) f16) f18) f20) f22) f24) f26) f28) f30) f32) f34) f35)
theorem FC_X8_move_28_21 {n : Nat} {x : Nat} {rc3 : Nat → Int32 → Int32 → Int32 → Int32 → jH → Option (Int32 × jH)} (hrc3 : ∀ {z1 : Int32} {z2 : Int32} {z3 : Int32} {z4 : Int32} {h : jH} {q : Int32 × jH}, clsS (oc h) x → rc3 (x + 21) z1 z2 z3 z4 h = some q → frK x h q.2) {k : Nat} : ∀ {x1 : Int32} {x2 : Int32} {x3 : Int32} {x4 : Int32} {x5 : Int32} {x6 : Int32} {h : jH} {q : Int32 × jH}, clsS (oc h) x → F_X8_move_28 n rc3 k (x + 21) x1 x2 x3 x4 x5 x6 h = some q → frK x h q.2 := by
  induction k with
  | zero =>
    intro x1 x2 x3 x4 x5 x6 h q M hf
    cases hf
  | succ k ih =>
    intro x1 x2 x3 x4 x5 x6 h q M hf
    replace hf : F_X8_move_28_b n rc3 (F_X8_move_28 n rc3 k) (x + 21) x1 x2 x3 x4 x5 x6 h = some q := hf
    unfold F_X8_move_28_b at hf
    obtain ⟨v31, e1, hf⟩ := jbind hf
    replace hf := jite hf
    rcases hf with ⟨-, hf⟩ | ⟨-, hf⟩
    · obtain ⟨v78, e2, hf⟩ := jbind hf
      obtain ⟨v84, e3, hf⟩ := jbind hf
      obtain ⟨v90, e4, hf⟩ := jbind hf
      obtain ⟨h97, e5, hf⟩ := jbind hf
      have f5 : frK x h h97 := ⟨by rw [(oc_pf e5).1]; exact frK_w (by unfold qcc; omega), (oc_pf e5).2⟩
      have m5 := clsS_fr M f5
      exact (frK_tr f5 (hrc3 m5 hf))
    · obtain ⟨v41, e6, hf⟩ := jbind hf
      replace hf := jite hf
      rcases hf with ⟨-, hf⟩ | ⟨-, hf⟩
      · obtain ⟨p49, e7, hf⟩ := jbind hf
        have r7 := oc_gR e7
        rw [M.2.2.2.2.2.2.2.2.2.1.1] at r7
        cases r7
        obtain ⟨v55, e8, hf⟩ := jbind hf
        replace hf := jite hf
        rcases hf with ⟨-, hf⟩ | ⟨-, hf⟩
        · obtain ⟨h66, e9, hf⟩ := jbind hf
          have f9 : frK x h h66 := ⟨by rw [(oc_as e9).1]; exact frK_w (by unfold qcc; omega), (oc_as e9).2.1⟩
          have m9 := clsS_fr M f9
          exact (frK_tr f9 (ih m9 hf))
        · obtain ⟨h66, e10, hf⟩ := jbind hf
          have f10 : frK x h h66 := ⟨by rw [(oc_as e10).1]; exact frK_w (by unfold qcc; omega), (oc_as e10).2.1⟩
          have m10 := clsS_fr M f10
          exact (frK_tr f10 (ih m10 hf))
      · exact (ih M hf)
theorem FC_X8_move_3_21 {n : Nat} {x : Nat} {k : Nat} : ∀ {x1 : Int32} {x2 : Int32} {x3 : Int32} {x4 : Int32} {h : jH} {q : Int32 × jH}, clsS (oc h) x → F_X8_move_3 n k (x + 21) x1 x2 x3 x4 h = some q → frK x h q.2 := by
  induction k with
  | zero =>
    intro x1 x2 x3 x4 h q M hf
    cases hf
  | succ k ih =>
    intro x1 x2 x3 x4 h q M hf
    replace hf : F_X8_move_3_b n (F_X8_move_3 n k) (x + 21) x1 x2 x3 x4 h = some q := hf
    unfold F_X8_move_3_b at hf
    replace hf := jite hf
    rcases hf with ⟨-, hf⟩ | ⟨-, hf⟩
    · cases hf
      exact frK_rfl
    · obtain ⟨v12, e1, hf⟩ := jbind hf
      replace e1 := (jcv_o e1).2
      replace hf := jite hf
      rcases hf with ⟨-, hf⟩ | ⟨-, hf⟩
      · cases hf
        exact frK_rfl
      · exact (FC_X8_move_28_21 ih M hf)
theorem FC_X8_move_21 {n : Nat} {x : Nat} {x1 : Int32} {x2 : Int32} {x3 : Int32} {h : jH} {q : Int32 × jH} (M : clsS (oc h) x) (hf : F_X8_move n (x + 21) x1 x2 x3 h = some q) : frK x h q.2 := by
  unfold F_X8_move at hf
  exact (FC_X8_move_3_21 M hf)
theorem FC_X11_goes_0 {n : Nat} {x : Nat} {x1 : Int32} {x2 : Int32} {h : jH} {q : jR × jH} (M : clsS (oc h) x) (hf : F_X11_goes n x x1 x2 h = some q) : frK x h q.2 := by
  unfold F_X11_goes at hf
  obtain ⟨q2, e1, hf⟩ := jbind hf
  replace e1 := (jcv_o e1).2
  have f1 : frK x h q2.2 := (FC_X11_requireRing_0 M e1)
  have m1 := clsS_fr M f1
  obtain ⟨r2, h2⟩ := q2
  rcases r2 with r2 | r2
  · replace hf := jthL hf
    obtain ⟨p6, e3, hf⟩ := jbind hf
    have r3 := oc_gR e3
    rw [m1.2.2.2.2.2.1.2.1] at r3
    cases r3
    obtain ⟨p10, e4, hf⟩ := jbind hf
    have r4 := oc_gR e4
    rw [m1.2.1] at r4
    cases r4
    obtain ⟨h13, e5, hf⟩ := jbind hf
    replace e5 := (jcv_o e5).2
    have f5 : frK x h2 h13 := (FC_X8_copyFrom_21_6 m1 e5)
    have m5 := clsS_fr m1 f5
    obtain ⟨p17, e6, hf⟩ := jbind hf
    have r6 := oc_gR e6
    rw [m5.2.2.2.2.2.1.2.1] at r6
    cases r6
    obtain ⟨q24, e7, hf⟩ := jbind hf
    replace e7 := (jcv_o e7).2
    have f7 : frK x h13 q24.2 := (FC_X8_move_21 m5 e7)
    have m7 := clsS_fr m5 f7
    cases hf
    exact (frK_tr (frK_tr f1 f5) f7)
  · cases jthR hf
    exact f1
theorem FC_X11_with_0 {n : Nat} {x : Nat} {x1 : Int32} {x2 : Int32} {h : jH} {q : jR × jH} (M : clsS (oc h) x) (hf : F_X11_with n x x1 x2 h = some q) : frK x h q.2 := by
  unfold F_X11_with at hf
  obtain ⟨q2, e1, hf⟩ := jbind hf
  replace e1 := (jcv_o e1).2
  have f1 : frK x h q2.2 := (FC_X11_requireRing_0 M e1)
  have m1 := clsS_fr M f1
  obtain ⟨r2, h2⟩ := q2
  rcases r2 with r2 | r2
  · replace hf := jthL hf
    obtain ⟨p6, e3, hf⟩ := jbind hf
    have r3 := oc_gR e3
    rw [m1.2.1] at r3
    cases r3
    obtain ⟨v11, e4, hf⟩ := jbind hf
    replace e4 := (jcv_o e4).2
    cases hf
    exact f1
  · cases jthR hf
    exact f1
theorem FC_X11_requireNumber_0 {n : Nat} {x : Nat} {x1 : Int32} {x2 : Int32} {x3 : Int32} {h : jH} {q : jR × jH} (M : clsS (oc h) x) (hf : F_X11_requireNumber n x x1 x2 x3 h = some q) : frK x h q.2 := by
  unfold F_X11_requireNumber at hf
  replace hf := jite hf
  rcases hf with ⟨-, hf⟩ | ⟨-, hf⟩
  · cases hf
    exact frK_rfl
  · replace hf := jite hf
    rcases hf with ⟨-, hf⟩ | ⟨-, hf⟩
    · cases hf
      exact frK_rfl
    · cases hf
      exact frK_rfl
theorem FC_X11_would_0 {n : Nat} {x : Nat} {x1 : Int32} {x2 : Int32} {x3 : Int32} {x4 : Int32} {h : jH} {q : jR × jH} (M : clsS (oc h) x) (hf : F_X11_would n x x1 x2 x3 x4 h = some q) : frK x h q.2 := by
  unfold F_X11_would at hf
  obtain ⟨q2, e1, hf⟩ := jbind hf
  replace e1 := (jcv_o e1).2
  have f1 : frK x h q2.2 := (FC_X11_requireRing_0 M e1)
  have m1 := clsS_fr M f1
  obtain ⟨r2, h2⟩ := q2
  rcases r2 with r2 | r2
  · replace hf := jthL hf
    obtain ⟨q10, e3, hf⟩ := jbind hf
    replace e3 := (jcv_o e3).2
    have f3 : frK x h2 q10.2 := (FC_X11_requireNumber_0 m1 e3)
    have m3 := clsS_fr m1 f3
    obtain ⟨r10, h10⟩ := q10
    rcases r10 with r10 | r10
    · replace hf := jthL hf
      obtain ⟨p14, e5, hf⟩ := jbind hf
      have r5 := oc_gR e5
      rw [m3.2.2.2.2.2.1.2.1] at r5
      cases r5
      obtain ⟨p18, e6, hf⟩ := jbind hf
      have r6 := oc_gR e6
      rw [m3.2.1] at r6
      cases r6
      obtain ⟨h21, e7, hf⟩ := jbind hf
      replace e7 := (jcv_o e7).2
      have f7 : frK x h10 h21 := (FC_X8_copyFrom_21_6 m3 e7)
      have m7 := clsS_fr m3 f7
      obtain ⟨p25, e8, hf⟩ := jbind hf
      have r8 := oc_gR e8
      rw [m7.2.2.2.2.2.1.2.1] at r8
      cases r8
      obtain ⟨q31, e9, hf⟩ := jbind hf
      replace e9 := (jcv_o e9).2
      have f9 : frK x h21 q31.2 := (FC_X8_move_21 m7 e9)
      have m9 := clsS_fr m7 f9
      replace hf := jite hf
      rcases hf with ⟨-, hf⟩ | ⟨-, hf⟩
      · obtain ⟨p59, e10, hf⟩ := jbind hf
        have r10 := oc_gR e10
        rw [m9.2.2.2.2.2.1.2.1] at r10
        cases r10
        obtain ⟨v62, e11, hf⟩ := jbind hf
        replace e11 := (jcv_o e11).2
        cases hf
        exact (frK_tr (frK_tr (frK_tr f1 f3) f7) f9)
      · obtain ⟨p41, e12, hf⟩ := jbind hf
        have r12 := oc_gR e12
        rw [m9.2.2.2.2.2.1.2.1] at r12
        cases r12
        obtain ⟨v44, e13, hf⟩ := jbind hf
        obtain ⟨p48, e14, hf⟩ := jbind hf
        have r14 := oc_gR e14
        rw [m9.2.1] at r14
        cases r14
        obtain ⟨v51, e15, hf⟩ := jbind hf
        cases hf
        exact (frK_tr (frK_tr (frK_tr f1 f3) f7) f9)
    · cases jthR hf
      exact (frK_tr f1 f3)
  · cases jthR hf
    exact f1
theorem FC_X7_farWith_37_6 {n : Nat} {x : Nat} {x2 : Int32} {x3 : Int32} {x4 : Int32} {x5 : Int32} {h : jH} {q : Int32 × jH} (M : clsS (oc h) x) (hf : F_X7_farWith n (x + 37) (x + 6) x2 x3 x4 x5 h = some q) : frK x h q.2 := by
  unfold F_X7_farWith at hf
  obtain ⟨p1, e1, hf⟩ := jbind hf
  have r1 := oc_gR e1
  rw [M.2.2.2.2.2.2.2.2.1.2.2.1] at r1
  cases r1
  obtain ⟨h5, e2, hf⟩ := jbind hf
  replace e2 := (jcv_o e2).2
  have f2 : frK x h h5 := (FC_X8_hangAs_21_6 M e2)
  have m2 := clsS_fr M f2
  obtain ⟨p9, e3, hf⟩ := jbind hf
  have r3 := oc_gR e3
  rw [m2.2.2.2.2.2.2.2.2.1.2.2.1] at r3
  cases r3
  obtain ⟨h13, e4, hf⟩ := jbind hf
  have f4 : frK x h5 h13 := ⟨by rw [(oc_pf e4).1]; exact frK_w (by unfold qcc; omega), (oc_pf e4).2⟩
  have m4 := clsS_fr m2 f4
  obtain ⟨p17, e5, hf⟩ := jbind hf
  have r5 := oc_gR e5
  rw [m4.2.2.2.2.2.2.2.2.1.2.2.1] at r5
  cases r5
  obtain ⟨q25, e6, hf⟩ := jbind hf
  replace e6 := (jcv_o e6).2
  have f6 : frK x h13 q25.2 := (FC_X8_move_21 m4 e6)
  have m6 := clsS_fr m4 f6
  cases hf
  exact (frK_tr (frK_tr f2 f4) f6)
theorem FC_X7_fewestFreed_46_37_6 {n : Nat} {x : Nat} {rc14 : Nat → Nat → Int32 → Int32 → Int32 → Int32 → Int32 → jH → Option (Int32 × jH)} (hrc14 : ∀ {z2 : Int32} {z3 : Int32} {z4 : Int32} {z5 : Int32} {z6 : Int32} {h : jH} {q : Int32 × jH}, clsS (oc h) x → rc14 (x + 37) (x + 6) z2 z3 z4 z5 z6 h = some q → frK x h q.2) {x2 : Int32} {x3 : Int32} {x4 : Int32} {x5 : Int32} {x6 : Int32} {s0 : Int32} {h : jH} {q : Int32 × jH} (M : clsS (oc h) x) (hf : F_X7_fewestFreed_46 n rc14 (x + 37) (x + 6) x2 x3 x4 x5 x6 s0 h = some q) : frK x h q.2 := by
  unfold F_X7_fewestFreed_46 at hf
  obtain ⟨v51, e1, hf⟩ := jbind hf
  replace hf := jite hf
  rcases hf with ⟨-, hf⟩ | ⟨-, hf⟩
  · replace hf := jite hf
    rcases hf with ⟨-, hf⟩ | ⟨-, hf⟩
    · exact (hrc14 M hf)
    · obtain ⟨v68, e2, hf⟩ := jbind hf
      obtain ⟨q80, e3, hf⟩ := jbind hf
      replace e3 := (jcv_o e3).2
      have f3 : frK x h q80.2 := (FC_X7_farWith_37_6 M e3)
      have m3 := clsS_fr M f3
      replace hf := jite hf
      rcases hf with ⟨-, hf⟩ | ⟨-, hf⟩
      · exact (frK_tr f3 (hrc14 m3 hf))
      · exact (frK_tr f3 (hrc14 m3 hf))
  · exact (hrc14 M hf)
theorem FC_X7_fewestFreed_14_37_6 {n : Nat} {x : Nat} {k : Nat} : ∀ {x2 : Int32} {x3 : Int32} {x4 : Int32} {x5 : Int32} {x6 : Int32} {h : jH} {q : Int32 × jH}, clsS (oc h) x → F_X7_fewestFreed_14 n k (x + 37) (x + 6) x2 x3 x4 x5 x6 h = some q → frK x h q.2 := by
  induction k with
  | zero =>
    intro x2 x3 x4 x5 x6 h q M hf
    cases hf
  | succ k ih =>
    intro x2 x3 x4 x5 x6 h q M hf
    replace hf : F_X7_fewestFreed_14_b n (F_X7_fewestFreed_14 n k) (x + 37) (x + 6) x2 x3 x4 x5 x6 h = some q := hf
    unfold F_X7_fewestFreed_14_b at hf
    replace hf := jite hf
    rcases hf with ⟨-, hf⟩ | ⟨-, hf⟩
    · cases hf
      exact frK_rfl
    · replace hf := jite hf
      rcases hf with ⟨-, hf⟩ | ⟨-, hf⟩
      · exact (FC_X7_fewestFreed_46_37_6 ih M hf)
      · obtain ⟨v30, e1, hf⟩ := jbind hf
        obtain ⟨v35, e2, hf⟩ := jbind hf
        replace hf := jite hf
        rcases hf with ⟨-, hf⟩ | ⟨-, hf⟩
        · exact (FC_X7_fewestFreed_46_37_6 ih M hf)
        · exact (FC_X7_fewestFreed_46_37_6 ih M hf)
theorem FC_X7_fewestFreed_37_6 {n : Nat} {x : Nat} {x2 : Int32} {x3 : Int32} {x4 : Int32} {h : jH} {q : Int32 × jH} (M : clsS (oc h) x) (hf : F_X7_fewestFreed n (x + 37) (x + 6) x2 x3 x4 h = some q) : frK x h q.2 := by
  unfold F_X7_fewestFreed at hf
  obtain ⟨p1, e1, hf⟩ := jbind hf
  have r1 := oc_gR e1
  rw [M.2.2.2.2.2.2.2.2.1.2.2.1] at r1
  cases r1
  obtain ⟨h5, e2, hf⟩ := jbind hf
  replace e2 := (jcv_o e2).2
  have f2 : frK x h h5 := (FC_X8_copyFrom_21_6 M e2)
  have m2 := clsS_fr M f2
  exact (frK_tr f2 (FC_X7_fewestFreed_14_37_6 m2 hf))
theorem FC_X11_loosen_0 {n : Nat} {x : Nat} {x1 : Int32} {x2 : Int32} {x3 : Int32} {h : jH} {q : jR × jH} (M : clsS (oc h) x) (hf : F_X11_loosen n x x1 x2 x3 h = some q) : frK x h q.2 := by
  unfold F_X11_loosen at hf
  obtain ⟨q2, e1, hf⟩ := jbind hf
  replace e1 := (jcv_o e1).2
  have f1 : frK x h q2.2 := (FC_X11_requireRing_0 M e1)
  have m1 := clsS_fr M f1
  obtain ⟨r2, h2⟩ := q2
  rcases r2 with r2 | r2
  · replace hf := jthL hf
    obtain ⟨q10, e3, hf⟩ := jbind hf
    replace e3 := (jcv_o e3).2
    have f3 : frK x h2 q10.2 := (FC_X11_requireNumber_0 m1 e3)
    have m3 := clsS_fr m1 f3
    obtain ⟨r10, h10⟩ := q10
    rcases r10 with r10 | r10
    · replace hf := jthL hf
      obtain ⟨p14, e5, hf⟩ := jbind hf
      have r5 := oc_gR e5
      rw [m3.2.2.2.2.2.1.2.2.2.2.2] at r5
      cases r5
      obtain ⟨p18, e6, hf⟩ := jbind hf
      have r6 := oc_gR e6
      rw [m3.2.1] at r6
      cases r6
      obtain ⟨q24, e7, hf⟩ := jbind hf
      replace e7 := (jcv_o e7).2
      have f7 : frK x h10 q24.2 := (FC_X7_fewestFreed_37_6 m3 e7)
      have m7 := clsS_fr m3 f7
      cases hf
      exact (frK_tr (frK_tr f1 f3) f7)
    · cases jthR hf
      exact (frK_tr f1 f3)
  · cases jthR hf
    exact f1
theorem FC_X11_tight_0 {n : Nat} {x : Nat} {x1 : Int32} {h : jH} {q : jR × jH} (M : clsS (oc h) x) (hf : F_X11_tight n x x1 h = some q) : frK x h q.2 := by
  unfold F_X11_tight at hf
  obtain ⟨q5, e1, hf⟩ := jbind hf
  replace e1 := (jcv_o e1).2
  have f1 : frK x h q5.2 := (FC_X11_requireNumber_0 M e1)
  have m1 := clsS_fr M f1
  obtain ⟨r5, h5⟩ := q5
  rcases r5 with r5 | r5
  · replace hf := jthL hf
    obtain ⟨p9, e3, hf⟩ := jbind hf
    have r3 := oc_gR e3
    rw [m1.2.1] at r3
    cases r3
    obtain ⟨v13, e4, hf⟩ := jbind hf
    cases hf
    exact f1
  · cases jthR hf
    exact f1
theorem FC_X11_lit_0 {n : Nat} {x : Nat} {x1 : Int32} {h : jH} {q : jR × jH} (M : clsS (oc h) x) (hf : F_X11_lit n x x1 h = some q) : frK x h q.2 := by
  unfold F_X11_lit at hf
  replace hf := jite hf
  rcases hf with ⟨-, hf⟩ | ⟨-, hf⟩
  · cases hf
    exact frK_rfl
  · replace hf := jite hf
    rcases hf with ⟨-, hf⟩ | ⟨-, hf⟩
    · obtain ⟨p22, e1, hf⟩ := jbind hf
      have r1 := oc_gR e1
      rw [M.2.1] at r1
      cases r1
      obtain ⟨v26, e2, hf⟩ := jbind hf
      cases hf
      exact frK_rfl
    · cases hf
      exact frK_rfl
theorem FC_X2_holds_23_13_21 {n : Nat} {x : Nat} {k : Nat} : ∀ {x1 : Int32} {x3 : Int32} {x4 : Int32} {h : jH} {q : Int32 × jH}, clsS (oc h) x → F_X2_holds_23 n k (x + 13) x1 (x + 21) x3 x4 h = some q → frK x h q.2 := by
  induction k with
  | zero =>
    intro x1 x3 x4 h q M hf
    cases hf
  | succ k ih =>
    intro x1 x3 x4 h q M hf
    replace hf : F_X2_holds_23_b n (F_X2_holds_23 n k) (x + 13) x1 (x + 21) x3 x4 h = some q := hf
    unfold F_X2_holds_23_b at hf
    obtain ⟨p26, e1, hf⟩ := jbind hf
    obtain ⟨v30, e2, hf⟩ := jbind hf
    replace hf := jite hf
    rcases hf with ⟨-, hf⟩ | ⟨-, hf⟩
    · obtain ⟨v113, e3, hf⟩ := jbind hf
      replace hf := jite hf
      rcases hf with ⟨-, hf⟩ | ⟨-, hf⟩
      · cases hf
        exact frK_rfl
      · obtain ⟨q120, e4, hf⟩ := jbind hf
        replace e4 := (jcv_o e4).2
        have f4 : frK x h q120.2 := (FC_X2_pop_13 M e4)
        have m4 := clsS_fr M f4
        replace hf := jite hf
        rcases hf with ⟨-, hf⟩ | ⟨-, hf⟩
        · cases hf
          exact f4
        · cases hf
          exact f4
    · obtain ⟨p35, e5, hf⟩ := jbind hf
      obtain ⟨v40, e6, hf⟩ := jbind hf
      obtain ⟨v45, e7, hf⟩ := jbind hf
      replace hf := jite hf
      rcases hf with ⟨-, hf⟩ | ⟨-, hf⟩
      · replace hf := jite hf
        rcases hf with ⟨-, hf⟩ | ⟨-, hf⟩
        · obtain ⟨q75, e8, hf⟩ := jbind hf
          replace e8 := (jcv_o e8).2
          have f8 : frK x h q75.2 := (FC_X2_pop_13 M e8)
          have m8 := clsS_fr M f8
          obtain ⟨h79, e9, hf⟩ := jbind hf
          replace e9 := (jcv_o e9).2
          have f9 : frK x q75.2 h79 := (FC_X2_push_13 m8 e9)
          have m9 := clsS_fr m8 f9
          exact (frK_tr (frK_tr f8 f9) (ih m9 hf))
        · obtain ⟨q86, e10, hf⟩ := jbind hf
          replace e10 := (jcv_o e10).2
          have f10 : frK x h q86.2 := (FC_X2_pop_13 M e10)
          have m10 := clsS_fr M f10
          obtain ⟨q95, e11, hf⟩ := jbind hf
          replace e11 := (jcv_o e11).2
          have f11 : frK x q86.2 q95.2 := (FC_X2_pop_13 m10 e11)
          have m11 := clsS_fr m10 f11
          obtain ⟨v100, e12, hf⟩ := jbind hf
          obtain ⟨h103, e13, hf⟩ := jbind hf
          replace e13 := (jcv_o e13).2
          have f13 : frK x q95.2 h103 := (FC_X2_push_13 m11 e13)
          have m13 := clsS_fr m11 f13
          exact (frK_tr (frK_tr (frK_tr f10 f11) f13) (ih m13 hf))
      · obtain ⟨v56, e14, hf⟩ := jbind hf
        obtain ⟨h59, e15, hf⟩ := jbind hf
        replace e15 := (jcv_o e15).2
        have f15 : frK x h h59 := (FC_X2_push_13 M e15)
        have m15 := clsS_fr M f15
        exact (frK_tr f15 (ih m15 hf))
theorem FC_X2_holds_13_21 {n : Nat} {x : Nat} {x1 : Int32} {x3 : Int32} {h : jH} {q : Int32 × jH} (M : clsS (oc h) x) (hf : F_X2_holds n (x + 13) x1 (x + 21) x3 h = some q) : frK x h q.2 := by
  unfold F_X2_holds at hf
  obtain ⟨h2, e1, hf⟩ := jbind hf
  have f1 : frK x h h2 := ⟨by rw [(oc_pf e1).1]; exact frK_w (by unfold qcc; omega), (oc_pf e1).2⟩
  have m1 := clsS_fr M f1
  replace hf := jite hf
  rcases hf with ⟨-, hf⟩ | ⟨-, hf⟩
  · exact (frK_tr f1 (FC_X2_holds_23_13_21 m1 hf))
  · obtain ⟨p14, e2, hf⟩ := jbind hf
    obtain ⟨v20, e3, hf⟩ := jbind hf
    exact (frK_tr f1 (FC_X2_holds_23_13_21 m1 hf))
theorem FC_X2_amount_20_13_21 {n : Nat} {x : Nat} {k : Nat} : ∀ {x1 : Int32} {x3 : Int32} {x4 : Int32} {x5 : Int32} {h : jH} {q : Int32 × jH}, clsS (oc h) x → F_X2_amount_20 n k (x + 13) x1 (x + 21) x3 x4 x5 h = some q → frK x h q.2 := by
  induction k with
  | zero =>
    intro x1 x3 x4 x5 h q M hf
    cases hf
  | succ k ih =>
    intro x1 x3 x4 x5 h q M hf
    replace hf : F_X2_amount_20_b n (F_X2_amount_20 n k) (x + 13) x1 (x + 21) x3 x4 x5 h = some q := hf
    unfold F_X2_amount_20_b at hf
    obtain ⟨v23, e1, hf⟩ := jbind hf
    replace hf := jite hf
    rcases hf with ⟨-, hf⟩ | ⟨-, hf⟩
    · cases hf
      exact frK_rfl
    · obtain ⟨p30, e2, hf⟩ := jbind hf
      obtain ⟨v35, e3, hf⟩ := jbind hf
      replace hf := jite hf
      rcases hf with ⟨-, hf⟩ | ⟨-, hf⟩
      · obtain ⟨q45, e4, hf⟩ := jbind hf
        replace e4 := (jcv_o e4).2
        have f4 : frK x h q45.2 := (FC_X2_holds_13_21 M e4)
        have m4 := clsS_fr M f4
        replace hf := jite hf
        rcases hf with ⟨-, hf⟩ | ⟨-, hf⟩
        · exact (frK_tr f4 (ih m4 hf))
        · obtain ⟨p54, e5, hf⟩ := jbind hf
          obtain ⟨v59, e6, hf⟩ := jbind hf
          exact (frK_tr f4 (ih m4 hf))
      · exact (ih M hf)
theorem FC_X2_amount_13_21 {n : Nat} {x : Nat} {x1 : Int32} {x3 : Int32} {h : jH} {q : Int32 × jH} (M : clsS (oc h) x) (hf : F_X2_amount n (x + 13) x1 (x + 21) x3 h = some q) : frK x h q.2 := by
  unfold F_X2_amount at hf
  obtain ⟨v1, e1, hf⟩ := jbind hf
  replace hf := jite hf
  rcases hf with ⟨-, hf⟩ | ⟨-, hf⟩
  · obtain ⟨v10, e2, hf⟩ := jbind hf
    cases hf
    exact frK_rfl
  · exact (FC_X2_amount_20_13_21 M hf)
theorem FC_X1_fadeAll_2_36_21 {n : Nat} {x : Nat} {k : Nat} : ∀ {x2 : Int32} {h : jH} {q : jH}, clsS (oc h) x → F_X1_fadeAll_2 n k (x + 36) (x + 21) x2 h = some q → frK x h q := by
  induction k with
  | zero =>
    intro x2 h q M hf
    cases hf
  | succ k ih =>
    intro x2 h q M hf
    replace hf : F_X1_fadeAll_2_b n (F_X1_fadeAll_2 n k) (x + 36) (x + 21) x2 h = some q := hf
    unfold F_X1_fadeAll_2_b at hf
    obtain ⟨v4, e1, hf⟩ := jbind hf
    replace hf := jite hf
    rcases hf with ⟨-, hf⟩ | ⟨-, hf⟩
    · cases hf
      exact frK_rfl
    · obtain ⟨p11, e2, hf⟩ := jbind hf
      have r2 := oc_gR e2
      rw [M.2.2.2.2.2.2.2.2.2.1.2.2.1] at r2
      cases r2
      obtain ⟨p18, e3, hf⟩ := jbind hf
      have r3 := oc_gR e3
      rw [M.2.2.2.2.2.2.2.2.2.1.2.2.1] at r3
      cases r3
      obtain ⟨v22, e4, hf⟩ := jbind hf
      obtain ⟨p24, e5, hf⟩ := jbind hf
      have r5 := oc_gR e5
      rw [M.2.2.2.1] at r5
      cases r5
      obtain ⟨q30, e6, hf⟩ := jbind hf
      replace e6 := (jcv_o e6).2
      have f6 : frK x h q30.2 := (FC_X2_amount_13_21 M e6)
      have m6 := clsS_fr M f6
      obtain ⟨h37, e7, hf⟩ := jbind hf
      have f7 : frK x q30.2 h37 := ⟨by rw [(oc_as e7).1]; exact frK_w (by unfold qcc; omega), (oc_as e7).2.1⟩
      have m7 := clsS_fr m6 f7
      exact (frK_tr (frK_tr f6 f7) (ih m7 hf))
theorem FC_X1_fadeAll_36_21 {n : Nat} {x : Nat}  {h : jH} {q : jH} (M : clsS (oc h) x) (hf : F_X1_fadeAll n (x + 36) (x + 21) h = some q) : frK x h q := by
  unfold F_X1_fadeAll at hf
  exact (FC_X1_fadeAll_2_36_21 M hf)
theorem FC_X1_turn_21 {n : Nat} {x : Nat}  {h : jH} {q : jH} (M : clsS (oc h) x) (hf : F_X1_turn n (x + 21) h = some q) : frK x h q := by
  unfold F_X1_turn at hf
  obtain ⟨v2, e1, hf⟩ := jbind hf
  obtain ⟨h7, e2, hf⟩ := jbind hf
  have f2 : frK x h h7 := ⟨by rw [(oc_pf e2).1]; exact frK_w (by unfold qcc; omega), (oc_pf e2).2⟩
  have m2 := clsS_fr M f2
  obtain ⟨v11, e3, hf⟩ := jbind hf
  replace hf := jite hf
  rcases hf with ⟨-, hf⟩ | ⟨-, hf⟩
  · cases hf
    exact f2
  · obtain ⟨h21, e4, hf⟩ := jbind hf
    have f4 : frK x h7 h21 := ⟨by rw [(oc_pf e4).1]; exact frK_w (by unfold qcc; omega), (oc_pf e4).2⟩
    have m4 := clsS_fr m2 f4
    obtain ⟨v29, e5, hf⟩ := jbind hf
    obtain ⟨h37, e6, hf⟩ := jbind hf
    have f6 : frK x h21 h37 := ⟨by rw [(oc_pf e6).1]; exact frK_w (by unfold qcc; omega), (oc_pf e6).2⟩
    have m6 := clsS_fr m4 f6
    cases hf
    exact (frK_tr (frK_tr f2 f4) f6)
theorem FC_X1_goAhead_10_36 {n : Nat} {x : Nat} {k : Nat} : ∀ {x2 : Int32} {x3 : Int32} {h : jH} {q : jH}, clsS (oc h) x → F_X1_goAhead_10 n k (x + 36) x2 x3 h = some q → frK x h q := by
  induction k with
  | zero =>
    intro x2 x3 h q M hf
    cases hf
  | succ k ih =>
    intro x2 x3 h q M hf
    replace hf : F_X1_goAhead_10_b n (F_X1_goAhead_10 n k) (x + 36) x2 x3 h = some q := hf
    unfold F_X1_goAhead_10_b at hf
    replace hf := jite hf
    rcases hf with ⟨-, hf⟩ | ⟨-, hf⟩
    · cases hf
      exact frK_rfl
    · obtain ⟨p17, e1, hf⟩ := jbind hf
      have r1 := oc_gR e1
      rw [M.2.2.2.2.2.2.2.2.1.1] at r1
      cases r1
      obtain ⟨h20, e2, hf⟩ := jbind hf
      replace e2 := (jcv_o e2).2
      have f2 : frK x h h20 := (FC_X1_fadeAll_36_21 M e2)
      have m2 := clsS_fr M f2
      obtain ⟨p24, e3, hf⟩ := jbind hf
      have r3 := oc_gR e3
      rw [m2.2.2.2.2.2.2.2.2.1.1] at r3
      cases r3
      obtain ⟨h27, e4, hf⟩ := jbind hf
      have f4 : frK x h20 h27 := (FC_X1_turn_21 m2 e4)
      have m4 := clsS_fr m2 f4
      exact (frK_tr (frK_tr f2 f4) (ih m4 hf))
theorem FC_X1_goAhead_36_6 {n : Nat} {x : Nat} {x2 : Int32} {h : jH} {q : jH} (M : clsS (oc h) x) (hf : F_X1_goAhead n (x + 36) (x + 6) x2 h = some q) : frK x h q := by
  unfold F_X1_goAhead at hf
  obtain ⟨p1, e1, hf⟩ := jbind hf
  have r1 := oc_gR e1
  rw [M.2.2.2.2.2.2.2.2.1.1] at r1
  cases r1
  obtain ⟨h5, e2, hf⟩ := jbind hf
  replace e2 := (jcv_o e2).2
  have f2 : frK x h h5 := (FC_X8_copyFrom_21_6 M e2)
  have m2 := clsS_fr M f2
  exact (frK_tr f2 (FC_X1_goAhead_10_36 m2 hf))
theorem FC_X11_faded_0 {n : Nat} {x : Nat} {x1 : Int32} {h : jH} {q : jR × jH} (M : clsS (oc h) x) (hf : F_X11_faded n x x1 h = some q) : frK x h q.2 := by
  unfold F_X11_faded at hf
  obtain ⟨q5, e1, hf⟩ := jbind hf
  replace e1 := (jcv_o e1).2
  have f1 : frK x h q5.2 := (FC_X11_requireNumber_0 M e1)
  have m1 := clsS_fr M f1
  obtain ⟨r5, h5⟩ := q5
  rcases r5 with r5 | r5
  · replace hf := jthL hf
    obtain ⟨p9, e3, hf⟩ := jbind hf
    have r3 := oc_gR e3
    rw [m1.2.2.1] at r3
    cases r3
    obtain ⟨p13, e4, hf⟩ := jbind hf
    have r4 := oc_gR e4
    rw [m1.2.1] at r4
    cases r4
    obtain ⟨h17, e5, hf⟩ := jbind hf
    replace e5 := (jcv_o e5).2
    have f5 : frK x h5 h17 := (FC_X1_goAhead_36_6 m1 e5)
    have m5 := clsS_fr m1 f5
    obtain ⟨p21, e6, hf⟩ := jbind hf
    have r6 := oc_gR e6
    rw [m5.2.2.2.2.2.1.2.1] at r6
    cases r6
    obtain ⟨v24, e7, hf⟩ := jbind hf
    replace e7 := (jcv_o e7).2
    cases hf
    exact (frK_tr f1 f5)
  · cases jthR hf
    exact f1
theorem FC_X11_lets_0 {n : Nat} {x : Nat} {x1 : Int32} {x2 : Int32} {h : jH} {q : jR × jH} (M : clsS (oc h) x) (hf : F_X11_lets n x x1 x2 h = some q) : frK x h q.2 := by
  unfold F_X11_lets at hf
  obtain ⟨q2, e1, hf⟩ := jbind hf
  replace e1 := (jcv_o e1).2
  have f1 : frK x h q2.2 := (FC_X11_requireRing_0 M e1)
  have m1 := clsS_fr M f1
  obtain ⟨r2, h2⟩ := q2
  rcases r2 with r2 | r2
  · replace hf := jthL hf
    obtain ⟨q10, e3, hf⟩ := jbind hf
    replace e3 := (jcv_o e3).2
    have f3 : frK x h2 q10.2 := (FC_X11_requireNumber_0 m1 e3)
    have m3 := clsS_fr m1 f3
    obtain ⟨r10, h10⟩ := q10
    rcases r10 with r10 | r10
    · replace hf := jthL hf
      obtain ⟨p14, e5, hf⟩ := jbind hf
      have r5 := oc_gR e5
      rw [m3.2.1] at r5
      cases r5
      obtain ⟨v19, e6, hf⟩ := jbind hf
      cases hf
      exact (frK_tr f1 f3)
    · cases jthR hf
      exact (frK_tr f1 f3)
  · cases jthR hf
    exact f1
theorem FC_X11_rests_0 {n : Nat} {x : Nat} {x1 : Int32} {h : jH} {q : jR × jH} (M : clsS (oc h) x) (hf : F_X11_rests n x x1 h = some q) : frK x h q.2 := by
  unfold F_X11_rests at hf
  obtain ⟨q2, e1, hf⟩ := jbind hf
  replace e1 := (jcv_o e1).2
  have f1 : frK x h q2.2 := (FC_X11_requireRing_0 M e1)
  have m1 := clsS_fr M f1
  obtain ⟨r2, h2⟩ := q2
  rcases r2 with r2 | r2
  · replace hf := jthL hf
    obtain ⟨p6, e3, hf⟩ := jbind hf
    have r3 := oc_gR e3
    rw [m1.2.1] at r3
    cases r3
    obtain ⟨v10, e4, hf⟩ := jbind hf
    cases hf
    exact f1
  · cases jthR hf
    exact f1
theorem FC_X1_oddsToStay_25 {n : Nat} {x : Nat} {k : Nat} : ∀ {x3 : Int32} {x4 : Int32} {x5 : Int32} {x6 : Int32} {h : jH} {q : Int32 × jH}, clsS (oc h) x → F_X1_oddsToStay_25 n k x3 x4 x5 x6 h = some q → frK x h q.2 := by
  induction k with
  | zero =>
    intro x3 x4 x5 x6 h q M hf
    cases hf
  | succ k ih =>
    intro x3 x4 x5 x6 h q M hf
    replace hf : F_X1_oddsToStay_25_b n (F_X1_oddsToStay_25 n k) x3 x4 x5 x6 h = some q := hf
    unfold F_X1_oddsToStay_25_b at hf
    replace hf := jite hf
    rcases hf with ⟨-, hf⟩ | ⟨-, hf⟩
    · cases hf
      exact frK_rfl
    · exact (ih M hf)
theorem FC_X1_oddsToStay_36_6 {n : Nat} {x : Nat} {x2 : Int32} {x3 : Int32} {h : jH} {q : Int32 × jH} (M : clsS (oc h) x) (hf : F_X1_oddsToStay n (x + 36) (x + 6) x2 x3 h = some q) : frK x h q.2 := by
  unfold F_X1_oddsToStay at hf
  obtain ⟨p3, e1, hf⟩ := jbind hf
  have r1 := oc_gR e1
  rw [M.2.2.2.1] at r1
  cases r1
  obtain ⟨q9, e2, hf⟩ := jbind hf
  replace e2 := (jcv_o e2).2
  have f2 : frK x h q9.2 := (FC_X2_amount_13_6 M e2)
  have m2 := clsS_fr M f2
  exact (frK_tr f2 (FC_X1_oddsToStay_25 m2 hf))
theorem FC_X11_odds_0 {n : Nat} {x : Nat} {x1 : Int32} {x2 : Int32} {h : jH} {q : jR × jH} (M : clsS (oc h) x) (hf : F_X11_odds n x x1 x2 h = some q) : frK x h q.2 := by
  unfold F_X11_odds at hf
  obtain ⟨q2, e1, hf⟩ := jbind hf
  replace e1 := (jcv_o e1).2
  have f1 : frK x h q2.2 := (FC_X11_requireRing_0 M e1)
  have m1 := clsS_fr M f1
  obtain ⟨r2, h2⟩ := q2
  rcases r2 with r2 | r2
  · replace hf := jthL hf
    obtain ⟨q9, e3, hf⟩ := jbind hf
    replace e3 := (jcv_o e3).2
    have f3 : frK x h2 q9.2 := (FC_X11_requireNumber_0 m1 e3)
    have m3 := clsS_fr m1 f3
    obtain ⟨r9, h9⟩ := q9
    rcases r9 with r9 | r9
    · replace hf := jthL hf
      obtain ⟨p13, e5, hf⟩ := jbind hf
      have r5 := oc_gR e5
      rw [m3.2.2.1] at r5
      cases r5
      obtain ⟨p17, e6, hf⟩ := jbind hf
      have r6 := oc_gR e6
      rw [m3.2.1] at r6
      cases r6
      obtain ⟨q22, e7, hf⟩ := jbind hf
      replace e7 := (jcv_o e7).2
      have f7 : frK x h9 q22.2 := (FC_X1_oddsToStay_36_6 m3 e7)
      have m7 := clsS_fr m3 f7
      cases hf
      exact (frK_tr (frK_tr f1 f3) f7)
    · cases jthR hf
      exact (frK_tr f1 f3)
  · cases jthR hf
    exact f1
theorem FC_X11_ahead_0 {n : Nat} {x : Nat} {x1 : Int32} {x2 : Int32} {h : jH} {q : jR × jH} (M : clsS (oc h) x) (hf : F_X11_ahead n x x1 x2 h = some q) : frK x h q.2 := by
  unfold F_X11_ahead at hf
  obtain ⟨q2, e1, hf⟩ := jbind hf
  replace e1 := (jcv_o e1).2
  have f1 : frK x h q2.2 := (FC_X11_requireRing_0 M e1)
  have m1 := clsS_fr M f1
  obtain ⟨r2, h2⟩ := q2
  rcases r2 with r2 | r2
  · replace hf := jthL hf
    obtain ⟨q10, e3, hf⟩ := jbind hf
    replace e3 := (jcv_o e3).2
    have f3 : frK x h2 q10.2 := (FC_X11_requireNumber_0 m1 e3)
    have m3 := clsS_fr m1 f3
    obtain ⟨r10, h10⟩ := q10
    rcases r10 with r10 | r10
    · replace hf := jthL hf
      obtain ⟨p14, e5, hf⟩ := jbind hf
      have r5 := oc_gR e5
      rw [m3.2.2.1] at r5
      cases r5
      obtain ⟨p18, e6, hf⟩ := jbind hf
      have r6 := oc_gR e6
      rw [m3.2.1] at r6
      cases r6
      obtain ⟨h22, e7, hf⟩ := jbind hf
      replace e7 := (jcv_o e7).2
      have f7 : frK x h10 h22 := (FC_X1_goAhead_36_6 m3 e7)
      have m7 := clsS_fr m3 f7
      obtain ⟨p26, e8, hf⟩ := jbind hf
      have r8 := oc_gR e8
      rw [m7.2.2.2.2.2.1.2.1] at r8
      cases r8
      obtain ⟨p29, e9, hf⟩ := jbind hf
      have r9 := oc_gR e9
      rw [m7.2.2.2.2.2.2.2.2.2.1.2.2.1] at r9
      cases r9
      obtain ⟨v33, e10, hf⟩ := jbind hf
      cases hf
      exact (frK_tr (frK_tr f1 f3) f7)
    · cases jthR hf
      exact (frK_tr f1 f3)
  · cases jthR hf
    exact f1
theorem FC_X1_draw_21 {n : Nat} {x : Nat}  {h : jH} {q : Int32 × jH} (M : clsS (oc h) x) (hf : F_X1_draw n (x + 21) h = some q) : frK x h q.2 := by
  unfold F_X1_draw at hf
  obtain ⟨v4, e1, hf⟩ := jbind hf
  obtain ⟨h12, e2, hf⟩ := jbind hf
  have f2 : frK x h h12 := ⟨by rw [(oc_pf e2).1]; exact frK_w (by unfold qcc; omega), (oc_pf e2).2⟩
  have m2 := clsS_fr M f2
  obtain ⟨v16, e3, hf⟩ := jbind hf
  cases hf
  exact f2
theorem FC_X5_add_90_26_26 {n : Nat} {x : Nat} {s1 : Int32} {h : jH} {q : jH} (M : clsS (oc h) x) (hf : F_X5_add_90 n (x + 26) (x + 26) s1 h = some q) : frK x h q := by
  unfold F_X5_add_90 at hf
  obtain ⟨h90, e1, hf⟩ := jbind hf
  have f1 : frK x h h90 := ⟨by rw [(oc_pf e1).1]; exact frK_w (by unfold qcc; omega), (oc_pf e1).2⟩
  have m1 := clsS_fr M f1
  obtain ⟨v97, e2, hf⟩ := jbind hf
  obtain ⟨h105, e3, hf⟩ := jbind hf
  have f3 : frK x h90 h105 := ⟨by rw [(oc_pf e3).1]; exact frK_w (by unfold qcc; omega), (oc_pf e3).2⟩
  have m3 := clsS_fr m1 f3
  cases hf
  exact (frK_tr f1 f3)
theorem FC_X5_add_26_21 {n : Nat} {x : Nat} {x2 : Int32} {x3 : Int32} {x4 : Int32} {h : jH} {q : jH} (M : clsS (oc h) x) (hf : F_X5_add n (x + 26) (x + 21) x2 x3 x4 h = some q) : frK x h q := by
  unfold F_X5_add at hf
  obtain ⟨p1, e1, hf⟩ := jbind hf
  have r1 := oc_gR e1
  rw [M.2.2.2.2.2.2.2.2.2.1.2.2.2.2.2] at r1
  cases r1
  obtain ⟨v5, e2, hf⟩ := jbind hf
  obtain ⟨v9, e3, hf⟩ := jbind hf
  obtain ⟨v19, e4, hf⟩ := jbind hf
  obtain ⟨p55, e5, hf⟩ := jbind hf
  have r5 := oc_gR e5
  rw [M.2.2.2.2.2.2.2.2.2.1.1] at r5
  cases r5
  obtain ⟨v59, e6, hf⟩ := jbind hf
  obtain ⟨h67, e7, hf⟩ := jbind hf
  have f7 : frK x h h67 := ⟨by rw [(oc_as e7).1]; exact frK_w (by unfold qcc; omega), (oc_as e7).2.1⟩
  have m7 := clsS_fr M f7
  obtain ⟨v70, e8, hf⟩ := jbind hf
  replace hf := jite hf
  rcases hf with ⟨-, hf⟩ | ⟨-, hf⟩
  · exact (frK_tr f7 (FC_X5_add_90_26_26 m7 hf))
  · obtain ⟨v81, e9, hf⟩ := jbind hf
    exact (frK_tr f7 (FC_X5_add_90_26_26 m7 hf))
theorem FC_X1_catchSome_4_36_21 {n : Nat} {x : Nat} {k : Nat} : ∀ {x2 : Int32} {x3 : Int32} {h : jH} {q : Int32 × jH}, clsS (oc h) x → F_X1_catchSome_4 n k (x + 36) (x + 21) x2 x3 h = some q → frK x h q.2 := by
  induction k with
  | zero =>
    intro x2 x3 h q M hf
    cases hf
  | succ k ih =>
    intro x2 x3 h q M hf
    replace hf : F_X1_catchSome_4_b n (F_X1_catchSome_4 n k) (x + 36) (x + 21) x2 x3 h = some q := hf
    unfold F_X1_catchSome_4_b at hf
    obtain ⟨v6, e1, hf⟩ := jbind hf
    replace hf := jite hf
    rcases hf with ⟨-, hf⟩ | ⟨-, hf⟩
    · cases hf
      exact frK_rfl
    · obtain ⟨v15, e2, hf⟩ := jbind hf
      replace e2 := (jcv_o e2).2
      replace hf := jite hf
      rcases hf with ⟨-, hf⟩ | ⟨-, hf⟩
      · obtain ⟨v23, e3, hf⟩ := jbind hf
        obtain ⟨v27, e4, hf⟩ := jbind hf
        replace hf := jite hf
        rcases hf with ⟨-, hf⟩ | ⟨-, hf⟩
        · obtain ⟨q34, e5, hf⟩ := jbind hf
          have f5 : frK x h q34.2 := (FC_X1_draw_21 M e5)
          have m5 := clsS_fr M f5
          obtain ⟨p38, e6, hf⟩ := jbind hf
          have r6 := oc_gR e6
          rw [m5.2.2.2.1] at r6
          cases r6
          obtain ⟨q44, e7, hf⟩ := jbind hf
          replace e7 := (jcv_o e7).2
          have f7 : frK x q34.2 q44.2 := (FC_X2_amount_13_21 m5 e7)
          have m7 := clsS_fr m5 f7
          replace hf := jite hf
          rcases hf with ⟨-, hf⟩ | ⟨-, hf⟩
          · exact (frK_tr (frK_tr f5 f7) (ih m7 hf))
          · obtain ⟨v52, e8, hf⟩ := jbind hf
            obtain ⟨v57, e9, hf⟩ := jbind hf
            obtain ⟨h60, e10, hf⟩ := jbind hf
            have f10 : frK x q44.2 h60 := ⟨by rw [(oc_pf e10).1]; exact frK_w (by unfold qcc; omega), (oc_pf e10).2⟩
            have m10 := clsS_fr m7 f10
            obtain ⟨p64, e11, hf⟩ := jbind hf
            have r11 := oc_gR e11
            rw [m10.2.2.2.2.2.2.2.2.2.1.2.2.2.2.1] at r11
            cases r11
            obtain ⟨h71, e12, hf⟩ := jbind hf
            replace e12 := (jcv_o e12).2
            have f12 : frK x h60 h71 := (FC_X5_add_26_21 m10 e12)
            have m12 := clsS_fr m10 f12
            exact (frK_tr (frK_tr (frK_tr (frK_tr f5 f7) f10) f12) (ih m12 hf))
        · exact (ih M hf)
      · exact (ih M hf)
theorem FC_X1_catchSome_36_21 {n : Nat} {x : Nat}  {h : jH} {q : Int32 × jH} (M : clsS (oc h) x) (hf : F_X1_catchSome n (x + 36) (x + 21) h = some q) : frK x h q.2 := by
  unfold F_X1_catchSome at hf
  exact (FC_X1_catchSome_4_36_21 M hf)
theorem FC_X1_dropSome_4_36_21 {n : Nat} {x : Nat} {k : Nat} : ∀ {x2 : Int32} {x3 : Int32} {h : jH} {q : Int32 × jH}, clsS (oc h) x → F_X1_dropSome_4 n k (x + 36) (x + 21) x2 x3 h = some q → frK x h q.2 := by
  induction k with
  | zero =>
    intro x2 x3 h q M hf
    cases hf
  | succ k ih =>
    intro x2 x3 h q M hf
    replace hf : F_X1_dropSome_4_b n (F_X1_dropSome_4 n k) (x + 36) (x + 21) x2 x3 h = some q := hf
    unfold F_X1_dropSome_4_b at hf
    obtain ⟨v6, e1, hf⟩ := jbind hf
    replace hf := jite hf
    rcases hf with ⟨-, hf⟩ | ⟨-, hf⟩
    · cases hf
      exact frK_rfl
    · obtain ⟨v13, e2, hf⟩ := jbind hf
      obtain ⟨v17, e3, hf⟩ := jbind hf
      replace hf := jite hf
      rcases hf with ⟨-, hf⟩ | ⟨-, hf⟩
      · obtain ⟨q25, e4, hf⟩ := jbind hf
        have f4 : frK x h q25.2 := (FC_X1_draw_21 M e4)
        have m4 := clsS_fr M f4
        obtain ⟨p29, e5, hf⟩ := jbind hf
        have r5 := oc_gR e5
        rw [m4.2.2.2.1] at r5
        cases r5
        obtain ⟨q35, e6, hf⟩ := jbind hf
        replace e6 := (jcv_o e6).2
        have f6 : frK x q25.2 q35.2 := (FC_X2_amount_13_21 m4 e6)
        have m6 := clsS_fr m4 f6
        replace hf := jite hf
        rcases hf with ⟨-, hf⟩ | ⟨-, hf⟩
        · exact (frK_tr (frK_tr f4 f6) (ih m6 hf))
        · obtain ⟨v43, e7, hf⟩ := jbind hf
          obtain ⟨v48, e8, hf⟩ := jbind hf
          obtain ⟨h51, e9, hf⟩ := jbind hf
          have f9 : frK x q35.2 h51 := ⟨by rw [(oc_pf e9).1]; exact frK_w (by unfold qcc; omega), (oc_pf e9).2⟩
          have m9 := clsS_fr m6 f9
          obtain ⟨p55, e10, hf⟩ := jbind hf
          have r10 := oc_gR e10
          rw [m9.2.2.2.2.2.2.2.2.2.1.2.2.2.2.1] at r10
          cases r10
          obtain ⟨h62, e11, hf⟩ := jbind hf
          replace e11 := (jcv_o e11).2
          have f11 : frK x h51 h62 := (FC_X5_add_26_21 m9 e11)
          have m11 := clsS_fr m9 f11
          exact (frK_tr (frK_tr (frK_tr (frK_tr f4 f6) f9) f11) (ih m11 hf))
      · exact (ih M hf)
theorem FC_X1_dropSome_36_21 {n : Nat} {x : Nat}  {h : jH} {q : Int32 × jH} (M : clsS (oc h) x) (hf : F_X1_dropSome n (x + 36) (x + 21) h = some q) : frK x h q.2 := by
  unfold F_X1_dropSome at hf
  exact (FC_X1_dropSome_4_36_21 M hf)
theorem FC_X1_run_5_36_21 {n : Nat} {x : Nat} {k : Nat} : ∀ {x2 : Int32} {x3 : Int32} {x4 : Int32} {h : jH} {q : Int32 × jH}, clsS (oc h) x → F_X1_run_5 n k (x + 36) (x + 21) x2 x3 x4 h = some q → frK x h q.2 := by
  induction k with
  | zero =>
    intro x2 x3 x4 h q M hf
    cases hf
  | succ k ih =>
    intro x2 x3 x4 h q M hf
    replace hf : F_X1_run_5_b n (F_X1_run_5 n k) (x + 36) (x + 21) x2 x3 x4 h = some q := hf
    unfold F_X1_run_5_b at hf
    replace hf := jite hf
    rcases hf with ⟨-, hf⟩ | ⟨-, hf⟩
    · cases hf
      exact frK_rfl
    · obtain ⟨h13, e1, hf⟩ := jbind hf
      replace e1 := (jcv_o e1).2
      have f1 : frK x h h13 := (FC_X1_fadeAll_36_21 M e1)
      have m1 := clsS_fr M f1
      obtain ⟨q19, e2, hf⟩ := jbind hf
      replace e2 := (jcv_o e2).2
      have f2 : frK x h13 q19.2 := (FC_X1_catchSome_36_21 m1 e2)
      have m2 := clsS_fr m1 f2
      obtain ⟨q24, e3, hf⟩ := jbind hf
      replace e3 := (jcv_o e3).2
      have f3 : frK x q19.2 q24.2 := (FC_X1_dropSome_36_21 m2 e3)
      have m3 := clsS_fr m2 f3
      obtain ⟨h31, e4, hf⟩ := jbind hf
      have f4 : frK x q24.2 h31 := (FC_X1_turn_21 m3 e4)
      have m4 := clsS_fr m3 f4
      exact (frK_tr (frK_tr (frK_tr (frK_tr f1 f2) f3) f4) (ih m4 hf))
theorem FC_X1_run_36_21 {n : Nat} {x : Nat} {x2 : Int32} {h : jH} {q : Int32 × jH} (M : clsS (oc h) x) (hf : F_X1_run n (x + 36) (x + 21) x2 h = some q) : frK x h q.2 := by
  unfold F_X1_run at hf
  exact (FC_X1_run_5_36_21 M hf)
theorem FC_X1_tryHours_36_6 {n : Nat} {x : Nat} {x2 : Int32} {x3 : Int32} {h : jH} {q : jH} (M : clsS (oc h) x) (hf : F_X1_tryHours n (x + 36) (x + 6) x2 x3 h = some q) : frK x h q := by
  unfold F_X1_tryHours at hf
  obtain ⟨p1, e1, hf⟩ := jbind hf
  have r1 := oc_gR e1
  rw [M.2.2.2.2.2.2.2.2.1.1] at r1
  cases r1
  obtain ⟨h5, e2, hf⟩ := jbind hf
  replace e2 := (jcv_o e2).2
  have f2 : frK x h h5 := (FC_X8_copyFrom_21_6 M e2)
  have m2 := clsS_fr M f2
  obtain ⟨p9, e3, hf⟩ := jbind hf
  have r3 := oc_gR e3
  rw [m2.2.2.2.2.2.2.2.2.1.1] at r3
  cases r3
  obtain ⟨h13, e4, hf⟩ := jbind hf
  have f4 : frK x h5 h13 := ⟨by rw [(oc_pf e4).1]; exact frK_w (by unfold qcc; omega), (oc_pf e4).2⟩
  have m4 := clsS_fr m2 f4
  obtain ⟨p18, e5, hf⟩ := jbind hf
  have r5 := oc_gR e5
  rw [m4.2.2.2.2.2.2.2.2.1.1] at r5
  cases r5
  obtain ⟨q22, e6, hf⟩ := jbind hf
  replace e6 := (jcv_o e6).2
  have f6 : frK x h13 q22.2 := (FC_X1_run_36_21 m4 e6)
  have m6 := clsS_fr m4 f6
  cases hf
  exact (frK_tr (frK_tr f2 f4) f6)
theorem FC_X11_trial_0 {n : Nat} {x : Nat} {x1 : Int32} {x2 : Int32} {h : jH} {q : jR × jH} (M : clsS (oc h) x) (hf : F_X11_trial n x x1 x2 h = some q) : frK x h q.2 := by
  unfold F_X11_trial at hf
  obtain ⟨q5, e1, hf⟩ := jbind hf
  replace e1 := (jcv_o e1).2
  have f1 : frK x h q5.2 := (FC_X11_requireNumber_0 M e1)
  have m1 := clsS_fr M f1
  obtain ⟨r5, h5⟩ := q5
  rcases r5 with r5 | r5
  · replace hf := jthL hf
    obtain ⟨p9, e3, hf⟩ := jbind hf
    have r3 := oc_gR e3
    rw [m1.2.2.1] at r3
    cases r3
    obtain ⟨p13, e4, hf⟩ := jbind hf
    have r4 := oc_gR e4
    rw [m1.2.1] at r4
    cases r4
    obtain ⟨p18, e5, hf⟩ := jbind hf
    have r5 := oc_gR e5
    rw [m1.2.1] at r5
    cases r5
    obtain ⟨v21, e6, hf⟩ := jbind hf
    obtain ⟨h24, e7, hf⟩ := jbind hf
    replace e7 := (jcv_o e7).2
    have f7 : frK x h5 h24 := (FC_X1_tryHours_36_6 m1 e7)
    have m7 := clsS_fr m1 f7
    replace hf := jite hf
    rcases hf with ⟨-, hf⟩ | ⟨-, hf⟩
    · obtain ⟨p42, e8, hf⟩ := jbind hf
      have r8 := oc_gR e8
      rw [m7.2.2.2.2.2.1.2.1] at r8
      cases r8
      obtain ⟨v45, e9, hf⟩ := jbind hf
      cases hf
      exact (frK_tr f1 f7)
    · obtain ⟨p32, e10, hf⟩ := jbind hf
      have r10 := oc_gR e10
      rw [m7.2.2.2.2.2.1.2.1] at r10
      cases r10
      obtain ⟨v35, e11, hf⟩ := jbind hf
      replace e11 := (jcv_o e11).2
      cases hf
      exact (frK_tr f1 f7)
  · cases jthR hf
    exact f1
theorem FC_X11_span_13_0 {n : Nat} {x : Nat} {k : Nat} : ∀ {x1 : Int32} {x2 : Int32} {x3 : Int32} {x4 : Int32} {h : jH} {q : jR × jH}, clsS (oc h) x → F_X11_span_13 n k x x1 x2 x3 x4 h = some q → frK x h q.2 := by
  induction k with
  | zero =>
    intro x1 x2 x3 x4 h q M hf
    cases hf
  | succ k ih =>
    intro x1 x2 x3 x4 h q M hf
    replace hf : F_X11_span_13_b n (F_X11_span_13 n k) x x1 x2 x3 x4 h = some q := hf
    unfold F_X11_span_13_b at hf
    replace hf := jite hf
    rcases hf with ⟨-, hf⟩ | ⟨-, hf⟩
    · cases hf
      exact frK_rfl
    · obtain ⟨p21, e1, hf⟩ := jbind hf
      have r1 := oc_gR e1
      rw [M.2.2.1] at r1
      cases r1
      obtain ⟨p25, e2, hf⟩ := jbind hf
      have r2 := oc_gR e2
      rw [M.2.1] at r2
      cases r2
      obtain ⟨h31, e3, hf⟩ := jbind hf
      replace e3 := (jcv_o e3).2
      have f3 : frK x h h31 := (FC_X1_tryHours_36_6 M e3)
      have m3 := clsS_fr M f3
      obtain ⟨p35, e4, hf⟩ := jbind hf
      have r4 := oc_gR e4
      rw [m3.2.2.2.2.2.1.2.1] at r4
      cases r4
      obtain ⟨v38, e5, hf⟩ := jbind hf
      obtain ⟨v41, e6, hf⟩ := jbind hf
      obtain ⟨p45, e7, hf⟩ := jbind hf
      have r7 := oc_gR e7
      rw [m3.2.2.2.2.2.1.2.1] at r7
      cases r7
      obtain ⟨v48, e8, hf⟩ := jbind hf
      replace e8 := (jcv_o e8).2
      obtain ⟨v51, e9, hf⟩ := jbind hf
      replace hf := jite hf
      rcases hf with ⟨-, hf⟩ | ⟨-, hf⟩
      · exact (frK_tr f3 (ih m3 hf))
      · replace hf := jite hf
        rcases hf with ⟨-, hf⟩ | ⟨-, hf⟩
        · replace hf := jite hf
          rcases hf with ⟨-, hf⟩ | ⟨-, hf⟩
          · exact (frK_tr f3 (ih m3 hf))
          · exact (frK_tr f3 (ih m3 hf))
        · replace hf := jite hf
          rcases hf with ⟨-, hf⟩ | ⟨-, hf⟩
          · exact (frK_tr f3 (ih m3 hf))
          · exact (frK_tr f3 (ih m3 hf))
theorem FC_X11_span_0 {n : Nat} {x : Nat} {x1 : Int32} {x2 : Int32} {h : jH} {q : jR × jH} (M : clsS (oc h) x) (hf : F_X11_span n x x1 x2 h = some q) : frK x h q.2 := by
  unfold F_X11_span at hf
  obtain ⟨q5, e1, hf⟩ := jbind hf
  replace e1 := (jcv_o e1).2
  have f1 : frK x h q5.2 := (FC_X11_requireNumber_0 M e1)
  have m1 := clsS_fr M f1
  obtain ⟨r5, h5⟩ := q5
  rcases r5 with r5 | r5
  · replace hf := jthL hf
    exact (frK_tr f1 (FC_X11_span_13_0 m1 hf))
  · cases jthR hf
    exact f1
theorem FC_X11_led_0 {n : Nat} {x : Nat} {x1 : Int32} {x2 : Int32} {h : jH} {q : jR × jH} (M : clsS (oc h) x) (hf : F_X11_led n x x1 x2 h = some q) : frK x h q.2 := by
  unfold F_X11_led at hf
  obtain ⟨q2, e1, hf⟩ := jbind hf
  replace e1 := (jcv_o e1).2
  have f1 : frK x h q2.2 := (FC_X11_requireRing_0 M e1)
  have m1 := clsS_fr M f1
  obtain ⟨r2, h2⟩ := q2
  rcases r2 with r2 | r2
  · replace hf := jthL hf
    replace hf := jite hf
    rcases hf with ⟨-, hf⟩ | ⟨-, hf⟩
    · obtain ⟨p24, e3, hf⟩ := jbind hf
      have r3 := oc_gR e3
      rw [m1.2.1] at r3
      cases r3
      obtain ⟨p27, e4, hf⟩ := jbind hf
      obtain ⟨v31, e5, hf⟩ := jbind hf
      replace e5 := (jcv_o e5).2
      cases hf
      exact f1
    · obtain ⟨p10, e6, hf⟩ := jbind hf
      have r6 := oc_gR e6
      rw [m1.2.1] at r6
      cases r6
      obtain ⟨p13, e7, hf⟩ := jbind hf
      obtain ⟨v17, e8, hf⟩ := jbind hf
      replace e8 := (jcv_o e8).2
      cases hf
      exact f1
  · cases jthR hf
    exact f1
theorem FC_X11_log_0 {n : Nat} {x : Nat} {x1 : Int32} {x2 : Int32} {h : jH} {q : jR × jH} (M : clsS (oc h) x) (hf : F_X11_log n x x1 x2 h = some q) : frK x h q.2 := by
  unfold F_X11_log at hf
  replace hf := jite hf
  rcases hf with ⟨-, hf⟩ | ⟨-, hf⟩
  · cases hf
    exact frK_rfl
  · replace hf := jite hf
    rcases hf with ⟨-, hf⟩ | ⟨-, hf⟩
    · obtain ⟨p22, e1, hf⟩ := jbind hf
      have r1 := oc_gR e1
      rw [M.2.1] at r1
      cases r1
      obtain ⟨p25, e2, hf⟩ := jbind hf
      obtain ⟨v30, e3, hf⟩ := jbind hf
      replace e3 := (jcv_o e3).2
      cases hf
      exact frK_rfl
    · cases hf
      exact frK_rfl
theorem FC_X7_shadiest_68_37_6_21 {n : Nat} {x : Nat} {rc18 : Nat → Nat → Int32 → Int32 → Int32 → jH → Option (Int32 × jH)} (hrc18 : ∀ {z2 : Int32} {z3 : Int32} {z4 : Int32} {h : jH} {q : Int32 × jH}, clsS (oc h) x → rc18 (x + 37) (x + 6) z2 z3 z4 h = some q → frK x h q.2) {rc40 : Nat → Nat → Int32 → Int32 → Int32 → Int32 → jH → Option (Int32 × jH)} (hrc40 : ∀ {z2 : Int32} {z3 : Int32} {z4 : Int32} {z5 : Int32} {h : jH} {q : Int32 × jH}, clsS (oc h) x → rc40 (x + 37) (x + 6) z2 z3 z4 z5 h = some q → frK x h q.2) {x2 : Int32} {x3 : Int32} {x4 : Int32} {x5 : Int32} {s1 : Int32} {s2 : Int32} {h : jH} {q : Int32 × jH} (M : clsS (oc h) x) (hf : F_X7_shadiest_68 n rc18 rc40 (x + 37) (x + 6) x2 x3 x4 x5 (x + 21) s1 s2 h = some q) : frK x h q.2 := by
  unfold F_X7_shadiest_68 at hf
  obtain ⟨q69, e1, hf⟩ := jbind hf
  replace e1 := (jcv_o e1).2
  have f1 : frK x h q69.2 := (FC_X8_move_21 M e1)
  have m1 := clsS_fr M f1
  replace hf := jite hf
  rcases hf with ⟨-, hf⟩ | ⟨-, hf⟩
  · obtain ⟨p77, e2, hf⟩ := jbind hf
    have r2 := oc_gR e2
    rw [m1.2.2.2.2.2.2.2.2.1.2.2.1] at r2
    cases r2
    obtain ⟨v80, e3, hf⟩ := jbind hf
    replace e3 := (jcv_o e3).2
    replace hf := jite hf
    rcases hf with ⟨-, hf⟩ | ⟨-, hf⟩
    · exact (frK_tr f1 (hrc40 m1 hf))
    · exact (frK_tr f1 (hrc40 m1 hf))
  · exact (frK_tr f1 (hrc18 m1 hf))
theorem FC_X7_shadiest_40_37_6 {n : Nat} {x : Nat} {rc18 : Nat → Nat → Int32 → Int32 → Int32 → jH → Option (Int32 × jH)} (hrc18 : ∀ {z2 : Int32} {z3 : Int32} {z4 : Int32} {h : jH} {q : Int32 × jH}, clsS (oc h) x → rc18 (x + 37) (x + 6) z2 z3 z4 h = some q → frK x h q.2) {k : Nat} : ∀ {x2 : Int32} {x3 : Int32} {x4 : Int32} {x5 : Int32} {h : jH} {q : Int32 × jH}, clsS (oc h) x → F_X7_shadiest_40 n rc18 k (x + 37) (x + 6) x2 x3 x4 x5 h = some q → frK x h q.2 := by
  induction k with
  | zero =>
    intro x2 x3 x4 x5 h q M hf
    cases hf
  | succ k ih =>
    intro x2 x3 x4 x5 h q M hf
    replace hf : F_X7_shadiest_40_b n rc18 (F_X7_shadiest_40 n rc18 k) (x + 37) (x + 6) x2 x3 x4 x5 h = some q := hf
    unfold F_X7_shadiest_40_b at hf
    replace hf := jite hf
    rcases hf with ⟨-, hf⟩ | ⟨-, hf⟩
    · exact (hrc18 M hf)
    · obtain ⟨p48, e1, hf⟩ := jbind hf
      have r1 := oc_gR e1
      rw [M.2.2.2.2.2.2.2.2.1.2.2.1] at r1
      cases r1
      replace hf := jite hf
      rcases hf with ⟨-, hf⟩ | ⟨-, hf⟩
      · exact (FC_X7_shadiest_68_37_6_21 hrc18 ih M hf)
      · exact (FC_X7_shadiest_68_37_6_21 hrc18 ih M hf)
theorem FC_X7_shadiest_18_37_6 {n : Nat} {x : Nat} {k : Nat} : ∀ {x2 : Int32} {x3 : Int32} {x4 : Int32} {h : jH} {q : Int32 × jH}, clsS (oc h) x → F_X7_shadiest_18 n k (x + 37) (x + 6) x2 x3 x4 h = some q → frK x h q.2 := by
  induction k with
  | zero =>
    intro x2 x3 x4 h q M hf
    cases hf
  | succ k ih =>
    intro x2 x3 x4 h q M hf
    replace hf : F_X7_shadiest_18_b n (F_X7_shadiest_18 n k) (x + 37) (x + 6) x2 x3 x4 h = some q := hf
    unfold F_X7_shadiest_18_b at hf
    obtain ⟨v22, e1, hf⟩ := jbind hf
    replace hf := jite hf
    rcases hf with ⟨-, hf⟩ | ⟨-, hf⟩
    · cases hf
      exact frK_rfl
    · obtain ⟨p30, e2, hf⟩ := jbind hf
      have r2 := oc_gR e2
      rw [M.2.2.2.2.2.2.2.2.1.2.2.1] at r2
      cases r2
      obtain ⟨h34, e3, hf⟩ := jbind hf
      replace e3 := (jcv_o e3).2
      have f3 : frK x h h34 := (FC_X8_hangAs_21_6 M e3)
      have m3 := clsS_fr M f3
      exact (frK_tr f3 (FC_X7_shadiest_40_37_6 ih m3 hf))
theorem FC_X7_shadiest_37_6 {n : Nat} {x : Nat}  {h : jH} {q : Int32 × jH} (M : clsS (oc h) x) (hf : F_X7_shadiest n (x + 37) (x + 6) h = some q) : frK x h q.2 := by
  unfold F_X7_shadiest at hf
  obtain ⟨p1, e1, hf⟩ := jbind hf
  have r1 := oc_gR e1
  rw [M.2.2.2.2.2.2.2.2.1.2.2.1] at r1
  cases r1
  obtain ⟨h5, e2, hf⟩ := jbind hf
  replace e2 := (jcv_o e2).2
  have f2 : frK x h h5 := (FC_X8_copyFrom_21_6 M e2)
  have m2 := clsS_fr M f2
  obtain ⟨v9, e3, hf⟩ := jbind hf
  replace e3 := (jcv_o e3).2
  exact (frK_tr f2 (FC_X7_shadiest_18_37_6 m2 hf))
theorem FC_X11_best_0 {n : Nat} {x : Nat}  {h : jH} {q : Int32 × jH} (M : clsS (oc h) x) (hf : F_X11_best n x h = some q) : frK x h q.2 := by
  unfold F_X11_best at hf
  obtain ⟨p1, e1, hf⟩ := jbind hf
  have r1 := oc_gR e1
  rw [M.2.2.2.2.2.1.2.2.2.2.2] at r1
  cases r1
  obtain ⟨p5, e2, hf⟩ := jbind hf
  have r2 := oc_gR e2
  rw [M.2.1] at r2
  cases r2
  obtain ⟨q8, e3, hf⟩ := jbind hf
  replace e3 := (jcv_o e3).2
  have f3 : frK x h q8.2 := (FC_X7_shadiest_37_6 M e3)
  have m3 := clsS_fr M f3
  cases hf
  exact f3
theorem FC_X7_stepsToShade_37_37_21 {n : Nat} {x : Nat} {rc11 : Nat → Int32 → Int32 → Int32 → jH → Option (Int32 × jH)} (hrc11 : ∀ {z1 : Int32} {z2 : Int32} {z3 : Int32} {h : jH} {q : Int32 × jH}, clsS (oc h) x → rc11 (x + 37) z1 z2 z3 h = some q → frK x h q.2) {x2 : Int32} {x3 : Int32} {x4 : Int32} {s1 : Int32} {s2 : Int32} {h : jH} {q : Int32 × jH} (M : clsS (oc h) x) (hf : F_X7_stepsToShade_37 n rc11 (x + 37) x2 x3 x4 (x + 21) s1 s2 h = some q) : frK x h q.2 := by
  unfold F_X7_stepsToShade_37 at hf
  obtain ⟨q38, e1, hf⟩ := jbind hf
  replace e1 := (jcv_o e1).2
  have f1 : frK x h q38.2 := (FC_X8_move_21 M e1)
  have m1 := clsS_fr M f1
  replace hf := jite hf
  rcases hf with ⟨-, hf⟩ | ⟨-, hf⟩
  · obtain ⟨p46, e2, hf⟩ := jbind hf
    have r2 := oc_gR e2
    rw [m1.2.2.2.2.2.2.2.2.1.2.2.1] at r2
    cases r2
    obtain ⟨v49, e3, hf⟩ := jbind hf
    replace e3 := (jcv_o e3).2
    replace hf := jite hf
    rcases hf with ⟨-, hf⟩ | ⟨-, hf⟩
    · cases hf
      exact f1
    · exact (frK_tr f1 (hrc11 m1 hf))
  · cases hf
    exact f1
theorem FC_X7_stepsToShade_11_37 {n : Nat} {x : Nat} {k : Nat} : ∀ {x2 : Int32} {x3 : Int32} {x4 : Int32} {h : jH} {q : Int32 × jH}, clsS (oc h) x → F_X7_stepsToShade_11 n k (x + 37) x2 x3 x4 h = some q → frK x h q.2 := by
  induction k with
  | zero =>
    intro x2 x3 x4 h q M hf
    cases hf
  | succ k ih =>
    intro x2 x3 x4 h q M hf
    replace hf : F_X7_stepsToShade_11_b n (F_X7_stepsToShade_11 n k) (x + 37) x2 x3 x4 h = some q := hf
    unfold F_X7_stepsToShade_11_b at hf
    replace hf := jite hf
    rcases hf with ⟨-, hf⟩ | ⟨-, hf⟩
    · cases hf
      exact frK_rfl
    · obtain ⟨p19, e1, hf⟩ := jbind hf
      have r1 := oc_gR e1
      rw [M.2.2.2.2.2.2.2.2.1.2.2.1] at r1
      cases r1
      replace hf := jite hf
      rcases hf with ⟨-, hf⟩ | ⟨-, hf⟩
      · exact (FC_X7_stepsToShade_37_37_21 ih M hf)
      · exact (FC_X7_stepsToShade_37_37_21 ih M hf)
theorem FC_X7_stepsToShade_37_6 {n : Nat} {x : Nat} {x2 : Int32} {x3 : Int32} {h : jH} {q : Int32 × jH} (M : clsS (oc h) x) (hf : F_X7_stepsToShade n (x + 37) (x + 6) x2 x3 h = some q) : frK x h q.2 := by
  unfold F_X7_stepsToShade at hf
  obtain ⟨p1, e1, hf⟩ := jbind hf
  have r1 := oc_gR e1
  rw [M.2.2.2.2.2.2.2.2.1.2.2.1] at r1
  cases r1
  obtain ⟨h5, e2, hf⟩ := jbind hf
  replace e2 := (jcv_o e2).2
  have f2 : frK x h h5 := (FC_X8_hangAs_21_6 M e2)
  have m2 := clsS_fr M f2
  exact (frK_tr f2 (FC_X7_stepsToShade_11_37 m2 hf))
theorem FC_X7_seekShade_42_37_6 {n : Nat} {x : Nat} {k : Nat} : ∀ {x2 : Int32} {x3 : Int32} {h : jH} {q : jH}, clsS (oc h) x → F_X7_seekShade_42 n k (x + 37) (x + 6) x2 x3 h = some q → frK x h q := by
  induction k with
  | zero =>
    intro x2 x3 h q M hf
    cases hf
  | succ k ih =>
    intro x2 x3 h q M hf
    replace hf : F_X7_seekShade_42_b n (F_X7_seekShade_42 n k) (x + 37) (x + 6) x2 x3 h = some q := hf
    unfold F_X7_seekShade_42_b at hf
    obtain ⟨v45, e1, hf⟩ := jbind hf
    replace hf := jite hf
    rcases hf with ⟨-, hf⟩ | ⟨-, hf⟩
    · cases hf
      exact frK_rfl
    · obtain ⟨q56, e2, hf⟩ := jbind hf
      replace e2 := (jcv_o e2).2
      have f2 : frK x h q56.2 := (FC_X7_stepsToShade_37_6 M e2)
      have m2 := clsS_fr M f2
      replace hf := jite hf
      rcases hf with ⟨-, hf⟩ | ⟨-, hf⟩
      · exact (frK_tr f2 (ih m2 hf))
      · obtain ⟨v68, e3, hf⟩ := jbind hf
        replace hf := jite hf
        rcases hf with ⟨-, hf⟩ | ⟨-, hf⟩
        · obtain ⟨h87, e4, hf⟩ := jbind hf
          have f4 : frK x q56.2 h87 := ⟨by rw [(oc_pf e4).1]; exact frK_w (by unfold qcc; omega), (oc_pf e4).2⟩
          have m4 := clsS_fr m2 f4
          obtain ⟨h92, e5, hf⟩ := jbind hf
          have f5 : frK x h87 h92 := ⟨by rw [(oc_pf e5).1]; exact frK_w (by unfold qcc; omega), (oc_pf e5).2⟩
          have m5 := clsS_fr m4 f5
          exact (frK_tr (frK_tr (frK_tr f2 f4) f5) (ih m5 hf))
        · obtain ⟨v78, e6, hf⟩ := jbind hf
          replace hf := jite hf
          rcases hf with ⟨-, hf⟩ | ⟨-, hf⟩
          · exact (frK_tr f2 (ih m2 hf))
          · obtain ⟨h87, e7, hf⟩ := jbind hf
            have f7 : frK x q56.2 h87 := ⟨by rw [(oc_pf e7).1]; exact frK_w (by unfold qcc; omega), (oc_pf e7).2⟩
            have m7 := clsS_fr m2 f7
            obtain ⟨h92, e8, hf⟩ := jbind hf
            have f8 : frK x h87 h92 := ⟨by rw [(oc_pf e8).1]; exact frK_w (by unfold qcc; omega), (oc_pf e8).2⟩
            have m8 := clsS_fr m7 f8
            exact (frK_tr (frK_tr (frK_tr f2 f7) f8) (ih m8 hf))
theorem FC_X7_seekShade_21_37_6_37 {n : Nat} {x : Nat} {x2 : Int32} {s1 : Int32} {h : jH} {q : jH} (M : clsS (oc h) x) (hf : F_X7_seekShade_21 n (x + 37) (x + 6) x2 (x + 37) s1 h = some q) : frK x h q := by
  unfold F_X7_seekShade_21 at hf
  obtain ⟨h21, e1, hf⟩ := jbind hf
  have f1 : frK x h h21 := ⟨by rw [(oc_pf e1).1]; exact frK_w (by unfold qcc; omega), (oc_pf e1).2⟩
  have m1 := clsS_fr M f1
  obtain ⟨v25, e2, hf⟩ := jbind hf
  replace hf := jite hf
  rcases hf with ⟨-, hf⟩ | ⟨-, hf⟩
  · cases hf
    exact f1
  · obtain ⟨p33, e3, hf⟩ := jbind hf
    have r3 := oc_gR e3
    rw [m1.2.2.2.2.2.2.2.2.1.2.2.1] at r3
    cases r3
    obtain ⟨h37, e4, hf⟩ := jbind hf
    replace e4 := (jcv_o e4).2
    have f4 : frK x h21 h37 := (FC_X8_copyFrom_21_6 m1 e4)
    have m4 := clsS_fr m1 f4
    exact (frK_tr (frK_tr f1 f4) (FC_X7_seekShade_42_37_6 m4 hf))
theorem FC_X7_seekShade_37_6 {n : Nat} {x : Nat} {x2 : Int32} {h : jH} {q : jH} (M : clsS (oc h) x) (hf : F_X7_seekShade n (x + 37) (x + 6) x2 h = some q) : frK x h q := by
  unfold F_X7_seekShade at hf
  obtain ⟨h2, e1, hf⟩ := jbind hf
  have f1 : frK x h h2 := ⟨by rw [(oc_pf e1).1]; exact frK_w (by unfold qcc; omega), (oc_pf e1).2⟩
  have m1 := clsS_fr M f1
  obtain ⟨v7, e2, hf⟩ := jbind hf
  replace e2 := (jcv_o e2).2
  replace hf := jite hf
  rcases hf with ⟨-, hf⟩ | ⟨-, hf⟩
  · exact (frK_tr f1 (FC_X7_seekShade_21_37_6_37 m1 hf))
  · exact (frK_tr f1 (FC_X7_seekShade_21_37_6_37 m1 hf))
theorem FC_X11_fewest_0 {n : Nat} {x : Nat} {x1 : Int32} {h : jH} {q : Int32 × jH} (M : clsS (oc h) x) (hf : F_X11_fewest n x x1 h = some q) : frK x h q.2 := by
  unfold F_X11_fewest at hf
  obtain ⟨p1, e1, hf⟩ := jbind hf
  have r1 := oc_gR e1
  rw [M.2.2.2.2.2.1.2.2.2.2.2] at r1
  cases r1
  obtain ⟨p5, e2, hf⟩ := jbind hf
  have r2 := oc_gR e2
  rw [M.2.1] at r2
  cases r2
  obtain ⟨h9, e3, hf⟩ := jbind hf
  replace e3 := (jcv_o e3).2
  have f3 : frK x h h9 := (FC_X7_seekShade_37_6 M e3)
  have m3 := clsS_fr M f3
  obtain ⟨p13, e4, hf⟩ := jbind hf
  have r4 := oc_gR e4
  rw [m3.2.2.2.2.2.1.2.2.2.2.2] at r4
  cases r4
  obtain ⟨v16, e5, hf⟩ := jbind hf
  cases hf
  exact f3
theorem FC_X11_first_0 {n : Nat} {x : Nat} {x1 : Int32} {h : jH} {q : Int32 × jH} (M : clsS (oc h) x) (hf : F_X11_first n x x1 h = some q) : frK x h q.2 := by
  unfold F_X11_first at hf
  obtain ⟨p1, e1, hf⟩ := jbind hf
  have r1 := oc_gR e1
  rw [M.2.2.2.2.2.1.2.2.2.2.2] at r1
  cases r1
  obtain ⟨p5, e2, hf⟩ := jbind hf
  have r2 := oc_gR e2
  rw [M.2.1] at r2
  cases r2
  obtain ⟨h9, e3, hf⟩ := jbind hf
  replace e3 := (jcv_o e3).2
  have f3 : frK x h h9 := (FC_X7_seekShade_37_6 M e3)
  have m3 := clsS_fr M f3
  obtain ⟨p13, e4, hf⟩ := jbind hf
  have r4 := oc_gR e4
  rw [m3.2.2.2.2.2.1.2.2.2.2.2] at r4
  cases r4
  obtain ⟨v16, e5, hf⟩ := jbind hf
  cases hf
  exact f3
theorem FC_X1_firstPale_10_36 {n : Nat} {x : Nat} {k : Nat} : ∀ {x2 : Int32} {h : jH} {q : Int32 × jH}, clsS (oc h) x → F_X1_firstPale_10 n k (x + 36) x2 h = some q → frK x h q.2 := by
  induction k with
  | zero =>
    intro x2 h q M hf
    cases hf
  | succ k ih =>
    intro x2 h q M hf
    replace hf : F_X1_firstPale_10_b n (F_X1_firstPale_10 n k) (x + 36) x2 h = some q := hf
    unfold F_X1_firstPale_10_b at hf
    replace hf := jite hf
    rcases hf with ⟨-, hf⟩ | ⟨-, hf⟩
    · cases hf
      exact frK_rfl
    · obtain ⟨p17, e1, hf⟩ := jbind hf
      have r1 := oc_gR e1
      rw [M.2.2.2.2.2.2.2.2.1.1] at r1
      cases r1
      obtain ⟨v20, e2, hf⟩ := jbind hf
      replace hf := jite hf
      rcases hf with ⟨-, hf⟩ | ⟨-, hf⟩
      · obtain ⟨p30, e3, hf⟩ := jbind hf
        have r3 := oc_gR e3
        rw [M.2.2.2.2.2.2.2.2.1.1] at r3
        cases r3
        obtain ⟨h33, e4, hf⟩ := jbind hf
        replace e4 := (jcv_o e4).2
        have f4 : frK x h h33 := (FC_X1_fadeAll_36_21 M e4)
        have m4 := clsS_fr M f4
        obtain ⟨p37, e5, hf⟩ := jbind hf
        have r5 := oc_gR e5
        rw [m4.2.2.2.2.2.2.2.2.1.1] at r5
        cases r5
        obtain ⟨h40, e6, hf⟩ := jbind hf
        have f6 : frK x h33 h40 := (FC_X1_turn_21 m4 e6)
        have m6 := clsS_fr m4 f6
        exact (frK_tr (frK_tr f4 f6) (ih m6 hf))
      · cases hf
        exact frK_rfl
theorem FC_X1_firstPale_36_6 {n : Nat} {x : Nat}  {h : jH} {q : Int32 × jH} (M : clsS (oc h) x) (hf : F_X1_firstPale n (x + 36) (x + 6) h = some q) : frK x h q.2 := by
  unfold F_X1_firstPale at hf
  obtain ⟨p1, e1, hf⟩ := jbind hf
  have r1 := oc_gR e1
  rw [M.2.2.2.2.2.2.2.2.1.1] at r1
  cases r1
  obtain ⟨h5, e2, hf⟩ := jbind hf
  replace e2 := (jcv_o e2).2
  have f2 : frK x h h5 := (FC_X8_copyFrom_21_6 M e2)
  have m2 := clsS_fr M f2
  exact (frK_tr f2 (FC_X1_firstPale_10_36 m2 hf))
theorem FC_X11_pale_0 {n : Nat} {x : Nat}  {h : jH} {q : Int32 × jH} (M : clsS (oc h) x) (hf : F_X11_pale n x h = some q) : frK x h q.2 := by
  unfold F_X11_pale at hf
  obtain ⟨p1, e1, hf⟩ := jbind hf
  have r1 := oc_gR e1
  rw [M.2.2.1] at r1
  cases r1
  obtain ⟨p5, e2, hf⟩ := jbind hf
  have r2 := oc_gR e2
  rw [M.2.1] at r2
  cases r2
  obtain ⟨q8, e3, hf⟩ := jbind hf
  replace e3 := (jcv_o e3).2
  have f3 : frK x h q8.2 := (FC_X1_firstPale_36_6 M e3)
  have m3 := clsS_fr M f3
  cases hf
  exact f3
theorem FC_X7_isFitting_43_37_6_37_6 {n : Nat} {x : Nat} {rc2 : Nat → Nat → Int32 → Int32 → jH → Option (Int32 × jH)} (hrc2 : ∀ {z2 : Int32} {z3 : Int32} {h : jH} {q : Int32 × jH}, clsS (oc h) x → rc2 (x + 37) (x + 6) z2 z3 h = some q → frK x h q.2) {x2 : Int32} {x3 : Int32} {s2 : Int32} {s3 : Int32} {s4 : Int32} {h : jH} {q : Int32 × jH} (M : clsS (oc h) x) (hf : F_X7_isFitting_43 n rc2 (x + 37) (x + 6) x2 x3 (x + 37) (x + 6) s2 s3 s4 h = some q) : frK x h q.2 := by
  unfold F_X7_isFitting_43 at hf
  obtain ⟨p44, e1, hf⟩ := jbind hf
  have r1 := oc_gR e1
  rw [M.2.2.2.2.2.2.2.2.1.2.1] at r1
  cases r1
  obtain ⟨v50, e2, hf⟩ := jbind hf
  replace e2 := (jcv_o e2).2
  obtain ⟨q53, e3, hf⟩ := jbind hf
  replace e3 := (jcv_o e3).2
  have f3 : frK x h q53.2 := (FC_X7_farWith_37_6 M e3)
  have m3 := clsS_fr M f3
  obtain ⟨p61, e4, hf⟩ := jbind hf
  have r4 := oc_gR e4
  rw [m3.2.2.2.2.2.2.2.2.1.2.1] at r4
  cases r4
  obtain ⟨v67, e5, hf⟩ := jbind hf
  replace e5 := (jcv_o e5).2
  replace hf := jite hf
  rcases hf with ⟨-, hf⟩ | ⟨-, hf⟩
  · exact (frK_tr f3 (hrc2 m3 hf))
  · cases hf
    exact f3
theorem FC_X7_isFitting_2_37_6 {n : Nat} {x : Nat} {k : Nat} : ∀ {x2 : Int32} {x3 : Int32} {h : jH} {q : Int32 × jH}, clsS (oc h) x → F_X7_isFitting_2 n k (x + 37) (x + 6) x2 x3 h = some q → frK x h q.2 := by
  induction k with
  | zero =>
    intro x2 x3 h q M hf
    cases hf
  | succ k ih =>
    intro x2 x3 h q M hf
    replace hf : F_X7_isFitting_2_b n (F_X7_isFitting_2 n k) (x + 37) (x + 6) x2 x3 h = some q := hf
    unfold F_X7_isFitting_2_b at hf
    obtain ⟨p4, e1, hf⟩ := jbind hf
    have r1 := oc_gR e1
    rw [M.2.2.2.2.2.2.2.2.1.2.1] at r1
    cases r1
    obtain ⟨v7, e2, hf⟩ := jbind hf
    replace hf := jite hf
    rcases hf with ⟨-, hf⟩ | ⟨-, hf⟩
    · cases hf
      exact frK_rfl
    · obtain ⟨p17, e3, hf⟩ := jbind hf
      have r3 := oc_gR e3
      rw [M.2.2.2.2.2.2.2.2.1.2.1] at r3
      cases r3
      obtain ⟨v21, e4, hf⟩ := jbind hf
      replace e4 := (jcv_o e4).2
      obtain ⟨p25, e5, hf⟩ := jbind hf
      have r5 := oc_gR e5
      rw [M.2.2.2.2.2.2.2.2.1.2.1] at r5
      cases r5
      obtain ⟨v31, e6, hf⟩ := jbind hf
      replace e6 := (jcv_o e6).2
      replace hf := jite hf
      rcases hf with ⟨-, hf⟩ | ⟨-, hf⟩
      · exact (FC_X7_isFitting_43_37_6_37_6 ih M hf)
      · exact (FC_X7_isFitting_43_37_6_37_6 ih M hf)
theorem FC_X7_isFitting_37_6 {n : Nat} {x : Nat} {x2 : Int32} {h : jH} {q : Int32 × jH} (M : clsS (oc h) x) (hf : F_X7_isFitting n (x + 37) (x + 6) x2 h = some q) : frK x h q.2 := by
  unfold F_X7_isFitting at hf
  exact (FC_X7_isFitting_2_37_6 M hf)
theorem FC_X7_seekSnags_35_37_6 {n : Nat} {x : Nat} {k : Nat} : ∀ {x2 : Int32} {x3 : Int32} {h : jH} {q : jH}, clsS (oc h) x → F_X7_seekSnags_35 n k (x + 37) (x + 6) x2 x3 h = some q → frK x h q := by
  induction k with
  | zero =>
    intro x2 x3 h q M hf
    cases hf
  | succ k ih =>
    intro x2 x3 h q M hf
    replace hf : F_X7_seekSnags_35_b n (F_X7_seekSnags_35 n k) (x + 37) (x + 6) x2 x3 h = some q := hf
    unfold F_X7_seekSnags_35_b at hf
    replace hf := jite hf
    rcases hf with ⟨-, hf⟩ | ⟨-, hf⟩
    · cases hf
      exact frK_rfl
    · obtain ⟨v41, e1, hf⟩ := jbind hf
      replace hf := jite hf
      rcases hf with ⟨-, hf⟩ | ⟨-, hf⟩
      · cases hf
        exact frK_rfl
      · obtain ⟨q53, e2, hf⟩ := jbind hf
        replace e2 := (jcv_o e2).2
        have f2 : frK x h q53.2 := (FC_X7_isFitting_37_6 M e2)
        have m2 := clsS_fr M f2
        replace hf := jite hf
        rcases hf with ⟨-, hf⟩ | ⟨-, hf⟩
        · exact (frK_tr f2 (ih m2 hf))
        · obtain ⟨p60, e3, hf⟩ := jbind hf
          have r3 := oc_gR e3
          rw [m2.2.2.2.2.2.2.2.2.1.2.2.2.1] at r3
          cases r3
          obtain ⟨v64, e4, hf⟩ := jbind hf
          obtain ⟨h68, e5, hf⟩ := jbind hf
          have f5 : frK x q53.2 h68 := ⟨by rw [(oc_as e5).1]; exact frK_w (by unfold qcc; omega), (oc_as e5).2.1⟩
          have m5 := clsS_fr m2 f5
          obtain ⟨v71, e6, hf⟩ := jbind hf
          obtain ⟨h76, e7, hf⟩ := jbind hf
          have f7 : frK x h68 h76 := ⟨by rw [(oc_pf e7).1]; exact frK_w (by unfold qcc; omega), (oc_pf e7).2⟩
          have m7 := clsS_fr m5 f7
          exact (frK_tr (frK_tr (frK_tr f2 f5) f7) (ih m7 hf))
theorem FC_X7_seekSnags_37_6 {n : Nat} {x : Nat}  {h : jH} {q : jH} (M : clsS (oc h) x) (hf : F_X7_seekSnags n (x + 37) (x + 6) h = some q) : frK x h q := by
  unfold F_X7_seekSnags at hf
  obtain ⟨p1, e1, hf⟩ := jbind hf
  have r1 := oc_gR e1
  rw [M.2.2.2.2.2.2.2.2.1.2.2.1] at r1
  cases r1
  obtain ⟨h5, e2, hf⟩ := jbind hf
  replace e2 := (jcv_o e2).2
  have f2 : frK x h h5 := (FC_X8_copyFrom_21_6 M e2)
  have m2 := clsS_fr M f2
  obtain ⟨h10, e3, hf⟩ := jbind hf
  have f3 : frK x h5 h10 := ⟨by rw [(oc_pf e3).1]; exact frK_w (by unfold qcc; omega), (oc_pf e3).2⟩
  have m3 := clsS_fr m2 f3
  obtain ⟨v14, e4, hf⟩ := jbind hf
  replace hf := jite hf
  rcases hf with ⟨-, hf⟩ | ⟨-, hf⟩
  · exact (frK_tr (frK_tr f2 f3) (FC_X7_seekSnags_35_37_6 m3 hf))
  · obtain ⟨v26, e5, hf⟩ := jbind hf
    exact (frK_tr (frK_tr f2 f3) (FC_X7_seekSnags_35_37_6 m3 hf))
theorem FC_X7_greatestPart_62_37_6_37_6 {n : Nat} {x : Nat} {rc29 : Nat → Nat → Int32 → Int32 → Int32 → jH → Option (Int32 × jH)} (hrc29 : ∀ {z2 : Int32} {z3 : Int32} {z4 : Int32} {h : jH} {q : Int32 × jH}, clsS (oc h) x → rc29 (x + 37) (x + 6) z2 z3 z4 h = some q → frK x h q.2) {x2 : Int32} {x3 : Int32} {x4 : Int32} {s2 : Int32} {s3 : Int32} {s4 : Int32} {h : jH} {q : Int32 × jH} (M : clsS (oc h) x) (hf : F_X7_greatestPart_62 n rc29 (x + 37) (x + 6) x2 x3 x4 (x + 37) (x + 6) s2 s3 s4 h = some q) : frK x h q.2 := by
  unfold F_X7_greatestPart_62 at hf
  obtain ⟨q64, e1, hf⟩ := jbind hf
  replace e1 := (jcv_o e1).2
  have f1 : frK x h q64.2 := (FC_X7_farWith_37_6 M e1)
  have m1 := clsS_fr M f1
  obtain ⟨p70, e2, hf⟩ := jbind hf
  have r2 := oc_gR e2
  rw [m1.2.2.2.2.2.2.2.2.1.2.2.2.2] at r2
  cases r2
  obtain ⟨v76, e3, hf⟩ := jbind hf
  obtain ⟨h79, e4, hf⟩ := jbind hf
  have f4 : frK x q64.2 h79 := ⟨by rw [(oc_as e4).1]; exact frK_w (by unfold qcc; omega), (oc_as e4).2.1⟩
  have m4 := clsS_fr m1 f4
  obtain ⟨p82, e5, hf⟩ := jbind hf
  have r5 := oc_gR e5
  rw [m4.2.2.2.2.2.2.2.2.1.2.2.2.2] at r5
  cases r5
  obtain ⟨v87, e6, hf⟩ := jbind hf
  exact (frK_tr (frK_tr f1 f4) (hrc29 m4 hf))
theorem FC_X7_greatestPart_29_37_6 {n : Nat} {x : Nat} {k : Nat} : ∀ {x2 : Int32} {x3 : Int32} {x4 : Int32} {h : jH} {q : Int32 × jH}, clsS (oc h) x → F_X7_greatestPart_29 n k (x + 37) (x + 6) x2 x3 x4 h = some q → frK x h q.2 := by
  induction k with
  | zero =>
    intro x2 x3 x4 h q M hf
    cases hf
  | succ k ih =>
    intro x2 x3 x4 h q M hf
    replace hf : F_X7_greatestPart_29_b n (F_X7_greatestPart_29 n k) (x + 37) (x + 6) x2 x3 x4 h = some q := hf
    unfold F_X7_greatestPart_29_b at hf
    obtain ⟨v32, e1, hf⟩ := jbind hf
    replace hf := jite hf
    rcases hf with ⟨-, hf⟩ | ⟨-, hf⟩
    · cases hf
      exact frK_rfl
    · obtain ⟨p41, e2, hf⟩ := jbind hf
      have r2 := oc_gR e2
      rw [M.2.2.2.2.2.2.2.2.1.2.2.2.1] at r2
      cases r2
      obtain ⟨v46, e3, hf⟩ := jbind hf
      replace hf := jite hf
      rcases hf with ⟨-, hf⟩ | ⟨-, hf⟩
      · exact (FC_X7_greatestPart_62_37_6_37_6 ih M hf)
      · exact (FC_X7_greatestPart_62_37_6_37_6 ih M hf)
theorem FC_X7_greatestPart_2_37_6 {n : Nat} {x : Nat} {k : Nat} : ∀ {x2 : Int32} {x3 : Int32} {h : jH} {q : Int32 × jH}, clsS (oc h) x → F_X7_greatestPart_2 n k (x + 37) (x + 6) x2 x3 h = some q → frK x h q.2 := by
  induction k with
  | zero =>
    intro x2 x3 h q M hf
    cases hf
  | succ k ih =>
    intro x2 x3 h q M hf
    replace hf : F_X7_greatestPart_2_b n (F_X7_greatestPart_2 n k) (x + 37) (x + 6) x2 x3 h = some q := hf
    unfold F_X7_greatestPart_2_b at hf
    obtain ⟨p4, e1, hf⟩ := jbind hf
    have r1 := oc_gR e1
    rw [M.2.2.2.2.2.2.2.2.1.2.2.2.2] at r1
    cases r1
    obtain ⟨v7, e2, hf⟩ := jbind hf
    replace hf := jite hf
    rcases hf with ⟨-, hf⟩ | ⟨-, hf⟩
    · exact (FC_X7_greatestPart_29_37_6 M hf)
    · obtain ⟨p12, e3, hf⟩ := jbind hf
      have r3 := oc_gR e3
      rw [M.2.2.2.2.2.2.2.2.1.2.2.2.2] at r3
      cases r3
      obtain ⟨h17, e4, hf⟩ := jbind hf
      have f4 : frK x h h17 := ⟨by rw [(oc_as e4).1]; exact frK_w (by unfold qcc; omega), (oc_as e4).2.1⟩
      have m4 := clsS_fr M f4
      exact (frK_tr f4 (ih m4 hf))
theorem FC_X7_greatestPart_37_6 {n : Nat} {x : Nat} {x2 : Int32} {h : jH} {q : Int32 × jH} (M : clsS (oc h) x) (hf : F_X7_greatestPart n (x + 37) (x + 6) x2 h = some q) : frK x h q.2 := by
  unfold F_X7_greatestPart at hf
  exact (FC_X7_greatestPart_2_37_6 M hf)
theorem FC_X7_partingPull_19_37_6 {n : Nat} {x : Nat} {k : Nat} : ∀ {x2 : Int32} {x3 : Int32} {x4 : Int32} {h : jH} {q : Int32 × jH}, clsS (oc h) x → F_X7_partingPull_19 n k (x + 37) (x + 6) x2 x3 x4 h = some q → frK x h q.2 := by
  induction k with
  | zero =>
    intro x2 x3 x4 h q M hf
    cases hf
  | succ k ih =>
    intro x2 x3 x4 h q M hf
    replace hf : F_X7_partingPull_19_b n (F_X7_partingPull_19 n k) (x + 37) (x + 6) x2 x3 x4 h = some q := hf
    unfold F_X7_partingPull_19_b at hf
    obtain ⟨v23, e1, hf⟩ := jbind hf
    replace hf := jite hf
    rcases hf with ⟨-, hf⟩ | ⟨-, hf⟩
    · cases hf
      exact frK_rfl
    · obtain ⟨q34, e2, hf⟩ := jbind hf
      replace e2 := (jcv_o e2).2
      have f2 : frK x h q34.2 := (FC_X7_greatestPart_37_6 M e2)
      have m2 := clsS_fr M f2
      replace hf := jite hf
      rcases hf with ⟨-, hf⟩ | ⟨-, hf⟩
      · exact (frK_tr f2 (ih m2 hf))
      · exact (frK_tr f2 (ih m2 hf))
theorem FC_X7_partingPull_37_6 {n : Nat} {x : Nat}  {h : jH} {q : Int32 × jH} (M : clsS (oc h) x) (hf : F_X7_partingPull n (x + 37) (x + 6) h = some q) : frK x h q.2 := by
  unfold F_X7_partingPull at hf
  obtain ⟨v1, e1, hf⟩ := jbind hf
  replace hf := jite hf
  rcases hf with ⟨-, hf⟩ | ⟨-, hf⟩
  · exact (FC_X7_partingPull_19_37_6 M hf)
  · cases hf
    exact frK_rfl
theorem FZ_X12_throwsIf {n : Nat} {a0 : Nat} {x1 : Int32} {x2 : Int32} {h : jH} {q : Int32 × jH} (hf : F_X12_throwsIf n a0 x1 x2 h = some q) : q.2.1 = h.1 := by
  unfold F_X12_throwsIf at hf
  replace hf := jite hf
  rcases hf with ⟨-, hf⟩ | ⟨-, hf⟩
  · replace hf := jite hf
    rcases hf with ⟨-, hf⟩ | ⟨-, hf⟩
    · cases hf
      exact rfl
    · cases hf
  · obtain ⟨h6, e1, hf⟩ := jbind hf
    have f1 : h6.1 = h.1 := (oc_pf e1).2
    replace hf := jite hf
    rcases hf with ⟨-, hf⟩ | ⟨-, hf⟩
    · cases hf
      exact f1
    · cases hf
theorem FZ_X12_holdsLine_222 {n : Nat} {rc22 : Nat → Int32 → Int32 → Int32 → Int32 → jH → Option (Int32 × jH)} (hrc22 : ∀ {z0 : Nat} {z1 : Int32} {z2 : Int32} {z3 : Int32} {z4 : Int32} {h : jH} {q : Int32 × jH}, rc22 z0 z1 z2 z3 z4 h = some q → q.2.1 = h.1) {a0 : Nat} {x2 : Int32} {x3 : Int32} {x4 : Int32} {x5 : Int32} {x6 : Int32} {x7 : Int32} {x8 : Int32} {s0 : Int32} {h : jH} {q : Int32 × jH} (hf : F_X12_holdsLine_222 n rc22 a0 x2 x3 x4 x5 x6 x7 x8 s0 h = some q) : q.2.1 = h.1 := by
  unfold F_X12_holdsLine_222 at hf
  obtain ⟨p225, e1, hf⟩ := jbind hf
  replace hf := jite hf
  rcases hf with ⟨-, hf⟩ | ⟨-, hf⟩
  · obtain ⟨h256, e2, hf⟩ := jbind hf
    have f2 : h256.1 = h.1 := (oc_as e2).2.1
    exact ((hrc22  hf).trans f2)
  · replace hf := jite hf
    rcases hf with ⟨-, hf⟩ | ⟨-, hf⟩
    · obtain ⟨h256, e3, hf⟩ := jbind hf
      have f3 : h256.1 = h.1 := (oc_as e3).2.1
      exact ((hrc22  hf).trans f3)
    · obtain ⟨h256, e4, hf⟩ := jbind hf
      have f4 : h256.1 = h.1 := (oc_as e4).2.1
      exact ((hrc22  hf).trans f4)
theorem FZ_X12_holdsLine_22 {n : Nat} {k : Nat} : ∀ {a0 : Nat} {x2 : Int32} {x3 : Int32} {x4 : Int32} {x5 : Int32} {h : jH} {q : Int32 × jH}, F_X12_holdsLine_22 n k a0 x2 x3 x4 x5 h = some q → q.2.1 = h.1 := by
  induction k with
  | zero =>
    intro a0 x2 x3 x4 x5 h q hf
    cases hf
  | succ k ih =>
    intro a0 x2 x3 x4 x5 h q hf
    replace hf : F_X12_holdsLine_22_b n (F_X12_holdsLine_22 n k) a0 x2 x3 x4 x5 h = some q := hf
    unfold F_X12_holdsLine_22_b at hf
    obtain ⟨p25, e1, hf⟩ := jbind hf
    obtain ⟨v32, e2, hf⟩ := jbind hf
    replace hf := jite hf
    rcases hf with ⟨-, hf⟩ | ⟨-, hf⟩
    · replace hf := jite hf
      rcases hf with ⟨-, hf⟩ | ⟨-, hf⟩
      · cases hf
        exact rfl
      · obtain ⟨p268, e3, hf⟩ := jbind hf
        obtain ⟨v272, e4, hf⟩ := jbind hf
        replace hf := jite hf
        rcases hf with ⟨-, hf⟩ | ⟨-, hf⟩
        · cases hf
          exact rfl
        · cases hf
          exact rfl
    · obtain ⟨p37, e5, hf⟩ := jbind hf
      obtain ⟨v48, e6, hf⟩ := jbind hf
      replace hf := jite hf
      rcases hf with ⟨-, hf⟩ | ⟨-, hf⟩
      · replace hf := jite hf
        rcases hf with ⟨-, hf⟩ | ⟨-, hf⟩
        · obtain ⟨p100, e7, hf⟩ := jbind hf
          obtain ⟨p108, e8, hf⟩ := jbind hf
          obtain ⟨v114, e9, hf⟩ := jbind hf
          obtain ⟨h116, e10, hf⟩ := jbind hf
          have f10 : h116.1 = h.1 := (oc_as e10).2.1
          exact ((ih  hf).trans f10)
        · obtain ⟨p124, e11, hf⟩ := jbind hf
          obtain ⟨v130, e12, hf⟩ := jbind hf
          obtain ⟨p134, e13, hf⟩ := jbind hf
          obtain ⟨v138, e14, hf⟩ := jbind hf
          replace hf := jite hf
          rcases hf with ⟨-, hf⟩ | ⟨-, hf⟩
          · replace hf := jite hf
            rcases hf with ⟨-, hf⟩ | ⟨-, hf⟩
            · exact (FZ_X12_holdsLine_222 ih hf)
            · exact (FZ_X12_holdsLine_222 ih hf)
          · replace hf := jite hf
            rcases hf with ⟨-, hf⟩ | ⟨-, hf⟩
            · replace hf := jite hf
              rcases hf with ⟨-, hf⟩ | ⟨-, hf⟩
              · exact (FZ_X12_holdsLine_222 ih hf)
              · exact (FZ_X12_holdsLine_222 ih hf)
            · replace hf := jite hf
              rcases hf with ⟨-, hf⟩ | ⟨-, hf⟩
              · replace hf := jite hf
                rcases hf with ⟨-, hf⟩ | ⟨-, hf⟩
                · exact (FZ_X12_holdsLine_222 ih hf)
                · exact (FZ_X12_holdsLine_222 ih hf)
              · replace hf := jite hf
                rcases hf with ⟨-, hf⟩ | ⟨-, hf⟩
                · exact (FZ_X12_holdsLine_222 ih hf)
                · exact (FZ_X12_holdsLine_222 ih hf)
      · obtain ⟨p59, e15, hf⟩ := jbind hf
        obtain ⟨p67, e16, hf⟩ := jbind hf
        obtain ⟨v80, e17, hf⟩ := jbind hf
        obtain ⟨v82, e18, hf⟩ := jbind hf
        replace e18 := (jcv_o e18).2
        obtain ⟨h85, e19, hf⟩ := jbind hf
        have f19 : h85.1 = h.1 := (oc_as e19).2.1
        exact ((ih  hf).trans f19)
theorem FZ_X12_holdsLine {n : Nat} {a0 : Nat} {x1 : Int32} {x2 : Int32} {h : jH} {q : Int32 × jH} (hf : F_X12_holdsLine n a0 x1 x2 h = some q) : q.2.1 = h.1 := by
  unfold F_X12_holdsLine at hf
  obtain ⟨p12, e1, hf⟩ := jbind hf
  obtain ⟨v19, e2, hf⟩ := jbind hf
  exact (FZ_X12_holdsLine_22 hf)
theorem FZ_X12_sumOf_5 {n : Nat} {k : Nat} : ∀ {a0 : Nat} {x1 : Int32} {x2 : Int32} {x3 : Int32} {x4 : Int32} {h : jH} {q : Int32 × jH}, F_X12_sumOf_5 n k a0 x1 x2 x3 x4 h = some q → q.2.1 = h.1 := by
  induction k with
  | zero =>
    intro a0 x1 x2 x3 x4 h q hf
    cases hf
  | succ k ih =>
    intro a0 x1 x2 x3 x4 h q hf
    replace hf : F_X12_sumOf_5_b n (F_X12_sumOf_5 n k) a0 x1 x2 x3 x4 h = some q := hf
    unfold F_X12_sumOf_5_b at hf
    obtain ⟨p8, e1, hf⟩ := jbind hf
    obtain ⟨v14, e2, hf⟩ := jbind hf
    replace hf := jite hf
    rcases hf with ⟨-, hf⟩ | ⟨-, hf⟩
    · cases hf
      exact rfl
    · obtain ⟨p19, e3, hf⟩ := jbind hf
      obtain ⟨v30, e4, hf⟩ := jbind hf
      replace hf := jite hf
      rcases hf with ⟨-, hf⟩ | ⟨-, hf⟩
      · obtain ⟨q39, e5, hf⟩ := jbind hf
        replace e5 := (jcv_o e5).2
        have f5 : q39.2.1 = h.1 := (FZ_X12_holdsLine e5)
        replace hf := jite hf
        rcases hf with ⟨-, hf⟩ | ⟨-, hf⟩
        · exact ((ih  hf).trans f5)
        · obtain ⟨p47, e6, hf⟩ := jbind hf
          obtain ⟨v60, e7, hf⟩ := jbind hf
          exact ((ih  hf).trans f5)
      · exact (ih  hf)
theorem FZ_X12_sumOf {n : Nat} {a0 : Nat} {x1 : Int32} {x2 : Int32} {h : jH} {q : Int32 × jH} (hf : F_X12_sumOf n a0 x1 x2 h = some q) : q.2.1 = h.1 := by
  unfold F_X12_sumOf at hf
  exact (FZ_X12_sumOf_5 hf)
theorem FZ_X12_byLaw {n : Nat} {a0 : Nat} {x1 : Int32} {x2 : Int32} {h : jH} {q : Int32 × jH} (hf : F_X12_byLaw n a0 x1 x2 h = some q) : q.2.1 = h.1 := by
  unfold F_X12_byLaw at hf
  obtain ⟨p1, e1, hf⟩ := jbind hf
  obtain ⟨v5, e2, hf⟩ := jbind hf
  replace hf := jite hf
  rcases hf with ⟨-, hf⟩ | ⟨-, hf⟩
  · obtain ⟨q13, e3, hf⟩ := jbind hf
    replace e3 := (jcv_o e3).2
    have f3 : q13.2.1 = h.1 := (FZ_X12_sumOf e3)
    cases hf
    exact f3
  · replace hf := jite hf
    rcases hf with ⟨-, hf⟩ | ⟨-, hf⟩
    · obtain ⟨p24, e4, hf⟩ := jbind hf
      obtain ⟨v28, e5, hf⟩ := jbind hf
      obtain ⟨v29, e6, hf⟩ := jbind hf
      replace e6 := (jcv_o e6).2
      replace hf := jite hf
      rcases hf with ⟨-, hf⟩ | ⟨-, hf⟩
      · cases hf
        exact rfl
      · cases hf
        exact rfl
    · replace hf := jite hf
      rcases hf with ⟨-, hf⟩ | ⟨-, hf⟩
      · cases hf
        exact rfl
      · cases hf
        exact rfl
theorem FZ_X12_ring_34 {n : Nat} {a0 : Nat} {x1 : Int32} {x2 : Int32} {sa0 : Nat} {s1 : Int32} {h : jH} {q : Int32 × jH} (hf : F_X12_ring_34 n a0 x1 x2 sa0 s1 h = some q) : q.2.1 = h.1 := by
  unfold F_X12_ring_34 at hf
  obtain ⟨q35, e1, hf⟩ := jbind hf
  replace e1 := (jcv_o e1).2
  have f1 : q35.2.1 = h.1 := (FZ_X12_throwsIf e1)
  replace hf := jite hf
  rcases hf with ⟨-, hf⟩ | ⟨-, hf⟩
  · replace hf := jite hf
    rcases hf with ⟨-, hf⟩ | ⟨-, hf⟩
    · obtain ⟨v86, e2, hf⟩ := jbind hf
      replace e2 := (jcv_o e2).2
      replace hf := jite hf
      rcases hf with ⟨-, hf⟩ | ⟨-, hf⟩
      · cases hf
        exact f1
      · obtain ⟨v98, e3, hf⟩ := jbind hf
        replace e3 := (jcv_o e3).2
        cases hf
        exact f1
    · replace hf := jite hf
      rcases hf with ⟨-, hf⟩ | ⟨-, hf⟩
      · obtain ⟨q105, e4, hf⟩ := jbind hf
        replace e4 := (jcv_o e4).2
        have f4 : q105.2.1 = q35.2.1 := (FZ_X12_byLaw e4)
        cases hf
        exact (f4.trans f1)
      · replace hf := jite hf
        rcases hf with ⟨-, hf⟩ | ⟨-, hf⟩
        · obtain ⟨q112, e5, hf⟩ := jbind hf
          replace e5 := (jcv_o e5).2
          have f5 : q112.2.1 = q35.2.1 := (FZ_X12_byLaw e5)
          cases hf
          exact (f5.trans f1)
        · replace hf := jite hf
          rcases hf with ⟨-, hf⟩ | ⟨-, hf⟩
          · obtain ⟨q119, e6, hf⟩ := jbind hf
            replace e6 := (jcv_o e6).2
            have f6 : q119.2.1 = q35.2.1 := (FZ_X12_byLaw e6)
            cases hf
            exact (f6.trans f1)
          · replace hf := jite hf
            rcases hf with ⟨-, hf⟩ | ⟨-, hf⟩
            · obtain ⟨v125, e7, hf⟩ := jbind hf
              replace e7 := (jcv_o e7).2
              cases hf
              exact f1
            · replace hf := jite hf
              rcases hf with ⟨-, hf⟩ | ⟨-, hf⟩
              · obtain ⟨v131, e8, hf⟩ := jbind hf
                replace e8 := (jcv_o e8).2
                cases hf
                exact f1
              · obtain ⟨v138, e9, hf⟩ := jbind hf
                replace e9 := (jcv_o e9).2
                cases hf
                exact f1
  · cases hf
    exact f1
theorem FZ_X12_ring {n : Nat} {a0 : Nat} {x1 : Int32} {x2 : Int32} {h : jH} {q : Int32 × jH} (hf : F_X12_ring n a0 x1 x2 h = some q) : q.2.1 = h.1 := by
  unfold F_X12_ring at hf
  obtain ⟨h2, e1, hf⟩ := jbind hf
  have f1 : h2.1 = h.1 := (oc_pf e1).2
  obtain ⟨v8, e2, hf⟩ := jbind hf
  replace e2 := (jcv_o e2).2
  obtain ⟨q12, e3, hf⟩ := jbind hf
  replace e3 := (jcv_o e3).2
  have f3 : q12.2.1 = h2.1 := (FZ_X12_throwsIf e3)
  replace hf := jite hf
  rcases hf with ⟨-, hf⟩ | ⟨-, hf⟩
  · obtain ⟨v23, e4, hf⟩ := jbind hf
    replace hf := jite hf
    rcases hf with ⟨-, hf⟩ | ⟨-, hf⟩
    · exact ((FZ_X12_ring_34 hf).trans (f3.trans f1))
    · exact ((FZ_X12_ring_34 hf).trans (f3.trans f1))
  · cases hf
    exact (f3.trans f1)
theorem FZ_X12_keepsAll_2 {n : Nat} {k : Nat} : ∀ {a0 : Nat} {x1 : Int32} {h : jH} {q : jH}, F_X12_keepsAll_2 n k a0 x1 h = some q → q.1 = h.1 := by
  induction k with
  | zero =>
    intro a0 x1 h q hf
    cases hf
  | succ k ih =>
    intro a0 x1 h q hf
    replace hf : F_X12_keepsAll_2_b n (F_X12_keepsAll_2 n k) a0 x1 h = some q := hf
    unfold F_X12_keepsAll_2_b at hf
    replace hf := jite hf
    rcases hf with ⟨-, hf⟩ | ⟨-, hf⟩
    · cases hf
      exact rfl
    · obtain ⟨p10, e1, hf⟩ := jbind hf
      obtain ⟨p15, e2, hf⟩ := jbind hf
      obtain ⟨v19, e3, hf⟩ := jbind hf
      obtain ⟨h20, e4, hf⟩ := jbind hf
      have f4 : h20.1 = h.1 := (oc_as e4).2.1
      exact ((ih  hf).trans f4)
theorem FZ_X12_keepsAll {n : Nat} {a0 : Nat} {h : jH} {q : jH} (hf : F_X12_keepsAll n a0 h = some q) : q.1 = h.1 := by
  unfold F_X12_keepsAll at hf
  exact (FZ_X12_keepsAll_2 hf)
theorem FZ_X12_pulls_29 {n : Nat} {a0 : Nat} {x4 : Int32} {h : jH} {q : Int32 × jH} (hf : F_X12_pulls_29 n a0 x4 h = some q) : q.2.1 = h.1 := by
  unfold F_X12_pulls_29 at hf
  obtain ⟨p30, e1, hf⟩ := jbind hf
  obtain ⟨p39, e2, hf⟩ := jbind hf
  obtain ⟨v44, e3, hf⟩ := jbind hf
  obtain ⟨v46, e4, hf⟩ := jbind hf
  obtain ⟨h53, e5, hf⟩ := jbind hf
  have f5 : h53.1 = h.1 := (oc_as e5).2.1
  cases hf
  exact f5
theorem FZ_X12_goesOne_52 {n : Nat} {rc10 : Nat → Int32 → Int32 → Int32 → jH → Option (Int32 × jH)} (hrc10 : ∀ {z0 : Nat} {z1 : Int32} {z2 : Int32} {z3 : Int32} {h : jH} {q : Int32 × jH}, rc10 z0 z1 z2 z3 h = some q → q.2.1 = h.1) {a0 : Nat} {x2 : Int32} {x3 : Int32} {x4 : Int32} {sa0 : Nat} {s1 : Int32} {s2 : Int32} {s3 : Int32} {h : jH} {q : Int32 × jH} (hf : F_X12_goesOne_52 n rc10 a0 x2 x3 x4 sa0 s1 s2 s3 h = some q) : q.2.1 = h.1 := by
  unfold F_X12_goesOne_52 at hf
  obtain ⟨h53, e1, hf⟩ := jbind hf
  have f1 : h53.1 = h.1 := (oc_as e1).2.1
  obtain ⟨v56, e2, hf⟩ := jbind hf
  obtain ⟨v63, e3, hf⟩ := jbind hf
  replace e3 := (jcv_o e3).2
  replace hf := jite hf
  rcases hf with ⟨-, hf⟩ | ⟨-, hf⟩
  · obtain ⟨h75, e4, hf⟩ := jbind hf
    have f4 : h75.1 = h53.1 := (oc_pf e4).2
    exact ((hrc10  hf).trans (f4.trans f1))
  · obtain ⟨h75, e5, hf⟩ := jbind hf
    have f5 : h75.1 = h53.1 := (oc_pf e5).2
    exact ((hrc10  hf).trans (f5.trans f1))
theorem FZ_X12_goesOne_10 {n : Nat} {k : Nat} : ∀ {a0 : Nat} {x2 : Int32} {x3 : Int32} {x4 : Int32} {h : jH} {q : Int32 × jH}, F_X12_goesOne_10 n k a0 x2 x3 x4 h = some q → q.2.1 = h.1 := by
  induction k with
  | zero =>
    intro a0 x2 x3 x4 h q hf
    cases hf
  | succ k ih =>
    intro a0 x2 x3 x4 h q hf
    replace hf : F_X12_goesOne_10_b n (F_X12_goesOne_10 n k) a0 x2 x3 x4 h = some q := hf
    unfold F_X12_goesOne_10_b at hf
    obtain ⟨v13, e1, hf⟩ := jbind hf
    replace e1 := (jcv_o e1).2
    replace hf := jite hf
    rcases hf with ⟨-, hf⟩ | ⟨-, hf⟩
    · replace hf := jite hf
      rcases hf with ⟨-, hf⟩ | ⟨-, hf⟩
      · cases hf
        exact rfl
      · cases hf
        exact rfl
    · obtain ⟨v22, e2, hf⟩ := jbind hf
      replace hf := jite hf
      rcases hf with ⟨-, hf⟩ | ⟨-, hf⟩
      · exact (ih  hf)
      · obtain ⟨p32, e3, hf⟩ := jbind hf
        obtain ⟨v38, e4, hf⟩ := jbind hf
        obtain ⟨v42, e5, hf⟩ := jbind hf
        replace hf := jite hf
        rcases hf with ⟨-, hf⟩ | ⟨-, hf⟩
        · exact (FZ_X12_goesOne_52 ih hf)
        · exact (FZ_X12_goesOne_52 ih hf)
theorem FZ_X12_goesOne {n : Nat} {a0 : Nat} {x1 : Int32} {x2 : Int32} {h : jH} {q : Int32 × jH} (hf : F_X12_goesOne n a0 x1 x2 h = some q) : q.2.1 = h.1 := by
  unfold F_X12_goesOne at hf
  obtain ⟨v3, e1, hf⟩ := jbind hf
  replace e1 := (jcv_o e1).2
  exact (FZ_X12_goesOne_10 hf)
theorem FZ_X12_pulls_8 {n : Nat} {k : Nat} : ∀ {a0 : Nat} {x1 : Int32} {x2 : Int32} {x3 : Int32} {x4 : Int32} {h : jH} {q : Int32 × jH}, F_X12_pulls_8 n k a0 x1 x2 x3 x4 h = some q → q.2.1 = h.1 := by
  induction k with
  | zero =>
    intro a0 x1 x2 x3 x4 h q hf
    cases hf
  | succ k ih =>
    intro a0 x1 x2 x3 x4 h q hf
    replace hf : F_X12_pulls_8_b n (F_X12_pulls_8 n k) a0 x1 x2 x3 x4 h = some q := hf
    unfold F_X12_pulls_8_b at hf
    replace hf := jite hf
    rcases hf with ⟨-, hf⟩ | ⟨-, hf⟩
    · exact (FZ_X12_pulls_29 hf)
    · obtain ⟨q17, e1, hf⟩ := jbind hf
      replace e1 := (jcv_o e1).2
      have f1 : q17.2.1 = h.1 := (FZ_X12_goesOne e1)
      replace hf := jite hf
      rcases hf with ⟨-, hf⟩ | ⟨-, hf⟩
      · exact ((FZ_X12_pulls_29 hf).trans f1)
      · exact ((ih  hf).trans f1)
theorem FZ_X12_pulls {n : Nat} {a0 : Nat} {x1 : Int32} {x2 : Int32} {x3 : Int32} {h : jH} {q : Int32 × jH} (hf : F_X12_pulls n a0 x1 x2 x3 h = some q) : q.2.1 = h.1 := by
  unfold F_X12_pulls at hf
  obtain ⟨h2, e1, hf⟩ := jbind hf
  have f1 : h2.1 = h.1 := (oc_pf e1).2
  exact ((FZ_X12_pulls_8 hf).trans f1)
theorem FZ_X12_bringsBack_2 {n : Nat} {k : Nat} : ∀ {a0 : Nat} {x1 : Int32} {h : jH} {q : jH}, F_X12_bringsBack_2 n k a0 x1 h = some q → q.1 = h.1 := by
  induction k with
  | zero =>
    intro a0 x1 h q hf
    cases hf
  | succ k ih =>
    intro a0 x1 h q hf
    replace hf : F_X12_bringsBack_2_b n (F_X12_bringsBack_2 n k) a0 x1 h = some q := hf
    unfold F_X12_bringsBack_2_b at hf
    replace hf := jite hf
    rcases hf with ⟨-, hf⟩ | ⟨-, hf⟩
    · cases hf
      exact rfl
    · obtain ⟨p10, e1, hf⟩ := jbind hf
      obtain ⟨p15, e2, hf⟩ := jbind hf
      obtain ⟨v19, e3, hf⟩ := jbind hf
      obtain ⟨h20, e4, hf⟩ := jbind hf
      have f4 : h20.1 = h.1 := (oc_as e4).2.1
      exact ((ih  hf).trans f4)
theorem FZ_X12_bringsBack {n : Nat} {a0 : Nat} {h : jH} {q : jH} (hf : F_X12_bringsBack n a0 h = some q) : q.1 = h.1 := by
  unfold F_X12_bringsBack at hf
  exact (FZ_X12_bringsBack_2 hf)
theorem FZ_X12_goes {n : Nat} {a0 : Nat} {x1 : Int32} {x2 : Int32} {h : jH} {q : Int32 × jH} (hf : F_X12_goes n a0 x1 x2 h = some q) : q.2.1 = h.1 := by
  unfold F_X12_goes at hf
  obtain ⟨h2, e1, hf⟩ := jbind hf
  have f1 : h2.1 = h.1 := (oc_pf e1).2
  obtain ⟨v8, e2, hf⟩ := jbind hf
  replace e2 := (jcv_o e2).2
  obtain ⟨q12, e3, hf⟩ := jbind hf
  replace e3 := (jcv_o e3).2
  have f3 : q12.2.1 = h2.1 := (FZ_X12_throwsIf e3)
  replace hf := jite hf
  rcases hf with ⟨-, hf⟩ | ⟨-, hf⟩
  · obtain ⟨h21, e4, hf⟩ := jbind hf
    replace e4 := (jcv_o e4).2
    have f4 : h21.1 = q12.2.1 := (FZ_X12_keepsAll e4)
    obtain ⟨q29, e5, hf⟩ := jbind hf
    replace e5 := (jcv_o e5).2
    have f5 : q29.2.1 = h21.1 := (FZ_X12_pulls e5)
    obtain ⟨h34, e6, hf⟩ := jbind hf
    replace e6 := (jcv_o e6).2
    have f6 : h34.1 = q29.2.1 := (FZ_X12_bringsBack e6)
    cases hf
    exact (f6.trans (f5.trans (f4.trans (f3.trans f1))))
  · cases hf
    exact (f3.trans f1)
theorem FZ_X12_with {n : Nat} {a0 : Nat} {x1 : Int32} {x2 : Int32} {h : jH} {q : Int32 × jH} (hf : F_X12_with n a0 x1 x2 h = some q) : q.2.1 = h.1 := by
  unfold F_X12_with at hf
  obtain ⟨h2, e1, hf⟩ := jbind hf
  have f1 : h2.1 = h.1 := (oc_pf e1).2
  obtain ⟨v8, e2, hf⟩ := jbind hf
  replace e2 := (jcv_o e2).2
  obtain ⟨q12, e3, hf⟩ := jbind hf
  replace e3 := (jcv_o e3).2
  have f3 : q12.2.1 = h2.1 := (FZ_X12_throwsIf e3)
  replace hf := jite hf
  rcases hf with ⟨-, hf⟩ | ⟨-, hf⟩
  · obtain ⟨v25, e4, hf⟩ := jbind hf
    replace e4 := (jcv_o e4).2
    cases hf
    exact (f3.trans f1)
  · cases hf
    exact (f3.trans f1)
theorem FZ_X12_would_60 {n : Nat} {a0 : Nat} {s0 : Int32} {h : jH} {q : Int32 × jH} (hf : F_X12_would_60 n a0 s0 h = some q) : q.2.1 = h.1 := by
  unfold F_X12_would_60 at hf
  obtain ⟨h63, e1, hf⟩ := jbind hf
  replace e1 := (jcv_o e1).2
  have f1 : h63.1 = h.1 := (FZ_X12_bringsBack e1)
  cases hf
  exact f1
theorem FZ_X12_would {n : Nat} {a0 : Nat} {x1 : Int32} {x2 : Int32} {x3 : Int32} {x4 : Int32} {h : jH} {q : Int32 × jH} (hf : F_X12_would n a0 x1 x2 x3 x4 h = some q) : q.2.1 = h.1 := by
  unfold F_X12_would at hf
  obtain ⟨h2, e1, hf⟩ := jbind hf
  have f1 : h2.1 = h.1 := (oc_pf e1).2
  obtain ⟨v8, e2, hf⟩ := jbind hf
  replace e2 := (jcv_o e2).2
  obtain ⟨q12, e3, hf⟩ := jbind hf
  replace e3 := (jcv_o e3).2
  have f3 : q12.2.1 = h2.1 := (FZ_X12_throwsIf e3)
  replace hf := jite hf
  rcases hf with ⟨-, hf⟩ | ⟨-, hf⟩
  · obtain ⟨v20, e4, hf⟩ := jbind hf
    obtain ⟨q24, e5, hf⟩ := jbind hf
    replace e5 := (jcv_o e5).2
    have f5 : q24.2.1 = q12.2.1 := (FZ_X12_throwsIf e5)
    replace hf := jite hf
    rcases hf with ⟨-, hf⟩ | ⟨-, hf⟩
    · obtain ⟨h33, e6, hf⟩ := jbind hf
      replace e6 := (jcv_o e6).2
      have f6 : h33.1 = q24.2.1 := (FZ_X12_keepsAll e6)
      obtain ⟨q40, e7, hf⟩ := jbind hf
      replace e7 := (jcv_o e7).2
      have f7 : q40.2.1 = h33.1 := (FZ_X12_pulls e7)
      replace hf := jite hf
      rcases hf with ⟨-, hf⟩ | ⟨-, hf⟩
      · obtain ⟨v57, e8, hf⟩ := jbind hf
        replace e8 := (jcv_o e8).2
        exact ((FZ_X12_would_60 hf).trans (f7.trans (f6.trans (f5.trans (f3.trans f1)))))
      · obtain ⟨v50, e9, hf⟩ := jbind hf
        exact ((FZ_X12_would_60 hf).trans (f7.trans (f6.trans (f5.trans (f3.trans f1)))))
    · cases hf
      exact (f5.trans (f3.trans f1))
  · cases hf
    exact (f3.trans f1)
theorem FZ_X12_uses {n : Nat} {a0 : Nat} {h : jH} {q : jH} (hf : F_X12_uses n a0 h = some q) : q.1 = h.1 := by
  unfold F_X12_uses at hf
  obtain ⟨h2, e1, hf⟩ := jbind hf
  have f1 : h2.1 = h.1 := (oc_pf e1).2
  obtain ⟨v7, e2, hf⟩ := jbind hf
  obtain ⟨h10, e3, hf⟩ := jbind hf
  have f3 : h10.1 = h2.1 := (oc_pf e3).2
  obtain ⟨h15, e4, hf⟩ := jbind hf
  have f4 : h15.1 = h10.1 := (oc_pf e4).2
  obtain ⟨h20, e5, hf⟩ := jbind hf
  have f5 : h20.1 = h15.1 := (oc_pf e5).2
  cases hf
  exact (f5.trans (f4.trans (f3.trans f1)))
theorem FZ_X12_areCaught_2 {n : Nat} {k : Nat} : ∀ {a0 : Nat} {x1 : Int32} {x2 : Int32} {h : jH} {q : jH}, F_X12_areCaught_2 n k a0 x1 x2 h = some q → q.1 = h.1 := by
  induction k with
  | zero =>
    intro a0 x1 x2 h q hf
    cases hf
  | succ k ih =>
    intro a0 x1 x2 h q hf
    replace hf : F_X12_areCaught_2_b n (F_X12_areCaught_2 n k) a0 x1 x2 h = some q := hf
    unfold F_X12_areCaught_2_b at hf
    obtain ⟨v4, e1, hf⟩ := jbind hf
    replace e1 := (jcv_o e1).2
    replace hf := jite hf
    rcases hf with ⟨-, hf⟩ | ⟨-, hf⟩
    · cases hf
      exact rfl
    · obtain ⟨p11, e2, hf⟩ := jbind hf
      obtain ⟨v17, e3, hf⟩ := jbind hf
      obtain ⟨v22, e4, hf⟩ := jbind hf
      replace hf := jite hf
      rcases hf with ⟨-, hf⟩ | ⟨-, hf⟩
      · obtain ⟨h33, e5, hf⟩ := jbind hf
        have f5 : h33.1 = h.1 := (oc_as e5).2.1
        exact ((ih  hf).trans f5)
      · obtain ⟨h33, e6, hf⟩ := jbind hf
        have f6 : h33.1 = h.1 := (oc_as e6).2.1
        exact ((ih  hf).trans f6)
theorem FZ_X12_areCaught {n : Nat} {a0 : Nat} {x1 : Int32} {h : jH} {q : jH} (hf : F_X12_areCaught n a0 x1 h = some q) : q.1 = h.1 := by
  unfold F_X12_areCaught at hf
  exact (FZ_X12_areCaught_2 hf)
theorem FZ_X12_wentWith {n : Nat} {a0 : Nat} {x1 : Int32} {x2 : Int32} {x3 : Int32} {x4 : Int32} {h : jH} {q : Int32 × jH} (hf : F_X12_wentWith n a0 x1 x2 x3 x4 h = some q) : q.2.1 = h.1 := by
  unfold F_X12_wentWith at hf
  obtain ⟨h1, e1, hf⟩ := jbind hf
  replace e1 := (jcv_o e1).2
  have f1 : h1.1 = h.1 := (FZ_X12_keepsAll e1)
  obtain ⟨h6, e2, hf⟩ := jbind hf
  replace e2 := (jcv_o e2).2
  have f2 : h6.1 = h1.1 := (FZ_X12_areCaught e2)
  obtain ⟨q14, e3, hf⟩ := jbind hf
  replace e3 := (jcv_o e3).2
  have f3 : q14.2.1 = h6.1 := (FZ_X12_pulls e3)
  obtain ⟨h20, e4, hf⟩ := jbind hf
  replace e4 := (jcv_o e4).2
  have f4 : h20.1 = q14.2.1 := (FZ_X12_bringsBack e4)
  cases hf
  exact (f4.trans (f3.trans (f2.trans f1)))
theorem FZ_X12_fits_41 {n : Nat} {rc4 : Nat → Int32 → Int32 → Int32 → jH → Option (Int32 × jH)} (hrc4 : ∀ {z0 : Nat} {z1 : Int32} {z2 : Int32} {z3 : Int32} {h : jH} {q : Int32 × jH}, rc4 z0 z1 z2 z3 h = some q → q.2.1 = h.1) {a0 : Nat} {x1 : Int32} {x3 : Int32} {sa0 : Nat} {s1 : Int32} {s2 : Int32} {s3 : Int32} {h : jH} {q : Int32 × jH} (hf : F_X12_fits_41 n rc4 a0 x1 x3 sa0 s1 s2 s3 h = some q) : q.2.1 = h.1 := by
  unfold F_X12_fits_41 at hf
  obtain ⟨p42, e1, hf⟩ := jbind hf
  obtain ⟨v48, e2, hf⟩ := jbind hf
  obtain ⟨q49, e3, hf⟩ := jbind hf
  replace e3 := (jcv_o e3).2
  have f3 : q49.2.1 = h.1 := (FZ_X12_wentWith e3)
  obtain ⟨p53, e4, hf⟩ := jbind hf
  obtain ⟨v59, e5, hf⟩ := jbind hf
  replace hf := jite hf
  rcases hf with ⟨-, hf⟩ | ⟨-, hf⟩
  · exact ((hrc4  hf).trans f3)
  · exact ((hrc4  hf).trans f3)
theorem FZ_X12_fits_4 {n : Nat} {k : Nat} : ∀ {a0 : Nat} {x1 : Int32} {x2 : Int32} {x3 : Int32} {h : jH} {q : Int32 × jH}, F_X12_fits_4 n k a0 x1 x2 x3 h = some q → q.2.1 = h.1 := by
  induction k with
  | zero =>
    intro a0 x1 x2 x3 h q hf
    cases hf
  | succ k ih =>
    intro a0 x1 x2 x3 h q hf
    replace hf : F_X12_fits_4_b n (F_X12_fits_4 n k) a0 x1 x2 x3 h = some q := hf
    unfold F_X12_fits_4_b at hf
    obtain ⟨v6, e1, hf⟩ := jbind hf
    replace hf := jite hf
    rcases hf with ⟨-, hf⟩ | ⟨-, hf⟩
    · replace hf := jite hf
      rcases hf with ⟨-, hf⟩ | ⟨-, hf⟩
      · cases hf
        exact rfl
      · cases hf
    · replace hf := jite hf
      rcases hf with ⟨-, hf⟩ | ⟨-, hf⟩
      · replace hf := jite hf
        rcases hf with ⟨-, hf⟩ | ⟨-, hf⟩
        · cases hf
          exact rfl
        · cases hf
      · obtain ⟨p19, e2, hf⟩ := jbind hf
        obtain ⟨v23, e3, hf⟩ := jbind hf
        obtain ⟨p25, e4, hf⟩ := jbind hf
        obtain ⟨v31, e5, hf⟩ := jbind hf
        replace hf := jite hf
        rcases hf with ⟨-, hf⟩ | ⟨-, hf⟩
        · exact (FZ_X12_fits_41 ih hf)
        · exact (FZ_X12_fits_41 ih hf)
theorem FZ_X12_fits {n : Nat} {a0 : Nat} {x1 : Int32} {h : jH} {q : Int32 × jH} (hf : F_X12_fits n a0 x1 h = some q) : q.2.1 = h.1 := by
  unfold F_X12_fits at hf
  exact (FZ_X12_fits_4 hf)
theorem FZ_X12_snags_36 {n : Nat} {k : Nat} : ∀ {a0 : Nat} {x1 : Int32} {x2 : Int32} {x3 : Int32} {x4 : Int32} {h : jH} {q : Int32 × jH}, F_X12_snags_36 n k a0 x1 x2 x3 x4 h = some q → q.2.1 = h.1 := by
  induction k with
  | zero =>
    intro a0 x1 x2 x3 x4 h q hf
    cases hf
  | succ k ih =>
    intro a0 x1 x2 x3 x4 h q hf
    replace hf : F_X12_snags_36_b n (F_X12_snags_36 n k) a0 x1 x2 x3 x4 h = some q := hf
    unfold F_X12_snags_36_b at hf
    obtain ⟨v39, e1, hf⟩ := jbind hf
    replace e1 := (jcv_o e1).2
    replace hf := jite hf
    rcases hf with ⟨-, hf⟩ | ⟨-, hf⟩
    · replace hf := jite hf
      rcases hf with ⟨-, hf⟩ | ⟨-, hf⟩
      · cases hf
        exact rfl
      · replace hf := jite hf
        rcases hf with ⟨-, hf⟩ | ⟨-, hf⟩
        · cases hf
          exact rfl
        · cases hf
          exact rfl
    · obtain ⟨q48, e2, hf⟩ := jbind hf
      replace e2 := (jcv_o e2).2
      have f2 : q48.2.1 = h.1 := (FZ_X12_fits e2)
      replace hf := jite hf
      rcases hf with ⟨-, hf⟩ | ⟨-, hf⟩
      · exact ((ih  hf).trans f2)
      · exact ((ih  hf).trans f2)
theorem FZ_X12_snags_17 {n : Nat} {a0 : Nat} {x1 : Int32} {sa0 : Nat} {s1 : Int32} {h : jH} {q : Int32 × jH} (hf : F_X12_snags_17 n a0 x1 sa0 s1 h = some q) : q.2.1 = h.1 := by
  unfold F_X12_snags_17 at hf
  obtain ⟨q18, e1, hf⟩ := jbind hf
  replace e1 := (jcv_o e1).2
  have f1 : q18.2.1 = h.1 := (FZ_X12_throwsIf e1)
  replace hf := jite hf
  rcases hf with ⟨-, hf⟩ | ⟨-, hf⟩
  · obtain ⟨v29, e2, hf⟩ := jbind hf
    replace e2 := (jcv_o e2).2
    exact ((FZ_X12_snags_36 hf).trans f1)
  · cases hf
    exact f1
theorem FZ_X12_snags {n : Nat} {a0 : Nat} {x1 : Int32} {h : jH} {q : Int32 × jH} (hf : F_X12_snags n a0 x1 h = some q) : q.2.1 = h.1 := by
  unfold F_X12_snags at hf
  obtain ⟨h1, e1, hf⟩ := jbind hf
  replace e1 := (jcv_o e1).2
  have f1 : h1.1 = h.1 := (FZ_X12_uses e1)
  obtain ⟨v6, e2, hf⟩ := jbind hf
  replace e2 := (jcv_o e2).2
  replace hf := jite hf
  rcases hf with ⟨-, hf⟩ | ⟨-, hf⟩
  · exact ((FZ_X12_snags_17 hf).trans f1)
  · exact ((FZ_X12_snags_17 hf).trans f1)
theorem FZ_X12_partBy_29 {n : Nat} {k : Nat} : ∀ {a0 : Nat} {x1 : Int32} {x2 : Int32} {x3 : Int32} {x4 : Int32} {h : jH} {q : Int32 × jH}, F_X12_partBy_29 n k a0 x1 x2 x3 x4 h = some q → q.2.1 = h.1 := by
  induction k with
  | zero =>
    intro a0 x1 x2 x3 x4 h q hf
    cases hf
  | succ k ih =>
    intro a0 x1 x2 x3 x4 h q hf
    replace hf : F_X12_partBy_29_b n (F_X12_partBy_29 n k) a0 x1 x2 x3 x4 h = some q := hf
    unfold F_X12_partBy_29_b at hf
    obtain ⟨v32, e1, hf⟩ := jbind hf
    replace e1 := (jcv_o e1).2
    replace hf := jite hf
    rcases hf with ⟨-, hf⟩ | ⟨-, hf⟩
    · cases hf
      exact rfl
    · obtain ⟨p39, e2, hf⟩ := jbind hf
      obtain ⟨v44, e3, hf⟩ := jbind hf
      replace hf := jite hf
      rcases hf with ⟨-, hf⟩ | ⟨-, hf⟩
      · exact (ih  hf)
      · obtain ⟨q58, e4, hf⟩ := jbind hf
        replace e4 := (jcv_o e4).2
        have f4 : q58.2.1 = h.1 := (FZ_X12_wentWith e4)
        obtain ⟨p64, e5, hf⟩ := jbind hf
        obtain ⟨v70, e6, hf⟩ := jbind hf
        obtain ⟨h73, e7, hf⟩ := jbind hf
        have f7 : h73.1 = q58.2.1 := (oc_as e7).2.1
        obtain ⟨p76, e8, hf⟩ := jbind hf
        obtain ⟨v81, e9, hf⟩ := jbind hf
        exact ((ih  hf).trans (f7.trans f4))
theorem FZ_X12_partBy_5 {n : Nat} {k : Nat} : ∀ {a0 : Nat} {x1 : Int32} {x2 : Int32} {x3 : Int32} {x4 : Int32} {h : jH} {q : Int32 × jH}, F_X12_partBy_5 n k a0 x1 x2 x3 x4 h = some q → q.2.1 = h.1 := by
  induction k with
  | zero =>
    intro a0 x1 x2 x3 x4 h q hf
    cases hf
  | succ k ih =>
    intro a0 x1 x2 x3 x4 h q hf
    replace hf : F_X12_partBy_5_b n (F_X12_partBy_5 n k) a0 x1 x2 x3 x4 h = some q := hf
    unfold F_X12_partBy_5_b at hf
    replace hf := jite hf
    rcases hf with ⟨-, hf⟩ | ⟨-, hf⟩
    · exact (FZ_X12_partBy_29 hf)
    · obtain ⟨p13, e1, hf⟩ := jbind hf
      obtain ⟨h19, e2, hf⟩ := jbind hf
      have f2 : h19.1 = h.1 := (oc_as e2).2.1
      exact ((ih  hf).trans f2)
theorem FZ_X12_partBy {n : Nat} {a0 : Nat} {x1 : Int32} {x2 : Int32} {h : jH} {q : Int32 × jH} (hf : F_X12_partBy n a0 x1 x2 h = some q) : q.2.1 = h.1 := by
  unfold F_X12_partBy at hf
  exact (FZ_X12_partBy_5 hf)
theorem FZ_X12_tries_132 {n : Nat} {rc81 : Nat → Int32 → Int32 → Int32 → Int32 → jH → Option (Int32 × jH)} (hrc81 : ∀ {z0 : Nat} {z1 : Int32} {z2 : Int32} {z3 : Int32} {z4 : Int32} {h : jH} {q : Int32 × jH}, rc81 z0 z1 z2 z3 z4 h = some q → q.2.1 = h.1) {a0 : Nat} {x1 : Int32} {x3 : Int32} {x4 : Int32} {x5 : Int32} {s0 : Int32} {h : jH} {q : Int32 × jH} (hf : F_X12_tries_132 n rc81 a0 x1 x3 x4 x5 s0 h = some q) : q.2.1 = h.1 := by
  unfold F_X12_tries_132 at hf
  exact (hrc81  hf)
theorem FZ_X12_tries_115 {n : Nat} {rc81 : Nat → Int32 → Int32 → Int32 → Int32 → jH → Option (Int32 × jH)} (hrc81 : ∀ {z0 : Nat} {z1 : Int32} {z2 : Int32} {z3 : Int32} {z4 : Int32} {h : jH} {q : Int32 × jH}, rc81 z0 z1 z2 z3 z4 h = some q → q.2.1 = h.1) {a0 : Nat} {x1 : Int32} {x2 : Int32} {x3 : Int32} {x4 : Int32} {sa0 : Nat} {s1 : Int32} {s2 : Int32} {h : jH} {q : Int32 × jH} (hf : F_X12_tries_115 n rc81 a0 x1 x2 x3 x4 sa0 s1 s2 h = some q) : q.2.1 = h.1 := by
  unfold F_X12_tries_115 at hf
  obtain ⟨q115, e1, hf⟩ := jbind hf
  replace e1 := (jcv_o e1).2
  have f1 : q115.2.1 = h.1 := (FZ_X12_partBy e1)
  replace hf := jite hf
  rcases hf with ⟨-, hf⟩ | ⟨-, hf⟩
  · exact ((FZ_X12_tries_132 hrc81 hf).trans f1)
  · exact ((FZ_X12_tries_132 hrc81 hf).trans f1)
theorem FZ_X12_tries_81 {n : Nat} {k : Nat} : ∀ {a0 : Nat} {x1 : Int32} {x2 : Int32} {x3 : Int32} {x4 : Int32} {h : jH} {q : Int32 × jH}, F_X12_tries_81 n k a0 x1 x2 x3 x4 h = some q → q.2.1 = h.1 := by
  induction k with
  | zero =>
    intro a0 x1 x2 x3 x4 h q hf
    cases hf
  | succ k ih =>
    intro a0 x1 x2 x3 x4 h q hf
    replace hf : F_X12_tries_81_b n (F_X12_tries_81 n k) a0 x1 x2 x3 x4 h = some q := hf
    unfold F_X12_tries_81_b at hf
    obtain ⟨v85, e1, hf⟩ := jbind hf
    replace e1 := (jcv_o e1).2
    replace hf := jite hf
    rcases hf with ⟨-, hf⟩ | ⟨-, hf⟩
    · cases hf
      exact rfl
    · replace hf := jite hf
      rcases hf with ⟨-, hf⟩ | ⟨-, hf⟩
      · cases hf
        exact rfl
      · replace hf := jite hf
        rcases hf with ⟨-, hf⟩ | ⟨-, hf⟩
        · exact (FZ_X12_tries_115 ih hf)
        · exact (FZ_X12_tries_115 ih hf)
theorem FZ_X12_tries_30 {n : Nat} {k : Nat} : ∀ {a0 : Nat} {x1 : Int32} {x2 : Int32} {h : jH} {q : Int32 × jH}, F_X12_tries_30 n k a0 x1 x2 h = some q → q.2.1 = h.1 := by
  induction k with
  | zero =>
    intro a0 x1 x2 h q hf
    cases hf
  | succ k ih =>
    intro a0 x1 x2 h q hf
    replace hf : F_X12_tries_30_b n (F_X12_tries_30 n k) a0 x1 x2 h = some q := hf
    unfold F_X12_tries_30_b at hf
    obtain ⟨v32, e1, hf⟩ := jbind hf
    replace e1 := (jcv_o e1).2
    replace hf := jite hf
    rcases hf with ⟨-, hf⟩ | ⟨-, hf⟩
    · exact (FZ_X12_tries_81 hf)
    · obtain ⟨p39, e2, hf⟩ := jbind hf
      obtain ⟨q45, e3, hf⟩ := jbind hf
      replace e3 := (jcv_o e3).2
      have f3 : q45.2.1 = h.1 := (FZ_X12_fits e3)
      obtain ⟨h48, e4, hf⟩ := jbind hf
      have f4 : h48.1 = q45.2.1 := (oc_as e4).2.1
      obtain ⟨p51, e5, hf⟩ := jbind hf
      obtain ⟨v55, e6, hf⟩ := jbind hf
      replace hf := jite hf
      rcases hf with ⟨-, hf⟩ | ⟨-, hf⟩
      · exact ((ih  hf).trans (f4.trans f3))
      · exact ((ih  hf).trans (f4.trans f3))
theorem FZ_X12_tries_17 {n : Nat} {a0 : Nat} {sa0 : Nat} {s1 : Int32} {h : jH} {q : Int32 × jH} (hf : F_X12_tries_17 n a0 sa0 s1 h = some q) : q.2.1 = h.1 := by
  unfold F_X12_tries_17 at hf
  obtain ⟨q18, e1, hf⟩ := jbind hf
  replace e1 := (jcv_o e1).2
  have f1 : q18.2.1 = h.1 := (FZ_X12_throwsIf e1)
  replace hf := jite hf
  rcases hf with ⟨-, hf⟩ | ⟨-, hf⟩
  · exact ((FZ_X12_tries_30 hf).trans f1)
  · cases hf
    exact f1
theorem FZ_X12_tries {n : Nat} {a0 : Nat} {h : jH} {q : Int32 × jH} (hf : F_X12_tries n a0 h = some q) : q.2.1 = h.1 := by
  unfold F_X12_tries at hf
  obtain ⟨h1, e1, hf⟩ := jbind hf
  replace e1 := (jcv_o e1).2
  have f1 : h1.1 = h.1 := (FZ_X12_uses e1)
  obtain ⟨v6, e2, hf⟩ := jbind hf
  replace e2 := (jcv_o e2).2
  replace hf := jite hf
  rcases hf with ⟨-, hf⟩ | ⟨-, hf⟩
  · exact ((FZ_X12_tries_17 hf).trans f1)
  · exact ((FZ_X12_tries_17 hf).trans f1)
theorem FZ_X12_loosen_51 {n : Nat} {k : Nat} : ∀ {a0 : Nat} {x1 : Int32} {x2 : Int32} {x3 : Int32} {x4 : Int32} {x5 : Int32} {x6 : Int32} {x7 : Int32} {h : jH} {q : Int32 × jH}, F_X12_loosen_51 n k a0 x1 x2 x3 x4 x5 x6 x7 h = some q → q.2.1 = h.1 := by
  induction k with
  | zero =>
    intro a0 x1 x2 x3 x4 x5 x6 x7 h q hf
    cases hf
  | succ k ih =>
    intro a0 x1 x2 x3 x4 x5 x6 x7 h q hf
    replace hf : F_X12_loosen_51_b n (F_X12_loosen_51 n k) a0 x1 x2 x3 x4 x5 x6 x7 h = some q := hf
    unfold F_X12_loosen_51_b at hf
    replace hf := jite hf
    rcases hf with ⟨-, hf⟩ | ⟨-, hf⟩
    · cases hf
      exact rfl
    · replace hf := jite hf
      rcases hf with ⟨-, hf⟩ | ⟨-, hf⟩
      · obtain ⟨v70, e1, hf⟩ := jbind hf
        replace hf := jite hf
        rcases hf with ⟨-, hf⟩ | ⟨-, hf⟩
        · exact (ih  hf)
        · obtain ⟨q89, e2, hf⟩ := jbind hf
          replace e2 := (jcv_o e2).2
          have f2 : q89.2.1 = h.1 := (FZ_X12_wentWith e2)
          replace hf := jite hf
          rcases hf with ⟨-, hf⟩ | ⟨-, hf⟩
          · obtain ⟨v105, e3, hf⟩ := jbind hf
            exact ((ih  hf).trans f2)
          · exact ((ih  hf).trans f2)
      · exact (ih  hf)
theorem FZ_X12_loosen {n : Nat} {a0 : Nat} {x1 : Int32} {x2 : Int32} {x3 : Int32} {h : jH} {q : Int32 × jH} (hf : F_X12_loosen n a0 x1 x2 x3 h = some q) : q.2.1 = h.1 := by
  unfold F_X12_loosen at hf
  obtain ⟨h2, e1, hf⟩ := jbind hf
  have f1 : h2.1 = h.1 := (oc_pf e1).2
  obtain ⟨v8, e2, hf⟩ := jbind hf
  replace e2 := (jcv_o e2).2
  obtain ⟨q12, e3, hf⟩ := jbind hf
  replace e3 := (jcv_o e3).2
  have f3 : q12.2.1 = h2.1 := (FZ_X12_throwsIf e3)
  replace hf := jite hf
  rcases hf with ⟨-, hf⟩ | ⟨-, hf⟩
  · obtain ⟨v20, e4, hf⟩ := jbind hf
    obtain ⟨q24, e5, hf⟩ := jbind hf
    replace e5 := (jcv_o e5).2
    have f5 : q24.2.1 = q12.2.1 := (FZ_X12_throwsIf e5)
    replace hf := jite hf
    rcases hf with ⟨-, hf⟩ | ⟨-, hf⟩
    · obtain ⟨v35, e6, hf⟩ := jbind hf
      replace e6 := (jcv_o e6).2
      exact ((FZ_X12_loosen_51 hf).trans (f5.trans (f3.trans f1)))
    · cases hf
      exact (f5.trans (f3.trans f1))
  · cases hf
    exact (f3.trans f1)
theorem FZ_X12_tight_83 {n : Nat} {rc39 : Nat → Int32 → Int32 → Int32 → Int32 → jH → Option (Int32 × jH)} (hrc39 : ∀ {z0 : Nat} {z1 : Int32} {z2 : Int32} {z3 : Int32} {z4 : Int32} {h : jH} {q : Int32 × jH}, rc39 z0 z1 z2 z3 z4 h = some q → q.2.1 = h.1) {a0 : Nat} {x1 : Int32} {x3 : Int32} {x4 : Int32} {x5 : Int32} {s0 : Int32} {h : jH} {q : Int32 × jH} (hf : F_X12_tight_83 n rc39 a0 x1 x3 x4 x5 s0 h = some q) : q.2.1 = h.1 := by
  unfold F_X12_tight_83 at hf
  exact (hrc39  hf)
theorem FZ_X12_tight_39 {n : Nat} {k : Nat} : ∀ {a0 : Nat} {x1 : Int32} {x2 : Int32} {x3 : Int32} {x4 : Int32} {h : jH} {q : Int32 × jH}, F_X12_tight_39 n k a0 x1 x2 x3 x4 h = some q → q.2.1 = h.1 := by
  induction k with
  | zero =>
    intro a0 x1 x2 x3 x4 h q hf
    cases hf
  | succ k ih =>
    intro a0 x1 x2 x3 x4 h q hf
    replace hf : F_X12_tight_39_b n (F_X12_tight_39 n k) a0 x1 x2 x3 x4 h = some q := hf
    unfold F_X12_tight_39_b at hf
    obtain ⟨v44, e1, hf⟩ := jbind hf
    replace e1 := (jcv_o e1).2
    replace hf := jite hf
    rcases hf with ⟨-, hf⟩ | ⟨-, hf⟩
    · cases hf
      exact rfl
    · obtain ⟨v58, e2, hf⟩ := jbind hf
      replace e2 := (jcv_o e2).2
      obtain ⟨v65, e3, hf⟩ := jbind hf
      replace e3 := (jcv_o e3).2
      replace hf := jite hf
      rcases hf with ⟨-, hf⟩ | ⟨-, hf⟩
      · exact (FZ_X12_tight_83 ih hf)
      · exact (FZ_X12_tight_83 ih hf)
theorem FZ_X12_tight_21 {n : Nat} {a0 : Nat} {x1 : Int32} {sa0 : Nat} {s1 : Int32} {h : jH} {q : Int32 × jH} (hf : F_X12_tight_21 n a0 x1 sa0 s1 h = some q) : q.2.1 = h.1 := by
  unfold F_X12_tight_21 at hf
  obtain ⟨q22, e1, hf⟩ := jbind hf
  replace e1 := (jcv_o e1).2
  have f1 : q22.2.1 = h.1 := (FZ_X12_throwsIf e1)
  replace hf := jite hf
  rcases hf with ⟨-, hf⟩ | ⟨-, hf⟩
  · exact ((FZ_X12_tight_39 hf).trans f1)
  · cases hf
    exact f1
theorem FZ_X12_tight {n : Nat} {a0 : Nat} {x1 : Int32} {h : jH} {q : Int32 × jH} (hf : F_X12_tight n a0 x1 h = some q) : q.2.1 = h.1 := by
  unfold F_X12_tight at hf
  obtain ⟨h2, e1, hf⟩ := jbind hf
  have f1 : h2.1 = h.1 := (oc_pf e1).2
  obtain ⟨v10, e2, hf⟩ := jbind hf
  replace hf := jite hf
  rcases hf with ⟨-, hf⟩ | ⟨-, hf⟩
  · exact ((FZ_X12_tight_21 hf).trans f1)
  · exact ((FZ_X12_tight_21 hf).trans f1)
theorem FZ_X12_lit_21 {n : Nat} {a0 : Nat} {x1 : Int32} {sa0 : Nat} {s1 : Int32} {h : jH} {q : Int32 × jH} (hf : F_X12_lit_21 n a0 x1 sa0 s1 h = some q) : q.2.1 = h.1 := by
  unfold F_X12_lit_21 at hf
  obtain ⟨q22, e1, hf⟩ := jbind hf
  replace e1 := (jcv_o e1).2
  have f1 : q22.2.1 = h.1 := (FZ_X12_throwsIf e1)
  replace hf := jite hf
  rcases hf with ⟨-, hf⟩ | ⟨-, hf⟩
  · obtain ⟨v34, e2, hf⟩ := jbind hf
    replace e2 := (jcv_o e2).2
    cases hf
    exact f1
  · cases hf
    exact f1
theorem FZ_X12_lit {n : Nat} {a0 : Nat} {x1 : Int32} {h : jH} {q : Int32 × jH} (hf : F_X12_lit n a0 x1 h = some q) : q.2.1 = h.1 := by
  unfold F_X12_lit at hf
  obtain ⟨h2, e1, hf⟩ := jbind hf
  have f1 : h2.1 = h.1 := (oc_pf e1).2
  obtain ⟨v10, e2, hf⟩ := jbind hf
  replace hf := jite hf
  rcases hf with ⟨-, hf⟩ | ⟨-, hf⟩
  · exact ((FZ_X12_lit_21 hf).trans f1)
  · exact ((FZ_X12_lit_21 hf).trans f1)
theorem FZ_X12_drawn {n : Nat} {a0 : Nat} {x1 : Int32} {h : jH} {q : Int32 × jH} (hf : F_X12_drawn n a0 x1 h = some q) : q.2.1 = h.1 := by
  unfold F_X12_drawn at hf
  obtain ⟨p1, e1, hf⟩ := jbind hf
  obtain ⟨p9, e2, hf⟩ := jbind hf
  obtain ⟨v14, e3, hf⟩ := jbind hf
  obtain ⟨h20, e4, hf⟩ := jbind hf
  have f4 : h20.1 = h.1 := (oc_as e4).2.1
  obtain ⟨p22, e5, hf⟩ := jbind hf
  obtain ⟨v27, e6, hf⟩ := jbind hf
  replace hf := jite hf
  rcases hf with ⟨-, hf⟩ | ⟨-, hf⟩
  · cases hf
  · cases hf
    exact f4
theorem FZ_X12_tells_5 {n : Nat} {k : Nat} : ∀ {a0 : Nat} {x1 : Int32} {x2 : Int32} {x3 : Int32} {x4 : Int32} {h : jH} {q : jH}, F_X12_tells_5 n k a0 x1 x2 x3 x4 h = some q → q.1 = h.1 := by
  induction k with
  | zero =>
    intro a0 x1 x2 x3 x4 h q hf
    cases hf
  | succ k ih =>
    intro a0 x1 x2 x3 x4 h q hf
    replace hf : F_X12_tells_5_b n (F_X12_tells_5 n k) a0 x1 x2 x3 x4 h = some q := hf
    unfold F_X12_tells_5_b at hf
    replace hf := jite hf
    rcases hf with ⟨-, hf⟩ | ⟨-, hf⟩
    · obtain ⟨p42, e1, hf⟩ := jbind hf
      obtain ⟨p48, e2, hf⟩ := jbind hf
      obtain ⟨v52, e3, hf⟩ := jbind hf
      obtain ⟨h53, e4, hf⟩ := jbind hf
      have f4 : h53.1 = h.1 := (oc_as e4).2.1
      obtain ⟨p55, e5, hf⟩ := jbind hf
      obtain ⟨p61, e6, hf⟩ := jbind hf
      obtain ⟨v65, e7, hf⟩ := jbind hf
      obtain ⟨h66, e8, hf⟩ := jbind hf
      have f8 : h66.1 = h53.1 := (oc_as e8).2.1
      obtain ⟨p68, e9, hf⟩ := jbind hf
      obtain ⟨h74, e10, hf⟩ := jbind hf
      have f10 : h74.1 = h66.1 := (oc_as e10).2.1
      obtain ⟨p76, e11, hf⟩ := jbind hf
      obtain ⟨h82, e12, hf⟩ := jbind hf
      have f12 : h82.1 = h74.1 := (oc_as e12).2.1
      obtain ⟨p84, e13, hf⟩ := jbind hf
      obtain ⟨h90, e14, hf⟩ := jbind hf
      have f14 : h90.1 = h82.1 := (oc_as e14).2.1
      obtain ⟨p92, e15, hf⟩ := jbind hf
      obtain ⟨v100, e16, hf⟩ := jbind hf
      replace e16 := (jcv_o e16).2
      obtain ⟨h103, e17, hf⟩ := jbind hf
      have f17 : h103.1 = h90.1 := (oc_as e17).2.1
      obtain ⟨p105, e18, hf⟩ := jbind hf
      obtain ⟨p113, e19, hf⟩ := jbind hf
      obtain ⟨v118, e20, hf⟩ := jbind hf
      obtain ⟨h124, e21, hf⟩ := jbind hf
      have f21 : h124.1 = h103.1 := (oc_as e21).2.1
      cases hf
      exact (f21.trans (f17.trans (f14.trans (f12.trans (f10.trans (f8.trans f4))))))
    · obtain ⟨p13, e22, hf⟩ := jbind hf
      obtain ⟨p22, e23, hf⟩ := jbind hf
      obtain ⟨v33, e24, hf⟩ := jbind hf
      obtain ⟨h34, e25, hf⟩ := jbind hf
      have f25 : h34.1 = h.1 := (oc_as e25).2.1
      exact ((ih  hf).trans f25)
theorem FZ_X12_tells {n : Nat} {a0 : Nat} {x1 : Int32} {x2 : Int32} {x3 : Int32} {h : jH} {q : jH} (hf : F_X12_tells n a0 x1 x2 x3 h = some q) : q.1 = h.1 := by
  unfold F_X12_tells at hf
  exact (FZ_X12_tells_5 hf)
theorem FZ_X12_catches_4 {n : Nat} {k : Nat} : ∀ {a0 : Nat} {x1 : Int32} {x2 : Int32} {h : jH} {q : Int32 × jH}, F_X12_catches_4 n k a0 x1 x2 h = some q → q.2.1 = h.1 := by
  induction k with
  | zero =>
    intro a0 x1 x2 h q hf
    cases hf
  | succ k ih =>
    intro a0 x1 x2 h q hf
    replace hf : F_X12_catches_4_b n (F_X12_catches_4 n k) a0 x1 x2 h = some q := hf
    unfold F_X12_catches_4_b at hf
    obtain ⟨v6, e1, hf⟩ := jbind hf
    replace e1 := (jcv_o e1).2
    replace hf := jite hf
    rcases hf with ⟨-, hf⟩ | ⟨-, hf⟩
    · cases hf
      exact rfl
    · obtain ⟨v14, e2, hf⟩ := jbind hf
      replace e2 := (jcv_o e2).2
      replace hf := jite hf
      rcases hf with ⟨-, hf⟩ | ⟨-, hf⟩
      · obtain ⟨v25, e3, hf⟩ := jbind hf
        replace e3 := (jcv_o e3).2
        replace hf := jite hf
        rcases hf with ⟨-, hf⟩ | ⟨-, hf⟩
        · obtain ⟨q34, e4, hf⟩ := jbind hf
          replace e4 := (jcv_o e4).2
          have f4 : q34.2.1 = h.1 := (FZ_X12_drawn e4)
          obtain ⟨q40, e5, hf⟩ := jbind hf
          replace e5 := (jcv_o e5).2
          have f5 : q40.2.1 = q34.2.1 := (FZ_X12_byLaw e5)
          replace hf := jite hf
          rcases hf with ⟨-, hf⟩ | ⟨-, hf⟩
          · obtain ⟨p50, e6, hf⟩ := jbind hf
            obtain ⟨v56, e7, hf⟩ := jbind hf
            obtain ⟨h60, e8, hf⟩ := jbind hf
            have f8 : h60.1 = q40.2.1 := (oc_as e8).2.1
            obtain ⟨h65, e9, hf⟩ := jbind hf
            replace e9 := (jcv_o e9).2
            have f9 : h65.1 = h60.1 := (FZ_X12_tells e9)
            exact ((ih  hf).trans (f9.trans (f8.trans (f5.trans f4))))
          · exact ((ih  hf).trans (f5.trans f4))
        · exact (ih  hf)
      · exact (ih  hf)
theorem FZ_X12_catches {n : Nat} {a0 : Nat} {h : jH} {q : Int32 × jH} (hf : F_X12_catches n a0 h = some q) : q.2.1 = h.1 := by
  unfold F_X12_catches at hf
  exact (FZ_X12_catches_4 hf)
theorem FZ_X12_falls_4 {n : Nat} {k : Nat} : ∀ {a0 : Nat} {x1 : Int32} {x2 : Int32} {h : jH} {q : Int32 × jH}, F_X12_falls_4 n k a0 x1 x2 h = some q → q.2.1 = h.1 := by
  induction k with
  | zero =>
    intro a0 x1 x2 h q hf
    cases hf
  | succ k ih =>
    intro a0 x1 x2 h q hf
    replace hf : F_X12_falls_4_b n (F_X12_falls_4 n k) a0 x1 x2 h = some q := hf
    unfold F_X12_falls_4_b at hf
    obtain ⟨v6, e1, hf⟩ := jbind hf
    replace e1 := (jcv_o e1).2
    replace hf := jite hf
    rcases hf with ⟨-, hf⟩ | ⟨-, hf⟩
    · cases hf
      exact rfl
    · obtain ⟨v16, e2, hf⟩ := jbind hf
      replace e2 := (jcv_o e2).2
      replace hf := jite hf
      rcases hf with ⟨-, hf⟩ | ⟨-, hf⟩
      · exact (ih  hf)
      · obtain ⟨q25, e3, hf⟩ := jbind hf
        replace e3 := (jcv_o e3).2
        have f3 : q25.2.1 = h.1 := (FZ_X12_drawn e3)
        obtain ⟨q31, e4, hf⟩ := jbind hf
        replace e4 := (jcv_o e4).2
        have f4 : q31.2.1 = q25.2.1 := (FZ_X12_byLaw e4)
        replace hf := jite hf
        rcases hf with ⟨-, hf⟩ | ⟨-, hf⟩
        · obtain ⟨p41, e5, hf⟩ := jbind hf
          obtain ⟨v47, e6, hf⟩ := jbind hf
          obtain ⟨h51, e7, hf⟩ := jbind hf
          have f7 : h51.1 = q31.2.1 := (oc_as e7).2.1
          obtain ⟨h56, e8, hf⟩ := jbind hf
          replace e8 := (jcv_o e8).2
          have f8 : h56.1 = h51.1 := (FZ_X12_tells e8)
          exact ((ih  hf).trans (f8.trans (f7.trans (f4.trans f3))))
        · exact ((ih  hf).trans (f4.trans f3))
theorem FZ_X12_falls {n : Nat} {a0 : Nat} {h : jH} {q : Int32 × jH} (hf : F_X12_falls n a0 h = some q) : q.2.1 = h.1 := by
  unfold F_X12_falls at hf
  exact (FZ_X12_falls_4 hf)
theorem FZ_X12_oneHour_61 {n : Nat} {a0 : Nat} {s0 : Int32} {h : jH} {q : Int32 × jH} (hf : F_X12_oneHour_61 n a0 s0 h = some q) : q.2.1 = h.1 := by
  unfold F_X12_oneHour_61 at hf
  obtain ⟨p63, e1, hf⟩ := jbind hf
  obtain ⟨v68, e2, hf⟩ := jbind hf
  obtain ⟨h71, e3, hf⟩ := jbind hf
  have f3 : h71.1 = h.1 := (oc_as e3).2.1
  obtain ⟨p73, e4, hf⟩ := jbind hf
  obtain ⟨v77, e5, hf⟩ := jbind hf
  replace hf := jite hf
  rcases hf with ⟨-, hf⟩ | ⟨-, hf⟩
  · obtain ⟨p84, e6, hf⟩ := jbind hf
    obtain ⟨h89, e7, hf⟩ := jbind hf
    have f7 : h89.1 = h71.1 := (oc_as e7).2.1
    obtain ⟨p91, e8, hf⟩ := jbind hf
    obtain ⟨p99, e9, hf⟩ := jbind hf
    obtain ⟨v103, e10, hf⟩ := jbind hf
    obtain ⟨h109, e11, hf⟩ := jbind hf
    have f11 : h109.1 = h89.1 := (oc_as e11).2.1
    cases hf
    exact (f11.trans (f7.trans f3))
  · cases hf
    exact f3
theorem FZ_X12_oneHour_2 {n : Nat} {k : Nat} : ∀ {a0 : Nat} {x1 : Int32} {x2 : Int32} {h : jH} {q : Int32 × jH}, F_X12_oneHour_2 n k a0 x1 x2 h = some q → q.2.1 = h.1 := by
  induction k with
  | zero =>
    intro a0 x1 x2 h q hf
    cases hf
  | succ k ih =>
    intro a0 x1 x2 h q hf
    replace hf : F_X12_oneHour_2_b n (F_X12_oneHour_2 n k) a0 x1 x2 h = some q := hf
    unfold F_X12_oneHour_2_b at hf
    obtain ⟨v4, e1, hf⟩ := jbind hf
    replace e1 := (jcv_o e1).2
    replace hf := jite hf
    rcases hf with ⟨-, hf⟩ | ⟨-, hf⟩
    · replace hf := jite hf
      rcases hf with ⟨-, hf⟩ | ⟨-, hf⟩
      · obtain ⟨q53, e2, hf⟩ := jbind hf
        replace e2 := (jcv_o e2).2
        have f2 : q53.2.1 = h.1 := (FZ_X12_catches e2)
        obtain ⟨q57, e3, hf⟩ := jbind hf
        replace e3 := (jcv_o e3).2
        have f3 : q57.2.1 = q53.2.1 := (FZ_X12_falls e3)
        exact ((FZ_X12_oneHour_61 hf).trans (f3.trans f2))
      · exact (FZ_X12_oneHour_61 hf)
    · obtain ⟨p11, e4, hf⟩ := jbind hf
      obtain ⟨v16, e5, hf⟩ := jbind hf
      obtain ⟨v24, e6, hf⟩ := jbind hf
      replace e6 := (jcv_o e6).2
      obtain ⟨q30, e7, hf⟩ := jbind hf
      replace e7 := (jcv_o e7).2
      have f7 : q30.2.1 = h.1 := (FZ_X12_byLaw e7)
      obtain ⟨h37, e8, hf⟩ := jbind hf
      have f8 : h37.1 = q30.2.1 := (oc_as e8).2.1
      exact ((ih  hf).trans (f8.trans f7))
theorem FZ_X12_oneHour {n : Nat} {a0 : Nat} {x1 : Int32} {h : jH} {q : Int32 × jH} (hf : F_X12_oneHour n a0 x1 h = some q) : q.2.1 = h.1 := by
  unfold F_X12_oneHour at hf
  exact (FZ_X12_oneHour_2 hf)
theorem FZ_X12_goesOn_5 {n : Nat} {k : Nat} : ∀ {a0 : Nat} {x1 : Int32} {x2 : Int32} {x3 : Int32} {x4 : Int32} {h : jH} {q : Int32 × jH}, F_X12_goesOn_5 n k a0 x1 x2 x3 x4 h = some q → q.2.1 = h.1 := by
  induction k with
  | zero =>
    intro a0 x1 x2 x3 x4 h q hf
    cases hf
  | succ k ih =>
    intro a0 x1 x2 x3 x4 h q hf
    replace hf : F_X12_goesOn_5_b n (F_X12_goesOn_5 n k) a0 x1 x2 x3 x4 h = some q := hf
    unfold F_X12_goesOn_5_b at hf
    replace hf := jite hf
    rcases hf with ⟨-, hf⟩ | ⟨-, hf⟩
    · cases hf
      exact rfl
    · obtain ⟨q14, e1, hf⟩ := jbind hf
      replace e1 := (jcv_o e1).2
      have f1 : q14.2.1 = h.1 := (FZ_X12_oneHour e1)
      exact ((ih  hf).trans f1)
theorem FZ_X12_goesOn {n : Nat} {a0 : Nat} {x1 : Int32} {x2 : Int32} {h : jH} {q : Int32 × jH} (hf : F_X12_goesOn n a0 x1 x2 h = some q) : q.2.1 = h.1 := by
  unfold F_X12_goesOn at hf
  exact (FZ_X12_goesOn_5 hf)
theorem FZ_X12_faded {n : Nat} {a0 : Nat} {x1 : Int32} {h : jH} {q : Int32 × jH} (hf : F_X12_faded n a0 x1 h = some q) : q.2.1 = h.1 := by
  unfold F_X12_faded at hf
  obtain ⟨h2, e1, hf⟩ := jbind hf
  have f1 : h2.1 = h.1 := (oc_pf e1).2
  obtain ⟨v7, e2, hf⟩ := jbind hf
  obtain ⟨q11, e3, hf⟩ := jbind hf
  replace e3 := (jcv_o e3).2
  have f3 : q11.2.1 = h2.1 := (FZ_X12_throwsIf e3)
  replace hf := jite hf
  rcases hf with ⟨-, hf⟩ | ⟨-, hf⟩
  · obtain ⟨h20, e4, hf⟩ := jbind hf
    replace e4 := (jcv_o e4).2
    have f4 : h20.1 = q11.2.1 := (FZ_X12_keepsAll e4)
    obtain ⟨q26, e5, hf⟩ := jbind hf
    replace e5 := (jcv_o e5).2
    have f5 : q26.2.1 = h20.1 := (FZ_X12_goesOn e5)
    obtain ⟨v31, e6, hf⟩ := jbind hf
    replace e6 := (jcv_o e6).2
    obtain ⟨h36, e7, hf⟩ := jbind hf
    replace e7 := (jcv_o e7).2
    have f7 : h36.1 = q26.2.1 := (FZ_X12_bringsBack e7)
    cases hf
    exact (f7.trans (f5.trans (f4.trans (f3.trans f1))))
  · cases hf
    exact (f3.trans f1)
theorem FZ_X12_lets_103 {n : Nat} {x1 : Int32} {x2 : Int32} {x4 : Int32} {x5 : Int32} {s0 : Int32} {h : jH} {q : Int32 × jH} (hf : F_X12_lets_103 n x1 x2 x4 x5 s0 h = some q) : q.2.1 = h.1 := by
  unfold F_X12_lets_103 at hf
  replace hf := jite hf
  rcases hf with ⟨-, hf⟩ | ⟨-, hf⟩
  · replace hf := jite hf
    rcases hf with ⟨-, hf⟩ | ⟨-, hf⟩
    · cases hf
      exact rfl
    · cases hf
      exact rfl
  · cases hf
    exact rfl
theorem FZ_X12_lets_48 {n : Nat} {k : Nat} : ∀ {a0 : Nat} {x1 : Int32} {x2 : Int32} {x3 : Int32} {x4 : Int32} {h : jH} {q : Int32 × jH}, F_X12_lets_48 n k a0 x1 x2 x3 x4 h = some q → q.2.1 = h.1 := by
  induction k with
  | zero =>
    intro a0 x1 x2 x3 x4 h q hf
    cases hf
  | succ k ih =>
    intro a0 x1 x2 x3 x4 h q hf
    replace hf : F_X12_lets_48_b n (F_X12_lets_48 n k) a0 x1 x2 x3 x4 h = some q := hf
    unfold F_X12_lets_48_b at hf
    obtain ⟨v51, e1, hf⟩ := jbind hf
    replace e1 := (jcv_o e1).2
    replace hf := jite hf
    rcases hf with ⟨-, hf⟩ | ⟨-, hf⟩
    · obtain ⟨v75, e2, hf⟩ := jbind hf
      replace e2 := (jcv_o e2).2
      replace hf := jite hf
      rcases hf with ⟨-, hf⟩ | ⟨-, hf⟩
      · cases hf
      · obtain ⟨v83, e3, hf⟩ := jbind hf
        replace e3 := (jcv_o e3).2
        replace hf := jite hf
        rcases hf with ⟨-, hf⟩ | ⟨-, hf⟩
        · cases hf
        · replace hf := jite hf
          rcases hf with ⟨-, hf⟩ | ⟨-, hf⟩
          · exact (FZ_X12_lets_103 hf)
          · exact (FZ_X12_lets_103 hf)
    · obtain ⟨v62, e4, hf⟩ := jbind hf
      replace e4 := (jcv_o e4).2
      exact (ih  hf)
theorem FZ_X12_lets_34 {n : Nat} {a0 : Nat} {x1 : Int32} {x2 : Int32} {sa0 : Nat} {s1 : Int32} {h : jH} {q : Int32 × jH} (hf : F_X12_lets_34 n a0 x1 x2 sa0 s1 h = some q) : q.2.1 = h.1 := by
  unfold F_X12_lets_34 at hf
  obtain ⟨q35, e1, hf⟩ := jbind hf
  replace e1 := (jcv_o e1).2
  have f1 : q35.2.1 = h.1 := (FZ_X12_throwsIf e1)
  replace hf := jite hf
  rcases hf with ⟨-, hf⟩ | ⟨-, hf⟩
  · exact ((FZ_X12_lets_48 hf).trans f1)
  · cases hf
    exact f1
theorem FZ_X12_lets {n : Nat} {a0 : Nat} {x1 : Int32} {x2 : Int32} {h : jH} {q : Int32 × jH} (hf : F_X12_lets n a0 x1 x2 h = some q) : q.2.1 = h.1 := by
  unfold F_X12_lets at hf
  obtain ⟨h2, e1, hf⟩ := jbind hf
  have f1 : h2.1 = h.1 := (oc_pf e1).2
  obtain ⟨v8, e2, hf⟩ := jbind hf
  replace e2 := (jcv_o e2).2
  obtain ⟨q12, e3, hf⟩ := jbind hf
  replace e3 := (jcv_o e3).2
  have f3 : q12.2.1 = h2.1 := (FZ_X12_throwsIf e3)
  replace hf := jite hf
  rcases hf with ⟨-, hf⟩ | ⟨-, hf⟩
  · obtain ⟨v23, e4, hf⟩ := jbind hf
    replace hf := jite hf
    rcases hf with ⟨-, hf⟩ | ⟨-, hf⟩
    · exact ((FZ_X12_lets_34 hf).trans (f3.trans f1))
    · exact ((FZ_X12_lets_34 hf).trans (f3.trans f1))
  · cases hf
    exact (f3.trans f1)
theorem FZ_X12_rests_42 {n : Nat} {rc34 : Nat → Int32 → Int32 → Int32 → jH → Option (Int32 × jH)} (hrc34 : ∀ {z0 : Nat} {z1 : Int32} {z2 : Int32} {z3 : Int32} {h : jH} {q : Int32 × jH}, rc34 z0 z1 z2 z3 h = some q → q.2.1 = h.1) {k : Nat} : ∀ {a0 : Nat} {x1 : Int32} {x2 : Int32} {x3 : Int32} {x4 : Int32} {h : jH} {q : Int32 × jH}, F_X12_rests_42 n rc34 k a0 x1 x2 x3 x4 h = some q → q.2.1 = h.1 := by
  induction k with
  | zero =>
    intro a0 x1 x2 x3 x4 h q hf
    cases hf
  | succ k ih =>
    intro a0 x1 x2 x3 x4 h q hf
    replace hf : F_X12_rests_42_b n rc34 (F_X12_rests_42 n rc34 k) a0 x1 x2 x3 x4 h = some q := hf
    unfold F_X12_rests_42_b at hf
    replace hf := jite hf
    rcases hf with ⟨-, hf⟩ | ⟨-, hf⟩
    · exact (hrc34  hf)
    · obtain ⟨v54, e1, hf⟩ := jbind hf
      replace e1 := (jcv_o e1).2
      obtain ⟨v64, e2, hf⟩ := jbind hf
      replace e2 := (jcv_o e2).2
      replace hf := jite hf
      rcases hf with ⟨-, hf⟩ | ⟨-, hf⟩
      · exact (ih  hf)
      · obtain ⟨v75, e3, hf⟩ := jbind hf
        replace e3 := (jcv_o e3).2
        obtain ⟨v85, e4, hf⟩ := jbind hf
        replace e4 := (jcv_o e4).2
        replace hf := jite hf
        rcases hf with ⟨-, hf⟩ | ⟨-, hf⟩
        · exact (ih  hf)
        · exact (ih  hf)
theorem FZ_X12_rests_34 {n : Nat} {k : Nat} : ∀ {a0 : Nat} {x1 : Int32} {x2 : Int32} {x3 : Int32} {h : jH} {q : Int32 × jH}, F_X12_rests_34 n k a0 x1 x2 x3 h = some q → q.2.1 = h.1 := by
  induction k with
  | zero =>
    intro a0 x1 x2 x3 h q hf
    cases hf
  | succ k ih =>
    intro a0 x1 x2 x3 h q hf
    replace hf : F_X12_rests_34_b n (F_X12_rests_34 n k) a0 x1 x2 x3 h = some q := hf
    unfold F_X12_rests_34_b at hf
    replace hf := jite hf
    rcases hf with ⟨-, hf⟩ | ⟨-, hf⟩
    · cases hf
      exact rfl
    · exact (FZ_X12_rests_42 ih hf)
theorem FZ_X12_rests {n : Nat} {a0 : Nat} {x1 : Int32} {h : jH} {q : Int32 × jH} (hf : F_X12_rests n a0 x1 h = some q) : q.2.1 = h.1 := by
  unfold F_X12_rests at hf
  obtain ⟨h2, e1, hf⟩ := jbind hf
  have f1 : h2.1 = h.1 := (oc_pf e1).2
  obtain ⟨v8, e2, hf⟩ := jbind hf
  replace e2 := (jcv_o e2).2
  obtain ⟨q12, e3, hf⟩ := jbind hf
  replace e3 := (jcv_o e3).2
  have f3 : q12.2.1 = h2.1 := (FZ_X12_throwsIf e3)
  replace hf := jite hf
  rcases hf with ⟨-, hf⟩ | ⟨-, hf⟩
  · obtain ⟨v22, e4, hf⟩ := jbind hf
    replace e4 := (jcv_o e4).2
    replace hf := jite hf
    rcases hf with ⟨-, hf⟩ | ⟨-, hf⟩
    · cases hf
      exact (f3.trans f1)
    · exact ((FZ_X12_rests_34 hf).trans (f3.trans f1))
  · cases hf
    exact (f3.trans f1)
theorem FZ_X12_odds_65 {n : Nat} {k : Nat} : ∀ {x2 : Int32} {x3 : Int32} {x4 : Int32} {x5 : Int32} {h : jH} {q : Int32 × jH}, F_X12_odds_65 n k x2 x3 x4 x5 h = some q → q.2.1 = h.1 := by
  induction k with
  | zero =>
    intro x2 x3 x4 x5 h q hf
    cases hf
  | succ k ih =>
    intro x2 x3 x4 x5 h q hf
    replace hf : F_X12_odds_65_b n (F_X12_odds_65 n k) x2 x3 x4 x5 h = some q := hf
    unfold F_X12_odds_65_b at hf
    replace hf := jite hf
    rcases hf with ⟨-, hf⟩ | ⟨-, hf⟩
    · cases hf
      exact rfl
    · exact (ih  hf)
theorem FZ_X12_odds_33 {n : Nat} {a0 : Nat} {x1 : Int32} {x2 : Int32} {sa0 : Nat} {s1 : Int32} {h : jH} {q : Int32 × jH} (hf : F_X12_odds_33 n a0 x1 x2 sa0 s1 h = some q) : q.2.1 = h.1 := by
  unfold F_X12_odds_33 at hf
  obtain ⟨q34, e1, hf⟩ := jbind hf
  replace e1 := (jcv_o e1).2
  have f1 : q34.2.1 = h.1 := (FZ_X12_throwsIf e1)
  replace hf := jite hf
  rcases hf with ⟨-, hf⟩ | ⟨-, hf⟩
  · obtain ⟨q49, e2, hf⟩ := jbind hf
    replace e2 := (jcv_o e2).2
    have f2 : q49.2.1 = q34.2.1 := (FZ_X12_byLaw e2)
    exact ((FZ_X12_odds_65 hf).trans (f2.trans f1))
  · cases hf
    exact f1
theorem FZ_X12_odds {n : Nat} {a0 : Nat} {x1 : Int32} {x2 : Int32} {h : jH} {q : Int32 × jH} (hf : F_X12_odds n a0 x1 x2 h = some q) : q.2.1 = h.1 := by
  unfold F_X12_odds at hf
  obtain ⟨h2, e1, hf⟩ := jbind hf
  have f1 : h2.1 = h.1 := (oc_pf e1).2
  obtain ⟨v8, e2, hf⟩ := jbind hf
  replace e2 := (jcv_o e2).2
  obtain ⟨q12, e3, hf⟩ := jbind hf
  replace e3 := (jcv_o e3).2
  have f3 : q12.2.1 = h2.1 := (FZ_X12_throwsIf e3)
  replace hf := jite hf
  rcases hf with ⟨-, hf⟩ | ⟨-, hf⟩
  · obtain ⟨v22, e4, hf⟩ := jbind hf
    replace hf := jite hf
    rcases hf with ⟨-, hf⟩ | ⟨-, hf⟩
    · exact ((FZ_X12_odds_33 hf).trans (f3.trans f1))
    · exact ((FZ_X12_odds_33 hf).trans (f3.trans f1))
  · cases hf
    exact (f3.trans f1)
theorem FZ_X12_ahead {n : Nat} {a0 : Nat} {x1 : Int32} {x2 : Int32} {h : jH} {q : Int32 × jH} (hf : F_X12_ahead n a0 x1 x2 h = some q) : q.2.1 = h.1 := by
  unfold F_X12_ahead at hf
  obtain ⟨h2, e1, hf⟩ := jbind hf
  have f1 : h2.1 = h.1 := (oc_pf e1).2
  obtain ⟨v8, e2, hf⟩ := jbind hf
  replace e2 := (jcv_o e2).2
  obtain ⟨q12, e3, hf⟩ := jbind hf
  replace e3 := (jcv_o e3).2
  have f3 : q12.2.1 = h2.1 := (FZ_X12_throwsIf e3)
  replace hf := jite hf
  rcases hf with ⟨-, hf⟩ | ⟨-, hf⟩
  · obtain ⟨v20, e4, hf⟩ := jbind hf
    obtain ⟨q24, e5, hf⟩ := jbind hf
    replace e5 := (jcv_o e5).2
    have f5 : q24.2.1 = q12.2.1 := (FZ_X12_throwsIf e5)
    replace hf := jite hf
    rcases hf with ⟨-, hf⟩ | ⟨-, hf⟩
    · obtain ⟨h33, e6, hf⟩ := jbind hf
      replace e6 := (jcv_o e6).2
      have f6 : h33.1 = q24.2.1 := (FZ_X12_keepsAll e6)
      obtain ⟨q39, e7, hf⟩ := jbind hf
      replace e7 := (jcv_o e7).2
      have f7 : q39.2.1 = h33.1 := (FZ_X12_goesOn e7)
      obtain ⟨v46, e8, hf⟩ := jbind hf
      replace e8 := (jcv_o e8).2
      obtain ⟨h51, e9, hf⟩ := jbind hf
      replace e9 := (jcv_o e9).2
      have f9 : h51.1 = q39.2.1 := (FZ_X12_bringsBack e9)
      cases hf
      exact (f9.trans (f7.trans (f6.trans (f5.trans (f3.trans f1)))))
    · cases hf
      exact (f5.trans (f3.trans f1))
  · cases hf
    exact (f3.trans f1)
theorem FZ_X12_trial_47 {n : Nat} {a0 : Nat} {s0 : Int32} {h : jH} {q : Int32 × jH} (hf : F_X12_trial_47 n a0 s0 h = some q) : q.2.1 = h.1 := by
  unfold F_X12_trial_47 at hf
  obtain ⟨h49, e1, hf⟩ := jbind hf
  replace e1 := (jcv_o e1).2
  have f1 : h49.1 = h.1 := (FZ_X12_bringsBack e1)
  cases hf
  exact f1
theorem FZ_X12_trial {n : Nat} {a0 : Nat} {x1 : Int32} {x2 : Int32} {h : jH} {q : Int32 × jH} (hf : F_X12_trial n a0 x1 x2 h = some q) : q.2.1 = h.1 := by
  unfold F_X12_trial at hf
  obtain ⟨h2, e1, hf⟩ := jbind hf
  have f1 : h2.1 = h.1 := (oc_pf e1).2
  obtain ⟨v7, e2, hf⟩ := jbind hf
  obtain ⟨q11, e3, hf⟩ := jbind hf
  replace e3 := (jcv_o e3).2
  have f3 : q11.2.1 = h2.1 := (FZ_X12_throwsIf e3)
  replace hf := jite hf
  rcases hf with ⟨-, hf⟩ | ⟨-, hf⟩
  · obtain ⟨h20, e4, hf⟩ := jbind hf
    replace e4 := (jcv_o e4).2
    have f4 : h20.1 = q11.2.1 := (FZ_X12_keepsAll e4)
    obtain ⟨q26, e5, hf⟩ := jbind hf
    replace e5 := (jcv_o e5).2
    have f5 : q26.2.1 = h20.1 := (FZ_X12_goesOn e5)
    replace hf := jite hf
    rcases hf with ⟨-, hf⟩ | ⟨-, hf⟩
    · obtain ⟨v44, e6, hf⟩ := jbind hf
      replace e6 := (jcv_o e6).2
      exact ((FZ_X12_trial_47 hf).trans (f5.trans (f4.trans (f3.trans f1))))
    · obtain ⟨v35, e7, hf⟩ := jbind hf
      replace e7 := (jcv_o e7).2
      exact ((FZ_X12_trial_47 hf).trans (f5.trans (f4.trans (f3.trans f1))))
  · cases hf
    exact (f3.trans f1)
theorem FZ_X12_span_28 {n : Nat} {k : Nat} : ∀ {a0 : Nat} {x1 : Int32} {x2 : Int32} {x3 : Int32} {x4 : Int32} {h : jH} {q : Int32 × jH}, F_X12_span_28 n k a0 x1 x2 x3 x4 h = some q → q.2.1 = h.1 := by
  induction k with
  | zero =>
    intro a0 x1 x2 x3 x4 h q hf
    cases hf
  | succ k ih =>
    intro a0 x1 x2 x3 x4 h q hf
    replace hf : F_X12_span_28_b n (F_X12_span_28 n k) a0 x1 x2 x3 x4 h = some q := hf
    unfold F_X12_span_28_b at hf
    replace hf := jite hf
    rcases hf with ⟨-, hf⟩ | ⟨-, hf⟩
    · cases hf
      exact rfl
    · obtain ⟨p36, e1, hf⟩ := jbind hf
      obtain ⟨h43, e2, hf⟩ := jbind hf
      have f2 : h43.1 = h.1 := (oc_as e2).2.1
      obtain ⟨q47, e3, hf⟩ := jbind hf
      replace e3 := (jcv_o e3).2
      have f3 : q47.2.1 = h43.1 := (FZ_X12_goesOn e3)
      obtain ⟨v54, e4, hf⟩ := jbind hf
      replace e4 := (jcv_o e4).2
      obtain ⟨v57, e5, hf⟩ := jbind hf
      obtain ⟨v61, e6, hf⟩ := jbind hf
      replace e6 := (jcv_o e6).2
      obtain ⟨v64, e7, hf⟩ := jbind hf
      obtain ⟨h71, e8, hf⟩ := jbind hf
      replace e8 := (jcv_o e8).2
      have f8 : h71.1 = q47.2.1 := (FZ_X12_bringsBack e8)
      replace hf := jite hf
      rcases hf with ⟨-, hf⟩ | ⟨-, hf⟩
      · replace hf := jite hf
        rcases hf with ⟨-, hf⟩ | ⟨-, hf⟩
        · exact ((ih  hf).trans (f8.trans (f3.trans f2)))
        · exact ((ih  hf).trans (f8.trans (f3.trans f2)))
      · exact ((ih  hf).trans (f8.trans (f3.trans f2)))
theorem FZ_X12_span {n : Nat} {a0 : Nat} {x1 : Int32} {x2 : Int32} {h : jH} {q : Int32 × jH} (hf : F_X12_span n a0 x1 x2 h = some q) : q.2.1 = h.1 := by
  unfold F_X12_span at hf
  obtain ⟨h2, e1, hf⟩ := jbind hf
  have f1 : h2.1 = h.1 := (oc_pf e1).2
  obtain ⟨v7, e2, hf⟩ := jbind hf
  obtain ⟨q11, e3, hf⟩ := jbind hf
  replace e3 := (jcv_o e3).2
  have f3 : q11.2.1 = h2.1 := (FZ_X12_throwsIf e3)
  replace hf := jite hf
  rcases hf with ⟨-, hf⟩ | ⟨-, hf⟩
  · obtain ⟨h20, e4, hf⟩ := jbind hf
    replace e4 := (jcv_o e4).2
    have f4 : h20.1 = q11.2.1 := (FZ_X12_keepsAll e4)
    exact ((FZ_X12_span_28 hf).trans (f4.trans (f3.trans f1)))
  · cases hf
    exact (f3.trans f1)
theorem FZ_X12_led_36 {n : Nat} {k : Nat} : ∀ {a0 : Nat} {x1 : Int32} {x2 : Int32} {x3 : Int32} {x4 : Int32} {x5 : Int32} {h : jH} {q : Int32 × jH}, F_X12_led_36 n k a0 x1 x2 x3 x4 x5 h = some q → q.2.1 = h.1 := by
  induction k with
  | zero =>
    intro a0 x1 x2 x3 x4 x5 h q hf
    cases hf
  | succ k ih =>
    intro a0 x1 x2 x3 x4 x5 h q hf
    replace hf : F_X12_led_36_b n (F_X12_led_36 n k) a0 x1 x2 x3 x4 x5 h = some q := hf
    unfold F_X12_led_36_b at hf
    replace hf := jite hf
    rcases hf with ⟨-, hf⟩ | ⟨-, hf⟩
    · replace hf := jite hf
      rcases hf with ⟨-, hf⟩ | ⟨-, hf⟩
      · cases hf
        exact rfl
      · cases hf
        exact rfl
    · obtain ⟨v45, e1, hf⟩ := jbind hf
      replace e1 := (jcv_o e1).2
      replace hf := jite hf
      rcases hf with ⟨-, hf⟩ | ⟨-, hf⟩
      · obtain ⟨v62, e2, hf⟩ := jbind hf
        replace e2 := (jcv_o e2).2
        exact (ih  hf)
      · exact (ih  hf)
theorem FZ_X12_led {n : Nat} {a0 : Nat} {x1 : Int32} {x2 : Int32} {h : jH} {q : Int32 × jH} (hf : F_X12_led n a0 x1 x2 h = some q) : q.2.1 = h.1 := by
  unfold F_X12_led at hf
  obtain ⟨h2, e1, hf⟩ := jbind hf
  have f1 : h2.1 = h.1 := (oc_pf e1).2
  obtain ⟨v8, e2, hf⟩ := jbind hf
  replace e2 := (jcv_o e2).2
  obtain ⟨q12, e3, hf⟩ := jbind hf
  replace e3 := (jcv_o e3).2
  have f3 : q12.2.1 = h2.1 := (FZ_X12_throwsIf e3)
  replace hf := jite hf
  rcases hf with ⟨-, hf⟩ | ⟨-, hf⟩
  · obtain ⟨p26, e4, hf⟩ := jbind hf
    obtain ⟨v31, e5, hf⟩ := jbind hf
    exact ((FZ_X12_led_36 hf).trans (f3.trans f1))
  · cases hf
    exact (f3.trans f1)
theorem FZ_X12_log_20 {n : Nat} {a0 : Nat} {x1 : Int32} {x2 : Int32} {sa0 : Nat} {s1 : Int32} {h : jH} {q : Int32 × jH} (hf : F_X12_log_20 n a0 x1 x2 sa0 s1 h = some q) : q.2.1 = h.1 := by
  unfold F_X12_log_20 at hf
  obtain ⟨q21, e1, hf⟩ := jbind hf
  replace e1 := (jcv_o e1).2
  have f1 : q21.2.1 = h.1 := (FZ_X12_throwsIf e1)
  replace hf := jite hf
  rcases hf with ⟨-, hf⟩ | ⟨-, hf⟩
  · obtain ⟨p32, e2, hf⟩ := jbind hf
    obtain ⟨v37, e3, hf⟩ := jbind hf
    obtain ⟨v40, e4, hf⟩ := jbind hf
    replace hf := jite hf
    rcases hf with ⟨-, hf⟩ | ⟨-, hf⟩
    · cases hf
      exact f1
    · obtain ⟨v49, e5, hf⟩ := jbind hf
      replace e5 := (jcv_o e5).2
      cases hf
      exact f1
  · cases hf
    exact f1
theorem FZ_X12_log {n : Nat} {a0 : Nat} {x1 : Int32} {x2 : Int32} {h : jH} {q : Int32 × jH} (hf : F_X12_log n a0 x1 x2 h = some q) : q.2.1 = h.1 := by
  unfold F_X12_log at hf
  obtain ⟨h2, e1, hf⟩ := jbind hf
  have f1 : h2.1 = h.1 := (oc_pf e1).2
  obtain ⟨v9, e2, hf⟩ := jbind hf
  replace hf := jite hf
  rcases hf with ⟨-, hf⟩ | ⟨-, hf⟩
  · exact ((FZ_X12_log_20 hf).trans f1)
  · exact ((FZ_X12_log_20 hf).trans f1)
theorem FZ_X12_best_113 {n : Nat} {rc14 : Nat → Int32 → Int32 → Int32 → jH → Option (Int32 × jH)} (hrc14 : ∀ {z0 : Nat} {z1 : Int32} {z2 : Int32} {z3 : Int32} {h : jH} {q : Int32 × jH}, rc14 z0 z1 z2 z3 h = some q → q.2.1 = h.1) {a0 : Nat} {x1 : Int32} {x2 : Int32} {x3 : Int32} {h : jH} {q : Int32 × jH} (hf : F_X12_best_113 n rc14 a0 x1 x2 x3 h = some q) : q.2.1 = h.1 := by
  unfold F_X12_best_113 at hf
  obtain ⟨h114, e1, hf⟩ := jbind hf
  replace e1 := (jcv_o e1).2
  have f1 : h114.1 = h.1 := (FZ_X12_bringsBack e1)
  exact ((hrc14  hf).trans f1)
theorem FZ_X12_best_99 {n : Nat} {rc14 : Nat → Int32 → Int32 → Int32 → jH → Option (Int32 × jH)} (hrc14 : ∀ {z0 : Nat} {z1 : Int32} {z2 : Int32} {z3 : Int32} {h : jH} {q : Int32 × jH}, rc14 z0 z1 z2 z3 h = some q → q.2.1 = h.1) {rc34 : Nat → Int32 → Int32 → Int32 → Int32 → Int32 → jH → Option (Int32 × jH)} (hrc34 : ∀ {z0 : Nat} {z1 : Int32} {z2 : Int32} {z3 : Int32} {z4 : Int32} {z5 : Int32} {h : jH} {q : Int32 × jH}, rc34 z0 z1 z2 z3 z4 z5 h = some q → q.2.1 = h.1) {a0 : Nat} {x2 : Int32} {x3 : Int32} {x4 : Int32} {x5 : Int32} {x6 : Int32} {s0 : Int32} {h : jH} {q : Int32 × jH} (hf : F_X12_best_99 n rc14 rc34 a0 x2 x3 x4 x5 x6 s0 h = some q) : q.2.1 = h.1 := by
  unfold F_X12_best_99 at hf
  exact (hrc34  hf)
theorem FZ_X12_best_62 {n : Nat} {rc14 : Nat → Int32 → Int32 → Int32 → jH → Option (Int32 × jH)} (hrc14 : ∀ {z0 : Nat} {z1 : Int32} {z2 : Int32} {z3 : Int32} {h : jH} {q : Int32 × jH}, rc14 z0 z1 z2 z3 h = some q → q.2.1 = h.1) {rc34 : Nat → Int32 → Int32 → Int32 → Int32 → Int32 → jH → Option (Int32 × jH)} (hrc34 : ∀ {z0 : Nat} {z1 : Int32} {z2 : Int32} {z3 : Int32} {z4 : Int32} {z5 : Int32} {h : jH} {q : Int32 × jH}, rc34 z0 z1 z2 z3 z4 z5 h = some q → q.2.1 = h.1) {a0 : Nat} {x1 : Int32} {x2 : Int32} {x3 : Int32} {x5 : Int32} {sa0 : Nat} {s1 : Int32} {s2 : Int32} {h : jH} {q : Int32 × jH} (hf : F_X12_best_62 n rc14 rc34 a0 x1 x2 x3 x5 sa0 s1 s2 h = some q) : q.2.1 = h.1 := by
  unfold F_X12_best_62 at hf
  obtain ⟨q62, e1, hf⟩ := jbind hf
  replace e1 := (jcv_o e1).2
  have f1 : q62.2.1 = h.1 := (FZ_X12_goesOne e1)
  replace hf := jite hf
  rcases hf with ⟨-, hf⟩ | ⟨-, hf⟩
  · replace hf := jite hf
    rcases hf with ⟨-, hf⟩ | ⟨-, hf⟩
    · exact ((FZ_X12_best_99 hrc14 hrc34 hf).trans f1)
    · exact ((FZ_X12_best_99 hrc14 hrc34 hf).trans f1)
  · obtain ⟨v73, e2, hf⟩ := jbind hf
    replace e2 := (jcv_o e2).2
    replace hf := jite hf
    rcases hf with ⟨-, hf⟩ | ⟨-, hf⟩
    · exact ((FZ_X12_best_99 hrc14 hrc34 hf).trans f1)
    · exact ((FZ_X12_best_99 hrc14 hrc34 hf).trans f1)
theorem FZ_X12_best_34 {n : Nat} {rc14 : Nat → Int32 → Int32 → Int32 → jH → Option (Int32 × jH)} (hrc14 : ∀ {z0 : Nat} {z1 : Int32} {z2 : Int32} {z3 : Int32} {h : jH} {q : Int32 × jH}, rc14 z0 z1 z2 z3 h = some q → q.2.1 = h.1) {k : Nat} : ∀ {a0 : Nat} {x1 : Int32} {x2 : Int32} {x3 : Int32} {x4 : Int32} {x5 : Int32} {h : jH} {q : Int32 × jH}, F_X12_best_34 n rc14 k a0 x1 x2 x3 x4 x5 h = some q → q.2.1 = h.1 := by
  induction k with
  | zero =>
    intro a0 x1 x2 x3 x4 x5 h q hf
    cases hf
  | succ k ih =>
    intro a0 x1 x2 x3 x4 x5 h q hf
    replace hf : F_X12_best_34_b n rc14 (F_X12_best_34 n rc14 k) a0 x1 x2 x3 x4 x5 h = some q := hf
    unfold F_X12_best_34_b at hf
    replace hf := jite hf
    rcases hf with ⟨-, hf⟩ | ⟨-, hf⟩
    · exact (FZ_X12_best_113 hrc14 hf)
    · replace hf := jite hf
      rcases hf with ⟨-, hf⟩ | ⟨-, hf⟩
      · exact (FZ_X12_best_113 hrc14 hf)
      · replace hf := jite hf
        rcases hf with ⟨-, hf⟩ | ⟨-, hf⟩
        · exact (FZ_X12_best_62 hrc14 ih hf)
        · exact (FZ_X12_best_62 hrc14 ih hf)
theorem FZ_X12_best_14 {n : Nat} {k : Nat} : ∀ {a0 : Nat} {x1 : Int32} {x2 : Int32} {x3 : Int32} {h : jH} {q : Int32 × jH}, F_X12_best_14 n k a0 x1 x2 x3 h = some q → q.2.1 = h.1 := by
  induction k with
  | zero =>
    intro a0 x1 x2 x3 h q hf
    cases hf
  | succ k ih =>
    intro a0 x1 x2 x3 h q hf
    replace hf : F_X12_best_14_b n (F_X12_best_14 n k) a0 x1 x2 x3 h = some q := hf
    unfold F_X12_best_14_b at hf
    obtain ⟨v17, e1, hf⟩ := jbind hf
    replace e1 := (jcv_o e1).2
    replace hf := jite hf
    rcases hf with ⟨-, hf⟩ | ⟨-, hf⟩
    · cases hf
      exact rfl
    · obtain ⟨h28, e2, hf⟩ := jbind hf
      replace e2 := (jcv_o e2).2
      have f2 : h28.1 = h.1 := (FZ_X12_keepsAll e2)
      exact ((FZ_X12_best_34 ih hf).trans f2)
theorem FZ_X12_best {n : Nat} {a0 : Nat} {h : jH} {q : Int32 × jH} (hf : F_X12_best n a0 h = some q) : q.2.1 = h.1 := by
  unfold F_X12_best at hf
  obtain ⟨h2, e1, hf⟩ := jbind hf
  have f1 : h2.1 = h.1 := (oc_pf e1).2
  obtain ⟨v8, e2, hf⟩ := jbind hf
  replace e2 := (jcv_o e2).2
  exact ((FZ_X12_best_14 hf).trans f1)
theorem FZ_X12_stepsTo_72 {n : Nat} {a0 : Nat} {x4 : Int32} {h : jH} {q : Int32 × jH} (hf : F_X12_stepsTo_72 n a0 x4 h = some q) : q.2.1 = h.1 := by
  unfold F_X12_stepsTo_72 at hf
  obtain ⟨h73, e1, hf⟩ := jbind hf
  replace e1 := (jcv_o e1).2
  have f1 : h73.1 = h.1 := (FZ_X12_bringsBack e1)
  cases hf
  exact f1
theorem FZ_X12_stepsTo_15 {n : Nat} {k : Nat} : ∀ {a0 : Nat} {x1 : Int32} {x2 : Int32} {x3 : Int32} {x4 : Int32} {x5 : Int32} {x6 : Int32} {h : jH} {q : Int32 × jH}, F_X12_stepsTo_15 n k a0 x1 x2 x3 x4 x5 x6 h = some q → q.2.1 = h.1 := by
  induction k with
  | zero =>
    intro a0 x1 x2 x3 x4 x5 x6 h q hf
    cases hf
  | succ k ih =>
    intro a0 x1 x2 x3 x4 x5 x6 h q hf
    replace hf : F_X12_stepsTo_15_b n (F_X12_stepsTo_15 n k) a0 x1 x2 x3 x4 x5 x6 h = some q := hf
    unfold F_X12_stepsTo_15_b at hf
    replace hf := jite hf
    rcases hf with ⟨-, hf⟩ | ⟨-, hf⟩
    · exact (FZ_X12_stepsTo_72 hf)
    · replace hf := jite hf
      rcases hf with ⟨-, hf⟩ | ⟨-, hf⟩
      · exact (FZ_X12_stepsTo_72 hf)
      · replace hf := jite hf
        rcases hf with ⟨-, hf⟩ | ⟨-, hf⟩
        · obtain ⟨q38, e1, hf⟩ := jbind hf
          replace e1 := (jcv_o e1).2
          have f1 : q38.2.1 = h.1 := (FZ_X12_goesOne e1)
          replace hf := jite hf
          rcases hf with ⟨-, hf⟩ | ⟨-, hf⟩
          · exact ((ih  hf).trans f1)
          · obtain ⟨v50, e2, hf⟩ := jbind hf
            replace e2 := (jcv_o e2).2
            replace hf := jite hf
            rcases hf with ⟨-, hf⟩ | ⟨-, hf⟩
            · exact ((ih  hf).trans f1)
            · exact ((ih  hf).trans f1)
        · exact (FZ_X12_stepsTo_72 hf)
theorem FZ_X12_stepsTo {n : Nat} {a0 : Nat} {x1 : Int32} {x2 : Int32} {x3 : Int32} {h : jH} {q : Int32 × jH} (hf : F_X12_stepsTo n a0 x1 x2 x3 h = some q) : q.2.1 = h.1 := by
  unfold F_X12_stepsTo at hf
  obtain ⟨h9, e1, hf⟩ := jbind hf
  replace e1 := (jcv_o e1).2
  have f1 : h9.1 = h.1 := (FZ_X12_keepsAll e1)
  exact ((FZ_X12_stepsTo_15 hf).trans f1)
theorem FZ_X12_fewestTo_58 {n : Nat} {rc10 : Nat → Int32 → Int32 → Int32 → Int32 → Int32 → jH → Option (Int32 × jH)} (hrc10 : ∀ {z0 : Nat} {z1 : Int32} {z2 : Int32} {z3 : Int32} {z4 : Int32} {z5 : Int32} {h : jH} {q : Int32 × jH}, rc10 z0 z1 z2 z3 z4 z5 h = some q → q.2.1 = h.1) {a0 : Nat} {x1 : Int32} {x2 : Int32} {x4 : Int32} {x5 : Int32} {x6 : Int32} {s0 : Int32} {h : jH} {q : Int32 × jH} (hf : F_X12_fewestTo_58 n rc10 a0 x1 x2 x4 x5 x6 s0 h = some q) : q.2.1 = h.1 := by
  unfold F_X12_fewestTo_58 at hf
  exact (hrc10  hf)
theorem FZ_X12_fewestTo_40 {n : Nat} {rc10 : Nat → Int32 → Int32 → Int32 → Int32 → Int32 → jH → Option (Int32 × jH)} (hrc10 : ∀ {z0 : Nat} {z1 : Int32} {z2 : Int32} {z3 : Int32} {z4 : Int32} {z5 : Int32} {h : jH} {q : Int32 × jH}, rc10 z0 z1 z2 z3 z4 z5 h = some q → q.2.1 = h.1) {a0 : Nat} {x1 : Int32} {x2 : Int32} {x3 : Int32} {x4 : Int32} {x5 : Int32} {sa0 : Nat} {s1 : Int32} {s2 : Int32} {s3 : Int32} {h : jH} {q : Int32 × jH} (hf : F_X12_fewestTo_40 n rc10 a0 x1 x2 x3 x4 x5 sa0 s1 s2 s3 h = some q) : q.2.1 = h.1 := by
  unfold F_X12_fewestTo_40 at hf
  obtain ⟨q40, e1, hf⟩ := jbind hf
  replace e1 := (jcv_o e1).2
  have f1 : q40.2.1 = h.1 := (FZ_X12_stepsTo e1)
  replace hf := jite hf
  rcases hf with ⟨-, hf⟩ | ⟨-, hf⟩
  · exact ((FZ_X12_fewestTo_58 hrc10 hf).trans f1)
  · exact ((FZ_X12_fewestTo_58 hrc10 hf).trans f1)
theorem FZ_X12_fewestTo_10 {n : Nat} {k : Nat} : ∀ {a0 : Nat} {x1 : Int32} {x2 : Int32} {x3 : Int32} {x4 : Int32} {x5 : Int32} {h : jH} {q : Int32 × jH}, F_X12_fewestTo_10 n k a0 x1 x2 x3 x4 x5 h = some q → q.2.1 = h.1 := by
  induction k with
  | zero =>
    intro a0 x1 x2 x3 x4 x5 h q hf
    cases hf
  | succ k ih =>
    intro a0 x1 x2 x3 x4 x5 h q hf
    replace hf : F_X12_fewestTo_10_b n (F_X12_fewestTo_10 n k) a0 x1 x2 x3 x4 x5 h = some q := hf
    unfold F_X12_fewestTo_10_b at hf
    obtain ⟨v14, e1, hf⟩ := jbind hf
    replace e1 := (jcv_o e1).2
    replace hf := jite hf
    rcases hf with ⟨-, hf⟩ | ⟨-, hf⟩
    · replace hf := jite hf
      rcases hf with ⟨-, hf⟩ | ⟨-, hf⟩
      · replace hf := jite hf
        rcases hf with ⟨-, hf⟩ | ⟨-, hf⟩
        · cases hf
          exact rfl
        · cases hf
          exact rfl
      · cases hf
        exact rfl
    · replace hf := jite hf
      rcases hf with ⟨-, hf⟩ | ⟨-, hf⟩
      · exact (FZ_X12_fewestTo_40 ih hf)
      · exact (FZ_X12_fewestTo_40 ih hf)
theorem FZ_X12_fewestTo {n : Nat} {a0 : Nat} {x1 : Int32} {x2 : Int32} {h : jH} {q : Int32 × jH} (hf : F_X12_fewestTo n a0 x1 x2 h = some q) : q.2.1 = h.1 := by
  unfold F_X12_fewestTo at hf
  exact (FZ_X12_fewestTo_10 hf)
theorem FZ_X12_fewest {n : Nat} {a0 : Nat} {x1 : Int32} {h : jH} {q : Int32 × jH} (hf : F_X12_fewest n a0 x1 h = some q) : q.2.1 = h.1 := by
  unfold F_X12_fewest at hf
  obtain ⟨h2, e1, hf⟩ := jbind hf
  have f1 : h2.1 = h.1 := (oc_pf e1).2
  obtain ⟨v7, e2, hf⟩ := jbind hf
  replace e2 := (jcv_o e2).2
  replace hf := jite hf
  rcases hf with ⟨-, hf⟩ | ⟨-, hf⟩
  · obtain ⟨q20, e3, hf⟩ := jbind hf
    replace e3 := (jcv_o e3).2
    have f3 : q20.2.1 = h2.1 := (FZ_X12_fewestTo e3)
    cases hf
    exact (f3.trans f1)
  · cases hf
    exact f1
theorem FZ_X12_first {n : Nat} {a0 : Nat} {x1 : Int32} {h : jH} {q : Int32 × jH} (hf : F_X12_first n a0 x1 h = some q) : q.2.1 = h.1 := by
  unfold F_X12_first at hf
  obtain ⟨h2, e1, hf⟩ := jbind hf
  have f1 : h2.1 = h.1 := (oc_pf e1).2
  obtain ⟨v7, e2, hf⟩ := jbind hf
  replace e2 := (jcv_o e2).2
  replace hf := jite hf
  rcases hf with ⟨-, hf⟩ | ⟨-, hf⟩
  · obtain ⟨q20, e3, hf⟩ := jbind hf
    replace e3 := (jcv_o e3).2
    have f3 : q20.2.1 = h2.1 := (FZ_X12_fewestTo e3)
    cases hf
    exact (f3.trans f1)
  · cases hf
    exact f1
theorem FZ_X12_pale_49 {n : Nat} {a0 : Nat} {x1 : Int32} {h : jH} {q : Int32 × jH} (hf : F_X12_pale_49 n a0 x1 h = some q) : q.2.1 = h.1 := by
  unfold F_X12_pale_49 at hf
  obtain ⟨h50, e1, hf⟩ := jbind hf
  replace e1 := (jcv_o e1).2
  have f1 : h50.1 = h.1 := (FZ_X12_bringsBack e1)
  cases hf
  exact f1
theorem FZ_X12_pale_36 {n : Nat} {rc13 : Nat → Int32 → Int32 → jH → Option (Int32 × jH)} (hrc13 : ∀ {z0 : Nat} {z1 : Int32} {z2 : Int32} {h : jH} {q : Int32 × jH}, rc13 z0 z1 z2 h = some q → q.2.1 = h.1) {a0 : Nat} {x2 : Int32} {s0 : Int32} {h : jH} {q : Int32 × jH} (hf : F_X12_pale_36 n rc13 a0 x2 s0 h = some q) : q.2.1 = h.1 := by
  unfold F_X12_pale_36 at hf
  obtain ⟨q39, e1, hf⟩ := jbind hf
  replace e1 := (jcv_o e1).2
  have f1 : q39.2.1 = h.1 := (FZ_X12_oneHour e1)
  exact ((hrc13  hf).trans f1)
theorem FZ_X12_pale_13 {n : Nat} {k : Nat} : ∀ {a0 : Nat} {x1 : Int32} {x2 : Int32} {h : jH} {q : Int32 × jH}, F_X12_pale_13 n k a0 x1 x2 h = some q → q.2.1 = h.1 := by
  induction k with
  | zero =>
    intro a0 x1 x2 h q hf
    cases hf
  | succ k ih =>
    intro a0 x1 x2 h q hf
    replace hf : F_X12_pale_13_b n (F_X12_pale_13 n k) a0 x1 x2 h = some q := hf
    unfold F_X12_pale_13_b at hf
    replace hf := jite hf
    rcases hf with ⟨-, hf⟩ | ⟨-, hf⟩
    · exact (FZ_X12_pale_49 hf)
    · replace hf := jite hf
      rcases hf with ⟨-, hf⟩ | ⟨-, hf⟩
      · obtain ⟨v25, e1, hf⟩ := jbind hf
        replace e1 := (jcv_o e1).2
        replace hf := jite hf
        rcases hf with ⟨-, hf⟩ | ⟨-, hf⟩
        · exact (FZ_X12_pale_36 ih hf)
        · exact (FZ_X12_pale_36 ih hf)
      · exact (FZ_X12_pale_49 hf)
theorem FZ_X12_pale {n : Nat} {a0 : Nat} {h : jH} {q : Int32 × jH} (hf : F_X12_pale n a0 h = some q) : q.2.1 = h.1 := by
  unfold F_X12_pale at hf
  obtain ⟨h2, e1, hf⟩ := jbind hf
  have f1 : h2.1 = h.1 := (oc_pf e1).2
  obtain ⟨h8, e2, hf⟩ := jbind hf
  replace e2 := (jcv_o e2).2
  have f2 : h8.1 = h2.1 := (FZ_X12_keepsAll e2)
  exact ((FZ_X12_pale_13 hf).trans (f2.trans f1))
theorem FZ_X12_fault {n : Nat} {a0 : Nat} {h : jH} {q : Int32 × jH} (hf : F_X12_fault n a0 h = some q) : q.2.1 = h.1 := by
  unfold F_X12_fault at hf
  obtain ⟨h2, e1, hf⟩ := jbind hf
  have f1 : h2.1 = h.1 := (oc_pf e1).2
  obtain ⟨v6, e2, hf⟩ := jbind hf
  cases hf
  exact f1
theorem FZ_X12_shade {n : Nat} {a0 : Nat} {h : jH} {q : Int32 × jH} (hf : F_X12_shade n a0 h = some q) : q.2.1 = h.1 := by
  unfold F_X12_shade at hf
  obtain ⟨h2, e1, hf⟩ := jbind hf
  have f1 : h2.1 = h.1 := (oc_pf e1).2
  obtain ⟨v6, e2, hf⟩ := jbind hf
  replace e2 := (jcv_o e2).2
  cases hf
  exact f1
theorem FZ_X12_dark {n : Nat} {a0 : Nat} {h : jH} {q : Int32 × jH} (hf : F_X12_dark n a0 h = some q) : q.2.1 = h.1 := by
  unfold F_X12_dark at hf
  obtain ⟨h2, e1, hf⟩ := jbind hf
  have f1 : h2.1 = h.1 := (oc_pf e1).2
  obtain ⟨v6, e2, hf⟩ := jbind hf
  replace e2 := (jcv_o e2).2
  cases hf
  exact f1
theorem FZ_X12_bare {n : Nat} {a0 : Nat} {h : jH} {q : Int32 × jH} (hf : F_X12_bare n a0 h = some q) : q.2.1 = h.1 := by
  unfold F_X12_bare at hf
  obtain ⟨h2, e1, hf⟩ := jbind hf
  have f1 : h2.1 = h.1 := (oc_pf e1).2
  obtain ⟨p6, e2, hf⟩ := jbind hf
  obtain ⟨v11, e3, hf⟩ := jbind hf
  obtain ⟨v13, e4, hf⟩ := jbind hf
  replace e4 := (jcv_o e4).2
  cases hf
  exact f1
theorem FZ_X12_order_26 {n : Nat} {rc9 : Nat → Int32 → Int32 → jH → Option (Int32 × jH)} (hrc9 : ∀ {z0 : Nat} {z1 : Int32} {z2 : Int32} {h : jH} {q : Int32 × jH}, rc9 z0 z1 z2 h = some q → q.2.1 = h.1) {k : Nat} : ∀ {a0 : Nat} {x1 : Int32} {x2 : Int32} {x3 : Int32} {h : jH} {q : Int32 × jH}, F_X12_order_26 n rc9 k a0 x1 x2 x3 h = some q → q.2.1 = h.1 := by
  induction k with
  | zero =>
    intro a0 x1 x2 x3 h q hf
    cases hf
  | succ k ih =>
    intro a0 x1 x2 x3 h q hf
    replace hf : F_X12_order_26_b n rc9 (F_X12_order_26 n rc9 k) a0 x1 x2 x3 h = some q := hf
    unfold F_X12_order_26_b at hf
    replace hf := jite hf
    rcases hf with ⟨-, hf⟩ | ⟨-, hf⟩
    · obtain ⟨p86, e1, hf⟩ := jbind hf
      obtain ⟨v90, e2, hf⟩ := jbind hf
      exact (hrc9  hf)
    · obtain ⟨p32, e3, hf⟩ := jbind hf
      obtain ⟨v39, e4, hf⟩ := jbind hf
      replace e4 := (jcv_o e4).2
      obtain ⟨v45, e5, hf⟩ := jbind hf
      replace e5 := (jcv_o e5).2
      replace hf := jite hf
      rcases hf with ⟨-, hf⟩ | ⟨-, hf⟩
      · obtain ⟨p72, e6, hf⟩ := jbind hf
        obtain ⟨v76, e7, hf⟩ := jbind hf
        obtain ⟨h77, e8, hf⟩ := jbind hf
        have f8 : h77.1 = h.1 := (oc_as e8).2.1
        exact ((ih  hf).trans f8)
      · obtain ⟨p52, e9, hf⟩ := jbind hf
        obtain ⟨v56, e10, hf⟩ := jbind hf
        obtain ⟨p58, e11, hf⟩ := jbind hf
        obtain ⟨v62, e12, hf⟩ := jbind hf
        obtain ⟨h77, e13, hf⟩ := jbind hf
        have f13 : h77.1 = h.1 := (oc_as e13).2.1
        exact ((ih  hf).trans f13)
theorem FZ_X12_order_9 {n : Nat} {k : Nat} : ∀ {a0 : Nat} {x1 : Int32} {x2 : Int32} {h : jH} {q : Int32 × jH}, F_X12_order_9 n k a0 x1 x2 h = some q → q.2.1 = h.1 := by
  induction k with
  | zero =>
    intro a0 x1 x2 h q hf
    cases hf
  | succ k ih =>
    intro a0 x1 x2 h q hf
    replace hf : F_X12_order_9_b n (F_X12_order_9 n k) a0 x1 x2 h = some q := hf
    unfold F_X12_order_9_b at hf
    obtain ⟨v11, e1, hf⟩ := jbind hf
    replace e1 := (jcv_o e1).2
    replace hf := jite hf
    rcases hf with ⟨-, hf⟩ | ⟨-, hf⟩
    · obtain ⟨v102, e2, hf⟩ := jbind hf
      replace e2 := (jcv_o e2).2
      cases hf
      exact rfl
    · obtain ⟨p18, e3, hf⟩ := jbind hf
      obtain ⟨h23, e4, hf⟩ := jbind hf
      have f4 : h23.1 = h.1 := (oc_as e4).2.1
      exact ((FZ_X12_order_26 ih hf).trans f4)
theorem FZ_X12_order {n : Nat} {a0 : Nat} {h : jH} {q : Int32 × jH} (hf : F_X12_order n a0 h = some q) : q.2.1 = h.1 := by
  unfold F_X12_order at hf
  obtain ⟨h2, e1, hf⟩ := jbind hf
  have f1 : h2.1 = h.1 := (oc_pf e1).2
  exact ((FZ_X12_order_9 hf).trans f1)
theorem FZ_X12_slack_9 {n : Nat} {k : Nat} : ∀ {a0 : Nat} {x1 : Int32} {x2 : Int32} {h : jH} {q : Int32 × jH}, F_X12_slack_9 n k a0 x1 x2 h = some q → q.2.1 = h.1 := by
  induction k with
  | zero =>
    intro a0 x1 x2 h q hf
    cases hf
  | succ k ih =>
    intro a0 x1 x2 h q hf
    replace hf : F_X12_slack_9_b n (F_X12_slack_9 n k) a0 x1 x2 h = some q := hf
    unfold F_X12_slack_9_b at hf
    obtain ⟨v11, e1, hf⟩ := jbind hf
    replace e1 := (jcv_o e1).2
    replace hf := jite hf
    rcases hf with ⟨-, hf⟩ | ⟨-, hf⟩
    · cases hf
      exact rfl
    · obtain ⟨v21, e2, hf⟩ := jbind hf
      replace e2 := (jcv_o e2).2
      obtain ⟨v26, e3, hf⟩ := jbind hf
      replace e3 := (jcv_o e3).2
      exact (ih  hf)
theorem FZ_X12_slack {n : Nat} {a0 : Nat} {h : jH} {q : Int32 × jH} (hf : F_X12_slack n a0 h = some q) : q.2.1 = h.1 := by
  unfold F_X12_slack at hf
  obtain ⟨h2, e1, hf⟩ := jbind hf
  have f1 : h2.1 = h.1 := (oc_pf e1).2
  exact ((FZ_X12_slack_9 hf).trans f1)
theorem FZ_X12_taut_9 {n : Nat} {k : Nat} : ∀ {a0 : Nat} {x1 : Int32} {x2 : Int32} {h : jH} {q : Int32 × jH}, F_X12_taut_9 n k a0 x1 x2 h = some q → q.2.1 = h.1 := by
  induction k with
  | zero =>
    intro a0 x1 x2 h q hf
    cases hf
  | succ k ih =>
    intro a0 x1 x2 h q hf
    replace hf : F_X12_taut_9_b n (F_X12_taut_9 n k) a0 x1 x2 h = some q := hf
    unfold F_X12_taut_9_b at hf
    obtain ⟨v11, e1, hf⟩ := jbind hf
    replace e1 := (jcv_o e1).2
    replace hf := jite hf
    rcases hf with ⟨-, hf⟩ | ⟨-, hf⟩
    · cases hf
      exact rfl
    · obtain ⟨v20, e2, hf⟩ := jbind hf
      replace e2 := (jcv_o e2).2
      obtain ⟨v26, e3, hf⟩ := jbind hf
      replace e3 := (jcv_o e3).2
      replace hf := jite hf
      rcases hf with ⟨-, hf⟩ | ⟨-, hf⟩
      · exact (ih  hf)
      · exact (ih  hf)
theorem FZ_X12_taut {n : Nat} {a0 : Nat} {h : jH} {q : Int32 × jH} (hf : F_X12_taut n a0 h = some q) : q.2.1 = h.1 := by
  unfold F_X12_taut at hf
  obtain ⟨h2, e1, hf⟩ := jbind hf
  have f1 : h2.1 = h.1 := (oc_pf e1).2
  exact ((FZ_X12_taut_9 hf).trans f1)
theorem FZ_X12_sunny_69 {n : Nat} {rc11 : Nat → Int32 → Int32 → Int32 → jH → Option (Int32 × jH)} (hrc11 : ∀ {z0 : Nat} {z1 : Int32} {z2 : Int32} {z3 : Int32} {h : jH} {q : Int32 × jH}, rc11 z0 z1 z2 z3 h = some q → q.2.1 = h.1) {a0 : Nat} {x2 : Int32} {x3 : Int32} {x4 : Int32} {s0 : Int32} {h : jH} {q : Int32 × jH} (hf : F_X12_sunny_69 n rc11 a0 x2 x3 x4 s0 h = some q) : q.2.1 = h.1 := by
  unfold F_X12_sunny_69 at hf
  exact (hrc11  hf)
theorem FZ_X12_sunny_25 {n : Nat} {rc11 : Nat → Int32 → Int32 → Int32 → jH → Option (Int32 × jH)} (hrc11 : ∀ {z0 : Nat} {z1 : Int32} {z2 : Int32} {z3 : Int32} {h : jH} {q : Int32 × jH}, rc11 z0 z1 z2 z3 h = some q → q.2.1 = h.1) {k : Nat} : ∀ {a0 : Nat} {x1 : Int32} {x2 : Int32} {x3 : Int32} {x4 : Int32} {x5 : Int32} {h : jH} {q : Int32 × jH}, F_X12_sunny_25 n rc11 k a0 x1 x2 x3 x4 x5 h = some q → q.2.1 = h.1 := by
  induction k with
  | zero =>
    intro a0 x1 x2 x3 x4 x5 h q hf
    cases hf
  | succ k ih =>
    intro a0 x1 x2 x3 x4 x5 h q hf
    replace hf : F_X12_sunny_25_b n rc11 (F_X12_sunny_25 n rc11 k) a0 x1 x2 x3 x4 x5 h = some q := hf
    unfold F_X12_sunny_25_b at hf
    replace hf := jite hf
    rcases hf with ⟨-, hf⟩ | ⟨-, hf⟩
    · replace hf := jite hf
      rcases hf with ⟨-, hf⟩ | ⟨-, hf⟩
      · exact (FZ_X12_sunny_69 hrc11 hf)
      · exact (FZ_X12_sunny_69 hrc11 hf)
    · obtain ⟨v38, e1, hf⟩ := jbind hf
      replace e1 := (jcv_o e1).2
      replace hf := jite hf
      rcases hf with ⟨-, hf⟩ | ⟨-, hf⟩
      · exact (ih  hf)
      · exact (ih  hf)
theorem FZ_X12_sunny_11 {n : Nat} {k : Nat} : ∀ {a0 : Nat} {x1 : Int32} {x2 : Int32} {x3 : Int32} {h : jH} {q : Int32 × jH}, F_X12_sunny_11 n k a0 x1 x2 x3 h = some q → q.2.1 = h.1 := by
  induction k with
  | zero =>
    intro a0 x1 x2 x3 h q hf
    cases hf
  | succ k ih =>
    intro a0 x1 x2 x3 h q hf
    replace hf : F_X12_sunny_11_b n (F_X12_sunny_11 n k) a0 x1 x2 x3 h = some q := hf
    unfold F_X12_sunny_11_b at hf
    obtain ⟨v13, e1, hf⟩ := jbind hf
    replace e1 := (jcv_o e1).2
    replace hf := jite hf
    rcases hf with ⟨-, hf⟩ | ⟨-, hf⟩
    · cases hf
      exact rfl
    · exact (FZ_X12_sunny_25 ih hf)
theorem FZ_X12_sunny {n : Nat} {a0 : Nat} {h : jH} {q : Int32 × jH} (hf : F_X12_sunny n a0 h = some q) : q.2.1 = h.1 := by
  unfold F_X12_sunny at hf
  obtain ⟨h2, e1, hf⟩ := jbind hf
  have f1 : h2.1 = h.1 := (oc_pf e1).2
  exact ((FZ_X12_sunny_11 hf).trans f1)
theorem FZ_X12_envy_9 {n : Nat} {k : Nat} : ∀ {a0 : Nat} {x1 : Int32} {x2 : Int32} {h : jH} {q : Int32 × jH}, F_X12_envy_9 n k a0 x1 x2 h = some q → q.2.1 = h.1 := by
  induction k with
  | zero =>
    intro a0 x1 x2 h q hf
    cases hf
  | succ k ih =>
    intro a0 x1 x2 h q hf
    replace hf : F_X12_envy_9_b n (F_X12_envy_9 n k) a0 x1 x2 h = some q := hf
    unfold F_X12_envy_9_b at hf
    obtain ⟨v11, e1, hf⟩ := jbind hf
    replace e1 := (jcv_o e1).2
    replace hf := jite hf
    rcases hf with ⟨-, hf⟩ | ⟨-, hf⟩
    · cases hf
      exact rfl
    · obtain ⟨v21, e2, hf⟩ := jbind hf
      replace e2 := (jcv_o e2).2
      obtain ⟨v29, e3, hf⟩ := jbind hf
      replace e3 := (jcv_o e3).2
      replace hf := jite hf
      rcases hf with ⟨-, hf⟩ | ⟨-, hf⟩
      · exact (ih  hf)
      · exact (ih  hf)
theorem FZ_X12_envy {n : Nat} {a0 : Nat} {h : jH} {q : Int32 × jH} (hf : F_X12_envy n a0 h = some q) : q.2.1 = h.1 := by
  unfold F_X12_envy at hf
  obtain ⟨h2, e1, hf⟩ := jbind hf
  have f1 : h2.1 = h.1 := (oc_pf e1).2
  exact ((FZ_X12_envy_9 hf).trans f1)
theorem FZ_X12_bunch_41 {n : Nat} {rc11 : Nat → Int32 → Int32 → Int32 → jH → Option (Int32 × jH)} (hrc11 : ∀ {z0 : Nat} {z1 : Int32} {z2 : Int32} {z3 : Int32} {h : jH} {q : Int32 × jH}, rc11 z0 z1 z2 z3 h = some q → q.2.1 = h.1) {a0 : Nat} {x1 : Int32} {x3 : Int32} {s0 : Int32} {h : jH} {q : Int32 × jH} (hf : F_X12_bunch_41 n rc11 a0 x1 x3 s0 h = some q) : q.2.1 = h.1 := by
  unfold F_X12_bunch_41 at hf
  exact (hrc11  hf)
theorem FZ_X12_bunch_11 {n : Nat} {k : Nat} : ∀ {a0 : Nat} {x1 : Int32} {x2 : Int32} {x3 : Int32} {h : jH} {q : Int32 × jH}, F_X12_bunch_11 n k a0 x1 x2 x3 h = some q → q.2.1 = h.1 := by
  induction k with
  | zero =>
    intro a0 x1 x2 x3 h q hf
    cases hf
  | succ k ih =>
    intro a0 x1 x2 x3 h q hf
    replace hf : F_X12_bunch_11_b n (F_X12_bunch_11 n k) a0 x1 x2 x3 h = some q := hf
    unfold F_X12_bunch_11_b at hf
    obtain ⟨v13, e1, hf⟩ := jbind hf
    replace e1 := (jcv_o e1).2
    replace hf := jite hf
    rcases hf with ⟨-, hf⟩ | ⟨-, hf⟩
    · cases hf
      exact rfl
    · replace hf := jite hf
      rcases hf with ⟨-, hf⟩ | ⟨-, hf⟩
      · exact (FZ_X12_bunch_41 ih hf)
      · obtain ⟨v27, e2, hf⟩ := jbind hf
        replace e2 := (jcv_o e2).2
        replace hf := jite hf
        rcases hf with ⟨-, hf⟩ | ⟨-, hf⟩
        · exact (FZ_X12_bunch_41 ih hf)
        · exact (FZ_X12_bunch_41 ih hf)
theorem FZ_X12_bunch {n : Nat} {a0 : Nat} {h : jH} {q : Int32 × jH} (hf : F_X12_bunch n a0 h = some q) : q.2.1 = h.1 := by
  unfold F_X12_bunch at hf
  obtain ⟨h2, e1, hf⟩ := jbind hf
  have f1 : h2.1 = h.1 := (oc_pf e1).2
  exact ((FZ_X12_bunch_11 hf).trans f1)
theorem FZ_X12_wooden {n : Nat} {a0 : Nat} {h : jH} {q : Int32 × jH} (hf : F_X12_wooden n a0 h = some q) : q.2.1 = h.1 := by
  unfold F_X12_wooden at hf
  obtain ⟨h2, e1, hf⟩ := jbind hf
  have f1 : h2.1 = h.1 := (oc_pf e1).2
  obtain ⟨v7, e2, hf⟩ := jbind hf
  replace e2 := (jcv_o e2).2
  cases hf
  exact f1
theorem FZ_X12_caught {n : Nat} {a0 : Nat} {h : jH} {q : Int32 × jH} (hf : F_X12_caught n a0 h = some q) : q.2.1 = h.1 := by
  unfold F_X12_caught at hf
  obtain ⟨h2, e1, hf⟩ := jbind hf
  have f1 : h2.1 = h.1 := (oc_pf e1).2
  obtain ⟨v8, e2, hf⟩ := jbind hf
  replace e2 := (jcv_o e2).2
  cases hf
  exact f1
theorem FZ_X12_loose {n : Nat} {a0 : Nat} {h : jH} {q : Int32 × jH} (hf : F_X12_loose n a0 h = some q) : q.2.1 = h.1 := by
  unfold F_X12_loose at hf
  obtain ⟨h2, e1, hf⟩ := jbind hf
  have f1 : h2.1 = h.1 := (oc_pf e1).2
  obtain ⟨v6, e2, hf⟩ := jbind hf
  replace e2 := (jcv_o e2).2
  cases hf
  exact f1
theorem FZ_X12_beyond_9 {n : Nat} {k : Nat} : ∀ {a0 : Nat} {x1 : Int32} {x2 : Int32} {h : jH} {q : Int32 × jH}, F_X12_beyond_9 n k a0 x1 x2 h = some q → q.2.1 = h.1 := by
  induction k with
  | zero =>
    intro a0 x1 x2 h q hf
    cases hf
  | succ k ih =>
    intro a0 x1 x2 h q hf
    replace hf : F_X12_beyond_9_b n (F_X12_beyond_9 n k) a0 x1 x2 h = some q := hf
    unfold F_X12_beyond_9_b at hf
    obtain ⟨v11, e1, hf⟩ := jbind hf
    replace e1 := (jcv_o e1).2
    replace hf := jite hf
    rcases hf with ⟨-, hf⟩ | ⟨-, hf⟩
    · cases hf
      exact rfl
    · obtain ⟨v21, e2, hf⟩ := jbind hf
      replace e2 := (jcv_o e2).2
      replace hf := jite hf
      rcases hf with ⟨-, hf⟩ | ⟨-, hf⟩
      · exact (ih  hf)
      · obtain ⟨v30, e3, hf⟩ := jbind hf
        replace e3 := (jcv_o e3).2
        obtain ⟨p34, e4, hf⟩ := jbind hf
        obtain ⟨v38, e5, hf⟩ := jbind hf
        replace hf := jite hf
        rcases hf with ⟨-, hf⟩ | ⟨-, hf⟩
        · exact (ih  hf)
        · exact (ih  hf)
theorem FZ_X12_beyond {n : Nat} {a0 : Nat} {h : jH} {q : Int32 × jH} (hf : F_X12_beyond n a0 h = some q) : q.2.1 = h.1 := by
  unfold F_X12_beyond at hf
  obtain ⟨h2, e1, hf⟩ := jbind hf
  have f1 : h2.1 = h.1 := (oc_pf e1).2
  exact ((FZ_X12_beyond_9 hf).trans f1)
theorem FZ_X12_twins_19 {n : Nat} {rc9 : Nat → Int32 → Int32 → jH → Option (Int32 × jH)} (hrc9 : ∀ {z0 : Nat} {z1 : Int32} {z2 : Int32} {h : jH} {q : Int32 × jH}, rc9 z0 z1 z2 h = some q → q.2.1 = h.1) {k : Nat} : ∀ {a0 : Nat} {x1 : Int32} {x2 : Int32} {x3 : Int32} {h : jH} {q : Int32 × jH}, F_X12_twins_19 n rc9 k a0 x1 x2 x3 h = some q → q.2.1 = h.1 := by
  induction k with
  | zero =>
    intro a0 x1 x2 x3 h q hf
    cases hf
  | succ k ih =>
    intro a0 x1 x2 x3 h q hf
    replace hf : F_X12_twins_19_b n rc9 (F_X12_twins_19 n rc9 k) a0 x1 x2 x3 h = some q := hf
    unfold F_X12_twins_19_b at hf
    replace hf := jite hf
    rcases hf with ⟨-, hf⟩ | ⟨-, hf⟩
    · exact (hrc9  hf)
    · obtain ⟨v28, e1, hf⟩ := jbind hf
      replace e1 := (jcv_o e1).2
      replace hf := jite hf
      rcases hf with ⟨-, hf⟩ | ⟨-, hf⟩
      · exact (ih  hf)
      · exact (ih  hf)
theorem FZ_X12_twins_9 {n : Nat} {k : Nat} : ∀ {a0 : Nat} {x1 : Int32} {x2 : Int32} {h : jH} {q : Int32 × jH}, F_X12_twins_9 n k a0 x1 x2 h = some q → q.2.1 = h.1 := by
  induction k with
  | zero =>
    intro a0 x1 x2 h q hf
    cases hf
  | succ k ih =>
    intro a0 x1 x2 h q hf
    replace hf : F_X12_twins_9_b n (F_X12_twins_9 n k) a0 x1 x2 h = some q := hf
    unfold F_X12_twins_9_b at hf
    obtain ⟨v11, e1, hf⟩ := jbind hf
    replace e1 := (jcv_o e1).2
    replace hf := jite hf
    rcases hf with ⟨-, hf⟩ | ⟨-, hf⟩
    · cases hf
      exact rfl
    · exact (FZ_X12_twins_19 ih hf)
theorem FZ_X12_twins {n : Nat} {a0 : Nat} {h : jH} {q : Int32 × jH} (hf : F_X12_twins n a0 h = some q) : q.2.1 = h.1 := by
  unfold F_X12_twins at hf
  obtain ⟨h2, e1, hf⟩ := jbind hf
  have f1 : h2.1 = h.1 := (oc_pf e1).2
  exact ((FZ_X12_twins_9 hf).trans f1)
theorem FZ_X12_count {n : Nat} {a0 : Nat} {x1 : Int32} {h : jH} {q : Int32 × jH} (hf : F_X12_count n a0 x1 h = some q) : q.2.1 = h.1 := by
  unfold F_X12_count at hf
  obtain ⟨h2, e1, hf⟩ := jbind hf
  have f1 : h2.1 = h.1 := (oc_pf e1).2
  replace hf := jite hf
  rcases hf with ⟨-, hf⟩ | ⟨-, hf⟩
  · obtain ⟨p41, e2, hf⟩ := jbind hf
    obtain ⟨v45, e3, hf⟩ := jbind hf
    replace hf := jite hf
    rcases hf with ⟨-, hf⟩ | ⟨-, hf⟩
    · obtain ⟨p51, e4, hf⟩ := jbind hf
      obtain ⟨v57, e5, hf⟩ := jbind hf
      cases hf
      exact f1
    · cases hf
      exact f1
  · replace hf := jite hf
    rcases hf with ⟨-, hf⟩ | ⟨-, hf⟩
    · obtain ⟨p64, e6, hf⟩ := jbind hf
      obtain ⟨v69, e7, hf⟩ := jbind hf
      cases hf
      exact f1
    · replace hf := jite hf
      rcases hf with ⟨-, hf⟩ | ⟨-, hf⟩
      · obtain ⟨v72, e8, hf⟩ := jbind hf
        cases hf
        exact f1
      · obtain ⟨v80, e9, hf⟩ := jbind hf
        replace hf := jite hf
        rcases hf with ⟨-, hf⟩ | ⟨-, hf⟩
        · cases hf
          exact f1
        · obtain ⟨p87, e10, hf⟩ := jbind hf
          obtain ⟨v91, e11, hf⟩ := jbind hf
          cases hf
          exact f1
end
