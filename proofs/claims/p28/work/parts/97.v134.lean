/-! all the lines of a text, as the reference reads them; ln tells what a line does, P what holds behind it -/
theorem th_n1 {b : Nat → Int32} {L s e : Nat} {t : Int32 × Int32} (h : thE b L s e t) : t.1 ≠ -1 := by
  rcases h with ⟨-, -, ⟨w, hw, t, -⟩ | ⟨t, -⟩⟩ | ⟨-, -, t, -⟩ | ⟨-, -, -, -, -, t⟩
  · rw [t]; exact fun z => nI_ng (x := -1) (show w < 1000 by omega) (by decide) z.symm
  · rw [t]; decide
  · rw [t]; decide
  · rw [t]
    split
    · decide
    · rename_i q
      intro z
      rw [z] at q
      exact q (by decide)
theorem tk_end {b : Nat → Int32} {L m : Nat} {T : Nat → Int32 × Int32} {st en : Nat → Nat} (H : tkE b L m T st en) (k : Nat) : st k = L ↔ (T k).1 = -1 := by
  rcases Nat.lt_or_ge k m with z | z
  · obtain ⟨a, c, -⟩ := H.2.2.1 k z
    exact ⟨fun y => by omega, fun y => absurd y (th_n1 c)⟩
  · exact ⟨fun _ => (H.2.2.2.1 k z).2, fun _ => (H.2.2.2.1 k z).1⟩
def lnG {S : Type} (P : jO → S → Nat → Nat → Prop) (O : jO) (v : Int32) (x : Nat) (b : Nat → Int32) (L : Nat) (st : Nat → Nat) (j : Nat) (r : (Nat × S) ⊕ Nat) : Prop :=
  (∀ p, r = .inl p → v = 1 ∧ rc O x b L st p.1 ∧ P O p.2 j p.1) ∧ (∀ f, r = .inr f → v = 0 ∧ oi O x 12 = nI (st f))
def lsG {S : Type} (P : jO → S → Nat → Nat → Prop) (O : jO) (v : Int32) (x : Nat) (st : Nat → Nat) (N j : Nat) (r : S ⊕ Nat) : Prop :=
  (∀ W, r = .inl W → ∃ j2 k2, j ≤ j2 ∧ j2 ≤ N ∧ v = nI j2 ∧ P O W j2 k2) ∧ (∀ f, r = .inr f → v = -1 ∧ oi O x 12 = nI (st f))
theorem lsG_l {S : Type} {P : jO → S → Nat → Nat → Prop} {O : jO} {v : Int32} {x N j j2 k2 : Nat} {st : Nat → Nat} {r : S ⊕ Nat} {W : S} (e : r = .inl W) (h : j ≤ j2 ∧ j2 ≤ N ∧ v = nI j2 ∧ P O W j2 k2) : lsG P O v x st N j r := ⟨fun p z => (by rw [e] at z; cases z; exact ⟨j2, k2, h⟩), fun f z => (by rw [e] at z; cases z)⟩
theorem lsG_r {S : Type} {P : jO → S → Nat → Nat → Prop} {O : jO} {v : Int32} {x N j f : Nat} {st : Nat → Nat} {r : S ⊕ Nat} (e : r = .inr f) (h : v = -1 ∧ oi O x 12 = nI (st f)) : lsG P O v x st N j r := ⟨fun p z => (by rw [e] at z; cases z), fun f z => (by rw [e] at z; cases z; exact h)⟩
/-- what is left alone; the world's first Z places too -/
def frZ (m : Nat) (cs fs : List Nat) (Z : Nat) (O O2 : jO) : Prop := frM m cs fs O O2 ∧ ∀ j : Nat, j < Z → oi O2 (m + 1) j = oi O (m + 1) j
theorem frZ_tr {m Z : Nat} {cs fs : List Nat} {O O2 O3 : jO} (a : frZ m cs fs Z O O2) (b : frZ m cs fs Z O2 O3) : frZ m cs fs Z O O3 := ⟨frM_tr a.1 b.1, fun j hj => (b.2 j hj).trans (a.2 j hj)⟩
theorem frZ_n {m Z : Nat} {cs fs fs2 : List Nat} {O O2 : jO} (a : frM m [] fs O O2) (h : ∀ c ∈ fs, c ∈ fs2) : frZ m cs fs2 Z O O2 := ⟨frM_le a (fun c hc => by cases hc) h, fun j _ => congrFun (wl_f a (by simp)) j⟩
theorem frZ_le {m Z : Nat} {cs fs fs2 : List Nat} {O O2 : jO} (a : frZ m cs fs Z O O2) (h : ∀ c ∈ fs, c ∈ fs2) : frZ m cs fs2 Z O O2 := ⟨frM_le a.1 (fun c hc => hc) h, a.2⟩
/-- what one line does, whichever text it is of -/
def HLn (S : Type) (P : jO → S → Nat → Nat → Prop) (ln : S → Nat → (Nat × S) ⊕ Nat) (n a0 : Nat) (x1 : Int32) (b : Nat → Int32) (L : Nat) (st : Nat → Nat) (cs fs : List Nat) (N Z : Nat) : Prop :=
  ∀ (kk j : Nat) (W : S) (h : jH) (q : Int32 × jH), rc (oc h) a0 b L st kk → P (oc h) W j kk → j ≤ N → F_X12_readLine n a0 x1 (nI j) h = some q → (j < N → lnG P (oc q.2) q.1 a0 b L st (j + 1) (ln W kk)) ∧ (j = N → q.1 = 0 ∧ oi (oc q.2) a0 12 = nI (st kk)) ∧ frZ a0 cs fs Z (oc h) (oc q.2) ∧ q.2.1 = h.1
def HPr (S : Type) (P : jO → S → Nat → Nat → Prop) (a0 : Nat) : Prop := ∀ (O O2 : jO) (W : S) (j k k2 : Nat), P O W j k → k ≤ k2 → frM a0 [] [10, 12] O O2 → P O2 W j k2
theorem E_X12_readAll_28 {n : Nat} {b : Nat → Int32} {L : Nat} {m : Nat} {T : Nat → Int32 × Int32} {st : Nat → Nat} {en : Nat → Nat} {S : Type} {P : jO → S → Nat → Nat → Prop} {ln : S → Nat → (Nat × S) ⊕ Nat} {cs : List Nat} {fs : List Nat} {N : Nat} {Z : Nat} (hN : N < 1000) (m10 : 10 ∈ fs) (m12 : 12 ∈ fs) : ∀ (k : Nat) {a0 : Nat} {x1 : Int32} {x2 : Int32} {h : jH} {q : Int32 × jH} (kk : Nat) (j : Nat) (W : S) (H : tkE b L m T st en) (HL : HLn S P ln n a0 x1 b L st cs fs N Z) (HP : HPr S P a0) (R : rc (oc h) a0 b L st kk) (PW : P (oc h) W j kk) (hx : x2 = nI j) (hj : j ≤ N), F_X12_readAll_28 n k a0 x1 x2 h = some q → lsG P (oc q.2) q.1 a0 st N (j + 1) (rdLines ln T (N - j) W kk) ∧ frZ a0 cs fs Z (oc h) (oc q.2) ∧ q.2.1 = h.1
  | 0, a0, x1, x2, h, q, kk, j, W, H, HL, HP, R, PW, hx, hj, hf => by cases hf
  | k + 1, a0, x1, x2, h, q, kk, j, W, H, HL, HP, R, PW, hx, hj, hf => by
    replace hf : F_X12_readAll_28_b n (F_X12_readAll_28 n k) a0 x1 x2 h = some q := hf
    unfold F_X12_readAll_28_b at hf
    replace hf := jbind hf
    obtain ⟨q31, e1, hf⟩ := hf
    replace e1 := (jcv_o e1).2
    rw [hx] at e1
    obtain ⟨d1, n1, f1, z1⟩ := HL kk j W h q31 R PW hj e1
    replace hf := jite hf
    rcases hf with ⟨c2, hf⟩ | ⟨c2, hf⟩
    · skip
      cases hf
      -- leaf 0: ((- 1 : Int32), q31.2)
      rcases Nat.lt_or_ge j N with jN | jN
      · have ej : N - j = N - (j + 1) + 1 := by omega
        rcases hR : ln W kk with d | f
        · exact absurd (c2.symm.trans ((d1 jN).1 d hR).1) (by decide)
        · rw [ej]
          exact ⟨lsG_r (rl_r hR) ⟨rfl, ((d1 jN).2 f hR).2⟩, f1, z1⟩
      · rw [show N - j = 0 by omega]
        exact ⟨lsG_r rfl ⟨rfl, (n1 (by omega)).2⟩, f1, z1⟩
    · skip
      replace hf := jbind hf
      obtain ⟨h40, e3, hf⟩ := hf
      replace e3 := (jcv_o e3).2
      have jN : j < N := by
        rcases Nat.lt_or_ge j N with z | z
        · exact z
        · exact absurd (n1 (by omega)).1 c2
      rcases hR : ln W kk with d | f
      rotate_left
      · exact absurd ((d1 jN).2 f hR).1 c2
      obtain ⟨-, R1, P1⟩ := (d1 jN).1 d hR
      obtain ⟨R3, g3, f3, z3⟩ := T_blanks H R1 e3
      have P3 := HP _ _ _ _ _ _ P1 (Nat.le_refl _) f3
      have ej : N - j = N - (j + 1) + 1 := by omega
      have f13 := frZ_tr f1 (frZ_n f3 (fun c hc => by rcases List.mem_cons.mp hc with y | hc; exact y ▸ m10; rcases List.mem_cons.mp hc with y | hc; exact y ▸ m12; cases hc))
      have hL := H.1
      have sl := tk_L H d.1
      replace hf := jbind hf
      obtain ⟨v44, e4, hf⟩ := hf
      have r4 := oc_gI e4
      subst r4
      clear e4
      replace hf := jbind hf
      obtain ⟨v48, e5, hf⟩ := hf
      have r5 := oc_gI e5
      subst r5
      clear e5
      replace hf := jite hf
      rcases hf with ⟨c6, hf⟩ | ⟨c6, hf⟩
      · skip
        cases hf
        -- leaf 10: (x2 + (1 : Int32), h40)
        rw [R3.2.2.2.2.1, R3.2.1, nI_eq (by omega) (by omega)] at c6
        rw [ej]
        exact ⟨lsG_l (rl_e hR ((tk_end H d.1).mp c6)) ⟨Nat.le_refl _, by omega, by rw [hx]; exact nI_1 j, P3⟩, f13, z3.trans z1⟩
      · skip
        replace hf := jbind hf
        obtain ⟨v63, e7, hf⟩ := hf
        replace e7 := (jcv_o e7).2
        have r7 := E_X12_isAt R3 e7
        replace hf := jite hf
        rcases hf with ⟨c8, hf⟩ | ⟨c8, hf⟩
        · skip
          cases hf
          -- leaf 110: ((- 1 : Int32), h40)
          rw [R3.2.2.2.2.1, R3.2.1, nI_eq (by omega) (by omega)] at c6
          have nT : (T d.1).1 ≠ -1 := fun z => c6 ((tk_end H d.1).mpr z)
          rcases r7 with ⟨y, -⟩ | ⟨-, y⟩
          · exact absurd (c8.symm.trans y) (by decide)
          rw [ej]
          exact ⟨lsG_r (rl_x hR nT (fun z => y ((tk_s H (by unfold sgn; decide)).1.mpr z))) ⟨rfl, g3⟩, f13, z3.trans z1⟩
        · skip
          replace hf := jbind hf
          obtain ⟨v73, e9, hf⟩ := hf
          have r9 := oc_gI e9
          subst r9
          clear e9
          replace hf := jbind hf
          obtain ⟨h78, e10, hf⟩ := hf
          obtain ⟨o10, z10⟩ := oc_pf e10
          clear e10
          -- leaf 111: rc28 a0 x1 (x2 + (1 : Int32)) h78
          rw [R3.2.2.2.2.1, R3.2.1, nI_eq (by omega) (by omega)] at c6
          have nT : (T d.1).1 ≠ -1 := fun z => c6 ((tk_end H d.1).mpr z)
          rcases r7 with ⟨-, y⟩ | ⟨y, -⟩
          rotate_left
          · exact absurd y c8
          obtain ⟨t1, t2⟩ := tk_s H (k := d.1) (c := 59) (by unfold sgn; decide)
          have t3 := t1.mp y
          obtain ⟨t4, t5⟩ := t2 t3
          have t6 := tk_L H (d.1 + 1)
          have t7 := (cur_n H t4).1
          rw [R3.2.2.2.2.1, nI_1, t5] at o10
          have R9 : rc (oc h78) a0 b L st (d.1 + 1) := by rw [o10]; exact ⟨en d.1, rb_pt R3 (by omega), cur_n H t4⟩
          have f10 : frM a0 [] [10, 12] (oc h40) (oc h78) := by rw [o10]; exact frM_f (by decide)
          rw [hx] at hf
          obtain ⟨a1, a2, a3⟩ := E_X12_readAll_28 hN m10 m12 k (d.1 + 1) (j + 1) d.2 H HL HP R9 (HP _ _ _ _ _ _ P3 (Nat.le_succ _) f10) (nI_1 j) (by omega) hf
          rw [ej, rl_s hR t3]
          refine ⟨⟨fun W2 z => ?_, a1.2⟩, frZ_tr f13 (frZ_tr (frZ_n f10 (fun c hc => by rcases List.mem_cons.mp hc with y | hc; exact y ▸ m10; rcases List.mem_cons.mp hc with y | hc; exact y ▸ m12; cases hc)) a2), a3.trans (z10.trans (z3.trans z1))⟩
          obtain ⟨j2, k2, b1, b2, b3, b4⟩ := a1.1 W2 z
          exact ⟨j2, k2, by omega, b2, b3, b4⟩
theorem E_X12_uses {L : Nat} {n : Nat} {a0 : Nat} {h : jH} {q : jH} (h9 : oi (oc h) a0 9 = nI L) (hf : F_X12_uses n a0 h = some q) : oi (oc q) a0 0 = 0 ∧ oi (oc q) a0 9 = 0 ∧ oi (oc q) a0 10 = 0 ∧ oi (oc q) a0 11 = nI L ∧ frM a0 [] [0, 9, 10, 11] (oc h) (oc q) ∧ q.1 = h.1 := by
  unfold F_X12_uses at hf
  replace hf := jbind hf
  obtain ⟨h2, e1, hf⟩ := hf
  obtain ⟨o1, z1⟩ := oc_pf e1
  clear e1
  replace hf := jbind hf
  obtain ⟨v7, e2, hf⟩ := hf
  have r2 := oc_gI e2
  rw [o1] at r2
  rw [oi_ne (Or.inr (by decide))] at r2
  subst r2
  clear e2
  replace hf := jbind hf
  obtain ⟨h10, e3, hf⟩ := hf
  obtain ⟨o3, z3⟩ := oc_pf e3
  clear e3
  replace hf := jbind hf
  obtain ⟨h15, e4, hf⟩ := hf
  obtain ⟨o4, z4⟩ := oc_pf e4
  clear e4
  replace hf := jbind hf
  obtain ⟨h20, e5, hf⟩ := hf
  obtain ⟨o5, z5⟩ := oc_pf e5
  clear e5
  cases hf
  -- leaf : h20
  rw [h9] at o3
  have g0 : oi (oc q) a0 0 = 0 := by rw [o5, oi_ne (Or.inr (by decide)), o4, oi_ne (Or.inr (by decide)), o3, oi_ne (Or.inr (by decide)), o1, oi_eq]
  have g9 : oi (oc q) a0 9 = 0 := by rw [o5, oi_ne (Or.inr (by decide)), o4, oi_eq]
  have g10 : oi (oc q) a0 10 = 0 := by rw [o5, oi_eq]
  have g11 : oi (oc q) a0 11 = nI L := by rw [o5, oi_ne (Or.inr (by decide)), o4, oi_ne (Or.inr (by decide)), o3, oi_eq]
  exact ⟨g0, g9, g10, g11, by rw [o5, o4, o3, o1]; exact frM_tr (frM_f (by decide)) (frM_tr (frM_f (by decide)) (frM_tr (frM_f (by decide)) (frM_f (by decide)))), z5.trans (z4.trans (z3.trans z1))⟩
