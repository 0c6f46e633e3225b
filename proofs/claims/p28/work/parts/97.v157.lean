/-! a law's text, the class -/
theorem dE_fr {O O2 : jO} {x nl s : Nat} {V : jWd} (D : dE O x V nl s) (f : ∀ a k : Nat, x + 29 ≤ a → a ≤ x + 32 → O2 a k = O a k) : dE O2 x V nl s := by
  obtain ⟨L, a, b, c⟩ := D
  have g : ∀ a k : Nat, x + 29 ≤ a → a ≤ x + 32 → oi O2 a k = oi O a k := fun a k h1 h2 => by unfold oi; rw [f a k h1 h2]
  refine ⟨fun i hi => ?_, a, b, c⟩
  obtain ⟨c1, c2, c3, c4, c5, c6, c7, c8, c9, c10, c11⟩ := L i hi
  exact ⟨(g (x + 29) i (by omega) (by omega)).trans c1, (g (x + 30) i (by omega) (by omega)).trans c2, (g (x + 31) i (by omega) (by omega)).trans c3, c4, c5, c6, c7, c8, c9, fun j h1 h2 => by have := c10 j h1 h2; rw [show x + 28 + 4 = x + 32 by omega] at this ⊢; rw [g (x + 32) j (by omega) (by omega)]; exact this, c11⟩
def DL (O : jO) (x : Nat) (b : Nat → Int32) (L m : Nat) (T : Nat → Int32 × Int32) (st : Nat → Nat) (W0 : jWd) (S : List jLn) (k : Nat) : Prop :=
  rlS O x ∧ ck O (x + 1) b L m T st k ∧ dr0 O x (lwS W0 S).2.1 (lwS W0 S).2.2 ∧ dE O x (lwS W0 S).1 (lwS W0 S).2.1 (lwS W0 S).2.2 ∧ (lwS W0 S).2.2 ≤ k
theorem DL_5 {O O2 : jO} {x L m k k2 : Nat} {b : Nat → Int32} {T : Nat → Int32 × Int32} {st : Nat → Nat} {W0 : jWd} {S : List jLn} (D : DL O x b L m T st W0 S k) (K : ck O2 (x + 1) b L m T st k2) (f : ∀ a j : Nat, ¬ (a = x + 1 ∧ j = 5) → O2 a j = O a j) (hk : k ≤ k2) : DL O2 x b L m T st W0 S k2 := by
  obtain ⟨a, -, ⟨d1, d2, d3⟩, e, g⟩ := D
  exact ⟨rlS_J a (frJ_5 f), K, ⟨lawS_J d1 (frJ_5 f), by rw [← d2]; unfold oi; rw [f _ _ (by omega)], by rw [← d3]; unfold oi; rw [f _ _ (by omega)]⟩, dE_fr e (fun a k h1 h2 => f a k (by omega)), by omega⟩
theorem law_lineC {x L m k n : Nat} {b : Nat → Int32} {T : Nat → Int32 × Int32} {st en : Nat → Nat} {W0 : jWd} {S : List jLn} {h : jH} {q : Int32 × jH} (H : tkE b L m T st en) (D : DL (oc h) x b L m T st W0 S k) (hn : (lwS W0 S).2.1 < 12) (e : F_X3_readLine n (x + 35) h = some q) :
    (∀ p, rdLaw T S k = .inl p → q.1 = 1 ∧ DL (oc q.2) x b L m T st W0 p.2 p.1) ∧ (∀ f, rdLaw T S k = .inr f → q.1 = 0 ∧ ck (oc q.2) (x + 1) b L m T st f) ∧ frJ x (oc h) (oc q.2) ∧ q.2.1 = h.1 := by
  obtain ⟨RS, K, d0, DE, sk⟩ := D
  obtain ⟨a1, a2, a3, a4⟩ := E_X3_readLine H rfl RS K d0 hn sk e
  refine ⟨fun p y => ?_, fun f y => ?_, a3, a4⟩
  · unfold rdLaw at y
    split at y
    · rename_i t
      split at y
      · cases y
      · rename_i d hd
        cases y
        obtain ⟨v, K2, s2, D2⟩ := (a1 t).1 d hd
        obtain ⟨t1, t2, t3⟩ := lt_t hd
        obtain ⟨-, t4, t5⟩ := t3
        rw [Int32.le_iff_toInt_le] at t4 t5
        have km := K2.2.2.2.2.1
        have m4 := K2.2.2.1
        refine ⟨v, rlS_J RS a3, K2, ?_, ?_, ?_⟩
        · rw [lwS_app]; exact D2.1
        · rw [lwS_app]; exact dE_s DE hn (by omega) D2 t1 t2 ⟨t4, t5⟩
        · rw [lwS_app]; exact s2
    · cases y
  · unfold rdLaw at y
    split at y
    · rename_i t
      split at y
      · rename_i g hg
        cases y
        exact (a1 t).2 _ hg
      · cases y
    · rename_i t
      cases y
      exact a2 t
def lrL (O : jO) (v : Int32) (x : Nat) (st : Nat → Nat) (W0 : jWd) (r : List jLn ⊕ Nat) : Prop := (∀ S, r = .inl S → v = -1 ∧ dr0 O x (lwS W0 S).2.1 (lwS W0 S).2.2 ∧ dE O x (lwS W0 S).1 (lwS W0 S).2.1 (lwS W0 S).2.2 ∧ (lwS W0 S).2.1 ≤ 12) ∧ (∀ f, r = .inr f → v = nI (st f))
theorem lrL_l {O : jO} {v : Int32} {x : Nat} {st : Nat → Nat} {W0 : jWd} {r : List jLn ⊕ Nat} {S : List jLn} (e : r = .inl S) (h : v = -1 ∧ dr0 O x (lwS W0 S).2.1 (lwS W0 S).2.2 ∧ dE O x (lwS W0 S).1 (lwS W0 S).2.1 (lwS W0 S).2.2 ∧ (lwS W0 S).2.1 ≤ 12) : lrL O v x st W0 r := ⟨fun p z => (by rw [e] at z; cases z; exact h), fun f z => (by rw [e] at z; cases z)⟩
theorem lrL_r {O : jO} {v : Int32} {x k : Nat} {st : Nat → Nat} {W0 : jWd} {r : List jLn ⊕ Nat} (e : r = .inr k) (h : v = nI (st k)) : lrL O v x st W0 r := ⟨fun p z => (by rw [e] at z; cases z), fun f z => (by rw [e] at z; cases z; exact h)⟩
theorem rdLaw_n {T : Nat → Int32 × Int32} {S : List jLn} {k : Nat} {p : Nat × List jLn} {W0 : jWd} (e : rdLaw T S k = .inl p) : (lwS W0 p.2).2.1 = (lwS W0 S).2.1 + 1 := by
  unfold rdLaw at e
  split at e
  · split at e
    · cases e
    · cases e
      rw [lwS_app]
  · cases e
theorem E_X4_read_L_22 {n : Nat} {b : Nat → Int32} {L : Nat} {m : Nat} {T : Nat → Int32 × Int32} {st : Nat → Nat} {en : Nat → Nat} {x : Nat} {W0 : jWd} (H : tkE b L m T st en) : ∀ (k : Nat) {a0 : Nat} {x1 : Int32} {h : jH} {q : Int32 × jH} (kk : Nat) (j : Nat) (S : List jLn) (ha : a0 = x + 35) (D : DL (oc h) x b L m T st W0 S kk) (hn : (lwS W0 S).2.1 = j) (hx : x1 = nI j) (hj : j ≤ 12), F_X4_read_L_22 n k a0 x1 h = some q → lrL (oc q.2) q.1 x st W0 (rdLines (rdLaw T) T (12 - j) S kk) ∧ frJ x (oc h) (oc q.2) ∧ q.2.1 = h.1
  | 0, a0, x1, h, q, kk, j, S, ha, D, hn, hx, hj, hf => by cases hf
  | k + 1, a0, x1, h, q, kk, j, S, ha, D, hn, hx, hj, hf => by
    replace hf : F_X4_read_L_22_b n (F_X4_read_L_22 n k) a0 x1 h = some q := hf
    unfold F_X4_read_L_22_b at hf
    subst ha
    replace hf := jbind hf
    obtain ⟨v24, e1, hf⟩ := hf
    have r1 := oc_gI e1
    subst r1
    clear e1
    replace hf := jite hf
    rcases hf with ⟨c2, hf⟩ | ⟨c2, hf⟩
    · skip
      replace hf := jbind hf
      obtain ⟨p85, e3, hf⟩ := hf
      have r3 := oc_gR e3
      rw [D.1.1] at r3
      cases r3
      clear e3
      replace hf := jbind hf
      obtain ⟨v88, e4, hf⟩ := hf
      replace e4 := (jcv_o e4).2
      have r4 := E_X10_start D.2.1 e4
      cases hf
      -- leaf 0: (v88, h)
      have e12 : oi (oc h) (x + 35) 1 = 12 := by unfold oi; rw [D.1.2.1]; rfl
      rw [e12, hx, Int32.le_iff_toInt_le, nI_toInt (by omega), show (12 : Int32).toInt = 12 from rfl] at c2
      rw [show 12 - j = 0 by omega]
      exact ⟨lrL_r rfl r4, frJ_0, rfl⟩
    · skip
      replace hf := jbind hf
      obtain ⟨q31, e5, hf⟩ := hf
      replace e5 := (jcv_o e5).2
      have e12 : oi (oc h) (x + 35) 1 = 12 := by unfold oi; rw [D.1.2.1]; rfl
      rw [e12, hx, Int32.le_iff_toInt_le, nI_toInt (by omega), show (12 : Int32).toInt = 12 from rfl] at c2
      have ej : 12 - j = 12 - (j + 1) + 1 := by omega
      obtain ⟨a1, a2, f5, z5⟩ := law_lineC H D (by omega) e5
      have S5 : rlS (oc q31.2) x := rlS_J D.1 f5
      replace hf := jite hf
      rcases hf with ⟨c6, hf⟩ | ⟨c6, hf⟩
      · skip
        replace hf := jbind hf
        obtain ⟨p38, e7, hf⟩ := hf
        have r7 := oc_gR e7
        rw [S5.1] at r7
        cases r7
        clear e7
        replace hf := jbind hf
        obtain ⟨v41, e8, hf⟩ := hf
        replace e8 := (jcv_o e8).2
        rcases hR : rdLaw T S kk with d | f
        · exact absurd (c6.symm.trans (a1 d hR).1) (by decide)
        obtain ⟨-, K5⟩ := a2 f hR
        have r8 := E_X10_start K5 e8
        cases hf
        -- leaf 10: (v41, q31.2)
        rw [ej]
        exact ⟨lrL_r (rl_r hR) r8, f5, z5⟩
      · skip
        replace hf := jbind hf
        obtain ⟨p46, e9, hf⟩ := hf
        have r9 := oc_gR e9
        rw [S5.1] at r9
        cases r9
        clear e9
        replace hf := jbind hf
        obtain ⟨v49, e10, hf⟩ := hf
        replace e10 := (jcv_o e10).2
        rcases hR : rdLaw T S kk with d | f
        rotate_left
        · exact absurd (a2 f hR).1 c6
        obtain ⟨-, D5⟩ := a1 d hR
        have dn := rdLaw_n (W0 := W0) hR
        have r10 := E_X10_kind D5.2.1 e10
        replace hf := jite hf
        rcases hf with ⟨c11, hf⟩ | ⟨c11, hf⟩
        · skip
          cases hf
          -- leaf 110: ((- 1 : Int32), q31.2)
          rw [ej]
          rw [r10] at c11
          exact ⟨lrL_l (rl_e hR c11) ⟨rfl, D5.2.2.1, D5.2.2.2.1, by omega⟩, f5, z5⟩
        · skip
          replace hf := jbind hf
          obtain ⟨p59, e12, hf⟩ := hf
          have r12 := oc_gR e12
          rw [S5.1] at r12
          cases r12
          clear e12
          replace hf := jbind hf
          obtain ⟨q64, e13, hf⟩ := hf
          replace e13 := (jcv_o e13).2
          obtain ⟨r13, f13, z13⟩ := E_X10_take D5.2.1 (by decide) e13
          have S13 : rlS (oc q64.2) x := rlS_J S5 (frJ_5 f13)
          replace hf := jite hf
          rcases hf with ⟨c14, hf⟩ | ⟨c14, hf⟩
          · skip
            replace hf := jbind hf
            obtain ⟨p71, e15, hf⟩ := hf
            have r15 := oc_gR e15
            rw [S13.1] at r15
            cases r15
            clear e15
            replace hf := jbind hf
            obtain ⟨v74, e16, hf⟩ := hf
            replace e16 := (jcv_o e16).2
            rcases r13 with ⟨-, w, -⟩ | ⟨y, w⟩
            · exact absurd (c14.symm.trans w) (by decide)
            have r16 := E_X10_start (by rw [w]; exact D5.2.1) e16
            cases hf
            -- leaf 1110: (v74, q64.2)
            rw [r10] at c11
            rw [ej]
            exact ⟨lrL_r (rl_x hR c11 y) r16, frJ_tr f5 (frJ_5 f13), z13.trans z5⟩
          · skip
            -- leaf 1111: rc22 a0 (x1 + (1 : Int32)) q64.2
            rcases r13 with ⟨y, -, K13⟩ | ⟨-, w⟩
            rotate_left
            · exact absurd (by rw [w]) c14
            rw [hx] at hf
            obtain ⟨b1, b2, b3⟩ := E_X4_read_L_22 H k (d.1 + 1) (j + 1) d.2 rfl (DL_5 D5 K13 f13 (Nat.le_succ _)) (by omega) (nI_1 j) (by omega) hf
            rw [ej, rl_s hR y]
            exact ⟨b1, frJ_tr f5 (frJ_tr (frJ_5 f13) b2), b3.trans (z13.trans z5)⟩
theorem E_X4_read_L {b : Nat → Int32} {L : Nat} {x : Nat} {W0 : jWd} {n : Nat} {a0 : Nat} {h : jH} {q : Int32 × jH} (C : ctb (oc h) (x + 1) b L) (ha : a0 = x + 35) (RS : rlS (oc h) x) (D0 : dr0 (oc h) x 0 0) (hf : F_X4_read_L n a0 h = some q) : ∃ (m : Nat) (T : Nat → Int32 × Int32) (st en : Nat → Nat), tkE b L m T st en ∧ m ≤ 400 ∧ lrL (oc q.2) q.1 x st W0 (if (T 0).1 = -1 then .inl [] else rdLines (rdLaw T) T 12 [] 0) ∧ (∀ a j : Nat, ¬ (a = x + 1 ∧ (j = 4 ∨ j = 5)) → ¬ (x + 3 ≤ a ∧ a ≤ x + 5) → ¬ (a = x + 28 ∧ (j = 6 ∨ j = 8)) → ¬ (x + 29 ≤ a ∧ a ≤ x + 32) → oc q.2 a j = oc h a j) ∧ q.2.1 = h.1 := by
  unfold F_X4_read_L at hf
  subst ha
  replace hf := jbind hf
  obtain ⟨p1, e1, hf⟩ := hf
  have r1 := oc_gR e1
  rw [RS.1] at r1
  cases r1
  clear e1
  replace hf := jbind hf
  obtain ⟨h4, e2, hf⟩ := hf
  replace e2 := (jcv_o e2).2
  obtain ⟨m, T, st, en, H, K2, f2, z2⟩ := E_X10_scan C e2
  have S2 : rlS (oc h4) x := ⟨(f2 _ _ (by omega) (by omega)).trans RS.1, (f2 _ _ (by omega) (by omega)).trans RS.2.1, (f2 _ _ (by omega) (by omega)).trans RS.2.2⟩
  have D2 : dr0 (oc h4) x 0 0 := ⟨by obtain ⟨y1, y2, y3, y4, y5⟩ := D0.1; exact ⟨(f2 _ _ (by omega) (by omega)).trans y1, (f2 _ _ (by omega) (by omega)).trans y2, (f2 _ _ (by omega) (by omega)).trans y3, (f2 _ _ (by omega) (by omega)).trans y4, (f2 _ _ (by omega) (by omega)).trans y5⟩, by rw [← D0.2.1]; unfold oi; rw [f2 _ _ (by omega) (by omega)], by rw [← D0.2.2]; unfold oi; rw [f2 _ _ (by omega) (by omega)]⟩
  replace hf := jbind hf
  obtain ⟨p8, e3, hf⟩ := hf
  have r3 := oc_gR e3
  rw [S2.1] at r3
  cases r3
  clear e3
  replace hf := jbind hf
  obtain ⟨v11, e4, hf⟩ := hf
  replace e4 := (jcv_o e4).2
  have r4 := E_X10_kind K2 e4
  replace hf := jite hf
  rcases hf with ⟨c5, hf⟩ | ⟨c5, hf⟩
  · skip
    cases hf
    -- leaf 0: ((- 1 : Int32), h4)
    rw [r4] at c5
    refine ⟨m, T, st, en, H, K2.2.2.1, ?_, fun a j u1 u2 _ _ => f2 a j u1 (by omega), z2⟩
    rw [if_pos c5]
    exact lrL_l rfl ⟨rfl, D2, dE_0, by show 0 ≤ 12; omega⟩
  · skip
    -- leaf 1: F_X4_read_L_22 n n a0 (0 : Int32) h4
    rw [r4] at c5
    obtain ⟨a1, a2, a3⟩ := E_X4_read_L_22 (W0 := W0) H n 0 0 [] rfl ⟨S2, K2, D2, dE_0, Nat.le_refl 0⟩ rfl rfl (by omega) hf
    refine ⟨m, T, st, en, H, K2.2.2.1, ?_, fun a j u1 u2 u3 u4 => (a2 a j (by omega) u3 u4).trans (f2 a j u1 (by omega)), a3.trans z2⟩
    rw [if_neg c5]
    exact a1
