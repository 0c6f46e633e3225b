/-! law, the reference -/
theorem E_X12_readLawLine {b : Nat → Int32} {L : Nat} {m : Nat} {T : Nat → Int32 × Int32} {st : Nat → Nat} {en : Nat → Nat} {k : Nat} {W : jWd} {s : Nat} {j : Nat} {n : Nat} {a0 : Nat} {x1 : Int32} {h : jH} {q : Int32 × jH} (H : tkE b L m T st en) (R : rw2 (oc h) a0 b L st k) (hx : x1 = nI j) (hj : j < 12) (hW : wl (oc h) a0 = W) (g : oi (oc h) a0 16 = nI s) (sk : s ≤ k) (hm4 : m ≤ 400) (hf : F_X12_readLawLine n a0 x1 h = some q) : (((T k).1 = 3 ∨ (T k).1 = 15 ∨ (T k).1 = 16) → (∀ d, rdLT T (k + 1) = .inl d → q.1 = 1 ∧ rc (oc q.2) a0 b L st d.1 ∧ wl (oc q.2) a0 = lnW W j s ((kdL (T k).1, (T (k + 1)).2), d.2) ∧ oi (oc q.2) a0 16 = nI (s + d.2.length) ∧ s + d.2.length ≤ d.1) ∧ (∀ f, rdLT T (k + 1) = .inr f → q.1 = 0 ∧ oi (oc q.2) a0 12 = nI (st f))) ∧ (¬ ((T k).1 = 3 ∨ (T k).1 = 15 ∨ (T k).1 = 16) → q.1 = 0 ∧ oi (oc q.2) a0 12 = nI (st k)) ∧ frQ a0 (oc h) (oc q.2) ∧ q.2.1 = h.1 := by
  unfold F_X12_readLawLine at hf
  have M := rw_mS R
  replace hf := jbind hf
  obtain ⟨p9, e1, hf⟩ := hf
  have r1 := oc_gR e1
  rw [M.1] at r1
  cases r1
  clear e1
  replace hf := jbind hf
  obtain ⟨v16, e2, hf⟩ := hf
  replace e2 := (jcv_o e2).2
  have r2 := T_isWord (w := 3) H (by decide) R e2
  replace hf := jite hf
  rcases hf with ⟨c3, hf⟩ | ⟨c3, hf⟩
  · skip
    replace hf := jbind hf
    obtain ⟨v29, e4, hf⟩ := hf
    replace e4 := (jcv_o e4).2
    have r4 := T_isWord (w := 15) H (by decide) R e4
    replace hf := jite hf
    rcases hf with ⟨c5, hf⟩ | ⟨c5, hf⟩
    · skip
      replace hf := jbind hf
      obtain ⟨v42, e6, hf⟩ := hf
      replace e6 := (jcv_o e6).2
      have r6 := T_isWord (w := 16) H (by decide) R e6
      replace hf := jite hf
      rcases hf with ⟨c7, hf⟩ | ⟨c7, hf⟩
      · skip
        -- leaf 000: F_X12_readLawLine_53 n a0 ((1285 : Int32) + ((4 : Int32) * x1)) p9 ((1285 : Int32) + ((4 : Int32) * 
        have n : ∀ w : Nat, w = 3 ∨ w = 15 ∨ w = 16 → (T k).1 ≠ nI w := fun w hw z => by
          rcases hw with y | y | y <;> subst y
          · exact absurd ((r2.2.mpr z).symm.trans c3) (by decide)
          · exact absurd ((r4.2.mpr z).symm.trans c5) (by decide)
          · exact absurd ((r6.2.mpr z).symm.trans c7) (by decide)
        obtain ⟨e, Rb, -, g9⟩ := R
        obtain ⟨a1, a2, a3, a4⟩ := no_53 M hj rfl (by rw [hx]; exact nI_l1) hf
        refine ⟨fun z => ?_, fun _ => ⟨a1, (frM_oi a2 (by decide) (by decide)).trans g9⟩, a3, a4⟩
        rcases z with z | z | z
        · exact absurd z (n 3 (by decide))
        · exact absurd z (n 15 (by decide))
        · exact absurd z (n 16 (by decide))
      · skip
        -- leaf 001: F_X12_readLawLine_53 n a0 ((1285 : Int32) + ((4 : Int32) * x1)) p9 ((1285 : Int32) + ((4 : Int32) * 
        have eT : (T k).1 = nI 16 := r6.2.mp (r6.1.resolve_left c7)
        have R1 := rw_n H (w := 16) (by decide) R eT
        obtain ⟨a1, a2, a3, a4⟩ := E_X12_readLawLine_53 (j := j) (s := s) (W := W) (kd := 2) H rfl rfl (by rw [hx]; exact nI_l1) hj rfl (by decide) R1 hW g (by omega) hm4 hf
        have ek : kdL (T k).1 = nI 2 := by rw [eT]; rfl
        refine ⟨fun _ => ⟨fun d y => ?_, a2⟩, fun n => absurd (Or.inr (Or.inr eT)) n, a3, a4⟩
        rw [ek]
        exact a1 d y
    · skip
      -- leaf 01: F_X12_readLawLine_53 n a0 ((1285 : Int32) + ((4 : Int32) * x1)) p9 ((1285 : Int32) + ((4 : Int32) * 
      have eT : (T k).1 = nI 15 := r4.2.mp (r4.1.resolve_left c5)
      have R1 := rw_n H (w := 15) (by decide) R eT
      obtain ⟨a1, a2, a3, a4⟩ := E_X12_readLawLine_53 (j := j) (s := s) (W := W) (kd := 1) H rfl rfl (by rw [hx]; exact nI_l1) hj rfl (by decide) R1 hW g (by omega) hm4 hf
      have ek : kdL (T k).1 = nI 1 := by rw [eT]; rfl
      refine ⟨fun _ => ⟨fun d y => ?_, a2⟩, fun n => absurd (Or.inr (Or.inl eT)) n, a3, a4⟩
      rw [ek]
      exact a1 d y
  · skip
    -- leaf 1: F_X12_readLawLine_53 n a0 ((1285 : Int32) + ((4 : Int32) * x1)) p9 ((1285 : Int32) + ((4 : Int32) * 
    have eT : (T k).1 = nI 3 := r2.2.mp (r2.1.resolve_left c3)
    have R1 := rw_n H (w := 3) (by decide) R eT
    obtain ⟨a1, a2, a3, a4⟩ := E_X12_readLawLine_53 (j := j) (s := s) (W := W) (kd := 0) H rfl rfl (by rw [hx]; exact nI_l1) hj rfl (by decide) R1 hW g (by omega) hm4 hf
    have ek : kdL (T k).1 = nI 0 := by rw [eT]; rfl
    refine ⟨fun _ => ⟨fun d y => ?_, a2⟩, fun n => absurd (Or.inl eT) n, a3, a4⟩
    rw [ek]
    exact a1 d y
theorem E_X12_readLine_16L {b : Nat → Int32} {L : Nat} {m : Nat} {T : Nat → Int32 × Int32} {st : Nat → Nat} {en : Nat → Nat} {k : Nat} {W : jWd} {s : Nat} {j : Nat} {n : Nat} {a0 : Nat} {x1 : Int32} {x2 : Int32} {s0 : Int32} {s1 : Int32} {h : jH} {q : Int32 × jH} (H : tkE b L m T st en) (R : rw2 (oc h) a0 b L st k) (hx : x2 = nI j) (hx0 : s0 = nI j) (hj : j ≤ 12) (h1 : x1 = 0) (hs1 : s1 = 12) (hW : wl (oc h) a0 = W) (g : oi (oc h) a0 16 = nI s) (sk : s ≤ k) (hm4 : m ≤ 400) (hf : F_X12_readLine_16 n a0 x1 x2 s0 s1 h = some q) : (j < 12 → (((T k).1 = 3 ∨ (T k).1 = 15 ∨ (T k).1 = 16) → (∀ d, rdLT T (k + 1) = .inl d → q.1 = 1 ∧ rc (oc q.2) a0 b L st d.1 ∧ wl (oc q.2) a0 = lnW W j s ((kdL (T k).1, (T (k + 1)).2), d.2) ∧ oi (oc q.2) a0 16 = nI (s + d.2.length) ∧ s + d.2.length ≤ d.1) ∧ (∀ f, rdLT T (k + 1) = .inr f → q.1 = 0 ∧ oi (oc q.2) a0 12 = nI (st f))) ∧ (¬ ((T k).1 = 3 ∨ (T k).1 = 15 ∨ (T k).1 = 16) → q.1 = 0 ∧ oi (oc q.2) a0 12 = nI (st k))) ∧ (j = 12 → q.1 = 0 ∧ oi (oc q.2) a0 12 = nI (st k)) ∧ frQ a0 (oc h) (oc q.2) ∧ q.2.1 = h.1 := by
  unfold F_X12_readLine_16 at hf
  replace hf := jite hf
  rcases hf with ⟨c1, hf⟩ | ⟨c1, hf⟩
  · skip
    cases hf
    -- leaf 0: ((0 : Int32), h)
    rw [hs1, hx0, Int32.le_iff_toInt_le, nI_toInt (by omega), show (12 : Int32).toInt = 12 from rfl] at c1
    obtain ⟨e, Rb, -, g9⟩ := R
    exact ⟨fun z => by omega, fun _ => ⟨rfl, g9⟩, frQ_0, rfl⟩
  · skip
    replace hf := jite hf
    rcases hf with ⟨c2, hf⟩ | ⟨c2, hf⟩
    · skip
      replace hf := jbind hf
      obtain ⟨q35, e3, hf⟩ := hf
      replace e3 := (jcv_o e3).2
      rw [hs1, hx0, Int32.le_iff_toInt_le, nI_toInt (by omega), show (12 : Int32).toInt = 12 from rfl] at c1
      obtain ⟨a1, a2, a3, a4⟩ := E_X12_readLawLine H R hx (by omega) hW g sk hm4 e3
      replace hf := jite hf
      rcases hf with ⟨c4, hf⟩ | ⟨c4, hf⟩
      · skip
        cases hf
        -- leaf 100: ((0 : Int32), q35.2)
        rw [c4] at a1 a2
        exact ⟨fun _ => ⟨a1, a2⟩, fun z => by omega, a3, a4⟩
      · skip
        cases hf
        -- leaf 101: ((1 : Int32), q35.2)
        have e1 : q35.1 = 1 := by
          by_cases z : (T k).1 = 3 ∨ (T k).1 = 15 ∨ (T k).1 = 16
          · rcases hR : rdLT T (k + 1) with p | f
            · exact ((a1 z).1 p hR).1
            · exact absurd ((a1 z).2 f hR).1 c4
          · exact absurd (a2 z).1 c4
        rw [e1] at a1 a2
        exact ⟨fun _ => ⟨a1, a2⟩, fun z => by omega, a3, a4⟩
    · skip
      replace hf := jbind hf
      obtain ⟨q24, e5, hf⟩ := hf
      replace e5 := (jcv_o e5).2
      replace hf := jite hf
      rcases hf with ⟨c6, hf⟩ | ⟨c6, hf⟩
      · skip
        cases hf
        -- leaf 110: ((0 : Int32), q24.2)
        exact absurd h1 c2
      · skip
        cases hf
        -- leaf 111: ((1 : Int32), q24.2)
        exact absurd h1 c2
theorem E_X12_readLineL {b : Nat → Int32} {L : Nat} {m : Nat} {T : Nat → Int32 × Int32} {st : Nat → Nat} {en : Nat → Nat} {k : Nat} {W : jWd} {s : Nat} {j : Nat} {n : Nat} {a0 : Nat} {x1 : Int32} {x2 : Int32} {h : jH} {q : Int32 × jH} (H : tkE b L m T st en) (R : rc (oc h) a0 b L st k) (hx : x2 = nI j) (hj : j ≤ 12) (hp : x1 = 0) (hW : wl (oc h) a0 = W) (g : oi (oc h) a0 16 = nI s) (sk : s ≤ k) (hm4 : m ≤ 400) (hf : F_X12_readLine n a0 x1 x2 h = some q) : (j < 12 → (((T k).1 = 3 ∨ (T k).1 = 15 ∨ (T k).1 = 16) → (∀ d, rdLT T (k + 1) = .inl d → q.1 = 1 ∧ rc (oc q.2) a0 b L st d.1 ∧ wl (oc q.2) a0 = lnW W j s ((kdL (T k).1, (T (k + 1)).2), d.2) ∧ oi (oc q.2) a0 16 = nI (s + d.2.length) ∧ s + d.2.length ≤ d.1) ∧ (∀ f, rdLT T (k + 1) = .inr f → q.1 = 0 ∧ oi (oc q.2) a0 12 = nI (st f))) ∧ (¬ ((T k).1 = 3 ∨ (T k).1 = 15 ∨ (T k).1 = 16) → q.1 = 0 ∧ oi (oc q.2) a0 12 = nI (st k))) ∧ (j = 12 → q.1 = 0 ∧ oi (oc q.2) a0 12 = nI (st k)) ∧ frQ a0 (oc h) (oc q.2) ∧ q.2.1 = h.1 := by
  unfold F_X12_readLine at hf
  replace hf := jbind hf
  obtain ⟨h1, e1, hf⟩ := hf
  replace e1 := (jcv_o e1).2
  obtain ⟨R1, f1, z1⟩ := T_letters H R e1
  replace hf := jite hf
  rcases hf with ⟨c2, hf⟩ | ⟨c2, hf⟩
  · skip
    -- leaf 0: F_X12_readLine_16 n a0 x1 x2 x2 (12 : Int32) h1
    obtain ⟨a1, a2, a3, a4⟩ := E_X12_readLine_16L (k := k) (W := W) (s := s) H R1 hx hx hj hp rfl (by rw [wl_f f1 (by decide)]; exact hW) ((frM_oi f1 (by decide) (by decide)).trans g) sk hm4 hf
    exact ⟨a1, a2, frQ_tr (fr2 f1) a3, a4.trans z1⟩
  · skip
    -- leaf 1: F_X12_readLine_16 n a0 x1 x2 x2 (14 : Int32) h1
    exact absurd hp c2
theorem frQ_Z {x : Nat} {O O2 : jO} (f : frQ x O O2) : frZ x [1] [10, 12, 13, 16] 1284 O O2 := ⟨frQ_M f, fun j hj => by unfold oi; rw [f (x + 1) j (by omega) (by omega)]⟩
theorem lawHL {n a0 : Nat} {W0 : jWd} {b : Nat → Int32} {L m : Nat} {T : Nat → Int32 × Int32} {st en : Nat → Nat} (H : tkE b L m T st en) (hm4 : m ≤ 400) : HLn (List jLn) (lawP a0 W0) (rdLaw T) n a0 0 b L st [1] [10, 12, 13, 16] 12 1284 := by
  intro kk j S h q R PW hj e
  obtain ⟨p1, p2, p3, p4⟩ := PW
  obtain ⟨a1, a2, a3, a4⟩ := E_X12_readLineL H R rfl hj rfl p1 p2 p4 hm4 e
  refine ⟨fun z => ?_, a2, frQ_Z a3, a4⟩
  obtain ⟨b1, b2⟩ := a1 z
  by_cases t : (T kk).1 = 3 ∨ (T kk).1 = 15 ∨ (T kk).1 = 16
  · obtain ⟨c1, c2⟩ := b1 t
    rcases hR : rdLT T (kk + 1) with d | f
    · have E : rdLaw T S kk = .inl (d.1, S ++ [((kdL (T kk).1, (T (kk + 1)).2), d.2)]) := by
        unfold rdLaw
        rw [if_pos t, hR]
      obtain ⟨d1, d2, d3, d4, d5⟩ := c1 d hR
      refine ⟨fun p y => ?_, fun f y => (by rw [E] at y; cases y)⟩
      rw [E] at y
      cases y
      refine ⟨d1, d2, ?_, ?_, ?_, ?_⟩
      · rw [lwS_app, p3]; exact d3
      · rw [lwS_app]; exact d4
      · rw [lwS_app]; exact congrArg (· + 1) p3
      · rw [lwS_app]; exact d5
    · have E : rdLaw T S kk = .inr f := by
        unfold rdLaw
        rw [if_pos t, hR]
      refine ⟨fun p y => (by rw [E] at y; cases y), fun g y => ?_⟩
      rw [E] at y
      cases y
      exact c2 f hR
  · have E : rdLaw T S kk = .inr kk := if_neg t
    refine ⟨fun p y => (by rw [E] at y; cases y), fun g y => ?_⟩
    rw [E] at y
    cases y
    exact b2 t
theorem lawHP {a0 : Nat} {W0 : jWd} : HPr (List jLn) (lawP a0 W0) a0 := fun O O2 S j k k2 P h f => ⟨by rw [wl_f f (by decide)]; exact P.1, (frM_oi f (by decide) (by decide)).trans P.2.1, P.2.2.1, Nat.le_trans P.2.2.2 h⟩
