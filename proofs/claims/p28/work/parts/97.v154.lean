/-! a line of a law's text, the class -/
/-- what a line leaves alone -/
def frJ (x : Nat) (O O2 : jO) : Prop := ∀ a k : Nat, ¬ (a = x + 1 ∧ k = 5) → ¬ (a = x + 28 ∧ (k = 6 ∨ k = 8)) → ¬ (x + 29 ≤ a ∧ a ≤ x + 32) → O2 a k = O a k
theorem frJ_tr {x : Nat} {O O2 O3 : jO} (a : frJ x O O2) (c : frJ x O2 O3) : frJ x O O3 := fun b k h1 h2 h3 => (c b k h1 h2 h3).trans (a b k h1 h2 h3)
theorem frJ_C {x : Nat} {O O2 : jO} (f : frC x O O2) : frJ x O O2 := fun a k h1 h2 h3 => f a k h1 (by omega) (by omega) (by omega)
theorem frJ_5 {x : Nat} {O O2 : jO} (f : ∀ a j : Nat, ¬ (a = x + 1 ∧ j = 5) → O2 a j = O a j) : frJ x O O2 := fun a j h _ _ => f a j h
theorem frJ_0 {x : Nat} {O : jO} : frJ x O O := fun _ _ _ _ _ => rfl
theorem lawS_J {x : Nat} {O O2 : jO} (S : lawS O (x + 28)) (f : frJ x O O2) : lawS O2 (x + 28) := by
  obtain ⟨a, b, c, d, e⟩ := S
  exact ⟨(f _ _ (by omega) (by omega) (by omega)).trans a, (f _ _ (by omega) (by omega) (by omega)).trans b, (f _ _ (by omega) (by omega) (by omega)).trans c, (f _ _ (by omega) (by omega) (by omega)).trans d, (f _ _ (by omega) (by omega) (by omega)).trans e⟩
theorem rlS_J {x : Nat} {O O2 : jO} (S : rlS O x) (f : frJ x O O2) : rlS O2 x := ⟨(f _ _ (by omega) (by omega) (by omega)).trans S.1, (f _ _ (by omega) (by omega) (by omega)).trans S.2.1, (f _ _ (by omega) (by omega) (by omega)).trans S.2.2⟩
/-- the draft before a line: nl lines, s codes -/
def dr0 (O : jO) (x nl s : Nat) : Prop := lawS O (x + 28) ∧ oi O (x + 28) 8 = nI nl ∧ oi O (x + 28) 6 = nI s
/-- the line with kind, amount and steps l was put behind nl lines and s codes -/
def dr1 (O O2 : jO) (x nl s : Nat) (kd am : Int32) (l : List (Int32 × Int32)) : Prop :=
  dr0 O2 x (nl + 1) (s + l.length) ∧ (∀ i, oi O2 (x + 29) i = if i = nl then kd else oi O (x + 29) i) ∧ (∀ i, oi O2 (x + 30) i = if i = nl then am else oi O (x + 30) i) ∧ (∀ i, oi O2 (x + 31) i = if i = nl then nI (s + l.length) else oi O (x + 31) i) ∧
  (∀ i, oi O2 (x + 32) i = if s ≤ i ∧ i < s + l.length then (l.map cod).getD (i - s) 0 else oi O (x + 32) i)
theorem dr1_5 {O O1 O2 : jO} {x nl s : Nat} {kd am : Int32} {l : List (Int32 × Int32)} (f : ∀ a j : Nat, ¬ (a = x + 1 ∧ j = 5) → O1 a j = O a j) (D : dr1 O1 O2 x nl s kd am l) : dr1 O O2 x nl s kd am l := by
  have g : ∀ a j : Nat, ¬ (a = x + 1 ∧ j = 5) → oi O1 a j = oi O a j := fun a j h => by unfold oi; rw [f a j h]
  obtain ⟨d0, d1, d2, d3, d4⟩ := D
  exact ⟨d0, fun i => by rw [d1 i, g _ _ (by omega)], fun i => by rw [d2 i, g _ _ (by omega)], fun i => by rw [d3 i, g _ _ (by omega)], fun i => by rw [d4 i, g _ _ (by omega)]⟩
theorem E_X2_begin {n : Nat} {a0 : Nat} {h : jH} {q : jH} (hf : F_X2_begin n a0 h = some q) : oi (oc q) a0 7 = 1 ∧ oi (oc q) a0 8 = 0 ∧ oi (oc q) a0 6 = 0 ∧ (∀ a k : Nat, ¬ (a = a0 ∧ (k = 6 ∨ k = 7 ∨ k = 8)) → oc q a k = oc h a k) ∧ q.1 = h.1 := by
  unfold F_X2_begin at hf
  replace hf := jbind hf
  obtain ⟨h2, e1, hf⟩ := hf
  obtain ⟨o1, z1⟩ := oc_pf e1
  clear e1
  replace hf := jbind hf
  obtain ⟨h7, e2, hf⟩ := hf
  obtain ⟨o2, z2⟩ := oc_pf e2
  clear e2
  replace hf := jbind hf
  obtain ⟨h12, e3, hf⟩ := hf
  obtain ⟨o3, z3⟩ := oc_pf e3
  clear e3
  cases hf
  -- leaf : h12
  exact ⟨by rw [o3, oi_ne (Or.inr (by decide)), o2, oi_ne (Or.inr (by decide)), o1, oi_eq], by rw [o3, oi_ne (Or.inr (by decide)), o2, oi_eq], by rw [o3, oi_eq], fun a k u => by rw [o3, u2_ne (by omega), o2, u2_ne (by omega), o1, u2_ne (by omega)], z3.trans (z2.trans z1)⟩
theorem E_X2_addLine {x : Nat} {nl : Nat} {s : Nat} {n : Nat} {a0 : Nat} {x1 : Int32} {x2 : Int32} {h : jH} {q : jH} (ha : a0 = x + 28) (D : dr0 (oc h) x nl s) (hn : nl < 12) (hf : F_X2_addLine n a0 x1 x2 h = some q) : dr1 (oc h) (oc q) x nl s x1 x2 [] ∧ (∀ a k : Nat, ¬ (a = x + 28 ∧ k = 8) → ¬ (x + 29 ≤ a ∧ a ≤ x + 31) → oc q a k = oc h a k) ∧ q.1 = h.1 := by
  unfold F_X2_addLine at hf
  subst ha
  obtain ⟨LS, g8, g6⟩ := D
  replace hf := jbind hf
  obtain ⟨v1, e1, hf⟩ := hf
  have r1 := oc_gI e1
  subst r1
  clear e1
  replace hf := jite hf
  rcases hf with ⟨c2, hf⟩ | ⟨c2, hf⟩
  · skip
    cases hf
    -- leaf 0: h
    rw [g8, Int32.le_iff_toInt_le, nI_toInt (by omega), show (12 : Int32).toInt = 12 from rfl] at c2
    omega
  · skip
    replace hf := jbind hf
    obtain ⟨p10, e3, hf⟩ := hf
    have r3 := oc_gR e3
    rw [LS.1] at r3
    cases r3
    clear e3
    replace hf := jbind hf
    obtain ⟨v14, e4, hf⟩ := hf
    have r4 := oc_gI e4
    subst r4
    clear e4
    replace hf := jbind hf
    obtain ⟨h18, e5, hf⟩ := hf
    obtain ⟨o5, z5, y5⟩ := oc_as e5
    rw [jnar0] at o5
    clear e5
    replace hf := jbind hf
    obtain ⟨p20, e6, hf⟩ := hf
    have r6 := oc_gR e6
    rw [o5] at r6
    rw [u2_ne (Or.inl (by omega))] at r6
    rw [LS.2.1] at r6
    cases r6
    clear e6
    replace hf := jbind hf
    obtain ⟨v24, e7, hf⟩ := hf
    have r7 := oc_gI e7
    rw [o5] at r7
    rw [oi_ne (Or.inl (by omega))] at r7
    subst r7
    clear e7
    replace hf := jbind hf
    obtain ⟨h28, e8, hf⟩ := hf
    obtain ⟨o8, z8, y8⟩ := oc_as e8
    rw [jnar0] at o8
    clear e8
    replace hf := jbind hf
    obtain ⟨p30, e9, hf⟩ := hf
    have r9 := oc_gR e9
    rw [o8] at r9
    rw [u2_ne (Or.inl (by omega))] at r9
    rw [o5] at r9
    rw [u2_ne (Or.inl (by omega))] at r9
    rw [LS.2.2.1] at r9
    cases r9
    clear e9
    replace hf := jbind hf
    obtain ⟨v34, e10, hf⟩ := hf
    have r10 := oc_gI e10
    rw [o8] at r10
    rw [oi_ne (Or.inl (by omega))] at r10
    rw [o5] at r10
    rw [oi_ne (Or.inl (by omega))] at r10
    subst r10
    clear e10
    replace hf := jbind hf
    obtain ⟨v38, e11, hf⟩ := hf
    have r11 := oc_gI e11
    rw [o8] at r11
    rw [oi_ne (Or.inl (by omega))] at r11
    rw [o5] at r11
    rw [oi_ne (Or.inl (by omega))] at r11
    subst r11
    clear e11
    replace hf := jbind hf
    obtain ⟨h41, e12, hf⟩ := hf
    obtain ⟨o12, z12, y12⟩ := oc_as e12
    rw [jnar0] at o12
    clear e12
    replace hf := jbind hf
    obtain ⟨v44, e13, hf⟩ := hf
    have r13 := oc_gI e13
    rw [o12] at r13
    rw [oi_ne (Or.inl (by omega))] at r13
    rw [o8] at r13
    rw [oi_ne (Or.inl (by omega))] at r13
    rw [o5] at r13
    rw [oi_ne (Or.inl (by omega))] at r13
    subst r13
    clear e13
    replace hf := jbind hf
    obtain ⟨h49, e14, hf⟩ := hf
    obtain ⟨o14, z14⟩ := oc_pf e14
    clear e14
    cases hf
    -- leaf 1: h49
    have o5 : oc h18 = u2 (oc h) (x + 29) _ (.int x1) := o5
    have o8 : oc h28 = u2 (oc h18) (x + 30) _ (.int x2) := o8
    have o12 : oc h41 = u2 (oc h28) (x + 31) _ (.int _) := o12
    rw [g8, nI_cl (by omega)] at o5 o8 o12
    rw [g6] at o12
    rw [g8, nI_1] at o14
    have F : ∀ a k : Nat, ¬ (a = x + 28 ∧ k = 8) → ¬ (x + 29 ≤ a ∧ a ≤ x + 31) → oc q a k = oc h a k := fun a k u1 u2 => by rw [o14, u2_ne (by omega), o12, u2_ne (by omega), o8, u2_ne (by omega), o5, u2_ne (by omega)]
    refine ⟨⟨⟨lawS_J LS (fun a k _ u2 u3 => F a k (by omega) (by omega)), by rw [o14, oi_eq], ?_⟩, fun i => ?_, fun i => ?_, fun i => ?_, fun i => ?_⟩, F, z14.trans (z12.trans (z8.trans z5))⟩
    · rw [o14, oi_ne (Or.inr (by decide)), o12, oi_ne (Or.inl (by omega)), o8, oi_ne (Or.inl (by omega)), o5, oi_ne (Or.inl (by omega))]; exact g6
    · rw [o14, oi_ne (Or.inl (by omega)), o12, oi_ne (Or.inl (by omega)), o8, oi_ne (Or.inl (by omega)), o5]
      by_cases y : i = nl
      · rw [y, oi_eq, if_pos rfl]
      · rw [oi_ne (Or.inr y), if_neg y]
    · rw [o14, oi_ne (Or.inl (by omega)), o12, oi_ne (Or.inl (by omega)), o8]
      by_cases y : i = nl
      · rw [y, oi_eq, if_pos rfl]
      · rw [oi_ne (Or.inr y), if_neg y, o5, oi_ne (Or.inl (by omega))]
    · rw [o14, oi_ne (Or.inl (by omega)), o12]
      by_cases y : i = nl
      · rw [y, oi_eq, if_pos rfl]; rfl
      · rw [oi_ne (Or.inr y), if_neg y, o8, oi_ne (Or.inl (by omega)), o5, oi_ne (Or.inl (by omega))]
    · rw [if_neg (by simp), o14, oi_ne (Or.inl (by omega)), o12, oi_ne (Or.inl (by omega)), o8, oi_ne (Or.inl (by omega)), o5, oi_ne (Or.inl (by omega))]
def rdIf (T : Nat → Int32 × Int32) (k : Nat) : jRd := if (T k).1 = 14 then rdG T 2000 0 0 (k + 1) else .inl (k, [])
theorem E_X3_readLine_76 {b : Nat → Int32} {L : Nat} {m : Nat} {T : Nat → Int32 × Int32} {st : Nat → Nat} {en : Nat → Nat} {x : Nat} {nl : Nat} {k : Nat} {s : Nat} {n : Nat} {a0 : Nat} {x2 : Int32} {sa0 : Nat} {s1 : Int32} {h : jH} {q : Int32 × jH} (H : tkE b L m T st en) (ha : a0 = x + 35) (RS : rlS (oc h) x) (K : ck (oc h) (x + 1) b L m T st k) (D : dr0 (oc h) x nl s) (hn : nl < 12) (sk : s ≤ k) (hs0 : x + 28 = sa0) (hf : F_X3_readLine_76 n a0 x2 sa0 s1 h = some q) : (∀ d, rdIf T k = .inl d → q.1 = 1 ∧ ck (oc q.2) (x + 1) b L m T st d.1 ∧ s + d.2.length ≤ d.1 ∧ dr1 (oc h) (oc q.2) x nl s s1 x2 d.2) ∧ (∀ f, rdIf T k = .inr f → q.1 = 0 ∧ ck (oc q.2) (x + 1) b L m T st f) ∧ frJ x (oc h) (oc q.2) ∧ q.2.1 = h.1 := by
  unfold F_X3_readLine_76 at hf
  subst ha hs0
  replace hf := jbind hf
  obtain ⟨h77, e1, hf⟩ := hf
  replace e1 := (jcv_o e1).2
  obtain ⟨D1, f1, z1⟩ := E_X2_addLine rfl D hn e1
  have K1 : ck (oc h77) (x + 1) b L m T st k := ck_fr K (fun a j h1 h2 => f1 a j (by omega) (by omega))
  have F1 : frJ x (oc h) (oc h77) := fun a j _ u2 u3 => f1 a j (by omega) (by omega)
  have SS1 : rlS (oc h77) x := rlS_J RS F1
  replace hf := jbind hf
  obtain ⟨p81, e2, hf⟩ := hf
  have r2 := oc_gR e2
  rw [SS1.1] at r2
  cases r2
  clear e2
  replace hf := jbind hf
  obtain ⟨q86, e3, hf⟩ := hf
  replace e3 := (jcv_o e3).2
  obtain ⟨r3, f3, z3⟩ := E_X10_take K1 (by decide) e3
  replace hf := jite hf
  rcases hf with ⟨c4, hf⟩ | ⟨c4, hf⟩
  · skip
    cases hf
    -- leaf 0: ((1 : Int32), q86.2)
    rcases r3 with ⟨-, w, -⟩ | ⟨t3, w3⟩
    · exact absurd (c4.symm.trans w) (by decide)
    have E : rdIf T k = .inl (k, []) := if_neg t3
    rw [w3]
    refine ⟨fun d y => ?_, fun f y => (by rw [E] at y; cases y), F1, z1⟩
    rw [E] at y
    cases y
    exact ⟨rfl, K1, sk, D1⟩
  · skip
    replace hf := jbind hf
    obtain ⟨q94, e5, hf⟩ := hf
    replace e5 := (jcv_o e5).2
    rcases r3 with ⟨t3, -, K3⟩ | ⟨-, w⟩
    rotate_left
    · exact absurd (by rw [w]) c4
    have R1 : cc (oc h77) x b L m T st k (nl + 1) s := ⟨K1, SS1, ⟨D1.1.1, D1.1.2.2, D1.1.2.1, by omega, by omega⟩, sk⟩
    have R3 := cc_5 R1 K3 f3 (Nat.le_succ _)
    have A := lwC_p5 f3 z3 ((R_RC H 20).1 (k + 1) (nl + 1) s 0 q86.2 q94 R3 (by omega) e5)
    have E : rdIf T k = rdG T 2000 0 0 (k + 1) := if_pos t3
    replace hf := jite hf
    rcases hf with ⟨c6, hf⟩ | ⟨c6, hf⟩
    · skip
      cases hf
      -- leaf 10: ((0 : Int32), q94.2)
      refine ⟨fun d y => ?_, fun f y => ?_, frJ_tr F1 (frJ_C A.2.2.1), A.2.2.2.trans z1⟩
      · rw [E] at y; exact absurd (c6.symm.trans (A.1 d y).1) (by decide)
      · rw [E] at y; exact ⟨rfl, (A.2.1 f y).2.1⟩
    · skip
      cases hf
      -- leaf 11: ((1 : Int32), q94.2)
      refine ⟨fun d y => ?_, fun f y => ?_, frJ_tr F1 (frJ_C A.2.2.1), A.2.2.2.trans z1⟩
      · rw [E] at y
        obtain ⟨-, R9, w1, w2, w3⟩ := A.1 d y
        obtain ⟨-, d1, d2, d3, d4⟩ := D1
        refine ⟨rfl, R9.1, R9.2.2.2, ⟨R9.2.2.1.1, R9.2.2.1.2.2.1, R9.2.2.1.2.1⟩, fun i => ?_, fun i => ?_, fun i => ?_, fun i => ?_⟩
        · rw [← d1 i]; unfold oi; rw [w3 _ _ (by omega) (by omega) (by omega) (by omega)]
        · rw [← d2 i]; unfold oi; rw [w3 _ _ (by omega) (by omega) (by omega) (by omega)]
        · rw [w2 i, d3 i, List.length_map]
          by_cases z : i = nl
          · by_cases z2 : d.2 = []
            · rw [if_neg (by simp [z2]), if_pos z, if_pos z, z2]
            · rw [if_pos ⟨by omega, by simp [z2]⟩, if_pos z]
          · rw [if_neg (fun y => z (by omega)), if_neg z, if_neg z]
        · rw [w1 i, List.length_map]
          split
          · rfl
          · rw [d4 i, if_neg (by simp)]
      · rw [E] at y; exact absurd (A.2.1 f y).1 c6
theorem E_X3_readLine_27 {b : Nat → Int32} {L : Nat} {m : Nat} {T : Nat → Int32 × Int32} {st : Nat → Nat} {en : Nat → Nat} {x : Nat} {nl : Nat} {k : Nat} {s : Nat} {n : Nat} {a0 : Nat} {x1 : Int32} {h : jH} {q : Int32 × jH} (H : tkE b L m T st en) (ha : a0 = x + 35) (RS : rlS (oc h) x) (K : ck (oc h) (x + 1) b L m T st k) (D : dr0 (oc h) x nl s) (hn : nl < 12) (sk : s ≤ k) (hk : x1 = (T k).1) (hw : (T k).1 = 3 ∨ (T k).1 = 15 ∨ (T k).1 = 16) (hf : F_X3_readLine_27 n a0 x1 h = some q) : (∀ d, rdLT T (k + 1) = .inl d → q.1 = 1 ∧ ck (oc q.2) (x + 1) b L m T st d.1 ∧ s + d.2.length ≤ d.1 ∧ dr1 (oc h) (oc q.2) x nl s (kdL (T k).1) (T (k + 1)).2 d.2) ∧ (∀ f, rdLT T (k + 1) = .inr f → q.1 = 0 ∧ ck (oc q.2) (x + 1) b L m T st f) ∧ frJ x (oc h) (oc q.2) ∧ q.2.1 = h.1 := by
  unfold F_X3_readLine_27 at hf
  subst ha
  have hne : (T k).1 ≠ -1 := by rcases hw with z | z | z <;> rw [z] <;> decide
  replace hf := jbind hf
  obtain ⟨p28, e1, hf⟩ := hf
  have r1 := oc_gR e1
  rw [RS.1] at r1
  cases r1
  clear e1
  replace hf := jbind hf
  obtain ⟨h31, e2, hf⟩ := hf
  replace e2 := (jcv_o e2).2
  obtain ⟨K2, f2, z2⟩ := E_X10_skip K hne e2
  have SS2 : rlS (oc h31) x := rlS_J RS (frJ_5 f2)
  replace hf := jbind hf
  obtain ⟨p35, e3, hf⟩ := hf
  have r3 := oc_gR e3
  rw [SS2.1] at r3
  cases r3
  clear e3
  replace hf := jbind hf
  obtain ⟨q41, e4, hf⟩ := hf
  replace e4 := (jcv_o e4).2
  obtain ⟨r4, f4, z4⟩ := E_X10_takeNumber K2 e4
  have SS4 : rlS (oc q41.2) x := rlS_J SS2 (frJ_5 f4)
  have f24 : ∀ a j : Nat, ¬ (a = x + 1 ∧ j = 5) → oc q41.2 a j = oc h a j := fun a j u => (f4 a j u).trans (f2 a j u)
  have D4 : dr0 (oc q41.2) x nl s := ⟨lawS_J D.1 (frJ_5 f24), by rw [← D.2.1]; unfold oi; rw [f24 _ _ (by omega)], by rw [← D.2.2]; unfold oi; rw [f24 _ _ (by omega)]⟩
  replace hf := jite hf
  rcases hf with ⟨c5, hf⟩ | ⟨c5, hf⟩
  · skip
    cases hf
    -- leaf 0: ((0 : Int32), q41.2)
    rcases r4 with ⟨y4, w, -⟩ | ⟨y4, w⟩
    · exfalso
      have := y4.2.1
      rw [← w, c5] at this
      exact absurd this (by decide)
    have E : rdLT T (k + 1) = .inr (k + 1) := if_neg y4
    rw [w]
    refine ⟨fun d y => (by rw [E] at y; cases y), fun f y => ?_, frJ_5 f2, z2⟩
    rw [E] at y
    cases y
    exact ⟨rfl, K2⟩
  · skip
    replace hf := jbind hf
    obtain ⟨p53, e6, hf⟩ := hf
    have r6 := oc_gR e6
    rw [SS4.2.2] at r6
    cases r6
    clear e6
    replace hf := jite hf
    rcases hf with ⟨c7, hf⟩ | ⟨c7, hf⟩
    · skip
      -- leaf 10: F_X3_readLine_76 n a0 q41.1 p53 (0 : Int32) q41.2
      rcases r4 with ⟨y4, v4, K4⟩ | ⟨-, w⟩
      rotate_left
      · exact absurd (by rw [w]) c5
      obtain ⟨a1, a2, a3, a4⟩ := E_X3_readLine_76 H rfl SS4 K4 D4 hn (by omega) rfl hf
      have E : rdLT T (k + 1) = rdIf T (k + 2) := if_pos y4
      refine ⟨fun d y => ?_, fun f y => ?_, frJ_tr (frJ_5 f24) a3, a4.trans (z4.trans z2)⟩
      · rw [E] at y
        obtain ⟨b1, b2, b3, b4⟩ := a1 d y
        rw [v4] at b4
        rw [show kdL (T k).1 = 0 by rw [← hk, c7]; rfl]
        exact ⟨b1, b2, b3, dr1_5 f24 b4⟩
      · rw [E] at y; exact a2 f y
    · skip
      replace hf := jite hf
      rcases hf with ⟨c8, hf⟩ | ⟨c8, hf⟩
      · skip
        -- leaf 110: F_X3_readLine_76 n a0 q41.1 p53 (1 : Int32) q41.2
        rcases r4 with ⟨y4, v4, K4⟩ | ⟨-, w⟩
        rotate_left
        · exact absurd (by rw [w]) c5
        obtain ⟨a1, a2, a3, a4⟩ := E_X3_readLine_76 H rfl SS4 K4 D4 hn (by omega) rfl hf
        have E : rdLT T (k + 1) = rdIf T (k + 2) := if_pos y4
        refine ⟨fun d y => ?_, fun f y => ?_, frJ_tr (frJ_5 f24) a3, a4.trans (z4.trans z2)⟩
        · rw [E] at y
          obtain ⟨b1, b2, b3, b4⟩ := a1 d y
          rw [v4] at b4
          rw [show kdL (T k).1 = 1 by rw [← hk, c8]; rfl]
          exact ⟨b1, b2, b3, dr1_5 f24 b4⟩
        · rw [E] at y; exact a2 f y
      · skip
        -- leaf 111: F_X3_readLine_76 n a0 q41.1 p53 (2 : Int32) q41.2
        rcases r4 with ⟨y4, v4, K4⟩ | ⟨-, w⟩
        rotate_left
        · exact absurd (by rw [w]) c5
        obtain ⟨a1, a2, a3, a4⟩ := E_X3_readLine_76 H rfl SS4 K4 D4 hn (by omega) rfl hf
        have E : rdLT T (k + 1) = rdIf T (k + 2) := if_pos y4
        refine ⟨fun d y => ?_, fun f y => ?_, frJ_tr (frJ_5 f24) a3, a4.trans (z4.trans z2)⟩
        · rw [E] at y
          obtain ⟨b1, b2, b3, b4⟩ := a1 d y
          rw [v4] at b4
          rw [show kdL (T k).1 = 2 by rw [← hk]; unfold kdL; rw [if_neg c7, if_neg c8]]
          exact ⟨b1, b2, b3, dr1_5 f24 b4⟩
        · rw [E] at y; exact a2 f y
theorem E_X3_readLine {b : Nat → Int32} {L : Nat} {m : Nat} {T : Nat → Int32 × Int32} {st : Nat → Nat} {en : Nat → Nat} {x : Nat} {nl : Nat} {k : Nat} {s : Nat} {n : Nat} {a0 : Nat} {h : jH} {q : Int32 × jH} (H : tkE b L m T st en) (ha : a0 = x + 35) (RS : rlS (oc h) x) (K : ck (oc h) (x + 1) b L m T st k) (D : dr0 (oc h) x nl s) (hn : nl < 12) (sk : s ≤ k) (hf : F_X3_readLine n a0 h = some q) : (((T k).1 = 3 ∨ (T k).1 = 15 ∨ (T k).1 = 16) → (∀ d, rdLT T (k + 1) = .inl d → q.1 = 1 ∧ ck (oc q.2) (x + 1) b L m T st d.1 ∧ s + d.2.length ≤ d.1 ∧ dr1 (oc h) (oc q.2) x nl s (kdL (T k).1) (T (k + 1)).2 d.2) ∧ (∀ f, rdLT T (k + 1) = .inr f → q.1 = 0 ∧ ck (oc q.2) (x + 1) b L m T st f)) ∧ (¬ ((T k).1 = 3 ∨ (T k).1 = 15 ∨ (T k).1 = 16) → q.1 = 0 ∧ ck (oc q.2) (x + 1) b L m T st k) ∧ frJ x (oc h) (oc q.2) ∧ q.2.1 = h.1 := by
  unfold F_X3_readLine at hf
  subst ha
  replace hf := jbind hf
  obtain ⟨p1, e1, hf⟩ := hf
  have r1 := oc_gR e1
  rw [RS.1] at r1
  cases r1
  clear e1
  replace hf := jbind hf
  obtain ⟨v4, e2, hf⟩ := hf
  replace e2 := (jcv_o e2).2
  have r2 := E_X10_kind K e2
  replace hf := jite hf
  rcases hf with ⟨c3, hf⟩ | ⟨c3, hf⟩
  · skip
    -- leaf 0: F_X3_readLine_27 n a0 v4 h
    have hw : (T k).1 = 3 ∨ (T k).1 = 15 ∨ (T k).1 = 16 := Or.inl (r2.symm.trans c3)
    obtain ⟨a1, a2, a3, a4⟩ := E_X3_readLine_27 H rfl RS K D hn sk r2 hw hf
    exact ⟨fun _ => ⟨a1, a2⟩, fun z => absurd hw z, a3, a4⟩
  · skip
    replace hf := jite hf
    rcases hf with ⟨c4, hf⟩ | ⟨c4, hf⟩
    · skip
      -- leaf 10: F_X3_readLine_27 n a0 v4 h
      have hw : (T k).1 = 3 ∨ (T k).1 = 15 ∨ (T k).1 = 16 := Or.inr (Or.inl (r2.symm.trans c4))
      obtain ⟨a1, a2, a3, a4⟩ := E_X3_readLine_27 H rfl RS K D hn sk r2 hw hf
      exact ⟨fun _ => ⟨a1, a2⟩, fun z => absurd hw z, a3, a4⟩
    · skip
      replace hf := jite hf
      rcases hf with ⟨c5, hf⟩ | ⟨c5, hf⟩
      · skip
        -- leaf 110: F_X3_readLine_27 n a0 v4 h
        have hw : (T k).1 = 3 ∨ (T k).1 = 15 ∨ (T k).1 = 16 := Or.inr (Or.inr (r2.symm.trans c5))
        obtain ⟨a1, a2, a3, a4⟩ := E_X3_readLine_27 H rfl RS K D hn sk r2 hw hf
        exact ⟨fun _ => ⟨a1, a2⟩, fun z => absurd hw z, a3, a4⟩
      · skip
        cases hf
        -- leaf 111: ((0 : Int32), h)
        have hw : ¬ ((T k).1 = 3 ∨ (T k).1 = 15 ∨ (T k).1 = 16) := fun z => by rcases z with z | z | z; exact c3 (r2.trans z); exact c4 (r2.trans z); exact c5 (r2.trans z)
        exact ⟨fun z => absurd z hw, fun _ => ⟨rfl, K⟩, frJ_0, rfl⟩
