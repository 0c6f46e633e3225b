/-! sums, the class -/
def lpS (T : Nat → Int32 × Int32) (fl : Int32) (F k : Nat) : jRd := if fl = 0 then sqP (rdPart T k) (fun j => rdSL T F j) else sqP (rdPart T k) (fun j => sqP (.inl (j, [(12, 0)])) (fun i => rdSL T F i))
def gS (x : Nat) (b : Nat → Int32) (L m : Nat) (T : Nat → Int32 × Int32) (st : Nat → Nat) (rcc : Nat → Int32 → Int32 → jH → Option (Int32 × jH)) : Prop :=
  ∀ (k nl s j F : Nat) (x1 : Int32) (h : jH) (q : Int32 × jH), cc (oc h) x b L m T st k nl s → (x1 = 0 ∨ x1 = 1) → (x1 = 1 → s + 1 ≤ k) → 2 * j ≤ k → m < k + 1 + F → rcc (x + 35) x1 (nI j) h = some q → lwC x b L m T st h q.1 q.2 nl s (lpS T x1 F k)
theorem lwC_nl {x L m k nl s : Nat} {b : Nat → Int32} {T : Nat → Int32 × Int32} {st : Nat → Nat} {h h2 : jH} {v : Int32} {r : jRd} (e : r = .inl (k, [])) (hv : v = 1) (R : cc (oc h2) x b L m T st k nl s) (f : ∀ a j : Nat, ¬ (a = x + 1 ∧ j = 5) → oc h2 a j = oc h a j) (z : h2.1 = h.1) : lwC x b L m T st h v h2 nl s r := lwC_l e hv R (cwA_0 f) (frC_5 f) z
theorem cod_p {T : Nat → Int32 × Int32} {k : Nat} (h : (T k).1.toInt ≤ 10) : cod ((T k).1, 0) = (T k).1 := if_pos h
theorem cod_n {v : Int32} : cod (11, v) = 256 + v := by
  unfold cod
  rw [if_neg (show ¬ (11 : Int32).toInt ≤ 10 by decide), if_pos rfl]
theorem cc_k {O : jO} {x L m k nl s : Nat} {b : Nat → Int32} {T : Nat → Int32 × Int32} {st : Nat → Nat} (R : cc O x b L m T st k nl s) : k ≤ m ∧ m ≤ 400 := ⟨R.1.2.2.2.2.1, R.1.2.2.1⟩
theorem E_X3_readSum_94 {b : Nat → Int32} {L : Nat} {m : Nat} {T : Nat → Int32 × Int32} {st : Nat → Nat} {en : Nat → Nat} {x : Nat} {nl : Nat} {k : Nat} {s : Nat} {j : Nat} {F : Nat} {n : Nat} {rc4 : Nat → Int32 → Int32 → jH → Option (Int32 × jH)} {a0 : Nat} {x2 : Int32} {h : jH} {q : Int32 × jH} (H : tkE b L m T st en) (G : gS x b L m T st rc4) (ha : a0 = x + 35) (R : cc (oc h) x b L m T st k nl s) (hx : x2 = nI j) (hj : 2 * j + 1 ≤ k) (hF : m < k + F) (hf : F_X3_readSum_94 n rc4 a0 x2 h = some q) : lwC x b L m T st h q.1 q.2 nl s (rdSL T F k) := by
  unfold F_X3_readSum_94 at hf
  subst ha
  have kk := cc_k R
  obtain ⟨F, rfl⟩ : ∃ F2, F = F2 + 1 := ⟨F - 1, by omega⟩
  replace hf := jbind hf
  obtain ⟨p95, e1, hf⟩ := hf
  have r1 := oc_gR e1
  rw [R.2.1.1] at r1
  cases r1
  clear e1
  replace hf := jbind hf
  obtain ⟨q100, e2, hf⟩ := hf
  replace e2 := (jcv_o e2).2
  obtain ⟨r2, f2, z2⟩ := E_X10_take (x1 := 43) R.1 (by decide) e2
  have SS2 : rlS (oc q100.2) x := rlS_C R.2.1 (frC_5 f2)
  replace hf := jite hf
  rcases hf with ⟨c3, hf⟩ | ⟨c3, hf⟩
  · skip
    cases hf
    -- leaf 0: ((1 : Int32), q100.2)
    rcases r2 with ⟨-, w, -⟩ | ⟨t2, w2⟩
    · exact absurd (c3.symm.trans w) (by decide)
    rw [w2]
    exact lwC_nl (if_neg t2) rfl R (fun _ _ _ => rfl) rfl
  · skip
    -- leaf 1: rc4 a0 q100.1 (x2 + (1 : Int32)) q100.2
    rcases r2 with ⟨t2, v2, K2⟩ | ⟨-, w⟩
    rotate_left
    · exact absurd (by rw [w]) c3
    have R2 := cc_5 R K2 f2 (Nat.le_succ _)
    have sk := R.2.2.2
    rw [hx, nI_1, v2] at hf
    have B := G (k + 1) nl s (j + 1) F 1 q100.2 q R2 (Or.inr rfl) (fun _ => by omega) (by omega) (by omega) hf
    have E : rdSL T (F + 1) k = lpS T 1 F (k + 1) := (if_pos t2).trans (if_neg (by decide)).symm
    rw [E]
    exact ⟨fun d y => by
      obtain ⟨b1, b2, b3⟩ := B.1 d y
      have b4 := cwA_tr (cwA_0 (nl := nl) (s := s) f2) (by simpa using b3)
      exact ⟨b1, b2, by simpa using b4⟩, B.2.1, frC_tr (frC_5 f2) B.2.2.1, B.2.2.2.trans z2⟩
theorem E_X3_readSum_81 {b : Nat → Int32} {L : Nat} {m : Nat} {T : Nat → Int32 × Int32} {st : Nat → Nat} {en : Nat → Nat} {x : Nat} {nl : Nat} {k : Nat} {s : Nat} {j : Nat} {F : Nat} {n : Nat} {rc4 : Nat → Int32 → Int32 → jH → Option (Int32 × jH)} {a0 : Nat} {x1 : Int32} {x2 : Int32} {h : jH} {q : Int32 × jH} (H : tkE b L m T st en) (G : gS x b L m T st rc4) (ha : a0 = x + 35) (R : cc (oc h) x b L m T st k nl s) (hx : x2 = nI j) (hj : 2 * j + 1 ≤ k) (hF : m < k + F) (hs : x1 ≠ 0 → s + 1 ≤ k) (hf : F_X3_readSum_81 n rc4 a0 x1 x2 h = some q) : lwC x b L m T st h q.1 q.2 nl s (if x1 = 0 then rdSL T F k else sqP (.inl (k, [(12, 0)])) (fun i => rdSL T F i)) := by
  unfold F_X3_readSum_81 at hf
  subst ha
  replace hf := jite hf
  rcases hf with ⟨c1, hf⟩ | ⟨c1, hf⟩
  · skip
    -- leaf 0: F_X3_readSum_94 n rc4 a0 x2 h
    rw [if_pos c1]
    exact E_X3_readSum_94 H G rfl R hx hj hF hf
  · skip
    replace hf := jbind hf
    obtain ⟨p86, e2, hf⟩ := hf
    have r2 := oc_gR e2
    rw [R.2.1.2.2] at r2
    cases r2
    clear e2
    replace hf := jbind hf
    obtain ⟨h91, e3, hf⟩ := hf
    replace e3 := (jcv_o e3).2
    have hs := hs c1
    obtain ⟨R3, w3, f3, z3⟩ := cc_em R (by omega) e3
    -- leaf 1: F_X3_readSum_94 n rc4 a0 x2 h91
    rw [if_neg c1]
    have B := E_X3_readSum_94 H G rfl R3 hx hj hF hf
    exact lwC_sq (f := fun i => rdSL T F i) (d := (k, [(12, 0)])) rfl w3 f3 z3 B
theorem E_X3_readSum_47 {b : Nat → Int32} {L : Nat} {m : Nat} {T : Nat → Int32 × Int32} {st : Nat → Nat} {en : Nat → Nat} {x : Nat} {nl : Nat} {k : Nat} {s : Nat} {j : Nat} {F : Nat} {n : Nat} {rc4 : Nat → Int32 → Int32 → jH → Option (Int32 × jH)} {a0 : Nat} {x1 : Int32} {x2 : Int32} {h : jH} {q : Int32 × jH} (H : tkE b L m T st en) (G : gS x b L m T st rc4) (ha : a0 = x + 35) (R : cc (oc h) x b L m T st k nl s) (hx : x2 = nI j) (h01 : x1 = 0 ∨ x1 = 1) (hs : x1 = 1 → s + 1 ≤ k) (hj : 2 * j ≤ k) (hF : m < k + 1 + F) (np : ¬ (0 ≤ (T k).1.toInt ∧ (T k).1.toInt ≤ 6)) (hf : F_X3_readSum_47 n rc4 a0 x1 x2 h = some q) : lwC x b L m T st h q.1 q.2 nl s (lpS T x1 F k) := by
  unfold F_X3_readSum_47 at hf
  subst ha
  have sk := R.2.2.2
  replace hf := jbind hf
  obtain ⟨p48, e1, hf⟩ := hf
  have r1 := oc_gR e1
  rw [R.2.1.1] at r1
  cases r1
  clear e1
  replace hf := jbind hf
  obtain ⟨q55, e2, hf⟩ := hf
  replace e2 := (jcv_o e2).2
  obtain ⟨r2, f2, z2⟩ := E_X10_takeNumber R.1 e2
  have SS2 : rlS (oc q55.2) x := rlS_C R.2.1 (frC_5 f2)
  replace hf := jite hf
  rcases hf with ⟨c3, hf⟩ | ⟨c3, hf⟩
  · skip
    cases hf
    -- leaf 0: ((0 : Int32), q55.2)
    rcases r2 with ⟨y2, w, -⟩ | ⟨y2, w⟩
    · exfalso
      have := y2.2.1
      rw [← w, c3] at this
      exact absurd this (by decide)
    rw [w]
    have e9 : rdPart T k = .inr k := by unfold rdPart; rw [if_neg np, if_neg y2]
    unfold lpS
    split
    · exact lwC_r (sq_r e9) rfl R.1 ⟨s, R.2.2.1⟩ frC_0 rfl
    · exact lwC_r (sq_r e9) rfl R.1 ⟨s, R.2.2.1⟩ frC_0 rfl
  · skip
    replace hf := jbind hf
    obtain ⟨p69, e4, hf⟩ := hf
    have r4 := oc_gR e4
    rw [SS2.2.2] at r4
    cases r4
    clear e4
    replace hf := jbind hf
    obtain ⟨h78, e5, hf⟩ := hf
    replace e5 := (jcv_o e5).2
    rcases r2 with ⟨y2, v2, K2⟩ | ⟨-, w⟩
    rotate_left
    · exact absurd (by rw [w]) c3
    have R2 := cc_5 R K2 f2 (Nat.le_succ _)
    obtain ⟨R5, w5, f5, z5⟩ := cc_em R2 (by omega) e5
    -- leaf 1: F_X3_readSum_81 n rc4 a0 x1 x2 h78
    rw [v2] at w5
    have w6 : cwA (oc h) (oc h78) x nl s ([(11, (T k).2)].map cod) := by
      have b4 := cwA_tr (cwA_0 (nl := nl) (s := s) f2) (by simpa using w5)
      show cwA _ _ _ _ _ [cod (11, (T k).2)]
      rw [cod_n]
      simpa using b4
    have B := E_X3_readSum_81 (F := F) H G rfl R5 hx (by omega) (by omega) (fun y => by have := hs (h01.resolve_left y); omega) hf
    unfold lpS
    have e9 : rdPart T k = .inl (k + 1, [(11, (T k).2)]) := by unfold rdPart; rw [if_neg np, if_pos y2]
    by_cases y : x1 = 0
    · rw [if_pos y]
      rw [if_pos y] at B
      exact lwC_sq e9 w6 (frC_tr (frC_5 f2) f5) (z5.trans z2) B
    · rw [if_neg y]
      rw [if_neg y] at B
      exact lwC_sq (f := fun j => sqP (.inl (j, [(12, 0)])) (fun i => rdSL T F i)) e9 w6 (frC_tr (frC_5 f2) f5) (z5.trans z2) B
theorem E_X3_readSum_4 {n : Nat} {b : Nat → Int32} {L : Nat} {m : Nat} {T : Nat → Int32 × Int32} {st : Nat → Nat} {en : Nat → Nat} {x : Nat} {nl : Nat} (H : tkE b L m T st en) : ∀ (k : Nat) {a0 : Nat} {x1 : Int32} {x2 : Int32} {h : jH} {q : Int32 × jH} (k0 : Nat) (s : Nat) (j : Nat) (F : Nat) (ha : a0 = x + 35) (R : cc (oc h) x b L m T st k0 nl s) (hx : x2 = nI j) (h01 : x1 = 0 ∨ x1 = 1) (hs : x1 = 1 → s + 1 ≤ k0) (hj : 2 * j ≤ k0) (hF : m < k0 + 1 + F), F_X3_readSum_4 n k a0 x1 x2 h = some q → lwC x b L m T st h q.1 q.2 nl s (lpS T x1 F k0)
  | 0, a0, x1, x2, h, q, k0, s, j, F, ha, R, hx, h01, hs, hj, hF, hf => by cases hf
  | k + 1, a0, x1, x2, h, q, k0, s, j, F, ha, R, hx, h01, hs, hj, hF, hf => by
    replace hf : F_X3_readSum_4_b n (F_X3_readSum_4 n k) a0 x1 x2 h = some q := hf
    unfold F_X3_readSum_4_b at hf
    subst ha
    have kk := cc_k R
    have sk := R.2.2.2
    replace hf := jite hf
    rcases hf with ⟨c1, hf⟩ | ⟨c1, hf⟩
    · skip
      cases hf
      -- leaf 0: ((0 : Int32), h)
      rw [hx, Int32.le_iff_toInt_le, nI_toInt (by omega), show (400 : Int32).toInt = 400 from rfl] at c1
      omega
    · skip
      replace hf := jbind hf
      obtain ⟨p12, e2, hf⟩ := hf
      have r2 := oc_gR e2
      rw [R.2.1.1] at r2
      cases r2
      clear e2
      replace hf := jbind hf
      obtain ⟨v15, e3, hf⟩ := hf
      replace e3 := (jcv_o e3).2
      have r3 := E_X10_kind R.1 e3
      have GG : gS x b L m T st (F_X3_readSum_4 n k) := fun k2 nl2 s2 j2 F2 y1 h2 q2 a1 a2 a3 a4 a5 a6 => E_X3_readSum_4 H k k2 s2 j2 F2 rfl a1 rfl a2 a3 a4 a5 a6
      replace hf := jite hf
      rcases hf with ⟨c4, hf⟩ | ⟨c4, hf⟩
      · skip
        -- leaf 10: F_X3_readSum_47 n rc4 a0 x1 x2 h
        exact E_X3_readSum_47 H GG rfl R hx h01 hs hj hF (fun z => by rw [r3, Int32.lt_iff_toInt_lt] at c4; have l0 : (0 : Int32).toInt = 0 := rfl; omega) hf
      · skip
        replace hf := jite hf
        rcases hf with ⟨c5, hf⟩ | ⟨c5, hf⟩
        · skip
          -- leaf 110: F_X3_readSum_47 n rc4 a0 x1 x2 h
          exact E_X3_readSum_47 H GG rfl R hx h01 hs hj hF (fun z => by rw [r3, Int32.lt_iff_toInt_lt] at c5; have l6 : (6 : Int32).toInt = 6 := rfl; omega) hf
        · skip
          replace hf := jbind hf
          obtain ⟨p30, e6, hf⟩ := hf
          have r6 := oc_gR e6
          rw [R.2.1.1] at r6
          cases r6
          clear e6
          replace hf := jbind hf
          obtain ⟨h33, e7, hf⟩ := hf
          replace e7 := (jcv_o e7).2
          have np : 0 ≤ (T k0).1.toInt ∧ (T k0).1.toInt ≤ 6 := by
            rw [r3, Int32.lt_iff_toInt_lt] at c4
            rw [r3, Int32.lt_iff_toInt_lt] at c5
            have l0 : (0 : Int32).toInt = 0 := rfl
            have l6 : (6 : Int32).toInt = 6 := rfl
            omega
          obtain ⟨K7, f7, z7⟩ := E_X10_skip R.1 (fun y => by rw [y] at np; exact absurd np.1 (by decide)) e7
          have R7 := cc_5 R K7 f7 (Nat.le_succ _)
          replace hf := jbind hf
          obtain ⟨p37, e8, hf⟩ := hf
          have r8 := oc_gR e8
          rw [R7.2.1.2.2] at r8
          cases r8
          clear e8
          replace hf := jbind hf
          obtain ⟨h41, e9, hf⟩ := hf
          replace e9 := (jcv_o e9).2
          obtain ⟨R9, w9, f9, z9⟩ := cc_em R7 (by omega) e9
          -- leaf 111: F_X3_readSum_81 n rc4 a0 x1 x2 h41
          rw [r3] at w9
          have w6 : cwA (oc h) (oc h41) x nl s ([((T k0).1, 0)].map cod) := by
            have b4 := cwA_tr (cwA_0 (nl := nl) (s := s) f7) (by simpa using w9)
            show cwA _ _ _ _ _ [cod ((T k0).1, 0)]
            rw [cod_p (by omega)]
            simpa using b4
          have B := E_X3_readSum_81 (F := F) H GG rfl R9 hx (by omega) (by omega) (fun y => by have := hs (h01.resolve_left y); omega) hf
          unfold lpS
          have e9 : rdPart T k0 = .inl (k0 + 1, [((T k0).1, 0)]) := by unfold rdPart; rw [if_pos np]
          by_cases y : x1 = 0
          · rw [if_pos y]
            rw [if_pos y] at B
            exact lwC_sq e9 w6 (frC_tr (frC_5 f7) f9) (z9.trans z7) B
          · rw [if_neg y]
            rw [if_neg y] at B
            exact lwC_sq (f := fun j => sqP (.inl (j, [(12, 0)])) (fun i => rdSL T F i)) e9 w6 (frC_tr (frC_5 f7) f9) (z9.trans z7) B
theorem E_X3_readSum {b : Nat → Int32} {L : Nat} {m : Nat} {T : Nat → Int32 × Int32} {st : Nat → Nat} {en : Nat → Nat} {x : Nat} {nl : Nat} {k : Nat} {s : Nat} {F : Nat} {n : Nat} {a0 : Nat} {h : jH} {q : Int32 × jH} (H : tkE b L m T st en) (ha : a0 = x + 35) (R : cc (oc h) x b L m T st k nl s) (hF : m < k + 1 + F) (hf : F_X3_readSum n a0 h = some q) : lwC x b L m T st h q.1 q.2 nl s (rdSum T F k) := by
  unfold F_X3_readSum at hf
  subst ha
  -- leaf : F_X3_readSum_4 n n a0 (0 : Int32) (0 : Int32) h
  exact E_X3_readSum_4 H n k s 0 F rfl R rfl (Or.inl rfl) (fun z => absurd z (by decide)) (by omega) hF hf
