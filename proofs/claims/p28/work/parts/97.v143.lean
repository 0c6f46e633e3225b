/-! sums and tags, the reference -/
theorem lwR_sq {x L m s dp : Nat} {b : Nat → Int32} {st : Nat → Nat} {h h2 h3 : jH} {v : Int32} {W : jWd} {a : jRd} {f : Nat → jRd} {d : Nat × List (Int32 × Int32)} (ha : a = .inl d) (f12 : frQ x (oc h) (oc h2)) (z12 : h2.1 = h.1) (B : lwR x b L st m h2 v h3 (emW W s d.2) (s + d.2.length) dp (f d.1)) : lwR x b L st m h v h3 W s dp (sqP a f) := by
  obtain ⟨B1, B2, B3, B4⟩ := B
  refine ⟨fun r y => ?_, fun g y => ?_, frQ_tr f12 B3, B4.trans z12⟩
  · obtain ⟨d2, e, a1, a2, a3⟩ := sq_inv y
    cases ha.symm.trans a1
    subst a3
    have q := B1 e a2
    rw [← emW_app] at q
    dsimp only
    rw [List.length_append, ← Nat.add_assoc]
    exact q
  · rcases hf : f d.1 with e | e
    · rw [sq_ll ha hf] at y
      cases y
    · rw [sq_lr ha hf] at y
      cases y
      exact B2 _ hf
theorem lwR_nl {x L m s dp k : Nat} {b : Nat → Int32} {st : Nat → Nat} {h h2 : jH} {v : Int32} {W : jWd} {r : jRd} (e : r = .inl (k, [])) (hv : v = 1) (R : rr (oc h2) x b L st m k W s dp) (f : frQ x (oc h) (oc h2)) (z : h2.1 = h.1) : lwR x b L st m h v h2 W s dp r := lwR_l e hv R f z
theorem lwR_sr {x L m s dp k : Nat} {b : Nat → Int32} {st : Nat → Nat} {h h2 : jH} {v : Int32} {W : jWd} {a : jRd} {f : Nat → jRd} (A : lwR x b L st m h v h2 W s dp a) (ha : a = .inr k) : lwR x b L st m h v h2 W s dp (sqP a f) := lwR_r (sq_r ha) (A.2.1 k ha).1 (A.2.1 k ha).2 A.2.2.1 A.2.2.2
theorem E_X12_readSum_9 {n : Nat} {b : Nat → Int32} {L : Nat} {m : Nat} {T : Nat → Int32 × Int32} {st : Nat → Nat} {en : Nat → Nat} {dp : Nat} : ∀ (k : Nat) {a0 : Nat} {h : jH} {q : Int32 × jH} (F : Nat) (k0 : Nat) (W : jWd) (s : Nat) (H : tkE b L m T st en) (R : rr (oc h) a0 b L st m k0 W s dp) (hF : m < k0 + F), F_X12_readSum_9 n k a0 h = some q → lwR a0 b L st m h q.1 q.2 W s dp (rdSL T F k0)
  | 0, a0, h, q, F, k0, W, s, H, R, hF, hf => by cases hf
  | k + 1, a0, h, q, F, k0, W, s, H, R, hF, hf => by
    replace hf : F_X12_readSum_9_b n (F_X12_readSum_9 n k) a0 h = some q := hf
    unfold F_X12_readSum_9_b at hf
    obtain ⟨F, rfl⟩ : ∃ F2, F = F2 + 1 := ⟨F - 1, by have := R.2.2.2.2.2.1; omega⟩
    replace hf := jbind hf
    obtain ⟨q12, e1, hf⟩ := hf
    replace e1 := (jcv_o e1).2
    obtain ⟨d1, g1, f1, z1⟩ := T_sign (c := 43) H (by unfold sgn; decide) R.1 e1
    replace hf := jite hf
    rcases hf with ⟨c2, hf⟩ | ⟨c2, hf⟩
    · skip
      cases hf
      -- leaf 0: ((1 : Int32), q12.2)
      rcases d1 with ⟨w, -⟩ | ⟨-, t1, y1⟩
      · exact absurd (c2.symm.trans w) (by decide)
      exact lwR_nl (if_neg t1) rfl (rr_fr R f1 y1 (Nat.le_refl _) R.2.2.2.2.2.1) (fr2 f1) z1
    · skip
      replace hf := jbind hf
      obtain ⟨q19, e3, hf⟩ := hf
      replace e3 := (jcv_o e3).2
      rcases d1 with ⟨-, t1, y1⟩ | ⟨w, -⟩
      rotate_left
      · exact absurd w c2
      have km := tk_m H (k := k0) (by rw [t1]; decide)
      have R2 := rr_fr R f1 y1 (Nat.le_succ _) km
      have A := E_X12_readPart H R2 e3
      replace hf := jite hf
      rcases hf with ⟨c4, hf⟩ | ⟨c4, hf⟩
      · skip
        cases hf
        -- leaf 10: ((0 : Int32), q19.2)
        have e9 : rdSL T (F + 1) k0 = sqP (rdPart T (k0 + 1)) (fun j => sqP (.inl (j, [(12, 0)])) (fun i => rdSL T F i)) := if_pos t1
        rcases hA : rdPart T (k0 + 1) with d | f
        · exact absurd (c4.symm.trans (A.1 d hA).1) (by decide)
        obtain ⟨v3, g3⟩ := A.2.1 f hA
        rw [e9]
        exact lwR_r (sq_r hA) rfl g3 (frQ_tr (fr2 f1) A.2.2.1) (A.2.2.2.trans z1)
      · skip
        replace hf := jbind hf
        obtain ⟨h31, e5, hf⟩ := hf
        replace e5 := (jcv_o e5).2
        rcases hA : rdPart T (k0 + 1) with d | f
        rotate_left
        · exact absurd (A.2.1 f hA).1 c4
        obtain ⟨-, R4⟩ := A.1 d hA
        obtain ⟨p1, p2, p3⟩ := part_i H hA
        have sk := R.2.2.2.2.1
        obtain ⟨R5, f5, z5⟩ := rr_em R4 (by omega) e5
        -- leaf 11: rc9 a0 h31
        have e9 : rdSL T (F + 1) k0 = sqP (rdPart T (k0 + 1)) (fun j => sqP (.inl (j, [(12, 0)])) (fun i => rdSL T F i)) := if_pos t1
        have B := E_X12_readSum_9 k F d.1 _ _ H R5 (by omega) hf
        rw [e9]
        exact lwR_sq hA (frQ_tr (fr2 f1) A.2.2.1) (A.2.2.2.trans z1) (lwR_sq (f := fun i => rdSL T F i) (d := (d.1, [(12, 0)])) rfl f5 z5 B)
theorem E_X12_readSum {b : Nat → Int32} {L : Nat} {m : Nat} {T : Nat → Int32 × Int32} {st : Nat → Nat} {en : Nat → Nat} {k : Nat} {W : jWd} {s : Nat} {dp : Nat} {F : Nat} {n : Nat} {a0 : Nat} {h : jH} {q : Int32 × jH} (H : tkE b L m T st en) (R : rr (oc h) a0 b L st m k W s dp) (hF : m < k + 1 + F) (hf : F_X12_readSum n a0 h = some q) : lwR a0 b L st m h q.1 q.2 W s dp (rdSum T F k) := by
  unfold F_X12_readSum at hf
  replace hf := jbind hf
  obtain ⟨q1, e1, hf⟩ := hf
  replace e1 := (jcv_o e1).2
  have A := E_X12_readPart H R e1
  replace hf := jite hf
  rcases hf with ⟨c2, hf⟩ | ⟨c2, hf⟩
  · skip
    cases hf
    -- leaf 0: ((0 : Int32), q1.2)
    rcases hA : rdPart T k with d | f
    · exact absurd (c2.symm.trans (A.1 d hA).1) (by decide)
    obtain ⟨v3, g3⟩ := A.2.1 f hA
    exact lwR_r (sq_r hA) rfl g3 A.2.2.1 A.2.2.2
  · skip
    -- leaf 1: F_X12_readSum_9 n n a0 q1.2
    rcases hA : rdPart T k with d | f
    rotate_left
    · exact absurd (A.2.1 f hA).1 c2
    obtain ⟨-, R4⟩ := A.1 d hA
    obtain ⟨p1, p2, p3⟩ := part_i H hA
    exact lwR_sq hA A.2.2.1 A.2.2.2 (E_X12_readSum_9 n F d.1 _ _ H R4 (by omega) hf)
theorem E_X12_readTag_61 {b : Nat → Int32} {L : Nat} {m : Nat} {T : Nat → Int32 × Int32} {st : Nat → Nat} {en : Nat → Nat} {k : Nat} {W : jWd} {s : Nat} {dp : Nat} {n : Nat} {a0 : Nat} {s0 : Int32} {h : jH} {q : Int32 × jH} (H : tkE b L m T st en) (rW : wl (oc h) a0 = W ∧ oi (oc h) a0 16 = nI s ∧ oi (oc h) a0 13 = nI dp ∧ s ≤ k ∧ k ≤ m ∧ m ≤ 400) (Rw : rw2 (oc h) a0 b L st k) (hs : (s0 = -1 ∧ ¬ (7 ≤ (T k).1.toInt ∧ (T k).1.toInt ≤ 10)) ∨ ∃ w : Nat, 7 ≤ w ∧ w ≤ 10 ∧ s0 = nI w ∧ (T k).1 = nI w) (hf : F_X12_readTag_61 n a0 s0 h = some q) : ((7 ≤ (T k).1.toInt ∧ (T k).1.toInt ≤ 10 ∧ q.1 = 1 ∧ rr (oc q.2) a0 b L st m (k + 1) (emW W s [((T k).1, 0)]) (s + 1) dp) ∨ (¬ (7 ≤ (T k).1.toInt ∧ (T k).1.toInt ≤ 10) ∧ q.1 = 0 ∧ rr (oc q.2) a0 b L st m k W s dp)) ∧ frQ a0 (oc h) (oc q.2) ∧ q.2.1 = h.1 := by
  unfold F_X12_readTag_61 at hf
  obtain ⟨w1, w2, w3, w4, w5, w6⟩ := rW
  have lm : (-1 : Int32).toInt = -1 := rfl
  have l0 : (0 : Int32).toInt = 0 := rfl
  replace hf := jite hf
  rcases hf with ⟨c1, hf⟩ | ⟨c1, hf⟩
  · skip
    replace hf := jbind hf
    obtain ⟨v77, e2, hf⟩ := hf
    have r2 := oc_gI e2
    subst r2
    clear e2
    replace hf := jbind hf
    obtain ⟨h80, e3, hf⟩ := hf
    obtain ⟨o3, z3⟩ := oc_pf e3
    clear e3
    replace hf := jite hf
    rcases hf with ⟨c4, hf⟩ | ⟨c4, hf⟩
    · skip
      cases hf
      -- leaf 00: ((0 : Int32), h80)
      rcases hs with ⟨z, nt⟩ | ⟨w, ha, hb, e0, -⟩
      rotate_left
      · rw [e0, Int32.lt_iff_toInt_lt, nI_toInt (by omega)] at c1; omega
      obtain ⟨e, Rb, r9, g9⟩ := Rw
      have hL := H.1
      rw [g9] at o3
      have f3 : frQ a0 (oc h) (oc h80) := by rw [o3]; exact frQ_f (by decide)
      have R9 : rr (oc h80) a0 b L st m k W s dp := ⟨⟨st k, by rw [o3]; exact rb_pt Rb (tk_L H k), cur_0 k⟩, by rw [o3, wl_n (by omega)]; exact w1, by rw [o3, oi_ne (Or.inr (by decide))]; exact w2, by rw [o3, oi_ne (Or.inr (by decide))]; exact w3, w4, w5, w6⟩
      exact ⟨Or.inr ⟨nt, rfl, R9⟩, f3, z3⟩
    · skip
      cases hf
      -- leaf 01: ((1 : Int32), h80)
      exact absurd c1 c4
  · skip
    replace hf := jbind hf
    obtain ⟨h69, e5, hf⟩ := hf
    replace e5 := (jcv_o e5).2
    rw [Int32.lt_iff_toInt_lt] at c1
    rcases hs with ⟨z, -⟩ | ⟨w, ha, hb, e0, t0⟩
    · rw [z] at c1; omega
    have km := tk_m H (k := k) (by rw [t0]; intro z; have := congrArg Int32.toInt z; rw [nI_toInt (by omega)] at this; omega)
    have R2 : rr (oc h) a0 b L st m (k + 1) W s dp := ⟨rw_n H (by omega) Rw t0, w1, w2, w3, by omega, km, w6⟩
    obtain ⟨R5, f5, z5⟩ := rr_em R2 (by omega) e5
    rw [e0] at c1 R5
    replace hf := jite hf
    rcases hf with ⟨c6, hf⟩ | ⟨c6, hf⟩
    · skip
      cases hf
      -- leaf 10: ((0 : Int32), h69)
      exact absurd c6 (by rw [e0, Int32.lt_iff_toInt_lt, nI_toInt (by omega)]; omega)
    · skip
      cases hf
      -- leaf 11: ((1 : Int32), h69)
      rw [← t0] at R5
      exact ⟨Or.inl ⟨by rw [t0, nI_toInt (by omega)]; omega, by rw [t0, nI_toInt (by omega)]; omega, rfl, R5⟩, f5, z5⟩
theorem E_X12_readTag {b : Nat → Int32} {L : Nat} {m : Nat} {T : Nat → Int32 × Int32} {st : Nat → Nat} {en : Nat → Nat} {k : Nat} {W : jWd} {s : Nat} {dp : Nat} {n : Nat} {a0 : Nat} {h : jH} {q : Int32 × jH} (H : tkE b L m T st en) (R : rr (oc h) a0 b L st m k W s dp) (hf : F_X12_readTag n a0 h = some q) : ((7 ≤ (T k).1.toInt ∧ (T k).1.toInt ≤ 10 ∧ q.1 = 1 ∧ rr (oc q.2) a0 b L st m (k + 1) (emW W s [((T k).1, 0)]) (s + 1) dp) ∨ (¬ (7 ≤ (T k).1.toInt ∧ (T k).1.toInt ≤ 10) ∧ q.1 = 0 ∧ rr (oc q.2) a0 b L st m k W s dp)) ∧ frQ a0 (oc h) (oc q.2) ∧ q.2.1 = h.1 := by
  unfold F_X12_readTag at hf
  replace hf := jbind hf
  obtain ⟨h1, e1, hf⟩ := hf
  replace e1 := (jcv_o e1).2
  obtain ⟨Rw, f1, z1⟩ := T_letters H R.1 e1
  have rW : wl (oc h1) a0 = W ∧ oi (oc h1) a0 16 = nI s ∧ oi (oc h1) a0 13 = nI dp ∧ s ≤ k ∧ k ≤ m ∧ m ≤ 400 := ⟨(wl_f f1 (by decide)).trans R.2.1, (frM_oi f1 (by decide) (by decide)).trans R.2.2.1, (frM_oi f1 (by decide) (by decide)).trans R.2.2.2.1, R.2.2.2.2⟩
  replace hf := jbind hf
  obtain ⟨v7, e2, hf⟩ := hf
  replace e2 := (jcv_o e2).2
  have r2 := T_isWord (w := 7) H (by decide) Rw e2
  replace hf := jite hf
  rcases hf with ⟨c3, hf⟩ | ⟨c3, hf⟩
  · skip
    replace hf := jbind hf
    obtain ⟨v21, e4, hf⟩ := hf
    replace e4 := (jcv_o e4).2
    have r4 := T_isWord (w := 8) H (by decide) Rw e4
    replace hf := jite hf
    rcases hf with ⟨c5, hf⟩ | ⟨c5, hf⟩
    · skip
      replace hf := jbind hf
      obtain ⟨v35, e6, hf⟩ := hf
      replace e6 := (jcv_o e6).2
      have r6 := T_isWord (w := 9) H (by decide) Rw e6
      replace hf := jite hf
      rcases hf with ⟨c7, hf⟩ | ⟨c7, hf⟩
      · skip
        replace hf := jbind hf
        obtain ⟨v49, e8, hf⟩ := hf
        replace e8 := (jcv_o e8).2
        have r8 := T_isWord (w := 10) H (by decide) Rw e8
        replace hf := jite hf
        rcases hf with ⟨c9, hf⟩ | ⟨c9, hf⟩
        · skip
          -- leaf 0000: F_X12_readTag_61 n a0 (- 1 : Int32) h1
          have nt : ¬ (7 ≤ (T k).1.toInt ∧ (T k).1.toInt ≤ 10) := fun z => by
            obtain ⟨w, hw⟩ : ∃ w : Nat, (T k).1.toInt = (w : Int) := ⟨(T k).1.toInt.toNat, by omega⟩
            have tw : (T k).1 = nI w := nI_k hw
            rcases (by omega : w = 7 ∨ w = 8 ∨ w = 9 ∨ w = 10) with y | y | y | y <;> subst y
            · exact absurd ((r2.2.mpr tw).symm.trans c3) (by decide)
            · exact absurd ((r4.2.mpr tw).symm.trans c5) (by decide)
            · exact absurd ((r6.2.mpr tw).symm.trans c7) (by decide)
            · exact absurd ((r8.2.mpr tw).symm.trans c9) (by decide)
          obtain ⟨a1, a2, a3⟩ := E_X12_readTag_61 (W := W) (s := s) (dp := dp) H rW Rw (Or.inl ⟨rfl, nt⟩) hf
          exact ⟨a1, frQ_tr (fr2 f1) a2, a3.trans z1⟩
        · skip
          -- leaf 0001: F_X12_readTag_61 n a0 (10 : Int32) h1
          have t := r8.2.mp (r8.1.resolve_left c9)
          obtain ⟨a1, a2, a3⟩ := E_X12_readTag_61 (W := W) (s := s) (dp := dp) H rW Rw (Or.inr ⟨10, by decide, by decide, rfl, t⟩) hf
          exact ⟨a1, frQ_tr (fr2 f1) a2, a3.trans z1⟩
      · skip
        -- leaf 001: F_X12_readTag_61 n a0 (9 : Int32) h1
        have t := r6.2.mp (r6.1.resolve_left c7)
        obtain ⟨a1, a2, a3⟩ := E_X12_readTag_61 (W := W) (s := s) (dp := dp) H rW Rw (Or.inr ⟨9, by decide, by decide, rfl, t⟩) hf
        exact ⟨a1, frQ_tr (fr2 f1) a2, a3.trans z1⟩
    · skip
      -- leaf 01: F_X12_readTag_61 n a0 (8 : Int32) h1
      have t := r4.2.mp (r4.1.resolve_left c5)
      obtain ⟨a1, a2, a3⟩ := E_X12_readTag_61 (W := W) (s := s) (dp := dp) H rW Rw (Or.inr ⟨8, by decide, by decide, rfl, t⟩) hf
      exact ⟨a1, frQ_tr (fr2 f1) a2, a3.trans z1⟩
  · skip
    -- leaf 1: F_X12_readTag_61 n a0 (7 : Int32) h1
    have t := r2.2.mp (r2.1.resolve_left c3)
    obtain ⟨a1, a2, a3⟩ := E_X12_readTag_61 (W := W) (s := s) (dp := dp) H rW Rw (Or.inr ⟨7, by decide, by decide, rfl, t⟩) hf
    exact ⟨a1, frQ_tr (fr2 f1) a2, a3.trans z1⟩
