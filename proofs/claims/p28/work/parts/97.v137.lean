/-! building the relation anew behind a text, or behind back -/
theorem im_k2 {O O2 : jO} {x z z2 : Nat} (fr : ∀ a k : Nat, ((a = x ∧ (k = 10 ∨ k = 11)) ∨ a = x + 42 ∨ (a = x + 40 ∧ k = 6) ∨ (x + 52 < a ∧ a < z ∧ ∀ s b : Nat, s < 12 → O (x + 20) s = .ref b → a < b ∨ b + 6 < a)) → O2 a k = O a k)
    (sl : ∀ s b : Nat, s < 12 → O2 (x + 20) s = .ref b → O (x + 20) s = .ref b ∨ z ≤ b) (hz : z ≤ z2) (S2 : rdrS O2 x) (F2 : oi O2 x 12 = oi O2 (x + 40) 14) (I : imE O z x) : imE O2 z2 x := by
  obtain ⟨-, -, I⟩ := I
  have fi : ∀ a k : Nat, (a = x + 42 ∨ (a = x + 40 ∧ k = 6)) → oi O2 a k = oi O a k := fun a k h => by unfold oi; rw [fr a k (by omega)]
  have ew : iwl O2 x = iwl O x := funext fun k => fi _ _ (by omega)
  refine ⟨S2, F2, ?_⟩
  rcases I with ⟨a1, a2, a3⟩ | ⟨kr, kl, ⟨a1, a2, a3⟩, ⟨b1, b2, b3, b4, b5⟩, ⟨c1, c2, c3, c4, c5⟩, d⟩
  · exact Or.inl ⟨(fr _ _ (by omega)).trans a1, (fr _ _ (by omega)).trans a2, (fi _ _ (by omega)).trans a3⟩
  · refine Or.inr ⟨kr, kl, ⟨(fr _ _ (by omega)).trans a1, (fr _ _ (by omega)).trans a2, (fi _ _ (by omega)).trans a3⟩, ?_, ⟨c1, by omega, c3, by omega, c5⟩, fun s b hs e => ?_⟩
    · rw [ew]
      refine ⟨rodE_fr b1 (fun a k h1 h2 => fr a k ?_), lawE_fr b2 (fun a k h1 h2 h3 => fr a k ?_), b3, b4, b5⟩
      · exact Or.inr (Or.inr (Or.inr ⟨by omega, by omega, fun s b hs e => by have := (d s b hs e).1; omega⟩))
      · exact Or.inr (Or.inr (Or.inr ⟨by omega, by omega, fun s b hs e => by have := (d s b hs e).2; omega⟩))
    · rcases sl s b hs e with y | y
      · exact d s b hs y
      · exact ⟨by omega, by omega⟩
/-- the cells that a text or back may change -/
def txc (x a k : Nat) : Prop := (a = x ∧ k = 12) ∨ (a = x + 1 ∧ 4 ≤ k ∧ k ≤ 6) ∨ (x + 3 ≤ a ∧ a ≤ x + 18) ∨ (a = x + 19 ∧ k = 2) ∨ (x + 21 ≤ a ∧ a ≤ x + 33) ∨ a = x + 41 ∨ a = x + 43 ∨ (a = x + 40 ∧ (k = 0 ∨ k = 7 ∨ (9 ≤ k ∧ k ≤ 14) ∨ k = 16))
theorem eq_bld {x nx r L L2 r2 : Nat} {W W2 : jWd} {h h3 : jH} (E : eqS x nx r L W h) (f : ∀ a k : Nat, ¬ txc x a k → oc h3 a k = oc h a k) (dz : h3.1 = h.1)
    (A2 : (r2 = 0 ∧ oi (oc h3) (x + 19) 2 = 0 ∧ oi (oc h3) (x + 40) 7 = 0) ∨ (r2 = r ∧ oi (oc h3) (x + 19) 2 = oi (oc h) (x + 19) 2 ∧ oi (oc h3) (x + 40) 7 = oi (oc h) (x + 40) 7 ∧ oi (oc h3) (x + 13) 7 = oi (oc h) (x + 13) 7))
    (W2E : rodE (oc h3) (x + 6) W2 ∧ wl (oc h3) (x + 40) = W2 ∧ wOK W2 ∧ lawE (oc h3) (x + 13) W2 ∧ lawK W2 ∧ lawB W2) (T2 : oi (oc h3) (x + 1) 6 = nI L2 ∧ oi (oc h3) (x + 40) 9 = nI L2 ∧ L2 ≤ 400) (D2 : rodS (oc h3) (x + 21) ∧ lawS (oc h3) (x + 28)) (F2 : oi (oc h3) x 12 = oi (oc h3) (x + 40) 14) : eqS x nx r2 L2 W2 h3 := by
  obtain ⟨⟨e0, e1, e3, e8, e36, e19, ⟨t0, t1, t2, t3⟩, s1, s2, s3, s4, s5, s8, s15, s17, s19, s20, s21⟩, ⟨n1, n2, n3, n4, n5, n6, S, P, A⟩, -, ⟨l1, l2, l3, l4, I⟩⟩ := E
  have g : ∀ a k : Nat, ¬ txc x a k → oi (oc h3) a k = oi (oc h) a k := fun a k z => by unfold oi; rw [f a k z]
  have c : ∀ k : Nat, k ≤ 11 → oc h3 x k = oc h x k := fun k z => f _ _ (by unfold txc; omega)
  have m : ∀ k : Nat, k = 1 ∨ k = 2 ∨ k = 3 ∨ k = 4 ∨ k = 5 ∨ k = 8 ∨ k = 15 ∨ k = 17 ∨ k = 19 ∨ k = 20 ∨ k = 21 → oc h3 (x + 40) k = oc h (x + 40) k := fun k z => f _ _ (by unfold txc; omega)
  have t : ∀ k : Nat, k ≤ 3 → oc h3 (x + 1) k = oc h (x + 1) k := fun k z => f _ _ (by unfold txc; omega)
  obtain ⟨q1, q2⟩ := slot_keep (O2 := oc h3) (z2 := h3.1) (fun a k z => f a k (by unfold txc; omega)) (by omega) S P
  obtain ⟨⟨u1, u2, u3, u4, u5, u6⟩, ⟨v1, v2, v3⟩, ⟨w1, w2, w3⟩, ⟨y1, y2, y3, y4, y5⟩, -, -⟩ := I.1
  have S3 : rdrS (oc h3) x := ⟨⟨(c _ (by omega)).trans u1, (c _ (by omega)).trans u2, (c _ (by omega)).trans u3, (c _ (by omega)).trans u4, (c _ (by omega)).trans u5, (c _ (by omega)).trans u6⟩,
    ⟨(f _ _ (by unfold txc; omega)).trans v1, (f _ _ (by unfold txc; omega)).trans v2, (f _ _ (by unfold txc; omega)).trans v3⟩, ⟨(f _ _ (by unfold txc; omega)).trans w1, (f _ _ (by unfold txc; omega)).trans w2, (f _ _ (by unfold txc; omega)).trans w3⟩,
    ⟨(f _ _ (by unfold txc; omega)).trans y1, (f _ _ (by unfold txc; omega)).trans y2, (f _ _ (by unfold txc; omega)).trans y3, (f _ _ (by unfold txc; omega)).trans y4, (f _ _ (by unfold txc; omega)).trans y5⟩, D2.1, D2.2⟩
  have I3 : imE (oc h3) h3.1 x := im_k2 (O := oc h) (z := h.1) (fun a k z => f a k (by unfold txc; omega)) (fun s d hs e => Or.inl (by rw [← f (x + 20) s (by unfold txc; omega)]; exact e)) (by omega) S3 F2 I
  have AA : (oi (oc h3) (x + 19) 2).toInt = (r2 : Int) ∧ oi (oc h3) (x + 40) 7 = nI r2 ∧ r2 ≤ 12 ∧ actE (oc h3) x (x + 40) r2 nx := by
    rcases A2 with ⟨a1, a2, a3⟩ | ⟨a1, a2, a3, a4⟩
    · subst a1
      exact ⟨by rw [a2]; rfl, a3, by omega, fun j hj => by omega⟩
    · subst a1
      refine ⟨by rw [a2]; exact n3, a3.trans n4, n5, ?_⟩
      intro j hj
      obtain ⟨d, V, b1, b2, b3, b4, b5⟩ := A j hj
      have l : x + 52 < d := by
        rcases S ((nx + 11 - j) % 12) (by omega) with q | ⟨d2, q, q1, q2, q3⟩
        · rw [q] at b1; cases b1
        · rw [q] at b1; cases b1; exact q2
      refine ⟨d, V, (f _ _ (by unfold txc; omega)).trans b1, rodE_fr b2 (fun a k h1 h2 => f _ _ (by unfold txc; omega)), b3, fun k hk => (b4 k hk).trans (g _ _ (by unfold txc; omega)).symm, b5.trans a4.symm⟩
  obtain ⟨aa1, aa2, aa3, aa4⟩ := AA
  refine ⟨⟨(c _ (by omega)).trans e0, (c _ (by omega)).trans e1, (c _ (by omega)).trans e3, (c _ (by omega)).trans e8, (f _ _ (by unfold txc; omega)).trans e36, (f _ _ (by unfold txc; omega)).trans e19, ⟨(t _ (by omega)).trans t0, (t _ (by omega)).trans t1, (t _ (by omega)).trans t2, (t _ (by omega)).trans t3⟩,
    (m _ (by omega)).trans s1, (m _ (by omega)).trans s2, (m _ (by omega)).trans s3, (m _ (by omega)).trans s4, (m _ (by omega)).trans s5, (m _ (by omega)).trans s8, (m _ (by omega)).trans s15, (m _ (by omega)).trans s17, (m _ (by omega)).trans s19, (m _ (by omega)).trans s20, (m _ (by omega)).trans s21⟩,
    ⟨(g _ _ (by unfold txc; omega)).trans n1, n2, aa1, aa2, aa3, by omega, q1, q2, aa4⟩, W2E, ⟨T2.1, T2.2.1, T2.2.2, fun i hi => ?_, I3⟩⟩
  rw [g _ _ (by unfold txc; omega), g _ _ (by unfold txc; omega)]
  exact l4 i hi
theorem E_X11_pole {b : Nat → Int32} {L : Nat} {x : Nat} {W : jWd} {n : Nat} {a0 : Nat} {h : jH} {q : jR × jH} (ha : x = a0) (X0 : oc h x 0 = .ref (x + 1)) (X1 : oc h x 1 = .ref (x + 6)) (X3 : oc h x 3 = .ref (x + 19)) (I : rdrS (oc h) x) (C : ctb (oc h) (x + 1) b L) (R : rodE (oc h) (x + 6) W) (K : wOK W) (J : jlen h (x + 24) = some 8 ∧ jlen h (x + 25) = some 8) (hf : F_X11_pole n a0 h = some q) : ∃ (m : Nat) (T : Nat → Int32 × Int32) (st en : Nat → Nat), tkE b L m T st en ∧ (∀ f, (if (T 0).1 = -1 then .inl W else rdLines (rdPole T) T 14 W 0) = .inr f → q.1 = .inr 0 ∧ oi (oc q.2) x 12 = nI (st f) ∧ (∀ a k : Nat, ¬ (a = x ∧ k = 12) → ¬ (a = x + 1 ∧ 4 ≤ k ∧ k ≤ 6) → ¬ (x + 3 ≤ a ∧ a ≤ x + 5) → ¬ (x + 21 ≤ a ∧ a ≤ x + 27) → oc q.2 a k = oc h a k)) ∧ (∀ W2, (if (T 0).1 = -1 then .inl W else rdLines (rdPole T) T 14 W 0) = .inl W2 → okW W W2 ∧ oi (oc q.2) x 12 = -1 ∧ ((¬ W 1 < 12 ∧ q.1 = .inr 3 ∧ (∀ a k : Nat, ¬ (a = x ∧ k = 12) → ¬ (a = x + 1 ∧ 4 ≤ k ∧ k ≤ 6) → ¬ (x + 3 ≤ a ∧ a ≤ x + 5) → ¬ (x + 21 ≤ a ∧ a ≤ x + 27) → oc q.2 a k = oc h a k)) ∨ (W 1 < 12 ∧ q.1 = .inl (W2 1 + 1) ∧ rodE (oc q.2) (x + 6) (upd W2 1 (W2 1 + 1)) ∧ oi (oc q.2) (x + 19) 2 = 0 ∧ (∀ a k : Nat, ¬ (a = x ∧ k = 12) → ¬ (a = x + 1 ∧ 4 ≤ k ∧ k ≤ 6) → ¬ (x + 3 ≤ a ∧ a ≤ x + 5) → ¬ (x + 6 ≤ a ∧ a ≤ x + 12) → ¬ (a = x + 19 ∧ k = 2) → ¬ (x + 21 ≤ a ∧ a ≤ x + 27) → oc q.2 a k = oc h a k)))) ∧ oi (oc q.2) (x + 1) 6 = 0 ∧ rodS (oc q.2) (x + 21) ∧ q.2.1 = h.1 := by
  unfold F_X11_pole at hf
  subst ha
  replace hf := jbind hf
  obtain ⟨p1, e1, hf⟩ := hf
  have r1 := oc_gR e1
  rw [I.1.2.1] at r1
  cases r1
  clear e1
  replace hf := jbind hf
  obtain ⟨p5, e2, hf⟩ := hf
  have r2 := oc_gR e2
  rw [X1] at r2
  cases r2
  clear e2
  replace hf := jbind hf
  obtain ⟨h8, e3, hf⟩ := hf
  replace e3 := (jcv_o e3).2
  have S34 : rrS (oc h) x := I.2.1
  have sd := I.2.2.2.2.1
  obtain ⟨R3, f3, z3⟩ := E_X8_copyFrom (d := x + 21) (r := x + 6) rfl rfl (by omega) sd R K e3
  have J3 : jlen h8 (x + 24) = some 8 ∧ jlen h8 (x + 25) = some 8 := ⟨Ln_X8_copyFrom e3 _ _ J.1, Ln_X8_copyFrom e3 _ _ J.2⟩
  have S3 : rrS (oc h8) x := rrS_D S34 (frD_R f3)
  have C3 : ctb (oc h8) (x + 1) b L := ctb_fr C (fun a k u => f3 _ _ (by omega))
  have g3 : ∀ k, oc h8 x k = oc h x k := fun k => f3 _ _ (by omega)
  have x6 : oc h8 x 6 = .ref (x + 34) := (g3 6).trans I.1.2.2.2.1
  replace hf := jbind hf
  obtain ⟨p13, e4, hf⟩ := hf
  have r4 := oc_gR e4
  rw [x6] at r4
  cases r4
  clear e4
  replace hf := jbind hf
  obtain ⟨q16, e5, hf⟩ := hf
  replace e5 := (jcv_o e5).2
  obtain ⟨m, T, st, en, H, r5, f5, z5⟩ := E_X4_read_R C3 S3 rfl R3 K J3 e5
  have g5 : ∀ k, oc q16.2 x k = oc h x k := fun k => (f5 _ _ (by omega) (by omega) (by omega)).trans (g3 k)
  have x0 : oc q16.2 x 0 = .ref (x + 1) := (g5 0).trans X0
  have x1 : oc q16.2 x 1 = .ref (x + 6) := (g5 1).trans X1
  have x3 : oc q16.2 x 3 = .ref (x + 19) := (g5 3).trans X3
  have x4 : oc q16.2 x 4 = .ref (x + 21) := (g5 4).trans I.1.2.1
  replace hf := jbind hf
  obtain ⟨h19, e6, hf⟩ := hf
  obtain ⟨o6, z6⟩ := oc_pf e6
  clear e6
  replace hf := jbind hf
  obtain ⟨p23, e7, hf⟩ := hf
  have r7 := oc_gR e7
  rw [o6] at r7
  rw [u2_ne (Or.inr (by decide))] at r7
  rw [x0] at r7
  cases r7
  clear e7
  replace hf := jbind hf
  obtain ⟨h27, e8, hf⟩ := hf
  obtain ⟨o8, z8⟩ := oc_pf e8
  clear e8
  replace hf := jbind hf
  obtain ⟨v31, e9, hf⟩ := hf
  have r9 := oc_gI e9
  rw [o8] at r9
  rw [oi_ne (Or.inl (by omega))] at r9
  rw [o6] at r9
  rw [oi_eq] at r9
  subst r9
  clear e9
  have q27 : ∀ a k : Nat, ¬ (a = x ∧ k = 12) → ¬ (a = x + 1 ∧ k = 6) → oc h27 a k = oc q16.2 a k := fun a k u1 u2 => by rw [o8, u2_ne (by omega), o6, u2_ne (by omega)]
  have f27 : ∀ a k : Nat, ¬ (a = x ∧ k = 12) → ¬ (a = x + 1 ∧ 4 ≤ k ∧ k ≤ 6) → ¬ (x + 3 ≤ a ∧ a ≤ x + 5) → ¬ (x + 21 ≤ a ∧ a ≤ x + 27) → oc h27 a k = oc h a k := fun a k u1 u2 u3 u4 => (q27 a k u1 (by omega)).trans ((f5 a k (by omega) (by omega) (by omega)).trans (f3 a k (by omega)))
  have g27 : oi (oc h27) (x + 1) 6 = 0 := by rw [o8, oi_eq]
  have n27 : oi (oc h27) x 12 = q16.1 := by rw [o8, oi_ne (Or.inl (by omega)), o6, oi_eq]
  have z27 : h27.1 = h.1 := z8.trans (z6.trans (z5.trans z3))
  replace hf := jite hf
  rcases hf with ⟨c10, hf⟩ | ⟨c10, hf⟩
  · skip
    replace hf := jbind hf
    obtain ⟨p49, e11, hf⟩ := hf
    have r11 := oc_gR e11
    rw [o8] at r11
    rw [u2_ne (Or.inl (by omega))] at r11
    rw [o6] at r11
    rw [u2_ne (Or.inr (by decide))] at r11
    rw [x1] at r11
    cases r11
    clear e11
    replace hf := jbind hf
    obtain ⟨v52, e12, hf⟩ := hf
    have r12 := oc_gI e12
    rw [o8] at r12
    rw [oi_ne (Or.inl (by omega))] at r12
    rw [o6] at r12
    rw [oi_ne (Or.inl (by omega))] at r12
    subst r12
    clear e12
    rcases hR : (if (T 0).1 = -1 then .inl W else rdLines (rdPole T) T 14 W 0) with W2 | f
    rotate_left
    · exfalso
      have y := (r5.2 f hR).1
      rw [c10] at y
      have sl := tk_L H f
      have hL := H.1
      exact nI_ng (x := -1) (by omega) (by decide) y
    have RW2 := (r5.1 W2 hR).2
    have ok : okW W W2 := by
      split at hR
      · cases hR; exact ⟨K, fun _ _ => rfl⟩
      · exact rdLines_ok 14 K hR
    have R12 : oi (oc q16.2) (x + 6) 17 = W 1 := by
      unfold oi
      rw [f5 _ _ (by omega) (by omega) (by omega), f3 _ _ (by omega)]
      exact R.2.1.2.2.2.2.2.2.2.2
    replace hf := jite hf
    rcases hf with ⟨c13, hf⟩ | ⟨c13, hf⟩
    · skip
      replace hf := jbind hf
      obtain ⟨p71, e14, hf⟩ := hf
      have r14 := oc_gR e14
      rw [o8] at r14
      rw [u2_ne (Or.inl (by omega))] at r14
      rw [o6] at r14
      rw [u2_ne (Or.inr (by decide))] at r14
      rw [x4] at r14
      cases r14
      clear e14
      replace hf := jbind hf
      obtain ⟨v75, e15, hf⟩ := hf
      have r15 := oc_gI e15
      rw [o8] at r15
      rw [oi_ne (Or.inl (by omega))] at r15
      rw [o6] at r15
      rw [oi_ne (Or.inl (by omega))] at r15
      subst r15
      clear e15
      have w17 : oi (oc q16.2) (x + 21) 17 + 1 = W2 1 + 1 := by rw [RW2.2.1.2.2.2.2.2.2.2.2]
      replace hf := jbind hf
      obtain ⟨h80, e16, hf⟩ := hf
      obtain ⟨o16, z16⟩ := oc_pf e16
      clear e16
      replace hf := jbind hf
      obtain ⟨p84, e17, hf⟩ := hf
      have r17 := oc_gR e17
      rw [o16] at r17
      rw [u2_ne (Or.inl (by omega))] at r17
      rw [o8] at r17
      rw [u2_ne (Or.inl (by omega))] at r17
      rw [o6] at r17
      rw [u2_ne (Or.inr (by decide))] at r17
      rw [x1] at r17
      cases r17
      clear e17
      replace hf := jbind hf
      obtain ⟨p88, e18, hf⟩ := hf
      have r18 := oc_gR e18
      rw [o16] at r18
      rw [u2_ne (Or.inl (by omega))] at r18
      rw [o8] at r18
      rw [u2_ne (Or.inl (by omega))] at r18
      rw [o6] at r18
      rw [u2_ne (Or.inr (by decide))] at r18
      rw [x4] at r18
      cases r18
      clear e18
      replace hf := jbind hf
      obtain ⟨h91, e19, hf⟩ := hf
      replace e19 := (jcv_o e19).2
      have R16 : rodE (oc h80) (x + 21) (upd W2 1 (W2 1 + 1)) := by
        rw [o16, w17]
        exact rodE_i17 (rodE_fr RW2 (fun a k u1 u2 => q27 a k (by omega) (by omega)))
      have f80 : ∀ a k : Nat, ¬ (a = x + 21 ∧ k = 17) → oc h80 a k = oc h27 a k := fun a k u => by rw [o16, u2_ne (by omega)]
      have sr : rodS (oc h80) (x + 6) := by have := R.1; exact rodS_fr this (fun k => (f80 _ _ (by omega)).trans (f27 _ _ (by omega) (by omega) (by omega) (by omega))) ((f80 _ _ (by omega)).trans (f27 _ _ (by omega) (by omega) (by omega) (by omega)))
      have K16 : wOK (upd W2 1 (W2 1 + 1)) := wOK_1 ok.1 (by rw [ok.2 1 (Or.inl rfl)]; have k11 := K.2.2.2.2.2.2.2.2.2.2; have c13 := c13; rw [R12, Int32.lt_iff_toInt_lt, show (12 : Int32).toInt = 12 from rfl] at c13; have l1 : (1 : Int32).toInt = 1 := rfl; rw [jadd (by omega) (by omega)]; omega)
      obtain ⟨R19, f19, z19⟩ := E_X8_copyFrom (d := x + 6) (r := x + 21) rfl rfl (by omega) sr R16 K16 e19
      have x1c : oc h91 x 1 = .ref (x + 6) := (f19 _ _ (by omega)).trans ((f80 _ _ (by omega)).trans ((f27 _ _ (by omega) (by omega) (by omega) (by omega)).trans X1))
      have x3c : oc h91 x 3 = .ref (x + 19) := (f19 _ _ (by omega)).trans ((f80 _ _ (by omega)).trans ((f27 _ _ (by omega) (by omega) (by omega) (by omega)).trans X3))
      replace hf := jbind hf
      obtain ⟨p95, e20, hf⟩ := hf
      have r20 := oc_gR e20
      rw [x3c] at r20
      cases r20
      clear e20
      replace hf := jbind hf
      obtain ⟨h98, e21, hf⟩ := hf
      replace e21 := (jcv_o e21).2
      obtain ⟨o21, z21⟩ := E_X0_forget e21
      replace hf := jbind hf
      obtain ⟨p102, e22, hf⟩ := hf
      have r22 := oc_gR e22
      rw [o21] at r22
      rw [u2_ne (Or.inl (by omega))] at r22
      rw [x1c] at r22
      cases r22
      clear e22
      replace hf := jbind hf
      obtain ⟨v105, e23, hf⟩ := hf
      have r23 := oc_gI e23
      rw [o21] at r23
      rw [oi_ne (Or.inl (by omega))] at r23
      subst r23
      clear e23
      cases hf
      -- leaf 00: (.inl v105, h98)
      have cw : W 1 < 12 := by rw [← R12]; exact c13
      have f98 : ∀ a k : Nat, ¬ (a = x ∧ k = 12) → ¬ (a = x + 1 ∧ 4 ≤ k ∧ k ≤ 6) → ¬ (x + 3 ≤ a ∧ a ≤ x + 5) → ¬ (x + 6 ≤ a ∧ a ≤ x + 12) → ¬ (a = x + 19 ∧ k = 2) → ¬ (x + 21 ≤ a ∧ a ≤ x + 27) → oc h98 a k = oc h a k := fun a k u1 u2 u3 u4 u5 u6 => by rw [o21, u2_ne (by omega), f19 a k (by omega), f80 a k (by omega)]; exact f27 a k u1 u2 u3 u6
      have k98 : ∀ a k : Nat, ¬ (x + 6 ≤ a ∧ a ≤ x + 12) → ¬ (a = x + 19 ∧ k = 2) → ¬ (a = x + 21 ∧ k = 17) → oc h98 a k = oc h27 a k := fun a k u1 u2 u3 => by rw [o21, u2_ne (by omega), f19 a k (by omega), f80 a k (by omega)]
      have R98 : rodE (oc h98) (x + 6) (upd W2 1 (W2 1 + 1)) := rodE_fr R19 (fun a k u1 u2 => by rw [o21, u2_ne (by omega)])
      have a98 : oi (oc h91) (x + 6) 17 = W2 1 + 1 := by rw [R19.2.1.2.2.2.2.2.2.2.2, upd_eq]
      refine ⟨m, T, st, en, H, fun f y => (by rw [hR] at y; cases y), fun W3 y => ?_, ?_, ?_, ?_⟩
      · rw [hR] at y
        cases y
        refine ⟨ok, ?_, Or.inr ⟨cw, by rw [a98], R98, ?_, f98⟩⟩
        · show oi (oc h98) x 12 = -1
          unfold oi
          rw [k98 _ _ (by omega) (by omega) (by omega)]
          exact n27.trans c10
        · show oi (oc h98) (x + 19) 2 = 0
          rw [o21, oi_eq]
      · show oi (oc h98) (x + 1) 6 = 0
        unfold oi
        rw [k98 _ _ (by omega) (by omega) (by omega)]
        exact g27
      · exact rodS_fr R16.1 (fun k => by show oc h98 _ _ = _; rw [o21, u2_ne (by omega), f19 _ _ (by omega)]) (by show oc h98 _ _ = _; rw [o21, u2_ne (by omega), f19 _ _ (by omega)])
      · exact z21.trans (z19.trans (z16.trans z27))
    · skip
      cases hf
      -- leaf 01: (.inr 3, h27)
      have cw : ¬ W 1 < 12 := by rw [← R12]; exact c13
      refine ⟨m, T, st, en, H, fun f y => (by rw [hR] at y; cases y), fun W3 y => ?_, g27, rodS_fr RW2.1 (fun k => q27 _ _ (by omega) (by omega)) (q27 _ _ (by omega) (by omega)), z27⟩
      rw [hR] at y
      cases y
      exact ⟨ok, n27.trans c10, Or.inl ⟨cw, rfl, f27⟩⟩
  · skip
    cases hf
    -- leaf 1: (.inr 0, h27)
    rcases hR : (if (T 0).1 = -1 then .inl W else rdLines (rdPole T) T 14 W 0) with W2 | f
    · exact absurd (r5.1 W2 hR).1 c10
    obtain ⟨v5, s5⟩ := r5.2 f hR
    refine ⟨m, T, st, en, H, fun f2 y => ?_, fun W3 y => (by rw [hR] at y; cases y), g27, rodS_fr s5 (fun k => q27 _ _ (by omega) (by omega)) (q27 _ _ (by omega) (by omega)), z27⟩
    rw [hR] at y
    cases y
    exact ⟨rfl, n27.trans v5, f27⟩
