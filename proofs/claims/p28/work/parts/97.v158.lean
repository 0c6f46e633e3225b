/-! law keeps the relation -/
theorem tyR_cc {W W2 : jWd} (h : ∀ k, 436 ≤ k → k < 1284 → W2 k = W k) (a : Nat) : ∀ k, a + k ≤ 400 → tyR W2 a k = tyR W a k
  | 0, _ => rfl
  | k + 1, hk => by
    unfold tyR
    rw [tyR_cc h a k (by omega), h _ (by omega) (by omega)]
theorem linE_cb {O : jO} {l n : Nat} {W W2 : jWd} (D : linE O l W n) (hn : n ≤ 12) (h : ∀ k, 436 ≤ k → k < 1284 → W2 k = W k) : linE O l W2 n := by
  intro i hi
  obtain ⟨a1, a2, a3, a4, a5, a6, a7, a8, a9, a10, a11⟩ := D i hi
  have h4 : (if i = 0 then 0 else W2 (439 + 4 * (i - 1))) = (if i = 0 then 0 else W (439 + 4 * (i - 1)) : Int32) := by
    split
    · rfl
    · exact h _ (by omega) (by omega)
  rw [h4, h (436 + 4 * i) (by omega) (by omega), h (437 + 4 * i) (by omega) (by omega), h (438 + 4 * i) (by omega) (by omega), h (439 + 4 * i) (by omega) (by omega)]
  refine ⟨a1, a2, a3, a4, a5, a6, a7, a8, a9, fun j u w => ?_, ?_⟩
  · rw [h _ (by omega) (by omega), h _ (by omega) (by omega)]; exact a10 j u w
  · rw [tyR_cc h _ _ (by omega)]; exact a11
theorem lawW_lo {W : jWd} {S : List jLn} {k : Nat} (h : k < 435) (h2 : k ≠ 2) : lawW W S k = W k := by
  unfold lawW
  rw [if_neg h2, if_neg (by omega), if_neg (by omega), if_neg (by omega)]
  exact lwS_lo (by omega)
theorem lawW_E {O : jO} {x : Nat} {W : jWd} {S : List jLn} (LS : lawS O (x + 28)) (g7 : oi O (x + 28) 7 = 1) (g8 : oi O (x + 28) 8 = nI (lwS W S).2.1) (hn : (lwS W S).2.1 ≤ 12) (D : dE O x (lwS W S).1 (lwS W S).2.1 (lwS W S).2.2) : lawE O (x + 28) (lawW W S) := by
  have w2 : lawW W S 2 = 1 := if_pos rfl
  have w435 : lawW W S 435 = nI (lwS W S).2.1 := by
    unfold lawW
    rw [if_neg (by decide), if_pos rfl]
  refine ⟨LS, by rw [w2]; exact g7, Or.inr w2, fun _ => ⟨by rw [w435]; exact g8, by rw [w435, nI_toInt (by omega)]; omega, ?_⟩⟩
  rw [w435, nI_toInt (by omega), show ((lwS W S).2.1 : Int).toNat = (lwS W S).2.1 by omega]
  refine linE_cb D.1 hn fun k h1 h2 => ?_
  unfold lawW
  rw [if_neg (by omega), if_neg (by omega), if_pos (by omega)]
theorem rodE_c2 {O : jO} {b : Nat} {W W2 : jWd} (R : rodE O b W) (K : wOK W) (h : ∀ k, k < 435 → k ≠ 2 → W2 k = W k) : rodE O b W2 := by
  have K0 := K.1
  have k9 := K.2.2.2.2.2.2.2.2.2.1
  obtain ⟨S, I, RB, RC, L1, L2, L3⟩ := R
  unfold rodE
  rw [h 0 (by omega) (by omega), h 7 (by omega) (by omega), h 5 (by omega) (by omega), h 6 (by omega) (by omega), h 3 (by omega) (by omega), h 4 (by omega) (by omega), h 8 (by omega) (by omega), h 10 (by omega) (by omega), h 1 (by omega) (by omega)]
  refine ⟨S, I, fun i hi => ?_, RC, ?_⟩
  · rw [h _ (by omega) (by omega), h _ (by omega) (by omega), h _ (by omega) (by omega), h _ (by omega) (by omega), h _ (by omega) (by omega), h _ (by omega) (by omega), h _ (by omega) (by omega), h _ (by omega) (by omega)]
    exact RB i hi
  · unfold logE
    rw [h 9 (by omega) (by omega)]
    refine ⟨L1, L2, fun a ha => ?_⟩
    rw [h _ (by omega) (by omega), h _ (by omega) (by omega), h _ (by omega) (by omega), h _ (by omega) (by omega), h _ (by omega) (by omega), h _ (by omega) (by omega)]
    exact L3 a ha
theorem wOK_c2 {W W2 : jWd} (K : wOK W) (h : ∀ k, k < 75 → k ≠ 2 → W2 k = W k) : wOK W2 := by
  obtain ⟨k0, k1, k2, k3, k4, k5, k6, k7, k8, k9, k10⟩ := K
  unfold wOK
  rw [h 0 (by omega) (by omega), h 3 (by omega) (by omega), h 4 (by omega) (by omega), h 5 (by omega) (by omega), h 6 (by omega) (by omega), h 8 (by omega) (by omega), h 9 (by omega) (by omega), h 1 (by omega) (by omega)]
  refine ⟨k0, fun i hi => ?_, fun i hi => ?_, fun i hi => ?_, k4, k5, k6, k7, k8, k9, k10⟩
  · rw [h _ (by omega) (by omega), h _ (by omega) (by omega), h _ (by omega) (by omega), h _ (by omega) (by omega), h _ (by omega) (by omega), h _ (by omega) (by omega), h _ (by omega) (by omega), h _ (by omega) (by omega)]
    exact k1 i hi
  · rw [h _ (by omega) (by omega), h _ (by omega) (by omega)]
    exact k2 i hi
  · rw [h _ (by omega) (by omega)]
    exact k3 i hi
theorem E_X11_law {b : Nat → Int32} {L : Nat} {x : Nat} {W : jWd} {n : Nat} {a0 : Nat} {h : jH} {q : jR × jH} (ha : x = a0) (X0 : oc h x 0 = .ref (x + 1)) (X3 : oc h x 3 = .ref (x + 19)) (I : rdrS (oc h) x) (C : ctb (oc h) (x + 1) b L) (SL : lawS (oc h) (x + 13)) (hf : F_X11_law n a0 h = some q) : ∃ (m : Nat) (T : Nat → Int32 × Int32) (st en : Nat → Nat), tkE b L m T st en ∧ m ≤ 400 ∧ (∀ f, (if (T 0).1 = -1 then .inl [] else rdLines (rdLaw T) T 12 [] 0) = .inr f → q.1 = .inr 0 ∧ oi (oc q.2) x 12 = nI (st f) ∧ (∀ a k : Nat, ¬ (a = x ∧ k = 12) → ¬ (a = x + 1 ∧ 4 ≤ k ∧ k ≤ 6) → ¬ (x + 3 ≤ a ∧ a ≤ x + 5) → ¬ (a = x + 28 ∧ 6 ≤ k) → ¬ (x + 29 ≤ a ∧ a ≤ x + 32) → oc q.2 a k = oc h a k)) ∧ (∀ S, (if (T 0).1 = -1 then .inl [] else rdLines (rdLaw T) T 12 [] 0) = .inl S → q.1 = .inl (nI (lwS W S).2.1) ∧ oi (oc q.2) x 12 = -1 ∧ lawE (oc q.2) (x + 13) (lawW W S) ∧ oi (oc q.2) (x + 19) 2 = 0 ∧ (∀ a k : Nat, ¬ (a = x ∧ k = 12) → ¬ (a = x + 1 ∧ 4 ≤ k ∧ k ≤ 6) → ¬ (x + 3 ≤ a ∧ a ≤ x + 5) → ¬ (a = x + 28 ∧ 6 ≤ k) → ¬ (x + 29 ≤ a ∧ a ≤ x + 32) → ¬ (x + 13 ≤ a ∧ a ≤ x + 18) → ¬ (a = x + 19 ∧ k = 2) → oc q.2 a k = oc h a k)) ∧ oi (oc q.2) (x + 1) 6 = 0 ∧ lawS (oc q.2) (x + 28) ∧ q.2.1 = h.1 := by
  unfold F_X11_law at hf
  subst ha
  replace hf := jbind hf
  obtain ⟨p1, e1, hf⟩ := hf
  have r1 := oc_gR e1
  rw [I.1.2.2.1] at r1
  cases r1
  clear e1
  replace hf := jbind hf
  obtain ⟨h4, e2, hf⟩ := hf
  replace e2 := (jcv_o e2).2
  obtain ⟨g7, g8, g6, f2, z2⟩ := E_X2_begin e2
  have C2 : ctb (oc h4) (x + 1) b L := ctb_fr C (fun a k u => f2 _ _ (by omega))
  have S2 : rlS (oc h4) x := ⟨(f2 _ _ (by omega)).trans I.2.2.1.1, (f2 _ _ (by omega)).trans I.2.2.1.2.1, (f2 _ _ (by omega)).trans I.2.2.1.2.2⟩
  have LS2 : lawS (oc h4) (x + 28) := by obtain ⟨y1, y2, y3, y4, y5⟩ := I.2.2.2.2.2; exact ⟨(f2 _ _ (by omega)).trans y1, (f2 _ _ (by omega)).trans y2, (f2 _ _ (by omega)).trans y3, (f2 _ _ (by omega)).trans y4, (f2 _ _ (by omega)).trans y5⟩
  have x7 : oc h4 x 7 = .ref (x + 35) := (f2 _ _ (by omega)).trans I.1.2.2.2.2.1
  replace hf := jbind hf
  obtain ⟨p9, e3, hf⟩ := hf
  have r3 := oc_gR e3
  rw [x7] at r3
  cases r3
  clear e3
  replace hf := jbind hf
  obtain ⟨q12, e4, hf⟩ := hf
  replace e4 := (jcv_o e4).2
  obtain ⟨m, T, st, en, H, hm4, r4, f4, z4⟩ := E_X4_read_L (W0 := W) C2 rfl S2 ⟨LS2, g8, g6⟩ e4
  have g4 : ∀ k, oc q12.2 x k = oc h x k := fun k => (f4 _ _ (by omega) (by omega) (by omega) (by omega)).trans (f2 _ _ (by omega))
  have x0 : oc q12.2 x 0 = .ref (x + 1) := (g4 0).trans X0
  have x2 : oc q12.2 x 2 = .ref (x + 13) := (g4 2).trans I.1.1
  have x3 : oc q12.2 x 3 = .ref (x + 19) := (g4 3).trans X3
  have x5 : oc q12.2 x 5 = .ref (x + 28) := (g4 5).trans I.1.2.2.1
  replace hf := jbind hf
  obtain ⟨h15, e5, hf⟩ := hf
  obtain ⟨o5, z5⟩ := oc_pf e5
  clear e5
  replace hf := jbind hf
  obtain ⟨p19, e6, hf⟩ := hf
  have r6 := oc_gR e6
  rw [o5] at r6
  rw [u2_ne (Or.inr (by decide))] at r6
  rw [x0] at r6
  cases r6
  clear e6
  replace hf := jbind hf
  obtain ⟨h23, e7, hf⟩ := hf
  obtain ⟨o7, z7⟩ := oc_pf e7
  clear e7
  replace hf := jbind hf
  obtain ⟨v27, e8, hf⟩ := hf
  have r8 := oc_gI e8
  rw [o7] at r8
  rw [oi_ne (Or.inl (by omega))] at r8
  rw [o5] at r8
  rw [oi_eq] at r8
  subst r8
  clear e8
  have q23 : ∀ a k : Nat, ¬ (a = x ∧ k = 12) → ¬ (a = x + 1 ∧ k = 6) → oc h23 a k = oc q12.2 a k := fun a k u1 u2 => by rw [o7, u2_ne (by omega), o5, u2_ne (by omega)]
  have f23 : ∀ a k : Nat, ¬ (a = x ∧ k = 12) → ¬ (a = x + 1 ∧ 4 ≤ k ∧ k ≤ 6) → ¬ (x + 3 ≤ a ∧ a ≤ x + 5) → ¬ (a = x + 28 ∧ 6 ≤ k) → ¬ (x + 29 ≤ a ∧ a ≤ x + 32) → oc h23 a k = oc h a k := fun a k u1 u2 u3 u4 u5 => (q23 a k u1 (by omega)).trans ((f4 a k (by omega) (by omega) (by omega) (by omega)).trans (f2 a k (by omega)))
  have g23 : oi (oc h23) (x + 1) 6 = 0 := by rw [o7, oi_eq]
  have n23 : oi (oc h23) x 12 = q12.1 := by rw [o7, oi_ne (Or.inl (by omega)), o5, oi_eq]
  have z23 : h23.1 = h.1 := z7.trans (z5.trans (z4.trans z2))
  have LS23 : lawS (oc h23) (x + 28) := by obtain ⟨y1, y2, y3, y4, y5⟩ := I.2.2.2.2.2; exact ⟨(f23 _ _ (by omega) (by omega) (by omega) (by omega) (by omega)).trans y1, (f23 _ _ (by omega) (by omega) (by omega) (by omega) (by omega)).trans y2, (f23 _ _ (by omega) (by omega) (by omega) (by omega) (by omega)).trans y3, (f23 _ _ (by omega) (by omega) (by omega) (by omega) (by omega)).trans y4, (f23 _ _ (by omega) (by omega) (by omega) (by omega) (by omega)).trans y5⟩
  replace hf := jite hf
  rcases hf with ⟨c9, hf⟩ | ⟨c9, hf⟩
  · skip
    replace hf := jbind hf
    obtain ⟨p45, e10, hf⟩ := hf
    have r10 := oc_gR e10
    rw [o7] at r10
    rw [u2_ne (Or.inl (by omega))] at r10
    rw [o5] at r10
    rw [u2_ne (Or.inr (by decide))] at r10
    rw [x2] at r10
    cases r10
    clear e10
    replace hf := jbind hf
    obtain ⟨p49, e11, hf⟩ := hf
    have r11 := oc_gR e11
    rw [o7] at r11
    rw [u2_ne (Or.inl (by omega))] at r11
    rw [o5] at r11
    rw [u2_ne (Or.inr (by decide))] at r11
    rw [x5] at r11
    cases r11
    clear e11
    replace hf := jbind hf
    obtain ⟨h52, e12, hf⟩ := hf
    replace e12 := (jcv_o e12).2
    rcases hR : (if (T 0).1 = -1 then .inl [] else rdLines (rdLaw T) T 12 [] 0) with S | f
    rotate_left
    · exfalso
      have y := r4.2 f hR
      rw [c9] at y
      have sl := tk_L H f
      have hL := H.1
      exact nI_ng (x := -1) (by omega) (by decide) y
    obtain ⟨-, d0, DE, n12⟩ := r4.1 S hR
    have gi : ∀ a k : Nat, ¬ (a = x ∧ k = 12) → ¬ (a = x + 1 ∧ k = 6) → oi (oc h23) a k = oi (oc q12.2) a k := fun a k u1 u2 => by unfold oi; rw [q23 a k u1 u2]
    have LE : lawE (oc h23) (x + 28) (lawW W S) := lawW_E LS23 (by rw [gi _ _ (by omega) (by omega), ← g7]; unfold oi; rw [f4 _ _ (by omega) (by omega) (by omega) (by omega)]) ((gi _ _ (by omega) (by omega)).trans d0.2.1) n12 (dE_fr DE (fun a k u1 u2 => q23 a k (by omega) (by omega)))
    have L13 : lawS (oc h23) (x + 13) := by obtain ⟨y1, y2, y3, y4, y5⟩ := SL; exact ⟨(f23 _ _ (by omega) (by omega) (by omega) (by omega) (by omega)).trans y1, (f23 _ _ (by omega) (by omega) (by omega) (by omega) (by omega)).trans y2, (f23 _ _ (by omega) (by omega) (by omega) (by omega) (by omega)).trans y3, (f23 _ _ (by omega) (by omega) (by omega) (by omega) (by omega)).trans y4, (f23 _ _ (by omega) (by omega) (by omega) (by omega) (by omega)).trans y5⟩
    obtain ⟨R12, f12, z12⟩ := E_X2_copyFrom (d := x + 13) (r := x + 28) rfl rfl (by omega) L13 LE e12
    have x2c : oc h52 x 2 = .ref (x + 13) := (f12 _ _ (by omega)).trans ((q23 _ _ (by omega) (by omega)).trans x2)
    have x3c : oc h52 x 3 = .ref (x + 19) := (f12 _ _ (by omega)).trans ((q23 _ _ (by omega) (by omega)).trans x3)
    replace hf := jbind hf
    obtain ⟨p56, e13, hf⟩ := hf
    have r13 := oc_gR e13
    rw [x3c] at r13
    cases r13
    clear e13
    replace hf := jbind hf
    obtain ⟨h59, e14, hf⟩ := hf
    replace e14 := (jcv_o e14).2
    obtain ⟨o14, z14⟩ := E_X0_forget e14
    replace hf := jbind hf
    obtain ⟨p63, e15, hf⟩ := hf
    have r15 := oc_gR e15
    rw [o14] at r15
    rw [u2_ne (Or.inl (by omega))] at r15
    rw [x2c] at r15
    cases r15
    clear e15
    replace hf := jbind hf
    obtain ⟨v66, e16, hf⟩ := hf
    have r16 := oc_gI e16
    rw [o14] at r16
    rw [oi_ne (Or.inl (by omega))] at r16
    subst r16
    clear e16
    cases hf
    -- leaf 0: (.inl v66, h59)
    have k59 : ∀ a k : Nat, ¬ (x + 13 ≤ a ∧ a ≤ x + 18) → ¬ (a = x + 19 ∧ k = 2) → oc h59 a k = oc h23 a k := fun a k u1 u2 => by rw [o14, u2_ne (by omega), f12 a k (by omega)]
    have L59 : lawE (oc h59) (x + 13) (lawW W S) := lawE_fr R12 (fun a k u1 u2 _ => by rw [o14, u2_ne (by omega)])
    have a8 : oi (oc h52) (x + 13) 8 = nI (lwS W S).2.1 := by
      have := (R12.2.2.2 (if_pos rfl)).1
      rw [this]
      unfold lawW
      rw [if_neg (by decide), if_pos rfl]
    refine ⟨m, T, st, en, H, hm4, fun f y => (by rw [hR] at y; cases y), fun S3 y => ?_, ?_, ?_, ?_⟩
    · rw [hR] at y
      cases y
      refine ⟨by rw [a8], ?_, L59, ?_, fun a k u1 u2 u3 u4 u5 u6 u7 => (k59 a k u6 u7).trans (f23 a k u1 u2 u3 u4 u5)⟩
      · show oi (oc h59) x 12 = -1
        unfold oi
        rw [k59 _ _ (by omega) (by omega)]
        exact n23.trans c9
      · show oi (oc h59) (x + 19) 2 = 0
        rw [o14, oi_eq]
    · show oi (oc h59) (x + 1) 6 = 0
      unfold oi
      rw [k59 _ _ (by omega) (by omega)]
      exact g23
    · obtain ⟨y1, y2, y3, y4, y5⟩ := LS23
      exact ⟨(k59 _ _ (by omega) (by omega)).trans y1, (k59 _ _ (by omega) (by omega)).trans y2, (k59 _ _ (by omega) (by omega)).trans y3, (k59 _ _ (by omega) (by omega)).trans y4, (k59 _ _ (by omega) (by omega)).trans y5⟩
    · exact z14.trans (z12.trans z23)
  · skip
    cases hf
    -- leaf 1: (.inr 0, h23)
    rcases hR : (if (T 0).1 = -1 then .inl [] else rdLines (rdLaw T) T 12 [] 0) with S | f
    · exact absurd (r4.1 S hR).1 c9
    have v5 := r4.2 f hR
    refine ⟨m, T, st, en, H, hm4, fun f2 y => ?_, fun W3 y => (by rw [hR] at y; cases y), g23, LS23, z23⟩
    rw [hR] at y
    cases y
    exact ⟨rfl, n23.trans v5, f23⟩
theorem eq_law {x nx r L n : Nat} {W : jWd} {h : jH} {q : jR × jH} {p : Int32 × jH} (E : eqS x nx r L W h) (hB : ∀ i, i < 400 → -128 ≤ (oi (oc h) (x + 46) i).toInt ∧ (oi (oc h) (x + 46) i).toInt ≤ 127) (e1 : F_X11_law n x h = some q) (e2 : F_X12_law n (x + 40) q.2 = some p) :
    (∃ r2 W2, eqS x nx r2 0 W2 p.2) ∧ ansE [(0, 1)] q.1 p.1 (oi (oc p.2) (x + 40) 0) := by
  obtain ⟨⟨x0, x1, x3, -, -, -, ts, M⟩, ⟨n1, n2, n3, n4, n5, n6, -, -, -⟩, ⟨R, hw, K, LE, LK, LB⟩, ⟨l1, l2, l3, l4, I⟩⟩ := id E
  have C : ctb (oc h) (x + 1) (fun i => oi (oc h) (x + 46) i) L := ⟨ts, l1, l3, fun i hi => l4 i hi, hB⟩
  obtain ⟨m, T, st, en, H, hm4, a1, a2, a3, a4, a5⟩ := E_X11_law (W := W) rfl x0 x3 I.1 C LE.1 e1
  have FQ : ∀ a k : Nat, ¬ (a = x ∧ k = 12) → ¬ (a = x + 1 ∧ 4 ≤ k ∧ k ≤ 6) → ¬ (x + 3 ≤ a ∧ a ≤ x + 5) → ¬ (a = x + 28 ∧ 6 ≤ k) → ¬ (x + 29 ≤ a ∧ a ≤ x + 32) → ¬ (x + 13 ≤ a ∧ a ≤ x + 18) → ¬ (a = x + 19 ∧ k = 2) → oc q.2 a k = oc h a k := fun a k u1 u2 u3 u4 u5 u6 u7 => by
    rcases hR : (if (T 0).1 = -1 then .inl [] else rdLines (rdLaw T) T 12 [] 0 : List jLn ⊕ Nat) with S | f
    · exact (a2 S hR).2.2.2.2 a k u1 u2 u3 u4 u5 u6 u7
    · exact (a1 f hR).2.2 a k u1 u2 u3 u4 u5
  have k2 : ∀ a k : Nat, x + 33 ≤ a → oc q.2 a k = oc h a k := fun a k z => FQ a k (by omega) (by omega) (by omega) (by omega) (by omega) (by omega) (by omega)
  have ki : ∀ a k : Nat, x + 33 ≤ a → oi (oc q.2) a k = oi (oc h) a k := fun a k z => by unfold oi; rw [k2 a k z]
  have M2 : mS (oc q.2) (x + 40) := by
    obtain ⟨s1, s2, s3, s4, s5, s8, s15, s17, s19, s20, s21⟩ := M
    have k3 : ∀ k, oc q.2 (x + 40) k = oc h (x + 40) k := fun k => k2 _ k (by omega)
    exact ⟨(k3 _).trans s1, (k3 _).trans s2, (k3 _).trans s3, (k3 _).trans s4, (k3 _).trans s5, (k3 _).trans s8, (k3 _).trans s15, (k3 _).trans s17, (k3 _).trans s19, (k3 _).trans s20, (k3 _).trans s21⟩
  have w2 : wl (oc q.2) (x + 40) = W := by rw [← hw]; funext k; exact ki (x + 41) k (by omega)
  obtain ⟨b1, b2, b3, b4, b5⟩ := E_X12_law H M2 w2 ((ki _ _ (by omega)).trans l2) (fun i => ki (x + 46) i (by omega)) hm4 e2
  have fp : ∀ a k : Nat, a ≠ x + 41 → ¬ (a = x + 40 ∧ (k = 0 ∨ k = 7 ∨ (9 ≤ k ∧ k ≤ 14) ∨ k = 16)) → oc p.2 a k = oc q.2 a k := fun a k u1 u3 => b4 a k (fun c hc z => by simp at hc; omega) (fun z y => u3 ⟨z, by simp at y; omega⟩)
  have fpi : ∀ a k : Nat, a ≤ x + 39 → oi (oc p.2) a k = oi (oc q.2) a k := fun a k z => by unfold oi; rw [fp a k (by omega) (by omega)]
  have F : ∀ a k : Nat, ¬ txc x a k → oc p.2 a k = oc h a k := fun a k z => by
    unfold txc at z
    exact (fp a k (by omega) (by omega)).trans (FQ a k (by omega) (by omega) (by omega) (by omega) (by omega) (by omega) (by omega))
  have T2 : oi (oc p.2) (x + 1) 6 = nI 0 ∧ oi (oc p.2) (x + 40) 9 = nI 0 ∧ 0 ≤ 400 := ⟨(fpi _ _ (by omega)).trans a3, b3, by omega⟩
  have D2 : rodS (oc p.2) (x + 21) ∧ lawS (oc p.2) (x + 28) := ⟨rodS_fr I.1.2.2.2.2.1 (fun k => (fp _ _ (by omega) (by omega)).trans (FQ _ _ (by omega) (by omega) (by omega) (by omega) (by omega) (by omega) (by omega))) ((fp _ _ (by omega) (by omega)).trans (FQ _ _ (by omega) (by omega) (by omega) (by omega) (by omega) (by omega) (by omega))), by
    obtain ⟨g1, g2, g3, g4, g5⟩ := a4
    exact ⟨(fp _ _ (by omega) (by omega)).trans g1, (fp _ _ (by omega) (by omega)).trans g2, (fp _ _ (by omega) (by omega)).trans g3, (fp _ _ (by omega) (by omega)).trans g4, (fp _ _ (by omega) (by omega)).trans g5⟩⟩
  have fR : ∀ a k : Nat, x + 6 ≤ a → a ≤ x + 12 → oc p.2 a k = oc h a k := fun a k z1 z2 => (fp a k (by omega) (by omega)).trans (FQ a k (by omega) (by omega) (by omega) (by omega) (by omega) (by omega) (by omega))
  rcases hR : (if (T 0).1 = -1 then .inl [] else rdLines (rdLaw T) T 12 [] 0 : List jLn ⊕ Nat) with S | f
  · obtain ⟨v, n12, LL, s0, G⟩ := a2 S hR
    obtain ⟨v2, -, y0, c14, y7, yw⟩ := b2 S hR
    have L3 : lawE (oc p.2) (x + 13) (lawW W S) := lawE_fr LL (fun a k z1 z2 _ => fp a k (by omega) (by omega))
    exact ⟨⟨0, _, eq_bld E F (b5.trans a5) (Or.inl ⟨rfl, (fpi _ _ (by omega)).trans s0, y7⟩) ⟨rodE_c2 (rodE_fr R (fun a k z1 z2 => fR a k z1 (by omega))) K (fun k h1 h2 => lawW_lo h1 h2), yw, wOK_c2 K (fun k h1 h2 => lawW_lo (by omega) h2), L3, lawK_of L3, lawB_of L3⟩ T2 D2 (((fpi _ _ (by omega)).trans n12).trans c14.symm)⟩, Or.inl ⟨by rw [v, v2], y0⟩⟩
  · obtain ⟨v, n12, G⟩ := a1 f hR
    obtain ⟨v2, y0, c14, y7, yW⟩ := b1 f hR
    have fL : ∀ a k : Nat, x + 13 ≤ a → a ≤ x + 18 → oc p.2 a k = oc h a k := fun a k z1 z2 => (fp a k (by omega) (by omega)).trans (G a k (by omega) (by omega) (by omega) (by omega) (by omega))
    obtain ⟨q1, q2, q3, q4, q5⟩ := wd_cb R K LE yW (fun a k z1 z2 => fR a k z1 (by omega)) (fun a k z1 z2 _ => fL a k z1 (by omega))
    have g19 : oi (oc p.2) (x + 19) 2 = oi (oc h) (x + 19) 2 := by unfold oi; rw [fp _ _ (by omega) (by omega), G _ _ (by omega) (by omega) (by omega) (by omega) (by omega)]
    have f13 : oi (oc p.2) (x + 13) 7 = oi (oc h) (x + 13) 7 := by unfold oi; rw [fL _ _ (by omega) (by omega)]
    exact ⟨⟨r, _, eq_bld E F (b5.trans a5) (Or.inr ⟨rfl, g19, y7.trans (ki _ _ (by omega)), f13⟩) ⟨q1, rfl, q2, q3, q4, q5⟩ T2 D2 (((fpi _ _ (by omega)).trans n12).trans c14.symm)⟩, Or.inr ⟨(0, 1), by simp, v, v2, y0⟩⟩
