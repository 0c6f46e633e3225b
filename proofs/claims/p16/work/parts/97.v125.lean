section
/-! the class scans its tape -/
theorem E_X10_scanThing {b : Nat → Int32} {L : Nat} {s : Nat} {k : Nat} {n : Nat} {a0 : Nat} {x1 : Int32} {h : jH} {q : Int32 × jH} (C : ctb (oc h) a0 b L) (h4 : oi (oc h) a0 4 = nI k) (hk : k < 400) (hx : x1 = nI s) (hs : s < L) (nb : b s ≠ 32) (hf : F_X10_scanThing n a0 x1 h = some q) : ∃ e, q.1 = nI e ∧ s < e ∧ e ≤ L ∧ thE b L s e (oi (oc q.2) (a0 + 2) k, oi (oc q.2) (a0 + 4) k) ∧ (∀ a j : Nat, ¬ (a = a0 + 2 ∧ j = k) → ¬ (a = a0 + 4 ∧ j = k) → oc q.2 a j = oc h a j) ∧ q.2.1 = h.1 := by
  unfold F_X10_scanThing at hf
  obtain ⟨⟨p0, p1, p2, p3⟩, h6, hL, hb, hr⟩ := id C
  replace hf := jbind hf
  obtain ⟨v6, e1, hf⟩ := hf
  replace e1 := (jcv_o e1).2
  obtain ⟨j1, y1, w1, l1⟩ := E_X10_endOfRow C (by decide) hx (by omega) e1
  replace hf := jite hf
  rcases hf with ⟨c2, hf⟩ | ⟨c2, hf⟩
  · skip
    replace hf := jbind hf
    obtain ⟨v38, e3, hf⟩ := hf
    replace e3 := (jcv_o e3).2
    obtain ⟨j3, y3, w3, l3⟩ := E_X10_endOfRow C (by decide) hx (by omega) e3
    replace hf := jite hf
    rcases hf with ⟨c4, hf⟩ | ⟨c4, hf⟩
    · skip
      replace hf := jbind hf
      obtain ⟨v77, e5, hf⟩ := hf
      replace e5 := (jcv_o e5).2
      have r5 := E_X10_at C hx (by omega) e5
      replace hf := jbind hf
      obtain ⟨p82, e6, hf⟩ := hf
      have r6 := oc_gR e6
      rw [p1] at r6
      cases r6
      clear e6
      replace hf := jbind hf
      obtain ⟨v86, e7, hf⟩ := hf
      have r7 := oc_gI e7
      subst r7
      clear e7
      replace hf := jite hf
      rcases hf with ⟨c8, hf⟩ | ⟨c8, hf⟩
      · skip
        replace hf := jbind hf
        obtain ⟨h101, e9, hf⟩ := hf
        obtain ⟨o9, z9, y9⟩ := oc_as e9
        rw [jnar0] at o9
        clear e9
        cases hf
        -- leaf 000: (x1 + (1 : Int32), h101)
        rw [y1, hx, Int32.le_iff_toInt_le, nI_toInt (by omega), nI_toInt (by omega)] at c2
        have n1 : ¬ bIn b L 97 122 s := by have := w1.2.2; rw [show j1 = s by have := w1.1; omega] at this; exact this
        rw [y3, hx, Int32.le_iff_toInt_le, nI_toInt (by omega), nI_toInt (by omega)] at c4
        have n3 : ¬ bIn b L 48 57 s := by have := w3.2.2; rw [show j3 = s by have := w3.1; omega] at this; exact this
        have v5 : v77 = b s &&& 255 := by
          rcases r5 with ⟨-, y⟩ | ⟨y, -⟩
          · exact y
          · omega
        rw [v5] at c8 o9
        rw [Int32.le_iff_toInt_le] at c8
        rw [h4, nI_cl (by omega)] at o9
        refine ⟨s + 1, by rw [hx]; exact nI_1 s, by omega, by omega, Or.inr (Or.inr ⟨hs, n1, n3, nb, rfl, ?_⟩), fun a j u1 u2 => by rw [o9, u2_ne (by omega)], z9⟩
        show oi (oc h101) (a0 + 2) k = _
        rw [o9, oi_eq]
        rw [if_neg (by rw [Int32.lt_iff_toInt_lt]; omega)]
      · skip
        replace hf := jbind hf
        obtain ⟨h101, e10, hf⟩ := hf
        obtain ⟨o10, z10, y10⟩ := oc_as e10
        rw [jnar0] at o10
        clear e10
        cases hf
        -- leaf 001: (x1 + (1 : Int32), h101)
        rw [y1, hx, Int32.le_iff_toInt_le, nI_toInt (by omega), nI_toInt (by omega)] at c2
        have n1 : ¬ bIn b L 97 122 s := by have := w1.2.2; rw [show j1 = s by have := w1.1; omega] at this; exact this
        rw [y3, hx, Int32.le_iff_toInt_le, nI_toInt (by omega), nI_toInt (by omega)] at c4
        have n3 : ¬ bIn b L 48 57 s := by have := w3.2.2; rw [show j3 = s by have := w3.1; omega] at this; exact this
        have v5 : v77 = b s &&& 255 := by
          rcases r5 with ⟨-, y⟩ | ⟨y, -⟩
          · exact y
          · omega
        rw [v5, Int32.le_iff_toInt_le] at c8
        rw [h4, nI_cl (by omega)] at o10
        refine ⟨s + 1, by rw [hx]; exact nI_1 s, by omega, by omega, Or.inr (Or.inr ⟨hs, n1, n3, nb, rfl, ?_⟩), fun a j u1 u2 => by rw [o10, u2_ne (by omega)], z10⟩
        show oi (oc h101) (a0 + 2) k = _
        rw [o10, oi_eq]
        rw [if_pos (by rw [Int32.lt_iff_toInt_lt]; omega)]
    · skip
      replace hf := jbind hf
      obtain ⟨p48, e11, hf⟩ := hf
      have r11 := oc_gR e11
      rw [p1] at r11
      cases r11
      clear e11
      replace hf := jbind hf
      obtain ⟨v52, e12, hf⟩ := hf
      have r12 := oc_gI e12
      subst r12
      clear e12
      replace hf := jbind hf
      obtain ⟨h57, e13, hf⟩ := hf
      obtain ⟨o13, z13, y13⟩ := oc_as e13
      rw [jnar0] at o13
      clear e13
      replace hf := jbind hf
      obtain ⟨p59, e14, hf⟩ := hf
      have r14 := oc_gR e14
      rw [o13] at r14
      rw [u2_ne (Or.inl (by omega))] at r14
      rw [p3] at r14
      cases r14
      clear e14
      replace hf := jbind hf
      obtain ⟨v63, e15, hf⟩ := hf
      have r15 := oc_gI e15
      rw [o13] at r15
      rw [oi_ne (Or.inl (by omega))] at r15
      subst r15
      clear e15
      replace hf := jbind hf
      obtain ⟨v69, e16, hf⟩ := hf
      replace e16 := (jcv_o e16).2
      have C2 : ctb (oc h57) a0 b L := ctb_fr C (fun a k u => by rw [o13, u2_ne (by omega)])
      have r16 := E_X10_numberBetween (s := s) (e := j3) C2 l3 w3.2.1 hx y3 w3.1 e16
      replace hf := jbind hf
      obtain ⟨h72, e17, hf⟩ := hf
      obtain ⟨o17, z17, y17⟩ := oc_as e17
      rw [jnar0] at o17
      clear e17
      cases hf
      -- leaf 01: (v38, h72)
      rw [y1, hx, Int32.le_iff_toInt_le, nI_toInt (by omega), nI_toInt (by omega)] at c2
      have n1 : ¬ bIn b L 97 122 s := by have := w1.2.2; rw [show j1 = s by have := w1.1; omega] at this; exact this
      rw [y3, hx, Int32.le_iff_toInt_le, nI_toInt (by omega), nI_toInt (by omega)] at c4
      rw [h4, nI_cl (by omega)] at o13 o17
      refine ⟨j3, y3, by have := w3.1; omega, l3, Or.inr (Or.inl ⟨w3.2.1 s (Nat.le_refl s) (by have := w3.1; omega), w3, ?_, ?_⟩), fun a j u1 u2 => by rw [o17, u2_ne (by omega), o13, u2_ne (by omega)], z17.trans z13⟩
      · show oi (oc h72) (a0 + 2) k = _
        rw [o17, oi_ne (Or.inl (by omega)), o13, oi_eq]
      · show oi (oc h72) (a0 + 4) k = _
        rw [o17, oi_eq]; exact r16
  · skip
    replace hf := jbind hf
    obtain ⟨p16, e18, hf⟩ := hf
    have r18 := oc_gR e18
    rw [p1] at r18
    cases r18
    clear e18
    replace hf := jbind hf
    obtain ⟨v20, e19, hf⟩ := hf
    have r19 := oc_gI e19
    subst r19
    clear e19
    replace hf := jbind hf
    obtain ⟨v26, e20, hf⟩ := hf
    replace e20 := (jcv_o e20).2
    have r20 := E_X10_wordBetween (s := s) (e := j1) C l1 w1.1 hx y1 e20
    replace hf := jbind hf
    obtain ⟨h29, e21, hf⟩ := hf
    obtain ⟨o21, z21, y21⟩ := oc_as e21
    rw [jnar0] at o21
    clear e21
    cases hf
    -- leaf 1: (v6, h29)
    rw [y1, hx, Int32.le_iff_toInt_le, nI_toInt (by omega), nI_toInt (by omega)] at c2
    rw [h4, nI_cl (by omega)] at o21
    have w4 := w1.2.1 s (Nat.le_refl s) (by have := w1.1; omega)
    refine ⟨j1, y1, by have := w1.1; omega, l1, Or.inl ⟨w4, w1, ?_⟩, fun a j u1 u2 => by rw [o21, u2_ne (by omega)], z21⟩
    show (∃ w : Nat, w < 23 ∧ oi (oc h29) (a0 + 2) k = nI w ∧ _) ∨ (oi (oc h29) (a0 + 2) k = -2 ∧ _)
    rw [o21, oi_eq]
    exact r20
theorem E_X10_scan_12 {n : Nat} {b : Nat → Int32} {L : Nat} : ∀ (k : Nat) {a0 : Nat} {x1 : Int32} {h : jH} {q : jH} (k0 : Nat) (s : Nat) (C : ctb (oc h) a0 b L) (h4 : oi (oc h) a0 4 = nI k0) (hx : x1 = nI s) (hs : s ≤ L) (ks : k0 ≤ s), F_X10_scan_12 n k a0 x1 h = some q → ∃ (m : Nat) (st en : Nat → Nat), k0 ≤ m ∧ m ≤ 400 ∧ oi (oc q) a0 4 = nI m ∧ (∀ j, k0 ≤ j → j < m → st j < L ∧ thE b L (st j) (en j) (oi (oc q) (a0 + 2) j, oi (oc q) (a0 + 4) j) ∧ oi (oc q) (a0 + 3) j = nI (st j) ∧ en j ≤ st (j + 1) ∧ ∀ i, en j ≤ i → i < st (j + 1) → b i = 32) ∧ (∀ j, m ≤ j → st j = L) ∧ s ≤ st k0 ∧ (∀ i, s ≤ i → i < st k0 → b i = 32) ∧ (∀ a j : Nat, ¬ (a = a0 ∧ j = 4) → ¬ ((a = a0 + 2 ∨ a = a0 + 3 ∨ a = a0 + 4) ∧ k0 ≤ j) → oc q a j = oc h a j) ∧ q.1 = h.1
  | 0, a0, x1, h, q, k0, s, C, h4, hx, hs, ks, hf => by cases hf
  | k + 1, a0, x1, h, q, k0, s, C, h4, hx, hs, ks, hf => by
    replace hf : F_X10_scan_12_b n (F_X10_scan_12 n k) a0 x1 h = some q := hf
    unfold F_X10_scan_12_b at hf
    obtain ⟨⟨p0, p1, p2, p3⟩, h6, hL, hb, hr⟩ := id C
    replace hf := jbind hf
    obtain ⟨v14, e1, hf⟩ := hf
    have r1 := oc_gI e1
    subst r1
    clear e1
    replace hf := jite hf
    rcases hf with ⟨c2, hf⟩ | ⟨c2, hf⟩
    · skip
      cases hf
      -- leaf 0: h
      rw [h6, hx, Int32.le_iff_toInt_le, nI_toInt (by omega), nI_toInt (by omega)] at c2
      exact ⟨k0, fun _ => L, fun _ => L, Nat.le_refl _, by omega, h4, fun j j1 j2 => by omega, fun _ _ => rfl, hs, fun i i1 i2 => by dsimp only at i2; omega, fun _ _ _ _ => rfl, rfl⟩
    · skip
      replace hf := jbind hf
      obtain ⟨v21, e3, hf⟩ := hf
      have r3 := oc_gI e3
      subst r3
      clear e3
      replace hf := jite hf
      rcases hf with ⟨c4, hf⟩ | ⟨c4, hf⟩
      · skip
        cases hf
        -- leaf 10: h
        rw [h6, hx, Int32.le_iff_toInt_le, nI_toInt (by omega), nI_toInt (by omega)] at c2
        rw [h4, Int32.le_iff_toInt_le, nI_toInt (by omega), show (400 : Int32).toInt = 400 from rfl] at c4
        omega
      · skip
        replace hf := jbind hf
        obtain ⟨v36, e5, hf⟩ := hf
        replace e5 := (jcv_o e5).2
        have r5 := E_X10_at C hx (by omega) e5
        replace hf := jite hf
        rcases hf with ⟨c6, hf⟩ | ⟨c6, hf⟩
        · skip
          -- leaf 110: rc12 a0 (x1 + (1 : Int32)) h
          rw [h6, hx, Int32.le_iff_toInt_le, nI_toInt (by omega), nI_toInt (by omega)] at c2
          rcases r5 with ⟨s1, v5⟩ | ⟨y, -⟩
          rotate_left
          · omega
          rw [v5, eq255 (hr s (by omega)) (by decide)] at c6
          rw [hx] at hf
          obtain ⟨m, st, en, a1, a2, a3, a4, a5, a6, a7, a8, a9⟩ := E_X10_scan_12 k k0 (s + 1) C h4 (nI_1 s) (by omega) (by omega) hf
          refine ⟨m, st, en, a1, a2, a3, a4, a5, by omega, fun i i1 i2 => ?_, a8, a9⟩
          by_cases y : i = s
          · rw [y]; exact c6
          · exact a7 i (by omega) i2
        · skip
          replace hf := jbind hf
          obtain ⟨q46, e7, hf⟩ := hf
          replace e7 := (jcv_o e7).2
          rw [h6, hx, Int32.le_iff_toInt_le, nI_toInt (by omega), nI_toInt (by omega)] at c2
          rw [h4, Int32.le_iff_toInt_le, nI_toInt (by omega), show (400 : Int32).toInt = 400 from rfl] at c4
          rcases r5 with ⟨s1, v5⟩ | ⟨y, -⟩
          rotate_left
          · omega
          have nb : b s ≠ 32 := fun z => c6 (by rw [v5, z]; decide)
          obtain ⟨e, w1, w2, w3, w4, w5, w6⟩ := E_X10_scanThing C h4 (by omega) hx s1 nb e7
          have P2 : oc q46.2 a0 2 = .ref (a0 + 3) := (w5 _ _ (by omega) (by omega)).trans p2
          have P4 : oi (oc q46.2) a0 4 = nI k0 := by rw [← h4]; unfold oi; rw [w5 _ _ (by omega) (by omega)]
          replace hf := jbind hf
          obtain ⟨p51, e8, hf⟩ := hf
          have r8 := oc_gR e8
          rw [P2] at r8
          cases r8
          clear e8
          replace hf := jbind hf
          obtain ⟨v55, e9, hf⟩ := hf
          have r9 := oc_gI e9
          subst r9
          clear e9
          replace hf := jbind hf
          obtain ⟨h59, e10, hf⟩ := hf
          obtain ⟨o10, z10, y10⟩ := oc_as e10
          rw [jnar0] at o10
          clear e10
          replace hf := jbind hf
          obtain ⟨v62, e11, hf⟩ := hf
          have r11 := oc_gI e11
          rw [o10] at r11
          rw [oi_ne (Or.inl (by omega))] at r11
          subst r11
          clear e11
          replace hf := jbind hf
          obtain ⟨h67, e12, hf⟩ := hf
          obtain ⟨o12, z12⟩ := oc_pf e12
          clear e12
          -- leaf 111: rc12 a0 q46.1 h67
          rw [P4, nI_cl (by omega), hx] at o10
          rw [P4, nI_1] at o12
          have fz : ∀ a j : Nat, ¬ (a = a0 ∧ j = 4) → ¬ ((a = a0 + 2 ∨ a = a0 + 3 ∨ a = a0 + 4) ∧ k0 ≤ j) → oc h67 a j = oc h a j := fun a j u1 u2 => by rw [o12, u2_ne (by omega), o10, u2_ne (by omega), w5 _ _ (by omega) (by omega)]
          have C6 : ctb (oc h67) a0 b L := ctb_fr C (fun a k u => fz a k (by omega) (by omega))
          obtain ⟨m, st, en, a1, a2, a3, a4, a5, a6, a7, a8, a9⟩ := E_X10_scan_12 k (k0 + 1) e C6 (by rw [o12, oi_eq]) w1 w3 (by omega) hf
          have g2 : oi (oc q) (a0 + 2) k0 = oi (oc q46.2) (a0 + 2) k0 := by unfold oi; rw [a8 _ _ (by omega) (by omega), o12, u2_ne (by omega), o10, u2_ne (by omega)]
          have g4 : oi (oc q) (a0 + 4) k0 = oi (oc q46.2) (a0 + 4) k0 := by unfold oi; rw [a8 _ _ (by omega) (by omega), o12, u2_ne (by omega), o10, u2_ne (by omega)]
          have g3 : oi (oc q) (a0 + 3) k0 = nI s := by unfold oi; rw [a8 _ _ (by omega) (by omega), o12, u2_ne (by omega), o10, u2_eq]; rfl
          refine ⟨m, fun j => if j = k0 then s else st j, fun j => if j = k0 then e else en j, by omega, a2, a3, fun j j1 j2 => ?_, fun j j1 => ?_, ?_, fun i i1 i2 => ?_, fun a j u1 u2 => (a8 a j u1 (by omega)).trans (fz a j u1 u2), a9.trans (z12.trans (z10.trans w6))⟩
          · dsimp only
            by_cases y : j = k0
            · subst y
              rw [if_pos rfl, if_pos rfl, if_neg (by omega), g2, g4, g3]
              exact ⟨s1, w4, rfl, a6, a7⟩
            · rw [if_neg y, if_neg y, if_neg (by omega)]
              exact a4 j (by omega) j2
          · dsimp only; rw [if_neg (by omega)]; exact a5 j j1
          · dsimp only; rw [if_pos rfl]; exact Nat.le_refl s
          · dsimp only at i2; rw [if_pos rfl] at i2; omega
/-- the class reads: m things, the next one is k -/
def ck (O : jO) (t : Nat) (b : Nat → Int32) (L m : Nat) (T : Nat → Int32 × Int32) (st : Nat → Nat) (k : Nat) : Prop :=
  ctb O t b L ∧ oi O t 4 = nI m ∧ m ≤ 400 ∧ oi O t 5 = nI k ∧ k ≤ m ∧ (∀ j, j < m → T j = (oi O (t + 2) j, oi O (t + 4) j) ∧ oi O (t + 3) j = nI (st j)) ∧ (∀ j, m ≤ j → (T j).1 = -1 ∧ st j = L)
theorem E_X10_scan {b : Nat → Int32} {L : Nat} {n : Nat} {a0 : Nat} {h : jH} {q : jH} (C : ctb (oc h) a0 b L) (hf : F_X10_scan n a0 h = some q) : ∃ (m : Nat) (T : Nat → Int32 × Int32) (st en : Nat → Nat), tkE b L m T st en ∧ ck (oc q) a0 b L m T st 0 ∧ (∀ a j : Nat, ¬ (a = a0 ∧ (j = 4 ∨ j = 5)) → ¬ (a = a0 + 2 ∨ a = a0 + 3 ∨ a = a0 + 4) → oc q a j = oc h a j) ∧ q.1 = h.1 := by
  unfold F_X10_scan at hf
  replace hf := jbind hf
  obtain ⟨h2, e1, hf⟩ := hf
  obtain ⟨o1, z1⟩ := oc_pf e1
  clear e1
  replace hf := jbind hf
  obtain ⟨h7, e2, hf⟩ := hf
  obtain ⟨o2, z2⟩ := oc_pf e2
  clear e2
  -- leaf : F_X10_scan_12 n n a0 (0 : Int32) h7
  have fz : ∀ a j : Nat, ¬ (a = a0 ∧ (j = 4 ∨ j = 5)) → oc h7 a j = oc h a j := fun a j u => by rw [o2, u2_ne (by omega), o1, u2_ne (by omega)]
  have C2 : ctb (oc h7) a0 b L := ctb_fr C (fun a k u => fz a k (by omega))
  obtain ⟨m, st, en, a1, a2, a3, a4, a5, a6, a7, a8, a9⟩ := E_X10_scan_12 n 0 0 C2 (by rw [o2, oi_ne (Or.inr (by decide)), o1, oi_eq]; rfl) rfl (by omega) (by omega) hf
  have C3 : ctb (oc q) a0 b L := ctb_fr C2 (fun a k u => a8 a k (by omega) (by omega))
  have h5 : oi (oc q) a0 5 = nI 0 := by unfold oi; rw [a8 _ _ (by omega) (by omega), o2, u2_eq]; rfl
  refine ⟨m, fun j => if j < m then (oi (oc q) (a0 + 2) j, oi (oc q) (a0 + 4) j) else (-1, 0), st, en, ⟨C.2.2.1, C.2.2.2.2, fun k hk => ?_, fun k hk => ⟨a5 k hk, ?_⟩, fun i hi => a7 i (by omega) hi⟩, ⟨C3, a3, a2, h5, by omega, fun j hj => ⟨?_, (a4 j (by omega) hj).2.2.1⟩, fun j hj => ⟨?_, a5 j hj⟩⟩, fun a j u1 u2 => (a8 a j (by omega) (by omega)).trans (fz a j u1), a9.trans (z2.trans z1)⟩
  · obtain ⟨b1, b2, b3, b4, b5⟩ := a4 k (by omega) hk
    dsimp only
    rw [if_pos hk]
    exact ⟨b1, b2, b4, b5⟩
  · dsimp only; rw [if_neg (by omega)]
  · dsimp only; rw [if_pos hj]
  · dsimp only; rw [if_neg (by omega)]
end
section
/-! the class takes things -/
theorem ck_fr {O O2 : jO} {t L m k : Nat} {b : Nat → Int32} {T : Nat → Int32 × Int32} {st : Nat → Nat} (C : ck O t b L m T st k) (f : ∀ a j : Nat, t ≤ a → a ≤ t + 4 → O2 a j = O a j) : ck O2 t b L m T st k := by
  obtain ⟨C, h4, hm, h5, hk, hT, hE⟩ := C
  have fi : ∀ a j : Nat, t ≤ a → a ≤ t + 4 → oi O2 a j = oi O a j := fun a j h1 h2 => by unfold oi; rw [f a j h1 h2]
  exact ⟨ctb_fr C (fun a k u => f a k (by omega) (by omega)), (fi _ _ (by omega) (by omega)).trans h4, hm, (fi _ _ (by omega) (by omega)).trans h5, hk, fun j hj => by rw [fi _ _ (by omega) (by omega), fi _ _ (by omega) (by omega), fi _ _ (by omega) (by omega)]; exact hT j hj, hE⟩
theorem ck_n {O : jO} {t L m k k2 : Nat} {b : Nat → Int32} {T : Nat → Int32 × Int32} {st : Nat → Nat} (C : ck O t b L m T st k) (h2 : k2 ≤ m) : ck (u2 O t 5 (.int (nI k2))) t b L m T st k2 := by
  obtain ⟨C, h4, hm, h5, hk, hT, hE⟩ := C
  exact ⟨ctb_fr C (fun a k u => u2_ne (by omega)), by rw [oi_ne (Or.inr (by decide))]; exact h4, hm, oi_eq, h2, fun j hj => by rw [oi_ne (Or.inl (by omega)), oi_ne (Or.inl (by omega)), oi_ne (Or.inl (by omega))]; exact hT j hj, hE⟩
theorem E_X10_kind {b : Nat → Int32} {L : Nat} {m : Nat} {T : Nat → Int32 × Int32} {st : Nat → Nat} {k : Nat} {n : Nat} {a0 : Nat} {h : jH} {q : Int32} (K : ck (oc h) a0 b L m T st k) (hf : F_X10_kind n a0 h = some q) : q = (T k).1 := by
  unfold F_X10_kind at hf
  obtain ⟨C, h4, hm, h5, hk, hT, hE⟩ := id K
  obtain ⟨⟨p0, p1, p2, p3⟩, h6, hL, hb, hr⟩ := id C
  replace hf := jbind hf
  obtain ⟨v1, e1, hf⟩ := hf
  have r1 := oc_gI e1
  subst r1
  clear e1
  replace hf := jbind hf
  obtain ⟨v5, e2, hf⟩ := hf
  have r2 := oc_gI e2
  subst r2
  clear e2
  replace hf := jite hf
  rcases hf with ⟨c3, hf⟩ | ⟨c3, hf⟩
  · skip
    cases hf
    -- leaf 0: (- 1 : Int32)
    rw [h4, h5, Int32.le_iff_toInt_le, nI_toInt (by omega), nI_toInt (by omega)] at c3
    exact (hE k (by omega)).1.symm
  · skip
    replace hf := jbind hf
    obtain ⟨p12, e4, hf⟩ := hf
    have r4 := oc_gR e4
    rw [p1] at r4
    cases r4
    clear e4
    replace hf := jbind hf
    obtain ⟨v16, e5, hf⟩ := hf
    have r5 := oc_gI e5
    subst r5
    clear e5
    replace hf := jbind hf
    obtain ⟨v19, e6, hf⟩ := hf
    obtain ⟨r6, y6⟩ := oc_al e6
    subst r6
    clear e6
    cases hf
    -- leaf 1: v19
    rw [h4, h5, Int32.le_iff_toInt_le, nI_toInt (by omega), nI_toInt (by omega)] at c3
    rw [h5, nI_cl (by omega), (hT k (by omega)).1]
theorem E_X10_start {b : Nat → Int32} {L : Nat} {m : Nat} {T : Nat → Int32 × Int32} {st : Nat → Nat} {k : Nat} {n : Nat} {a0 : Nat} {h : jH} {q : Int32} (K : ck (oc h) a0 b L m T st k) (hf : F_X10_start n a0 h = some q) : q = nI (st k) := by
  unfold F_X10_start at hf
  obtain ⟨C, h4, hm, h5, hk, hT, hE⟩ := id K
  obtain ⟨⟨p0, p1, p2, p3⟩, h6, hL, hb, hr⟩ := id C
  replace hf := jbind hf
  obtain ⟨v1, e1, hf⟩ := hf
  have r1 := oc_gI e1
  subst r1
  clear e1
  replace hf := jbind hf
  obtain ⟨v5, e2, hf⟩ := hf
  have r2 := oc_gI e2
  subst r2
  clear e2
  replace hf := jite hf
  rcases hf with ⟨c3, hf⟩ | ⟨c3, hf⟩
  · skip
    replace hf := jbind hf
    obtain ⟨v24, e4, hf⟩ := hf
    have r4 := oc_gI e4
    subst r4
    clear e4
    cases hf
    -- leaf 0: v24
    rw [h4, h5, Int32.le_iff_toInt_le, nI_toInt (by omega), nI_toInt (by omega)] at c3
    rw [h6, (hE k (by omega)).2]
  · skip
    replace hf := jbind hf
    obtain ⟨p12, e5, hf⟩ := hf
    have r5 := oc_gR e5
    rw [p2] at r5
    cases r5
    clear e5
    replace hf := jbind hf
    obtain ⟨v16, e6, hf⟩ := hf
    have r6 := oc_gI e6
    subst r6
    clear e6
    replace hf := jbind hf
    obtain ⟨v19, e7, hf⟩ := hf
    obtain ⟨r7, y7⟩ := oc_al e7
    subst r7
    clear e7
    cases hf
    -- leaf 1: v19
    rw [h4, h5, Int32.le_iff_toInt_le, nI_toInt (by omega), nI_toInt (by omega)] at c3
    rw [h5, nI_cl (by omega), (hT k (by omega)).2]
theorem E_X10_skip {b : Nat → Int32} {L : Nat} {m : Nat} {T : Nat → Int32 × Int32} {st : Nat → Nat} {k : Nat} {n : Nat} {a0 : Nat} {h : jH} {q : jH} (K : ck (oc h) a0 b L m T st k) (hT : (T k).1 ≠ -1) (hf : F_X10_skip n a0 h = some q) : ck (oc q) a0 b L m T st (k + 1) ∧ (∀ a j : Nat, ¬ (a = a0 ∧ j = 5) → oc q a j = oc h a j) ∧ q.1 = h.1 := by
  unfold F_X10_skip at hf
  obtain ⟨C, h4, hm, h5, hk, hT3, hE⟩ := id K
  obtain ⟨⟨p0, p1, p2, p3⟩, h6, hL, hb, hr⟩ := id C
  replace hf := jbind hf
  obtain ⟨v1, e1, hf⟩ := hf
  have r1 := oc_gI e1
  subst r1
  clear e1
  replace hf := jbind hf
  obtain ⟨v5, e2, hf⟩ := hf
  have r2 := oc_gI e2
  subst r2
  clear e2
  replace hf := jite hf
  rcases hf with ⟨c3, hf⟩ | ⟨c3, hf⟩
  · skip
    cases hf
    -- leaf 0: h
    rw [h4, h5, Int32.le_iff_toInt_le, nI_toInt (by omega), nI_toInt (by omega)] at c3
    exact absurd (hE k (by omega)).1 hT
  · skip
    replace hf := jbind hf
    obtain ⟨v13, e4, hf⟩ := hf
    have r4 := oc_gI e4
    subst r4
    clear e4
    replace hf := jbind hf
    obtain ⟨h18, e5, hf⟩ := hf
    obtain ⟨o5, z5⟩ := oc_pf e5
    clear e5
    cases hf
    -- leaf 1: h18
    rw [h4, h5, Int32.le_iff_toInt_le, nI_toInt (by omega), nI_toInt (by omega)] at c3
    rw [h5, nI_1] at o5
    exact ⟨by rw [o5]; exact ck_n K (by omega), fun a j u => by rw [o5, u2_ne (by omega)], z5⟩
theorem E_X10_take {b : Nat → Int32} {L : Nat} {m : Nat} {T : Nat → Int32 × Int32} {st : Nat → Nat} {k : Nat} {n : Nat} {a0 : Nat} {x1 : Int32} {h : jH} {q : Int32 × jH} (K : ck (oc h) a0 b L m T st k) (hx : x1 ≠ -1) (hf : F_X10_take n a0 x1 h = some q) : (((T k).1 = x1 ∧ q.1 = 1 ∧ ck (oc q.2) a0 b L m T st (k + 1)) ∨ ((T k).1 ≠ x1 ∧ q = (0, h))) ∧ (∀ a j : Nat, ¬ (a = a0 ∧ j = 5) → oc q.2 a j = oc h a j) ∧ q.2.1 = h.1 := by
  unfold F_X10_take at hf
  obtain ⟨C, h4, hm, h5, hk, hT, hE⟩ := id K
  obtain ⟨⟨p0, p1, p2, p3⟩, h6, hL, hb, hr⟩ := id C
  replace hf := jbind hf
  obtain ⟨v1, e1, hf⟩ := hf
  have r1 := oc_gI e1
  subst r1
  clear e1
  replace hf := jbind hf
  obtain ⟨v5, e2, hf⟩ := hf
  have r2 := oc_gI e2
  subst r2
  clear e2
  replace hf := jite hf
  rcases hf with ⟨c3, hf⟩ | ⟨c3, hf⟩
  · skip
    cases hf
    -- leaf 0: ((0 : Int32), h)
    rw [h4, h5, Int32.le_iff_toInt_le, nI_toInt (by omega), nI_toInt (by omega)] at c3
    exact ⟨Or.inr ⟨fun z => hx (z.symm.trans (hE k (by omega)).1), rfl⟩, fun _ _ _ => rfl, rfl⟩
  · skip
    replace hf := jbind hf
    obtain ⟨p12, e4, hf⟩ := hf
    have r4 := oc_gR e4
    rw [p1] at r4
    cases r4
    clear e4
    replace hf := jbind hf
    obtain ⟨v16, e5, hf⟩ := hf
    have r5 := oc_gI e5
    subst r5
    clear e5
    replace hf := jbind hf
    obtain ⟨v19, e6, hf⟩ := hf
    obtain ⟨r6, y6⟩ := oc_al e6
    subst r6
    clear e6
    replace hf := jite hf
    rcases hf with ⟨c7, hf⟩ | ⟨c7, hf⟩
    · skip
      replace hf := jbind hf
      obtain ⟨v28, e8, hf⟩ := hf
      have r8 := oc_gI e8
      subst r8
      clear e8
      replace hf := jbind hf
      obtain ⟨h33, e9, hf⟩ := hf
      obtain ⟨o9, z9⟩ := oc_pf e9
      clear e9
      cases hf
      -- leaf 10: ((1 : Int32), h33)
      rw [h4, h5, Int32.le_iff_toInt_le, nI_toInt (by omega), nI_toInt (by omega)] at c3
      rw [h5, nI_cl (by omega)] at c7
      rw [h5, nI_1] at o9
      have w : ck (oc h33) a0 b L m T st (k + 1) := by rw [o9]; exact ck_n K (by omega)
      exact ⟨Or.inl ⟨by rw [(hT k (by omega)).1]; exact c7, rfl, w⟩, fun a j u => by rw [o9, u2_ne (by omega)], z9⟩
    · skip
      cases hf
      -- leaf 11: ((0 : Int32), h)
      rw [h4, h5, Int32.le_iff_toInt_le, nI_toInt (by omega), nI_toInt (by omega)] at c3
      rw [h5, nI_cl (by omega)] at c7
      exact ⟨Or.inr ⟨by rw [(hT k (by omega)).1]; exact c7, rfl⟩, fun _ _ _ => rfl, rfl⟩
theorem E_X10_takeNumber {b : Nat → Int32} {L : Nat} {m : Nat} {T : Nat → Int32 × Int32} {st : Nat → Nat} {k : Nat} {n : Nat} {a0 : Nat} {x1 : Int32} {x2 : Int32} {h : jH} {q : Int32 × jH} (K : ck (oc h) a0 b L m T st k) (hf : F_X10_takeNumber n a0 x1 x2 h = some q) : ((nOK T k x1 x2 ∧ q.1 = (T k).2 ∧ ck (oc q.2) a0 b L m T st (k + 1)) ∨ (¬ nOK T k x1 x2 ∧ q = (-1, h))) ∧ (∀ a j : Nat, ¬ (a = a0 ∧ j = 5) → oc q.2 a j = oc h a j) ∧ q.2.1 = h.1 := by
  unfold F_X10_takeNumber at hf
  obtain ⟨C, h4, hm, h5, hk, hT, hE⟩ := id K
  obtain ⟨⟨p0, p1, p2, p3⟩, h6, hL, hb, hr⟩ := id C
  replace hf := jbind hf
  obtain ⟨v1, e1, hf⟩ := hf
  have r1 := oc_gI e1
  subst r1
  clear e1
  replace hf := jbind hf
  obtain ⟨v5, e2, hf⟩ := hf
  have r2 := oc_gI e2
  subst r2
  clear e2
  replace hf := jite hf
  rcases hf with ⟨c3, hf⟩ | ⟨c3, hf⟩
  · skip
    cases hf
    -- leaf 0: ((- 1 : Int32), h)
    rw [h4, h5, Int32.le_iff_toInt_le, nI_toInt (by omega), nI_toInt (by omega)] at c3
    exact ⟨Or.inr ⟨fun z => absurd (z.1.symm.trans (hE k (by omega)).1) (by decide), rfl⟩, fun _ _ _ => rfl, rfl⟩
  · skip
    replace hf := jbind hf
    obtain ⟨p12, e4, hf⟩ := hf
    have r4 := oc_gR e4
    rw [p1] at r4
    cases r4
    clear e4
    replace hf := jbind hf
    obtain ⟨v16, e5, hf⟩ := hf
    have r5 := oc_gI e5
    subst r5
    clear e5
    replace hf := jbind hf
    obtain ⟨v19, e6, hf⟩ := hf
    obtain ⟨r6, y6⟩ := oc_al e6
    subst r6
    clear e6
    replace hf := jite hf
    rcases hf with ⟨c7, hf⟩ | ⟨c7, hf⟩
    · skip
      replace hf := jbind hf
      obtain ⟨p26, e8, hf⟩ := hf
      have r8 := oc_gR e8
      rw [p3] at r8
      cases r8
      clear e8
      replace hf := jbind hf
      obtain ⟨v30, e9, hf⟩ := hf
      have r9 := oc_gI e9
      subst r9
      clear e9
      replace hf := jbind hf
      obtain ⟨v33, e10, hf⟩ := hf
      obtain ⟨r10, y10⟩ := oc_al e10
      subst r10
      clear e10
      replace hf := jite hf
      rcases hf with ⟨c11, hf⟩ | ⟨c11, hf⟩
      · skip
        cases hf
        -- leaf 100: ((- 1 : Int32), h)
        rw [h4, h5, Int32.le_iff_toInt_le, nI_toInt (by omega), nI_toInt (by omega)] at c3
        rw [h5, nI_cl (by omega)] at c7
        have eT := (hT k (by omega)).1
        rw [h5, nI_cl (by omega)] at c11
        exact ⟨Or.inr ⟨fun z => by have := z.2.1; rw [eT, Int32.le_iff_toInt_le] at this; rw [Int32.lt_iff_toInt_lt] at c11; dsimp only at this; omega, rfl⟩, fun _ _ _ => rfl, rfl⟩
      · skip
        replace hf := jbind hf
        obtain ⟨p39, e12, hf⟩ := hf
        have r12 := oc_gR e12
        rw [p3] at r12
        cases r12
        clear e12
        replace hf := jbind hf
        obtain ⟨v43, e13, hf⟩ := hf
        have r13 := oc_gI e13
        subst r13
        clear e13
        replace hf := jbind hf
        obtain ⟨v46, e14, hf⟩ := hf
        obtain ⟨r14, y14⟩ := oc_al e14
        subst r14
        clear e14
        replace hf := jite hf
        rcases hf with ⟨c15, hf⟩ | ⟨c15, hf⟩
        · skip
          replace hf := jbind hf
          obtain ⟨v55, e16, hf⟩ := hf
          have r16 := oc_gI e16
          subst r16
          clear e16
          replace hf := jbind hf
          obtain ⟨h60, e17, hf⟩ := hf
          obtain ⟨o17, z17⟩ := oc_pf e17
          clear e17
          replace hf := jbind hf
          obtain ⟨p64, e18, hf⟩ := hf
          have r18 := oc_gR e18
          rw [o17] at r18
          rw [u2_ne (Or.inr (by decide))] at r18
          rw [p3] at r18
          cases r18
          clear e18
          replace hf := jbind hf
          obtain ⟨v68, e19, hf⟩ := hf
          have r19 := oc_gI e19
          rw [o17] at r19
          rw [oi_eq] at r19
          subst r19
          clear e19
          replace hf := jbind hf
          obtain ⟨v73, e20, hf⟩ := hf
          obtain ⟨r20, y20⟩ := oc_al e20
          rw [o17] at r20
          rw [oi_ne (Or.inl (by omega))] at r20
          subst r20
          clear e20
          cases hf
          -- leaf 1010: (v73, h60)
          rw [h4, h5, Int32.le_iff_toInt_le, nI_toInt (by omega), nI_toInt (by omega)] at c3
          rw [h5, nI_cl (by omega)] at c7
          have eT := (hT k (by omega)).1
          rw [h5, nI_cl (by omega)] at c11 c15
          rw [h5, nI_1] at o17
          have w : ck (oc h60) a0 b L m T st (k + 1) := by rw [o17]; exact ck_n K (by omega)
          refine ⟨Or.inl ⟨⟨by rw [eT]; exact c7, by rw [eT, Int32.le_iff_toInt_le]; rw [Int32.lt_iff_toInt_lt] at c11; dsimp only; omega, by rw [eT]; exact c15⟩, ?_, w⟩, fun a j u => by rw [o17, u2_ne (by omega)], z17⟩
          show oi (oc h) (a0 + 4) _ = _
          rw [h5, nI_1, show (1 : Int32) = nI 1 from rfl, nI_sb (by omega) (by omega), nI_cl (by omega), eT, show k + 1 - 1 = k by omega]
        · skip
          cases hf
          -- leaf 1011: ((- 1 : Int32), h)
          rw [h4, h5, Int32.le_iff_toInt_le, nI_toInt (by omega), nI_toInt (by omega)] at c3
          rw [h5, nI_cl (by omega)] at c7
          have eT := (hT k (by omega)).1
          rw [h5, nI_cl (by omega)] at c15
          exact ⟨Or.inr ⟨fun z => c15 (by have := z.2.2; rw [eT] at this; exact this), rfl⟩, fun _ _ _ => rfl, rfl⟩
    · skip
      cases hf
      -- leaf 11: ((- 1 : Int32), h)
      rw [h4, h5, Int32.le_iff_toInt_le, nI_toInt (by omega), nI_toInt (by omega)] at c3
      rw [h5, nI_cl (by omega)] at c7
      have eT := (hT k (by omega)).1
      exact ⟨Or.inr ⟨fun z => c7 (by have := z.1; rw [eT] at this; exact this), rfl⟩, fun _ _ _ => rfl, rfl⟩
end
section
/-! what a line of a pole's text does to the world -/
theorem wOK_th {W : jWd} {i : Nat} {x : Int32} (K : wOK W) (hx : x = 0 ∨ x = 1) : wOK (upd W (13 + 8 * i) x) := by
  have e : ∀ k, k ≠ 13 + 8 * i → upd W (13 + 8 * i) x k = W k := fun k h => upd_ne h
  obtain ⟨k0, k1, k2, k3, k4, k5, k6, k7, k8, k9, k10⟩ := K
  unfold wOK
  rw [e 0 (by omega), e 3 (by omega), e 4 (by omega), e 5 (by omega), e 6 (by omega), e 8 (by omega), e 9 (by omega), e 1 (by omega)]
  refine ⟨k0, fun j hj => ?_, fun j hj => ?_, fun j hj => ?_, k4, k5, k6, k7, k8, k9, k10⟩
  · rw [e (11 + 8 * j) (by omega), e (12 + 8 * j) (by omega), e (14 + 8 * j) (by omega), e (15 + 8 * j) (by omega), e (16 + 8 * j) (by omega), e (17 + 8 * j) (by omega), e (18 + 8 * j) (by omega)]
    obtain ⟨a1, a2, a3, a4, a5, a6, a7, a8⟩ := k1 j hj
    refine ⟨a1, a2, ?_, a4, a5, a6, a7, a8⟩
    by_cases q : j = i
    · subst q; rw [upd_eq]; exact hx
    · rw [e (13 + 8 * j) (by omega)]; exact a3
  · rw [e _ (by omega), e _ (by omega)]; exact k2 j hj
  · rw [e _ (by omega)]; exact k3 j hj
theorem wOK_wd {W : jWd} {i : Nat} {x : Int32} (K : wOK W) (hx : x = 0 ∨ x = 1) : wOK (upd W (14 + 8 * i) x) := by
  have e : ∀ k, k ≠ 14 + 8 * i → upd W (14 + 8 * i) x k = W k := fun k h => upd_ne h
  obtain ⟨k0, k1, k2, k3, k4, k5, k6, k7, k8, k9, k10⟩ := K
  unfold wOK
  rw [e 0 (by omega), e 3 (by omega), e 4 (by omega), e 5 (by omega), e 6 (by omega), e 8 (by omega), e 9 (by omega), e 1 (by omega)]
  refine ⟨k0, fun j hj => ?_, fun j hj => ?_, fun j hj => ?_, k4, k5, k6, k7, k8, k9, k10⟩
  · rw [e (11 + 8 * j) (by omega), e (12 + 8 * j) (by omega), e (13 + 8 * j) (by omega), e (15 + 8 * j) (by omega), e (16 + 8 * j) (by omega), e (17 + 8 * j) (by omega), e (18 + 8 * j) (by omega)]
    obtain ⟨a1, a2, a3, a4, a5, a6, a7, a8⟩ := k1 j hj
    refine ⟨a1, a2, a3, ?_, a5, a6, a7, a8⟩
    by_cases q : j = i
    · subst q; rw [upd_eq]; exact hx
    · rw [e (14 + 8 * j) (by omega)]; exact a4
  · rw [e _ (by omega), e _ (by omega)]; exact k2 j hj
  · rw [e _ (by omega)]; exact k3 j hj
theorem wOK_fa {W : jWd} {i : Nat} {x : Int32} (K : wOK W) (hx : 0 ≤ x.toInt ∧ x.toInt ≤ 99) : wOK (upd W (15 + 8 * i) x) := by
  have e : ∀ k, k ≠ 15 + 8 * i → upd W (15 + 8 * i) x k = W k := fun k h => upd_ne h
  obtain ⟨k0, k1, k2, k3, k4, k5, k6, k7, k8, k9, k10⟩ := K
  unfold wOK
  rw [e 0 (by omega), e 3 (by omega), e 4 (by omega), e 5 (by omega), e 6 (by omega), e 8 (by omega), e 9 (by omega), e 1 (by omega)]
  refine ⟨k0, fun j hj => ?_, fun j hj => ?_, fun j hj => ?_, k4, k5, k6, k7, k8, k9, k10⟩
  · rw [e (11 + 8 * j) (by omega), e (12 + 8 * j) (by omega), e (13 + 8 * j) (by omega), e (14 + 8 * j) (by omega), e (16 + 8 * j) (by omega), e (17 + 8 * j) (by omega), e (18 + 8 * j) (by omega)]
    obtain ⟨a1, a2, a3, a4, a5, a6, a7, a8⟩ := k1 j hj
    refine ⟨a1, a2, a3, a4, ?_, a6, a7, a8⟩
    by_cases q : j = i
    · subst q; rw [upd_eq]; exact hx
    · rw [e (15 + 8 * j) (by omega)]; exact a5
  · rw [e _ (by omega), e _ (by omega)]; exact k2 j hj
  · rw [e _ (by omega)]; exact k3 j hj
theorem wOK_3 {W : jWd} {x : Int32} (K : wOK W) (hx : 0 ≤ x.toInt ∧ x.toInt ≤ 7) : wOK (upd W 3 x) := by
  have e : ∀ k, k ≠ 3 → upd W 3 x k = W k := fun k h => upd_ne h
  obtain ⟨k0, k1, k2, k3, k4, k5, k6, k7, k8, k9, k10⟩ := K
  unfold wOK
  rw [e 0 (by omega), e 4 (by omega), e 5 (by omega), e 6 (by omega), e 8 (by omega), e 9 (by omega), e 1 (by omega)]
  refine ⟨k0, fun j hj => ?_, fun j hj => ?_, fun j hj => ?_, by rw [upd_eq]; exact hx, k5, k6, k7, k8, k9, k10⟩
  · rw [e _ (by omega), e _ (by omega), e _ (by omega), e _ (by omega), e _ (by omega), e _ (by omega), e _ (by omega), e _ (by omega)]; exact k1 j hj
  · rw [e _ (by omega), e _ (by omega)]; exact k2 j hj
  · rw [e _ (by omega)]; exact k3 j hj
theorem wOK_4 {W : jWd} {x : Int32} (K : wOK W) (hx : 0 ≤ x.toInt ∧ x.toInt ≤ 9999) : wOK (upd W 4 x) := by
  have e : ∀ k, k ≠ 4 → upd W 4 x k = W k := fun k h => upd_ne h
  obtain ⟨k0, k1, k2, k3, k4, k5, k6, k7, k8, k9, k10⟩ := K
  unfold wOK
  rw [e 0 (by omega), e 3 (by omega), e 5 (by omega), e 6 (by omega), e 8 (by omega), e 9 (by omega), e 1 (by omega)]
  refine ⟨k0, fun j hj => ?_, fun j hj => ?_, fun j hj => ?_, k4, by rw [upd_eq]; exact hx, k6, k7, k8, k9, k10⟩
  · rw [e _ (by omega), e _ (by omega), e _ (by omega), e _ (by omega), e _ (by omega), e _ (by omega), e _ (by omega), e _ (by omega)]; exact k1 j hj
  · rw [e _ (by omega), e _ (by omega)]; exact k2 j hj
  · rw [e _ (by omega)]; exact k3 j hj
theorem wOK_5 {W : jWd} {x : Int32} (K : wOK W) (hx : 1 ≤ x.toInt ∧ x.toInt ≤ 31) : wOK (upd W 5 x) := by
  have e : ∀ k, k ≠ 5 → upd W 5 x k = W k := fun k h => upd_ne h
  obtain ⟨k0, k1, k2, k3, k4, k5, k6, k7, k8, k9, k10⟩ := K
  unfold wOK
  rw [e 0 (by omega), e 3 (by omega), e 4 (by omega), e 6 (by omega), e 8 (by omega), e 9 (by omega), e 1 (by omega)]
  refine ⟨k0, fun j hj => ?_, fun j hj => ?_, fun j hj => ?_, k4, k5, by rw [upd_eq]; exact hx, k7, k8, k9, k10⟩
  · rw [e _ (by omega), e _ (by omega), e _ (by omega), e _ (by omega), e _ (by omega), e _ (by omega), e _ (by omega), e _ (by omega)]; exact k1 j hj
  · rw [e _ (by omega), e _ (by omega)]; exact k2 j hj
  · rw [e _ (by omega)]; exact k3 j hj
theorem wOK_6 {W : jWd} {x : Int32} (K : wOK W) (hx : 0 ≤ x.toInt ∧ x.toInt ≤ 31) : wOK (upd W 6 x) := by
  have e : ∀ k, k ≠ 6 → upd W 6 x k = W k := fun k h => upd_ne h
  obtain ⟨k0, k1, k2, k3, k4, k5, k6, k7, k8, k9, k10⟩ := K
  unfold wOK
  rw [e 0 (by omega), e 3 (by omega), e 4 (by omega), e 5 (by omega), e 8 (by omega), e 9 (by omega), e 1 (by omega)]
  refine ⟨k0, fun j hj => ?_, fun j hj => ?_, fun j hj => ?_, k4, k5, k6, by rw [upd_eq]; exact hx, k8, k9, k10⟩
  · rw [e _ (by omega), e _ (by omega), e _ (by omega), e _ (by omega), e _ (by omega), e _ (by omega), e _ (by omega), e _ (by omega)]; exact k1 j hj
  · rw [e _ (by omega), e _ (by omega)]; exact k2 j hj
  · rw [e _ (by omega)]; exact k3 j hj
theorem wOK_1 {W : jWd} {x : Int32} (K : wOK W) (hx : 0 ≤ x.toInt ∧ x.toInt ≤ 12) : wOK (upd W 1 x) := by
  have e : ∀ k, k ≠ 1 → upd W 1 x k = W k := fun k h => upd_ne h
  obtain ⟨k0, k1, k2, k3, k4, k5, k6, k7, k8, k9, k10⟩ := K
  unfold wOK
  rw [e 0 (by omega), e 3 (by omega), e 4 (by omega), e 5 (by omega), e 6 (by omega), e 8 (by omega), e 9 (by omega)]
  refine ⟨k0, fun j hj => ?_, fun j hj => ?_, fun j hj => ?_, k4, k5, k6, k7, k8, k9, by rw [upd_eq]; exact hx⟩
  · rw [e _ (by omega), e _ (by omega), e _ (by omega), e _ (by omega), e _ (by omega), e _ (by omega), e _ (by omega), e _ (by omega)]; exact k1 j hj
  · rw [e _ (by omega), e _ (by omega)]; exact k2 j hj
  · rw [e _ (by omega)]; exact k3 j hj
theorem upd_self {W : jWd} {k : Nat} {x : Int32} (h : W k = x) : upd W k x = W := by
  funext j
  by_cases e : j = k
  · rw [e, upd_eq]; exact h.symm
  · exact upd_ne e
def rgW (W : jWd) (pl cl th wd fd ln : Int32) : jWd := upd (upd (upd (upd (hgW W pl cl) (13 + 8 * cN W) th) (14 + 8 * cN W) wd) (15 + 8 * cN W) fd) (16 + 8 * cN W) ln
theorem rgW_ok {W : jWd} {pl cl th wd fd ln : Int32} (K : wOK W) (hp : 0 ≤ pl.toInt ∧ pl.toInt ≤ 31) (hc : 1 ≤ cl.toInt ∧ cl.toInt ≤ 9) (c : canS W pl) (ht : th = 0 ∨ th = 1) (hw : wd = 0 ∨ wd = 1) (hf : 0 ≤ fd.toInt ∧ fd.toInt ≤ 99) (hl : 0 ≤ ln.toInt ∧ ln.toInt ≤ 9) : wOK (rgW W pl cl th wd fd ln) := wOK_ln (wOK_fa (wOK_wd (wOK_th (wOK_hg K hp hc c) ht) hw) hf) hl
/-- a sign or word that may stand: what comes next, and 1 if it stood -/
def tkF (T : Nat → Int32 × Int32) (w : Int32) (k : Nat) : Nat × Int32 := if (T k).1 = w then (k + 1, 1) else (k, 0)
theorem tkF_01 {T : Nat → Int32 × Int32} {w : Int32} {k : Nat} : (tkF T w k).2 = 0 ∨ (tkF T w k).2 = 1 := by
  unfold tkF
  split
  · exact Or.inr rfl
  · exact Or.inl rfl
/-- a word with a number behind it that may stand: what comes next and the number (0 if it didn't stand), or where it is wrong -/
def rdMore (T : Nat → Int32 × Int32) (w hi : Int32) (k : Nat) : (Nat × Int32) ⊕ Nat := if (T k).1 = w then (if nOK T (k + 1) 0 hi then .inl (k + 2, (T (k + 1)).2) else .inr (k + 1)) else .inl (k, 0)
def rdRing (T : Nat → Int32 × Int32) (W : jWd) (k : Nat) : (Nat × jWd) ⊕ Nat :=
  if (T k).1 = 17 then
    if nOK T (k + 1) (leW W) (moW W) then
      if (T (k + 2)).1 = 18 then
        if nOK T (k + 3) 1 9 then
          match rdMore T 3 99 (tkF T 7 (tkF T 8 (k + 4)).1).1 with
          | .inr f => .inr f
          | .inl c => match rdMore T 4 9 c.1 with
            | .inr f => .inr f
            | .inl d => .inl (d.1, rgW W (T (k + 1)).2 (T (k + 3)).2 (tkF T 8 (k + 4)).2 (tkF T 7 (tkF T 8 (k + 4)).1).2 c.2 d.2)
        else .inr (k + 3)
      else .inr (k + 2)
    else .inr (k + 1)
  else .inr k
def rdNum (T : Nat → Int32 × Int32) (k : Nat) (lo hi : Int32) (f : Int32 → jWd) : (Nat × jWd) ⊕ Nat := if nOK T k lo hi then .inl (k + 1, f (T k).2) else .inr k
def rdPole (T : Nat → Int32 × Int32) (W : jWd) (k : Nat) : (Nat × jWd) ⊕ Nat :=
  if (T k).1 = 0 then (if W 0 = 8 then .inr k else rdRing T W (k + 1))
  else if (T k).1 = 19 then rdNum T (k + 1) 0 (W 0 - 2) (fun v => upd W (18 + 8 * v.toInt.toNat) 1)
  else if (T k).1 = 20 then rdNum T (k + 1) 0 31 (fun v => upd W 7 (chV (W 7) v.toInt.toNat 1))
  else if (T k).1 = 21 then rdNum T (k + 1) 1 31 (fun v => upd W 5 v)
  else if (T k).1 = 22 then rdNum T (k + 1) 0 31 (fun v => upd W 6 v)
  else if (T k).1 = 5 then rdNum T (k + 1) 0 7 (fun v => upd W 3 v)
  else if (T k).1 = 6 then rdNum T (k + 1) 0 999 (fun v => upd W 4 v)
  else .inr k
/-- all the lines, from thing k on, n lines being left: the world behind them, or where it is wrong -/
def rdLines {S : Type} (ln : S → Nat → (Nat × S) ⊕ Nat) (T : Nat → Int32 × Int32) : Nat → S → Nat → S ⊕ Nat
  | 0, _, k => .inr k
  | n + 1, W, k => match ln W k with
    | .inr f => .inr f
    | .inl d => if (T d.1).1 = -1 then .inl d.2 else if (T d.1).1 = 59 then rdLines ln T n d.2 (d.1 + 1) else .inr d.1
end
section
def jlq (h h1 : jH) : Prop := ∀ (b : Nat) (v : Int32), jlen h b = some v → jlen h1 b = some v
theorem jlq_rfl {h : jH} : jlq h h := fun _ _ e => e
theorem jlq_tr {h h1 h2 : jH} (a : jlq h h1) (b : jlq h1 h2) : jlq h h2 := fun x v e => b x v (a x v e)
theorem lm_pf {c : Nat} {h h1 : jH} {a k : Nat} {v : Value} (e : jpf c h a k v = some h1) : jlq h h1 := by
  obtain ⟨fs, e1, -, rfl⟩ := jpf_o e
  intro b w e2
  unfold jlen at e2 ⊢
  show (match (if b = a then some _ else h.2 b) with | some (.inr (.inl x)) => if x.1 < 3 then some (Int32.ofNat x.2.1) else none | _ => none) = _
  by_cases hb : b = a
  · subst hb
    rw [e1] at e2
    cases e2
  · rw [if_neg hb]
    exact e2
theorem lm_as {t a : Nat} {i x : Int32} {h h1 : jH} (e : jas t h a i x = some h1) : jlq h h1 := by
  obtain ⟨n, f, e1, -, -, rfl⟩ := jas_o e
  intro b w e2
  unfold jlen at e2 ⊢
  show (match (if b = a then some _ else h.2 b) with | some (.inr (.inl x)) => if x.1 < 3 then some (Int32.ofNat x.2.1) else none | _ => none) = _
  by_cases hb : b = a
  · subst hb
    rw [if_pos rfl]
    rw [e1] at e2
    exact e2
  · rw [if_neg hb]
    exact e2
theorem lm_cp {a0 a : Nat} {sp dp n : Int32} {h h1 : jH} (e : jcp h a0 sp a dp n = some h1) : jlq h h1 := by
  obtain ⟨n0, f, n1, g, e0, e1, -, -, -, -, -, rfl⟩ := jcp_o e
  intro b w e2
  unfold jlen at e2 ⊢
  show (match (if b = a then some _ else h.2 b) with | some (.inr (.inl x)) => if x.1 < 3 then some (Int32.ofNat x.2.1) else none | _ => none) = _
  by_cases hb : b = a
  · subst hb
    rw [if_pos rfl]
    rw [e1] at e2
    exact e2
  · rw [if_neg hb]
    exact e2
theorem Ln_X10_take {n : Nat} {a0 : Nat} {x1 : Int32} {h : jH} {q : (Int32 × jH)} (hf : F_X10_take n a0 x1 h = some q) : jlq h q.2 := by
  unfold F_X10_take at hf
  obtain ⟨v1, e1, hf⟩ := jbind hf
  obtain ⟨v5, e2, hf⟩ := jbind hf
  split at hf
  · cases hf
    exact jlq_rfl
  · obtain ⟨p12, e4, hf⟩ := jbind hf
    obtain ⟨v16, e5, hf⟩ := jbind hf
    obtain ⟨v19, e6, hf⟩ := jbind hf
    split at hf
    · obtain ⟨v28, e8, hf⟩ := jbind hf
      obtain ⟨h33, e9, hf⟩ := jbind hf
      cases hf
      have z9 := (lm_pf e9)
      exact z9
    · cases hf
      exact jlq_rfl
theorem Ln_X10_takeNumber {n : Nat} {a0 : Nat} {x1 : Int32} {x2 : Int32} {h : jH} {q : (Int32 × jH)} (hf : F_X10_takeNumber n a0 x1 x2 h = some q) : jlq h q.2 := by
  unfold F_X10_takeNumber at hf
  obtain ⟨v1, e1, hf⟩ := jbind hf
  obtain ⟨v5, e2, hf⟩ := jbind hf
  split at hf
  · cases hf
    exact jlq_rfl
  · obtain ⟨p12, e4, hf⟩ := jbind hf
    obtain ⟨v16, e5, hf⟩ := jbind hf
    obtain ⟨v19, e6, hf⟩ := jbind hf
    split at hf
    · obtain ⟨p26, e8, hf⟩ := jbind hf
      obtain ⟨v30, e9, hf⟩ := jbind hf
      obtain ⟨v33, e10, hf⟩ := jbind hf
      split at hf
      · cases hf
        exact jlq_rfl
      · obtain ⟨p39, e12, hf⟩ := jbind hf
        obtain ⟨v43, e13, hf⟩ := jbind hf
        obtain ⟨v46, e14, hf⟩ := jbind hf
        split at hf
        · obtain ⟨v55, e16, hf⟩ := jbind hf
          obtain ⟨h60, e17, hf⟩ := jbind hf
          obtain ⟨p64, e18, hf⟩ := jbind hf
          obtain ⟨v68, e19, hf⟩ := jbind hf
          obtain ⟨v73, e20, hf⟩ := jbind hf
          cases hf
          have z9 := (lm_pf e17)
          exact z9
        · cases hf
          exact jlq_rfl
    · cases hf
      exact jlq_rfl
theorem Ln_X10_skip {n : Nat} {a0 : Nat} {h : jH} {q : jH} (hf : F_X10_skip n a0 h = some q) : jlq h q := by
  unfold F_X10_skip at hf
  obtain ⟨v1, e1, hf⟩ := jbind hf
  obtain ⟨v5, e2, hf⟩ := jbind hf
  split at hf
  · cases hf
    exact jlq_rfl
  · obtain ⟨v13, e4, hf⟩ := jbind hf
    obtain ⟨h18, e5, hf⟩ := jbind hf
    cases hf
    have z9 := (lm_pf e5)
    exact z9
theorem Ln_X8_add {n : Nat} {a0 : Nat} {x1 : Int32} {x2 : Int32} {h : jH} {q : jH} (hf : F_X8_add n a0 x1 x2 h = some q) : jlq h q := by
  unfold F_X8_add at hf
  obtain ⟨v1, e1, hf⟩ := jbind hf
  split at hf
  · obtain ⟨p11, e3, hf⟩ := jbind hf
    obtain ⟨v15, e4, hf⟩ := jbind hf
    obtain ⟨h19, e5, hf⟩ := jbind hf
    obtain ⟨p21, e6, hf⟩ := jbind hf
    obtain ⟨v25, e7, hf⟩ := jbind hf
    obtain ⟨h29, e8, hf⟩ := jbind hf
    obtain ⟨p31, e9, hf⟩ := jbind hf
    obtain ⟨v35, e10, hf⟩ := jbind hf
    obtain ⟨h39, e11, hf⟩ := jbind hf
    obtain ⟨p41, e12, hf⟩ := jbind hf
    obtain ⟨v45, e13, hf⟩ := jbind hf
    obtain ⟨h49, e14, hf⟩ := jbind hf
    obtain ⟨v52, e15, hf⟩ := jbind hf
    obtain ⟨v56, e16, hf⟩ := jbind hf
    obtain ⟨v60, e17, hf⟩ := jbind hf
    obtain ⟨h63, e18, hf⟩ := jbind hf
    obtain ⟨v68, e19, hf⟩ := jbind hf
    obtain ⟨v72, e20, hf⟩ := jbind hf
    obtain ⟨v76, e21, hf⟩ := jbind hf
    obtain ⟨h79, e22, hf⟩ := jbind hf
    obtain ⟨v84, e23, hf⟩ := jbind hf
    obtain ⟨v88, e24, hf⟩ := jbind hf
    obtain ⟨v92, e25, hf⟩ := jbind hf
    obtain ⟨h95, e26, hf⟩ := jbind hf
    obtain ⟨v100, e27, hf⟩ := jbind hf
    obtain ⟨v104, e28, hf⟩ := jbind hf
    obtain ⟨v108, e29, hf⟩ := jbind hf
    obtain ⟨h111, e30, hf⟩ := jbind hf
    obtain ⟨v116, e31, hf⟩ := jbind hf
    obtain ⟨h121, e32, hf⟩ := jbind hf
    cases hf
    have z9 := (jlq_tr (jlq_tr (jlq_tr (jlq_tr (jlq_tr (jlq_tr (jlq_tr (jlq_tr (lm_as e5) (lm_as e8)) (lm_as e11)) (lm_as e14)) (lm_pf e18)) (lm_pf e22)) (lm_pf e26)) (lm_pf e30)) (lm_pf e32))
    exact z9
  · cases hf
    exact jlq_rfl
theorem Ln_X9_readMore {n : Nat} {a0 : Nat} {x1 : Int32} {a2 : Nat} {x3 : Int32} {x4 : Int32} {h : jH} {q : (Int32 × jH)} (hf : F_X9_readMore n a0 x1 a2 x3 x4 h = some q) : jlq h q.2 := by
  unfold F_X9_readMore at hf
  obtain ⟨v2, e1, hf⟩ := jbind hf
  split at hf
  · cases hf
    exact jlq_rfl
  · obtain ⟨p7, e3, hf⟩ := jbind hf
    obtain ⟨q11, e4, hf⟩ := jbind hf
    obtain ⟨-, e4⟩ := jcv_o e4
    split at hf
    · cases hf
      have z9 := (Ln_X10_take e4)
      exact z9
    · obtain ⟨p20, e6, hf⟩ := jbind hf
      obtain ⟨q26, e7, hf⟩ := jbind hf
      obtain ⟨-, e7⟩ := jcv_o e7
      obtain ⟨h35, e8, hf⟩ := jbind hf
      split at hf
      · cases hf
        have z9 := (jlq_tr (jlq_tr (Ln_X10_take e4) (Ln_X10_takeNumber e7)) (lm_as e8))
        exact z9
      · cases hf
        have z9 := (jlq_tr (jlq_tr (Ln_X10_take e4) (Ln_X10_takeNumber e7)) (lm_as e8))
        exact z9
theorem Ln_X9_readRing {n : Nat} {a0 : Nat} {h : jH} {q : (Int32 × jH)} (hf : F_X9_readRing n a0 h = some q) : jlq h q.2 := by
  unfold F_X9_readRing at hf
  obtain ⟨p1, e1, hf⟩ := jbind hf
  obtain ⟨q6, e2, hf⟩ := jbind hf
  obtain ⟨-, e2⟩ := jcv_o e2
  split at hf
  · cases hf
    have z9 := (Ln_X10_take e2)
    exact z9
  · obtain ⟨p15, e4, hf⟩ := jbind hf
    obtain ⟨p19, e5, hf⟩ := jbind hf
    obtain ⟨v22, e6, hf⟩ := jbind hf
    obtain ⟨-, e6⟩ := jcv_o e6
    obtain ⟨p26, e7, hf⟩ := jbind hf
    obtain ⟨v29, e8, hf⟩ := jbind hf
    obtain ⟨-, e8⟩ := jcv_o e8
    obtain ⟨q32, e9, hf⟩ := jbind hf
    obtain ⟨-, e9⟩ := jcv_o e9
    split at hf
    · cases hf
      have z9 := (jlq_tr (Ln_X10_take e2) (Ln_X10_takeNumber e9))
      exact z9
    · obtain ⟨p42, e11, hf⟩ := jbind hf
      obtain ⟨q47, e12, hf⟩ := jbind hf
      obtain ⟨-, e12⟩ := jcv_o e12
      split at hf
      · cases hf
        have z9 := (jlq_tr (jlq_tr (Ln_X10_take e2) (Ln_X10_takeNumber e9)) (Ln_X10_take e12))
        exact z9
      · obtain ⟨p56, e14, hf⟩ := jbind hf
        obtain ⟨q62, e15, hf⟩ := jbind hf
        obtain ⟨-, e15⟩ := jcv_o e15
        split at hf
        · cases hf
          have z9 := (jlq_tr (jlq_tr (jlq_tr (Ln_X10_take e2) (Ln_X10_takeNumber e9)) (Ln_X10_take e12)) (Ln_X10_takeNumber e15))
          exact z9
        · obtain ⟨p74, e17, hf⟩ := jbind hf
          obtain ⟨v77, e18, hf⟩ := jbind hf
          obtain ⟨p82, e19, hf⟩ := jbind hf
          obtain ⟨h87, e20, hf⟩ := jbind hf
          obtain ⟨-, e20⟩ := jcv_o e20
          obtain ⟨p91, e21, hf⟩ := jbind hf
          obtain ⟨p95, e22, hf⟩ := jbind hf
          obtain ⟨v98, e23, hf⟩ := jbind hf
          obtain ⟨p103, e24, hf⟩ := jbind hf
          obtain ⟨q108, e25, hf⟩ := jbind hf
          obtain ⟨-, e25⟩ := jcv_o e25
          obtain ⟨v111, e26, hf⟩ := jbind hf
          obtain ⟨h114, e27, hf⟩ := jbind hf
          obtain ⟨p118, e28, hf⟩ := jbind hf
          obtain ⟨p122, e29, hf⟩ := jbind hf
          obtain ⟨v125, e30, hf⟩ := jbind hf
          obtain ⟨p130, e31, hf⟩ := jbind hf
          obtain ⟨q135, e32, hf⟩ := jbind hf
          obtain ⟨-, e32⟩ := jcv_o e32
          obtain ⟨v138, e33, hf⟩ := jbind hf
          obtain ⟨h141, e34, hf⟩ := jbind hf
          obtain ⟨p147, e35, hf⟩ := jbind hf
          obtain ⟨p150, e36, hf⟩ := jbind hf
          obtain ⟨q156, e37, hf⟩ := jbind hf
          obtain ⟨-, e37⟩ := jcv_o e37
          split at hf
          · cases hf
            have z9 := (jlq_tr (jlq_tr (jlq_tr (jlq_tr (jlq_tr (jlq_tr (jlq_tr (jlq_tr (jlq_tr (Ln_X10_take e2) (Ln_X10_takeNumber e9)) (Ln_X10_take e12)) (Ln_X10_takeNumber e15)) (Ln_X8_add e20)) (Ln_X10_take e25)) (lm_pf e27)) (Ln_X10_take e32)) (lm_pf e34)) (Ln_X9_readMore e37))
            exact z9
          · obtain ⟨p165, e39, hf⟩ := jbind hf
            obtain ⟨p168, e40, hf⟩ := jbind hf
            obtain ⟨q174, e41, hf⟩ := jbind hf
            obtain ⟨-, e41⟩ := jcv_o e41
            split at hf
            · cases hf
              have z9 := (jlq_tr (jlq_tr (jlq_tr (jlq_tr (jlq_tr (jlq_tr (jlq_tr (jlq_tr (jlq_tr (jlq_tr (Ln_X10_take e2) (Ln_X10_takeNumber e9)) (Ln_X10_take e12)) (Ln_X10_takeNumber e15)) (Ln_X8_add e20)) (Ln_X10_take e25)) (lm_pf e27)) (Ln_X10_take e32)) (lm_pf e34)) (Ln_X9_readMore e37)) (Ln_X9_readMore e41))
              exact z9
            · cases hf
              have z9 := (jlq_tr (jlq_tr (jlq_tr (jlq_tr (jlq_tr (jlq_tr (jlq_tr (jlq_tr (jlq_tr (jlq_tr (Ln_X10_take e2) (Ln_X10_takeNumber e9)) (Ln_X10_take e12)) (Ln_X10_takeNumber e15)) (Ln_X8_add e20)) (Ln_X10_take e25)) (lm_pf e27)) (Ln_X10_take e32)) (lm_pf e34)) (Ln_X9_readMore e37)) (Ln_X9_readMore e41))
              exact z9
theorem Ln_X9_keepNumber {n : Nat} {a0 : Nat} {x1 : Int32} {x2 : Int32} {h : jH} {q : jH} (hf : F_X9_keepNumber n a0 x1 x2 h = some q) : jlq h q := by
  unfold F_X9_keepNumber at hf
  split at hf
  · obtain ⟨p119, e2, hf⟩ := jbind hf
    obtain ⟨h123, e3, hf⟩ := jbind hf
    cases hf
    have z9 := (lm_pf e3)
    exact z9
  · split at hf
    · obtain ⟨p53, e5, hf⟩ := jbind hf
      obtain ⟨p57, e6, hf⟩ := jbind hf
      obtain ⟨v60, e7, hf⟩ := jbind hf
      obtain ⟨v65, e8, hf⟩ := jbind hf
      obtain ⟨h68, e9, hf⟩ := jbind hf
      cases hf
      have z9 := (lm_pf e9)
      exact z9
    · split at hf
      · obtain ⟨p75, e11, hf⟩ := jbind hf
        obtain ⟨p79, e12, hf⟩ := jbind hf
        obtain ⟨v82, e13, hf⟩ := jbind hf
        obtain ⟨v87, e14, hf⟩ := jbind hf
        obtain ⟨h90, e15, hf⟩ := jbind hf
        cases hf
        have z9 := (lm_pf e15)
        exact z9
      · split at hf
        · obtain ⟨p97, e17, hf⟩ := jbind hf
          obtain ⟨h101, e18, hf⟩ := jbind hf
          cases hf
          have z9 := (lm_pf e18)
          exact z9
        · split at hf
          · obtain ⟨p108, e20, hf⟩ := jbind hf
            obtain ⟨h112, e21, hf⟩ := jbind hf
            cases hf
            have z9 := (lm_pf e21)
            exact z9
          · obtain ⟨p130, e22, hf⟩ := jbind hf
            obtain ⟨h134, e23, hf⟩ := jbind hf
            cases hf
            have z9 := (lm_pf e23)
            exact z9
theorem Ln_X9_readNumber {n : Nat} {a0 : Nat} {x1 : Int32} {h : jH} {q : (Int32 × jH)} (hf : F_X9_readNumber n a0 x1 h = some q) : jlq h q.2 := by
  unfold F_X9_readNumber at hf
  split at hf
  · obtain ⟨p74, e2, hf⟩ := jbind hf
    obtain ⟨q80, e3, hf⟩ := jbind hf
    obtain ⟨-, e3⟩ := jcv_o e3
    cases hf
    have z9 := (Ln_X10_takeNumber e3)
    exact z9
  · split at hf
    · obtain ⟨p85, e5, hf⟩ := jbind hf
      obtain ⟨q92, e6, hf⟩ := jbind hf
      obtain ⟨-, e6⟩ := jcv_o e6
      cases hf
      have z9 := (Ln_X10_takeNumber e6)
      exact z9
    · split at hf
      · obtain ⟨p45, e8, hf⟩ := jbind hf
        obtain ⟨p50, e9, hf⟩ := jbind hf
        obtain ⟨v53, e10, hf⟩ := jbind hf
        obtain ⟨q58, e11, hf⟩ := jbind hf
        obtain ⟨-, e11⟩ := jcv_o e11
        cases hf
        have z9 := (Ln_X10_takeNumber e11)
        exact z9
      · split at hf
        · obtain ⟨p63, e13, hf⟩ := jbind hf
          obtain ⟨q69, e14, hf⟩ := jbind hf
          obtain ⟨-, e14⟩ := jcv_o e14
          cases hf
          have z9 := (Ln_X10_takeNumber e14)
          exact z9
        · obtain ⟨p97, e15, hf⟩ := jbind hf
          obtain ⟨q103, e16, hf⟩ := jbind hf
          obtain ⟨-, e16⟩ := jcv_o e16
          cases hf
          have z9 := (Ln_X10_takeNumber e16)
          exact z9
theorem Ln_X9_readLine_33 {n : Nat} {a0 : Nat} {x1 : Int32} {h : jH} {q : (Int32 × jH)} (hf : F_X9_readLine_33 n a0 x1 h = some q) : jlq h q.2 := by
  unfold F_X9_readLine_33 at hf
  obtain ⟨p34, e1, hf⟩ := jbind hf
  obtain ⟨h37, e2, hf⟩ := jbind hf
  obtain ⟨-, e2⟩ := jcv_o e2
  split at hf
  · obtain ⟨q45, e4, hf⟩ := jbind hf
    obtain ⟨-, e4⟩ := jcv_o e4
    split at hf
    · cases hf
      have z9 := (jlq_tr (Ln_X10_skip e2) (Ln_X9_readRing e4))
      exact z9
    · cases hf
  · obtain ⟨q51, e6, hf⟩ := jbind hf
    obtain ⟨-, e6⟩ := jcv_o e6
    split at hf
    · cases hf
      have z9 := (jlq_tr (Ln_X10_skip e2) (Ln_X9_readNumber e6))
      exact z9
    · obtain ⟨h65, e8, hf⟩ := jbind hf
      obtain ⟨-, e8⟩ := jcv_o e8
      cases hf
      have z9 := (jlq_tr (jlq_tr (Ln_X10_skip e2) (Ln_X9_readNumber e6)) (Ln_X9_keepNumber e8))
      exact z9
theorem Ln_X9_readLine {n : Nat} {a0 : Nat} {h : jH} {q : (Int32 × jH)} (hf : F_X9_readLine n a0 h = some q) : jlq h q.2 := by
  unfold F_X9_readLine at hf
  obtain ⟨p1, e1, hf⟩ := jbind hf
  obtain ⟨v4, e2, hf⟩ := jbind hf
  obtain ⟨-, e2⟩ := jcv_o e2
  obtain ⟨v9, e3, hf⟩ := jbind hf
  split at hf
  · cases hf
    exact jlq_rfl
  · split at hf
    · obtain ⟨p20, e6, hf⟩ := jbind hf
      obtain ⟨v23, e7, hf⟩ := jbind hf
      split at hf
      · exact (Ln_X9_readLine_33 hf)
      · cases hf
        exact jlq_rfl
    · exact (Ln_X9_readLine_33 hf)
theorem Ln_X10_scanThing {n : Nat} {a0 : Nat} {x1 : Int32} {h : jH} {q : (Int32 × jH)} (hf : F_X10_scanThing n a0 x1 h = some q) : jlq h q.2 := by
  unfold F_X10_scanThing at hf
  obtain ⟨v6, e1, hf⟩ := jbind hf
  obtain ⟨-, e1⟩ := jcv_o e1
  split at hf
  · obtain ⟨v38, e3, hf⟩ := jbind hf
    obtain ⟨-, e3⟩ := jcv_o e3
    split at hf
    · obtain ⟨v77, e5, hf⟩ := jbind hf
      obtain ⟨-, e5⟩ := jcv_o e5
      obtain ⟨p82, e6, hf⟩ := jbind hf
      obtain ⟨v86, e7, hf⟩ := jbind hf
      split at hf
      · obtain ⟨h101, e9, hf⟩ := jbind hf
        cases hf
        have z9 := (lm_as e9)
        exact z9
      · obtain ⟨h101, e10, hf⟩ := jbind hf
        cases hf
        have z9 := (lm_as e10)
        exact z9
    · obtain ⟨p48, e11, hf⟩ := jbind hf
      obtain ⟨v52, e12, hf⟩ := jbind hf
      obtain ⟨h57, e13, hf⟩ := jbind hf
      obtain ⟨p59, e14, hf⟩ := jbind hf
      obtain ⟨v63, e15, hf⟩ := jbind hf
      obtain ⟨v69, e16, hf⟩ := jbind hf
      obtain ⟨-, e16⟩ := jcv_o e16
      obtain ⟨h72, e17, hf⟩ := jbind hf
      cases hf
      have z9 := (jlq_tr (lm_as e13) (lm_as e17))
      exact z9
  · obtain ⟨p16, e18, hf⟩ := jbind hf
    obtain ⟨v20, e19, hf⟩ := jbind hf
    obtain ⟨v26, e20, hf⟩ := jbind hf
    obtain ⟨-, e20⟩ := jcv_o e20
    obtain ⟨h29, e21, hf⟩ := jbind hf
    cases hf
    have z9 := (lm_as e21)
    exact z9
theorem Ln_X10_scan_12 {n : Nat} {k : Nat} : ∀ {a0 : Nat} {x1 : Int32} {h : jH} {q : jH}, F_X10_scan_12 n k a0 x1 h = some q → jlq h q := by
  induction k with
  | zero =>
    intro a0 x1 h q hf
    cases hf
  | succ k ih =>
    intro a0 x1 h q hf
    replace hf : F_X10_scan_12_b n (F_X10_scan_12 n k) a0 x1 h = some q := hf
    unfold F_X10_scan_12_b at hf
    obtain ⟨v14, e1, hf⟩ := jbind hf
    split at hf
    · cases hf
      exact jlq_rfl
    · obtain ⟨v21, e3, hf⟩ := jbind hf
      split at hf
      · cases hf
        exact jlq_rfl
      · obtain ⟨v36, e5, hf⟩ := jbind hf
        obtain ⟨-, e5⟩ := jcv_o e5
        split at hf
        · exact (ih hf)
        · obtain ⟨q46, e7, hf⟩ := jbind hf
          obtain ⟨-, e7⟩ := jcv_o e7
          obtain ⟨p51, e8, hf⟩ := jbind hf
          obtain ⟨v55, e9, hf⟩ := jbind hf
          obtain ⟨h59, e10, hf⟩ := jbind hf
          obtain ⟨v62, e11, hf⟩ := jbind hf
          obtain ⟨h67, e12, hf⟩ := jbind hf
          exact (jlq_tr (jlq_tr (jlq_tr (Ln_X10_scanThing e7) (lm_as e10)) (lm_pf e12)) (ih hf))
theorem Ln_X10_scan {n : Nat} {a0 : Nat} {h : jH} {q : jH} (hf : F_X10_scan n a0 h = some q) : jlq h q := by
  unfold F_X10_scan at hf
  obtain ⟨h2, e1, hf⟩ := jbind hf
  obtain ⟨h7, e2, hf⟩ := jbind hf
  exact (jlq_tr (jlq_tr (lm_pf e1) (lm_pf e2)) (Ln_X10_scan_12 hf))
theorem Ln_X8_hangAs {n : Nat} {a0 : Nat} {a1 : Nat} {h : jH} {q : jH} (hf : F_X8_hangAs n a0 a1 h = some q) : jlq h q := by
  unfold F_X8_hangAs at hf
  obtain ⟨p1, e1, hf⟩ := jbind hf
  obtain ⟨p6, e2, hf⟩ := jbind hf
  obtain ⟨h12, e3, hf⟩ := jbind hf
  obtain ⟨v17, e4, hf⟩ := jbind hf
  obtain ⟨h20, e5, hf⟩ := jbind hf
  obtain ⟨v25, e6, hf⟩ := jbind hf
  obtain ⟨h28, e7, hf⟩ := jbind hf
  cases hf
  have z9 := (jlq_tr (jlq_tr (lm_cp e3) (lm_pf e5)) (lm_pf e7))
  exact z9
theorem Ln_X5_copyFrom {n : Nat} {a0 : Nat} {a1 : Nat} {h : jH} {q : jH} (hf : F_X5_copyFrom n a0 a1 h = some q) : jlq h q := by
  unfold F_X5_copyFrom at hf
  obtain ⟨p1, e1, hf⟩ := jbind hf
  obtain ⟨p6, e2, hf⟩ := jbind hf
  obtain ⟨h12, e3, hf⟩ := jbind hf
  obtain ⟨v17, e4, hf⟩ := jbind hf
  obtain ⟨h20, e5, hf⟩ := jbind hf
  obtain ⟨v25, e6, hf⟩ := jbind hf
  obtain ⟨h28, e7, hf⟩ := jbind hf
  cases hf
  have z9 := (jlq_tr (jlq_tr (lm_cp e3) (lm_pf e5)) (lm_pf e7))
  exact z9
theorem Ln_X8_copyFrom {n : Nat} {a0 : Nat} {a1 : Nat} {h : jH} {q : jH} (hf : F_X8_copyFrom n a0 a1 h = some q) : jlq h q := by
  unfold F_X8_copyFrom at hf
  obtain ⟨p1, e1, hf⟩ := jbind hf
  obtain ⟨p6, e2, hf⟩ := jbind hf
  obtain ⟨h12, e3, hf⟩ := jbind hf
  obtain ⟨p16, e4, hf⟩ := jbind hf
  obtain ⟨p21, e5, hf⟩ := jbind hf
  obtain ⟨h27, e6, hf⟩ := jbind hf
  obtain ⟨p31, e7, hf⟩ := jbind hf
  obtain ⟨p36, e8, hf⟩ := jbind hf
  obtain ⟨h42, e9, hf⟩ := jbind hf
  obtain ⟨p46, e10, hf⟩ := jbind hf
  obtain ⟨p50, e11, hf⟩ := jbind hf
  obtain ⟨h53, e12, hf⟩ := jbind hf
  obtain ⟨-, e12⟩ := jcv_o e12
  obtain ⟨v58, e13, hf⟩ := jbind hf
  obtain ⟨h61, e14, hf⟩ := jbind hf
  obtain ⟨v66, e15, hf⟩ := jbind hf
  obtain ⟨h69, e16, hf⟩ := jbind hf
  obtain ⟨v74, e17, hf⟩ := jbind hf
  obtain ⟨h77, e18, hf⟩ := jbind hf
  obtain ⟨v82, e19, hf⟩ := jbind hf
  obtain ⟨h85, e20, hf⟩ := jbind hf
  obtain ⟨v90, e21, hf⟩ := jbind hf
  obtain ⟨h93, e22, hf⟩ := jbind hf
  obtain ⟨v98, e23, hf⟩ := jbind hf
  obtain ⟨h101, e24, hf⟩ := jbind hf
  obtain ⟨v106, e25, hf⟩ := jbind hf
  obtain ⟨h109, e26, hf⟩ := jbind hf
  obtain ⟨v114, e27, hf⟩ := jbind hf
  obtain ⟨h117, e28, hf⟩ := jbind hf
  obtain ⟨v122, e29, hf⟩ := jbind hf
  obtain ⟨h125, e30, hf⟩ := jbind hf
  obtain ⟨v130, e31, hf⟩ := jbind hf
  obtain ⟨h133, e32, hf⟩ := jbind hf
  obtain ⟨v138, e33, hf⟩ := jbind hf
  obtain ⟨h141, e34, hf⟩ := jbind hf
  obtain ⟨h146, e35, hf⟩ := jbind hf
  obtain ⟨-, e35⟩ := jcv_o e35
  cases hf
  have z9 := (jlq_tr (jlq_tr (jlq_tr (jlq_tr (jlq_tr (jlq_tr (jlq_tr (jlq_tr (jlq_tr (jlq_tr (jlq_tr (jlq_tr (jlq_tr (jlq_tr (jlq_tr (lm_cp e3) (lm_cp e6)) (lm_cp e9)) (Ln_X5_copyFrom e12)) (lm_pf e14)) (lm_pf e16)) (lm_pf e18)) (lm_pf e20)) (lm_pf e22)) (lm_pf e24)) (lm_pf e26)) (lm_pf e28)) (lm_pf e30)) (lm_pf e32)) (lm_pf e34)) (Ln_X8_hangAs e35))
  exact z9
/-! a line of a pole's text, as the class reads it -/
/-- the reader of lines of the class at x + 34: its tape is at x + 1, its draft at x + 21 -/
def rrS (O : jO) (x : Nat) : Prop := O (x + 34) 0 = .ref (x + 1) ∧ O (x + 34) 1 = .int 14 ∧ O (x + 34) 2 = .ref (x + 21)
/-- what is left alone: all but the draft and the tape's place -/
def frD (x : Nat) (O O2 : jO) : Prop := ∀ a j : Nat, ¬ (a = x + 1 ∧ j = 5) → ¬ (x + 21 ≤ a ∧ a ≤ x + 27) → O2 a j = O a j
theorem frD_tr {x : Nat} {O O2 O3 : jO} (a : frD x O O2) (b : frD x O2 O3) : frD x O O3 := fun c k h q => (b c k h q).trans (a c k h q)
theorem frD_5 {x : Nat} {O O2 : jO} (f : ∀ a j : Nat, ¬ (a = x + 1 ∧ j = 5) → O2 a j = O a j) : frD x O O2 := fun a j h _ => f a j h
theorem frD_R {x : Nat} {O O2 : jO} (f : frR (x + 21) O O2) : frD x O O2 := fun a j _ h => f a j (by omega)
theorem frD_0 {x : Nat} {O : jO} : frD x O O := fun _ _ _ _ => rfl
theorem rrS_D {x : Nat} {O O2 : jO} (S : rrS O x) (f : frD x O O2) : rrS O2 x := ⟨(f _ _ (by omega) (by omega)).trans S.1, (f _ _ (by omega) (by omega)).trans S.2.1, (f _ _ (by omega) (by omega)).trans S.2.2⟩
theorem ck_D {O O2 : jO} {x L m k : Nat} {b : Nat → Int32} {T : Nat → Int32 × Int32} {st : Nat → Nat} (C : ck O (x + 1) b L m T st k) (f : frR (x + 21) O O2) : ck O2 (x + 1) b L m T st k := ck_fr C (fun a j h1 h2 => f a j (by omega))
theorem rodE_5 {O O2 : jO} {x : Nat} {W : jWd} (R : rodE O (x + 21) W) (f : ∀ a j : Nat, ¬ (a = x + 1 ∧ j = 5) → O2 a j = O a j) : rodE O2 (x + 21) W := rodE_fr R (fun a k h1 h2 => f a k (by omega))
/-- what the class answers to a line, r telling what is asked -/
def lnC (O : jO) (v : Int32) (x : Nat) (b : Nat → Int32) (L m : Nat) (T : Nat → Int32 × Int32) (st : Nat → Nat) (r : (Nat × jWd) ⊕ Nat) : Prop :=
  (∀ p, r = .inl p → v = 1 ∧ ck O (x + 1) b L m T st p.1 ∧ rodE O (x + 21) p.2) ∧ (∀ f, r = .inr f → v = 0 ∧ ck O (x + 1) b L m T st f ∧ rodS O (x + 21))
theorem lnC_l {O : jO} {v : Int32} {x L m k : Nat} {b : Nat → Int32} {T : Nat → Int32 × Int32} {st : Nat → Nat} {r : (Nat × jWd) ⊕ Nat} {W : jWd} (e : r = .inl (k, W)) (h : v = 1 ∧ ck O (x + 1) b L m T st k ∧ rodE O (x + 21) W) : lnC O v x b L m T st r :=
  ⟨fun p z => (by rw [e] at z; cases z; exact h), fun f z => (by rw [e] at z; cases z)⟩
theorem lnC_r {O : jO} {v : Int32} {x L m k : Nat} {b : Nat → Int32} {T : Nat → Int32 × Int32} {st : Nat → Nat} {r : (Nat × jWd) ⊕ Nat} (e : r = .inr k) (h : v = 0 ∧ ck O (x + 1) b L m T st k ∧ rodS O (x + 21)) : lnC O v x b L m T st r :=
  ⟨fun p z => (by rw [e] at z; cases z), fun f z => (by rw [e] at z; cases z; exact h)⟩
theorem E_X9_readMore {b : Nat → Int32} {L : Nat} {m : Nat} {T : Nat → Int32 × Int32} {st : Nat → Nat} {k : Nat} {x : Nat} {c : Nat} {d : Nat} {n : Nat} {a0 : Nat} {x1 : Int32} {a2 : Nat} {x3 : Int32} {x4 : Int32} {h : jH} {q : Int32 × jH} (K : ck (oc h) (x + 1) b L m T st k) (S : rrS (oc h) x) (ha : a0 = x + 34) (h2 : a2 = x + d) (hd : 24 ≤ d ∧ d ≤ 25) (h3 : x3 = nI c) (hc : c < 8) (hw : x1 ≠ -1) (hl : jlen h (x + d) = some 8) (hf : F_X9_readMore n a0 x1 a2 x3 x4 h = some q) : (((T k).1 ≠ x1 ∧ q = (1, h)) ∨ ((T k).1 = x1 ∧ nOK T (k + 1) 0 x4 ∧ q.1 = 1 ∧ ck (oc q.2) (x + 1) b L m T st (k + 2) ∧ ∃ O1, (∀ a j : Nat, ¬ (a = x + 1 ∧ j = 5) → O1 a j = oc h a j) ∧ oc q.2 = u2 O1 (x + d) c (.int (T (k + 1)).2)) ∨ ((T k).1 = x1 ∧ ¬ nOK T (k + 1) 0 x4 ∧ q.1 = 0 ∧ ck (oc q.2) (x + 1) b L m T st (k + 1) ∧ ∃ O1, (∀ a j : Nat, ¬ (a = x + 1 ∧ j = 5) → O1 a j = oc h a j) ∧ oc q.2 = u2 O1 (x + d) c (.int (-1)))) ∧ q.2.1 = h.1 := by
  unfold F_X9_readMore at hf
  subst ha
  subst h2
  replace hf := jbind hf
  obtain ⟨v2, e1, hf⟩ := hf
  replace hf := jite hf
  rcases hf with ⟨c2, hf⟩ | ⟨c2, hf⟩
  · skip
    cases hf
    -- leaf 0: ((1 : Int32), h)
    have e9 := Option.some.inj (e1.symm.trans hl)
    rw [e9, h3, Int32.le_iff_toInt_le, nI_toInt (by omega), show (8 : Int32).toInt = 8 from rfl] at c2
    omega
  · skip
    replace hf := jbind hf
    obtain ⟨p7, e3, hf⟩ := hf
    have r3 := oc_gR e3
    rw [S.1] at r3
    cases r3
    clear e3
    replace hf := jbind hf
    obtain ⟨q11, e4, hf⟩ := hf
    replace e4 := (jcv_o e4).2
    obtain ⟨r4, f4, z4⟩ := E_X10_take K hw e4
    have S0 : oc q11.2 (x + 34) 0 = .ref (x + 1) := (f4 _ _ (by omega)).trans S.1
    replace hf := jite hf
    rcases hf with ⟨c5, hf⟩ | ⟨c5, hf⟩
    · skip
      cases hf
      -- leaf 10: ((1 : Int32), q11.2)
      rcases r4 with ⟨-, y, -⟩ | ⟨y1, y2⟩
      · exact absurd (c5.symm.trans y) (by decide)
      exact ⟨Or.inl ⟨y1, by rw [y2]⟩, z4⟩
    · skip
      replace hf := jbind hf
      obtain ⟨p20, e6, hf⟩ := hf
      have r6 := oc_gR e6
      rw [S0] at r6
      cases r6
      clear e6
      replace hf := jbind hf
      obtain ⟨q26, e7, hf⟩ := hf
      replace e7 := (jcv_o e7).2
      rcases r4 with ⟨y1, y2, K2⟩ | ⟨-, y⟩
      rotate_left
      · exact absurd (by rw [y]) c5
      obtain ⟨r7, f7, z7⟩ := E_X10_takeNumber K2 e7
      replace hf := jbind hf
      obtain ⟨h35, e8, hf⟩ := hf
      obtain ⟨o8, z8, y8⟩ := oc_as e8
      rw [jnar0] at o8
      clear e8
      replace hf := jite hf
      rcases hf with ⟨c9, hf⟩ | ⟨c9, hf⟩
      · skip
        cases hf
        -- leaf 110: ((0 : Int32), h35)
        rw [h3, nI_cl (by omega)] at o8
        have F : ∀ a j : Nat, ¬ (a = x + 1 ∧ j = 5) → oc q26.2 a j = oc h a j := fun a j u => (f7 a j u).trans (f4 a j u)
        have CK : ∀ k2, ck (oc q26.2) (x + 1) b L m T st k2 → ck (oc h35) (x + 1) b L m T st k2 := fun k2 y => by rw [o8]; exact ck_fr y (fun a j h1 h2 => u2_ne (by omega))
        rcases r7 with ⟨w1, w2, w3⟩ | ⟨w1, w2⟩
        · exfalso
          rw [w2] at c9
          have := w1.2.1
          rw [c9, Int32.le_iff_toInt_le] at this
          exact absurd this (by decide)
        rw [w2] at o8
        exact ⟨Or.inr (Or.inr ⟨y1, w1, rfl, CK _ (by rw [w2]; exact K2), oc q26.2, F, by rw [w2]; exact o8⟩), z8.trans (z7.trans z4)⟩
      · skip
        cases hf
        -- leaf 111: ((1 : Int32), h35)
        rw [h3, nI_cl (by omega)] at o8
        have F : ∀ a j : Nat, ¬ (a = x + 1 ∧ j = 5) → oc q26.2 a j = oc h a j := fun a j u => (f7 a j u).trans (f4 a j u)
        have CK : ∀ k2, ck (oc q26.2) (x + 1) b L m T st k2 → ck (oc h35) (x + 1) b L m T st k2 := fun k2 y => by rw [o8]; exact ck_fr y (fun a j h1 h2 => u2_ne (by omega))
        rcases r7 with ⟨w1, w2, w3⟩ | ⟨w1, w2⟩
        rotate_left
        · exact absurd (by rw [w2]) c9
        rw [w2] at o8
        exact ⟨Or.inr (Or.inl ⟨y1, w1, rfl, CK _ w3, oc q26.2, F, o8⟩), z8.trans (z7.trans z4)⟩
end
