/-! the class scans its tape -/
theorem E_X10_scanThing {b : Nat → Int32} {L : Nat} {s : Nat} {k : Nat} {n : Nat} {a0 : Nat} {x1 : Int32} {h : jH} {q : Int32 × jH} (C : ctb (oc h) a0 b L) (h4 : oi (oc h) a0 4 = nI k) (hk : k < 400) (hx : x1 = nI s) (hs : s < L) (nb : b s ≠ 32) (hf : F_X10_scanThing n a0 x1 h = some q) : ∃ e, q.1 = nI e ∧ s < e ∧ e ≤ L ∧ thE b L s e (oi (oc q.2) (a0 + 2) k, oi (oc q.2) (a0 + 4) k) ∧ (∀ a j : Nat, ¬ (a = a0 + 2 ∧ j = k) → ¬ (a = a0 + 4 ∧ j = k) → oc q.2 a j = oc h a j) ∧ q.2.1 = h.1 := by
  unfold F_X10_scanThing at hf
  obtain ⟨⟨p0, p1, p2, p3⟩, h6, hL, hb, hr⟩ := id C
  replace hf := jbind hf
  obtain ⟨v6, e1, hf⟩ := hf
  replace e1 := (jcv_o e1).2
  obtain ⟨j1, y1, w1, l1⟩ := E_X10_endOfRow C (by decide) hx (by omega) e1
  replace hf := jite hf
  rcases hf with ⟨c2, hf⟩ | ⟨c2, hf⟩
  · skip
    replace hf := jbind hf
    obtain ⟨v38, e3, hf⟩ := hf
    replace e3 := (jcv_o e3).2
    obtain ⟨j3, y3, w3, l3⟩ := E_X10_endOfRow C (by decide) hx (by omega) e3
    replace hf := jite hf
    rcases hf with ⟨c4, hf⟩ | ⟨c4, hf⟩
    · skip
      replace hf := jbind hf
      obtain ⟨v77, e5, hf⟩ := hf
      replace e5 := (jcv_o e5).2
      have r5 := E_X10_at C hx (by omega) e5
      replace hf := jbind hf
      obtain ⟨p82, e6, hf⟩ := hf
      have r6 := oc_gR e6
      rw [p1] at r6
      cases r6
      clear e6
      replace hf := jbind hf
      obtain ⟨v86, e7, hf⟩ := hf
      have r7 := oc_gI e7
      subst r7
      clear e7
      replace hf := jite hf
      rcases hf with ⟨c8, hf⟩ | ⟨c8, hf⟩
      · skip
        replace hf := jbind hf
        obtain ⟨h101, e9, hf⟩ := hf
        obtain ⟨o9, z9, y9⟩ := oc_as e9
        rw [jnar0] at o9
        clear e9
        cases hf
        -- leaf 000: (x1 + (1 : Int32), h101)
        rw [y1, hx, Int32.le_iff_toInt_le, nI_toInt (by omega), nI_toInt (by omega)] at c2
        have n1 : ¬ bIn b L 97 122 s := by have := w1.2.2; rw [show j1 = s by have := w1.1; omega] at this; exact this
        rw [y3, hx, Int32.le_iff_toInt_le, nI_toInt (by omega), nI_toInt (by omega)] at c4
        have n3 : ¬ bIn b L 48 57 s := by have := w3.2.2; rw [show j3 = s by have := w3.1; omega] at this; exact this
        have v5 : v77 = b s &&& 255 := by
          rcases r5 with ⟨-, y⟩ | ⟨y, -⟩
          · exact y
          · omega
        rw [v5] at c8 o9
        rw [Int32.le_iff_toInt_le] at c8
        rw [h4, nI_cl (by omega)] at o9
        refine ⟨s + 1, by rw [hx]; exact nI_1 s, by omega, by omega, Or.inr (Or.inr ⟨hs, n1, n3, nb, rfl, ?_⟩), fun a j u1 u2 => by rw [o9, u2_ne (by omega)], z9⟩
        show oi (oc h101) (a0 + 2) k = _
        rw [o9, oi_eq]
        rw [if_neg (by rw [Int32.lt_iff_toInt_lt]; omega)]
      · skip
        replace hf := jbind hf
        obtain ⟨h101, e10, hf⟩ := hf
        obtain ⟨o10, z10, y10⟩ := oc_as e10
        rw [jnar0] at o10
        clear e10
        cases hf
        -- leaf 001: (x1 + (1 : Int32), h101)
        rw [y1, hx, Int32.le_iff_toInt_le, nI_toInt (by omega), nI_toInt (by omega)] at c2
        have n1 : ¬ bIn b L 97 122 s := by have := w1.2.2; rw [show j1 = s by have := w1.1; omega] at this; exact this
        rw [y3, hx, Int32.le_iff_toInt_le, nI_toInt (by omega), nI_toInt (by omega)] at c4
        have n3 : ¬ bIn b L 48 57 s := by have := w3.2.2; rw [show j3 = s by have := w3.1; omega] at this; exact this
        have v5 : v77 = b s &&& 255 := by
          rcases r5 with ⟨-, y⟩ | ⟨y, -⟩
          · exact y
          · omega
        rw [v5, Int32.le_iff_toInt_le] at c8
        rw [h4, nI_cl (by omega)] at o10
        refine ⟨s + 1, by rw [hx]; exact nI_1 s, by omega, by omega, Or.inr (Or.inr ⟨hs, n1, n3, nb, rfl, ?_⟩), fun a j u1 u2 => by rw [o10, u2_ne (by omega)], z10⟩
        show oi (oc h101) (a0 + 2) k = _
        rw [o10, oi_eq]
        rw [if_pos (by rw [Int32.lt_iff_toInt_lt]; omega)]
    · skip
      replace hf := jbind hf
      obtain ⟨p48, e11, hf⟩ := hf
      have r11 := oc_gR e11
      rw [p1] at r11
      cases r11
      clear e11
      replace hf := jbind hf
      obtain ⟨v52, e12, hf⟩ := hf
      have r12 := oc_gI e12
      subst r12
      clear e12
      replace hf := jbind hf
      obtain ⟨h57, e13, hf⟩ := hf
      obtain ⟨o13, z13, y13⟩ := oc_as e13
      rw [jnar0] at o13
      clear e13
      replace hf := jbind hf
      obtain ⟨p59, e14, hf⟩ := hf
      have r14 := oc_gR e14
      rw [o13] at r14
      rw [u2_ne (Or.inl (by omega))] at r14
      rw [p3] at r14
      cases r14
      clear e14
      replace hf := jbind hf
      obtain ⟨v63, e15, hf⟩ := hf
      have r15 := oc_gI e15
      rw [o13] at r15
      rw [oi_ne (Or.inl (by omega))] at r15
      subst r15
      clear e15
      replace hf := jbind hf
      obtain ⟨v69, e16, hf⟩ := hf
      replace e16 := (jcv_o e16).2
      have C2 : ctb (oc h57) a0 b L := ctb_fr C (fun a k u => by rw [o13, u2_ne (by omega)])
      have r16 := E_X10_numberBetween (s := s) (e := j3) C2 l3 w3.2.1 hx y3 w3.1 e16
      replace hf := jbind hf
      obtain ⟨h72, e17, hf⟩ := hf
      obtain ⟨o17, z17, y17⟩ := oc_as e17
      rw [jnar0] at o17
      clear e17
      cases hf
      -- leaf 01: (v38, h72)
      rw [y1, hx, Int32.le_iff_toInt_le, nI_toInt (by omega), nI_toInt (by omega)] at c2
      have n1 : ¬ bIn b L 97 122 s := by have := w1.2.2; rw [show j1 = s by have := w1.1; omega] at this; exact this
      rw [y3, hx, Int32.le_iff_toInt_le, nI_toInt (by omega), nI_toInt (by omega)] at c4
      rw [h4, nI_cl (by omega)] at o13 o17
      refine ⟨j3, y3, by have := w3.1; omega, l3, Or.inr (Or.inl ⟨w3.2.1 s (Nat.le_refl s) (by have := w3.1; omega), w3, ?_, ?_⟩), fun a j u1 u2 => by rw [o17, u2_ne (by omega), o13, u2_ne (by omega)], z17.trans z13⟩
      · show oi (oc h72) (a0 + 2) k = _
        rw [o17, oi_ne (Or.inl (by omega)), o13, oi_eq]
      · show oi (oc h72) (a0 + 4) k = _
        rw [o17, oi_eq]; exact r16
  · skip
    replace hf := jbind hf
    obtain ⟨p16, e18, hf⟩ := hf
    have r18 := oc_gR e18
    rw [p1] at r18
    cases r18
    clear e18
    replace hf := jbind hf
    obtain ⟨v20, e19, hf⟩ := hf
    have r19 := oc_gI e19
    subst r19
    clear e19
    replace hf := jbind hf
    obtain ⟨v26, e20, hf⟩ := hf
    replace e20 := (jcv_o e20).2
    have r20 := E_X10_wordBetween (s := s) (e := j1) C l1 w1.1 hx y1 e20
    replace hf := jbind hf
    obtain ⟨h29, e21, hf⟩ := hf
    obtain ⟨o21, z21, y21⟩ := oc_as e21
    rw [jnar0] at o21
    clear e21
    cases hf
    -- leaf 1: (v6, h29)
    rw [y1, hx, Int32.le_iff_toInt_le, nI_toInt (by omega), nI_toInt (by omega)] at c2
    rw [h4, nI_cl (by omega)] at o21
    have w4 := w1.2.1 s (Nat.le_refl s) (by have := w1.1; omega)
    refine ⟨j1, y1, by have := w1.1; omega, l1, Or.inl ⟨w4, w1, ?_⟩, fun a j u1 u2 => by rw [o21, u2_ne (by omega)], z21⟩
    show (∃ w : Nat, w < 23 ∧ oi (oc h29) (a0 + 2) k = nI w ∧ _) ∨ (oi (oc h29) (a0 + 2) k = -2 ∧ _)
    rw [o21, oi_eq]
    exact r20
theorem E_X10_scan_12 {n : Nat} {b : Nat → Int32} {L : Nat} : ∀ (k : Nat) {a0 : Nat} {x1 : Int32} {h : jH} {q : jH} (k0 : Nat) (s : Nat) (C : ctb (oc h) a0 b L) (h4 : oi (oc h) a0 4 = nI k0) (hx : x1 = nI s) (hs : s ≤ L) (ks : k0 ≤ s), F_X10_scan_12 n k a0 x1 h = some q → ∃ (m : Nat) (st en : Nat → Nat), k0 ≤ m ∧ m ≤ 400 ∧ oi (oc q) a0 4 = nI m ∧ (∀ j, k0 ≤ j → j < m → st j < L ∧ thE b L (st j) (en j) (oi (oc q) (a0 + 2) j, oi (oc q) (a0 + 4) j) ∧ oi (oc q) (a0 + 3) j = nI (st j) ∧ en j ≤ st (j + 1) ∧ ∀ i, en j ≤ i → i < st (j + 1) → b i = 32) ∧ (∀ j, m ≤ j → st j = L) ∧ s ≤ st k0 ∧ (∀ i, s ≤ i → i < st k0 → b i = 32) ∧ (∀ a j : Nat, ¬ (a = a0 ∧ j = 4) → ¬ ((a = a0 + 2 ∨ a = a0 + 3 ∨ a = a0 + 4) ∧ k0 ≤ j) → oc q a j = oc h a j) ∧ q.1 = h.1
  | 0, a0, x1, h, q, k0, s, C, h4, hx, hs, ks, hf => by cases hf
  | k + 1, a0, x1, h, q, k0, s, C, h4, hx, hs, ks, hf => by
    replace hf : F_X10_scan_12_b n (F_X10_scan_12 n k) a0 x1 h = some q := hf
    unfold F_X10_scan_12_b at hf
    obtain ⟨⟨p0, p1, p2, p3⟩, h6, hL, hb, hr⟩ := id C
    replace hf := jbind hf
    obtain ⟨v14, e1, hf⟩ := hf
    have r1 := oc_gI e1
    subst r1
    clear e1
    replace hf := jite hf
    rcases hf with ⟨c2, hf⟩ | ⟨c2, hf⟩
    · skip
      cases hf
      -- leaf 0: h
      rw [h6, hx, Int32.le_iff_toInt_le, nI_toInt (by omega), nI_toInt (by omega)] at c2
      exact ⟨k0, fun _ => L, fun _ => L, Nat.le_refl _, by omega, h4, fun j j1 j2 => by omega, fun _ _ => rfl, hs, fun i i1 i2 => by dsimp only at i2; omega, fun _ _ _ _ => rfl, rfl⟩
    · skip
      replace hf := jbind hf
      obtain ⟨v21, e3, hf⟩ := hf
      have r3 := oc_gI e3
      subst r3
      clear e3
      replace hf := jite hf
      rcases hf with ⟨c4, hf⟩ | ⟨c4, hf⟩
      · skip
        cases hf
        -- leaf 10: h
        rw [h6, hx, Int32.le_iff_toInt_le, nI_toInt (by omega), nI_toInt (by omega)] at c2
        rw [h4, Int32.le_iff_toInt_le, nI_toInt (by omega), show (400 : Int32).toInt = 400 from rfl] at c4
        omega
      · skip
        replace hf := jbind hf
        obtain ⟨v36, e5, hf⟩ := hf
        replace e5 := (jcv_o e5).2
        have r5 := E_X10_at C hx (by omega) e5
        replace hf := jite hf
        rcases hf with ⟨c6, hf⟩ | ⟨c6, hf⟩
        · skip
          -- leaf 110: rc12 a0 (x1 + (1 : Int32)) h
          rw [h6, hx, Int32.le_iff_toInt_le, nI_toInt (by omega), nI_toInt (by omega)] at c2
          rcases r5 with ⟨s1, v5⟩ | ⟨y, -⟩
          rotate_left
          · omega
          rw [v5, eq255 (hr s (by omega)) (by decide)] at c6
          rw [hx] at hf
          obtain ⟨m, st, en, a1, a2, a3, a4, a5, a6, a7, a8, a9⟩ := E_X10_scan_12 k k0 (s + 1) C h4 (nI_1 s) (by omega) (by omega) hf
          refine ⟨m, st, en, a1, a2, a3, a4, a5, by omega, fun i i1 i2 => ?_, a8, a9⟩
          by_cases y : i = s
          · rw [y]; exact c6
          · exact a7 i (by omega) i2
        · skip
          replace hf := jbind hf
          obtain ⟨q46, e7, hf⟩ := hf
          replace e7 := (jcv_o e7).2
          rw [h6, hx, Int32.le_iff_toInt_le, nI_toInt (by omega), nI_toInt (by omega)] at c2
          rw [h4, Int32.le_iff_toInt_le, nI_toInt (by omega), show (400 : Int32).toInt = 400 from rfl] at c4
          rcases r5 with ⟨s1, v5⟩ | ⟨y, -⟩
          rotate_left
          · omega
          have nb : b s ≠ 32 := fun z => c6 (by rw [v5, z]; decide)
          obtain ⟨e, w1, w2, w3, w4, w5, w6⟩ := E_X10_scanThing C h4 (by omega) hx s1 nb e7
          have P2 : oc q46.2 a0 2 = .ref (a0 + 3) := (w5 _ _ (by omega) (by omega)).trans p2
          have P4 : oi (oc q46.2) a0 4 = nI k0 := by rw [← h4]; unfold oi; rw [w5 _ _ (by omega) (by omega)]
          replace hf := jbind hf
          obtain ⟨p51, e8, hf⟩ := hf
          have r8 := oc_gR e8
          rw [P2] at r8
          cases r8
          clear e8
          replace hf := jbind hf
          obtain ⟨v55, e9, hf⟩ := hf
          have r9 := oc_gI e9
          subst r9
          clear e9
          replace hf := jbind hf
          obtain ⟨h59, e10, hf⟩ := hf
          obtain ⟨o10, z10, y10⟩ := oc_as e10
          rw [jnar0] at o10
          clear e10
          replace hf := jbind hf
          obtain ⟨v62, e11, hf⟩ := hf
          have r11 := oc_gI e11
          rw [o10] at r11
          rw [oi_ne (Or.inl (by omega))] at r11
          subst r11
          clear e11
          replace hf := jbind hf
          obtain ⟨h67, e12, hf⟩ := hf
          obtain ⟨o12, z12⟩ := oc_pf e12
          clear e12
          -- leaf 111: rc12 a0 q46.1 h67
          rw [P4, nI_cl (by omega), hx] at o10
          rw [P4, nI_1] at o12
          have fz : ∀ a j : Nat, ¬ (a = a0 ∧ j = 4) → ¬ ((a = a0 + 2 ∨ a = a0 + 3 ∨ a = a0 + 4) ∧ k0 ≤ j) → oc h67 a j = oc h a j := fun a j u1 u2 => by rw [o12, u2_ne (by omega), o10, u2_ne (by omega), w5 _ _ (by omega) (by omega)]
          have C6 : ctb (oc h67) a0 b L := ctb_fr C (fun a k u => fz a k (by omega) (by omega))
          obtain ⟨m, st, en, a1, a2, a3, a4, a5, a6, a7, a8, a9⟩ := E_X10_scan_12 k (k0 + 1) e C6 (by rw [o12, oi_eq]) w1 w3 (by omega) hf
          have g2 : oi (oc q) (a0 + 2) k0 = oi (oc q46.2) (a0 + 2) k0 := by unfold oi; rw [a8 _ _ (by omega) (by omega), o12, u2_ne (by omega), o10, u2_ne (by omega)]
          have g4 : oi (oc q) (a0 + 4) k0 = oi (oc q46.2) (a0 + 4) k0 := by unfold oi; rw [a8 _ _ (by omega) (by omega), o12, u2_ne (by omega), o10, u2_ne (by omega)]
          have g3 : oi (oc q) (a0 + 3) k0 = nI s := by unfold oi; rw [a8 _ _ (by omega) (by omega), o12, u2_ne (by omega), o10, u2_eq]; rfl
          refine ⟨m, fun j => if j = k0 then s else st j, fun j => if j = k0 then e else en j, by omega, a2, a3, fun j j1 j2 => ?_, fun j j1 => ?_, ?_, fun i i1 i2 => ?_, fun a j u1 u2 => (a8 a j u1 (by omega)).trans (fz a j u1 u2), a9.trans (z12.trans (z10.trans w6))⟩
          · dsimp only
            by_cases y : j = k0
            · subst y
              rw [if_pos rfl, if_pos rfl, if_neg (by omega), g2, g4, g3]
              exact ⟨s1, w4, rfl, a6, a7⟩
            · rw [if_neg y, if_neg y, if_neg (by omega)]
              exact a4 j (by omega) j2
          · dsimp only; rw [if_neg (by omega)]; exact a5 j j1
          · dsimp only; rw [if_pos rfl]; exact Nat.le_refl s
          · dsimp only at i2; rw [if_pos rfl] at i2; omega
/-- the class reads: m things, the next one is k -/
def ck (O : jO) (t : Nat) (b : Nat → Int32) (L m : Nat) (T : Nat → Int32 × Int32) (st : Nat → Nat) (k : Nat) : Prop :=
  ctb O t b L ∧ oi O t 4 = nI m ∧ m ≤ 400 ∧ oi O t 5 = nI k ∧ k ≤ m ∧ (∀ j, j < m → T j = (oi O (t + 2) j, oi O (t + 4) j) ∧ oi O (t + 3) j = nI (st j)) ∧ (∀ j, m ≤ j → (T j).1 = -1 ∧ st j = L)
theorem E_X10_scan {b : Nat → Int32} {L : Nat} {n : Nat} {a0 : Nat} {h : jH} {q : jH} (C : ctb (oc h) a0 b L) (hf : F_X10_scan n a0 h = some q) : ∃ (m : Nat) (T : Nat → Int32 × Int32) (st en : Nat → Nat), tkE b L m T st en ∧ ck (oc q) a0 b L m T st 0 ∧ (∀ a j : Nat, ¬ (a = a0 ∧ (j = 4 ∨ j = 5)) → ¬ (a = a0 + 2 ∨ a = a0 + 3 ∨ a = a0 + 4) → oc q a j = oc h a j) ∧ q.1 = h.1 := by
  unfold F_X10_scan at hf
  replace hf := jbind hf
  obtain ⟨h2, e1, hf⟩ := hf
  obtain ⟨o1, z1⟩ := oc_pf e1
  clear e1
  replace hf := jbind hf
  obtain ⟨h7, e2, hf⟩ := hf
  obtain ⟨o2, z2⟩ := oc_pf e2
  clear e2
  -- leaf : F_X10_scan_12 n n a0 (0 : Int32) h7
  have fz : ∀ a j : Nat, ¬ (a = a0 ∧ (j = 4 ∨ j = 5)) → oc h7 a j = oc h a j := fun a j u => by rw [o2, u2_ne (by omega), o1, u2_ne (by omega)]
  have C2 : ctb (oc h7) a0 b L := ctb_fr C (fun a k u => fz a k (by omega))
  obtain ⟨m, st, en, a1, a2, a3, a4, a5, a6, a7, a8, a9⟩ := E_X10_scan_12 n 0 0 C2 (by rw [o2, oi_ne (Or.inr (by decide)), o1, oi_eq]; rfl) rfl (by omega) (by omega) hf
  have C3 : ctb (oc q) a0 b L := ctb_fr C2 (fun a k u => a8 a k (by omega) (by omega))
  have h5 : oi (oc q) a0 5 = nI 0 := by unfold oi; rw [a8 _ _ (by omega) (by omega), o2, u2_eq]; rfl
  refine ⟨m, fun j => if j < m then (oi (oc q) (a0 + 2) j, oi (oc q) (a0 + 4) j) else (-1, 0), st, en, ⟨C.2.2.1, C.2.2.2.2, fun k hk => ?_, fun k hk => ⟨a5 k hk, ?_⟩, fun i hi => a7 i (by omega) hi⟩, ⟨C3, a3, a2, h5, by omega, fun j hj => ⟨?_, (a4 j (by omega) hj).2.2.1⟩, fun j hj => ⟨?_, a5 j hj⟩⟩, fun a j u1 u2 => (a8 a j (by omega) (by omega)).trans (fz a j u1), a9.trans (z2.trans z1)⟩
  · obtain ⟨b1, b2, b3, b4, b5⟩ := a4 k (by omega) hk
    dsimp only
    rw [if_pos hk]
    exact ⟨b1, b2, b4, b5⟩
  · dsimp only; rw [if_neg (by omega)]
  · dsimp only; rw [if_pos hj]
  · dsimp only; rw [if_neg (by omega)]
