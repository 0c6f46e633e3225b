section
/-! words, signs and numbers as the reference reads them -/
theorem jtl_o {t : Nat} {v : Int32} (e : jtl t = some v) : v = nI (jtb t).length := by
  unfold jtl at e
  split at e
  · exact (Option.some.inj e).symm
  · cases e
theorem jtc_o {t : Nat} {i v : Int32} (e : jtc t i = some v) : v = (jtb t).getD i.toNatClampNeg 0 := by
  unfold jtc at e
  split at e
  · cases e
  · exact (Option.some.inj e).symm
theorem nI_sb {a c : Nat} (h : c ≤ a) (ha : a < 2147483648) : nI a - nI c = nI (a - c) := nI_k (by rw [jsub (by rw [nI_toInt ha, nI_toInt (by omega)]; omega) (by rw [nI_toInt ha, nI_toInt (by omega)]; omega), nI_toInt ha, nI_toInt (by omega)]; omega)
/-- a number between lo and hi stands from s to e -/
def numOK (b : Nat → Int32) (s e : Nat) (lo hi : Int32) : Prop := s < e ∧ e ≤ s + 3 ∧ lo ≤ dV b s (e - s) ∧ dV b s (e - s) ≤ hi
/-- what number answers, from s to e -/
def numA (b : Nat → Int32) (s e : Nat) (lo hi v : Int32) : Prop := (v = -1 ∧ ¬ numOK b s e lo hi) ∨ (v = dV b s (e - s) ∧ numOK b s e lo hi)
theorem E_X12_isWord_24 {n : Nat} {b : Nat → Int32} {L : Nat} {p : Nat} {s : Nat} (hs : s ≤ 400) : ∀ (k : Nat) {a0 : Nat} {t1 : Nat} {x2 : Int32} {x3 : Int32} {h : jH} {q : Int32} (j : Nat) (R : rb (oc h) a0 b L p) (g : oi (oc h) a0 12 = nI s) (hT : (jtb t1).length < 400) (h2 : x2 = 0 ∨ x2 = 1) (hx : x3 = nI j) (hj : j ≤ (jtb t1).length), F_X12_isWord_24 n k a0 t1 x2 x3 h = some q → (q = 0 ∨ q = 1) ∧ (q = 1 ↔ (x2 = 1 ∧ ∀ i, j ≤ i → i < (jtb t1).length → b (s + i) = (jtb t1).getD i 0))
  | 0, a0, t1, x2, x3, h, q, j, R, g, hT, h2, hx, hj, hf => by cases hf
  | k + 1, a0, t1, x2, x3, h, q, j, R, g, hT, h2, hx, hj, hf => by
    replace hf : F_X12_isWord_24_b n (F_X12_isWord_24 n k) a0 t1 x2 x3 h = some q := hf
    unfold F_X12_isWord_24_b at hf
    obtain ⟨M, b11, bL, b6, b10, bp⟩ := id R
    obtain ⟨s1, s2, s3, s4, s5, s8, s15, s17, s19, s20, s21⟩ := id M
    replace hf := jite hf
    rcases hf with ⟨c1, hf⟩ | ⟨c1, hf⟩
    · skip
      replace hf := jite hf
      rcases hf with ⟨c2, hf⟩ | ⟨c2, hf⟩
      · skip
        cases hf
        -- leaf 00: x2
        exact ⟨c2, fun z => absurd (c1.symm.trans z) (by decide), fun z => absurd (c1.symm.trans z.1) (by decide)⟩
      · skip
        cases hf
    · skip
      replace hf := jbind hf
      obtain ⟨v30, e3, hf⟩ := hf
      replace hf := jite hf
      rcases hf with ⟨c4, hf⟩ | ⟨c4, hf⟩
      · skip
        replace hf := jite hf
        rcases hf with ⟨c5, hf⟩ | ⟨c5, hf⟩
        · skip
          cases hf
          -- leaf 100: x2
          have r9 := jtl_o e3
          rw [r9, hx, Int32.le_iff_toInt_le, nI_toInt (by omega), nI_toInt (by omega)] at c4
          exact ⟨c5, fun z => ⟨z, fun i h1 h2 => by omega⟩, fun z => z.1⟩
        · skip
          cases hf
      · skip
        replace hf := jbind hf
        obtain ⟨p37, e6, hf⟩ := hf
        have r6 := oc_gR e6
        rw [s8] at r6
        cases r6
        clear e6
        replace hf := jbind hf
        obtain ⟨v41, e7, hf⟩ := hf
        have r7 := oc_gI e7
        subst r7
        clear e7
        replace hf := jbind hf
        obtain ⟨v46, e8, hf⟩ := hf
        obtain ⟨r8, y8⟩ := oc_al e8
        subst r8
        clear e8
        replace hf := jbind hf
        obtain ⟨v49, e9, hf⟩ := hf
        replace hf := jite hf
        rcases hf with ⟨c10, hf⟩ | ⟨c10, hf⟩
        · skip
          -- leaf 110: rc24 a0 t1 (1 : Int32) (x3 + (1 : Int32)) h
          have r9 := jtl_o e3
          rw [r9, hx, Int32.le_iff_toInt_le, nI_toInt (by omega), nI_toInt (by omega)] at c4
          have jl : j < (jtb t1).length := by omega
          have r99 := jtc_o e9
          have ea : nI s + nI j = nI (s + j) := nI_add s j
          rw [r99, g, hx, ea, nI_cl (by omega), nI_cl (by omega), b6] at c10
          rw [hx] at hf
          obtain ⟨q1, q2⟩ := E_X12_isWord_24 hs k (j + 1) R g hT (Or.inr rfl) (nI_1 j) (by omega) hf
          refine ⟨q1, fun z => ⟨h2.resolve_left c1, fun i h1 h3 => ?_⟩, fun z => q2.mpr ⟨rfl, fun i h1 h3 => z.2 i (by omega) h3⟩⟩
          by_cases y : i = j
          · rw [y]; exact c10
          · exact (q2.mp z).2 i (by omega) h3
        · skip
          -- leaf 111: rc24 a0 t1 (0 : Int32) (x3 + (1 : Int32)) h
          have r9 := jtl_o e3
          rw [r9, hx, Int32.le_iff_toInt_le, nI_toInt (by omega), nI_toInt (by omega)] at c4
          have jl : j < (jtb t1).length := by omega
          have r99 := jtc_o e9
          have ea : nI s + nI j = nI (s + j) := nI_add s j
          rw [r99, g, hx, ea, nI_cl (by omega), nI_cl (by omega), b6] at c10
          rw [hx] at hf
          obtain ⟨q1, q2⟩ := E_X12_isWord_24 hs k (j + 1) R g hT (Or.inl rfl) (nI_1 j) (by omega) hf
          exact ⟨q1, fun z => absurd (q2.mp z).1 (by decide), fun z => absurd (z.2 j (Nat.le_refl j) jl) c10⟩
theorem E_X12_isWord {b : Nat → Int32} {L : Nat} {p : Nat} {s : Nat} {n : Nat} {a0 : Nat} {t1 : Nat} {h : jH} {q : Int32} (R : rb (oc h) a0 b L p) (g : oi (oc h) a0 12 = nI s) (hs : s ≤ p) (hT : (jtb t1).length < 400) (hf : F_X12_isWord n a0 t1 h = some q) : (q = 0 ∨ q = 1) ∧ (q = 1 ↔ spl b s p (jtb t1)) := by
  unfold F_X12_isWord at hf
  obtain ⟨M, b11, bL, b6, b10, bp⟩ := id R
  replace hf := jbind hf
  obtain ⟨v1, e1, hf⟩ := hf
  have r1 := oc_gI e1
  subst r1
  clear e1
  replace hf := jbind hf
  obtain ⟨v5, e2, hf⟩ := hf
  have r2 := oc_gI e2
  subst r2
  clear e2
  replace hf := jbind hf
  obtain ⟨v10, e3, hf⟩ := hf
  replace hf := jite hf
  rcases hf with ⟨c4, hf⟩ | ⟨c4, hf⟩
  · skip
    -- leaf 0: F_X12_isWord_24 n n a0 t1 (1 : Int32) (0 : Int32) h
    have r9 := jtl_o e3
    rw [r9, b10, g, nI_sb hs (by omega), nI_eq (by omega) (by omega)] at c4
    obtain ⟨q1, q2⟩ := E_X12_isWord_24 (b := b) (L := L) (p := p) (s := s) (by omega) n 0 R g hT (Or.inr rfl) rfl (by omega) hf
    exact ⟨q1, fun z => ⟨by omega, fun i hi => (q2.mp z).2 i (by omega) hi⟩, fun z => q2.mpr ⟨rfl, fun i _ hi => z.2 i hi⟩⟩
  · skip
    -- leaf 1: F_X12_isWord_24 n n a0 t1 (0 : Int32) (0 : Int32) h
    have r9 := jtl_o e3
    rw [r9, b10, g, nI_sb hs (by omega), nI_eq (by omega) (by omega)] at c4
    obtain ⟨q1, q2⟩ := E_X12_isWord_24 (b := b) (L := L) (p := p) (s := s) (by omega) n 0 R g hT (Or.inl rfl) rfl (by omega) hf
    exact ⟨q1, fun z => absurd (q2.mp z).1 (by decide), fun z => absurd z.1 (by omega)⟩
theorem E_X12_passes {b : Nat → Int32} {L : Nat} {p : Nat} {n : Nat} {a0 : Nat} {t1 : Nat} {h : jH} {q : Int32 × jH} (R : rb (oc h) a0 b L p) (hT : (jtb t1).length < 400) (hf : F_X12_passes n a0 t1 h = some q) : ∃ s e, isRow (bIn b L 32 32) p s ∧ isRow (bIn b L 97 122) s e ∧ oi (oc q.2) a0 12 = nI s ∧ ((q.1 = 1 ∧ spl b s e (jtb t1) ∧ rb (oc q.2) a0 b L e) ∨ (q.1 = 0 ∧ ¬ spl b s e (jtb t1) ∧ rb (oc q.2) a0 b L s)) ∧ frM a0 [] [10, 12] (oc h) (oc q.2) ∧ q.2.1 = h.1 := by
  unfold F_X12_passes at hf
  replace hf := jbind hf
  obtain ⟨h1, e1, hf⟩ := hf
  replace e1 := (jcv_o e1).2
  obtain ⟨s1, e10, t1_, u1, R1, g1, f1, z1⟩ := E_X12_letters R e1
  replace hf := jbind hf
  obtain ⟨v6, e2, hf⟩ := hf
  replace e2 := (jcv_o e2).2
  obtain ⟨q2a, q2b⟩ := E_X12_isWord R1 g1 u1.1 hT e2
  replace hf := jite hf
  rcases hf with ⟨c3, hf⟩ | ⟨c3, hf⟩
  · skip
    replace hf := jbind hf
    obtain ⟨v16, e4, hf⟩ := hf
    have r4 := oc_gI e4
    subst r4
    clear e4
    replace hf := jbind hf
    obtain ⟨h19, e5, hf⟩ := hf
    obtain ⟨o5, z5⟩ := oc_pf e5
    clear e5
    cases hf
    -- leaf 0: ((0 : Int32), h19)
    have w5 : frM a0 [] [10, 12] (oc h1) (oc h19) := by rw [o5]; exact frM_f (by decide)
    have w6 : rb (oc h19) a0 b L s1 := by rw [o5, g1]; exact rb_pt R1 (by have := R1.2.2.2.2.2; have := u1.1; omega)
    have w7 : oi (oc h19) a0 12 = nI s1 := by rw [o5, oi_ne (Or.inr (by decide))]; exact g1
    exact ⟨s1, e10, t1_, u1, w7, Or.inr ⟨rfl, fun z => absurd (c3.symm.trans (q2b.mpr z)) (by decide), w6⟩, frM_tr f1 w5, z5.trans z1⟩
  · skip
    cases hf
    -- leaf 1: ((1 : Int32), h1)
    exact ⟨s1, e10, t1_, u1, g1, Or.inl ⟨rfl, q2b.mp (q2a.resolve_left c3), R1⟩, f1, z1⟩
theorem E_X12_sign {b : Nat → Int32} {L : Nat} {p : Nat} {n : Nat} {a0 : Nat} {x1 : Int32} {h : jH} {q : Int32 × jH} (R : rb (oc h) a0 b L p) (hf : F_X12_sign n a0 x1 h = some q) : ∃ s, isRow (bIn b L 32 32) p s ∧ oi (oc q.2) a0 12 = nI s ∧ ((q.1 = 1 ∧ bIn b L x1 x1 s ∧ rb (oc q.2) a0 b L (s + 1)) ∨ (q.1 = 0 ∧ ¬ bIn b L x1 x1 s ∧ rb (oc q.2) a0 b L s)) ∧ frM a0 [] [10, 12] (oc h) (oc q.2) ∧ q.2.1 = h.1 := by
  unfold F_X12_sign at hf
  replace hf := jbind hf
  obtain ⟨h1, e1, hf⟩ := hf
  replace e1 := (jcv_o e1).2
  obtain ⟨s1, t1, R1, g1, f1, z1⟩ := E_X12_blanks R e1
  replace hf := jbind hf
  obtain ⟨v7, e2, hf⟩ := hf
  replace e2 := (jcv_o e2).2
  have r2 := E_X12_isAt R1 e2
  replace hf := jite hf
  rcases hf with ⟨c3, hf⟩ | ⟨c3, hf⟩
  · skip
    cases hf
    -- leaf 0: ((0 : Int32), h1)
    rcases r2 with ⟨y, -⟩ | ⟨-, y⟩
    · exact absurd (c3.symm.trans y) (by decide)
    exact ⟨s1, t1, g1, Or.inr ⟨rfl, y, R1⟩, f1, z1⟩
  · skip
    replace hf := jbind hf
    obtain ⟨v17, e4, hf⟩ := hf
    have r4 := oc_gI e4
    subst r4
    clear e4
    replace hf := jbind hf
    obtain ⟨h22, e5, hf⟩ := hf
    obtain ⟨o5, z5⟩ := oc_pf e5
    clear e5
    cases hf
    -- leaf 1: ((1 : Int32), h22)
    rcases r2 with ⟨-, y⟩ | ⟨y, -⟩
    rotate_left
    · exact absurd y c3
    have g10 := R1.2.2.2.2.1
    rw [g10, nI_1] at o5
    have hp : s1 < L := y.1
    have w5 : frM a0 [] [10, 12] (oc h1) (oc h22) := by rw [o5]; exact frM_f (by decide)
    have w6 : rb (oc h22) a0 b L (s1 + 1) := by rw [o5]; exact rb_pt R1 (by omega)
    have w7 : oi (oc h22) a0 12 = nI s1 := by rw [o5, oi_ne (Or.inr (by decide))]; exact g1
    exact ⟨s1, t1, w7, Or.inl ⟨rfl, y, w6⟩, frM_tr f1 w5, z5.trans z1⟩
theorem E_X12_number_6 {n : Nat} {b : Nat → Int32} {L : Nat} {s : Nat} : ∀ (k : Nat) {a0 : Nat} {x1 : Int32} {x2 : Int32} {x3 : Int32} {h : jH} {q : Int32 × jH} (p : Nat) (R : rb (oc h) a0 b L p) (g : oi (oc h) a0 12 = nI s) (hs : s ≤ p) (hx : x3 = dV b s (min (p - s) 3)), F_X12_number_6 n k a0 x1 x2 x3 h = some q → ∃ e, isRow (bIn b L 48 57) p e ∧ rb (oc q.2) a0 b L e ∧ numA b s e x1 x2 q.1 ∧ frM a0 [] [10] (oc h) (oc q.2) ∧ q.2.1 = h.1
  | 0, a0, x1, x2, x3, h, q, p, R, g, hs, hx, hf => by cases hf
  | k + 1, a0, x1, x2, x3, h, q, p, R, g, hs, hx, hf => by
    replace hf : F_X12_number_6_b n (F_X12_number_6 n k) a0 x1 x2 x3 h = some q := hf
    unfold F_X12_number_6_b at hf
    obtain ⟨M, b11, bL, b6, b10, bp⟩ := id R
    obtain ⟨s1, s2, s3, s4, s5, s8, s15, s17, s19, s20, s21⟩ := id M
    replace hf := jbind hf
    obtain ⟨v11, e1, hf⟩ := hf
    replace e1 := (jcv_o e1).2
    have r1 := E_X12_isAt R e1
    replace hf := jite hf
    rcases hf with ⟨c2, hf⟩ | ⟨c2, hf⟩
    · skip
      replace hf := jbind hf
      obtain ⟨v66, e3, hf⟩ := hf
      have r3 := oc_gI e3
      subst r3
      clear e3
      replace hf := jbind hf
      obtain ⟨v70, e4, hf⟩ := hf
      have r4 := oc_gI e4
      subst r4
      clear e4
      replace hf := jite hf
      rcases hf with ⟨c5, hf⟩ | ⟨c5, hf⟩
      · skip
        cases hf
        -- leaf 00: ((- 1 : Int32), h)
        rcases r1 with ⟨y, -⟩ | ⟨-, y⟩
        · exact absurd (c2.symm.trans y) (by decide)
        rw [b10, g, nI_eq (by omega) (by omega)] at c5
        exact ⟨p, row_0 y, R, Or.inl ⟨rfl, fun z => by have := z.1; omega⟩, frM_rfl, rfl⟩
      · skip
        replace hf := jbind hf
        obtain ⟨v77, e6, hf⟩ := hf
        have r6 := oc_gI e6
        subst r6
        clear e6
        replace hf := jbind hf
        obtain ⟨v81, e7, hf⟩ := hf
        have r7 := oc_gI e7
        subst r7
        clear e7
        replace hf := jite hf
        rcases hf with ⟨c8, hf⟩ | ⟨c8, hf⟩
        · skip
          cases hf
          -- leaf 010: ((- 1 : Int32), h)
          rcases r1 with ⟨y, -⟩ | ⟨-, y⟩
          · exact absurd (c2.symm.trans y) (by decide)
          rw [b10, g, nI_sb hs (by omega)] at c8
          rw [Int32.lt_iff_toInt_lt, nI_toInt (by omega), show (3 : Int32).toInt = 3 from rfl] at c8
          exact ⟨p, row_0 y, R, Or.inl ⟨rfl, fun z => by have := z.2.1; omega⟩, frM_rfl, rfl⟩
        · skip
          replace hf := jite hf
          rcases hf with ⟨c9, hf⟩ | ⟨c9, hf⟩
          · skip
            cases hf
            -- leaf 0110: ((- 1 : Int32), h)
            rcases r1 with ⟨y, -⟩ | ⟨-, y⟩
            · exact absurd (c2.symm.trans y) (by decide)
            rw [b10, g, nI_sb hs (by omega)] at c8
            rw [Int32.lt_iff_toInt_lt, nI_toInt (by omega), show (3 : Int32).toInt = 3 from rfl] at c8
            rw [show min (p - s) 3 = p - s by omega] at hx
            exact ⟨p, row_0 y, R, Or.inl ⟨rfl, fun z => by have := z.2.2.1; rw [← hx, Int32.le_iff_toInt_le] at this; rw [Int32.lt_iff_toInt_lt] at c9; omega⟩, frM_rfl, rfl⟩
          · skip
            replace hf := jite hf
            rcases hf with ⟨c10, hf⟩ | ⟨c10, hf⟩
            · skip
              cases hf
              -- leaf 01110: (x3, h)
              rcases r1 with ⟨y, -⟩ | ⟨-, y⟩
              · exact absurd (c2.symm.trans y) (by decide)
              rw [b10, g, nI_sb hs (by omega)] at c8
              rw [Int32.lt_iff_toInt_lt, nI_toInt (by omega), show (3 : Int32).toInt = 3 from rfl] at c8
              rw [show min (p - s) 3 = p - s by omega] at hx
              rw [b10, g, nI_eq (by omega) (by omega)] at c5
              exact ⟨p, row_0 y, R, Or.inr ⟨hx, by omega, by omega, by rw [← hx, Int32.le_iff_toInt_le]; rw [Int32.lt_iff_toInt_lt] at c9; omega, by rw [← hx]; exact c10⟩, frM_rfl, rfl⟩
            · skip
              cases hf
              -- leaf 01111: ((- 1 : Int32), h)
              rcases r1 with ⟨y, -⟩ | ⟨-, y⟩
              · exact absurd (c2.symm.trans y) (by decide)
              rw [b10, g, nI_sb hs (by omega)] at c8
              rw [Int32.lt_iff_toInt_lt, nI_toInt (by omega), show (3 : Int32).toInt = 3 from rfl] at c8
              rw [show min (p - s) 3 = p - s by omega] at hx
              exact ⟨p, row_0 y, R, Or.inl ⟨rfl, fun z => c10 (by have := z.2.2.2; rw [← hx] at this; exact this)⟩, frM_rfl, rfl⟩
    · skip
      replace hf := jbind hf
      obtain ⟨v18, e11, hf⟩ := hf
      have r11 := oc_gI e11
      subst r11
      clear e11
      replace hf := jbind hf
      obtain ⟨v22, e12, hf⟩ := hf
      have r12 := oc_gI e12
      subst r12
      clear e12
      replace hf := jite hf
      rcases hf with ⟨c13, hf⟩ | ⟨c13, hf⟩
      · skip
        replace hf := jbind hf
        obtain ⟨v54, e14, hf⟩ := hf
        have r14 := oc_gI e14
        subst r14
        clear e14
        replace hf := jbind hf
        obtain ⟨h59, e15, hf⟩ := hf
        obtain ⟨o15, z15⟩ := oc_pf e15
        clear e15
        -- leaf 10: rc6 a0 x1 x2 x3 h59
        rcases r1 with ⟨-, y⟩ | ⟨y, -⟩
        rotate_left
        · exact absurd y c2
        have hp : p < L := y.1
        rw [b10, g, nI_sb hs (by omega), Int32.le_iff_toInt_le, nI_toInt (by omega), show (3 : Int32).toInt = 3 from rfl] at c13
        rw [b10, nI_1] at o15
        have R4 : rb (oc h59) a0 b L (p + 1) := by rw [o15]; exact rb_pt R (by omega)
        have f4 : frM a0 [] [10] (oc h) (oc h59) := by rw [o15]; exact frM_f (by decide)
        have g4 : oi (oc h59) a0 12 = nI s := by rw [o15, oi_ne (Or.inr (by decide))]; exact g
        obtain ⟨j, j1, j2, j3, j4, j5⟩ := E_X12_number_6 k (p + 1) R4 g4 (by omega) (by rw [hx, show min (p - s) 3 = 3 by omega, show min (p + 1 - s) 3 = 3 by omega]) hf
        exact ⟨j, row_s y j1, j2, j3, frM_tr f4 j4, j5.trans z15⟩
      · skip
        replace hf := jbind hf
        obtain ⟨p35, e16, hf⟩ := hf
        have r16 := oc_gR e16
        rw [s8] at r16
        cases r16
        clear e16
        replace hf := jbind hf
        obtain ⟨v39, e17, hf⟩ := hf
        have r17 := oc_gI e17
        subst r17
        clear e17
        replace hf := jbind hf
        obtain ⟨v42, e18, hf⟩ := hf
        obtain ⟨r18, y18⟩ := oc_al e18
        subst r18
        clear e18
        replace hf := jbind hf
        obtain ⟨v54, e19, hf⟩ := hf
        have r19 := oc_gI e19
        subst r19
        clear e19
        replace hf := jbind hf
        obtain ⟨h59, e20, hf⟩ := hf
        obtain ⟨o20, z20⟩ := oc_pf e20
        clear e20
        -- leaf 11: rc6 a0 x1 x2 ((((10 : Int32) * x3) + v42) - (48 : Int32)) h59
        rcases r1 with ⟨-, y⟩ | ⟨y, -⟩
        rotate_left
        · exact absurd y c2
        have hp : p < L := y.1
        rw [b10, g, nI_sb hs (by omega), Int32.le_iff_toInt_le, nI_toInt (by omega), show (3 : Int32).toInt = 3 from rfl] at c13
        rw [b10, nI_cl (by omega), b6] at hf
        rw [b10, nI_1] at o20
        have R4 : rb (oc h59) a0 b L (p + 1) := by rw [o20]; exact rb_pt R (by omega)
        have f4 : frM a0 [] [10] (oc h) (oc h59) := by rw [o20]; exact frM_f (by decide)
        have g4 : oi (oc h59) a0 12 = nI s := by rw [o20, oi_ne (Or.inr (by decide))]; exact g
        obtain ⟨j, j1, j2, j3, j4, j5⟩ := E_X12_number_6 k (p + 1) R4 g4 (by omega) (by rw [hx, show min (p - s) 3 = p - s by omega, show min (p + 1 - s) 3 = p - s + 1 by omega]; show _ = (10 * dV b s (p - s) + b (s + (p - s))) - 48; rw [show s + (p - s) = p by omega]) hf
        exact ⟨j, row_s y j1, j2, j3, frM_tr f4 j4, j5.trans z20⟩
theorem E_X12_number {b : Nat → Int32} {L : Nat} {p : Nat} {n : Nat} {a0 : Nat} {x1 : Int32} {x2 : Int32} {h : jH} {q : Int32 × jH} (R : rb (oc h) a0 b L p) (hf : F_X12_number n a0 x1 x2 h = some q) : ∃ s e, isRow (bIn b L 32 32) p s ∧ isRow (bIn b L 48 57) s e ∧ oi (oc q.2) a0 12 = nI s ∧ rb (oc q.2) a0 b L e ∧ numA b s e x1 x2 q.1 ∧ frM a0 [] [10, 12] (oc h) (oc q.2) ∧ q.2.1 = h.1 := by
  unfold F_X12_number at hf
  replace hf := jbind hf
  obtain ⟨h1, e1, hf⟩ := hf
  replace e1 := (jcv_o e1).2
  obtain ⟨s1, t1, R1, g1, f1, z1⟩ := E_X12_blanks R e1
  -- leaf : F_X12_number_6 n n a0 x1 x2 (0 : Int32) h1
  obtain ⟨j, j1, j2, j3, j4, j5⟩ := E_X12_number_6 (s := s1) n s1 R1 g1 (Nat.le_refl s1) (by rw [Nat.sub_self]; rfl) hf
  exact ⟨s1, j, t1, j1, (frM_oi j4 (by decide) (by decide)).trans g1, j2, j3, frM_tr f1 (frM_le j4 (by decide) (by decide)), j5.trans z1⟩
theorem E_X12_after {b : Nat → Int32} {L : Nat} {p : Nat} {n : Nat} {a0 : Nat} {t1 : Nat} {x2 : Int32} {x3 : Int32} {h : jH} {q : Int32 × jH} (R : rb (oc h) a0 b L p) (hT : (jtb t1).length < 400) (hf : F_X12_after n a0 t1 x2 x3 h = some q) : ∃ s e, isRow (bIn b L 32 32) p s ∧ isRow (bIn b L 97 122) s e ∧ ((q.1 = -1 ∧ ¬ spl b s e (jtb t1) ∧ oi (oc q.2) a0 12 = nI s) ∨ (spl b s e (jtb t1) ∧ ∃ s2 e2, isRow (bIn b L 32 32) e s2 ∧ isRow (bIn b L 48 57) s2 e2 ∧ oi (oc q.2) a0 12 = nI s2 ∧ rb (oc q.2) a0 b L e2 ∧ numA b s2 e2 x2 x3 q.1)) ∧ frM a0 [] [10, 12] (oc h) (oc q.2) ∧ q.2.1 = h.1 := by
  unfold F_X12_after at hf
  replace hf := jbind hf
  obtain ⟨h1, e1, hf⟩ := hf
  replace e1 := (jcv_o e1).2
  obtain ⟨s1, e10, t1_, u1, R1, g1, f1, z1⟩ := E_X12_letters R e1
  replace hf := jbind hf
  obtain ⟨v6, e2, hf⟩ := hf
  replace e2 := (jcv_o e2).2
  obtain ⟨q2a, q2b⟩ := E_X12_isWord R1 g1 u1.1 hT e2
  replace hf := jite hf
  rcases hf with ⟨c3, hf⟩ | ⟨c3, hf⟩
  · skip
    cases hf
    -- leaf 0: ((- 1 : Int32), h1)
    exact ⟨s1, e10, t1_, u1, Or.inl ⟨rfl, fun z => absurd (c3.symm.trans (q2b.mpr z)) (by decide), g1⟩, f1, z1⟩
  · skip
    replace hf := jbind hf
    obtain ⟨q15, e4, hf⟩ := hf
    replace e4 := (jcv_o e4).2
    obtain ⟨s4, e40, t4, u4, g4, R4, N4, f4, z4⟩ := E_X12_number R1 e4
    cases hf
    -- leaf 1: (q15.1, q15.2)
    exact ⟨s1, e10, t1_, u1, Or.inr ⟨q2b.mp (q2a.resolve_left c3), s4, e40, t4, u4, g4, R4, N4⟩, frM_tr f1 f4, z4.trans z1⟩
end
section
/-! the things of a tape: T tells kind and number of each, st where it begins, en where it ends; m things -/
def wTs : List Nat := [13, 32, 33, 18, 19, 24, 25, 17, 16, 30, 31, 29, 34, 35, 28, 26, 27, 14, 15, 20, 21, 22, 23]
def wT (w : Nat) : Nat := wTs.getD w 0
theorem wT_l (w : Nat) (hw : w < 23) : 0 < (jtb (wT w)).length ∧ (jtb (wT w)).length < 400 := by
  have : ∀ w : Fin 23, 0 < (jtb (wT w.val)).length ∧ (jtb (wT w.val)).length < 400 := by decide +kernel
  exact this ⟨w, hw⟩
theorem wT_i (w : Nat) (hw : w < 23) (w2 : Nat) (h2 : w2 < 23) (e : jtb (wT w) = jtb (wT w2)) : w = w2 := by
  have : ∀ w w2 : Fin 23, jtb (wT w.val) = jtb (wT w2.val) → w.val = w2.val := by decide +kernel
  exact this ⟨w, hw⟩ ⟨w2, h2⟩ e
def thE (b : Nat → Int32) (L s e : Nat) (t : Int32 × Int32) : Prop :=
  (bIn b L 97 122 s ∧ isRow (bIn b L 97 122) s e ∧ ((∃ w : Nat, w < 23 ∧ t.1 = nI w ∧ spl b s e (jtb (wT w))) ∨ (t.1 = -2 ∧ ∀ w : Nat, w < 23 → ¬ spl b s e (jtb (wT w))))) ∨
  (bIn b L 48 57 s ∧ isRow (bIn b L 48 57) s e ∧ t.1 = -3 ∧ t.2 = if e ≤ s + 3 then dV b s (e - s) else 1000) ∨
  (s < L ∧ ¬ bIn b L 97 122 s ∧ ¬ bIn b L 48 57 s ∧ b s ≠ 32 ∧ e = s + 1 ∧ t.1 = if (b s &&& 255) < 32 then -2 else b s &&& 255)
def tkE (b : Nat → Int32) (L m : Nat) (T : Nat → Int32 × Int32) (st en : Nat → Nat) : Prop :=
  L ≤ 400 ∧ (∀ i, i < 400 → -128 ≤ (b i).toInt ∧ (b i).toInt ≤ 127) ∧
  (∀ k, k < m → st k < L ∧ thE b L (st k) (en k) (T k) ∧ en k ≤ st (k + 1) ∧ ∀ i, en k ≤ i → i < st (k + 1) → b i = 32) ∧
  (∀ k, m ≤ k → st k = L ∧ (T k).1 = -1) ∧ (∀ i, i < st 0 → b i = 32)
def cur (b : Nat → Int32) (st : Nat → Nat) (p k : Nat) : Prop := p ≤ st k ∧ ∀ i, p ≤ i → i < st k → b i = 32
abbrev nOK (T : Nat → Int32 × Int32) (k : Nat) (lo hi : Int32) : Prop := (T k).1 = -3 ∧ lo ≤ (T k).2 ∧ (T k).2 ≤ hi
theorem b255 {v : Int32} (h : -128 ≤ v.toInt ∧ v.toInt ≤ 127) : (v &&& 255).toInt = if v.toInt < 0 then v.toInt + 256 else v.toInt := by
  have e : (v &&& 255).toBitVec.toNat = v.toBitVec.toNat % 256 := by
    show (v.toBitVec &&& 255#32).toNat = _
    rw [BitVec.toNat_and]
    exact Nat.and_two_pow_sub_one_eq_mod _ 8
  have t : v.toInt = if 2 * v.toBitVec.toNat < 4294967296 then (v.toBitVec.toNat : Int) else (v.toBitVec.toNat : Int) - 4294967296 := BitVec.toInt_eq_toNat_cond v.toBitVec
  have t2 : (v &&& 255).toInt = if 2 * (v &&& 255).toBitVec.toNat < 4294967296 then ((v &&& 255).toBitVec.toNat : Int) else ((v &&& 255).toBitVec.toNat : Int) - 4294967296 := BitVec.toInt_eq_toNat_cond _
  rw [e] at t2
  have l := v.toBitVec.isLt
  split at t <;> split at t2 <;> split <;> omega
theorem nI_ng {w : Nat} {x : Int32} (hw : w < 1000) (hx : x.toInt < 0) : x ≠ nI w := fun z => by rw [z, nI_toInt (by omega)] at hx; omega
variable {b : Nat → Int32} {L m : Nat} {T : Nat → Int32 × Int32} {st en : Nat → Nat}
theorem tk_L (H : tkE b L m T st en) (k : Nat) : st k ≤ L := by
  obtain ⟨-, -, a, c, -⟩ := H
  rcases Nat.lt_or_ge k m with z | z
  · have := (a k z).1; omega
  · have := (c k z).1; omega
theorem tk_sp (H : tkE b L m T st en) (k : Nat) : ¬ bIn b L 32 32 (st k) := by
  obtain ⟨-, -, a, c, -⟩ := H
  have le : ∀ lo hi x : Int32, (32 : Int32).toInt < lo.toInt → lo ≤ x → ¬ (32 ≤ x ∧ x ≤ 32) := fun lo hi x h1 h2 h3 => by
    rw [Int32.le_iff_toInt_le] at h2
    rw [Int32.le_iff_toInt_le, Int32.le_iff_toInt_le] at h3
    omega
  rcases Nat.lt_or_ge k m with z | z
  · obtain ⟨a1, a2, -⟩ := a k z
    rcases a2 with ⟨y, -⟩ | ⟨y, -⟩ | ⟨-, -, -, y, -⟩
    · exact fun w => le 97 122 (b (st k)) (by decide) y.2.1 w.2
    · exact fun w => le 48 57 (b (st k)) (by decide) y.2.1 w.2
    · exact fun w => y (Int32.toInt_inj.mp (by have := w.2.1; have := w.2.2; rw [Int32.le_iff_toInt_le] at *; omega))
  · exact fun w => by have := w.1; have := (c k z).1; omega
theorem cur_sp (H : tkE b L m T st en) {p k s : Nat} (C : cur b st p k) (r : isRow (bIn b L 32 32) p s) : s = st k := by
  have hL := tk_L H k
  refine row_u r ⟨C.1, fun i h1 h2 => ⟨by omega, ?_, ?_⟩, tk_sp H k⟩ <;> rw [C.2 i h1 h2] <;> exact Int32.le_refl _
theorem cur_0 (k : Nat) : cur b st (st k) k := ⟨Nat.le_refl _, fun i h1 h2 => by omega⟩
theorem cur_n (H : tkE b L m T st en) {k : Nat} (hk : k < m) : cur b st (en k) (k + 1) := (H.2.2.1 k hk).2.2
theorem tk_m (H : tkE b L m T st en) {k : Nat} (h : (T k).1 ≠ -1) : k < m := Nat.lt_of_not_le fun z => h (H.2.2.2.1 k z).2
theorem tk_w (H : tkE b L m T st en) {k e w : Nat} (hw : w < 23) (r : isRow (bIn b L 97 122) (st k) e) : (spl b (st k) e (jtb (wT w)) ↔ (T k).1 = nI w) ∧ ((T k).1 = nI w → k < m ∧ e = en k) := by
  have lw := (wT_l w hw).1
  have no : ¬ bIn b L 97 122 (st k) → ¬ spl b (st k) e (jtb (wT w)) := fun y z => by
    have := row_u r (row_0 y); have := z.1; omega
  rcases Nat.lt_or_ge k m with z | z
  · rcases (H.2.2.1 k z).2.1 with ⟨y, y2, y3⟩ | ⟨y, -, y3, -⟩ | ⟨y0, y, -, -, -, y3⟩
    · have e1 := row_u r y2
      subst e1
      refine ⟨⟨fun s => ?_, fun s => ?_⟩, fun _ => ⟨z, rfl⟩⟩
      · rcases y3 with ⟨w2, h2, t2, s2⟩ | ⟨-, s2⟩
        · rw [wT_i w hw w2 h2 (spl_u s s2)]; exact t2
        · exact absurd s (s2 w hw)
      · rcases y3 with ⟨w2, h2, t2, s2⟩ | ⟨t2, -⟩
        · rw [(nI_eq (by omega) (by omega)).mp (s.symm.trans t2)]; exact s2
        · exact absurd (t2.symm.trans s) (nI_ng (by omega) (by decide))
    · have n3 : (T k).1 ≠ nI w := by rw [y3]; exact nI_ng (by omega) (by decide)
      have nl : ¬ bIn b L 97 122 (st k) := fun w => by
        have a1 := w.2.1; have a2 := y.2.2
        rw [Int32.le_iff_toInt_le] at a1 a2
        have l97 : (97 : Int32).toInt = 97 := rfl
        have l57 : (57 : Int32).toInt = 57 := rfl
        omega
      exact ⟨⟨fun s => absurd s (no nl), fun s => absurd s n3⟩, fun s => absurd s n3⟩
    · have n3 : (T k).1 ≠ nI w := by
        rw [y3]
        split
        · exact nI_ng (by omega) (by decide)
        · rename_i q
          intro x
          rw [x, Int32.lt_iff_toInt_lt, nI_toInt (by omega)] at q
          have l32 : (32 : Int32).toInt = 32 := rfl
          omega
      exact ⟨⟨fun s => absurd s (no y), fun s => absurd s n3⟩, fun s => absurd s n3⟩
  · obtain ⟨y, y3⟩ := H.2.2.2.1 k z
    have n3 : (T k).1 ≠ nI w := by rw [y3]; exact nI_ng (by omega) (by decide)
    exact ⟨⟨fun s => absurd s (no (fun w => by have := w.1; omega)), fun s => absurd s n3⟩, fun s => absurd s n3⟩
/-- a sign: neither a blank nor a letter nor a digit -/
def sgn (c : Int32) : Prop := (32 < c.toInt ∧ c.toInt < 48) ∨ (57 < c.toInt ∧ c.toInt < 97)
theorem tk_s (H : tkE b L m T st en) {k : Nat} {c : Int32} (hc : sgn c) : (bIn b L c c (st k) ↔ (T k).1 = c) ∧ ((T k).1 = c → k < m ∧ st k + 1 = en k) := by
  have eq : ∀ x : Int32, c ≤ x ∧ x ≤ c → x = c := fun x h => Int32.toInt_inj.mp (by rw [Int32.le_iff_toInt_le, Int32.le_iff_toInt_le] at h; omega)
  have ng : ∀ x : Int32, x.toInt < 0 → x ≠ c := fun x hx z => by rw [z] at hx; unfold sgn at hc; omega
  rcases Nat.lt_or_ge k m with z | z
  · rcases (H.2.2.1 k z).2.1 with ⟨y, -, y3⟩ | ⟨y, -, y3, -⟩ | ⟨y0, y, y2, -, y4, y3⟩
    · have a1 := y.2.1; have a2 := y.2.2
      rw [Int32.le_iff_toInt_le] at a1 a2
      have l97 : (97 : Int32).toInt = 97 := rfl
      have n1 : ¬ bIn b L c c (st k) := fun w => by have := eq _ w.2; rw [this] at a1; unfold sgn at hc; omega
      have n2 : (T k).1 ≠ c := by
        rcases y3 with ⟨w, hw, t, -⟩ | ⟨t, -⟩
        · rw [t]; intro x; rw [← x, sgn, nI_toInt (by omega)] at hc; omega
        · rw [t]; exact ng _ (by decide)
      exact ⟨⟨fun s => absurd s n1, fun s => absurd s n2⟩, fun s => absurd s n2⟩
    · have a1 := y.2.1; have a2 := y.2.2
      rw [Int32.le_iff_toInt_le] at a1 a2
      have l48 : (48 : Int32).toInt = 48 := rfl
      have l57 : (57 : Int32).toInt = 57 := rfl
      have n1 : ¬ bIn b L c c (st k) := fun w => by have := eq _ w.2; rw [this] at a1 a2; unfold sgn at hc; omega
      have n2 : (T k).1 ≠ c := by rw [y3]; exact ng _ (by decide)
      exact ⟨⟨fun s => absurd s n1, fun s => absurd s n2⟩, fun s => absurd s n2⟩
    · have l32 : (32 : Int32).toInt = 32 := rfl
      have B := b255 (H.2.1 (st k) (by have := H.1; omega))
      refine ⟨⟨fun s => ?_, fun s => ?_⟩, fun _ => ⟨z, y4.symm⟩⟩
      · have e := eq _ s.2
        rw [e] at y3 B
        have e2 : (c &&& 255) = c := Int32.toInt_inj.mp (by rw [B, if_neg (by unfold sgn at hc; omega)])
        rw [y3, e2, if_neg]
        rw [Int32.lt_iff_toInt_lt]
        unfold sgn at hc; omega
      · rw [y3] at s
        split at s
        · exact absurd s (ng _ (by decide))
        · have q : (b (st k) &&& 255).toInt = c.toInt := by rw [s]
          have e : b (st k) = c := Int32.toInt_inj.mp (by rw [B] at q; have := (H.2.1 (st k) (by have := H.1; omega)); unfold sgn at hc; split at q <;> omega)
          exact ⟨y0, by rw [e]; exact Int32.le_refl _, by rw [e]; exact Int32.le_refl _⟩
  · obtain ⟨y, y3⟩ := H.2.2.2.1 k z
    have n2 : (T k).1 ≠ c := by rw [y3]; exact ng _ (by decide)
    exact ⟨⟨fun s => by have := s.1; omega, fun s => absurd s n2⟩, fun s => absurd s n2⟩
theorem tk_n (H : tkE b L m T st en) {k e : Nat} {lo hi v : Int32} (h1 : hi.toInt ≤ 999) (r : isRow (bIn b L 48 57) (st k) e) (A : numA b (st k) e lo hi v) : (v = -1 ∧ ¬ nOK T k lo hi) ∨ (v = (T k).2 ∧ nOK T k lo hi ∧ k < m ∧ e = en k) := by
  have no : ¬ bIn b L 48 57 (st k) → ¬ numOK b (st k) e lo hi := fun y z => by
    have := row_u r (row_0 y); have := z.1; omega
  have fin : ¬ bIn b L 48 57 (st k) → (T k).1 ≠ -3 → (v = -1 ∧ ¬ nOK T k lo hi) ∨ (v = (T k).2 ∧ nOK T k lo hi ∧ k < m ∧ e = en k) := fun y t => by
    rcases A with ⟨a, -⟩ | ⟨-, a⟩
    · exact Or.inl ⟨a, fun z => t z.1⟩
    · exact absurd a (no y)
  rcases Nat.lt_or_ge k m with z | z
  · rcases (H.2.2.1 k z).2.1 with ⟨y, -, y3⟩ | ⟨y, y2, y3, y4⟩ | ⟨y0, y, y2, -, y4, y3⟩
    · refine fin (fun w => ?_) ?_
      · have a1 := y.2.1; have a2 := w.2.2
        rw [Int32.le_iff_toInt_le] at a1 a2
        have l97 : (97 : Int32).toInt = 97 := rfl
        have l57 : (57 : Int32).toInt = 57 := rfl
        omega
      · rcases y3 with ⟨w, hw, t, -⟩ | ⟨t, -⟩
        · rw [t]; exact fun x => nI_ng (x := -3) (by omega) (by decide) x.symm
        · rw [t]; decide
    · have e1 := row_u r y2
      subst e1
      have sl : st k < en k := by
        rcases Nat.lt_or_ge (st k) (en k) with q | q
        · exact q
        · exact absurd (by rw [show en k = st k by have := r.1; omega]; exact y) r.2.2
      by_cases q : en k ≤ st k + 3
      · rw [if_pos q] at y4
        rcases A with ⟨a, a2⟩ | ⟨a, a2⟩
        · exact Or.inl ⟨a, fun w => a2 ⟨sl, q, by rw [← y4]; exact w.2.1, by rw [← y4]; exact w.2.2⟩⟩
        · exact Or.inr ⟨by rw [y4]; exact a, ⟨y3, by rw [y4]; exact a2.2.2.1, by rw [y4]; exact a2.2.2.2⟩, z, rfl⟩
      · rw [if_neg q] at y4
        have nn : ¬ nOK T k lo hi := fun w => by
          have := w.2.2
          rw [y4, Int32.le_iff_toInt_le] at this
          have l : (1000 : Int32).toInt = 1000 := rfl
          omega
        rcases A with ⟨a, a2⟩ | ⟨a, a2⟩
        · exact Or.inl ⟨a, nn⟩
        · exact absurd a2.2.1 q
    · refine fin y2 ?_
      rw [y3]
      split
      · decide
      · rename_i q
        intro x
        rw [x] at q
        exact q (by decide)
  · obtain ⟨y, y3⟩ := H.2.2.2.1 k z
    exact fin (fun w => by have := w.1; omega) (by rw [y3]; decide)
end
section
/-! the reference reads by things: rc: it stands before thing k; rw: it stands behind the letters of thing k -/
def rc (O : jO) (x : Nat) (b : Nat → Int32) (L : Nat) (st : Nat → Nat) (k : Nat) : Prop := ∃ p, rb O x b L p ∧ cur b st p k
def rw2 (O : jO) (x : Nat) (b : Nat → Int32) (L : Nat) (st : Nat → Nat) (k : Nat) : Prop := ∃ e, rb O x b L e ∧ isRow (bIn b L 97 122) (st k) e ∧ oi O x 12 = nI (st k)
variable {b : Nat → Int32} {L m : Nat} {T : Nat → Int32 × Int32} {st en : Nat → Nat}
theorem rc_fr {O O2 : jO} {x k : Nat} {cs fs : List Nat} (R : rc O x b L st k) (f : frM x cs fs O O2) (hc : 0 ∉ cs) (hc6 : 6 ∉ cs) (hf : ∀ k ∈ [1, 2, 3, 4, 5, 8, 15, 17, 19, 20, 21], k ∉ fs) (h10 : 10 ∉ fs) (h11 : 11 ∉ fs) : rc O2 x b L st k := by
  obtain ⟨p, R, C⟩ := R
  exact ⟨p, rb_fr R f hc hc6 hf h10 h11, C⟩
theorem rw_fr {O O2 : jO} {x k : Nat} {cs fs : List Nat} (R : rw2 O x b L st k) (f : frM x cs fs O O2) (hc : 0 ∉ cs) (hc6 : 6 ∉ cs) (hf : ∀ k ∈ [1, 2, 3, 4, 5, 8, 15, 17, 19, 20, 21], k ∉ fs) (h10 : 10 ∉ fs) (h11 : 11 ∉ fs) (h12 : 12 ∉ fs) : rw2 O2 x b L st k := by
  obtain ⟨e, R, C, g⟩ := R
  exact ⟨e, rb_fr R f hc hc6 hf h10 h11, C, (frM_oi f hc h12).trans g⟩
theorem rw_n {O : jO} {x k w : Nat} (H : tkE b L m T st en) (hw : w < 23) (R : rw2 O x b L st k) (h : (T k).1 = nI w) : rc O x b L st (k + 1) := by
  obtain ⟨e, R, C, g⟩ := R
  obtain ⟨z, y⟩ := (tk_w H hw C).2 h
  subst y
  exact ⟨en k, R, cur_n H z⟩
theorem rc_mS {O : jO} {x k : Nat} (R : rc O x b L st k) : mS O x := by obtain ⟨p, R, -⟩ := R; exact R.1
theorem rw_mS {O : jO} {x k : Nat} (R : rw2 O x b L st k) : mS O x := by obtain ⟨p, R, -⟩ := R; exact R.1
theorem T_blanks {n x k : Nat} {h : jH} {q : jH} (H : tkE b L m T st en) (R : rc (oc h) x b L st k) (e : F_X12_blanks n x h = some q) : rb (oc q) x b L (st k) ∧ oi (oc q) x 12 = nI (st k) ∧ frM x [] [10, 12] (oc h) (oc q) ∧ q.1 = h.1 := by
  obtain ⟨p, R, C⟩ := R
  obtain ⟨s, r, R2, g, f, z⟩ := E_X12_blanks R e
  have := cur_sp H C r
  subst this
  exact ⟨R2, g, f, z⟩
theorem T_letters {n x k : Nat} {h : jH} {q : jH} (H : tkE b L m T st en) (R : rc (oc h) x b L st k) (e : F_X12_letters n x h = some q) : rw2 (oc q) x b L st k ∧ frM x [] [10, 12] (oc h) (oc q) ∧ q.1 = h.1 := by
  obtain ⟨p, R, C⟩ := R
  obtain ⟨s, e, r, r2, R2, g, f, z⟩ := E_X12_letters R e
  have := cur_sp H C r
  subst this
  exact ⟨⟨e, R2, r2, g⟩, f, z⟩
theorem T_isWord {n x k w : Nat} {h : jH} {q : Int32} (H : tkE b L m T st en) (hw : w < 23) (R : rw2 (oc h) x b L st k) (e : F_X12_isWord n x (wT w) h = some q) : (q = 0 ∨ q = 1) ∧ (q = 1 ↔ (T k).1 = nI w) := by
  obtain ⟨e2, R, C, g⟩ := R
  obtain ⟨a, c⟩ := E_X12_isWord R g C.1 (wT_l w hw).2 e
  exact ⟨a, c.trans (tk_w H hw C).1⟩
theorem T_passes {n x k w : Nat} {h : jH} {q : Int32 × jH} (H : tkE b L m T st en) (hw : w < 23) (R : rc (oc h) x b L st k) (e : F_X12_passes n x (wT w) h = some q) : ((q.1 = 1 ∧ (T k).1 = nI w ∧ rc (oc q.2) x b L st (k + 1)) ∨ (q.1 = 0 ∧ (T k).1 ≠ nI w ∧ rc (oc q.2) x b L st k)) ∧ oi (oc q.2) x 12 = nI (st k) ∧ frM x [] [10, 12] (oc h) (oc q.2) ∧ q.2.1 = h.1 := by
  obtain ⟨p, R, C⟩ := R
  obtain ⟨s, e, r, r2, g, d, f, z⟩ := E_X12_passes R (wT_l w hw).2 e
  have := cur_sp H C r
  subst this
  obtain ⟨w1, w2⟩ := tk_w H hw r2
  refine ⟨?_, g, f, z⟩
  rcases d with ⟨d1, d2, d3⟩ | ⟨d1, d2, d3⟩
  · obtain ⟨y1, y2⟩ := w2 (w1.mp d2)
    subst y2
    exact Or.inl ⟨d1, w1.mp d2, en k, d3, cur_n H y1⟩
  · exact Or.inr ⟨d1, fun y => d2 (w1.mpr y), st k, d3, cur_0 k⟩
theorem T_sign {n x k : Nat} {c : Int32} {h : jH} {q : Int32 × jH} (H : tkE b L m T st en) (hc : sgn c) (R : rc (oc h) x b L st k) (e : F_X12_sign n x c h = some q) : ((q.1 = 1 ∧ (T k).1 = c ∧ rc (oc q.2) x b L st (k + 1)) ∨ (q.1 = 0 ∧ (T k).1 ≠ c ∧ rc (oc q.2) x b L st k)) ∧ oi (oc q.2) x 12 = nI (st k) ∧ frM x [] [10, 12] (oc h) (oc q.2) ∧ q.2.1 = h.1 := by
  obtain ⟨p, R, C⟩ := R
  obtain ⟨s, r, g, d, f, z⟩ := E_X12_sign R e
  have := cur_sp H C r
  subst this
  obtain ⟨w1, w2⟩ := tk_s H (k := k) hc
  refine ⟨?_, g, f, z⟩
  rcases d with ⟨d1, d2, d3⟩ | ⟨d1, d2, d3⟩
  · obtain ⟨y1, y2⟩ := w2 (w1.mp d2)
    rw [y2] at d3
    exact Or.inl ⟨d1, w1.mp d2, en k, d3, cur_n H y1⟩
  · exact Or.inr ⟨d1, fun y => d2 (w1.mpr y), st k, d3, cur_0 k⟩
theorem T_number {n x k : Nat} {lo hi : Int32} {h : jH} {q : Int32 × jH} (H : tkE b L m T st en) (hh : hi.toInt ≤ 999) (R : rc (oc h) x b L st k) (e : F_X12_number n x lo hi h = some q) : ((q.1 = (T k).2 ∧ nOK T k lo hi ∧ rc (oc q.2) x b L st (k + 1)) ∨ (q.1 = -1 ∧ ¬ nOK T k lo hi)) ∧ mS (oc q.2) x ∧ oi (oc q.2) x 12 = nI (st k) ∧ frM x [] [10, 12] (oc h) (oc q.2) ∧ q.2.1 = h.1 := by
  obtain ⟨p, R, C⟩ := R
  obtain ⟨s, e, r, r2, g, R2, d, f, z⟩ := E_X12_number R e
  have := cur_sp H C r
  subst this
  refine ⟨?_, R2.1, g, f, z⟩
  rcases tk_n H hh r2 d with ⟨y1, y2⟩ | ⟨y1, y2, y3, y4⟩
  · exact Or.inr ⟨y1, y2⟩
  · subst y4
    exact Or.inl ⟨y1, y2, en k, R2, cur_n H y3⟩
theorem T_after {n x k w : Nat} {lo hi : Int32} {h : jH} {q : Int32 × jH} (H : tkE b L m T st en) (hw : w < 23) (hh : hi.toInt ≤ 999) (R : rc (oc h) x b L st k) (e : F_X12_after n x (wT w) lo hi h = some q) : (((T k).1 = nI w ∧ q.1 = (T (k + 1)).2 ∧ nOK T (k + 1) lo hi ∧ rc (oc q.2) x b L st (k + 2)) ∨ ((T k).1 ≠ nI w ∧ q.1 = -1 ∧ oi (oc q.2) x 12 = nI (st k)) ∨ ((T k).1 = nI w ∧ ¬ nOK T (k + 1) lo hi ∧ q.1 = -1 ∧ oi (oc q.2) x 12 = nI (st (k + 1)))) ∧ mS (oc q.2) x ∧ frM x [] [10, 12] (oc h) (oc q.2) ∧ q.2.1 = h.1 := by
  have M := rc_mS R
  obtain ⟨p, R, C⟩ := R
  obtain ⟨s, e, r, r2, d, f, z⟩ := E_X12_after R (wT_l w hw).2 e
  have := cur_sp H C r
  subst this
  obtain ⟨w1, w2⟩ := tk_w H hw r2
  refine ⟨?_, mS_fr M f (by decide) (by decide), f, z⟩
  rcases d with ⟨d1, d2, d3⟩ | ⟨d1, s2, e2, d2, d3, d4, d5, d6⟩
  · exact Or.inr (Or.inl ⟨fun y => d2 (w1.mpr y), d1, d3⟩)
  · obtain ⟨y1, y2⟩ := w2 (w1.mp d1)
    subst y2
    have := cur_sp H (cur_n H y1) d2
    subst this
    rcases tk_n H hh d3 d6 with ⟨v1, v2⟩ | ⟨v1, v2, v3, v4⟩
    · exact Or.inr (Or.inr ⟨w1.mp d1, v2, v1, d4⟩)
    · subst v4
      exact Or.inl ⟨w1.mp d1, v1, v2, en (k + 1), d5, cur_n H v3⟩
end
section
/-! the class's tape: bytes, rows, words, numbers, things -/
def ctb (O : jO) (t : Nat) (b : Nat → Int32) (L : Nat) : Prop := tpS O t ∧ oi O t 6 = nI L ∧ L ≤ 400 ∧ (∀ i, i < 400 → oi O (t + 1) i = b i) ∧ ∀ i, i < 400 → -128 ≤ (b i).toInt ∧ (b i).toInt ≤ 127
theorem ctb_fr {O O2 : jO} {t L : Nat} {b : Nat → Int32} (C : ctb O t b L) (f : ∀ a k : Nat, ((a = t ∧ (k ≤ 3 ∨ k = 6)) ∨ a = t + 1) → O2 a k = O a k) : ctb O2 t b L := by
  obtain ⟨⟨p0, p1, p2, p3⟩, h6, hL, hb, hr⟩ := C
  have fi : ∀ a k : Nat, ((a = t ∧ (k ≤ 3 ∨ k = 6)) ∨ a = t + 1) → oi O2 a k = oi O a k := fun a k h => by unfold oi; rw [f a k h]
  exact ⟨⟨(f _ _ (by omega)).trans p0, (f _ _ (by omega)).trans p1, (f _ _ (by omega)).trans p2, (f _ _ (by omega)).trans p3⟩, (fi _ _ (by omega)).trans h6, hL, fun i hi => (fi _ _ (by omega)).trans (hb i hi), hr⟩
theorem in255 {v lo hi : Int32} (h : -128 ≤ v.toInt ∧ v.toInt ≤ 127) (hc : 0 ≤ lo.toInt ∧ hi.toInt ≤ 127) : (lo ≤ v ∧ v ≤ hi) ↔ (lo ≤ v &&& 255 ∧ v &&& 255 ≤ hi) := by
  rw [Int32.le_iff_toInt_le, Int32.le_iff_toInt_le, Int32.le_iff_toInt_le, Int32.le_iff_toInt_le, b255 h]
  split <;> omega
theorem eq255 {v c : Int32} (h : -128 ≤ v.toInt ∧ v.toInt ≤ 127) (hc : 0 ≤ c.toInt ∧ c.toInt ≤ 127) : v &&& 255 = c ↔ v = c := by
  rw [← Int32.toInt_inj, ← Int32.toInt_inj, b255 h]
  split <;> omega
theorem dig255 {v : Int32} (h : (48 : Int32) ≤ v ∧ v ≤ 57) : v &&& 255 = v := by
  rw [Int32.le_iff_toInt_le, Int32.le_iff_toInt_le] at h
  have l48 : (48 : Int32).toInt = 48 := rfl
  have l57 : (57 : Int32).toInt = 57 := rfl
  rw [← Int32.toInt_inj, b255 (by omega), if_neg (by omega)]
theorem jtb_r {t i : Nat} (ht : t < 36) (hi : i < (jtb t).length) : 0 ≤ ((jtb t).getD i 0).toInt ∧ ((jtb t).getD i 0).toInt ≤ 127 := by
  have h := List.all_eq_true.mp (jtlt t ht).2 ((jtb t).getD i 0) (by rw [List.getD_eq_getElem?_getD, List.getElem?_eq_getElem hi]; exact List.getElem_mem hi)
  have h0 := of_decide_eq_true (Bool.and_eq_true_iff.mp h).1
  have h1 := of_decide_eq_true (Bool.and_eq_true_iff.mp h).2
  rw [Int32.le_iff_toInt_le] at h0
  rw [Int32.lt_iff_toInt_lt] at h1
  have l : (128 : Int32).toInt = 128 := rfl
  have l0 : (0 : Int32).toInt = 0 := rfl
  omega
/-- where the word w begins in the class's list of words -/
def wSs : List Nat := [0, 5, 11, 15, 20, 25, 30, 34, 39, 45, 49, 56, 60, 64, 67, 70, 76, 81, 84, 90, 97, 103, 108, 113]
def wS (w : Nat) : Nat := wSs.getD w 0
theorem wS_t (w : Nat) (hw : w < 23) : wS (w + 1) = wS w + (jtb (wT w)).length + 1 ∧ wS w + (jtb (wT w)).length < (jtb 0).length ∧ (jtb 0).getD (wS w + (jtb (wT w)).length) 0 = 32 ∧ (∀ i : Nat, i < (jtb (wT w)).length → (jtb 0).getD (wS w + i) 0 = (jtb (wT w)).getD i 0 ∧ (jtb (wT w)).getD i 0 ≠ 32) := by
  have : ∀ w : Fin 23, wS (w.val + 1) = wS w.val + (jtb (wT w.val)).length + 1 ∧ wS w.val + (jtb (wT w.val)).length < (jtb 0).length ∧ (jtb 0).getD (wS w.val + (jtb (wT w.val)).length) 0 = 32 ∧ (∀ i : Nat, i < (jtb (wT w.val)).length → (jtb 0).getD (wS w.val + i) 0 = (jtb (wT w.val)).getD i 0 ∧ (jtb (wT w.val)).getD i 0 ≠ 32) := by decide +kernel
  exact this ⟨w, hw⟩
theorem wS_23 : wS 23 = (jtb 0).length ∧ (jtb 0).length = 113 := by decide +kernel
theorem E_X10_at {b : Nat → Int32} {L : Nat} {i : Nat} {n : Nat} {a0 : Nat} {x1 : Int32} {h : jH} {q : Int32} (C : ctb (oc h) a0 b L) (hx : x1 = nI i) (hi : i < 1000000) (hf : F_X10_at n a0 x1 h = some q) : (i < L ∧ q = b i &&& 255) ∨ (L ≤ i ∧ q = -1) := by
  unfold F_X10_at at hf
  obtain ⟨⟨p0, p1, p2, p3⟩, h6, hL, hb, hr⟩ := id C
  replace hf := jite hf
  rcases hf with ⟨c1, hf⟩ | ⟨c1, hf⟩
  · skip
    cases hf
    -- leaf 0: (- 1 : Int32)
    rw [hx, Int32.lt_iff_toInt_lt, nI_toInt (by omega), show (0 : Int32).toInt = 0 from rfl] at c1
    omega
  · skip
    replace hf := jbind hf
    obtain ⟨v6, e2, hf⟩ := hf
    have r2 := oc_gI e2
    subst r2
    clear e2
    replace hf := jite hf
    rcases hf with ⟨c3, hf⟩ | ⟨c3, hf⟩
    · skip
      cases hf
      -- leaf 10: (- 1 : Int32)
      rw [hx, h6, Int32.le_iff_toInt_le, nI_toInt (by omega), nI_toInt (by omega)] at c3
      exact Or.inr ⟨by omega, rfl⟩
    · skip
      replace hf := jite hf
      rcases hf with ⟨c4, hf⟩ | ⟨c4, hf⟩
      · skip
        replace hf := jbind hf
        obtain ⟨p24, e5, hf⟩ := hf
        have r5 := oc_gR e5
        rw [p0] at r5
        cases r5
        clear e5
        replace hf := jbind hf
        obtain ⟨v28, e6, hf⟩ := hf
        obtain ⟨r6, y6⟩ := oc_al e6
        subst r6
        clear e6
        cases hf
        -- leaf 110: (v28 &&& (255 : Int32))
        rw [hx, h6, Int32.le_iff_toInt_le, nI_toInt (by omega), nI_toInt (by omega)] at c3
        rw [hx, nI_cl (by omega), hb i (by omega)]
        exact Or.inl ⟨by omega, rfl⟩
      · skip
        cases hf
        -- leaf 111: (- 1 : Int32)
        rw [hx, h6, Int32.le_iff_toInt_le, nI_toInt (by omega), nI_toInt (by omega)] at c3
        rw [hx, Int32.lt_iff_toInt_lt, nI_toInt (by omega), show (400 : Int32).toInt = 400 from rfl] at c4
        omega
theorem E_X10_endOfRow_3 {n : Nat} {b : Nat → Int32} {L : Nat} : ∀ (k : Nat) {a0 : Nat} {x2 : Int32} {x3 : Int32} {x4 : Int32} {h : jH} {q : Int32} (i : Nat) (C : ctb (oc h) a0 b L) (hc : 0 ≤ x2.toInt ∧ x3.toInt ≤ 127) (hx : x4 = nI i) (hi : i ≤ L), F_X10_endOfRow_3 n k a0 x2 x3 x4 h = some q → ∃ j, q = nI j ∧ isRow (bIn b L x2 x3) i j ∧ j ≤ L
  | 0, a0, x2, x3, x4, h, q, i, C, hc, hx, hi, hf => by cases hf
  | k + 1, a0, x2, x3, x4, h, q, i, C, hc, hx, hi, hf => by
    replace hf : F_X10_endOfRow_3_b n (F_X10_endOfRow_3 n k) a0 x2 x3 x4 h = some q := hf
    unfold F_X10_endOfRow_3_b at hf
    obtain ⟨⟨p0, p1, p2, p3⟩, h6, hL, hb, hr⟩ := id C
    replace hf := jbind hf
    obtain ⟨v6, e1, hf⟩ := hf
    have r1 := oc_gI e1
    subst r1
    clear e1
    replace hf := jite hf
    rcases hf with ⟨c2, hf⟩ | ⟨c2, hf⟩
    · skip
      cases hf
      -- leaf 0: x4
      rw [h6, hx, Int32.le_iff_toInt_le, nI_toInt (by omega), nI_toInt (by omega)] at c2
      exact ⟨i, hx, row_0 (fun z => by have := z.1; omega), hi⟩
    · skip
      replace hf := jbind hf
      obtain ⟨v15, e3, hf⟩ := hf
      replace e3 := (jcv_o e3).2
      have r3 := E_X10_at C hx (by omega) e3
      replace hf := jite hf
      rcases hf with ⟨c4, hf⟩ | ⟨c4, hf⟩
      · skip
        cases hf
        -- leaf 10: x4
        rw [h6, hx, Int32.le_iff_toInt_le, nI_toInt (by omega), nI_toInt (by omega)] at c2
        rcases r3 with ⟨y, y2⟩ | ⟨y, -⟩
        rotate_left
        · omega
        rw [y2] at c4
        exact ⟨i, hx, row_0 (fun z => by have := ((in255 (hr i (by omega)) hc).mp z.2).1; rw [Int32.le_iff_toInt_le] at this; rw [Int32.lt_iff_toInt_lt] at c4; omega), hi⟩
      · skip
        replace hf := jbind hf
        obtain ⟨v25, e5, hf⟩ := hf
        replace e5 := (jcv_o e5).2
        have r5 := E_X10_at C hx (by omega) e5
        replace hf := jite hf
        rcases hf with ⟨c6, hf⟩ | ⟨c6, hf⟩
        · skip
          cases hf
          -- leaf 110: x4
          rw [h6, hx, Int32.le_iff_toInt_le, nI_toInt (by omega), nI_toInt (by omega)] at c2
          rcases r5 with ⟨y, y2⟩ | ⟨y, -⟩
          rotate_left
          · omega
          rw [y2] at c6
          exact ⟨i, hx, row_0 (fun z => by have := ((in255 (hr i (by omega)) hc).mp z.2).2; rw [Int32.le_iff_toInt_le] at this; rw [Int32.lt_iff_toInt_lt] at c6; omega), hi⟩
        · skip
          -- leaf 111: rc3 a0 x2 x3 (x4 + (1 : Int32)) h
          rw [h6, hx, Int32.le_iff_toInt_le, nI_toInt (by omega), nI_toInt (by omega)] at c2
          rcases r5 with ⟨y, y2⟩ | ⟨y, -⟩
          rotate_left
          · omega
          rcases r3 with ⟨-, y3⟩ | ⟨y, -⟩
          rotate_left
          · omega
          rw [y2, Int32.lt_iff_toInt_lt] at c6
          rw [y3, Int32.lt_iff_toInt_lt] at c4
          have z : bIn b L x2 x3 i := ⟨y, (in255 (hr i (by omega)) hc).mpr ⟨by rw [Int32.le_iff_toInt_le]; omega, by rw [Int32.le_iff_toInt_le]; omega⟩⟩
          rw [hx] at hf
          obtain ⟨j, j1, j2, j3⟩ := E_X10_endOfRow_3 k (i + 1) C hc (nI_1 i) (by omega) hf
          exact ⟨j, j1, row_s z j2, j3⟩
theorem E_X10_endOfRow {b : Nat → Int32} {L : Nat} {i : Nat} {n : Nat} {a0 : Nat} {x1 : Int32} {x2 : Int32} {x3 : Int32} {h : jH} {q : Int32} (C : ctb (oc h) a0 b L) (hc : 0 ≤ x2.toInt ∧ x3.toInt ≤ 127) (hx : x1 = nI i) (hi : i ≤ L) (hf : F_X10_endOfRow n a0 x1 x2 x3 h = some q) : ∃ j, q = nI j ∧ isRow (bIn b L x2 x3) i j ∧ j ≤ L := by
  unfold F_X10_endOfRow at hf
  -- leaf : F_X10_endOfRow_3 n n a0 x2 x3 x1 h
  exact E_X10_endOfRow_3 n i C hc hx hi hf
theorem E_X10_numberBetween_16 {n : Nat} {b : Nat → Int32} {L : Nat} {s : Nat} {e : Nat} (he : e ≤ L) (hd : ∀ k, s ≤ k → k < e → bIn b L 48 57 k) : ∀ (k : Nat) {a0 : Nat} {x2 : Int32} {x3 : Int32} {x4 : Int32} {h : jH} {q : Int32} (i : Nat) (C : ctb (oc h) a0 b L) (hx : x4 = nI i) (h2 : x2 = nI e) (hs : s ≤ i) (hi : i ≤ e) (h3 : x3 = dV b s (i - s)), F_X10_numberBetween_16 n k a0 x2 x3 x4 h = some q → q = dV b s (e - s)
  | 0, a0, x2, x3, x4, h, q, i, C, hx, h2, hs, hi, h3, hf => by cases hf
  | k + 1, a0, x2, x3, x4, h, q, i, C, hx, h2, hs, hi, h3, hf => by
    replace hf : F_X10_numberBetween_16_b n (F_X10_numberBetween_16 n k) a0 x2 x3 x4 h = some q := hf
    unfold F_X10_numberBetween_16_b at hf
    obtain ⟨⟨p0, p1, p2, p3⟩, h6, hL, hb, hr⟩ := id C
    replace hf := jite hf
    rcases hf with ⟨c1, hf⟩ | ⟨c1, hf⟩
    · skip
      cases hf
      -- leaf 0: x3
      rw [h2, hx, Int32.le_iff_toInt_le, nI_toInt (by omega), nI_toInt (by omega)] at c1
      rw [show e - s = i - s by omega]; exact h3
    · skip
      replace hf := jbind hf
      obtain ⟨v29, e2, hf⟩ := hf
      replace e2 := (jcv_o e2).2
      have r2 := E_X10_at C hx (by omega) e2
      -- leaf 1: rc16 a0 x2 ((((10 : Int32) * x3) + v29) - (48 : Int32)) (x4 + (1 : Int32)) h
      rw [h2, hx, Int32.le_iff_toInt_le, nI_toInt (by omega), nI_toInt (by omega)] at c1
      rcases r2 with ⟨y, y2⟩ | ⟨y, -⟩
      rotate_left
      · omega
      rw [y2, dig255 (hd i hs (by omega)).2, hx] at hf
      exact E_X10_numberBetween_16 he hd k (i + 1) C (nI_1 i) h2 (by omega) (by omega) (by rw [h3, show i + 1 - s = i - s + 1 by omega]; show _ = (10 * dV b s (i - s) + b (s + (i - s))) - 48; rw [show s + (i - s) = i by omega]) hf
theorem E_X10_numberBetween {b : Nat → Int32} {L : Nat} {s : Nat} {e : Nat} {n : Nat} {a0 : Nat} {x1 : Int32} {x2 : Int32} {h : jH} {q : Int32} (C : ctb (oc h) a0 b L) (he : e ≤ L) (hd : ∀ k, s ≤ k → k < e → bIn b L 48 57 k) (h1 : x1 = nI s) (h2 : x2 = nI e) (hs : s ≤ e) (hf : F_X10_numberBetween n a0 x1 x2 h = some q) : q = if e ≤ s + 3 then dV b s (e - s) else 1000 := by
  unfold F_X10_numberBetween at hf
  have hL := C.2.2.1
  replace hf := jite hf
  rcases hf with ⟨c1, hf⟩ | ⟨c1, hf⟩
  · skip
    -- leaf 0: F_X10_numberBetween_16 n n a0 x2 (0 : Int32) x1 h
    rw [h1, h2, nI_sb hs (by omega), Int32.le_iff_toInt_le, nI_toInt (by omega), show (3 : Int32).toInt = 3 from rfl] at c1
    rw [if_pos (by omega)]
    exact E_X10_numberBetween_16 he hd n s C h1 h2 (Nat.le_refl s) hs (by rw [Nat.sub_self]; rfl) hf
  · skip
    cases hf
    -- leaf 1: (1000 : Int32)
    rw [h1, h2, nI_sb hs (by omega), Int32.le_iff_toInt_le, nI_toInt (by omega), show (3 : Int32).toInt = 3 from rfl] at c1
    rw [if_neg (by omega)]
theorem E_X10_standsAt_3 {n : Nat} {b : Nat → Int32} {L : Nat} {s : Nat} {f : Nat} {t : Nat} (hs : s + (t - f) ≤ L) (ft : f ≤ t) (tl : t ≤ (jtb 0).length) : ∀ (k : Nat) {a0 : Nat} {x1 : Int32} {x2 : Int32} {x3 : Int32} {x4 : Int32} {h : jH} {q : Int32} (j : Nat) (C : ctb (oc h) a0 b L) (h1 : x1 = nI s) (h2 : x2 = nI f) (h3 : x3 = nI t) (h4 : x4 = nI j) (fj : f ≤ j) (jt : j ≤ t), F_X10_standsAt_3 n k a0 x1 x2 x3 x4 h = some q → (q = 0 ∨ q = 1) ∧ (q = 1 ↔ ∀ i, j ≤ i → i < t → b (s + (i - f)) = (jtb 0).getD i 0)
  | 0, a0, x1, x2, x3, x4, h, q, j, C, h1, h2, h3, h4, fj, jt, hf => by cases hf
  | k + 1, a0, x1, x2, x3, x4, h, q, j, C, h1, h2, h3, h4, fj, jt, hf => by
    replace hf : F_X10_standsAt_3_b n (F_X10_standsAt_3 n k) a0 x1 x2 x3 x4 h = some q := hf
    unfold F_X10_standsAt_3_b at hf
    obtain ⟨⟨p0, p1, p2, p3⟩, h6, hL, hb, hr⟩ := id C
    have l113 := wS_23.2
    replace hf := jite hf
    rcases hf with ⟨c1, hf⟩ | ⟨c1, hf⟩
    · skip
      cases hf
      -- leaf 0: (1 : Int32)
      rw [h3, h4, Int32.le_iff_toInt_le, nI_toInt (by omega), nI_toInt (by omega)] at c1
      exact ⟨Or.inr rfl, fun _ i h1 h2 => by omega, fun _ => rfl⟩
    · skip
      replace hf := jbind hf
      obtain ⟨v16, e2, hf⟩ := hf
      replace e2 := (jcv_o e2).2
      have y2 : (x1 + x4) - x2 = nI (s + j - f) := by rw [h1, h4, h2]; have ea : nI s + nI j = nI (s + j) := nI_add s j; rw [ea, nI_sb (by omega) (by omega)]
      have r2 := E_X10_at C y2 (by omega) e2
      replace hf := jbind hf
      obtain ⟨v23, e3, hf⟩ := hf
      replace hf := jite hf
      rcases hf with ⟨c4, hf⟩ | ⟨c4, hf⟩
      · skip
        -- leaf 10: rc3 a0 x1 x2 x3 (x4 + (1 : Int32)) h
        rw [h3, h4, Int32.le_iff_toInt_le, nI_toInt (by omega), nI_toInt (by omega)] at c1
        rcases r2 with ⟨y, y3⟩ | ⟨y, -⟩
        rotate_left
        · omega
        rw [y3, jtc_o e3, h4, nI_cl (by omega), eq255 (hr _ (by omega)) (jtb_r (by decide) (by omega))] at c4
        rw [h4] at hf
        obtain ⟨q1, q2⟩ := E_X10_standsAt_3 hs ft tl k (j + 1) C h1 h2 h3 (nI_1 j) (by omega) (by omega) hf
        refine ⟨q1, fun z i a1 a2 => ?_, fun z => q2.mpr fun i a1 a2 => z i (by omega) a2⟩
        by_cases w : i = j
        · rw [w, show s + (j - f) = s + j - f by omega]; exact c4
        · exact q2.mp z i (by omega) a2
      · skip
        cases hf
        -- leaf 11: (0 : Int32)
        rw [h3, h4, Int32.le_iff_toInt_le, nI_toInt (by omega), nI_toInt (by omega)] at c1
        rcases r2 with ⟨y, y3⟩ | ⟨y, -⟩
        rotate_left
        · omega
        rw [y3, jtc_o e3, h4, nI_cl (by omega), eq255 (hr _ (by omega)) (jtb_r (by decide) (by omega))] at c4
        exact ⟨Or.inl rfl, fun z => absurd z (by decide), fun z => absurd (by have := z j (Nat.le_refl j) (by omega); rw [show s + (j - f) = s + j - f by omega] at this; exact this) c4⟩
theorem E_X10_standsAt {b : Nat → Int32} {L : Nat} {s : Nat} {f : Nat} {t : Nat} {n : Nat} {a0 : Nat} {x1 : Int32} {x2 : Int32} {x3 : Int32} {h : jH} {q : Int32} (C : ctb (oc h) a0 b L) (hs : s + (t - f) ≤ L) (ft : f ≤ t) (tl : t ≤ (jtb 0).length) (h1 : x1 = nI s) (h2 : x2 = nI f) (h3 : x3 = nI t) (hf : F_X10_standsAt n a0 x1 x2 x3 h = some q) : (q = 0 ∨ q = 1) ∧ (q = 1 ↔ ∀ i, f ≤ i → i < t → b (s + (i - f)) = (jtb 0).getD i 0) := by
  unfold F_X10_standsAt at hf
  -- leaf : F_X10_standsAt_3 n n a0 x1 x2 x3 x2 h
  exact E_X10_standsAt_3 hs ft tl n f C h1 h2 h3 h2 (Nat.le_refl f) ft hf
theorem E_X10_wordBetween_8 {n : Nat} {b : Nat → Int32} {L : Nat} {s : Nat} {e : Nat} (he : e ≤ L) (hs : s ≤ e) : ∀ (k : Nat) {a0 : Nat} {x1 : Int32} {x2 : Int32} {x3 : Int32} {x4 : Int32} {x5 : Int32} {h : jH} {q : Int32} (w : Nat) (t : Nat) (C : ctb (oc h) a0 b L) (h1 : x1 = nI s) (h2 : x2 = nI e) (h3 : x3 = nI w) (h4 : x4 = nI (wS w)) (h5 : x5 = nI t) (kw : w ≤ 23) (k1 : wS w ≤ t) (k2 : w < 23 → t ≤ wS w + (jtb (wT w)).length) (k3 : w = 23 → t = wS 23) (no : ∀ w2 : Nat, w2 < w → ¬ spl b s e (jtb (wT w2))), F_X10_wordBetween_8 n k a0 x1 x2 x3 x4 x5 h = some q → (∃ w : Nat, w < 23 ∧ q = nI w ∧ spl b s e (jtb (wT w))) ∨ (q = -2 ∧ ∀ w : Nat, w < 23 → ¬ spl b s e (jtb (wT w)))
  | 0, a0, x1, x2, x3, x4, x5, h, q, w, t, C, h1, h2, h3, h4, h5, kw, k1, k2, k3, no, hf => by cases hf
  | k + 1, a0, x1, x2, x3, x4, x5, h, q, w, t, C, h1, h2, h3, h4, h5, kw, k1, k2, k3, no, hf => by
    replace hf : F_X10_wordBetween_8_b n (F_X10_wordBetween_8 n k) a0 x1 x2 x3 x4 x5 h = some q := hf
    unfold F_X10_wordBetween_8_b at hf
    have hL := C.2.2.1
    replace hf := jbind hf
    obtain ⟨v12, e1, hf⟩ := hf
    replace hf := jite hf
    rcases hf with ⟨c2, hf⟩ | ⟨c2, hf⟩
    · skip
      cases hf
      -- leaf 0: (- 2 : Int32)
      have l113 := wS_23.2
      have l23 := wS_23.1
      have tb : t ≤ 113 := by
        rcases Nat.lt_or_ge w 23 with z | z
        · have := k2 z; have := (wS_t w z).2.1; omega
        · have := k3 (by omega); omega
      rw [jtl_o e1, h5, Int32.le_iff_toInt_le, nI_toInt (by omega), nI_toInt (by omega)] at c2
      have w23 : w = 23 := by
        rcases Nat.lt_or_ge w 23 with z | z
        · have := k2 z; have := (wS_t w z).2.1; omega
        · omega
      subst w23
      exact Or.inr ⟨rfl, no⟩
    · skip
      replace hf := jbind hf
      obtain ⟨v22, e3, hf⟩ := hf
      replace hf := jite hf
      rcases hf with ⟨c4, hf⟩ | ⟨c4, hf⟩
      · skip
        replace hf := jite hf
        rcases hf with ⟨c5, hf⟩ | ⟨c5, hf⟩
        · skip
          replace hf := jbind hf
          obtain ⟨v47, e6, hf⟩ := hf
          replace e6 := (jcv_o e6).2
          have l113 := wS_23.2
          have l23 := wS_23.1
          have tb : t ≤ 113 := by
            rcases Nat.lt_or_ge w 23 with z | z
            · have := k2 z; have := (wS_t w z).2.1; omega
            · have := k3 (by omega); omega
          rw [jtl_o e1, h5, Int32.le_iff_toInt_le, nI_toInt (by omega), nI_toInt (by omega)] at c2
          have w22 : w < 23 := by
            rcases Nat.lt_or_ge w 23 with z | z
            · exact z
            · have : w = 23 := by omega
              have := k3 this
              omega
          have k4 := k2 w22
          obtain ⟨t1, t2, t3, t4⟩ := wS_t w w22
          rw [jtc_o e3, h5, nI_cl (by omega)] at c4
          have tt : t = wS w + (jtb (wT w)).length := by
            rcases Nat.lt_or_ge t (wS w + (jtb (wT w)).length) with z | z
            · obtain ⟨u1, u2⟩ := t4 (t - wS w) (by omega)
              rw [show wS w + (t - wS w) = t by omega] at u1
              exact absurd (u1.symm.trans c4) u2
            · omega
          subst tt
          rw [h5, h4, nI_sb (by omega) (by omega), h1, h2, nI_sb (by omega) (by omega), nI_eq (by omega) (by omega)] at c5
          have r6 := E_X10_standsAt (s := s) (f := wS w) (t := wS w + (jtb (wT w)).length) C (by omega) (by omega) (by omega) h1 h4 h5 e6
          replace hf := jite hf
          rcases hf with ⟨c7, hf⟩ | ⟨c7, hf⟩
          · skip
            -- leaf 1000: rc8 a0 x1 x2 (x3 + (1 : Int32)) (x5 + (1 : Int32)) (x5 + (1 : Int32)) h
            have sp : ¬ spl b s e (jtb (wT w)) := fun z => by
              have y := r6.2.mpr fun i a1 a2 => by
                have := z.2 (i - wS w) (by omega)
                rw [this, ← (t4 (i - wS w) (by omega)).1, show wS w + (i - wS w) = i by omega]
              exact absurd (c7.symm.trans y) (by decide)
            rw [h3, h5, nI_1, nI_1] at hf
            exact E_X10_wordBetween_8 he hs k (w + 1) (wS w + (jtb (wT w)).length + 1) C h1 h2 rfl (by rw [t1]) rfl (by omega) (by omega) (fun z => by have := (wS_t (w + 1) z).1; omega) (fun z => by rw [← z]; exact t1.symm) (fun w2 z => by
              rcases Nat.lt_or_ge w2 w with z2 | z2
              · exact no w2 z2
              · have e2 : w2 = w := by omega
                subst e2
                exact sp) hf
          · skip
            cases hf
            -- leaf 1001: x3
            refine Or.inl ⟨w, w22, h3, by omega, fun i hi => ?_⟩
            have y := r6.2.mp (r6.1.resolve_left c7) (wS w + i) (by omega) (by omega)
            rw [show wS w + i - wS w = i by omega] at y
            rw [y, (t4 i hi).1]
        · skip
          -- leaf 101: rc8 a0 x1 x2 (x3 + (1 : Int32)) (x5 + (1 : Int32)) (x5 + (1 : Int32)) h
          have l113 := wS_23.2
          have l23 := wS_23.1
          have tb : t ≤ 113 := by
            rcases Nat.lt_or_ge w 23 with z | z
            · have := k2 z; have := (wS_t w z).2.1; omega
            · have := k3 (by omega); omega
          rw [jtl_o e1, h5, Int32.le_iff_toInt_le, nI_toInt (by omega), nI_toInt (by omega)] at c2
          have w22 : w < 23 := by
            rcases Nat.lt_or_ge w 23 with z | z
            · exact z
            · have : w = 23 := by omega
              have := k3 this
              omega
          have k4 := k2 w22
          obtain ⟨t1, t2, t3, t4⟩ := wS_t w w22
          rw [jtc_o e3, h5, nI_cl (by omega)] at c4
          have tt : t = wS w + (jtb (wT w)).length := by
            rcases Nat.lt_or_ge t (wS w + (jtb (wT w)).length) with z | z
            · obtain ⟨u1, u2⟩ := t4 (t - wS w) (by omega)
              rw [show wS w + (t - wS w) = t by omega] at u1
              exact absurd (u1.symm.trans c4) u2
            · omega
          subst tt
          rw [h5, h4, nI_sb (by omega) (by omega), h1, h2, nI_sb (by omega) (by omega), nI_eq (by omega) (by omega)] at c5
          have sp : ¬ spl b s e (jtb (wT w)) := fun z => by have := z.1; omega
          rw [h3, h5, nI_1, nI_1] at hf
          exact E_X10_wordBetween_8 he hs k (w + 1) (wS w + (jtb (wT w)).length + 1) C h1 h2 rfl (by rw [t1]) rfl (by omega) (by omega) (fun z => by have := (wS_t (w + 1) z).1; omega) (fun z => by rw [← z]; exact t1.symm) (fun w2 z => by
            rcases Nat.lt_or_ge w2 w with z2 | z2
            · exact no w2 z2
            · have e2 : w2 = w := by omega
              subst e2
              exact sp) hf
      · skip
        -- leaf 11: rc8 a0 x1 x2 x3 x4 (x5 + (1 : Int32)) h
        have l113 := wS_23.2
        have l23 := wS_23.1
        have tb : t ≤ 113 := by
          rcases Nat.lt_or_ge w 23 with z | z
          · have := k2 z; have := (wS_t w z).2.1; omega
          · have := k3 (by omega); omega
        rw [jtl_o e1, h5, Int32.le_iff_toInt_le, nI_toInt (by omega), nI_toInt (by omega)] at c2
        have w22 : w < 23 := by
          rcases Nat.lt_or_ge w 23 with z | z
          · exact z
          · have : w = 23 := by omega
            have := k3 this
            omega
        have k4 := k2 w22
        obtain ⟨t1, t2, t3, t4⟩ := wS_t w w22
        rw [jtc_o e3, h5, nI_cl (by omega)] at c4
        have tl : t < wS w + (jtb (wT w)).length := by
          rcases Nat.lt_or_ge t (wS w + (jtb (wT w)).length) with z | z
          · exact z
          · exact absurd (by rw [show t = wS w + (jtb (wT w)).length by omega]; exact t3) c4
        rw [h5, nI_1] at hf
        exact E_X10_wordBetween_8 he hs k w (t + 1) C h1 h2 h3 h4 rfl kw (by omega) (fun _ => by omega) (fun z => by omega) no hf
theorem E_X10_wordBetween {b : Nat → Int32} {L : Nat} {s : Nat} {e : Nat} {n : Nat} {a0 : Nat} {x1 : Int32} {x2 : Int32} {h : jH} {q : Int32} (C : ctb (oc h) a0 b L) (he : e ≤ L) (hs : s ≤ e) (h1 : x1 = nI s) (h2 : x2 = nI e) (hf : F_X10_wordBetween n a0 x1 x2 h = some q) : (∃ w : Nat, w < 23 ∧ q = nI w ∧ spl b s e (jtb (wT w))) ∨ (q = -2 ∧ ∀ w : Nat, w < 23 → ¬ spl b s e (jtb (wT w))) := by
  unfold F_X10_wordBetween at hf
  -- leaf : F_X10_wordBetween_8 n n a0 x1 x2 (0 : Int32) (0 : Int32) (0 : Int32) h
  exact E_X10_wordBetween_8 he hs n 0 0 C h1 h2 rfl rfl rfl (by omega) (by decide) (fun _ => by omega) (fun z => by omega) (fun w z => by omega) hf
end
