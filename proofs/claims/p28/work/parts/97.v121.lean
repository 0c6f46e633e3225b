/-! words, signs and numbers as the reference reads them -/
theorem jtl_o {t : Nat} {v : Int32} (e : jtl t = some v) : v = nI (jtb t).length := by
  unfold jtl at e
  split at e
  · exact (Option.some.inj e).symm
  · cases e
theorem jtc_o {t : Nat} {i v : Int32} (e : jtc t i = some v) : v = (jtb t).getD i.toNatClampNeg 0 := by
  unfold jtc at e
  split at e
  · cases e
  · exact (Option.some.inj e).symm
theorem nI_sb {a c : Nat} (h : c ≤ a) (ha : a < 2147483648) : nI a - nI c = nI (a - c) := nI_k (by rw [jsub (by rw [nI_toInt ha, nI_toInt (by omega)]; omega) (by rw [nI_toInt ha, nI_toInt (by omega)]; omega), nI_toInt ha, nI_toInt (by omega)]; omega)
/-- a number between lo and hi stands from s to e -/
def numOK (b : Nat → Int32) (s e : Nat) (lo hi : Int32) : Prop := s < e ∧ e ≤ s + 3 ∧ lo ≤ dV b s (e - s) ∧ dV b s (e - s) ≤ hi
/-- what number answers, from s to e -/
def numA (b : Nat → Int32) (s e : Nat) (lo hi v : Int32) : Prop := (v = -1 ∧ ¬ numOK b s e lo hi) ∨ (v = dV b s (e - s) ∧ numOK b s e lo hi)
theorem E_X12_isWord_24 {n : Nat} {b : Nat → Int32} {L : Nat} {p : Nat} {s : Nat} (hs : s ≤ 400) : ∀ (k : Nat) {a0 : Nat} {t1 : Nat} {x2 : Int32} {x3 : Int32} {h : jH} {q : Int32} (j : Nat) (R : rb (oc h) a0 b L p) (g : oi (oc h) a0 12 = nI s) (hT : (jtb t1).length < 400) (h2 : x2 = 0 ∨ x2 = 1) (hx : x3 = nI j) (hj : j ≤ (jtb t1).length), F_X12_isWord_24 n k a0 t1 x2 x3 h = some q → (q = 0 ∨ q = 1) ∧ (q = 1 ↔ (x2 = 1 ∧ ∀ i, j ≤ i → i < (jtb t1).length → b (s + i) = (jtb t1).getD i 0))
  | 0, a0, t1, x2, x3, h, q, j, R, g, hT, h2, hx, hj, hf => by cases hf
  | k + 1, a0, t1, x2, x3, h, q, j, R, g, hT, h2, hx, hj, hf => by
    replace hf : F_X12_isWord_24_b n (F_X12_isWord_24 n k) a0 t1 x2 x3 h = some q := hf
    unfold F_X12_isWord_24_b at hf
    obtain ⟨M, b11, bL, b6, b10, bp⟩ := id R
    obtain ⟨s1, s2, s3, s4, s5, s8, s15, s17, s19, s20, s21⟩ := id M
    replace hf := jite hf
    rcases hf with ⟨c1, hf⟩ | ⟨c1, hf⟩
    · skip
      replace hf := jite hf
      rcases hf with ⟨c2, hf⟩ | ⟨c2, hf⟩
      · skip
        cases hf
        -- leaf 00: x2
        exact ⟨c2, fun z => absurd (c1.symm.trans z) (by decide), fun z => absurd (c1.symm.trans z.1) (by decide)⟩
      · skip
        cases hf
    · skip
      replace hf := jbind hf
      obtain ⟨v30, e3, hf⟩ := hf
      replace hf := jite hf
      rcases hf with ⟨c4, hf⟩ | ⟨c4, hf⟩
      · skip
        replace hf := jite hf
        rcases hf with ⟨c5, hf⟩ | ⟨c5, hf⟩
        · skip
          cases hf
          -- leaf 100: x2
          have r9 := jtl_o e3
          rw [r9, hx, Int32.le_iff_toInt_le, nI_toInt (by omega), nI_toInt (by omega)] at c4
          exact ⟨c5, fun z => ⟨z, fun i h1 h2 => by omega⟩, fun z => z.1⟩
        · skip
          cases hf
      · skip
        replace hf := jbind hf
        obtain ⟨p37, e6, hf⟩ := hf
        have r6 := oc_gR e6
        rw [s8] at r6
        cases r6
        clear e6
        replace hf := jbind hf
        obtain ⟨v41, e7, hf⟩ := hf
        have r7 := oc_gI e7
        subst r7
        clear e7
        replace hf := jbind hf
        obtain ⟨v46, e8, hf⟩ := hf
        obtain ⟨r8, y8⟩ := oc_al e8
        subst r8
        clear e8
        replace hf := jbind hf
        obtain ⟨v49, e9, hf⟩ := hf
        replace hf := jite hf
        rcases hf with ⟨c10, hf⟩ | ⟨c10, hf⟩
        · skip
          -- leaf 110: rc24 a0 t1 (1 : Int32) (x3 + (1 : Int32)) h
          have r9 := jtl_o e3
          rw [r9, hx, Int32.le_iff_toInt_le, nI_toInt (by omega), nI_toInt (by omega)] at c4
          have jl : j < (jtb t1).length := by omega
          have r99 := jtc_o e9
          have ea : nI s + nI j = nI (s + j) := nI_add s j
          rw [r99, g, hx, ea, nI_cl (by omega), nI_cl (by omega), b6] at c10
          rw [hx] at hf
          obtain ⟨q1, q2⟩ := E_X12_isWord_24 hs k (j + 1) R g hT (Or.inr rfl) (nI_1 j) (by omega) hf
          refine ⟨q1, fun z => ⟨h2.resolve_left c1, fun i h1 h3 => ?_⟩, fun z => q2.mpr ⟨rfl, fun i h1 h3 => z.2 i (by omega) h3⟩⟩
          by_cases y : i = j
          · rw [y]; exact c10
          · exact (q2.mp z).2 i (by omega) h3
        · skip
          -- leaf 111: rc24 a0 t1 (0 : Int32) (x3 + (1 : Int32)) h
          have r9 := jtl_o e3
          rw [r9, hx, Int32.le_iff_toInt_le, nI_toInt (by omega), nI_toInt (by omega)] at c4
          have jl : j < (jtb t1).length := by omega
          have r99 := jtc_o e9
          have ea : nI s + nI j = nI (s + j) := nI_add s j
          rw [r99, g, hx, ea, nI_cl (by omega), nI_cl (by omega), b6] at c10
          rw [hx] at hf
          obtain ⟨q1, q2⟩ := E_X12_isWord_24 hs k (j + 1) R g hT (Or.inl rfl) (nI_1 j) (by omega) hf
          exact ⟨q1, fun z => absurd (q2.mp z).1 (by decide), fun z => absurd (z.2 j (Nat.le_refl j) jl) c10⟩
theorem E_X12_isWord {b : Nat → Int32} {L : Nat} {p : Nat} {s : Nat} {n : Nat} {a0 : Nat} {t1 : Nat} {h : jH} {q : Int32} (R : rb (oc h) a0 b L p) (g : oi (oc h) a0 12 = nI s) (hs : s ≤ p) (hT : (jtb t1).length < 400) (hf : F_X12_isWord n a0 t1 h = some q) : (q = 0 ∨ q = 1) ∧ (q = 1 ↔ spl b s p (jtb t1)) := by
  unfold F_X12_isWord at hf
  obtain ⟨M, b11, bL, b6, b10, bp⟩ := id R
  replace hf := jbind hf
  obtain ⟨v1, e1, hf⟩ := hf
  have r1 := oc_gI e1
  subst r1
  clear e1
  replace hf := jbind hf
  obtain ⟨v5, e2, hf⟩ := hf
  have r2 := oc_gI e2
  subst r2
  clear e2
  replace hf := jbind hf
  obtain ⟨v10, e3, hf⟩ := hf
  replace hf := jite hf
  rcases hf with ⟨c4, hf⟩ | ⟨c4, hf⟩
  · skip
    -- leaf 0: F_X12_isWord_24 n n a0 t1 (1 : Int32) (0 : Int32) h
    have r9 := jtl_o e3
    rw [r9, b10, g, nI_sb hs (by omega), nI_eq (by omega) (by omega)] at c4
    obtain ⟨q1, q2⟩ := E_X12_isWord_24 (b := b) (L := L) (p := p) (s := s) (by omega) n 0 R g hT (Or.inr rfl) rfl (by omega) hf
    exact ⟨q1, fun z => ⟨by omega, fun i hi => (q2.mp z).2 i (by omega) hi⟩, fun z => q2.mpr ⟨rfl, fun i _ hi => z.2 i hi⟩⟩
  · skip
    -- leaf 1: F_X12_isWord_24 n n a0 t1 (0 : Int32) (0 : Int32) h
    have r9 := jtl_o e3
    rw [r9, b10, g, nI_sb hs (by omega), nI_eq (by omega) (by omega)] at c4
    obtain ⟨q1, q2⟩ := E_X12_isWord_24 (b := b) (L := L) (p := p) (s := s) (by omega) n 0 R g hT (Or.inl rfl) rfl (by omega) hf
    exact ⟨q1, fun z => absurd (q2.mp z).1 (by decide), fun z => absurd z.1 (by omega)⟩
theorem E_X12_passes {b : Nat → Int32} {L : Nat} {p : Nat} {n : Nat} {a0 : Nat} {t1 : Nat} {h : jH} {q : Int32 × jH} (R : rb (oc h) a0 b L p) (hT : (jtb t1).length < 400) (hf : F_X12_passes n a0 t1 h = some q) : ∃ s e, isRow (bIn b L 32 32) p s ∧ isRow (bIn b L 97 122) s e ∧ oi (oc q.2) a0 12 = nI s ∧ ((q.1 = 1 ∧ spl b s e (jtb t1) ∧ rb (oc q.2) a0 b L e) ∨ (q.1 = 0 ∧ ¬ spl b s e (jtb t1) ∧ rb (oc q.2) a0 b L s)) ∧ frM a0 [] [10, 12] (oc h) (oc q.2) ∧ q.2.1 = h.1 := by
  unfold F_X12_passes at hf
  replace hf := jbind hf
  obtain ⟨h1, e1, hf⟩ := hf
  replace e1 := (jcv_o e1).2
  obtain ⟨s1, e10, t1_, u1, R1, g1, f1, z1⟩ := E_X12_letters R e1
  replace hf := jbind hf
  obtain ⟨v6, e2, hf⟩ := hf
  replace e2 := (jcv_o e2).2
  obtain ⟨q2a, q2b⟩ := E_X12_isWord R1 g1 u1.1 hT e2
  replace hf := jite hf
  rcases hf with ⟨c3, hf⟩ | ⟨c3, hf⟩
  · skip
    replace hf := jbind hf
    obtain ⟨v16, e4, hf⟩ := hf
    have r4 := oc_gI e4
    subst r4
    clear e4
    replace hf := jbind hf
    obtain ⟨h19, e5, hf⟩ := hf
    obtain ⟨o5, z5⟩ := oc_pf e5
    clear e5
    cases hf
    -- leaf 0: ((0 : Int32), h19)
    have w5 : frM a0 [] [10, 12] (oc h1) (oc h19) := by rw [o5]; exact frM_f (by decide)
    have w6 : rb (oc h19) a0 b L s1 := by rw [o5, g1]; exact rb_pt R1 (by have := R1.2.2.2.2.2; have := u1.1; omega)
    have w7 : oi (oc h19) a0 12 = nI s1 := by rw [o5, oi_ne (Or.inr (by decide))]; exact g1
    exact ⟨s1, e10, t1_, u1, w7, Or.inr ⟨rfl, fun z => absurd (c3.symm.trans (q2b.mpr z)) (by decide), w6⟩, frM_tr f1 w5, z5.trans z1⟩
  · skip
    cases hf
    -- leaf 1: ((1 : Int32), h1)
    exact ⟨s1, e10, t1_, u1, g1, Or.inl ⟨rfl, q2b.mp (q2a.resolve_left c3), R1⟩, f1, z1⟩
theorem E_X12_sign {b : Nat → Int32} {L : Nat} {p : Nat} {n : Nat} {a0 : Nat} {x1 : Int32} {h : jH} {q : Int32 × jH} (R : rb (oc h) a0 b L p) (hf : F_X12_sign n a0 x1 h = some q) : ∃ s, isRow (bIn b L 32 32) p s ∧ oi (oc q.2) a0 12 = nI s ∧ ((q.1 = 1 ∧ bIn b L x1 x1 s ∧ rb (oc q.2) a0 b L (s + 1)) ∨ (q.1 = 0 ∧ ¬ bIn b L x1 x1 s ∧ rb (oc q.2) a0 b L s)) ∧ frM a0 [] [10, 12] (oc h) (oc q.2) ∧ q.2.1 = h.1 := by
  unfold F_X12_sign at hf
  replace hf := jbind hf
  obtain ⟨h1, e1, hf⟩ := hf
  replace e1 := (jcv_o e1).2
  obtain ⟨s1, t1, R1, g1, f1, z1⟩ := E_X12_blanks R e1
  replace hf := jbind hf
  obtain ⟨v7, e2, hf⟩ := hf
  replace e2 := (jcv_o e2).2
  have r2 := E_X12_isAt R1 e2
  replace hf := jite hf
  rcases hf with ⟨c3, hf⟩ | ⟨c3, hf⟩
  · skip
    cases hf
    -- leaf 0: ((0 : Int32), h1)
    rcases r2 with ⟨y, -⟩ | ⟨-, y⟩
    · exact absurd (c3.symm.trans y) (by decide)
    exact ⟨s1, t1, g1, Or.inr ⟨rfl, y, R1⟩, f1, z1⟩
  · skip
    replace hf := jbind hf
    obtain ⟨v17, e4, hf⟩ := hf
    have r4 := oc_gI e4
    subst r4
    clear e4
    replace hf := jbind hf
    obtain ⟨h22, e5, hf⟩ := hf
    obtain ⟨o5, z5⟩ := oc_pf e5
    clear e5
    cases hf
    -- leaf 1: ((1 : Int32), h22)
    rcases r2 with ⟨-, y⟩ | ⟨y, -⟩
    rotate_left
    · exact absurd y c3
    have g10 := R1.2.2.2.2.1
    rw [g10, nI_1] at o5
    have hp : s1 < L := y.1
    have w5 : frM a0 [] [10, 12] (oc h1) (oc h22) := by rw [o5]; exact frM_f (by decide)
    have w6 : rb (oc h22) a0 b L (s1 + 1) := by rw [o5]; exact rb_pt R1 (by omega)
    have w7 : oi (oc h22) a0 12 = nI s1 := by rw [o5, oi_ne (Or.inr (by decide))]; exact g1
    exact ⟨s1, t1, w7, Or.inl ⟨rfl, y, w6⟩, frM_tr f1 w5, z5.trans z1⟩
theorem E_X12_number_6 {n : Nat} {b : Nat → Int32} {L : Nat} {s : Nat} : ∀ (k : Nat) {a0 : Nat} {x1 : Int32} {x2 : Int32} {x3 : Int32} {h : jH} {q : Int32 × jH} (p : Nat) (R : rb (oc h) a0 b L p) (g : oi (oc h) a0 12 = nI s) (hs : s ≤ p) (hx : x3 = dV b s (min (p - s) 3)), F_X12_number_6 n k a0 x1 x2 x3 h = some q → ∃ e, isRow (bIn b L 48 57) p e ∧ rb (oc q.2) a0 b L e ∧ numA b s e x1 x2 q.1 ∧ frM a0 [] [10] (oc h) (oc q.2) ∧ q.2.1 = h.1
  | 0, a0, x1, x2, x3, h, q, p, R, g, hs, hx, hf => by cases hf
  | k + 1, a0, x1, x2, x3, h, q, p, R, g, hs, hx, hf => by
    replace hf : F_X12_number_6_b n (F_X12_number_6 n k) a0 x1 x2 x3 h = some q := hf
    unfold F_X12_number_6_b at hf
    obtain ⟨M, b11, bL, b6, b10, bp⟩ := id R
    obtain ⟨s1, s2, s3, s4, s5, s8, s15, s17, s19, s20, s21⟩ := id M
    replace hf := jbind hf
    obtain ⟨v11, e1, hf⟩ := hf
    replace e1 := (jcv_o e1).2
    have r1 := E_X12_isAt R e1
    replace hf := jite hf
    rcases hf with ⟨c2, hf⟩ | ⟨c2, hf⟩
    · skip
      replace hf := jbind hf
      obtain ⟨v66, e3, hf⟩ := hf
      have r3 := oc_gI e3
      subst r3
      clear e3
      replace hf := jbind hf
      obtain ⟨v70, e4, hf⟩ := hf
      have r4 := oc_gI e4
      subst r4
      clear e4
      replace hf := jite hf
      rcases hf with ⟨c5, hf⟩ | ⟨c5, hf⟩
      · skip
        cases hf
        -- leaf 00: ((- 1 : Int32), h)
        rcases r1 with ⟨y, -⟩ | ⟨-, y⟩
        · exact absurd (c2.symm.trans y) (by decide)
        rw [b10, g, nI_eq (by omega) (by omega)] at c5
        exact ⟨p, row_0 y, R, Or.inl ⟨rfl, fun z => by have := z.1; omega⟩, frM_rfl, rfl⟩
      · skip
        replace hf := jbind hf
        obtain ⟨v77, e6, hf⟩ := hf
        have r6 := oc_gI e6
        subst r6
        clear e6
        replace hf := jbind hf
        obtain ⟨v81, e7, hf⟩ := hf
        have r7 := oc_gI e7
        subst r7
        clear e7
        replace hf := jite hf
        rcases hf with ⟨c8, hf⟩ | ⟨c8, hf⟩
        · skip
          cases hf
          -- leaf 010: ((- 1 : Int32), h)
          rcases r1 with ⟨y, -⟩ | ⟨-, y⟩
          · exact absurd (c2.symm.trans y) (by decide)
          rw [b10, g, nI_sb hs (by omega)] at c8
          rw [Int32.lt_iff_toInt_lt, nI_toInt (by omega), show (3 : Int32).toInt = 3 from rfl] at c8
          exact ⟨p, row_0 y, R, Or.inl ⟨rfl, fun z => by have := z.2.1; omega⟩, frM_rfl, rfl⟩
        · skip
          replace hf := jite hf
          rcases hf with ⟨c9, hf⟩ | ⟨c9, hf⟩
          · skip
            cases hf
            -- leaf 0110: ((- 1 : Int32), h)
            rcases r1 with ⟨y, -⟩ | ⟨-, y⟩
            · exact absurd (c2.symm.trans y) (by decide)
            rw [b10, g, nI_sb hs (by omega)] at c8
            rw [Int32.lt_iff_toInt_lt, nI_toInt (by omega), show (3 : Int32).toInt = 3 from rfl] at c8
            rw [show min (p - s) 3 = p - s by omega] at hx
            exact ⟨p, row_0 y, R, Or.inl ⟨rfl, fun z => by have := z.2.2.1; rw [← hx, Int32.le_iff_toInt_le] at this; rw [Int32.lt_iff_toInt_lt] at c9; omega⟩, frM_rfl, rfl⟩
          · skip
            replace hf := jite hf
            rcases hf with ⟨c10, hf⟩ | ⟨c10, hf⟩
            · skip
              cases hf
              -- leaf 01110: (x3, h)
              rcases r1 with ⟨y, -⟩ | ⟨-, y⟩
              · exact absurd (c2.symm.trans y) (by decide)
              rw [b10, g, nI_sb hs (by omega)] at c8
              rw [Int32.lt_iff_toInt_lt, nI_toInt (by omega), show (3 : Int32).toInt = 3 from rfl] at c8
              rw [show min (p - s) 3 = p - s by omega] at hx
              rw [b10, g, nI_eq (by omega) (by omega)] at c5
              exact ⟨p, row_0 y, R, Or.inr ⟨hx, by omega, by omega, by rw [← hx, Int32.le_iff_toInt_le]; rw [Int32.lt_iff_toInt_lt] at c9; omega, by rw [← hx]; exact c10⟩, frM_rfl, rfl⟩
            · skip
              cases hf
              -- leaf 01111: ((- 1 : Int32), h)
              rcases r1 with ⟨y, -⟩ | ⟨-, y⟩
              · exact absurd (c2.symm.trans y) (by decide)
              rw [b10, g, nI_sb hs (by omega)] at c8
              rw [Int32.lt_iff_toInt_lt, nI_toInt (by omega), show (3 : Int32).toInt = 3 from rfl] at c8
              rw [show min (p - s) 3 = p - s by omega] at hx
              exact ⟨p, row_0 y, R, Or.inl ⟨rfl, fun z => c10 (by have := z.2.2.2; rw [← hx] at this; exact this)⟩, frM_rfl, rfl⟩
    · skip
      replace hf := jbind hf
      obtain ⟨v18, e11, hf⟩ := hf
      have r11 := oc_gI e11
      subst r11
      clear e11
      replace hf := jbind hf
      obtain ⟨v22, e12, hf⟩ := hf
      have r12 := oc_gI e12
      subst r12
      clear e12
      replace hf := jite hf
      rcases hf with ⟨c13, hf⟩ | ⟨c13, hf⟩
      · skip
        replace hf := jbind hf
        obtain ⟨v54, e14, hf⟩ := hf
        have r14 := oc_gI e14
        subst r14
        clear e14
        replace hf := jbind hf
        obtain ⟨h59, e15, hf⟩ := hf
        obtain ⟨o15, z15⟩ := oc_pf e15
        clear e15
        -- leaf 10: rc6 a0 x1 x2 x3 h59
        rcases r1 with ⟨-, y⟩ | ⟨y, -⟩
        rotate_left
        · exact absurd y c2
        have hp : p < L := y.1
        rw [b10, g, nI_sb hs (by omega), Int32.le_iff_toInt_le, nI_toInt (by omega), show (3 : Int32).toInt = 3 from rfl] at c13
        rw [b10, nI_1] at o15
        have R4 : rb (oc h59) a0 b L (p + 1) := by rw [o15]; exact rb_pt R (by omega)
        have f4 : frM a0 [] [10] (oc h) (oc h59) := by rw [o15]; exact frM_f (by decide)
        have g4 : oi (oc h59) a0 12 = nI s := by rw [o15, oi_ne (Or.inr (by decide))]; exact g
        obtain ⟨j, j1, j2, j3, j4, j5⟩ := E_X12_number_6 k (p + 1) R4 g4 (by omega) (by rw [hx, show min (p - s) 3 = 3 by omega, show min (p + 1 - s) 3 = 3 by omega]) hf
        exact ⟨j, row_s y j1, j2, j3, frM_tr f4 j4, j5.trans z15⟩
      · skip
        replace hf := jbind hf
        obtain ⟨p35, e16, hf⟩ := hf
        have r16 := oc_gR e16
        rw [s8] at r16
        cases r16
        clear e16
        replace hf := jbind hf
        obtain ⟨v39, e17, hf⟩ := hf
        have r17 := oc_gI e17
        subst r17
        clear e17
        replace hf := jbind hf
        obtain ⟨v42, e18, hf⟩ := hf
        obtain ⟨r18, y18⟩ := oc_al e18
        subst r18
        clear e18
        replace hf := jbind hf
        obtain ⟨v54, e19, hf⟩ := hf
        have r19 := oc_gI e19
        subst r19
        clear e19
        replace hf := jbind hf
        obtain ⟨h59, e20, hf⟩ := hf
        obtain ⟨o20, z20⟩ := oc_pf e20
        clear e20
        -- leaf 11: rc6 a0 x1 x2 ((((10 : Int32) * x3) + v42) - (48 : Int32)) h59
        rcases r1 with ⟨-, y⟩ | ⟨y, -⟩
        rotate_left
        · exact absurd y c2
        have hp : p < L := y.1
        rw [b10, g, nI_sb hs (by omega), Int32.le_iff_toInt_le, nI_toInt (by omega), show (3 : Int32).toInt = 3 from rfl] at c13
        rw [b10, nI_cl (by omega), b6] at hf
        rw [b10, nI_1] at o20
        have R4 : rb (oc h59) a0 b L (p + 1) := by rw [o20]; exact rb_pt R (by omega)
        have f4 : frM a0 [] [10] (oc h) (oc h59) := by rw [o20]; exact frM_f (by decide)
        have g4 : oi (oc h59) a0 12 = nI s := by rw [o20, oi_ne (Or.inr (by decide))]; exact g
        obtain ⟨j, j1, j2, j3, j4, j5⟩ := E_X12_number_6 k (p + 1) R4 g4 (by omega) (by rw [hx, show min (p - s) 3 = p - s by omega, show min (p + 1 - s) 3 = p - s + 1 by omega]; show _ = (10 * dV b s (p - s) + b (s + (p - s))) - 48; rw [show s + (p - s) = p by omega]) hf
        exact ⟨j, row_s y j1, j2, j3, frM_tr f4 j4, j5.trans z20⟩
theorem E_X12_number {b : Nat → Int32} {L : Nat} {p : Nat} {n : Nat} {a0 : Nat} {x1 : Int32} {x2 : Int32} {h : jH} {q : Int32 × jH} (R : rb (oc h) a0 b L p) (hf : F_X12_number n a0 x1 x2 h = some q) : ∃ s e, isRow (bIn b L 32 32) p s ∧ isRow (bIn b L 48 57) s e ∧ oi (oc q.2) a0 12 = nI s ∧ rb (oc q.2) a0 b L e ∧ numA b s e x1 x2 q.1 ∧ frM a0 [] [10, 12] (oc h) (oc q.2) ∧ q.2.1 = h.1 := by
  unfold F_X12_number at hf
  replace hf := jbind hf
  obtain ⟨h1, e1, hf⟩ := hf
  replace e1 := (jcv_o e1).2
  obtain ⟨s1, t1, R1, g1, f1, z1⟩ := E_X12_blanks R e1
  -- leaf : F_X12_number_6 n n a0 x1 x2 (0 : Int32) h1
  obtain ⟨j, j1, j2, j3, j4, j5⟩ := E_X12_number_6 (s := s1) n s1 R1 g1 (Nat.le_refl s1) (by rw [Nat.sub_self]; rfl) hf
  exact ⟨s1, j, t1, j1, (frM_oi j4 (by decide) (by decide)).trans g1, j2, j3, frM_tr f1 (frM_le j4 (by decide) (by decide)), j5.trans z1⟩
theorem E_X12_after {b : Nat → Int32} {L : Nat} {p : Nat} {n : Nat} {a0 : Nat} {t1 : Nat} {x2 : Int32} {x3 : Int32} {h : jH} {q : Int32 × jH} (R : rb (oc h) a0 b L p) (hT : (jtb t1).length < 400) (hf : F_X12_after n a0 t1 x2 x3 h = some q) : ∃ s e, isRow (bIn b L 32 32) p s ∧ isRow (bIn b L 97 122) s e ∧ ((q.1 = -1 ∧ ¬ spl b s e (jtb t1) ∧ oi (oc q.2) a0 12 = nI s) ∨ (spl b s e (jtb t1) ∧ ∃ s2 e2, isRow (bIn b L 32 32) e s2 ∧ isRow (bIn b L 48 57) s2 e2 ∧ oi (oc q.2) a0 12 = nI s2 ∧ rb (oc q.2) a0 b L e2 ∧ numA b s2 e2 x2 x3 q.1)) ∧ frM a0 [] [10, 12] (oc h) (oc q.2) ∧ q.2.1 = h.1 := by
  unfold F_X12_after at hf
  replace hf := jbind hf
  obtain ⟨h1, e1, hf⟩ := hf
  replace e1 := (jcv_o e1).2
  obtain ⟨s1, e10, t1_, u1, R1, g1, f1, z1⟩ := E_X12_letters R e1
  replace hf := jbind hf
  obtain ⟨v6, e2, hf⟩ := hf
  replace e2 := (jcv_o e2).2
  obtain ⟨q2a, q2b⟩ := E_X12_isWord R1 g1 u1.1 hT e2
  replace hf := jite hf
  rcases hf with ⟨c3, hf⟩ | ⟨c3, hf⟩
  · skip
    cases hf
    -- leaf 0: ((- 1 : Int32), h1)
    exact ⟨s1, e10, t1_, u1, Or.inl ⟨rfl, fun z => absurd (c3.symm.trans (q2b.mpr z)) (by decide), g1⟩, f1, z1⟩
  · skip
    replace hf := jbind hf
    obtain ⟨q15, e4, hf⟩ := hf
    replace e4 := (jcv_o e4).2
    obtain ⟨s4, e40, t4, u4, g4, R4, N4, f4, z4⟩ := E_X12_number R1 e4
    cases hf
    -- leaf 1: (q15.1, q15.2)
    exact ⟨s1, e10, t1_, u1, Or.inr ⟨q2b.mp (q2a.resolve_left c3), s4, e40, t4, u4, g4, R4, N4⟩, frM_tr f1 f4, z4.trans z1⟩
