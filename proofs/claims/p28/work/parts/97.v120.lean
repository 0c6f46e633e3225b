/-! what the reference reads of its tape: rows of bytes, words, numbers -/
def bIn (b : Nat → Int32) (L : Nat) (lo hi : Int32) (i : Nat) : Prop := i < L ∧ lo ≤ b i ∧ b i ≤ hi
def isRow (P : Nat → Prop) (i j : Nat) : Prop := i ≤ j ∧ (∀ k, i ≤ k → k < j → P k) ∧ ¬ P j
theorem row_u {P : Nat → Prop} {i j k : Nat} (a : isRow P i j) (c : isRow P i k) : j = k := by
  obtain ⟨a1, a2, a3⟩ := a
  obtain ⟨c1, c2, c3⟩ := c
  rcases Nat.lt_trichotomy j k with z | z | z
  · exact absurd (c2 j a1 z) a3
  · exact z
  · exact absurd (a2 k c1 z) c3
theorem row_0 {P : Nat → Prop} {i : Nat} (h : ¬ P i) : isRow P i i := ⟨Nat.le_refl i, fun k h1 h2 => by omega, h⟩
theorem row_s {P : Nat → Prop} {i j : Nat} (h : P i) (r : isRow P (i + 1) j) : isRow P i j :=
  ⟨by have := r.1; omega, fun k h1 h2 => by
    by_cases z : k = i
    · rw [z]; exact h
    · exact r.2.1 k (by omega) h2, r.2.2⟩
theorem row_L {b : Nat → Int32} {L i j : Nat} {lo hi : Int32} (r : isRow (bIn b L lo hi) i j) (hi : i ≤ L) : j ≤ L := by
  rcases Nat.lt_or_ge L j with z | z
  · have y := (r.2.1 (j - 1) (by omega) (by omega)).1
    omega
  · exact z
/-- the word l stands from s to e -/
def spl (b : Nat → Int32) (s e : Nat) (l : List Int32) : Prop := e = s + l.length ∧ ∀ i, i < l.length → b (s + i) = l.getD i 0
theorem spl_u {b : Nat → Int32} {s e : Nat} {l l2 : List Int32} (a : spl b s e l) (c : spl b s e l2) : l = l2 := by
  have hl : l.length = l2.length := by have := a.1; have := c.1; omega
  refine List.ext_getElem hl fun i h1 h2 => ?_
  have x := a.2 i h1
  have y := c.2 i h2
  rw [List.getD_eq_getElem?_getD, List.getElem?_eq_getElem h1] at x
  rw [List.getD_eq_getElem?_getD, List.getElem?_eq_getElem h2] at y
  exact x.symm.trans y
/-- the number that k digits from s on make -/
def dV (b : Nat → Int32) (s : Nat) : Nat → Int32
  | 0 => 0
  | k + 1 => (10 * dV b s k + b (s + k)) - 48
theorem dV_b {b : Nat → Int32} {s : Nat} : ∀ k : Nat, k ≤ 3 → (∀ i, i < k → (48 : Int32) ≤ b (s + i) ∧ b (s + i) ≤ 57) → 0 ≤ (dV b s k).toInt ∧ (dV b s k).toInt + 1 ≤ 10 ^ k
  | 0, _, _ => by show 0 ≤ (0 : Int32).toInt ∧ (0 : Int32).toInt + 1 ≤ 10 ^ 0; decide
  | k + 1, hk, h => by
    obtain ⟨a, c⟩ := dV_b k (by omega) (fun i hi => h i (by omega))
    obtain ⟨d1, d2⟩ := h k (by omega)
    rw [Int32.le_iff_toInt_le] at d1 d2
    have l48 : (48 : Int32).toInt = 48 := rfl
    have l57 : (57 : Int32).toInt = 57 := rfl
    have l10 : (10 : Int32).toInt = 10 := rfl
    have p : (10 : Int) ^ k ≤ 100 := by
      rcases (by omega : k = 0 ∨ k = 1 ∨ k = 2) with z | z | z <;> subst z <;> decide
    have m : ((10 : Int32) * dV b s k).toInt = 10 * (dV b s k).toInt := by rw [Int32.toInt_mul, l10]; exact Int.bmod_eq_of_le (by omega) (by omega)
    have e : (dV b s (k + 1)).toInt = 10 * (dV b s k).toInt + (b (s + k)).toInt - 48 := by
      show ((10 * dV b s k + b (s + k)) - 48 : Int32).toInt = _
      rw [jsub (by rw [jadd (by omega) (by omega)]; omega) (by rw [jadd (by omega) (by omega)]; omega), jadd (by omega) (by omega), m, l48]
    rw [e, Int.pow_succ]
    omega
/-- the reference reads: the tape's bytes are b, its end L, the point p -/
def rb (O : jO) (m : Nat) (b : Nat → Int32) (L p : Nat) : Prop := mS O m ∧ oi O m 11 = nI L ∧ L ≤ 400 ∧ (∀ i, oi O (m + 6) i = b i) ∧ oi O m 10 = nI p ∧ p ≤ L
theorem rb_pt {O : jO} {m L p j : Nat} {b : Nat → Int32} (R : rb O m b L p) (hj : j ≤ L) : rb (u2 O m 10 (.int (nI j))) m b L j := by
  obtain ⟨M, e1, e2, e3, -, -⟩ := R
  exact ⟨mS_fr M (frM_f (cs := []) (fs := [10]) (by decide)) (by decide) (by decide), by rw [oi_ne (Or.inr (by decide))]; exact e1, e2, fun i => by rw [oi_ne (Or.inl (by omega))]; exact e3 i, oi_eq, hj⟩
theorem rb_fr {O O2 : jO} {m L p : Nat} {cs fs : List Nat} {b : Nat → Int32} (R : rb O m b L p) (f : frM m cs fs O O2) (hc : 0 ∉ cs) (hc6 : 6 ∉ cs) (hf : ∀ k ∈ [1, 2, 3, 4, 5, 8, 15, 17, 19, 20, 21], k ∉ fs) (h10 : 10 ∉ fs) (h11 : 11 ∉ fs) : rb O2 m b L p := by
  obtain ⟨M, e1, e2, e3, e4, e5⟩ := R
  exact ⟨mS_fr M f hc hf, (frM_oi f hc h11).trans e1, e2, fun i => (oi_M f (fun c z q => by have : c = 6 := by omega
                                                                                            subst this; exact hc6 z) (fun q => by omega)).trans (e3 i), (frM_oi f hc h10).trans e4, e5⟩
theorem E_X12_isAt {b : Nat → Int32} {L : Nat} {p : Nat} {n : Nat} {a0 : Nat} {x1 : Int32} {x2 : Int32} {h : jH} {q : Int32} (R : rb (oc h) a0 b L p) (hf : F_X12_isAt n a0 x1 x2 h = some q) : (q = 1 ∧ bIn b L x1 x2 p) ∨ (q = 0 ∧ ¬ bIn b L x1 x2 p) := by
  unfold F_X12_isAt at hf
  obtain ⟨M, b11, bL, b6, b10, bp⟩ := id R
  obtain ⟨s1, s2, s3, s4, s5, s8, s15, s17, s19, s20, s21⟩ := id M
  replace hf := jbind hf
  obtain ⟨v1, e1, hf⟩ := hf
  have r1 := oc_gI e1
  subst r1
  clear e1
  replace hf := jbind hf
  obtain ⟨v5, e2, hf⟩ := hf
  have r2 := oc_gI e2
  subst r2
  clear e2
  replace hf := jite hf
  rcases hf with ⟨c3, hf⟩ | ⟨c3, hf⟩
  · skip
    cases hf
    -- leaf 0: (0 : Int32)
    rw [b10, b11, Int32.le_iff_toInt_le, nI_toInt (by omega), nI_toInt (by omega)] at c3
    exact Or.inr ⟨rfl, fun z => by have := z.1; omega⟩
  · skip
    replace hf := jbind hf
    obtain ⟨p12, e4, hf⟩ := hf
    have r4 := oc_gR e4
    rw [s8] at r4
    cases r4
    clear e4
    replace hf := jbind hf
    obtain ⟨v16, e5, hf⟩ := hf
    have r5 := oc_gI e5
    subst r5
    clear e5
    replace hf := jbind hf
    obtain ⟨v19, e6, hf⟩ := hf
    obtain ⟨r6, y6⟩ := oc_al e6
    subst r6
    clear e6
    replace hf := jite hf
    rcases hf with ⟨c7, hf⟩ | ⟨c7, hf⟩
    · skip
      cases hf
      -- leaf 10: (0 : Int32)
      rw [b10, nI_cl (by omega), b6] at c7
      exact Or.inr ⟨rfl, fun z => by have := z.2.1; rw [Int32.le_iff_toInt_le] at this; rw [Int32.lt_iff_toInt_lt] at c7; omega⟩
    · skip
      replace hf := jbind hf
      obtain ⟨p25, e8, hf⟩ := hf
      have r8 := oc_gR e8
      rw [s8] at r8
      cases r8
      clear e8
      replace hf := jbind hf
      obtain ⟨v29, e9, hf⟩ := hf
      have r9 := oc_gI e9
      subst r9
      clear e9
      replace hf := jbind hf
      obtain ⟨v32, e10, hf⟩ := hf
      obtain ⟨r10, y10⟩ := oc_al e10
      subst r10
      clear e10
      replace hf := jite hf
      rcases hf with ⟨c11, hf⟩ | ⟨c11, hf⟩
      · skip
        cases hf
        -- leaf 110: (0 : Int32)
        rw [b10, nI_cl (by omega), b6] at c11
        exact Or.inr ⟨rfl, fun z => by have := z.2.2; rw [Int32.le_iff_toInt_le] at this; rw [Int32.lt_iff_toInt_lt] at c11; omega⟩
      · skip
        cases hf
        -- leaf 111: (1 : Int32)
        rw [b10, b11, Int32.le_iff_toInt_le, nI_toInt (by omega), nI_toInt (by omega)] at c3
        rw [b10, nI_cl (by omega), b6] at c7 c11
        exact Or.inl ⟨rfl, by omega, by rw [Int32.le_iff_toInt_le]; rw [Int32.lt_iff_toInt_lt] at c7; omega, by rw [Int32.le_iff_toInt_le]; rw [Int32.lt_iff_toInt_lt] at c11; omega⟩
theorem E_X12_blanks_0 {n : Nat} {b : Nat → Int32} {L : Nat} : ∀ (k : Nat) {a0 : Nat} {h : jH} {q : jH} (p : Nat) (R : rb (oc h) a0 b L p), F_X12_blanks_0 n k a0 h = some q → ∃ j, isRow (bIn b L 32 32) p j ∧ rb (oc q) a0 b L j ∧ oi (oc q) a0 12 = nI j ∧ frM a0 [] [10, 12] (oc h) (oc q) ∧ q.1 = h.1
  | 0, a0, h, q, p, R, hf => by cases hf
  | k + 1, a0, h, q, p, R, hf => by
    replace hf : F_X12_blanks_0_b n (F_X12_blanks_0 n k) a0 h = some q := hf
    unfold F_X12_blanks_0_b at hf
    obtain ⟨M, b11, bL, b6, b10, bp⟩ := id R
    obtain ⟨s1, s2, s3, s4, s5, s8, s15, s17, s19, s20, s21⟩ := id M
    replace hf := jbind hf
    obtain ⟨v5, e1, hf⟩ := hf
    replace e1 := (jcv_o e1).2
    have r1 := E_X12_isAt R e1
    replace hf := jite hf
    rcases hf with ⟨c2, hf⟩ | ⟨c2, hf⟩
    · skip
      replace hf := jbind hf
      obtain ⟨v26, e3, hf⟩ := hf
      have r3 := oc_gI e3
      subst r3
      clear e3
      replace hf := jbind hf
      obtain ⟨h29, e4, hf⟩ := hf
      obtain ⟨o4, z4⟩ := oc_pf e4
      clear e4
      cases hf
      -- leaf 0: h29
      rcases r1 with ⟨y, -⟩ | ⟨-, y⟩
      · exact absurd (c2.symm.trans y) (by decide)
      have f4 : frM a0 [] [10, 12] (oc h) (oc q) := by rw [o4]; exact frM_f (by decide)
      have g4 : oi (oc q) a0 12 = nI p := by rw [o4, oi_eq]; exact b10
      have R4 : rb (oc q) a0 b L p := by rw [o4]; exact rb_fr R (frM_f (cs := []) (fs := [12]) (by decide)) (by decide) (by decide) (by decide) (by decide) (by decide)
      exact ⟨p, row_0 y, R4, g4, f4, z4⟩
    · skip
      replace hf := jbind hf
      obtain ⟨v13, e5, hf⟩ := hf
      have r5 := oc_gI e5
      subst r5
      clear e5
      replace hf := jbind hf
      obtain ⟨h18, e6, hf⟩ := hf
      obtain ⟨o6, z6⟩ := oc_pf e6
      clear e6
      -- leaf 1: rc0 a0 h18
      rcases r1 with ⟨-, y⟩ | ⟨y, -⟩
      rotate_left
      · exact absurd y c2
      have hp : p < L := y.1
      rw [b10, nI_1] at o6
      have R4 : rb (oc h18) a0 b L (p + 1) := by rw [o6]; exact rb_pt R (by omega)
      have f4 : frM a0 [] [10, 12] (oc h) (oc h18) := by rw [o6]; exact frM_f (by decide)
      obtain ⟨j, j1, j2, j3, j4, j5⟩ := E_X12_blanks_0 k (p + 1) R4 hf
      exact ⟨j, row_s y j1, j2, j3, frM_tr f4 j4, j5.trans z6⟩
theorem E_X12_blanks {b : Nat → Int32} {L : Nat} {p : Nat} {n : Nat} {a0 : Nat} {h : jH} {q : jH} (R : rb (oc h) a0 b L p) (hf : F_X12_blanks n a0 h = some q) : ∃ j, isRow (bIn b L 32 32) p j ∧ rb (oc q) a0 b L j ∧ oi (oc q) a0 12 = nI j ∧ frM a0 [] [10, 12] (oc h) (oc q) ∧ q.1 = h.1 := by
  unfold F_X12_blanks at hf
  -- leaf : F_X12_blanks_0 n n a0 h
  exact E_X12_blanks_0 n p R hf
theorem E_X12_letters_4 {n : Nat} {b : Nat → Int32} {L : Nat} : ∀ (k : Nat) {a0 : Nat} {h : jH} {q : jH} (p : Nat) (R : rb (oc h) a0 b L p), F_X12_letters_4 n k a0 h = some q → ∃ j, isRow (bIn b L 97 122) p j ∧ rb (oc q) a0 b L j ∧ frM a0 [] [10] (oc h) (oc q) ∧ q.1 = h.1
  | 0, a0, h, q, p, R, hf => by cases hf
  | k + 1, a0, h, q, p, R, hf => by
    replace hf : F_X12_letters_4_b n (F_X12_letters_4 n k) a0 h = some q := hf
    unfold F_X12_letters_4_b at hf
    obtain ⟨M, b11, bL, b6, b10, bp⟩ := id R
    obtain ⟨s1, s2, s3, s4, s5, s8, s15, s17, s19, s20, s21⟩ := id M
    replace hf := jbind hf
    obtain ⟨v9, e1, hf⟩ := hf
    replace e1 := (jcv_o e1).2
    have r1 := E_X12_isAt R e1
    replace hf := jite hf
    rcases hf with ⟨c2, hf⟩ | ⟨c2, hf⟩
    · skip
      cases hf
      -- leaf 0: h
      rcases r1 with ⟨y, -⟩ | ⟨-, y⟩
      · exact absurd (c2.symm.trans y) (by decide)
      exact ⟨p, row_0 y, R, frM_rfl, rfl⟩
    · skip
      replace hf := jbind hf
      obtain ⟨v17, e3, hf⟩ := hf
      have r3 := oc_gI e3
      subst r3
      clear e3
      replace hf := jbind hf
      obtain ⟨h22, e4, hf⟩ := hf
      obtain ⟨o4, z4⟩ := oc_pf e4
      clear e4
      -- leaf 1: rc4 a0 h22
      rcases r1 with ⟨-, y⟩ | ⟨y, -⟩
      rotate_left
      · exact absurd y c2
      have hp : p < L := y.1
      rw [b10, nI_1] at o4
      have R4 : rb (oc h22) a0 b L (p + 1) := by rw [o4]; exact rb_pt R (by omega)
      have f4 : frM a0 [] [10] (oc h) (oc h22) := by rw [o4]; exact frM_f (by decide)
      obtain ⟨j, j1, j2, j4, j5⟩ := E_X12_letters_4 k (p + 1) R4 hf
      exact ⟨j, row_s y j1, j2, frM_tr f4 j4, j5.trans z4⟩
theorem E_X12_letters {b : Nat → Int32} {L : Nat} {p : Nat} {n : Nat} {a0 : Nat} {h : jH} {q : jH} (R : rb (oc h) a0 b L p) (hf : F_X12_letters n a0 h = some q) : ∃ s e, isRow (bIn b L 32 32) p s ∧ isRow (bIn b L 97 122) s e ∧ rb (oc q) a0 b L e ∧ oi (oc q) a0 12 = nI s ∧ frM a0 [] [10, 12] (oc h) (oc q) ∧ q.1 = h.1 := by
  unfold F_X12_letters at hf
  replace hf := jbind hf
  obtain ⟨h1, e1, hf⟩ := hf
  replace e1 := (jcv_o e1).2
  obtain ⟨s1, t1, R1, g1, f1, z1⟩ := E_X12_blanks R e1
  -- leaf : F_X12_letters_4 n n a0 h1
  obtain ⟨j, j1, j2, j4, j5⟩ := E_X12_letters_4 n s1 R1 hf
  exact ⟨s1, j, t1, j1, j2, (frM_oi j4 (by decide) (by decide)).trans g1, frM_tr f1 (frM_le j4 (by decide) (by decide)), j5.trans z1⟩
