/-! the tape's bytes -/
def byt (v : Int32) (k : Nat) : Int32 := jnar 1 ((jushr v (nI (24 - 8 * k))).toInt8.toInt32)
theorem by8 {v : Int32} {s : Nat} (hs : s ≤ 24) : (v >>> (nI s &&& 31)).toInt8 = (jushr v (nI s)).toInt8 := by
  apply Int8.toBitVec_inj.mp
  show (v >>> (nI s &&& 31)).toBitVec.signExtend 8 = (jushr v (nI s)).toBitVec.signExtend 8
  refine BitVec.eq_of_getLsbD_eq fun i hi => ?_
  rw [BitVec.getLsbD_signExtend, BitVec.getLsbD_signExtend]
  have a : bt (v >>> (nI s &&& 31)) i = if s + i < 32 then bt v (s + i) else bt v 31 := b_sshr s (by omega) v (by omega)
  have b : bt (jushr v (nI s)) i = bt v (s + i) := b_ushr s (by omega) v i
  rw [if_pos (by omega)] at a
  have c : (v >>> (nI s &&& 31)).toBitVec.getLsbD i = (jushr v (nI s)).toBitVec.getLsbD i := a.trans b.symm
  rw [c]
  simp [show i < 32 by omega]
/-- 24, 16, 8, 0 -/
theorem sh_n {x : Int32} {j : Nat} (h : x.toInt = 24 - 8 * (j : Int)) (hj : j < 4) : x = nI (24 - 8 * j) := nI_k (by omega)
def tpS (O : jO) (T : Nat) : Prop := O T 0 = .ref (T + 1) ∧ O T 1 = .ref (T + 2) ∧ O T 2 = .ref (T + 3) ∧ O T 3 = .ref (T + 4)
def ar5 (a b c d e : Int32) (k : Nat) : Int32 := if k = 0 then a else if k = 1 then b else if k = 2 then c else if k = 3 then d else e
theorem E_X10_put_3 {n : Nat} : ∀ (k : Nat) {a0 : Nat} {x1 : Int32} {x2 : Int32} {h : jH} {q : jH} (L : Nat) (j : Nat) (S : tpS (oc h) a0) (h6 : oi (oc h) a0 6 = nI L) (hj : j ≤ 4) (hL : L + (4 - j) ≤ 400) (hx : x2.toInt = 24 - 8 * (j : Int)), F_X10_put_3 n k a0 x1 x2 h = some q → oi (oc q) a0 6 = nI (L + (4 - j)) ∧ (∀ i, oi (oc q) (a0 + 1) i = if L ≤ i ∧ i < L + (4 - j) then byt x1 (j + (i - L)) else oi (oc h) (a0 + 1) i) ∧ (∀ a k, a ≠ a0 + 1 → ¬ (a = a0 ∧ k = 6) → oc q a k = oc h a k) ∧ q.1 = h.1
  | 0, a0, x1, x2, h, q, L, j, S, h6, hj, hL, hx, hf => by cases hf
  | k + 1, a0, x1, x2, h, q, L, j, S, h6, hj, hL, hx, hf => by
    replace hf : F_X10_put_3_b n (F_X10_put_3 n k) a0 x1 x2 h = some q := hf
    unfold F_X10_put_3_b at hf
    obtain ⟨p0, p1, p2, p3⟩ := id S
    have l0 : (0 : Int32).toInt = 0 := rfl
    have lm : (-8 : Int32).toInt = -8 := rfl
    replace hf := jite hf
    rcases hf with ⟨c1, hf⟩ | ⟨c1, hf⟩
    · skip
      cases hf
      -- leaf 0: h
      rw [Int32.lt_iff_toInt_lt] at c1
      have j4 : j = 4 := by omega
      subst j4
      exact ⟨h6, fun i => by rw [if_neg (by omega)], fun a k _ _ => rfl, rfl⟩
    · skip
      replace hf := jbind hf
      obtain ⟨v8, e2, hf⟩ := hf
      have r2 := oc_gI e2
      subst r2
      clear e2
      replace hf := jite hf
      rcases hf with ⟨c3, hf⟩ | ⟨c3, hf⟩
      · skip
        cases hf
        -- leaf 10: h
        rw [Int32.lt_iff_toInt_lt] at c1
        rw [h6, Int32.le_iff_toInt_le, nI_toInt (by omega), show (400 : Int32).toInt = 400 from rfl] at c3
        omega
      · skip
        replace hf := jbind hf
        obtain ⟨p18, e4, hf⟩ := hf
        have r4 := oc_gR e4
        rw [p0] at r4
        cases r4
        clear e4
        replace hf := jbind hf
        obtain ⟨v22, e5, hf⟩ := hf
        have r5 := oc_gI e5
        subst r5
        clear e5
        replace hf := jbind hf
        obtain ⟨h29, e6, hf⟩ := hf
        obtain ⟨o6, z6, y6⟩ := oc_as e6
        clear e6
        replace hf := jbind hf
        obtain ⟨v32, e7, hf⟩ := hf
        have r7 := oc_gI e7
        rw [o6] at r7
        rw [oi_ne (Or.inl (by omega))] at r7
        subst r7
        clear e7
        replace hf := jbind hf
        obtain ⟨h37, e8, hf⟩ := hf
        obtain ⟨o8, z8⟩ := oc_pf e8
        clear e8
        -- leaf 11: rc3 a0 x1 (x2 + (- 8 : Int32)) h37
        rw [Int32.lt_iff_toInt_lt] at c1
        have j4 : j < 4 := by omega
        rw [sh_n hx j4, h6, nI_cl (by omega)] at o6
        rw [h6, nI_1] at o8
        have fz : ∀ a k, a ≠ a0 + 1 → ¬ (a = a0 ∧ k = 6) → oc h37 a k = oc h a k := fun a k u w => by rw [o8, u2_ne (by omega), o6, u2_ne (by omega)]
        have S2 : tpS (oc h37) a0 := ⟨(fz _ _ (by omega) (by omega)).trans p0, (fz _ _ (by omega) (by omega)).trans p1, (fz _ _ (by omega) (by omega)).trans p2, (fz _ _ (by omega) (by omega)).trans p3⟩
        obtain ⟨b1, b2, b3, b4⟩ := E_X10_put_3 k (L + 1) (j + 1) S2 (by rw [o8, oi_eq]) (by omega) (by omega) (by rw [jadd (by omega) (by omega)]; omega) hf
        refine ⟨by rw [b1]; congr 1; omega, fun i => ?_, fun a k u w => (b3 a k u w).trans (fz a k u w), b4.trans (z8.trans z6)⟩
        rw [b2 i]
        by_cases y : i = L
        · subst y
          rw [if_neg (by omega), if_pos (by omega), o8, oi_ne (Or.inl (by omega)), o6, oi_eq, show j + (i - i) = j by omega]
          rfl
        · by_cases w : L ≤ i ∧ i < L + (4 - j)
          · rw [if_pos (by omega), if_pos w, show j + 1 + (i - (L + 1)) = j + (i - L) by omega]
          · rw [if_neg (by omega), if_neg w, o8, oi_ne (Or.inl (by omega)), o6, oi_ne (Or.inr y)]
theorem E_X10_put {L : Nat} {n : Nat} {a0 : Nat} {x1 : Int32} {h : jH} {q : jH} (S : tpS (oc h) a0) (h6 : oi (oc h) a0 6 = nI L) (hL : L + 4 ≤ 400) (hf : F_X10_put n a0 x1 h = some q) : oi (oc q) a0 6 = nI (L + 4) ∧ (∀ i, oi (oc q) (a0 + 1) i = if L ≤ i ∧ i < L + 4 then byt x1 (i - L) else oi (oc h) (a0 + 1) i) ∧ (∀ a k, a ≠ a0 + 1 → ¬ (a = a0 ∧ k = 6) → oc q a k = oc h a k) ∧ q.1 = h.1 := by
  unfold F_X10_put at hf
  -- leaf : F_X10_put_3 n n a0 x1 (24 : Int32) h
  obtain ⟨b1, b2, b3, b4⟩ := E_X10_put_3 n L 0 S h6 (by omega) (by omega) (by decide) hf
  refine ⟨b1, fun i => ?_, b3, b4⟩
  rw [b2 i]
  by_cases w : L ≤ i ∧ i < L + 4
  · rw [if_pos (by omega), if_pos w, show 0 + (i - L) = i - L by omega]
  · rw [if_neg (by omega), if_neg w]
theorem E_X10_hasRoom {L : Nat} {n : Nat} {a0 : Nat} {h : jH} {q : Int32} (h6 : oi (oc h) a0 6 = nI L) (hL : L ≤ 400) (hf : F_X10_hasRoom n a0 h = some q) : (q = 0 ∨ q = 1) ∧ (q = 1 ↔ L ≤ 380) := by
  unfold F_X10_hasRoom at hf
  replace hf := jbind hf
  obtain ⟨v1, e1, hf⟩ := hf
  have r1 := oc_gI e1
  subst r1
  clear e1
  replace hf := jite hf
  rcases hf with ⟨c2, hf⟩ | ⟨c2, hf⟩
  · skip
    cases hf
    -- leaf 0: (0 : Int32)
    have e : nI L + (20 : Int32) = nI (L + 20) := nI_add L 20
    rw [h6, e, Int32.lt_iff_toInt_lt, nI_toInt (by omega), show (400 : Int32).toInt = 400 from rfl] at c2
    exact ⟨Or.inl rfl, fun z => absurd z (by decide), fun z => by omega⟩
  · skip
    cases hf
    -- leaf 1: (1 : Int32)
    have e : nI L + (20 : Int32) = nI (L + 20) := nI_add L 20
    rw [h6, e, Int32.lt_iff_toInt_lt, nI_toInt (by omega), show (400 : Int32).toInt = 400 from rfl] at c2
    exact ⟨Or.inr rfl, fun _ => by omega, fun _ => rfl⟩
