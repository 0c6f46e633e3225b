/-! the tape's bytes -/
def byt (v : Int32) (k : Nat) : Int32 := jnar 1 ((jushr v (nI (24 - 8 * k))).toInt8.toInt32)
theorem by8 {v : Int32} {s : Nat} (hs : s ≤ 24) : (v >>> (nI s &&& 31)).toInt8 = (jushr v (nI s)).toInt8 := by
  apply Int8.toBitVec_inj.mp
  show (v >>> (nI s &&& 31)).toBitVec.signExtend 8 = (jushr v (nI s)).toBitVec.signExtend 8
  refine BitVec.eq_of_getLsbD_eq fun i hi => ?_
  rw [BitVec.getLsbD_signExtend, BitVec.getLsbD_signExtend]
  have a : bt (v >>> (nI s &&& 31)) i = if s + i < 32 then bt v (s + i) else bt v 31 := b_sshr s (by omega) v (by omega)
  have b : bt (jushr v (nI s)) i = bt v (s + i) := b_ushr s (by omega) v i
  rw [if_pos (by omega)] at a
  have c : (v >>> (nI s &&& 31)).toBitVec.getLsbD i = (jushr v (nI s)).toBitVec.getLsbD i := a.trans b.symm
  rw [c]
  simp [show i < 32 by omega]
/-- 24, 16, 8, 0 -/
theorem sh_n {x : Int32} {j : Nat} (h : x.toInt = 24 - 8 * (j : Int)) (hj : j < 4) : x = nI (24 - 8 * j) := nI_k (by omega)
def tpS (O : jO) (T : Nat) : Prop := O T 0 = .ref (T + 1) ∧ O T 1 = .ref (T + 2) ∧ O T 2 = .ref (T + 3) ∧ O T 3 = .ref (T + 4)
def ar5 (a b c d e : Int32) (k : Nat) : Int32 := if k = 0 then a else if k = 1 then b else if k = 2 then c else if k = 3 then d else e
theorem div4 {t : Nat} (ht : t < 100) : nI t / (4 : Int32) = nI (t / 4) := by
  apply nI_k
  rw [jdivL (by rw [nI_toInt (by omega)]; omega) (show (4 : Int32).toInt = 4 from rfl) (by decide), nI_toInt (by omega)]
  omega
theorem sh24 {t : Nat} (ht : t < 100) : (24 : Int32) - ((8 : Int32) * (nI t - nI t / (4 : Int32) * (4 : Int32))) = nI (24 - 8 * (t % 4)) := by
  rw [div4 ht]
  have e1 : nI (t / 4) * (4 : Int32) = nI (t / 4 * 4) := nI_mul _ 4
  have e2 : nI t - nI (t / 4 * 4) = nI (t % 4) := nI_k (by rw [jsub (by rw [nI_toInt (by omega), nI_toInt (by omega)]; omega) (by rw [nI_toInt (by omega), nI_toInt (by omega)]; omega), nI_toInt (by omega), nI_toInt (by omega)]; omega)
  have e3 : (8 : Int32) * nI (t % 4) = nI (8 * (t % 4)) := nI_mul 8 _
  rw [e1, e2, e3]
  have l24 : (24 : Int32).toInt = 24 := rfl
  exact nI_k (by rw [jsub (by rw [nI_toInt (by omega)]; omega) (by rw [nI_toInt (by omega)]; omega), nI_toInt (by omega)]; omega)
theorem E_X10_put_3 {n : Nat} : ∀ (k : Nat) {a0 : Nat} {x1 : Int32} {x2 : Int32} {h : jH} {q : jH} (L : Nat) (j : Nat) (S : tpS (oc h) a0) (h6 : oi (oc h) a0 6 = nI L) (hj : j ≤ 4) (hL : L + (4 - j) ≤ 400) (hx : x2.toInt = 24 - 8 * (j : Int)), F_X10_put_3 n k a0 x1 x2 h = some q → oi (oc q) a0 6 = nI (L + (4 - j)) ∧ (∀ i, oi (oc q) (a0 + 1) i = if L ≤ i ∧ i < L + (4 - j) then byt x1 (j + (i - L)) else oi (oc h) (a0 + 1) i) ∧ (∀ a k, a ≠ a0 + 1 → ¬ (a = a0 ∧ k = 6) → oc q a k = oc h a k) ∧ q.1 = h.1
  | 0, a0, x1, x2, h, q, L, j, S, h6, hj, hL, hx, hf => by cases hf
  | k + 1, a0, x1, x2, h, q, L, j, S, h6, hj, hL, hx, hf => by
    replace hf : F_X10_put_3_b n (F_X10_put_3 n k) a0 x1 x2 h = some q := hf
    unfold F_X10_put_3_b at hf
    obtain ⟨p0, p1, p2, p3⟩ := id S
    have l0 : (0 : Int32).toInt = 0 := rfl
    have lm : (-8 : Int32).toInt = -8 := rfl
    replace hf := jite hf
    rcases hf with ⟨c1, hf⟩ | ⟨c1, hf⟩
    · skip
      cases hf
      -- leaf 0: h
      rw [Int32.lt_iff_toInt_lt] at c1
      have j4 : j = 4 := by omega
      subst j4
      exact ⟨h6, fun i => by rw [if_neg (by omega)], fun a k _ _ => rfl, rfl⟩
    · skip
      replace hf := jbind hf
      obtain ⟨v8, e2, hf⟩ := hf
      have r2 := oc_gI e2
      subst r2
      clear e2
      replace hf := jite hf
      rcases hf with ⟨c3, hf⟩ | ⟨c3, hf⟩
      · skip
        cases hf
        -- leaf 10: h
        rw [Int32.lt_iff_toInt_lt] at c1
        rw [h6, Int32.le_iff_toInt_le, nI_toInt (by omega), show (400 : Int32).toInt = 400 from rfl] at c3
        omega
      · skip
        replace hf := jbind hf
        obtain ⟨p18, e4, hf⟩ := hf
        have r4 := oc_gR e4
        rw [p0] at r4
        cases r4
        clear e4
        replace hf := jbind hf
        obtain ⟨v22, e5, hf⟩ := hf
        have r5 := oc_gI e5
        subst r5
        clear e5
        replace hf := jbind hf
        obtain ⟨h29, e6, hf⟩ := hf
        obtain ⟨o6, z6, y6⟩ := oc_as e6
        clear e6
        replace hf := jbind hf
        obtain ⟨v32, e7, hf⟩ := hf
        have r7 := oc_gI e7
        rw [o6] at r7
        rw [oi_ne (Or.inl (by omega))] at r7
        subst r7
        clear e7
        replace hf := jbind hf
        obtain ⟨h37, e8, hf⟩ := hf
        obtain ⟨o8, z8⟩ := oc_pf e8
        clear e8
        -- leaf 11: rc3 a0 x1 (x2 + (- 8 : Int32)) h37
        rw [Int32.lt_iff_toInt_lt] at c1
        have j4 : j < 4 := by omega
        rw [sh_n hx j4, h6, nI_cl (by omega)] at o6
        rw [h6, nI_1] at o8
        have fz : ∀ a k, a ≠ a0 + 1 → ¬ (a = a0 ∧ k = 6) → oc h37 a k = oc h a k := fun a k u w => by rw [o8, u2_ne (by omega), o6, u2_ne (by omega)]
        have S2 : tpS (oc h37) a0 := ⟨(fz _ _ (by omega) (by omega)).trans p0, (fz _ _ (by omega) (by omega)).trans p1, (fz _ _ (by omega) (by omega)).trans p2, (fz _ _ (by omega) (by omega)).trans p3⟩
        obtain ⟨b1, b2, b3, b4⟩ := E_X10_put_3 k (L + 1) (j + 1) S2 (by rw [o8, oi_eq]) (by omega) (by omega) (by rw [jadd (by omega) (by omega)]; omega) hf
        refine ⟨by rw [b1]; congr 1; omega, fun i => ?_, fun a k u w => (b3 a k u w).trans (fz a k u w), b4.trans (z8.trans z6)⟩
        rw [b2 i]
        by_cases y : i = L
        · subst y
          rw [if_neg (by omega), if_pos (by omega), o8, oi_ne (Or.inl (by omega)), o6, oi_eq, show j + (i - i) = j by omega]
          rfl
        · by_cases w : L ≤ i ∧ i < L + (4 - j)
          · rw [if_pos (by omega), if_pos w, show j + 1 + (i - (L + 1)) = j + (i - L) by omega]
          · rw [if_neg (by omega), if_neg w, o8, oi_ne (Or.inl (by omega)), o6, oi_ne (Or.inr y)]
theorem E_X10_put {L : Nat} {n : Nat} {a0 : Nat} {x1 : Int32} {h : jH} {q : jH} (S : tpS (oc h) a0) (h6 : oi (oc h) a0 6 = nI L) (hL : L + 4 ≤ 400) (hf : F_X10_put n a0 x1 h = some q) : oi (oc q) a0 6 = nI (L + 4) ∧ (∀ i, oi (oc q) (a0 + 1) i = if L ≤ i ∧ i < L + 4 then byt x1 (i - L) else oi (oc h) (a0 + 1) i) ∧ (∀ a k, a ≠ a0 + 1 → ¬ (a = a0 ∧ k = 6) → oc q a k = oc h a k) ∧ q.1 = h.1 := by
  unfold F_X10_put at hf
  -- leaf : F_X10_put_3 n n a0 x1 (24 : Int32) h
  obtain ⟨b1, b2, b3, b4⟩ := E_X10_put_3 n L 0 S h6 (by omega) (by omega) (by decide) hf
  refine ⟨b1, fun i => ?_, b3, b4⟩
  rw [b2 i]
  by_cases w : L ≤ i ∧ i < L + 4
  · rw [if_pos (by omega), if_pos w, show 0 + (i - L) = i - L by omega]
  · rw [if_neg (by omega), if_neg w]
theorem E_X10_hasRoom {L : Nat} {n : Nat} {a0 : Nat} {h : jH} {q : Int32} (h6 : oi (oc h) a0 6 = nI L) (hL : L ≤ 400) (hf : F_X10_hasRoom n a0 h = some q) : (q = 0 ∨ q = 1) ∧ (q = 1 ↔ L ≤ 380) := by
  unfold F_X10_hasRoom at hf
  replace hf := jbind hf
  obtain ⟨v1, e1, hf⟩ := hf
  have r1 := oc_gI e1
  subst r1
  clear e1
  replace hf := jite hf
  rcases hf with ⟨c2, hf⟩ | ⟨c2, hf⟩
  · skip
    cases hf
    -- leaf 0: (0 : Int32)
    have e : nI L + (20 : Int32) = nI (L + 20) := nI_add L 20
    rw [h6, e, Int32.lt_iff_toInt_lt, nI_toInt (by omega), show (400 : Int32).toInt = 400 from rfl] at c2
    exact ⟨Or.inl rfl, fun z => absurd z (by decide), fun z => by omega⟩
  · skip
    cases hf
    -- leaf 1: (1 : Int32)
    have e : nI L + (20 : Int32) = nI (L + 20) := nI_add L 20
    rw [h6, e, Int32.lt_iff_toInt_lt, nI_toInt (by omega), show (400 : Int32).toInt = 400 from rfl] at c2
    exact ⟨Or.inr rfl, fun _ => by omega, fun _ => rfl⟩
theorem E_X11_feed {L : Nat} {n : Nat} {a0 : Nat} {x1 : Int32} {x2 : Int32} {x3 : Int32} {x4 : Int32} {x5 : Int32} {h : jH} {q : Int32 × jH} (x0 : oc h a0 0 = .ref (a0 + 1)) (S : tpS (oc h) (a0 + 1)) (h6 : oi (oc h) (a0 + 1) 6 = nI L) (hL : L ≤ 400) (hf : F_X11_feed n a0 x1 x2 x3 x4 x5 h = some q) : (380 < L ∧ q = (-1, h)) ∨ (L ≤ 380 ∧ q.1 = nI (L + 20) ∧ oi (oc q.2) (a0 + 1) 6 = nI (L + 20) ∧ (∀ i, oi (oc q.2) (a0 + 1 + 1) i = if L ≤ i ∧ i < L + 20 then byt (ar5 x1 x2 x3 x4 x5 ((i - L) / 4)) ((i - L) % 4) else oi (oc h) (a0 + 1 + 1) i) ∧ (∀ a k, a ≠ a0 + 1 + 1 → ¬ (a = a0 + 1 ∧ k = 6) → oc q.2 a k = oc h a k) ∧ q.2.1 = h.1) := by
  unfold F_X11_feed at hf
  replace hf := jbind hf
  obtain ⟨p1, e1, hf⟩ := hf
  have r1 := oc_gR e1
  rw [x0] at r1
  cases r1
  clear e1
  replace hf := jbind hf
  obtain ⟨v4, e2, hf⟩ := hf
  replace e2 := (jcv_o e2).2
  have r2 := E_X10_hasRoom (L := L) h6 hL e2
  replace hf := jite hf
  rcases hf with ⟨c3, hf⟩ | ⟨c3, hf⟩
  · skip
    cases hf
    -- leaf 0: ((- 1 : Int32), h)
    exact Or.inl ⟨Classical.byContradiction fun z => absurd (c3.symm.trans (r2.2.mpr (by omega))) (by decide), rfl⟩
  · skip
    replace hf := jbind hf
    obtain ⟨p13, e4, hf⟩ := hf
    have r4 := oc_gR e4
    rw [x0] at r4
    cases r4
    clear e4
    replace hf := jbind hf
    obtain ⟨h17, e5, hf⟩ := hf
    replace e5 := (jcv_o e5).2
    have L8 : L ≤ 380 := r2.2.mp (r2.1.resolve_left c3)
    obtain ⟨b10, b20, b30, b40⟩ := E_X10_put (L := L + 0) S h6 (by omega) e5
    have S0 : tpS (oc h17) (a0 + 1) := ⟨(b30 _ _ (by omega) (by omega)).trans S.1, (b30 _ _ (by omega) (by omega)).trans S.2.1, (b30 _ _ (by omega) (by omega)).trans S.2.2.1, (b30 _ _ (by omega) (by omega)).trans S.2.2.2⟩
    have h60 : oi (oc h17) (a0 + 1) 6 = nI (L + 4) := b10
    have x0 : oc h17 a0 0 = .ref (a0 + 1) := (b30 _ _ (by omega) (by omega)).trans x0
    replace hf := jbind hf
    obtain ⟨p21, e6, hf⟩ := hf
    have r6 := oc_gR e6
    rw [x0] at r6
    cases r6
    clear e6
    replace hf := jbind hf
    obtain ⟨h25, e7, hf⟩ := hf
    replace e7 := (jcv_o e7).2
    obtain ⟨b11, b21, b31, b41⟩ := E_X10_put (L := L + 4) S0 h60 (by omega) e7
    have S1 : tpS (oc h25) (a0 + 1) := ⟨(b31 _ _ (by omega) (by omega)).trans S0.1, (b31 _ _ (by omega) (by omega)).trans S0.2.1, (b31 _ _ (by omega) (by omega)).trans S0.2.2.1, (b31 _ _ (by omega) (by omega)).trans S0.2.2.2⟩
    have h61 : oi (oc h25) (a0 + 1) 6 = nI (L + 8) := b11
    have x1 : oc h25 a0 0 = .ref (a0 + 1) := (b31 _ _ (by omega) (by omega)).trans x0
    replace hf := jbind hf
    obtain ⟨p29, e8, hf⟩ := hf
    have r8 := oc_gR e8
    rw [x1] at r8
    cases r8
    clear e8
    replace hf := jbind hf
    obtain ⟨h33, e9, hf⟩ := hf
    replace e9 := (jcv_o e9).2
    obtain ⟨b12, b22, b32, b42⟩ := E_X10_put (L := L + 8) S1 h61 (by omega) e9
    have S2 : tpS (oc h33) (a0 + 1) := ⟨(b32 _ _ (by omega) (by omega)).trans S1.1, (b32 _ _ (by omega) (by omega)).trans S1.2.1, (b32 _ _ (by omega) (by omega)).trans S1.2.2.1, (b32 _ _ (by omega) (by omega)).trans S1.2.2.2⟩
    have h62 : oi (oc h33) (a0 + 1) 6 = nI (L + 12) := b12
    have x2 : oc h33 a0 0 = .ref (a0 + 1) := (b32 _ _ (by omega) (by omega)).trans x1
    replace hf := jbind hf
    obtain ⟨p37, e10, hf⟩ := hf
    have r10 := oc_gR e10
    rw [x2] at r10
    cases r10
    clear e10
    replace hf := jbind hf
    obtain ⟨h42, e11, hf⟩ := hf
    replace e11 := (jcv_o e11).2
    obtain ⟨b13, b23, b33, b43⟩ := E_X10_put (L := L + 12) S2 h62 (by omega) e11
    have S3 : tpS (oc h42) (a0 + 1) := ⟨(b33 _ _ (by omega) (by omega)).trans S2.1, (b33 _ _ (by omega) (by omega)).trans S2.2.1, (b33 _ _ (by omega) (by omega)).trans S2.2.2.1, (b33 _ _ (by omega) (by omega)).trans S2.2.2.2⟩
    have h63 : oi (oc h42) (a0 + 1) 6 = nI (L + 16) := b13
    have x3 : oc h42 a0 0 = .ref (a0 + 1) := (b33 _ _ (by omega) (by omega)).trans x2
    replace hf := jbind hf
    obtain ⟨p46, e12, hf⟩ := hf
    have r12 := oc_gR e12
    rw [x3] at r12
    cases r12
    clear e12
    replace hf := jbind hf
    obtain ⟨h51, e13, hf⟩ := hf
    replace e13 := (jcv_o e13).2
    obtain ⟨b14, b24, b34, b44⟩ := E_X10_put (L := L + 16) S3 h63 (by omega) e13
    have S4 : tpS (oc h51) (a0 + 1) := ⟨(b34 _ _ (by omega) (by omega)).trans S3.1, (b34 _ _ (by omega) (by omega)).trans S3.2.1, (b34 _ _ (by omega) (by omega)).trans S3.2.2.1, (b34 _ _ (by omega) (by omega)).trans S3.2.2.2⟩
    have h64 : oi (oc h51) (a0 + 1) 6 = nI (L + 20) := b14
    have x4 : oc h51 a0 0 = .ref (a0 + 1) := (b34 _ _ (by omega) (by omega)).trans x3
    replace hf := jbind hf
    obtain ⟨p55, e14, hf⟩ := hf
    have r14 := oc_gR e14
    rw [x4] at r14
    cases r14
    clear e14
    replace hf := jbind hf
    obtain ⟨v58, e15, hf⟩ := hf
    have r15 := oc_gI e15
    subst r15
    clear e15
    cases hf
    -- leaf 1: (v58, h51)
    refine Or.inr ⟨L8, h64, h64, fun i => ?_, fun a k u w => ?_, b44.trans (b43.trans (b42.trans (b41.trans b40)))⟩
    · rw [b24 i]
      by_cases y4 : L + 16 ≤ i ∧ i < L + 16 + 4
      · rw [if_pos y4, if_pos (by omega)]; rw [show (i - L) / 4 = 4 by omega, show (i - L) % 4 = i - (L + 16) by omega]; rfl
      rw [if_neg y4, b23 i]
      by_cases y3 : L + 12 ≤ i ∧ i < L + 12 + 4
      · rw [if_pos y3, if_pos (by omega)]; rw [show (i - L) / 4 = 3 by omega, show (i - L) % 4 = i - (L + 12) by omega]; rfl
      rw [if_neg y3, b22 i]
      by_cases y2 : L + 8 ≤ i ∧ i < L + 8 + 4
      · rw [if_pos y2, if_pos (by omega)]; rw [show (i - L) / 4 = 2 by omega, show (i - L) % 4 = i - (L + 8) by omega]; rfl
      rw [if_neg y2, b21 i]
      by_cases y1 : L + 4 ≤ i ∧ i < L + 4 + 4
      · rw [if_pos y1, if_pos (by omega)]; rw [show (i - L) / 4 = 1 by omega, show (i - L) % 4 = i - (L + 4) by omega]; rfl
      rw [if_neg y1, b20 i]
      by_cases y0 : L + 0 ≤ i ∧ i < L + 0 + 4
      · rw [if_pos y0, if_pos (by omega)]; rw [show (i - L) / 4 = 0 by omega, show (i - L) % 4 = i - (L + 0) by omega]; rfl
      rw [if_neg y0, if_neg (by omega)]
    · rw [b34 a k u w, b33 a k u w, b32 a k u w, b31 a k u w, b30 a k u w]
