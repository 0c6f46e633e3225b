/-! the tape's bytes -/
def byt (v : Int32) (k : Nat) : Int32 := jnar 1 ((jushr v (nI (24 - 8 * k))).toInt8.toInt32)
theorem by8 {v : Int32} {s : Nat} (hs : s ≤ 24) : (v >>> (nI s &&& 31)).toInt8 = (jushr v (nI s)).toInt8 := by
  apply Int8.toBitVec_inj.mp
  show (v >>> (nI s &&& 31)).toBitVec.signExtend 8 = (jushr v (nI s)).toBitVec.signExtend 8
  refine BitVec.eq_of_getLsbD_eq fun i hi => ?_
  rw [BitVec.getLsbD_signExtend, BitVec.getLsbD_signExtend]
  have a : bt (v >>> (nI s &&& 31)) i = if s + i < 32 then bt v (s + i) else bt v 31 := b_sshr s (by omega) v (by omega)
  have b : bt (jushr v (nI s)) i = bt v (s + i) := b_ushr s (by omega) v i
  rw [if_pos (by omega)] at a
  have c : (v >>> (nI s &&& 31)).toBitVec.getLsbD i = (jushr v (nI s)).toBitVec.getLsbD i := a.trans b.symm
  rw [c]
  simp [show i < 32 by omega]
/-- 24, 16, 8, 0 -/
theorem sh_n {x : Int32} {j : Nat} (h : x.toInt = 24 - 8 * (j : Int)) (hj : j < 4) : x = nI (24 - 8 * j) := nI_k (by omega)
def tpS (O : jO) (T : Nat) : Prop := O T 0 = .ref (T + 1) ∧ O T 1 = .ref (T + 2) ∧ O T 2 = .ref (T + 3) ∧ O T 3 = .ref (T + 4)
def ar5 (a b c d e : Int32) (k : Nat) : Int32 := if k = 0 then a else if k = 1 then b else if k = 2 then c else if k = 3 then d else e
theorem div4 {t : Nat} (ht : t < 100) : nI t / (4 : Int32) = nI (t / 4) := by
  apply nI_k
  rw [jdivL (by rw [nI_toInt (by omega)]; omega) (show (4 : Int32).toInt = 4 from rfl) (by decide), nI_toInt (by omega)]
  omega
theorem sh24 {t : Nat} (ht : t < 100) : (24 : Int32) - ((8 : Int32) * (nI t - nI t / (4 : Int32) * (4 : Int32))) = nI (24 - 8 * (t % 4)) := by
  rw [div4 ht]
  have e1 : nI (t / 4) * (4 : Int32) = nI (t / 4 * 4) := nI_mul _ 4
  have e2 : nI t - nI (t / 4 * 4) = nI (t % 4) := nI_k (by rw [jsub (by rw [nI_toInt (by omega), nI_toInt (by omega)]; omega) (by rw [nI_toInt (by omega), nI_toInt (by omega)]; omega), nI_toInt (by omega), nI_toInt (by omega)]; omega)
  have e3 : (8 : Int32) * nI (t % 4) = nI (8 * (t % 4)) := nI_mul 8 _
  rw [e1, e2, e3]
  have l24 : (24 : Int32).toInt = 24 := rfl
  exact nI_k (by rw [jsub (by rw [nI_toInt (by omega)]; omega) (by rw [nI_toInt (by omega)]; omega), nI_toInt (by omega)]; omega)
theorem E_X10_put_3 {n : Nat} : ∀ (k : Nat) {a0 : Nat} {x1 : Int32} {x2 : Int32} {h : jH} {q : jH} (L : Nat) (j : Nat) (S : tpS (oc h) a0) (h6 : oi (oc h) a0 6 = nI L) (hj : j ≤ 4) (hL : L + (4 - j) ≤ 400) (hx : x2.toInt = 24 - 8 * (j : Int)), F_X10_put_3 n k a0 x1 x2 h = some q → oi (oc q) a0 6 = nI (L + (4 - j)) ∧ (∀ i, oi (oc q) (a0 + 1) i = if L ≤ i ∧ i < L + (4 - j) then byt x1 (j + (i - L)) else oi (oc h) (a0 + 1) i) ∧ (∀ a k, a ≠ a0 + 1 → ¬ (a = a0 ∧ k = 6) → oc q a k = oc h a k) ∧ q.1 = h.1
  | 0, a0, x1, x2, h, q, L, j, S, h6, hj, hL, hx, hf => by cases hf
  | k + 1, a0, x1, x2, h, q, L, j, S, h6, hj, hL, hx, hf => by
    replace hf : F_X10_put_3_b n (F_X10_put_3 n k) a0 x1 x2 h = some q := hf
    unfold F_X10_put_3_b at hf
    obtain ⟨p0, p1, p2, p3⟩ := id S
    have l0 : (0 : Int32).toInt = 0 := rfl
    have lm : (-8 : Int32).toInt = -8 := rfl
    replace hf := jite hf
    rcases hf with ⟨c1, hf⟩ | ⟨c1, hf⟩
    · skip
      cases hf
      -- leaf 0: h
      rw [Int32.lt_iff_toInt_lt] at c1
      have j4 : j = 4 := by omega
      subst j4
      exact ⟨h6, fun i => by rw [if_neg (by omega)], fun a k _ _ => rfl, rfl⟩
    · skip
      replace hf := jbind hf
      obtain ⟨v8, e2, hf⟩ := hf
      have r2 := oc_gI e2
      subst r2
      clear e2
      replace hf := jite hf
      rcases hf with ⟨c3, hf⟩ | ⟨c3, hf⟩
      · skip
        cases hf
        -- leaf 10: h
        rw [Int32.lt_iff_toInt_lt] at c1
        rw [h6, Int32.le_iff_toInt_le, nI_toInt (by omega), show (400 : Int32).toInt = 400 from rfl] at c3
        omega
      · skip
        replace hf := jbind hf
        obtain ⟨p18, e4, hf⟩ := hf
        have r4 := oc_gR e4
        rw [p0] at r4
        cases r4
        clear e4
        replace hf := jbind hf
        obtain ⟨v22, e5, hf⟩ := hf
        have r5 := oc_gI e5
        subst r5
        clear e5
        replace hf := jbind hf
        obtain ⟨h29, e6, hf⟩ := hf
        obtain ⟨o6, z6, y6⟩ := oc_as e6
        clear e6
        replace hf := jbind hf
        obtain ⟨v32, e7, hf⟩ := hf
        have r7 := oc_gI e7
        rw [o6] at r7
        rw [oi_ne (Or.inl (by omega))] at r7
        subst r7
        clear e7
        replace hf := jbind hf
        obtain ⟨h37, e8, hf⟩ := hf
        obtain ⟨o8, z8⟩ := oc_pf e8
        clear e8
        -- leaf 11: rc3 a0 x1 (x2 + (- 8 : Int32)) h37
        rw [Int32.lt_iff_toInt_lt] at c1
        have j4 : j < 4 := by omega
        rw [sh_n hx j4, h6, nI_cl (by omega)] at o6
        rw [h6, nI_1] at o8
        have fz : ∀ a k, a ≠ a0 + 1 → ¬ (a = a0 ∧ k = 6) → oc h37 a k = oc h a k := fun a k u w => by rw [o8, u2_ne (by omega), o6, u2_ne (by omega)]
        have S2 : tpS (oc h37) a0 := ⟨(fz _ _ (by omega) (by omega)).trans p0, (fz _ _ (by omega) (by omega)).trans p1, (fz _ _ (by omega) (by omega)).trans p2, (fz _ _ (by omega) (by omega)).trans p3⟩
        obtain ⟨b1, b2, b3, b4⟩ := E_X10_put_3 k (L + 1) (j + 1) S2 (by rw [o8, oi_eq]) (by omega) (by omega) (by rw [jadd (by omega) (by omega)]; omega) hf
        refine ⟨by rw [b1]; congr 1; omega, fun i => ?_, fun a k u w => (b3 a k u w).trans (fz a k u w), b4.trans (z8.trans z6)⟩
        rw [b2 i]
        by_cases y : i = L
        · subst y
          rw [if_neg (by omega), if_pos (by omega), o8, oi_ne (Or.inl (by omega)), o6, oi_eq, show j + (i - i) = j by omega]
          rfl
        · by_cases w : L ≤ i ∧ i < L + (4 - j)
          · rw [if_pos (by omega), if_pos w, show j + 1 + (i - (L + 1)) = j + (i - L) by omega]
          · rw [if_neg (by omega), if_neg w, o8, oi_ne (Or.inl (by omega)), o6, oi_ne (Or.inr y)]
theorem E_X10_put {L : Nat} {n : Nat} {a0 : Nat} {x1 : Int32} {h : jH} {q : jH} (S : tpS (oc h) a0) (h6 : oi (oc h) a0 6 = nI L) (hL : L + 4 ≤ 400) (hf : F_X10_put n a0 x1 h = some q) : oi (oc q) a0 6 = nI (L + 4) ∧ (∀ i, oi (oc q) (a0 + 1) i = if L ≤ i ∧ i < L + 4 then byt x1 (i - L) else oi (oc h) (a0 + 1) i) ∧ (∀ a k, a ≠ a0 + 1 → ¬ (a = a0 ∧ k = 6) → oc q a k = oc h a k) ∧ q.1 = h.1 := by
  unfold F_X10_put at hf
  -- leaf : F_X10_put_3 n n a0 x1 (24 : Int32) h
  obtain ⟨b1, b2, b3, b4⟩ := E_X10_put_3 n L 0 S h6 (by omega) (by omega) (by decide) hf
  refine ⟨b1, fun i => ?_, b3, b4⟩
  rw [b2 i]
  by_cases w : L ≤ i ∧ i < L + 4
  · rw [if_pos (by omega), if_pos w, show 0 + (i - L) = i - L by omega]
  · rw [if_neg (by omega), if_neg w]
theorem E_X10_hasRoom {L : Nat} {n : Nat} {a0 : Nat} {h : jH} {q : Int32} (h6 : oi (oc h) a0 6 = nI L) (hL : L ≤ 400) (hf : F_X10_hasRoom n a0 h = some q) : (q = 0 ∨ q = 1) ∧ (q = 1 ↔ L ≤ 380) := by
  unfold F_X10_hasRoom at hf
  replace hf := jbind hf
  obtain ⟨v1, e1, hf⟩ := hf
  have r1 := oc_gI e1
  subst r1
  clear e1
  replace hf := jite hf
  rcases hf with ⟨c2, hf⟩ | ⟨c2, hf⟩
  · skip
    cases hf
    -- leaf 0: (0 : Int32)
    have e : nI L + (20 : Int32) = nI (L + 20) := nI_add L 20
    rw [h6, e, Int32.lt_iff_toInt_lt, nI_toInt (by omega), show (400 : Int32).toInt = 400 from rfl] at c2
    exact ⟨Or.inl rfl, fun z => absurd z (by decide), fun z => by omega⟩
  · skip
    cases hf
    -- leaf 1: (1 : Int32)
    have e : nI L + (20 : Int32) = nI (L + 20) := nI_add L 20
    rw [h6, e, Int32.lt_iff_toInt_lt, nI_toInt (by omega), show (400 : Int32).toInt = 400 from rfl] at c2
    exact ⟨Or.inr rfl, fun _ => by omega, fun _ => rfl⟩
theorem E_X11_feed {L : Nat} {n : Nat} {a0 : Nat} {x1 : Int32} {x2 : Int32} {x3 : Int32} {x4 : Int32} {x5 : Int32} {h : jH} {q : Int32 × jH} (x0 : oc h a0 0 = .ref (a0 + 1)) (S : tpS (oc h) (a0 + 1)) (h6 : oi (oc h) (a0 + 1) 6 = nI L) (hL : L ≤ 400) (hf : F_X11_feed n a0 x1 x2 x3 x4 x5 h = some q) : (380 < L ∧ q = (-1, h)) ∨ (L ≤ 380 ∧ q.1 = nI (L + 20) ∧ oi (oc q.2) (a0 + 1) 6 = nI (L + 20) ∧ (∀ i, oi (oc q.2) (a0 + 1 + 1) i = if L ≤ i ∧ i < L + 20 then byt (ar5 x1 x2 x3 x4 x5 ((i - L) / 4)) ((i - L) % 4) else oi (oc h) (a0 + 1 + 1) i) ∧ (∀ a k, a ≠ a0 + 1 + 1 → ¬ (a = a0 + 1 ∧ k = 6) → oc q.2 a k = oc h a k) ∧ q.2.1 = h.1) := by
  unfold F_X11_feed at hf
  replace hf := jbind hf
  obtain ⟨p1, e1, hf⟩ := hf
  have r1 := oc_gR e1
  rw [x0] at r1
  cases r1
  clear e1
  replace hf := jbind hf
  obtain ⟨v4, e2, hf⟩ := hf
  replace e2 := (jcv_o e2).2
  have r2 := E_X10_hasRoom (L := L) h6 hL e2
  replace hf := jite hf
  rcases hf with ⟨c3, hf⟩ | ⟨c3, hf⟩
  · skip
    cases hf
    -- leaf 0: ((- 1 : Int32), h)
    exact Or.inl ⟨Classical.byContradiction fun z => absurd (c3.symm.trans (r2.2.mpr (by omega))) (by decide), rfl⟩
  · skip
    replace hf := jbind hf
    obtain ⟨p13, e4, hf⟩ := hf
    have r4 := oc_gR e4
    rw [x0] at r4
    cases r4
    clear e4
    replace hf := jbind hf
    obtain ⟨h17, e5, hf⟩ := hf
    replace e5 := (jcv_o e5).2
    have L8 : L ≤ 380 := r2.2.mp (r2.1.resolve_left c3)
    obtain ⟨b10, b20, b30, b40⟩ := E_X10_put (L := L + 0) S h6 (by omega) e5
    have S0 : tpS (oc h17) (a0 + 1) := ⟨(b30 _ _ (by omega) (by omega)).trans S.1, (b30 _ _ (by omega) (by omega)).trans S.2.1, (b30 _ _ (by omega) (by omega)).trans S.2.2.1, (b30 _ _ (by omega) (by omega)).trans S.2.2.2⟩
    have h60 : oi (oc h17) (a0 + 1) 6 = nI (L + 4) := b10
    have x0 : oc h17 a0 0 = .ref (a0 + 1) := (b30 _ _ (by omega) (by omega)).trans x0
    replace hf := jbind hf
    obtain ⟨p21, e6, hf⟩ := hf
    have r6 := oc_gR e6
    rw [x0] at r6
    cases r6
    clear e6
    replace hf := jbind hf
    obtain ⟨h25, e7, hf⟩ := hf
    replace e7 := (jcv_o e7).2
    obtain ⟨b11, b21, b31, b41⟩ := E_X10_put (L := L + 4) S0 h60 (by omega) e7
    have S1 : tpS (oc h25) (a0 + 1) := ⟨(b31 _ _ (by omega) (by omega)).trans S0.1, (b31 _ _ (by omega) (by omega)).trans S0.2.1, (b31 _ _ (by omega) (by omega)).trans S0.2.2.1, (b31 _ _ (by omega) (by omega)).trans S0.2.2.2⟩
    have h61 : oi (oc h25) (a0 + 1) 6 = nI (L + 8) := b11
    have x1 : oc h25 a0 0 = .ref (a0 + 1) := (b31 _ _ (by omega) (by omega)).trans x0
    replace hf := jbind hf
    obtain ⟨p29, e8, hf⟩ := hf
    have r8 := oc_gR e8
    rw [x1] at r8
    cases r8
    clear e8
    replace hf := jbind hf
    obtain ⟨h33, e9, hf⟩ := hf
    replace e9 := (jcv_o e9).2
    obtain ⟨b12, b22, b32, b42⟩ := E_X10_put (L := L + 8) S1 h61 (by omega) e9
    have S2 : tpS (oc h33) (a0 + 1) := ⟨(b32 _ _ (by omega) (by omega)).trans S1.1, (b32 _ _ (by omega) (by omega)).trans S1.2.1, (b32 _ _ (by omega) (by omega)).trans S1.2.2.1, (b32 _ _ (by omega) (by omega)).trans S1.2.2.2⟩
    have h62 : oi (oc h33) (a0 + 1) 6 = nI (L + 12) := b12
    have x2 : oc h33 a0 0 = .ref (a0 + 1) := (b32 _ _ (by omega) (by omega)).trans x1
    replace hf := jbind hf
    obtain ⟨p37, e10, hf⟩ := hf
    have r10 := oc_gR e10
    rw [x2] at r10
    cases r10
    clear e10
    replace hf := jbind hf
    obtain ⟨h42, e11, hf⟩ := hf
    replace e11 := (jcv_o e11).2
    obtain ⟨b13, b23, b33, b43⟩ := E_X10_put (L := L + 12) S2 h62 (by omega) e11
    have S3 : tpS (oc h42) (a0 + 1) := ⟨(b33 _ _ (by omega) (by omega)).trans S2.1, (b33 _ _ (by omega) (by omega)).trans S2.2.1, (b33 _ _ (by omega) (by omega)).trans S2.2.2.1, (b33 _ _ (by omega) (by omega)).trans S2.2.2.2⟩
    have h63 : oi (oc h42) (a0 + 1) 6 = nI (L + 16) := b13
    have x3 : oc h42 a0 0 = .ref (a0 + 1) := (b33 _ _ (by omega) (by omega)).trans x2
    replace hf := jbind hf
    obtain ⟨p46, e12, hf⟩ := hf
    have r12 := oc_gR e12
    rw [x3] at r12
    cases r12
    clear e12
    replace hf := jbind hf
    obtain ⟨h51, e13, hf⟩ := hf
    replace e13 := (jcv_o e13).2
    obtain ⟨b14, b24, b34, b44⟩ := E_X10_put (L := L + 16) S3 h63 (by omega) e13
    have S4 : tpS (oc h51) (a0 + 1) := ⟨(b34 _ _ (by omega) (by omega)).trans S3.1, (b34 _ _ (by omega) (by omega)).trans S3.2.1, (b34 _ _ (by omega) (by omega)).trans S3.2.2.1, (b34 _ _ (by omega) (by omega)).trans S3.2.2.2⟩
    have h64 : oi (oc h51) (a0 + 1) 6 = nI (L + 20) := b14
    have x4 : oc h51 a0 0 = .ref (a0 + 1) := (b34 _ _ (by omega) (by omega)).trans x3
    replace hf := jbind hf
    obtain ⟨p55, e14, hf⟩ := hf
    have r14 := oc_gR e14
    rw [x4] at r14
    cases r14
    clear e14
    replace hf := jbind hf
    obtain ⟨v58, e15, hf⟩ := hf
    have r15 := oc_gI e15
    subst r15
    clear e15
    cases hf
    -- leaf 1: (v58, h51)
    refine Or.inr ⟨L8, h64, h64, fun i => ?_, fun a k u w => ?_, b44.trans (b43.trans (b42.trans (b41.trans b40)))⟩
    · rw [b24 i]
      by_cases y4 : L + 16 ≤ i ∧ i < L + 16 + 4
      · rw [if_pos y4, if_pos (by omega)]; rw [show (i - L) / 4 = 4 by omega, show (i - L) % 4 = i - (L + 16) by omega]; rfl
      rw [if_neg y4, b23 i]
      by_cases y3 : L + 12 ≤ i ∧ i < L + 12 + 4
      · rw [if_pos y3, if_pos (by omega)]; rw [show (i - L) / 4 = 3 by omega, show (i - L) % 4 = i - (L + 12) by omega]; rfl
      rw [if_neg y3, b22 i]
      by_cases y2 : L + 8 ≤ i ∧ i < L + 8 + 4
      · rw [if_pos y2, if_pos (by omega)]; rw [show (i - L) / 4 = 2 by omega, show (i - L) % 4 = i - (L + 8) by omega]; rfl
      rw [if_neg y2, b21 i]
      by_cases y1 : L + 4 ≤ i ∧ i < L + 4 + 4
      · rw [if_pos y1, if_pos (by omega)]; rw [show (i - L) / 4 = 1 by omega, show (i - L) % 4 = i - (L + 4) by omega]; rfl
      rw [if_neg y1, b20 i]
      by_cases y0 : L + 0 ≤ i ∧ i < L + 0 + 4
      · rw [if_pos y0, if_pos (by omega)]; rw [show (i - L) / 4 = 0 by omega, show (i - L) % 4 = i - (L + 0) by omega]; rfl
      rw [if_neg y0, if_neg (by omega)]
    · rw [b34 a k u w, b33 a k u w, b32 a k u w, b31 a k u w, b30 a k u w]
theorem E_X12_feed_60 {n : Nat} {A : Nat → Int32} {L : Nat} : ∀ (k : Nat) {a0 : Nat} {x6 : Int32} {h : jH} {q : Int32 × jH} (j : Nat) (M : mS (oc h) a0) (F : ∀ t, t < 5 → oi (oc h) (a0 + 7) t = A t) (h9 : oi (oc h) a0 9 = nI L) (hj : j ≤ 20) (hL : L ≤ 380) (hx : x6 = nI j), F_X12_feed_60 n k a0 x6 h = some q → q.1 = nI (L + 20) ∧ oi (oc q.2) a0 9 = nI (L + 20) ∧ (∀ i, oi (oc q.2) (a0 + 6) i = if L + j ≤ i ∧ i < L + 20 then byt (A ((i - L) / 4)) ((i - L) % 4) else oi (oc h) (a0 + 6) i) ∧ frM a0 [6] [9] (oc h) (oc q.2) ∧ q.2.1 = h.1
  | 0, a0, x6, h, q, j, M, F, h9, hj, hL, hx, hf => by cases hf
  | k + 1, a0, x6, h, q, j, M, F, h9, hj, hL, hx, hf => by
    replace hf : F_X12_feed_60_b n (F_X12_feed_60 n k) a0 x6 h = some q := hf
    unfold F_X12_feed_60_b at hf
    obtain ⟨s1, s2, s3, s4, s5, s8, s15, s17, s19, s20, s21⟩ := id M
    replace hf := jite hf
    rcases hf with ⟨c1, hf⟩ | ⟨c1, hf⟩
    · skip
      replace hf := jbind hf
      obtain ⟨v108, e2, hf⟩ := hf
      have r2 := oc_gI e2
      subst r2
      clear e2
      replace hf := jbind hf
      obtain ⟨h114, e3, hf⟩ := hf
      obtain ⟨o3, z3⟩ := oc_pf e3
      clear e3
      replace hf := jbind hf
      obtain ⟨v118, e4, hf⟩ := hf
      have r4 := oc_gI e4
      rw [o3] at r4
      rw [oi_eq] at r4
      subst r4
      clear e4
      cases hf
      -- leaf 0: (v118, h114)
      rw [hx, Int32.le_iff_toInt_le, nI_toInt (by omega), show (20 : Int32).toInt = 20 from rfl] at c1
      have j20 : j = 20 := by omega
      subst j20
      have a1 : oi (oc h) a0 9 + 20 = nI (L + 20) := by rw [h9]; exact nI_add L 20
      have a2 : oi (oc h114) a0 9 = nI (L + 20) := by rw [o3, oi_eq, a1]
      have a3 : frM a0 [6] [9] (oc h) (oc h114) := by rw [o3]; exact frM_f (by decide)
      have a4 : ∀ i, oi (oc h114) (a0 + 6) i = oi (oc h) (a0 + 6) i := fun i => by rw [o3, oi_ne (Or.inl (by omega))]
      exact ⟨a1, a2, fun i => by rw [if_neg (by omega)]; exact a4 i, a3, z3⟩
    · skip
      replace hf := jbind hf
      obtain ⟨p68, e5, hf⟩ := hf
      have r5 := oc_gR e5
      rw [s8] at r5
      cases r5
      clear e5
      replace hf := jbind hf
      obtain ⟨v72, e6, hf⟩ := hf
      have r6 := oc_gI e6
      subst r6
      clear e6
      replace hf := jbind hf
      obtain ⟨p79, e7, hf⟩ := hf
      have r7 := oc_gR e7
      rw [s15] at r7
      cases r7
      clear e7
      replace hf := jbind hf
      obtain ⟨v86, e8, hf⟩ := hf
      obtain ⟨r8, y8⟩ := oc_al e8
      subst r8
      clear e8
      replace hf := jbind hf
      obtain ⟨h99, e9, hf⟩ := hf
      obtain ⟨o9, z9, y9⟩ := oc_as e9
      clear e9
      -- leaf 1: rc60 a0 (x6 + (1 : Int32)) h99
      rw [hx, Int32.le_iff_toInt_le, nI_toInt (by omega), show (20 : Int32).toInt = 20 from rfl] at c1
      have jl : j < 20 := by omega
      have e1 : nI L + nI j = nI (L + j) := nI_add L j
      rw [hx, h9, sh24 (by omega), div4 (by omega), e1, nI_cl (show L + j < 2147483648 by omega), nI_cl (show j / 4 < 2147483648 by omega), F (j / 4) (by omega), by8 (by omega)] at o9
      have f6 : frM a0 [6] [9] (oc h) (oc h99) := by rw [o9]; exact frM_c (by decide)
      have h92 : oi (oc h99) a0 9 = nI L := by rw [o9, oi_ne (Or.inl (by omega))]; exact h9
      obtain ⟨b1, b2, b3, b4, b5⟩ := E_X12_feed_60 (A := A) k (j + 1) (mS_fr M f6 (by decide) (by decide)) (fun t ht => by rw [o9, oi_ne (Or.inl (by omega))]; exact F t ht) h92 (by omega) hL (by rw [hx, nI_1]) hf
      refine ⟨b1, b2, fun i => ?_, frM_tr f6 b4, b5.trans z9⟩
      rw [b3 i]
      by_cases y : i = L + j
      · subst y
        rw [if_neg (by omega), if_pos (by omega), o9, oi_eq, show L + j - L = j by omega]
        rfl
      · by_cases w : L + j ≤ i ∧ i < L + 20
        · rw [if_pos (by omega), if_pos w]
        · rw [if_neg (by omega), if_neg w, o9, oi_ne (Or.inr y)]
theorem E_X12_feed {L : Nat} {n : Nat} {a0 : Nat} {x1 : Int32} {x2 : Int32} {x3 : Int32} {x4 : Int32} {x5 : Int32} {h : jH} {q : Int32 × jH} (M : mS (oc h) a0) (h9 : oi (oc h) a0 9 = nI L) (hL : L ≤ 400) (hf : F_X12_feed n a0 x1 x2 x3 x4 x5 h = some q) : (380 < L ∧ q.1 = -1 ∧ oi (oc q.2) a0 0 = 0 ∧ frM a0 [] [0] (oc h) (oc q.2) ∧ q.2.1 = h.1) ∨ (L ≤ 380 ∧ q.1 = nI (L + 20) ∧ oi (oc q.2) a0 0 = 0 ∧ oi (oc q.2) a0 9 = nI (L + 20) ∧ (∀ i, oi (oc q.2) (a0 + 6) i = if L ≤ i ∧ i < L + 20 then byt (ar5 x1 x2 x3 x4 x5 ((i - L) / 4)) ((i - L) % 4) else oi (oc h) (a0 + 6) i) ∧ frM a0 [6, 7] [0, 9] (oc h) (oc q.2) ∧ q.2.1 = h.1) := by
  unfold F_X12_feed at hf
  obtain ⟨s1, s2, s3, s4, s5, s8, s15, s17, s19, s20, s21⟩ := id M
  replace hf := jbind hf
  obtain ⟨h2, e1, hf⟩ := hf
  obtain ⟨o1, z1⟩ := oc_pf e1
  clear e1
  replace hf := jbind hf
  obtain ⟨v6, e2, hf⟩ := hf
  have r2 := oc_gI e2
  rw [o1] at r2
  rw [oi_ne (Or.inr (by decide))] at r2
  subst r2
  clear e2
  replace hf := jite hf
  rcases hf with ⟨c3, hf⟩ | ⟨c3, hf⟩
  · skip
    replace hf := jbind hf
    obtain ⟨p21, e4, hf⟩ := hf
    have r4 := oc_gR e4
    rw [o1] at r4
    rw [u2_ne (Or.inr (by decide))] at r4
    rw [s15] at r4
    cases r4
    clear e4
    replace hf := jbind hf
    obtain ⟨h26, e5, hf⟩ := hf
    obtain ⟨o5, z5, y5⟩ := oc_as e5
    rw [jnar0] at o5
    rw [show (0 : Int32).toNatClampNeg = 0 from rfl] at o5
    clear e5
    replace hf := jbind hf
    obtain ⟨p28, e6, hf⟩ := hf
    have r6 := oc_gR e6
    rw [o5] at r6
    rw [u2_ne (Or.inl (by omega))] at r6
    rw [o1] at r6
    rw [u2_ne (Or.inr (by decide))] at r6
    rw [s15] at r6
    cases r6
    clear e6
    replace hf := jbind hf
    obtain ⟨h33, e7, hf⟩ := hf
    obtain ⟨o7, z7, y7⟩ := oc_as e7
    rw [jnar0] at o7
    rw [show (1 : Int32).toNatClampNeg = 1 from rfl] at o7
    clear e7
    replace hf := jbind hf
    obtain ⟨p35, e8, hf⟩ := hf
    have r8 := oc_gR e8
    rw [o7] at r8
    rw [u2_ne (Or.inl (by omega))] at r8
    rw [o5] at r8
    rw [u2_ne (Or.inl (by omega))] at r8
    rw [o1] at r8
    rw [u2_ne (Or.inr (by decide))] at r8
    rw [s15] at r8
    cases r8
    clear e8
    replace hf := jbind hf
    obtain ⟨h40, e9, hf⟩ := hf
    obtain ⟨o9, z9, y9⟩ := oc_as e9
    rw [jnar0] at o9
    rw [show (2 : Int32).toNatClampNeg = 2 from rfl] at o9
    clear e9
    replace hf := jbind hf
    obtain ⟨p42, e10, hf⟩ := hf
    have r10 := oc_gR e10
    rw [o9] at r10
    rw [u2_ne (Or.inl (by omega))] at r10
    rw [o7] at r10
    rw [u2_ne (Or.inl (by omega))] at r10
    rw [o5] at r10
    rw [u2_ne (Or.inl (by omega))] at r10
    rw [o1] at r10
    rw [u2_ne (Or.inr (by decide))] at r10
    rw [s15] at r10
    cases r10
    clear e10
    replace hf := jbind hf
    obtain ⟨h48, e11, hf⟩ := hf
    obtain ⟨o11, z11, y11⟩ := oc_as e11
    rw [jnar0] at o11
    rw [show (3 : Int32).toNatClampNeg = 3 from rfl] at o11
    clear e11
    replace hf := jbind hf
    obtain ⟨p50, e12, hf⟩ := hf
    have r12 := oc_gR e12
    rw [o11] at r12
    rw [u2_ne (Or.inl (by omega))] at r12
    rw [o9] at r12
    rw [u2_ne (Or.inl (by omega))] at r12
    rw [o7] at r12
    rw [u2_ne (Or.inl (by omega))] at r12
    rw [o5] at r12
    rw [u2_ne (Or.inl (by omega))] at r12
    rw [o1] at r12
    rw [u2_ne (Or.inr (by decide))] at r12
    rw [s15] at r12
    cases r12
    clear e12
    replace hf := jbind hf
    obtain ⟨h56, e13, hf⟩ := hf
    obtain ⟨o13, z13, y13⟩ := oc_as e13
    rw [jnar0] at o13
    rw [show (4 : Int32).toNatClampNeg = 4 from rfl] at o13
    clear e13
    -- leaf 0: F_X12_feed_60 n n a0 (0 : Int32) h56
    have e1 : nI L + (20 : Int32) = nI (L + 20) := nI_add L 20
    rw [h9, e1, Int32.le_iff_toInt_le, nI_toInt (by omega), show (400 : Int32).toInt = 400 from rfl] at c3
    have f1 : frM a0 [6, 7] [0, 9] (oc h) (oc h2) := by rw [o1]; exact frM_f (by decide)
    have f2 : frM a0 [6, 7] [0, 9] (oc h2) (oc h26) := by rw [o5]; exact frM_c (by decide)
    have f3 : frM a0 [6, 7] [0, 9] (oc h26) (oc h33) := by rw [o7]; exact frM_c (by decide)
    have f4 : frM a0 [6, 7] [0, 9] (oc h33) (oc h40) := by rw [o9]; exact frM_c (by decide)
    have f5 : frM a0 [6, 7] [0, 9] (oc h40) (oc h48) := by rw [o11]; exact frM_c (by decide)
    have f6 : frM a0 [6, 7] [0, 9] (oc h48) (oc h56) := by rw [o13]; exact frM_c (by decide)
    have f7 := frM_tr (frM_tr (frM_tr (frM_tr (frM_tr f1 f2) f3) f4) f5) f6
    have g6 : ∀ i, oi (oc h56) (a0 + 6) i = oi (oc h) (a0 + 6) i := fun i => by rw [o13, oi_ne (Or.inl (by omega)), o11, oi_ne (Or.inl (by omega)), o9, oi_ne (Or.inl (by omega)), o7, oi_ne (Or.inl (by omega)), o5, oi_ne (Or.inl (by omega)), o1, oi_ne (Or.inl (by omega))]
    have g9 : oi (oc h56) a0 9 = nI L := by rw [o13, oi_ne (Or.inl (by omega)), o11, oi_ne (Or.inl (by omega)), o9, oi_ne (Or.inl (by omega)), o7, oi_ne (Or.inl (by omega)), o5, oi_ne (Or.inl (by omega)), o1, oi_ne (Or.inr (by decide))]; exact h9
    have g0 : oi (oc h56) a0 0 = 0 := by rw [o13, oi_ne (Or.inl (by omega)), o11, oi_ne (Or.inl (by omega)), o9, oi_ne (Or.inl (by omega)), o7, oi_ne (Or.inl (by omega)), o5, oi_ne (Or.inl (by omega)), o1, oi_eq]
    have F : ∀ t, t < 5 → oi (oc h56) (a0 + 7) t = ar5 x1 x2 x3 x4 x5 t := fun t ht => by
      rcases (by omega : t = 0 ∨ t = 1 ∨ t = 2 ∨ t = 3 ∨ t = 4) with y | y | y | y | y <;> subst y
      · rw [o13, oi_ne (Or.inr (by decide)), o11, oi_ne (Or.inr (by decide)), o9, oi_ne (Or.inr (by decide)), o7, oi_ne (Or.inr (by decide)), o5, oi_eq]; rfl
      · rw [o13, oi_ne (Or.inr (by decide)), o11, oi_ne (Or.inr (by decide)), o9, oi_ne (Or.inr (by decide)), o7, oi_eq]; rfl
      · rw [o13, oi_ne (Or.inr (by decide)), o11, oi_ne (Or.inr (by decide)), o9, oi_eq]; rfl
      · rw [o13, oi_ne (Or.inr (by decide)), o11, oi_eq]; rfl
      · rw [o13, oi_eq]; rfl
    obtain ⟨b1, b2, b3, b4, b5⟩ := E_X12_feed_60 (A := ar5 x1 x2 x3 x4 x5) n 0 (mS_fr M f7 (by decide) (by decide)) F g9 (by omega) (by omega) rfl hf
    refine Or.inr ⟨by omega, b1, (oi_M b4 (by simp) (by simp)).trans g0, b2, fun i => ?_, frM_tr f7 (frM_le b4 (by decide) (by decide)), b5.trans (z13.trans (z11.trans (z9.trans (z7.trans (z5.trans z1)))))⟩
    rw [b3 i, g6 i]
    rfl
  · skip
    cases hf
    -- leaf 1: ((- 1 : Int32), h2)
    have e1 : nI L + (20 : Int32) = nI (L + 20) := nI_add L 20
    rw [h9, e1, Int32.le_iff_toInt_le, nI_toInt (by omega), show (400 : Int32).toInt = 400 from rfl] at c3
    have a0 : oi (oc h2) a0 0 = 0 := by rw [o1, oi_eq]
    exact Or.inl ⟨by omega, rfl, a0, by show frM _ _ _ _ (oc h2); rw [o1]; exact frM_f (by decide), z1⟩
theorem E_X11_end {L : Nat} {n : Nat} {a0 : Nat} {x1 : Int32} {h : jH} {q : Int32 × jH} (x0 : oc h a0 0 = .ref (a0 + 1)) (h6 : oi (oc h) (a0 + 1) 6 = nI L) (hL : L ≤ 400) (hf : F_X11_end n a0 x1 h = some q) : ((x1.toInt < 0 ∨ (L : Int) < x1.toInt) ∧ q = (0, h)) ∨ (0 ≤ x1.toInt ∧ x1.toInt ≤ (L : Int) ∧ q.1 = 1 ∧ oi (oc q.2) (a0 + 1) 6 = x1 ∧ (∀ a k, ¬ (a = a0 + 1 ∧ k = 6) → oc q.2 a k = oc h a k) ∧ q.2.1 = h.1) := by
  unfold F_X11_end at hf
  have l0 : (0 : Int32).toInt = 0 := rfl
  replace hf := jite hf
  rcases hf with ⟨c1, hf⟩ | ⟨c1, hf⟩
  · skip
    cases hf
    -- leaf 0: ((0 : Int32), h)
    rw [Int32.lt_iff_toInt_lt, l0] at c1
    exact Or.inl ⟨Or.inl c1, rfl⟩
  · skip
    replace hf := jbind hf
    obtain ⟨p6, e2, hf⟩ := hf
    have r2 := oc_gR e2
    rw [x0] at r2
    cases r2
    clear e2
    replace hf := jbind hf
    obtain ⟨v9, e3, hf⟩ := hf
    have r3 := oc_gI e3
    subst r3
    clear e3
    replace hf := jite hf
    rcases hf with ⟨c4, hf⟩ | ⟨c4, hf⟩
    · skip
      replace hf := jbind hf
      obtain ⟨p18, e5, hf⟩ := hf
      have r5 := oc_gR e5
      rw [x0] at r5
      cases r5
      clear e5
      replace hf := jbind hf
      obtain ⟨h22, e6, hf⟩ := hf
      obtain ⟨o6, z6⟩ := oc_pf e6
      clear e6
      cases hf
      -- leaf 10: ((1 : Int32), h22)
      rw [Int32.lt_iff_toInt_lt, l0] at c1
      rw [h6, Int32.le_iff_toInt_le, nI_toInt (by omega)] at c4
      have g1 : oi (oc h22) (a0 + 1) 6 = x1 := by rw [o6, oi_eq]
      have g2 : ∀ a k, ¬ (a = a0 + 1 ∧ k = 6) → oc h22 a k = oc h a k := fun a k w => by rw [o6, u2_ne (by omega)]
      exact Or.inr ⟨by omega, c4, rfl, g1, g2, z6⟩
    · skip
      cases hf
      -- leaf 11: ((0 : Int32), h)
      rw [h6, Int32.le_iff_toInt_le, nI_toInt (by omega)] at c4
      exact Or.inl ⟨Or.inr (by omega), rfl⟩
theorem E_X12_end {L : Nat} {n : Nat} {a0 : Nat} {x1 : Int32} {h : jH} {q : Int32 × jH} (h9 : oi (oc h) a0 9 = nI L) (hL : L ≤ 400) (hf : F_X12_end n a0 x1 h = some q) : ((x1.toInt < 0 ∨ (L : Int) < x1.toInt) ∧ q.1 = 0 ∧ oi (oc q.2) a0 0 = 0 ∧ frM a0 [] [0] (oc h) (oc q.2) ∧ q.2.1 = h.1) ∨ (0 ≤ x1.toInt ∧ x1.toInt ≤ (L : Int) ∧ q.1 = 1 ∧ oi (oc q.2) a0 0 = 0 ∧ oi (oc q.2) a0 9 = x1 ∧ frM a0 [] [0, 9] (oc h) (oc q.2) ∧ q.2.1 = h.1) := by
  unfold F_X12_end at hf
  have l0 : (0 : Int32).toInt = 0 := rfl
  replace hf := jbind hf
  obtain ⟨h2, e1, hf⟩ := hf
  obtain ⟨o1, z1⟩ := oc_pf e1
  clear e1
  replace hf := jite hf
  rcases hf with ⟨c2, hf⟩ | ⟨c2, hf⟩
  · skip
    cases hf
    -- leaf 0: ((0 : Int32), h2)
    rw [Int32.lt_iff_toInt_lt, l0] at c2
    have g0 : oi (oc h2) a0 0 = 0 := by rw [o1, oi_eq]
    have f1 : frM a0 [] [0] (oc h) (oc h2) := by rw [o1]; exact frM_f (by decide)
    exact Or.inl ⟨Or.inl c2, rfl, g0, f1, z1⟩
  · skip
    replace hf := jbind hf
    obtain ⟨v11, e3, hf⟩ := hf
    have r3 := oc_gI e3
    rw [o1] at r3
    rw [oi_ne (Or.inr (by decide))] at r3
    subst r3
    clear e3
    replace hf := jite hf
    rcases hf with ⟨c4, hf⟩ | ⟨c4, hf⟩
    · skip
      replace hf := jbind hf
      obtain ⟨h21, e5, hf⟩ := hf
      obtain ⟨o5, z5⟩ := oc_pf e5
      clear e5
      cases hf
      -- leaf 10: ((1 : Int32), h21)
      rw [Int32.lt_iff_toInt_lt, l0] at c2
      rw [h9, Int32.le_iff_toInt_le, nI_toInt (by omega)] at c4
      have g0 : oi (oc h21) a0 0 = 0 := by rw [o5, oi_ne (Or.inr (by decide)), o1, oi_eq]
      have g1 : oi (oc h21) a0 9 = x1 := by rw [o5, oi_eq]
      have f1 : frM a0 [] [0, 9] (oc h) (oc h21) := by rw [o5, o1]; exact frM_tr (frM_f (by decide)) (frM_f (by decide))
      exact Or.inr ⟨by omega, c4, rfl, g0, g1, f1, z5.trans z1⟩
    · skip
      cases hf
      -- leaf 11: ((0 : Int32), h2)
      rw [h9, Int32.le_iff_toInt_le, nI_toInt (by omega)] at c4
      have g0 : oi (oc h2) a0 0 = 0 := by rw [o1, oi_eq]
      have f1 : frM a0 [] [0] (oc h) (oc h2) := by rw [o1]; exact frM_f (by decide)
      exact Or.inl ⟨Or.inr (by omega), rfl, g0, f1, z1⟩
