/-! the class's tape: bytes, rows, words, numbers, things -/
def ctb (O : jO) (t : Nat) (b : Nat → Int32) (L : Nat) : Prop := tpS O t ∧ oi O t 6 = nI L ∧ L ≤ 400 ∧ (∀ i, i < 400 → oi O (t + 1) i = b i) ∧ ∀ i, i < 400 → -128 ≤ (b i).toInt ∧ (b i).toInt ≤ 127
theorem ctb_fr {O O2 : jO} {t L : Nat} {b : Nat → Int32} (C : ctb O t b L) (f : ∀ a k : Nat, ((a = t ∧ (k ≤ 3 ∨ k = 6)) ∨ a = t + 1) → O2 a k = O a k) : ctb O2 t b L := by
  obtain ⟨⟨p0, p1, p2, p3⟩, h6, hL, hb, hr⟩ := C
  have fi : ∀ a k : Nat, ((a = t ∧ (k ≤ 3 ∨ k = 6)) ∨ a = t + 1) → oi O2 a k = oi O a k := fun a k h => by unfold oi; rw [f a k h]
  exact ⟨⟨(f _ _ (by omega)).trans p0, (f _ _ (by omega)).trans p1, (f _ _ (by omega)).trans p2, (f _ _ (by omega)).trans p3⟩, (fi _ _ (by omega)).trans h6, hL, fun i hi => (fi _ _ (by omega)).trans (hb i hi), hr⟩
theorem in255 {v lo hi : Int32} (h : -128 ≤ v.toInt ∧ v.toInt ≤ 127) (hc : 0 ≤ lo.toInt ∧ hi.toInt ≤ 127) : (lo ≤ v ∧ v ≤ hi) ↔ (lo ≤ v &&& 255 ∧ v &&& 255 ≤ hi) := by
  rw [Int32.le_iff_toInt_le, Int32.le_iff_toInt_le, Int32.le_iff_toInt_le, Int32.le_iff_toInt_le, b255 h]
  split <;> omega
theorem eq255 {v c : Int32} (h : -128 ≤ v.toInt ∧ v.toInt ≤ 127) (hc : 0 ≤ c.toInt ∧ c.toInt ≤ 127) : v &&& 255 = c ↔ v = c := by
  rw [← Int32.toInt_inj, ← Int32.toInt_inj, b255 h]
  split <;> omega
theorem dig255 {v : Int32} (h : (48 : Int32) ≤ v ∧ v ≤ 57) : v &&& 255 = v := by
  rw [Int32.le_iff_toInt_le, Int32.le_iff_toInt_le] at h
  have l48 : (48 : Int32).toInt = 48 := rfl
  have l57 : (57 : Int32).toInt = 57 := rfl
  rw [← Int32.toInt_inj, b255 (by omega), if_neg (by omega)]
theorem jtb_r {t i : Nat} (ht : t < 36) (hi : i < (jtb t).length) : 0 ≤ ((jtb t).getD i 0).toInt ∧ ((jtb t).getD i 0).toInt ≤ 127 := by
  have h := List.all_eq_true.mp (jtlt t ht).2 ((jtb t).getD i 0) (by rw [List.getD_eq_getElem?_getD, List.getElem?_eq_getElem hi]; exact List.getElem_mem hi)
  have h0 := of_decide_eq_true (Bool.and_eq_true_iff.mp h).1
  have h1 := of_decide_eq_true (Bool.and_eq_true_iff.mp h).2
  rw [Int32.le_iff_toInt_le] at h0
  rw [Int32.lt_iff_toInt_lt] at h1
  have l : (128 : Int32).toInt = 128 := rfl
  have l0 : (0 : Int32).toInt = 0 := rfl
  omega
/-- where the word w begins in the class's list of words -/
def wSs : List Nat := [0, 5, 11, 15, 20, 25, 30, 34, 39, 45, 49, 56, 60, 64, 67, 70, 76, 81, 84, 90, 97, 103, 108, 113]
def wS (w : Nat) : Nat := wSs.getD w 0
theorem wS_t (w : Nat) (hw : w < 23) : wS (w + 1) = wS w + (jtb (wT w)).length + 1 ∧ wS w + (jtb (wT w)).length < (jtb 0).length ∧ (jtb 0).getD (wS w + (jtb (wT w)).length) 0 = 32 ∧ (∀ i : Nat, i < (jtb (wT w)).length → (jtb 0).getD (wS w + i) 0 = (jtb (wT w)).getD i 0 ∧ (jtb (wT w)).getD i 0 ≠ 32) := by
  have : ∀ w : Fin 23, wS (w.val + 1) = wS w.val + (jtb (wT w.val)).length + 1 ∧ wS w.val + (jtb (wT w.val)).length < (jtb 0).length ∧ (jtb 0).getD (wS w.val + (jtb (wT w.val)).length) 0 = 32 ∧ (∀ i : Nat, i < (jtb (wT w.val)).length → (jtb 0).getD (wS w.val + i) 0 = (jtb (wT w.val)).getD i 0 ∧ (jtb (wT w.val)).getD i 0 ≠ 32) := by decide +kernel
  exact this ⟨w, hw⟩
theorem wS_23 : wS 23 = (jtb 0).length ∧ (jtb 0).length = 113 := by decide +kernel
theorem E_X10_at {b : Nat → Int32} {L : Nat} {i : Nat} {n : Nat} {a0 : Nat} {x1 : Int32} {h : jH} {q : Int32} (C : ctb (oc h) a0 b L) (hx : x1 = nI i) (hi : i < 1000000) (hf : F_X10_at n a0 x1 h = some q) : (i < L ∧ q = b i &&& 255) ∨ (L ≤ i ∧ q = -1) := by
  unfold F_X10_at at hf
  obtain ⟨⟨p0, p1, p2, p3⟩, h6, hL, hb, hr⟩ := id C
  replace hf := jite hf
  rcases hf with ⟨c1, hf⟩ | ⟨c1, hf⟩
  · skip
    cases hf
    -- leaf 0: (- 1 : Int32)
    rw [hx, Int32.lt_iff_toInt_lt, nI_toInt (by omega), show (0 : Int32).toInt = 0 from rfl] at c1
    omega
  · skip
    replace hf := jbind hf
    obtain ⟨v6, e2, hf⟩ := hf
    have r2 := oc_gI e2
    subst r2
    clear e2
    replace hf := jite hf
    rcases hf with ⟨c3, hf⟩ | ⟨c3, hf⟩
    · skip
      cases hf
      -- leaf 10: (- 1 : Int32)
      rw [hx, h6, Int32.le_iff_toInt_le, nI_toInt (by omega), nI_toInt (by omega)] at c3
      exact Or.inr ⟨by omega, rfl⟩
    · skip
      replace hf := jite hf
      rcases hf with ⟨c4, hf⟩ | ⟨c4, hf⟩
      · skip
        replace hf := jbind hf
        obtain ⟨p24, e5, hf⟩ := hf
        have r5 := oc_gR e5
        rw [p0] at r5
        cases r5
        clear e5
        replace hf := jbind hf
        obtain ⟨v28, e6, hf⟩ := hf
        obtain ⟨r6, y6⟩ := oc_al e6
        subst r6
        clear e6
        cases hf
        -- leaf 110: (v28 &&& (255 : Int32))
        rw [hx, h6, Int32.le_iff_toInt_le, nI_toInt (by omega), nI_toInt (by omega)] at c3
        rw [hx, nI_cl (by omega), hb i (by omega)]
        exact Or.inl ⟨by omega, rfl⟩
      · skip
        cases hf
        -- leaf 111: (- 1 : Int32)
        rw [hx, h6, Int32.le_iff_toInt_le, nI_toInt (by omega), nI_toInt (by omega)] at c3
        rw [hx, Int32.lt_iff_toInt_lt, nI_toInt (by omega), show (400 : Int32).toInt = 400 from rfl] at c4
        omega
theorem E_X10_endOfRow_3 {n : Nat} {b : Nat → Int32} {L : Nat} : ∀ (k : Nat) {a0 : Nat} {x2 : Int32} {x3 : Int32} {x4 : Int32} {h : jH} {q : Int32} (i : Nat) (C : ctb (oc h) a0 b L) (hc : 0 ≤ x2.toInt ∧ x3.toInt ≤ 127) (hx : x4 = nI i) (hi : i ≤ L), F_X10_endOfRow_3 n k a0 x2 x3 x4 h = some q → ∃ j, q = nI j ∧ isRow (bIn b L x2 x3) i j ∧ j ≤ L
  | 0, a0, x2, x3, x4, h, q, i, C, hc, hx, hi, hf => by cases hf
  | k + 1, a0, x2, x3, x4, h, q, i, C, hc, hx, hi, hf => by
    replace hf : F_X10_endOfRow_3_b n (F_X10_endOfRow_3 n k) a0 x2 x3 x4 h = some q := hf
    unfold F_X10_endOfRow_3_b at hf
    obtain ⟨⟨p0, p1, p2, p3⟩, h6, hL, hb, hr⟩ := id C
    replace hf := jbind hf
    obtain ⟨v6, e1, hf⟩ := hf
    have r1 := oc_gI e1
    subst r1
    clear e1
    replace hf := jite hf
    rcases hf with ⟨c2, hf⟩ | ⟨c2, hf⟩
    · skip
      cases hf
      -- leaf 0: x4
      rw [h6, hx, Int32.le_iff_toInt_le, nI_toInt (by omega), nI_toInt (by omega)] at c2
      exact ⟨i, hx, row_0 (fun z => by have := z.1; omega), hi⟩
    · skip
      replace hf := jbind hf
      obtain ⟨v15, e3, hf⟩ := hf
      replace e3 := (jcv_o e3).2
      have r3 := E_X10_at C hx (by omega) e3
      replace hf := jite hf
      rcases hf with ⟨c4, hf⟩ | ⟨c4, hf⟩
      · skip
        cases hf
        -- leaf 10: x4
        rw [h6, hx, Int32.le_iff_toInt_le, nI_toInt (by omega), nI_toInt (by omega)] at c2
        rcases r3 with ⟨y, y2⟩ | ⟨y, -⟩
        rotate_left
        · omega
        rw [y2] at c4
        exact ⟨i, hx, row_0 (fun z => by have := ((in255 (hr i (by omega)) hc).mp z.2).1; rw [Int32.le_iff_toInt_le] at this; rw [Int32.lt_iff_toInt_lt] at c4; omega), hi⟩
      · skip
        replace hf := jbind hf
        obtain ⟨v25, e5, hf⟩ := hf
        replace e5 := (jcv_o e5).2
        have r5 := E_X10_at C hx (by omega) e5
        replace hf := jite hf
        rcases hf with ⟨c6, hf⟩ | ⟨c6, hf⟩
        · skip
          cases hf
          -- leaf 110: x4
          rw [h6, hx, Int32.le_iff_toInt_le, nI_toInt (by omega), nI_toInt (by omega)] at c2
          rcases r5 with ⟨y, y2⟩ | ⟨y, -⟩
          rotate_left
          · omega
          rw [y2] at c6
          exact ⟨i, hx, row_0 (fun z => by have := ((in255 (hr i (by omega)) hc).mp z.2).2; rw [Int32.le_iff_toInt_le] at this; rw [Int32.lt_iff_toInt_lt] at c6; omega), hi⟩
        · skip
          -- leaf 111: rc3 a0 x2 x3 (x4 + (1 : Int32)) h
          rw [h6, hx, Int32.le_iff_toInt_le, nI_toInt (by omega), nI_toInt (by omega)] at c2
          rcases r5 with ⟨y, y2⟩ | ⟨y, -⟩
          rotate_left
          · omega
          rcases r3 with ⟨-, y3⟩ | ⟨y, -⟩
          rotate_left
          · omega
          rw [y2, Int32.lt_iff_toInt_lt] at c6
          rw [y3, Int32.lt_iff_toInt_lt] at c4
          have z : bIn b L x2 x3 i := ⟨y, (in255 (hr i (by omega)) hc).mpr ⟨by rw [Int32.le_iff_toInt_le]; omega, by rw [Int32.le_iff_toInt_le]; omega⟩⟩
          rw [hx] at hf
          obtain ⟨j, j1, j2, j3⟩ := E_X10_endOfRow_3 k (i + 1) C hc (nI_1 i) (by omega) hf
          exact ⟨j, j1, row_s z j2, j3⟩
theorem E_X10_endOfRow {b : Nat → Int32} {L : Nat} {i : Nat} {n : Nat} {a0 : Nat} {x1 : Int32} {x2 : Int32} {x3 : Int32} {h : jH} {q : Int32} (C : ctb (oc h) a0 b L) (hc : 0 ≤ x2.toInt ∧ x3.toInt ≤ 127) (hx : x1 = nI i) (hi : i ≤ L) (hf : F_X10_endOfRow n a0 x1 x2 x3 h = some q) : ∃ j, q = nI j ∧ isRow (bIn b L x2 x3) i j ∧ j ≤ L := by
  unfold F_X10_endOfRow at hf
  -- leaf : F_X10_endOfRow_3 n n a0 x2 x3 x1 h
  exact E_X10_endOfRow_3 n i C hc hx hi hf
theorem E_X10_numberBetween_16 {n : Nat} {b : Nat → Int32} {L : Nat} {s : Nat} {e : Nat} (he : e ≤ L) (hd : ∀ k, s ≤ k → k < e → bIn b L 48 57 k) : ∀ (k : Nat) {a0 : Nat} {x2 : Int32} {x3 : Int32} {x4 : Int32} {h : jH} {q : Int32} (i : Nat) (C : ctb (oc h) a0 b L) (hx : x4 = nI i) (h2 : x2 = nI e) (hs : s ≤ i) (hi : i ≤ e) (h3 : x3 = dV b s (i - s)), F_X10_numberBetween_16 n k a0 x2 x3 x4 h = some q → q = dV b s (e - s)
  | 0, a0, x2, x3, x4, h, q, i, C, hx, h2, hs, hi, h3, hf => by cases hf
  | k + 1, a0, x2, x3, x4, h, q, i, C, hx, h2, hs, hi, h3, hf => by
    replace hf : F_X10_numberBetween_16_b n (F_X10_numberBetween_16 n k) a0 x2 x3 x4 h = some q := hf
    unfold F_X10_numberBetween_16_b at hf
    obtain ⟨⟨p0, p1, p2, p3⟩, h6, hL, hb, hr⟩ := id C
    replace hf := jite hf
    rcases hf with ⟨c1, hf⟩ | ⟨c1, hf⟩
    · skip
      cases hf
      -- leaf 0: x3
      rw [h2, hx, Int32.le_iff_toInt_le, nI_toInt (by omega), nI_toInt (by omega)] at c1
      rw [show e - s = i - s by omega]; exact h3
    · skip
      replace hf := jbind hf
      obtain ⟨v29, e2, hf⟩ := hf
      replace e2 := (jcv_o e2).2
      have r2 := E_X10_at C hx (by omega) e2
      -- leaf 1: rc16 a0 x2 ((((10 : Int32) * x3) + v29) - (48 : Int32)) (x4 + (1 : Int32)) h
      rw [h2, hx, Int32.le_iff_toInt_le, nI_toInt (by omega), nI_toInt (by omega)] at c1
      rcases r2 with ⟨y, y2⟩ | ⟨y, -⟩
      rotate_left
      · omega
      rw [y2, dig255 (hd i hs (by omega)).2, hx] at hf
      exact E_X10_numberBetween_16 he hd k (i + 1) C (nI_1 i) h2 (by omega) (by omega) (by rw [h3, show i + 1 - s = i - s + 1 by omega]; show _ = (10 * dV b s (i - s) + b (s + (i - s))) - 48; rw [show s + (i - s) = i by omega]) hf
theorem E_X10_numberBetween {b : Nat → Int32} {L : Nat} {s : Nat} {e : Nat} {n : Nat} {a0 : Nat} {x1 : Int32} {x2 : Int32} {h : jH} {q : Int32} (C : ctb (oc h) a0 b L) (he : e ≤ L) (hd : ∀ k, s ≤ k → k < e → bIn b L 48 57 k) (h1 : x1 = nI s) (h2 : x2 = nI e) (hs : s ≤ e) (hf : F_X10_numberBetween n a0 x1 x2 h = some q) : q = if e ≤ s + 3 then dV b s (e - s) else 1000 := by
  unfold F_X10_numberBetween at hf
  have hL := C.2.2.1
  replace hf := jite hf
  rcases hf with ⟨c1, hf⟩ | ⟨c1, hf⟩
  · skip
    -- leaf 0: F_X10_numberBetween_16 n n a0 x2 (0 : Int32) x1 h
    rw [h1, h2, nI_sb hs (by omega), Int32.le_iff_toInt_le, nI_toInt (by omega), show (3 : Int32).toInt = 3 from rfl] at c1
    rw [if_pos (by omega)]
    exact E_X10_numberBetween_16 he hd n s C h1 h2 (Nat.le_refl s) hs (by rw [Nat.sub_self]; rfl) hf
  · skip
    cases hf
    -- leaf 1: (1000 : Int32)
    rw [h1, h2, nI_sb hs (by omega), Int32.le_iff_toInt_le, nI_toInt (by omega), show (3 : Int32).toInt = 3 from rfl] at c1
    rw [if_neg (by omega)]
theorem E_X10_standsAt_3 {n : Nat} {b : Nat → Int32} {L : Nat} {s : Nat} {f : Nat} {t : Nat} (hs : s + (t - f) ≤ L) (ft : f ≤ t) (tl : t ≤ (jtb 0).length) : ∀ (k : Nat) {a0 : Nat} {x1 : Int32} {x2 : Int32} {x3 : Int32} {x4 : Int32} {h : jH} {q : Int32} (j : Nat) (C : ctb (oc h) a0 b L) (h1 : x1 = nI s) (h2 : x2 = nI f) (h3 : x3 = nI t) (h4 : x4 = nI j) (fj : f ≤ j) (jt : j ≤ t), F_X10_standsAt_3 n k a0 x1 x2 x3 x4 h = some q → (q = 0 ∨ q = 1) ∧ (q = 1 ↔ ∀ i, j ≤ i → i < t → b (s + (i - f)) = (jtb 0).getD i 0)
  | 0, a0, x1, x2, x3, x4, h, q, j, C, h1, h2, h3, h4, fj, jt, hf => by cases hf
  | k + 1, a0, x1, x2, x3, x4, h, q, j, C, h1, h2, h3, h4, fj, jt, hf => by
    replace hf : F_X10_standsAt_3_b n (F_X10_standsAt_3 n k) a0 x1 x2 x3 x4 h = some q := hf
    unfold F_X10_standsAt_3_b at hf
    obtain ⟨⟨p0, p1, p2, p3⟩, h6, hL, hb, hr⟩ := id C
    have l113 := wS_23.2
    replace hf := jite hf
    rcases hf with ⟨c1, hf⟩ | ⟨c1, hf⟩
    · skip
      cases hf
      -- leaf 0: (1 : Int32)
      rw [h3, h4, Int32.le_iff_toInt_le, nI_toInt (by omega), nI_toInt (by omega)] at c1
      exact ⟨Or.inr rfl, fun _ i h1 h2 => by omega, fun _ => rfl⟩
    · skip
      replace hf := jbind hf
      obtain ⟨v16, e2, hf⟩ := hf
      replace e2 := (jcv_o e2).2
      have y2 : (x1 + x4) - x2 = nI (s + j - f) := by rw [h1, h4, h2]; have ea : nI s + nI j = nI (s + j) := nI_add s j; rw [ea, nI_sb (by omega) (by omega)]
      have r2 := E_X10_at C y2 (by omega) e2
      replace hf := jbind hf
      obtain ⟨v23, e3, hf⟩ := hf
      replace hf := jite hf
      rcases hf with ⟨c4, hf⟩ | ⟨c4, hf⟩
      · skip
        -- leaf 10: rc3 a0 x1 x2 x3 (x4 + (1 : Int32)) h
        rw [h3, h4, Int32.le_iff_toInt_le, nI_toInt (by omega), nI_toInt (by omega)] at c1
        rcases r2 with ⟨y, y3⟩ | ⟨y, -⟩
        rotate_left
        · omega
        rw [y3, jtc_o e3, h4, nI_cl (by omega), eq255 (hr _ (by omega)) (jtb_r (by decide) (by omega))] at c4
        rw [h4] at hf
        obtain ⟨q1, q2⟩ := E_X10_standsAt_3 hs ft tl k (j + 1) C h1 h2 h3 (nI_1 j) (by omega) (by omega) hf
        refine ⟨q1, fun z i a1 a2 => ?_, fun z => q2.mpr fun i a1 a2 => z i (by omega) a2⟩
        by_cases w : i = j
        · rw [w, show s + (j - f) = s + j - f by omega]; exact c4
        · exact q2.mp z i (by omega) a2
      · skip
        cases hf
        -- leaf 11: (0 : Int32)
        rw [h3, h4, Int32.le_iff_toInt_le, nI_toInt (by omega), nI_toInt (by omega)] at c1
        rcases r2 with ⟨y, y3⟩ | ⟨y, -⟩
        rotate_left
        · omega
        rw [y3, jtc_o e3, h4, nI_cl (by omega), eq255 (hr _ (by omega)) (jtb_r (by decide) (by omega))] at c4
        exact ⟨Or.inl rfl, fun z => absurd z (by decide), fun z => absurd (by have := z j (Nat.le_refl j) (by omega); rw [show s + (j - f) = s + j - f by omega] at this; exact this) c4⟩
theorem E_X10_standsAt {b : Nat → Int32} {L : Nat} {s : Nat} {f : Nat} {t : Nat} {n : Nat} {a0 : Nat} {x1 : Int32} {x2 : Int32} {x3 : Int32} {h : jH} {q : Int32} (C : ctb (oc h) a0 b L) (hs : s + (t - f) ≤ L) (ft : f ≤ t) (tl : t ≤ (jtb 0).length) (h1 : x1 = nI s) (h2 : x2 = nI f) (h3 : x3 = nI t) (hf : F_X10_standsAt n a0 x1 x2 x3 h = some q) : (q = 0 ∨ q = 1) ∧ (q = 1 ↔ ∀ i, f ≤ i → i < t → b (s + (i - f)) = (jtb 0).getD i 0) := by
  unfold F_X10_standsAt at hf
  -- leaf : F_X10_standsAt_3 n n a0 x1 x2 x3 x2 h
  exact E_X10_standsAt_3 hs ft tl n f C h1 h2 h3 h2 (Nat.le_refl f) ft hf
theorem E_X10_wordBetween_8 {n : Nat} {b : Nat → Int32} {L : Nat} {s : Nat} {e : Nat} (he : e ≤ L) (hs : s ≤ e) : ∀ (k : Nat) {a0 : Nat} {x1 : Int32} {x2 : Int32} {x3 : Int32} {x4 : Int32} {x5 : Int32} {h : jH} {q : Int32} (w : Nat) (t : Nat) (C : ctb (oc h) a0 b L) (h1 : x1 = nI s) (h2 : x2 = nI e) (h3 : x3 = nI w) (h4 : x4 = nI (wS w)) (h5 : x5 = nI t) (kw : w ≤ 23) (k1 : wS w ≤ t) (k2 : w < 23 → t ≤ wS w + (jtb (wT w)).length) (k3 : w = 23 → t = wS 23) (no : ∀ w2 : Nat, w2 < w → ¬ spl b s e (jtb (wT w2))), F_X10_wordBetween_8 n k a0 x1 x2 x3 x4 x5 h = some q → (∃ w : Nat, w < 23 ∧ q = nI w ∧ spl b s e (jtb (wT w))) ∨ (q = -2 ∧ ∀ w : Nat, w < 23 → ¬ spl b s e (jtb (wT w)))
  | 0, a0, x1, x2, x3, x4, x5, h, q, w, t, C, h1, h2, h3, h4, h5, kw, k1, k2, k3, no, hf => by cases hf
  | k + 1, a0, x1, x2, x3, x4, x5, h, q, w, t, C, h1, h2, h3, h4, h5, kw, k1, k2, k3, no, hf => by
    replace hf : F_X10_wordBetween_8_b n (F_X10_wordBetween_8 n k) a0 x1 x2 x3 x4 x5 h = some q := hf
    unfold F_X10_wordBetween_8_b at hf
    have hL := C.2.2.1
    replace hf := jbind hf
    obtain ⟨v12, e1, hf⟩ := hf
    replace hf := jite hf
    rcases hf with ⟨c2, hf⟩ | ⟨c2, hf⟩
    · skip
      cases hf
      -- leaf 0: (- 2 : Int32)
      have l113 := wS_23.2
      have l23 := wS_23.1
      have tb : t ≤ 113 := by
        rcases Nat.lt_or_ge w 23 with z | z
        · have := k2 z; have := (wS_t w z).2.1; omega
        · have := k3 (by omega); omega
      rw [jtl_o e1, h5, Int32.le_iff_toInt_le, nI_toInt (by omega), nI_toInt (by omega)] at c2
      have w23 : w = 23 := by
        rcases Nat.lt_or_ge w 23 with z | z
        · have := k2 z; have := (wS_t w z).2.1; omega
        · omega
      subst w23
      exact Or.inr ⟨rfl, no⟩
    · skip
      replace hf := jbind hf
      obtain ⟨v22, e3, hf⟩ := hf
      replace hf := jite hf
      rcases hf with ⟨c4, hf⟩ | ⟨c4, hf⟩
      · skip
        replace hf := jite hf
        rcases hf with ⟨c5, hf⟩ | ⟨c5, hf⟩
        · skip
          replace hf := jbind hf
          obtain ⟨v47, e6, hf⟩ := hf
          replace e6 := (jcv_o e6).2
          have l113 := wS_23.2
          have l23 := wS_23.1
          have tb : t ≤ 113 := by
            rcases Nat.lt_or_ge w 23 with z | z
            · have := k2 z; have := (wS_t w z).2.1; omega
            · have := k3 (by omega); omega
          rw [jtl_o e1, h5, Int32.le_iff_toInt_le, nI_toInt (by omega), nI_toInt (by omega)] at c2
          have w22 : w < 23 := by
            rcases Nat.lt_or_ge w 23 with z | z
            · exact z
            · have : w = 23 := by omega
              have := k3 this
              omega
          have k4 := k2 w22
          obtain ⟨t1, t2, t3, t4⟩ := wS_t w w22
          rw [jtc_o e3, h5, nI_cl (by omega)] at c4
          have tt : t = wS w + (jtb (wT w)).length := by
            rcases Nat.lt_or_ge t (wS w + (jtb (wT w)).length) with z | z
            · obtain ⟨u1, u2⟩ := t4 (t - wS w) (by omega)
              rw [show wS w + (t - wS w) = t by omega] at u1
              exact absurd (u1.symm.trans c4) u2
            · omega
          subst tt
          rw [h5, h4, nI_sb (by omega) (by omega), h1, h2, nI_sb (by omega) (by omega), nI_eq (by omega) (by omega)] at c5
          have r6 := E_X10_standsAt (s := s) (f := wS w) (t := wS w + (jtb (wT w)).length) C (by omega) (by omega) (by omega) h1 h4 h5 e6
          replace hf := jite hf
          rcases hf with ⟨c7, hf⟩ | ⟨c7, hf⟩
          · skip
            -- leaf 1000: rc8 a0 x1 x2 (x3 + (1 : Int32)) (x5 + (1 : Int32)) (x5 + (1 : Int32)) h
            have sp : ¬ spl b s e (jtb (wT w)) := fun z => by
              have y := r6.2.mpr fun i a1 a2 => by
                have := z.2 (i - wS w) (by omega)
                rw [this, ← (t4 (i - wS w) (by omega)).1, show wS w + (i - wS w) = i by omega]
              exact absurd (c7.symm.trans y) (by decide)
            rw [h3, h5, nI_1, nI_1] at hf
            exact E_X10_wordBetween_8 he hs k (w + 1) (wS w + (jtb (wT w)).length + 1) C h1 h2 rfl (by rw [t1]) rfl (by omega) (by omega) (fun z => by have := (wS_t (w + 1) z).1; omega) (fun z => by rw [← z]; exact t1.symm) (fun w2 z => by
              rcases Nat.lt_or_ge w2 w with z2 | z2
              · exact no w2 z2
              · have e2 : w2 = w := by omega
                subst e2
                exact sp) hf
          · skip
            cases hf
            -- leaf 1001: x3
            refine Or.inl ⟨w, w22, h3, by omega, fun i hi => ?_⟩
            have y := r6.2.mp (r6.1.resolve_left c7) (wS w + i) (by omega) (by omega)
            rw [show wS w + i - wS w = i by omega] at y
            rw [y, (t4 i hi).1]
        · skip
          -- leaf 101: rc8 a0 x1 x2 (x3 + (1 : Int32)) (x5 + (1 : Int32)) (x5 + (1 : Int32)) h
          have l113 := wS_23.2
          have l23 := wS_23.1
          have tb : t ≤ 113 := by
            rcases Nat.lt_or_ge w 23 with z | z
            · have := k2 z; have := (wS_t w z).2.1; omega
            · have := k3 (by omega); omega
          rw [jtl_o e1, h5, Int32.le_iff_toInt_le, nI_toInt (by omega), nI_toInt (by omega)] at c2
          have w22 : w < 23 := by
            rcases Nat.lt_or_ge w 23 with z | z
            · exact z
            · have : w = 23 := by omega
              have := k3 this
              omega
          have k4 := k2 w22
          obtain ⟨t1, t2, t3, t4⟩ := wS_t w w22
          rw [jtc_o e3, h5, nI_cl (by omega)] at c4
          have tt : t = wS w + (jtb (wT w)).length := by
            rcases Nat.lt_or_ge t (wS w + (jtb (wT w)).length) with z | z
            · obtain ⟨u1, u2⟩ := t4 (t - wS w) (by omega)
              rw [show wS w + (t - wS w) = t by omega] at u1
              exact absurd (u1.symm.trans c4) u2
            · omega
          subst tt
          rw [h5, h4, nI_sb (by omega) (by omega), h1, h2, nI_sb (by omega) (by omega), nI_eq (by omega) (by omega)] at c5
          have sp : ¬ spl b s e (jtb (wT w)) := fun z => by have := z.1; omega
          rw [h3, h5, nI_1, nI_1] at hf
          exact E_X10_wordBetween_8 he hs k (w + 1) (wS w + (jtb (wT w)).length + 1) C h1 h2 rfl (by rw [t1]) rfl (by omega) (by omega) (fun z => by have := (wS_t (w + 1) z).1; omega) (fun z => by rw [← z]; exact t1.symm) (fun w2 z => by
            rcases Nat.lt_or_ge w2 w with z2 | z2
            · exact no w2 z2
            · have e2 : w2 = w := by omega
              subst e2
              exact sp) hf
      · skip
        -- leaf 11: rc8 a0 x1 x2 x3 x4 (x5 + (1 : Int32)) h
        have l113 := wS_23.2
        have l23 := wS_23.1
        have tb : t ≤ 113 := by
          rcases Nat.lt_or_ge w 23 with z | z
          · have := k2 z; have := (wS_t w z).2.1; omega
          · have := k3 (by omega); omega
        rw [jtl_o e1, h5, Int32.le_iff_toInt_le, nI_toInt (by omega), nI_toInt (by omega)] at c2
        have w22 : w < 23 := by
          rcases Nat.lt_or_ge w 23 with z | z
          · exact z
          · have : w = 23 := by omega
            have := k3 this
            omega
        have k4 := k2 w22
        obtain ⟨t1, t2, t3, t4⟩ := wS_t w w22
        rw [jtc_o e3, h5, nI_cl (by omega)] at c4
        have tl : t < wS w + (jtb (wT w)).length := by
          rcases Nat.lt_or_ge t (wS w + (jtb (wT w)).length) with z | z
          · exact z
          · exact absurd (by rw [show t = wS w + (jtb (wT w)).length by omega]; exact t3) c4
        rw [h5, nI_1] at hf
        exact E_X10_wordBetween_8 he hs k w (t + 1) C h1 h2 h3 h4 rfl kw (by omega) (fun _ => by omega) (fun z => by omega) no hf
theorem E_X10_wordBetween {b : Nat → Int32} {L : Nat} {s : Nat} {e : Nat} {n : Nat} {a0 : Nat} {x1 : Int32} {x2 : Int32} {h : jH} {q : Int32} (C : ctb (oc h) a0 b L) (he : e ≤ L) (hs : s ≤ e) (h1 : x1 = nI s) (h2 : x2 = nI e) (hf : F_X10_wordBetween n a0 x1 x2 h = some q) : (∃ w : Nat, w < 23 ∧ q = nI w ∧ spl b s e (jtb (wT w))) ∨ (q = -2 ∧ ∀ w : Nat, w < 23 → ¬ spl b s e (jtb (wT w))) := by
  unfold F_X10_wordBetween at hf
  -- leaf : F_X10_wordBetween_8 n n a0 x1 x2 (0 : Int32) (0 : Int32) (0 : Int32) h
  exact E_X10_wordBetween_8 he hs n 0 0 C h1 h2 rfl rfl rfl (by omega) (by decide) (fun _ => by omega) (fun z => by omega) (fun w z => by omega) hf
