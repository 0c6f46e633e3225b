/-! hours of the class -/
def frRL (r l : Nat) (O O2 : jO) : Prop := ∀ a k, ¬ (r ≤ a ∧ a ≤ r + 6) → a ≠ l + 5 → ¬ (a = l ∧ k = 5) → O2 a k = O a k
theorem frRL_rfl {r l : Nat} {O : jO} : frRL r l O O := fun _ _ _ _ _ => rfl
theorem frRL_tr {r l : Nat} {O O2 O3 : jO} (a : frRL r l O O2) (b : frRL r l O2 O3) : frRL r l O O3 := fun x k h q z => (b x k h q z).trans (a x k h q z)
theorem frRL_R {r l : Nat} {O O2 : jO} (f : frR r O O2) : frRL r l O O2 := fun a k h _ _ => f a k (by omega)
theorem frRL_L {r l : Nat} {O O2 : jO} (f : frL l O O2) : frRL r l O O2 := fun a k _ h q => f a k h q
theorem lawE_R {O O2 : jO} {l r : Nat} {W : jWd} (L : lawE O l W) (f : frR r O O2) (dj : r + 6 < l ∨ l + 5 < r) : lawE O2 l W := lawE_fr L (fun a k h1 h2 _ => f a k (by omega))
theorem lawE_L {O O2 : jO} {l : Nat} {W : jWd} (L : lawE O l W) (f : frL l O O2) : lawE O2 l W := lawE_fr L (fun a k h1 h2 h3 => f a k (by omega) h3)
/-- clock at c, law at l, rod at r: all tell the world -/
def clkE (O : jO) (c l r : Nat) (W : jWd) : Prop := O c 0 = .ref l ∧ rodE O r W ∧ lawE O l W ∧ wOK W
abbrev clkD (c l r : Nat) : Prop := (r + 6 < l ∨ l + 5 < r) ∧ (c < r ∨ r + 6 < c) ∧ (c < l ∨ l + 5 < c)
theorem clk_R {O O2 : jO} {c l r : Nat} {W W2 : jWd} (C : clkE O c l r W) (D : clkD c l r) (f : frR r O O2) (R : rodE O2 r W2) (K : wOK W2) (h : ∀ k, k = 2 ∨ 435 ≤ k → W2 k = W k) : clkE O2 c l r W2 :=
  ⟨(f _ _ (by omega)).trans C.1, R, lawE_cg (lawE_R C.2.2.1 f D.1) h, K⟩
theorem clk_L {O O2 : jO} {c l r : Nat} {W : jWd} (C : clkE O c l r W) (D : clkD c l r) (f : frL l O O2) : clkE O2 c l r W :=
  ⟨(f _ _ (by omega) (by omega)).trans C.1, rodE_L C.2.1 f D.1, lawE_L C.2.2.1 f, C.2.2.2⟩
theorem ct_0 {W : jWd} {i : Nat} (h : ¬ (((i : Int) + 1 < (W 0).toInt ∧ W (11 + 8 * (i + 1)) - W (11 + 8 * i) = 1) ∧ W (18 + 8 * i) ≠ 1)) : ct1 W i = (W, 0) := if_neg h
theorem ct_1 {W : jWd} {i : Nat} (h : ((i : Int) + 1 < (W 0).toInt ∧ W (11 + 8 * (i + 1)) - W (11 + 8 * i) = 1) ∧ W (18 + 8 * i) ≠ 1) (h2 : ¬ rnW (sdW (W 10)) < byW (upd W 10 (sdW (W 10))) 1 i) : ct1 W i = (upd W 10 (sdW (W 10)), 0) := (if_pos h).trans (if_neg h2)
theorem ct_2 {W : jWd} {i : Nat} (h : ((i : Int) + 1 < (W 0).toInt ∧ W (11 + 8 * (i + 1)) - W (11 + 8 * i) = 1) ∧ W (18 + 8 * i) ≠ 1) (h2 : rnW (sdW (W 10)) < byW (upd W 10 (sdW (W 10))) 1 i) : ct1 W i = (tlW (upd (upd W 10 (sdW (W 10))) (18 + 8 * i) 1) i (nI i) (nI 1) (nI 0), 1) := (if_pos h).trans (if_pos h2)
theorem fl_0 {W : jWd} {i : Nat} (h : ¬ W (17 + 8 * i) = 1) : fl1 W i = (W, 0) := if_neg h
theorem fl_1 {W : jWd} {i : Nat} (h : W (17 + 8 * i) = 1) (h2 : ¬ rnW (sdW (W 10)) < byW (upd W 10 (sdW (W 10))) 2 i) : fl1 W i = (upd W 10 (sdW (W 10)), 0) := (if_pos h).trans (if_neg h2)
theorem fl_2 {W : jWd} {i : Nat} (h : W (17 + 8 * i) = 1) (h2 : rnW (sdW (W 10)) < byW (upd W 10 (sdW (W 10))) 2 i) : fl1 W i = (tlW (upd (upd W 10 (sdW (W 10))) (17 + 8 * i) 0) i (nI i) (nI 2) (nI 0), 1) := (if_pos h).trans (if_pos h2)
theorem it_s {f : jWd → Nat → jWd × Int32} {W W2 : jWd} {i m : Nat} {a v : Int32} (h : f W i = (W2, v)) : itW f i (m + 1) W a = itW f (i + 1) m W2 (a + v) := by
  show itW f (i + 1) m (f W i).1 (a + (f W i).2) = _
  rw [h]
theorem it_z {f : jWd → Nat → jWd × Int32} {W W2 : jWd} {i m : Nat} {a : Int32} (h : f W i = (W2, 0)) : itW f i (m + 1) W a = itW f (i + 1) m W2 a := by
  rw [it_s h, Int32.add_zero]
theorem bit_y {x y : Int32} {i : Nat} (hi : i < 32) (h : y = x ||| ((1 : Int32) <<< (nI i &&& 31))) : ∀ j, j < 32 → (bt y j = true ↔ (if j = i then (1 : Int32) = 1 else bt x j = true)) := by
  intro j hj
  rw [h, b_set hi hj, Bool.or_eq_true, decide_eq_true_iff]
  by_cases q : j = i
  · rw [if_pos q]; exact ⟨fun _ => rfl, fun _ => Or.inr q⟩
  · rw [if_neg q]; exact ⟨fun z => z.resolve_right q, Or.inl⟩
theorem bit_n {x y : Int32} {i : Nat} (hi : i < 32) (h : y = x &&& (((1 : Int32) <<< (nI i &&& 31)) ^^^ (-1 : Int32))) : ∀ j, j < 32 → (bt y j = true ↔ (if j = i then (0 : Int32) = 1 else bt x j = true)) := by
  intro j hj
  rw [h, b_clr hi hj, Bool.and_eq_true]
  by_cases q : j = i
  · rw [if_pos q, decide_eq_true q]; exact ⟨fun z => absurd z.2 (by decide), fun z => absurd z (by decide)⟩
  · rw [if_neg q, decide_eq_false q]; exact ⟨fun z => z.1, fun z => ⟨z, rfl⟩⟩
theorem E_X1_draw {W : jWd} {n : Nat} {a0 : Nat} {h : jH} {q : Int32 × jH} (R : rodE (oc h) a0 W) (hf : F_X1_draw n a0 h = some q) : q.1 = rnW (sdW (W 10)) ∧ oc q.2 = u2 (oc h) a0 16 (.int (sdW (W 10))) ∧ q.2.1 = h.1 := by
  unfold F_X1_draw at hf
  obtain ⟨⟨s0, s1, s2, s3, s4, s5⟩, ⟨u5, u10, u11, u12, u13, u14, u15, u16, u17⟩, RB, RC, RL⟩ := id R
  replace hf := jbind hf
  obtain ⟨v4, e1, hf⟩ := hf
  have r1 := oc_gI e1
  subst r1
  clear e1
  replace hf := jbind hf
  obtain ⟨h12, e2, hf⟩ := hf
  obtain ⟨o2, z2⟩ := oc_pf e2
  clear e2
  replace hf := jbind hf
  obtain ⟨v16, e3, hf⟩ := hf
  have r3 := oc_gI e3
  rw [o2] at r3
  rw [oi_eq] at r3
  subst r3
  clear e3
  cases hf
  -- leaf : (((jushr v16 (16 : Int32)) &&& (32767 : Int32)) - ((jushr v16 (16 : Int32)) &&& (32767 : Int32)) / (
  rw [u16] at o2 ⊢
  exact ⟨rfl, o2, z2⟩
theorem E_X1_fadeAll_2 {n : Nat} {l : Nat} : ∀ (k : Nat) {a0 : Nat} {a1 : Nat} {x2 : Int32} {h : jH} {q : jH} (W : jWd) (i : Nat) (m : Nat) (C : clkE (oc h) a0 l a1 W) (D : clkD a0 l a1) (hx : x2 = nI i) (hm : ((i + m : Nat) : Int) = (W 0).toInt), F_X1_fadeAll_2 n k a0 a1 x2 h = some q → clkE (oc q) a0 l a1 (itW fd1 i m W 0).1 ∧ frRL a1 l (oc h) (oc q) ∧ q.1 = h.1
  | 0, a0, a1, x2, h, q, W, i, m, C, D, hx, hm, hf => by cases hf
  | k + 1, a0, a1, x2, h, q, W, i, m, C, D, hx, hm, hf => by
    replace hf : F_X1_fadeAll_2_b n (F_X1_fadeAll_2 n k) a0 a1 x2 h = some q := hf
    unfold F_X1_fadeAll_2_b at hf
    obtain ⟨C1, R, LE, K⟩ := id C
    obtain ⟨⟨s0, s1, s2, s3, s4, s5⟩, ⟨u5, u10, u11, u12, u13, u14, u15, u16, u17⟩, RB, RC, RL⟩ := id R
    have K0 := K.1
    replace hf := jbind hf
    obtain ⟨v4, e1, hf⟩ := hf
    have r1 := oc_gI e1
    subst r1
    clear e1
    replace hf := jite hf
    rcases hf with ⟨c2, hf⟩ | ⟨c2, hf⟩
    · skip
      cases hf
      -- leaf 0: h
      rw [hx, u5, nI_eI (by omega)] at c2
      have : m = 0 := by omega
      subst this
      exact ⟨C, frRL_rfl, rfl⟩
    · skip
      replace hf := jbind hf
      obtain ⟨p11, e3, hf⟩ := hf
      have r3 := oc_gR e3
      rw [s2] at r3
      cases r3
      clear e3
      replace hf := jbind hf
      obtain ⟨p18, e4, hf⟩ := hf
      have r4 := oc_gR e4
      rw [s2] at r4
      cases r4
      clear e4
      replace hf := jbind hf
      obtain ⟨v22, e5, hf⟩ := hf
      obtain ⟨r5, y5⟩ := oc_al e5
      subst r5
      clear e5
      replace hf := jbind hf
      obtain ⟨p24, e6, hf⟩ := hf
      have r6 := oc_gR e6
      rw [C1] at r6
      cases r6
      clear e6
      replace hf := jbind hf
      obtain ⟨q30, e7, hf⟩ := hf
      replace e7 := (jcv_o e7).2
      replace hf := jbind hf
      obtain ⟨h37, e8, hf⟩ := hf
      obtain ⟨o8, z8, y8⟩ := oc_as e8
      rw [jnar0] at o8
      clear e8
      -- leaf 1: rc2 a0 a1 (x2 + (1 : Int32)) h37
      have hi : (i : Int) < (W 0).toInt := by rw [hx, u5, nI_eI (by omega)] at c2; omega
      obtain ⟨m, rfl⟩ : ∃ p, m = p + 1 := ⟨m - 1, by omega⟩
      obtain ⟨b1, b2, b3⟩ := E_X2_amount R K hi LE D.1 hx e7
      have C2 := clk_L C D b2
      have R2 := C2.2.1
      rw [hx, nI_cl (by omega), (RB i hi).2.2.2.2.1, b1] at o8
      obtain ⟨g1, g2⟩ := wOK_fd K (lawK_of LE) (lawB_of LE) hi
      have f3 : frR a1 (oc q30.2) (oc h37) := by rw [o8]; exact frR_u2 (by omega)
      have C3 : clkE (oc h37) a0 l a1 (fd1 W i).1 := clk_R C2 D f3 (by rw [o8]; exact rodE_fd R2 (by omega)) g1 (fun k hk => g2 k (by omega))
      obtain ⟨d1, d2, d3⟩ := E_X1_fadeAll_2 k (fd1 W i).1 (i + 1) m C3 D (by rw [hx, nI_1]) (by rw [g2 0 (by omega)]; omega) hf
      refine ⟨?_, frRL_tr (frRL_tr (frRL_L b2) (frRL_R f3)) d2, d3.trans (z8.trans b3)⟩
      have e : (itW fd1 i (m + 1) W 0).1 = (itW fd1 (i + 1) m (fd1 W i).1 0).1 := rfl
      rw [e]
      exact d1
theorem E_X1_catchSome_4 {n : Nat} {l : Nat} : ∀ (k : Nat) {a0 : Nat} {a1 : Nat} {x2 : Int32} {x3 : Int32} {h : jH} {q : Int32 × jH} (W : jWd) (i : Nat) (m : Nat) (C : clkE (oc h) a0 l a1 W) (D : clkD a0 l a1) (hx : x3 = nI i) (hm : ((i + m : Nat) : Int) = (W 0).toInt), F_X1_catchSome_4 n k a0 a1 x2 x3 h = some q → clkE (oc q.2) a0 l a1 (itW ct1 i m W x2).1 ∧ q.1 = (itW ct1 i m W x2).2 ∧ frRL a1 l (oc h) (oc q.2) ∧ q.2.1 = h.1
  | 0, a0, a1, x2, x3, h, q, W, i, m, C, D, hx, hm, hf => by cases hf
  | k + 1, a0, a1, x2, x3, h, q, W, i, m, C, D, hx, hm, hf => by
    replace hf : F_X1_catchSome_4_b n (F_X1_catchSome_4 n k) a0 a1 x2 x3 h = some q := hf
    unfold F_X1_catchSome_4_b at hf
    obtain ⟨C1, R, LE, K⟩ := id C
    obtain ⟨⟨s0, s1, s2, s3, s4, s5⟩, ⟨u5, u10, u11, u12, u13, u14, u15, u16, u17⟩, RB, RC, RL⟩ := id R
    have K0 := K.1
    replace hf := jbind hf
    obtain ⟨v6, e1, hf⟩ := hf
    have r1 := oc_gI e1
    subst r1
    clear e1
    replace hf := jite hf
    rcases hf with ⟨c2, hf⟩ | ⟨c2, hf⟩
    · skip
      cases hf
      -- leaf 0: (x2, h)
      rw [hx, u5, nI_eI (by omega)] at c2
      have : m = 0 := by omega
      subst this
      exact ⟨C, rfl, frRL_rfl, rfl⟩
    · skip
      replace hf := jbind hf
      obtain ⟨v15, e3, hf⟩ := hf
      replace e3 := (jcv_o e3).2
      have hi : (i : Int) < (W 0).toInt := by rw [hx, u5, nI_eI (by omega)] at c2; omega
      have r3 := E_X8_gap (i := i) R K hx (by omega) e3
      replace hf := jite hf
      rcases hf with ⟨c4, hf⟩ | ⟨c4, hf⟩
      · skip
        replace hf := jbind hf
        obtain ⟨v23, e5, hf⟩ := hf
        have r5 := oc_gI e5
        subst r5
        clear e5
        replace hf := jbind hf
        obtain ⟨v27, e6, hf⟩ := hf
        replace hf := jite hf
        rcases hf with ⟨c7, hf⟩ | ⟨c7, hf⟩
        · skip
          replace hf := jbind hf
          obtain ⟨q34, e8, hf⟩ := hf
          obtain ⟨d1, d2, d3⟩ := E_X1_draw R e8
          have f2 : frR a1 (oc h) (oc q34.2) := by rw [d2]; exact frR_u2 (by omega)
          have C2 : clkE (oc q34.2) a0 l a1 (upd W 10 (sdW (W 10))) := clk_R C D f2 (by rw [d2]; exact rodE_i16 R) (wOK_10 K) (fun k hk => upd_ne (by omega))
          obtain ⟨C1b, Rb, LEb, Kb⟩ := id C2
          obtain ⟨⟨s0b, s1b, s2b, s3b, s4b, s5b⟩, ⟨u5b, u10b, u11b, u12b, u13b, u14b, u15b, u16b, u17b⟩, RBb, RCb, RLb⟩ := id Rb
          replace hf := jbind hf
          obtain ⟨p38, e9, hf⟩ := hf
          have r9 := oc_gR e9
          rw [C1b] at r9
          cases r9
          clear e9
          replace hf := jbind hf
          obtain ⟨q44, e10, hf⟩ := hf
          replace e10 := (jcv_o e10).2
          have w0 : upd W 10 (sdW (W 10)) 0 = W 0 := upd_ne (by omega)
          obtain ⟨b1, b2, b3⟩ := E_X2_amount Rb Kb (by rw [w0]; exact hi) LEb D.1 hx e10
          have C3 := clk_L C2 D b2
          obtain ⟨C1c, Rc, LEc, Kc⟩ := id C3
          obtain ⟨⟨s0c, s1c, s2c, s3c, s4c, s5c⟩, ⟨u5c, u10c, u11c, u12c, u13c, u14c, u15c, u16c, u17c⟩, RBc, RCc, RLc⟩ := id Rc
          replace hf := jite hf
          rcases hf with ⟨c11, hf⟩ | ⟨c11, hf⟩
          · skip
            -- leaf 1000: rc4 a0 a1 x2 (x3 + (1 : Int32)) q44.2
            replace e6 := Option.some.inj (show some ((jushr (oi (oc h) a1 9) x3) &&& (1 : Int32)) = some v27 from e6)
            rw [hx, bitW (by omega) (RB i hi).2.2.2.2.2.2.2 (K.2.1 i hi).2.2.2.2.2.2.2] at e6
            have cond : ((i : Int) + 1 < (W 0).toInt ∧ W (11 + 8 * (i + 1)) - W (11 + 8 * i) = 1) ∧ W (18 + 8 * i) ≠ 1 := by
              have lt : (i : Int) + 1 < (W 0).toInt := Classical.byContradiction fun z => by rw [r3, if_neg z] at c4; exact absurd c4 (by decide)
              rw [r3, if_pos lt] at c4
              exact ⟨⟨lt, c4⟩, by rw [e6, c7]; decide⟩
            obtain ⟨m, rfl⟩ : ∃ p, m = p + 1 := ⟨m - 1, by omega⟩
            have nl : ¬ rnW (sdW (W 10)) < byW (upd W 10 (sdW (W 10))) 1 i := by rw [← d1, ← b1, Int32.lt_iff_toInt_lt]; rw [Int32.le_iff_toInt_le] at c11; omega
            rw [it_z (ct_1 cond nl)]
            obtain ⟨g1, g2, g3, g4⟩ := E_X1_catchSome_4 k (upd W 10 (sdW (W 10))) (i + 1) m C3 D (by rw [hx, nI_1]) (by rw [w0]; omega) hf
            exact ⟨g1, g2, frRL_tr (frRL_tr (frRL_R f2) (frRL_L b2)) g3, g4.trans (b3.trans d3)⟩
          · skip
            replace hf := jbind hf
            obtain ⟨v52, e12, hf⟩ := hf
            have r12 := oc_gI e12
            subst r12
            clear e12
            replace hf := jbind hf
            obtain ⟨v57, e13, hf⟩ := hf
            replace hf := jbind hf
            obtain ⟨h60, e14, hf⟩ := hf
            obtain ⟨o14, z14⟩ := oc_pf e14
            clear e14
            replace hf := jbind hf
            obtain ⟨p64, e15, hf⟩ := hf
            have r15 := oc_gR e15
            rw [o14] at r15
            rw [u2_ne (Or.inr (by decide))] at r15
            rw [s4c] at r15
            cases r15
            clear e15
            replace hf := jbind hf
            obtain ⟨h71, e16, hf⟩ := hf
            replace e16 := (jcv_o e16).2
            -- leaf 1001: rc4 a0 a1 (x2 + (1 : Int32)) (x3 + (1 : Int32)) h71
            replace e6 := Option.some.inj (show some ((jushr (oi (oc h) a1 9) x3) &&& (1 : Int32)) = some v27 from e6)
            rw [hx, bitW (by omega) (RB i hi).2.2.2.2.2.2.2 (K.2.1 i hi).2.2.2.2.2.2.2] at e6
            have cond : ((i : Int) + 1 < (W 0).toInt ∧ W (11 + 8 * (i + 1)) - W (11 + 8 * i) = 1) ∧ W (18 + 8 * i) ≠ 1 := by
              have lt : (i : Int) + 1 < (W 0).toInt := Classical.byContradiction fun z => by rw [r3, if_neg z] at c4; exact absurd c4 (by decide)
              rw [r3, if_pos lt] at c4
              exact ⟨⟨lt, c4⟩, by rw [e6, c7]; decide⟩
            obtain ⟨m, rfl⟩ : ∃ p, m = p + 1 := ⟨m - 1, by omega⟩
            have nl : rnW (sdW (W 10)) < byW (upd W 10 (sdW (W 10))) 1 i := by rw [← d1, ← b1, Int32.lt_iff_toInt_lt]; rw [Int32.le_iff_toInt_le] at c11; omega
            rw [it_s (ct_2 cond nl)]
            replace e13 := Option.some.inj (show some (oi (oc q44.2) a1 9 ||| ((1 : Int32) <<< (x3 &&& 31))) = some v57 from e13)
            have R4 : rodE (oc h60) a1 (upd (upd W 10 (sdW (W 10))) (18 + 8 * i) 1) := by
              rw [o14]
              exact rodE_ct Rc (by rw [w0]; exact hi) (by omega) (bit_y (by omega) (by rw [← e13, hx])) (by rw [w0]; exact K0)
            have f4 : frR a1 (oc q44.2) (oc h60) := by rw [o14]; exact frR_u2 (by omega)
            have K4 : wOK (upd (upd W 10 (sdW (W 10))) (18 + 8 * i) 1) := wOK_ct Kc (Or.inr ⟨rfl, by rw [w0]; exact cond.1.1⟩)
            have w4 : upd (upd W 10 (sdW (W 10))) (18 + 8 * i) 1 0 = W 0 := (upd_ne (by omega)).trans w0
            obtain ⟨R5, f5, z5⟩ := E_X5_add (r := i) (kind := 1) (far := 0) rfl R4 K4 hx (by rw [w4]; exact hi) rfl (by decide) rfl (by decide) e16
            have C5 := clk_R C3 D (frR_tr f4 f5) R5 (wOK_tl K4) (fun k hk => (tlW_n (by omega)).trans (upd_ne (by omega)))
            obtain ⟨g1, g2, g3, g4⟩ := E_X1_catchSome_4 k _ (i + 1) m C5 D (by rw [hx, nI_1]) (by rw [tlW_n (Or.inl (by omega)), w4]; omega) hf
            exact ⟨g1, g2, frRL_tr (frRL_tr (frRL_tr (frRL_R f2) (frRL_L b2)) (frRL_R (frR_tr f4 f5))) g3, g4.trans (z5.trans (z14.trans (b3.trans d3)))⟩
        · skip
          -- leaf 101: rc4 a0 a1 x2 (x3 + (1 : Int32)) h
          replace e6 := Option.some.inj (show some ((jushr (oi (oc h) a1 9) x3) &&& (1 : Int32)) = some v27 from e6)
          rw [hx, bitW (by omega) (RB i hi).2.2.2.2.2.2.2 (K.2.1 i hi).2.2.2.2.2.2.2] at e6
          obtain ⟨m, rfl⟩ : ∃ p, m = p + 1 := ⟨m - 1, by omega⟩
          rw [it_z (ct_0 (fun z => by have := (K.2.1 i hi).2.2.2.2.2.2.2; rw [e6] at this z; exact z.2 (this.resolve_left c7)))]
          exact E_X1_catchSome_4 k W (i + 1) m C D (by rw [hx, nI_1]) (by omega) hf
      · skip
        -- leaf 11: rc4 a0 a1 x2 (x3 + (1 : Int32)) h
        obtain ⟨m, rfl⟩ : ∃ p, m = p + 1 := ⟨m - 1, by omega⟩
        rw [it_z (ct_0 (fun z => c4 (by rw [r3, if_pos z.1.1]; exact z.1.2)))]
        exact E_X1_catchSome_4 k W (i + 1) m C D (by rw [hx, nI_1]) (by omega) hf
theorem E_X1_dropSome_4 {n : Nat} {l : Nat} : ∀ (k : Nat) {a0 : Nat} {a1 : Nat} {x2 : Int32} {x3 : Int32} {h : jH} {q : Int32 × jH} (W : jWd) (i : Nat) (m : Nat) (C : clkE (oc h) a0 l a1 W) (D : clkD a0 l a1) (hx : x3 = nI i) (hm : ((i + m : Nat) : Int) = (W 0).toInt), F_X1_dropSome_4 n k a0 a1 x2 x3 h = some q → clkE (oc q.2) a0 l a1 (itW fl1 i m W x2).1 ∧ q.1 = (itW fl1 i m W x2).2 ∧ frRL a1 l (oc h) (oc q.2) ∧ q.2.1 = h.1
  | 0, a0, a1, x2, x3, h, q, W, i, m, C, D, hx, hm, hf => by cases hf
  | k + 1, a0, a1, x2, x3, h, q, W, i, m, C, D, hx, hm, hf => by
    replace hf : F_X1_dropSome_4_b n (F_X1_dropSome_4 n k) a0 a1 x2 x3 h = some q := hf
    unfold F_X1_dropSome_4_b at hf
    obtain ⟨C1, R, LE, K⟩ := id C
    obtain ⟨⟨s0, s1, s2, s3, s4, s5⟩, ⟨u5, u10, u11, u12, u13, u14, u15, u16, u17⟩, RB, RC, RL⟩ := id R
    have K0 := K.1
    replace hf := jbind hf
    obtain ⟨v6, e1, hf⟩ := hf
    have r1 := oc_gI e1
    subst r1
    clear e1
    replace hf := jite hf
    rcases hf with ⟨c2, hf⟩ | ⟨c2, hf⟩
    · skip
      cases hf
      -- leaf 0: (x2, h)
      rw [hx, u5, nI_eI (by omega)] at c2
      have : m = 0 := by omega
      subst this
      exact ⟨C, rfl, frRL_rfl, rfl⟩
    · skip
      replace hf := jbind hf
      obtain ⟨v13, e3, hf⟩ := hf
      have r3 := oc_gI e3
      subst r3
      clear e3
      replace hf := jbind hf
      obtain ⟨v17, e4, hf⟩ := hf
      replace hf := jite hf
      rcases hf with ⟨c5, hf⟩ | ⟨c5, hf⟩
      · skip
        replace hf := jbind hf
        obtain ⟨q25, e6, hf⟩ := hf
        have hi : (i : Int) < (W 0).toInt := by rw [hx, u5, nI_eI (by omega)] at c2; omega
        obtain ⟨d1, d2, d3⟩ := E_X1_draw R e6
        have f2 : frR a1 (oc h) (oc q25.2) := by rw [d2]; exact frR_u2 (by omega)
        have C2 : clkE (oc q25.2) a0 l a1 (upd W 10 (sdW (W 10))) := clk_R C D f2 (by rw [d2]; exact rodE_i16 R) (wOK_10 K) (fun k hk => upd_ne (by omega))
        obtain ⟨C1b, Rb, LEb, Kb⟩ := id C2
        obtain ⟨⟨s0b, s1b, s2b, s3b, s4b, s5b⟩, ⟨u5b, u10b, u11b, u12b, u13b, u14b, u15b, u16b, u17b⟩, RBb, RCb, RLb⟩ := id Rb
        replace hf := jbind hf
        obtain ⟨p29, e7, hf⟩ := hf
        have r7 := oc_gR e7
        rw [C1b] at r7
        cases r7
        clear e7
        replace hf := jbind hf
        obtain ⟨q35, e8, hf⟩ := hf
        replace e8 := (jcv_o e8).2
        have w0 : upd W 10 (sdW (W 10)) 0 = W 0 := upd_ne (by omega)
        obtain ⟨b1, b2, b3⟩ := E_X2_amount Rb Kb (by rw [w0]; exact hi) LEb D.1 hx e8
        have C3 := clk_L C2 D b2
        obtain ⟨C1c, Rc, LEc, Kc⟩ := id C3
        obtain ⟨⟨s0c, s1c, s2c, s3c, s4c, s5c⟩, ⟨u5c, u10c, u11c, u12c, u13c, u14c, u15c, u16c, u17c⟩, RBc, RCc, RLc⟩ := id Rc
        replace hf := jite hf
        rcases hf with ⟨c9, hf⟩ | ⟨c9, hf⟩
        · skip
          -- leaf 100: rc4 a0 a1 x2 (x3 + (1 : Int32)) q35.2
          replace e4 := Option.some.inj (show some ((jushr (oi (oc h) a1 8) x3) &&& (1 : Int32)) = some v17 from e4)
          rw [hx, bitW (by omega) (RB i hi).2.2.2.2.2.2.1 (K.2.1 i hi).2.2.2.2.2.2.1] at e4
          have cond : W (17 + 8 * i) = 1 := e4.trans c5
          obtain ⟨m, rfl⟩ : ∃ p, m = p + 1 := ⟨m - 1, by omega⟩
          have nl : ¬ rnW (sdW (W 10)) < byW (upd W 10 (sdW (W 10))) 2 i := by rw [← d1, ← b1, Int32.lt_iff_toInt_lt]; rw [Int32.le_iff_toInt_le] at c9; omega
          rw [it_z (fl_1 cond nl)]
          obtain ⟨g1, g2, g3, g4⟩ := E_X1_dropSome_4 k (upd W 10 (sdW (W 10))) (i + 1) m C3 D (by rw [hx, nI_1]) (by rw [w0]; omega) hf
          exact ⟨g1, g2, frRL_tr (frRL_tr (frRL_R f2) (frRL_L b2)) g3, g4.trans (b3.trans d3)⟩
        · skip
          replace hf := jbind hf
          obtain ⟨v43, e10, hf⟩ := hf
          have r10 := oc_gI e10
          subst r10
          clear e10
          replace hf := jbind hf
          obtain ⟨v48, e11, hf⟩ := hf
          replace hf := jbind hf
          obtain ⟨h51, e12, hf⟩ := hf
          obtain ⟨o12, z12⟩ := oc_pf e12
          clear e12
          replace hf := jbind hf
          obtain ⟨p55, e13, hf⟩ := hf
          have r13 := oc_gR e13
          rw [o12] at r13
          rw [u2_ne (Or.inr (by decide))] at r13
          rw [s4c] at r13
          cases r13
          clear e13
          replace hf := jbind hf
          obtain ⟨h62, e14, hf⟩ := hf
          replace e14 := (jcv_o e14).2
          -- leaf 101: rc4 a0 a1 (x2 + (1 : Int32)) (x3 + (1 : Int32)) h62
          replace e4 := Option.some.inj (show some ((jushr (oi (oc h) a1 8) x3) &&& (1 : Int32)) = some v17 from e4)
          rw [hx, bitW (by omega) (RB i hi).2.2.2.2.2.2.1 (K.2.1 i hi).2.2.2.2.2.2.1] at e4
          have cond : W (17 + 8 * i) = 1 := e4.trans c5
          obtain ⟨m, rfl⟩ : ∃ p, m = p + 1 := ⟨m - 1, by omega⟩
          have nl : rnW (sdW (W 10)) < byW (upd W 10 (sdW (W 10))) 2 i := by rw [← d1, ← b1, Int32.lt_iff_toInt_lt]; rw [Int32.le_iff_toInt_le] at c9; omega
          rw [it_s (fl_2 cond nl)]
          replace e11 := Option.some.inj (show some (oi (oc q35.2) a1 8 &&& (((1 : Int32) <<< (x3 &&& 31)) ^^^ (-1 : Int32))) = some v48 from e11)
          have R4 : rodE (oc h51) a1 (upd (upd W 10 (sdW (W 10))) (17 + 8 * i) 0) := by
            rw [o12]
            exact rodE_hk Rc (by rw [w0]; exact hi) (by omega) (bit_n (by omega) (by rw [← e11, hx])) (by rw [w0]; exact K0)
          have f4 : frR a1 (oc q35.2) (oc h51) := by rw [o12]; exact frR_u2 (by omega)
          have K4 : wOK (upd (upd W 10 (sdW (W 10))) (17 + 8 * i) 0) := wOK_hk Kc (Or.inl rfl)
          have w4 : upd (upd W 10 (sdW (W 10))) (17 + 8 * i) 0 0 = W 0 := (upd_ne (by omega)).trans w0
          obtain ⟨R5, f5, z5⟩ := E_X5_add (r := i) (kind := 2) (far := 0) rfl R4 K4 hx (by rw [w4]; exact hi) rfl (by decide) rfl (by decide) e14
          have C5 := clk_R C3 D (frR_tr f4 f5) R5 (wOK_tl K4) (fun k hk => (tlW_n (by omega)).trans (upd_ne (by omega)))
          obtain ⟨g1, g2, g3, g4⟩ := E_X1_dropSome_4 k _ (i + 1) m C5 D (by rw [hx, nI_1]) (by rw [tlW_n (Or.inl (by omega)), w4]; omega) hf
          exact ⟨g1, g2, frRL_tr (frRL_tr (frRL_tr (frRL_R f2) (frRL_L b2)) (frRL_R (frR_tr f4 f5))) g3, g4.trans (z5.trans (z12.trans (b3.trans d3)))⟩
      · skip
        -- leaf 11: rc4 a0 a1 x2 (x3 + (1 : Int32)) h
        have hi : (i : Int) < (W 0).toInt := by rw [hx, u5, nI_eI (by omega)] at c2; omega
        replace e4 := Option.some.inj (show some ((jushr (oi (oc h) a1 8) x3) &&& (1 : Int32)) = some v17 from e4)
        rw [hx, bitW (by omega) (RB i hi).2.2.2.2.2.2.1 (K.2.1 i hi).2.2.2.2.2.2.1] at e4
        obtain ⟨m, rfl⟩ : ∃ p, m = p + 1 := ⟨m - 1, by omega⟩
        rw [it_z (fl_0 (fun z => c5 (e4.symm.trans z)))]
        exact E_X1_dropSome_4 k W (i + 1) m C D (by rw [hx, nI_1]) (by omega) hf
