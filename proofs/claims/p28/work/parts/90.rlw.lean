/-! lines of the reference's law -/
def lawK (W : jWd) : Prop := (W 2 = 0 ∨ W 2 = 1) ∧ (W 2 = 1 → (0 ≤ (W 435).toInt ∧ (W 435).toInt ≤ 12) ∧ ∀ i : Nat, (i : Int) < (W 435).toInt → 0 ≤ (W (438 + 4 * i)).toInt ∧ (W (438 + 4 * i)).toInt ≤ (W (439 + 4 * i)).toInt ∧ (W (439 + 4 * i)).toInt ≤ 400 ∧ (∃ ty, tyR W (W (438 + 4 * i)).toInt.toNat ((W (439 + 4 * i)).toInt.toNat - (W (438 + 4 * i)).toInt.toNat) = some ty ∧ (ty = [] ∨ ty = [true])))
theorem lawK_of {O : jO} {l : Nat} {W : jWd} (L : lawE O l W) : lawK W := by
  obtain ⟨-, -, a, b⟩ := L
  refine ⟨a, fun z => ?_⟩
  obtain ⟨-, c, d⟩ := b z
  refine ⟨c, fun i hi => ?_⟩
  obtain ⟨-, -, -, -, e5, e6, e7, -, -, -, e11⟩ := d i (by omega)
  exact ⟨e5, e6, e7, e11⟩
def vstk (O : jO) (m : Nat) (st : List Int32) : Prop := ∀ k, k < st.length → oi O (m + 8) k = st.getD (st.length - 1 - k) 0
theorem vstk_p {O : jO} {m : Nat} {st : List Int32} {v : Int32} (T : vstk O m st) : vstk (u2 O (m + 8) st.length (.int v)) m (v :: st) := by
  intro k hk
  have hk : k < st.length + 1 := hk
  by_cases y : k = st.length
  · subst y
    rw [oi_eq]
    show v = (v :: st).getD (st.length + 1 - 1 - st.length) 0
    rw [show st.length + 1 - 1 - st.length = 0 by omega]
    rfl
  · rw [oi_ne (Or.inr y), T k (by omega)]
    show _ = (v :: st).getD (st.length + 1 - 1 - k) 0
    rw [show st.length + 1 - 1 - k = (st.length - 1 - k) + 1 by omega]
    rfl
theorem vstk_o {O : jO} {m : Nat} {st : List Int32} {v : Int32} (T : vstk O m (v :: st)) : vstk O m st := by
  intro k hk
  rw [T k (show k < st.length + 1 by omega)]
  show (v :: st).getD (st.length + 1 - 1 - k) 0 = _
  rw [show st.length + 1 - 1 - k = (st.length - 1 - k) + 1 by omega]
  rfl
theorem vstk_t {O : jO} {m : Nat} {st : List Int32} {v : Int32} (T : vstk O m (v :: st)) : oi O (m + 8) st.length = v := by
  rw [T st.length (show st.length < st.length + 1 by omega)]
  show (v :: st).getD (st.length + 1 - 1 - st.length) 0 = v
  rw [show st.length + 1 - 1 - st.length = 0 by omega]
  rfl
theorem nI_c484 {t : Nat} : (484 : Int32) + ((2 : Int32) * nI t) = nI (484 + 2 * t) := by
  show nI 484 + nI 2 * nI t = _
  rw [nI_mul, nI_add]
theorem nI_c436 {t : Nat} : (436 : Int32) + ((4 : Int32) * nI t) = nI (436 + 4 * t) := by
  show nI 436 + nI 4 * nI t = _
  rw [nI_mul, nI_add]
theorem nI_m1 {y : Nat} : nI (y + 1) + (-1 : Int32) = nI y := by
  rw [nI_succ, Int32.add_assoc]
  exact Int32.add_zero _
theorem E_X12_222 {n : Nat} {rc22 : Nat → Int32 → Int32 → Int32 → Int32 → jH → Option (Int32 × jH)} {a0 : Nat} {x2 x3 x4 x5 x6 x7 x8 s0 : Int32} {h : jH} {q : Int32 × jH} {L : Nat} (M : mS (oc h) a0) (h3 : x3 = nI (L + 1)) (hl : L < 1000) (hf : F_X12_holdsLine_222 n rc22 a0 x2 x3 x4 x5 x6 x7 x8 s0 h = some q) : ∃ h2, oc h2 = u2 (oc h) (a0 + 8) L (.int (if x6 = 12 then x7 + x8 else if s0 = 0 then 0 else 1)) ∧ h2.1 = h.1 ∧ rc22 a0 x2 x3 x4 (x5 + (1 : Int32)) h2 = some q := by
  unfold F_X12_holdsLine_222 at hf
  obtain ⟨p225, e1, hf⟩ := jbind hf
  have r1 := oc_gR e1
  rw [M.2.2.2.2.2.2.2.1] at r1
  cases r1
  have xi : (x3 - (1 : Int32)).toNatClampNeg = L := by rw [h3, nI_pred, nI_cl (by omega)]
  rcases jite hf with ⟨c, hf⟩ | ⟨c, hf⟩
  · obtain ⟨h2, e2, hf⟩ := jbind hf
    obtain ⟨o2, z2, -⟩ := oc_as e2
    rw [jnar0, xi] at o2
    exact ⟨h2, by rw [o2, if_pos c], z2, hf⟩
  · rcases jite hf with ⟨d, hf⟩ | ⟨d, hf⟩
    · obtain ⟨h2, e2, hf⟩ := jbind hf
      obtain ⟨o2, z2, -⟩ := oc_as e2
      rw [jnar0, xi] at o2
      exact ⟨h2, by rw [o2, if_neg c, if_pos d], z2, hf⟩
    · obtain ⟨h2, e2, hf⟩ := jbind hf
      obtain ⟨o2, z2, -⟩ := oc_as e2
      rw [jnar0, xi] at o2
      exact ⟨h2, by rw [o2, if_neg c, if_neg d], z2, hf⟩
theorem oi_M {m a k : Nat} {cs fs : List Nat} {O O2 : jO} (f : frM m cs fs O O2) (h : ∀ c ∈ cs, a ≠ m + c) (h2 : a = m → k ∉ fs) : oi O2 a k = oi O a k := by
  unfold oi
  rw [f a k h h2]
theorem E_X12_isLit {W : jWd} {i : Nat} {n : Nat} {a0 : Nat} {x1 : Int32} {x2 : Int32} {h : jH} {q : Int32} (M : mS (oc h) a0) (hW : wl (oc h) a0 = W) (K : wOK W) (h1 : x1 = nI i) (hi : (i : Int) < (W 0).toInt) (hf : F_X12_isLit n a0 x1 x2 h = some q) : q = litW W i x2 := by
  unfold F_X12_isLit at hf
  obtain ⟨s1, s2, s3, s4, s5, s8, s15, s17, s19, s20, s21⟩ := id M
  have K0 := K.1
  replace hf := jbind hf
  obtain ⟨v3, e1, hf⟩ := hf
  replace e1 := (jcv_o e1).2
  have r1 := E_X12_of M (j := 0) (t := 11 + 8 * i) h1 rfl (by omega) (by omega) e1
  rw [hW] at r1
  subst r1
  replace hf := jbind hf
  obtain ⟨p13, e2, hf⟩ := hf
  have r2 := oc_gR e2
  rw [s1] at r2
  cases r2
  clear e2
  replace hf := jbind hf
  obtain ⟨v18, e3, hf⟩ := hf
  obtain ⟨r3, y3⟩ := oc_al e3
  rw [show (6 : Int32).toNatClampNeg = 6 from rfl] at r3
  subst r3
  clear e3
  replace hf := jbind hf
  obtain ⟨v20, e4, hf⟩ := hf
  have r4 := E_X12_in e4
  replace hf := jite hf
  rcases hf with ⟨c5, hf⟩ | ⟨c5, hf⟩
  · skip
    cases hf
    -- leaf 0: v20
    have w6 : oi (oc h) (a0 + 1) 6 = W 6 := by rw [← hW]
    rw [w6] at r4
    unfold litW
    by_cases z : (4 : Int32) * x2 ≤ W (11 + 8 * i) ∧ W (11 + 8 * i) ≤ (4 : Int32) * x2 + W 6
    · rw [if_pos z]; exact r4.2.mpr ⟨Int32.le_iff_toInt_le.mp z.1, Int32.le_iff_toInt_le.mp z.2⟩
    · rw [if_neg z]; exact r4.1.resolve_right (fun y => z ⟨Int32.le_iff_toInt_le.mpr (r4.2.mp y).1, Int32.le_iff_toInt_le.mpr (r4.2.mp y).2⟩)
  · skip
    cases hf
theorem E_X12_factOf {W : jWd} {i : Nat} {n : Nat} {a0 : Nat} {x1 : Int32} {x2 : Int32} {x3 : Int32} {h : jH} {q : Int32} (M : mS (oc h) a0) (hW : wl (oc h) a0 = W) (K : wOK W) (h3 : x3 = nI i) (hi : (i : Int) < (W 0).toInt) (hf : F_X12_factOf n a0 x1 x2 x3 h = some q) : q = factW W i x1 x2 := by
  unfold F_X12_factOf at hf
  obtain ⟨s1, s2, s3, s4, s5, s8, s15, s17, s19, s20, s21⟩ := id M
  have K0 := K.1
  have ww : ∀ k, oi (oc h) (a0 + 1) k = W k := fun k => by rw [← hW]
  replace hf := jite hf
  rcases hf with ⟨c1, hf⟩ | ⟨c1, hf⟩
  · skip
    cases hf
    -- leaf 0: x3
    rw [c1]
    exact h3
  · skip
    replace hf := jite hf
    rcases hf with ⟨c2, hf⟩ | ⟨c2, hf⟩
    · skip
      replace hf := jbind hf
      obtain ⟨v65, e3, hf⟩ := hf
      replace e3 := (jcv_o e3).2
      have r3 := E_X12_of M (j := 0) (t := 11 + 8 * i) h3 rfl (by omega) (by omega) e3
      rw [hW] at r3
      subst r3
      cases hf
      -- leaf 10: v65
      rw [c2]
      rfl
    · skip
      replace hf := jite hf
      rcases hf with ⟨c4, hf⟩ | ⟨c4, hf⟩
      · skip
        replace hf := jbind hf
        obtain ⟨v71, e5, hf⟩ := hf
        replace e5 := (jcv_o e5).2
        have r5 := E_X12_gapOf M (by rw [hW]; exact K) h3 (by rw [hW]; exact hi) e5
        rw [hW] at r5
        cases hf
        -- leaf 110: v71
        rw [c4]
        exact r5
      · skip
        replace hf := jite hf
        rcases hf with ⟨c6, hf⟩ | ⟨c6, hf⟩
        · skip
          replace hf := jbind hf
          obtain ⟨v78, e7, hf⟩ := hf
          replace e7 := (jcv_o e7).2
          have r7 := E_X12_of M (j := 4) (t := 15 + 8 * i) h3 rfl (by omega) (by omega) e7
          rw [hW] at r7
          subst r7
          cases hf
          -- leaf 1110: v78
          rw [c6]
          rfl
        · skip
          replace hf := jite hf
          rcases hf with ⟨c8, hf⟩ | ⟨c8, hf⟩
          · skip
            replace hf := jbind hf
            obtain ⟨v85, e9, hf⟩ := hf
            replace e9 := (jcv_o e9).2
            have r9 := E_X12_of M (j := 5) (t := 16 + 8 * i) h3 rfl (by omega) (by omega) e9
            rw [hW] at r9
            subst r9
            cases hf
            -- leaf 11110: v85
            rw [c8]
            rfl
          · skip
            replace hf := jite hf
            rcases hf with ⟨c10, hf⟩ | ⟨c10, hf⟩
            · skip
              replace hf := jbind hf
              obtain ⟨p90, e11, hf⟩ := hf
              have r11 := oc_gR e11
              rw [s1] at r11
              cases r11
              clear e11
              replace hf := jbind hf
              obtain ⟨v94, e12, hf⟩ := hf
              obtain ⟨r12, y12⟩ := oc_al e12
              rw [show (3 : Int32).toNatClampNeg = 3 from rfl] at r12
              subst r12
              clear e12
              cases hf
              -- leaf 111110: v94
              rw [c10]
              exact ww 3
            · skip
              replace hf := jite hf
              rcases hf with ⟨c13, hf⟩ | ⟨c13, hf⟩
              · skip
                replace hf := jbind hf
                obtain ⟨p97, e14, hf⟩ := hf
                have r14 := oc_gR e14
                rw [s1] at r14
                cases r14
                clear e14
                replace hf := jbind hf
                obtain ⟨v101, e15, hf⟩ := hf
                obtain ⟨r15, y15⟩ := oc_al e15
                rw [show (4 : Int32).toNatClampNeg = 4 from rfl] at r15
                subst r15
                clear e15
                cases hf
                -- leaf 1111110: v101
                rw [c13]
                exact ww 4
              · skip
                replace hf := jite hf
                rcases hf with ⟨c16, hf⟩ | ⟨c16, hf⟩
                · skip
                  replace hf := jbind hf
                  obtain ⟨v106, e17, hf⟩ := hf
                  replace e17 := (jcv_o e17).2
                  have r17 := E_X12_of M (j := 3) (t := 14 + 8 * i) h3 rfl (by omega) (by omega) e17
                  rw [hW] at r17
                  subst r17
                  cases hf
                  -- leaf 11111110: v106
                  rw [c16]
                  rfl
                · skip
                  replace hf := jite hf
                  rcases hf with ⟨c18, hf⟩ | ⟨c18, hf⟩
                  · skip
                    replace hf := jbind hf
                    obtain ⟨v113, e19, hf⟩ := hf
                    replace e19 := (jcv_o e19).2
                    have r19 := E_X12_of M (j := 2) (t := 13 + 8 * i) h3 rfl (by omega) (by omega) e19
                    rw [hW] at r19
                    subst r19
                    cases hf
                    -- leaf 111111110: v113
                    rw [c18]
                    rfl
                  · skip
                    replace hf := jite hf
                    rcases hf with ⟨c20, hf⟩ | ⟨c20, hf⟩
                    · skip
                      replace hf := jbind hf
                      obtain ⟨p120, e21, hf⟩ := hf
                      have r21 := oc_gR e21
                      rw [s1] at r21
                      cases r21
                      clear e21
                      replace hf := jbind hf
                      obtain ⟨v124, e22, hf⟩ := hf
                      obtain ⟨r22, y22⟩ := oc_al e22
                      rw [show (3 : Int32).toNatClampNeg = 3 from rfl] at r22
                      subst r22
                      clear e22
                      replace hf := jbind hf
                      obtain ⟨v125, e23, hf⟩ := hf
                      replace e23 := (jcv_o e23).2
                      have r23 := E_X12_isLit M hW K h3 hi e23
                      replace hf := jite hf
                      rcases hf with ⟨c24, hf⟩ | ⟨c24, hf⟩
                      · skip
                        cases hf
                        -- leaf 11111111100: (0 : Int32)
                        rw [c20]
                        rw [ww 3] at r23
                        exact (r23.symm.trans c24).symm
                      · skip
                        cases hf
                        -- leaf 11111111101: (1 : Int32)
                        rw [c20]
                        rw [ww 3] at r23
                        have l9 := litW_01 (W := W) (i := i) (h := W 3)
                        show 1 = litW W i (W 3)
                        rw [← r23] at l9 ⊢
                        exact (l9.resolve_left c24).symm
                    · skip
                      replace hf := jite hf
                      rcases hf with ⟨c25, hf⟩ | ⟨c25, hf⟩
                      · skip
                        replace hf := jbind hf
                        obtain ⟨v141, e26, hf⟩ := hf
                        replace e26 := (jcv_o e26).2
                        have r26 := E_X12_of M (j := 6) (t := 17 + 8 * i) h3 rfl (by omega) (by omega) e26
                        rw [hW] at r26
                        subst r26
                        cases hf
                        -- leaf 11111111110: v141
                        rw [c25]
                        rfl
                      · skip
                        cases hf
                        -- leaf 11111111111: x2
                        unfold factW
                        rw [if_neg c1, if_neg c2, if_neg c4, if_neg c6, if_neg c8, if_neg c10, if_neg c13, if_neg c16, if_neg c18, if_neg c20, if_neg c25]
theorem E_X12_holdsLine_22 {n : Nat} {W : jWd} {i : Nat} {a : Nat} {len : Nat} {ln : Nat} (K : wOK W) (hi : (i : Int) < (W 0).toInt) (hl : (W (439 + 4 * ln)).toInt = ((a + len : Nat) : Int)) (h4 : a + len ≤ 400 ∧ ln < 12) (hT : ∃ ty, tyR W a len = some ty ∧ (ty = [] ∨ ty = [true])) : ∀ (k : Nat) {a0 : Nat} {x2 : Int32} {x3 : Int32} {x4 : Int32} {x5 : Int32} {h : jH} {q : Int32 × jH} (t : Nat) (M : mS (oc h) a0) (hW : wl (oc h) a0 = W) (T : vstk (oc h) a0 (runC W i a t)) (hx2 : x2 = nI i) (hx3 : x3 = nI (runC W i a t).length) (hx4 : x4 = nI (436 + 4 * ln)) (hx5 : x5 = nI (a + t)) (ht : t ≤ len), F_X12_holdsLine_22 n k a0 x2 x3 x4 x5 h = some q → (q.1 = 0 ∨ q.1 = 1) ∧ (q.1 = 1 ↔ (runC W i a len).headD 1 = 1) ∧ frM a0 [8] [] (oc h) (oc q.2) ∧ q.2.1 = h.1
  | 0, a0, x2, x3, x4, x5, h, q, t, M, hW, T, hx2, hx3, hx4, hx5, ht, hf => by cases hf
  | k + 1, a0, x2, x3, x4, x5, h, q, t, M, hW, T, hx2, hx3, hx4, hx5, ht, hf => by
    replace hf : F_X12_holdsLine_22_b n (F_X12_holdsLine_22 n k) a0 x2 x3 x4 x5 h = some q := hf
    unfold F_X12_holdsLine_22_b at hf
    have K0 := K.1
    obtain ⟨s1, s2, s3, s4, s5, s8, s15, s17, s19, s20, s21⟩ := id M
    have ww : ∀ k, oi (oc h) (a0 + 1) k = W k := fun k => by rw [← hW]
    obtain ⟨ty9, ty1, ty2⟩ := hT
    obtain ⟨tk, tk1⟩ := tyR_pre (len - t) t (show tyR W a (t + (len - t)) = some ty9 by rw [show t + (len - t) = len by omega]; exact ty1)
    have tv := tyR_ok K hi t tk1
    have tl := tyV_len tv
    have t23 := tyR_len t tk1
    have i3 : x4 + (3 : Int32) = nI (439 + 4 * ln) := by rw [hx4]; show nI (436 + 4 * ln) + nI 3 = _; rw [nI_add]; congr 1; omega
    replace hf := jbind hf
    obtain ⟨p25, e1, hf⟩ := hf
    have r1 := oc_gR e1
    rw [s1] at r1
    cases r1
    clear e1
    replace hf := jbind hf
    obtain ⟨v32, e2, hf⟩ := hf
    obtain ⟨r2, y2⟩ := oc_al e2
    subst r2
    clear e2
    replace hf := jite hf
    rcases hf with ⟨c3, hf⟩ | ⟨c3, hf⟩
    · skip
      replace hf := jite hf
      rcases hf with ⟨c4, hf⟩ | ⟨c4, hf⟩
      · skip
        cases hf
        -- leaf 00: ((1 : Int32), h)
        rw [i3, nI_cl (by omega), ww, hx5, Int32.le_iff_toInt_le, nI_toInt (by omega), hl] at c3
        have et : t = len := by omega
        subst et
        have ek : tk = ty9 := Option.some.inj (tk1.symm.trans ty1)
        subst ek
        rw [hx3] at c4
        have e0 : (runC W i a t).length = 0 := by rw [show (0 : Int32) = nI 0 from rfl, nI_eq (by omega) (by omega)] at c4; exact c4
        rw [List.eq_nil_of_length_eq_zero e0]
        exact ⟨Or.inr rfl, ⟨fun _ => rfl, fun _ => rfl⟩, frM_rfl, rfl⟩
      · skip
        replace hf := jbind hf
        obtain ⟨p268, e5, hf⟩ := hf
        have r5 := oc_gR e5
        rw [s17] at r5
        cases r5
        clear e5
        replace hf := jbind hf
        obtain ⟨v272, e6, hf⟩ := hf
        obtain ⟨r6, y6⟩ := oc_al e6
        rw [show (0 : Int32).toNatClampNeg = 0 from rfl] at r6
        subst r6
        clear e6
        replace hf := jite hf
        rcases hf with ⟨c7, hf⟩ | ⟨c7, hf⟩
        · skip
          cases hf
          -- leaf 010: ((1 : Int32), h)
          rw [i3, nI_cl (by omega), ww, hx5, Int32.le_iff_toInt_le, nI_toInt (by omega), hl] at c3
          have et : t = len := by omega
          subst et
          have ek : tk = ty9 := Option.some.inj (tk1.symm.trans ty1)
          subst ek
          rcases ty2 with rfl | rfl
          · exfalso
            have e0 : (runC W i a t).length = 0 := tl.symm
            rw [hx3, e0] at c4
            exact c4 rfl
          obtain ⟨v, u, ev, v01, tu⟩ := tyV_1 tv
          have eu : u = [] := List.eq_nil_of_length_eq_zero (tyV_len tu).symm
          subst eu
          rw [ev] at T ⊢
          have tp := vstk_t T
          have tp : oi (oc h) (a0 + 8) 0 = v := tp
          rw [tp] at c7
          exact ⟨Or.inr rfl, ⟨fun _ => c7, fun _ => rfl⟩, frM_rfl, rfl⟩
        · skip
          cases hf
          -- leaf 011: ((0 : Int32), h)
          rw [i3, nI_cl (by omega), ww, hx5, Int32.le_iff_toInt_le, nI_toInt (by omega), hl] at c3
          have et : t = len := by omega
          subst et
          have ek : tk = ty9 := Option.some.inj (tk1.symm.trans ty1)
          subst ek
          rcases ty2 with rfl | rfl
          · exfalso
            have e0 : (runC W i a t).length = 0 := tl.symm
            rw [hx3, e0] at c4
            exact c4 rfl
          obtain ⟨v, u, ev, v01, tu⟩ := tyV_1 tv
          have eu : u = [] := List.eq_nil_of_length_eq_zero (tyV_len tu).symm
          subst eu
          rw [ev] at T ⊢
          have tp := vstk_t T
          have tp : oi (oc h) (a0 + 8) 0 = v := tp
          rw [tp] at c7
          exact ⟨Or.inl rfl, ⟨fun z => absurd (show (0 : Int32) = 1 from z) (by decide), fun z => absurd (show v = 1 from z) c7⟩, frM_rfl, rfl⟩
    · skip
      replace hf := jbind hf
      obtain ⟨p37, e8, hf⟩ := hf
      have r8 := oc_gR e8
      rw [s1] at r8
      cases r8
      clear e8
      replace hf := jbind hf
      obtain ⟨v48, e9, hf⟩ := hf
      obtain ⟨r9, y9⟩ := oc_al e9
      subst r9
      clear e9
      replace hf := jite hf
      rcases hf with ⟨c10, hf⟩ | ⟨c10, hf⟩
      · skip
        replace hf := jite hf
        rcases hf with ⟨c11, hf⟩ | ⟨c11, hf⟩
        · skip
          replace hf := jbind hf
          obtain ⟨p100, e12, hf⟩ := hf
          have r12 := oc_gR e12
          rw [s17] at r12
          cases r12
          clear e12
          replace hf := jbind hf
          obtain ⟨p108, e13, hf⟩ := hf
          have r13 := oc_gR e13
          rw [s17] at r13
          cases r13
          clear e13
          replace hf := jbind hf
          obtain ⟨v114, e14, hf⟩ := hf
          obtain ⟨r14, y14⟩ := oc_al e14
          subst r14
          clear e14
          replace hf := jbind hf
          obtain ⟨h116, e15, hf⟩ := hf
          obtain ⟨o15, z15, y15⟩ := oc_as e15
          rw [jnar0] at o15
          clear e15
          -- leaf 100: rc22 a0 x2 x3 x4 (x5 + (1 : Int32)) h116
          rw [i3, nI_cl (by omega), ww, hx5, Int32.le_iff_toInt_le, nI_toInt (by omega), hl] at c3
          have tl9 : t < len := by omega
          obtain ⟨tk2, tk3⟩ := tyR_nx ty1 tl9 tk1
          have s9 : oi (oc h) (a0 + 1) ((484 : Int32) + ((2 : Int32) * x5)).toNatClampNeg = W (484 + 2 * (a + t)) := by rw [hx5, nI_c484, nI_cl (by omega)]; exact ww _
          rw [s9] at c10 c11
          have n11 : ¬ (W (484 + 2 * (a + t))).toInt ≤ 11 := by rw [Int32.lt_iff_toInt_lt, show (11 : Int32).toInt = 11 from rfl] at c10; omega
          rw [c11] at tk3
          obtain ⟨r9, er⟩ := tyC_not tk3
          subst er
          obtain ⟨v, u, ev, v01, tu⟩ := tyV_1 tv
          rw [ev] at T hx3
          have hx3 : x3 = nI (u.length + 1) := hx3
          have ul := tyV_len tu
          have ul2 : r9.length + 1 ≤ 23 := t23
          rw [hx3, nI_pred, nI_cl (by omega), vstk_t T] at o15
          have fz : frM a0 [8] [] (oc h) (oc h116) := by rw [o15]; exact frM_c (by decide)
          have Wz : wl (oc h116) a0 = W := by rw [o15, wl_n (by omega)]; exact hW
          have er9 : runC W i a (t + 1) = (1 - v) :: u := by
            show stpC W i (W (484 + 2 * (a + t))) (W (485 + 2 * (a + t))) (runC W i a t) = _
            rw [ev]
            unfold stpC
            rw [if_neg n11, if_pos c11]
          have Tz : vstk (oc h116) a0 (runC W i a (t + 1)) := by rw [er9, o15]; exact vstk_p (vstk_o T)
          have Lz : x3 = nI (runC W i a (t + 1)).length := by rw [er9]; exact hx3
          have zz := z15
          obtain ⟨b1, b2, b3, b4⟩ := E_X12_holdsLine_22 K hi hl h4 ⟨ty9, ty1, ty2⟩ k (t + 1) (mS_fr M fz (by decide) (by decide)) Wz Tz hx2 Lz hx4 (by rw [hx5, nI_1]; rfl) (by omega) hf
          exact ⟨b1, b2, frM_tr fz b3, b4.trans zz⟩
        · skip
          replace hf := jbind hf
          obtain ⟨p124, e16, hf⟩ := hf
          have r16 := oc_gR e16
          rw [s17] at r16
          cases r16
          clear e16
          replace hf := jbind hf
          obtain ⟨v130, e17, hf⟩ := hf
          obtain ⟨r17, y17⟩ := oc_al e17
          subst r17
          clear e17
          replace hf := jbind hf
          obtain ⟨p134, e18, hf⟩ := hf
          have r18 := oc_gR e18
          rw [s17] at r18
          cases r18
          clear e18
          replace hf := jbind hf
          obtain ⟨v138, e19, hf⟩ := hf
          obtain ⟨r19, y19⟩ := oc_al e19
          subst r19
          clear e19
          replace hf := jite hf
          rcases hf with ⟨c20, hf⟩ | ⟨c20, hf⟩
          · skip
            replace hf := jite hf
            rcases hf with ⟨c21, hf⟩ | ⟨c21, hf⟩
            · skip
              -- leaf 10100: F_X12_holdsLine_222 n rc22 a0 x2 (x3 + (- 1 : Int32)) x4 x5 v48 v130 v138 (0 : Int32) h
              rw [i3, nI_cl (by omega), ww, hx5, Int32.le_iff_toInt_le, nI_toInt (by omega), hl] at c3
              have tl9 : t < len := by omega
              obtain ⟨tk2, tk3⟩ := tyR_nx ty1 tl9 tk1
              have s9 : oi (oc h) (a0 + 1) ((484 : Int32) + ((2 : Int32) * x5)).toNatClampNeg = W (484 + 2 * (a + t)) := by rw [hx5, nI_c484, nI_cl (by omega)]; exact ww _
              rw [s9] at c10 c11 c20 hf
              have n11 : ¬ (W (484 + 2 * (a + t))).toInt ≤ 11 := by rw [Int32.lt_iff_toInt_lt, show (11 : Int32).toInt = 11 from rfl] at c10; omega
              obtain ⟨x9, y9, r9, er, xy⟩ := tyC_bin (by omega) c11 tk3
              subst er
              obtain ⟨vb, u0, ev0, b01, tu0⟩ := tyV_1 tv
              obtain ⟨va, u, ev, a01, tu⟩ := tyV_1 tu0
              subst ev
              rw [ev0] at T hx3
              have hx3 : x3 = nI (u.length + 1 + 1) := hx3
              have ul := tyV_len tu
              have ul2 : r9.length + 1 + 1 ≤ 23 := t23
              have x1e : x3 + (-1 : Int32) = nI (u.length + 1) := by rw [hx3]; exact nI_m1
              have x2e : x3 + (-1 : Int32) - (1 : Int32) = nI u.length := by rw [x1e]; exact nI_pred _
              have ea : oi (oc h) (a0 + 8) (x3 + (-1 : Int32) - (1 : Int32)).toNatClampNeg = va := by rw [x2e, nI_cl (by omega)]; exact vstk_t (vstk_o T)
              have eb : oi (oc h) (a0 + 8) (x3 + (-1 : Int32)).toNatClampNeg = vb := by rw [x1e, nI_cl (by omega)]; exact vstk_t T
              rw [ea, eb] at hf
              rw [ea, eb] at c21
              have ov : (if W (484 + 2 * (a + t)) = 12 then va + vb else if (0 : Int32) = 0 then 0 else 1) = opW (W (484 + 2 * (a + t))) va vb := by
                rw [c20]
                show (0 : Int32) = if decide (va < vb) = true then 1 else 0
                rw [if_neg (by rw [decide_eq_true_iff, Int32.lt_iff_toInt_lt]; rw [Int32.le_iff_toInt_le] at c21; omega)]
              obtain ⟨h9, o9, z9, hf⟩ := E_X12_222 M x1e (by omega) hf
              rw [ov] at o9
              have fz : frM a0 [8] [] (oc h) (oc h9) := by rw [o9]; exact frM_c (by decide)
              have Wz : wl (oc h9) a0 = W := by rw [o9, wl_n (by omega)]; exact hW
              have er9 : runC W i a (t + 1) = opW (W (484 + 2 * (a + t))) va vb :: u := by
                show stpC W i (W (484 + 2 * (a + t))) (W (485 + 2 * (a + t))) (runC W i a t) = _
                rw [ev0]
                unfold stpC
                rw [if_neg n11, if_neg c11]
              have Tz : vstk (oc h9) a0 (runC W i a (t + 1)) := by rw [er9, o9]; exact vstk_p (vstk_o (vstk_o T))
              have Lz : x3 + (-1 : Int32) = nI (runC W i a (t + 1)).length := by rw [er9]; exact x1e
              have zz := z9
              obtain ⟨b1, b2, b3, b4⟩ := E_X12_holdsLine_22 K hi hl h4 ⟨ty9, ty1, ty2⟩ k (t + 1) (mS_fr M fz (by decide) (by decide)) Wz Tz hx2 Lz hx4 (by rw [hx5, nI_1]; rfl) (by omega) hf
              exact ⟨b1, b2, frM_tr fz b3, b4.trans zz⟩
            · skip
              -- leaf 10101: F_X12_holdsLine_222 n rc22 a0 x2 (x3 + (- 1 : Int32)) x4 x5 v48 v130 v138 (1 : Int32) h
              rw [i3, nI_cl (by omega), ww, hx5, Int32.le_iff_toInt_le, nI_toInt (by omega), hl] at c3
              have tl9 : t < len := by omega
              obtain ⟨tk2, tk3⟩ := tyR_nx ty1 tl9 tk1
              have s9 : oi (oc h) (a0 + 1) ((484 : Int32) + ((2 : Int32) * x5)).toNatClampNeg = W (484 + 2 * (a + t)) := by rw [hx5, nI_c484, nI_cl (by omega)]; exact ww _
              rw [s9] at c10 c11 c20 hf
              have n11 : ¬ (W (484 + 2 * (a + t))).toInt ≤ 11 := by rw [Int32.lt_iff_toInt_lt, show (11 : Int32).toInt = 11 from rfl] at c10; omega
              obtain ⟨x9, y9, r9, er, xy⟩ := tyC_bin (by omega) c11 tk3
              subst er
              obtain ⟨vb, u0, ev0, b01, tu0⟩ := tyV_1 tv
              obtain ⟨va, u, ev, a01, tu⟩ := tyV_1 tu0
              subst ev
              rw [ev0] at T hx3
              have hx3 : x3 = nI (u.length + 1 + 1) := hx3
              have ul := tyV_len tu
              have ul2 : r9.length + 1 + 1 ≤ 23 := t23
              have x1e : x3 + (-1 : Int32) = nI (u.length + 1) := by rw [hx3]; exact nI_m1
              have x2e : x3 + (-1 : Int32) - (1 : Int32) = nI u.length := by rw [x1e]; exact nI_pred _
              have ea : oi (oc h) (a0 + 8) (x3 + (-1 : Int32) - (1 : Int32)).toNatClampNeg = va := by rw [x2e, nI_cl (by omega)]; exact vstk_t (vstk_o T)
              have eb : oi (oc h) (a0 + 8) (x3 + (-1 : Int32)).toNatClampNeg = vb := by rw [x1e, nI_cl (by omega)]; exact vstk_t T
              rw [ea, eb] at hf
              rw [ea, eb] at c21
              have ov : (if W (484 + 2 * (a + t)) = 12 then va + vb else if (1 : Int32) = 0 then 0 else 1) = opW (W (484 + 2 * (a + t))) va vb := by
                rw [c20]
                show (1 : Int32) = if decide (va < vb) = true then 1 else 0
                rw [if_pos (by rw [decide_eq_true_iff, Int32.lt_iff_toInt_lt]; rw [Int32.le_iff_toInt_le] at c21; omega)]
              obtain ⟨h9, o9, z9, hf⟩ := E_X12_222 M x1e (by omega) hf
              rw [ov] at o9
              have fz : frM a0 [8] [] (oc h) (oc h9) := by rw [o9]; exact frM_c (by decide)
              have Wz : wl (oc h9) a0 = W := by rw [o9, wl_n (by omega)]; exact hW
              have er9 : runC W i a (t + 1) = opW (W (484 + 2 * (a + t))) va vb :: u := by
                show stpC W i (W (484 + 2 * (a + t))) (W (485 + 2 * (a + t))) (runC W i a t) = _
                rw [ev0]
                unfold stpC
                rw [if_neg n11, if_neg c11]
              have Tz : vstk (oc h9) a0 (runC W i a (t + 1)) := by rw [er9, o9]; exact vstk_p (vstk_o (vstk_o T))
              have Lz : x3 + (-1 : Int32) = nI (runC W i a (t + 1)).length := by rw [er9]; exact x1e
              have zz := z9
              obtain ⟨b1, b2, b3, b4⟩ := E_X12_holdsLine_22 K hi hl h4 ⟨ty9, ty1, ty2⟩ k (t + 1) (mS_fr M fz (by decide) (by decide)) Wz Tz hx2 Lz hx4 (by rw [hx5, nI_1]; rfl) (by omega) hf
              exact ⟨b1, b2, frM_tr fz b3, b4.trans zz⟩
          · skip
            replace hf := jite hf
            rcases hf with ⟨c22, hf⟩ | ⟨c22, hf⟩
            · skip
              replace hf := jite hf
              rcases hf with ⟨c23, hf⟩ | ⟨c23, hf⟩
              · skip
                -- leaf 101100: F_X12_holdsLine_222 n rc22 a0 x2 (x3 + (- 1 : Int32)) x4 x5 v48 v130 v138 (0 : Int32) h
                rw [i3, nI_cl (by omega), ww, hx5, Int32.le_iff_toInt_le, nI_toInt (by omega), hl] at c3
                have tl9 : t < len := by omega
                obtain ⟨tk2, tk3⟩ := tyR_nx ty1 tl9 tk1
                have s9 : oi (oc h) (a0 + 1) ((484 : Int32) + ((2 : Int32) * x5)).toNatClampNeg = W (484 + 2 * (a + t)) := by rw [hx5, nI_c484, nI_cl (by omega)]; exact ww _
                rw [s9] at c10 c11 c20 c22 hf
                have n11 : ¬ (W (484 + 2 * (a + t))).toInt ≤ 11 := by rw [Int32.lt_iff_toInt_lt, show (11 : Int32).toInt = 11 from rfl] at c10; omega
                obtain ⟨x9, y9, r9, er, xy⟩ := tyC_bin (by omega) c11 tk3
                subst er
                obtain ⟨vb, u0, ev0, b01, tu0⟩ := tyV_1 tv
                obtain ⟨va, u, ev, a01, tu⟩ := tyV_1 tu0
                subst ev
                rw [ev0] at T hx3
                have hx3 : x3 = nI (u.length + 1 + 1) := hx3
                have ul := tyV_len tu
                have ul2 : r9.length + 1 + 1 ≤ 23 := t23
                have x1e : x3 + (-1 : Int32) = nI (u.length + 1) := by rw [hx3]; exact nI_m1
                have x2e : x3 + (-1 : Int32) - (1 : Int32) = nI u.length := by rw [x1e]; exact nI_pred _
                have ea : oi (oc h) (a0 + 8) (x3 + (-1 : Int32) - (1 : Int32)).toNatClampNeg = va := by rw [x2e, nI_cl (by omega)]; exact vstk_t (vstk_o T)
                have eb : oi (oc h) (a0 + 8) (x3 + (-1 : Int32)).toNatClampNeg = vb := by rw [x1e, nI_cl (by omega)]; exact vstk_t T
                rw [ea, eb] at hf
                rw [ea, eb] at c23
                have ov : (if W (484 + 2 * (a + t)) = 12 then va + vb else if (0 : Int32) = 0 then 0 else 1) = opW (W (484 + 2 * (a + t))) va vb := by
                  rw [c22]
                  show (0 : Int32) = if decide (vb < va) = true then 1 else 0
                  rw [if_neg (by rw [decide_eq_true_iff, Int32.lt_iff_toInt_lt]; rw [Int32.le_iff_toInt_le] at c23; omega)]
                obtain ⟨h9, o9, z9, hf⟩ := E_X12_222 M x1e (by omega) hf
                rw [ov] at o9
                have fz : frM a0 [8] [] (oc h) (oc h9) := by rw [o9]; exact frM_c (by decide)
                have Wz : wl (oc h9) a0 = W := by rw [o9, wl_n (by omega)]; exact hW
                have er9 : runC W i a (t + 1) = opW (W (484 + 2 * (a + t))) va vb :: u := by
                  show stpC W i (W (484 + 2 * (a + t))) (W (485 + 2 * (a + t))) (runC W i a t) = _
                  rw [ev0]
                  unfold stpC
                  rw [if_neg n11, if_neg c11]
                have Tz : vstk (oc h9) a0 (runC W i a (t + 1)) := by rw [er9, o9]; exact vstk_p (vstk_o (vstk_o T))
                have Lz : x3 + (-1 : Int32) = nI (runC W i a (t + 1)).length := by rw [er9]; exact x1e
                have zz := z9
                obtain ⟨b1, b2, b3, b4⟩ := E_X12_holdsLine_22 K hi hl h4 ⟨ty9, ty1, ty2⟩ k (t + 1) (mS_fr M fz (by decide) (by decide)) Wz Tz hx2 Lz hx4 (by rw [hx5, nI_1]; rfl) (by omega) hf
                exact ⟨b1, b2, frM_tr fz b3, b4.trans zz⟩
              · skip
                -- leaf 101101: F_X12_holdsLine_222 n rc22 a0 x2 (x3 + (- 1 : Int32)) x4 x5 v48 v130 v138 (1 : Int32) h
                rw [i3, nI_cl (by omega), ww, hx5, Int32.le_iff_toInt_le, nI_toInt (by omega), hl] at c3
                have tl9 : t < len := by omega
                obtain ⟨tk2, tk3⟩ := tyR_nx ty1 tl9 tk1
                have s9 : oi (oc h) (a0 + 1) ((484 : Int32) + ((2 : Int32) * x5)).toNatClampNeg = W (484 + 2 * (a + t)) := by rw [hx5, nI_c484, nI_cl (by omega)]; exact ww _
                rw [s9] at c10 c11 c20 c22 hf
                have n11 : ¬ (W (484 + 2 * (a + t))).toInt ≤ 11 := by rw [Int32.lt_iff_toInt_lt, show (11 : Int32).toInt = 11 from rfl] at c10; omega
                obtain ⟨x9, y9, r9, er, xy⟩ := tyC_bin (by omega) c11 tk3
                subst er
                obtain ⟨vb, u0, ev0, b01, tu0⟩ := tyV_1 tv
                obtain ⟨va, u, ev, a01, tu⟩ := tyV_1 tu0
                subst ev
                rw [ev0] at T hx3
                have hx3 : x3 = nI (u.length + 1 + 1) := hx3
                have ul := tyV_len tu
                have ul2 : r9.length + 1 + 1 ≤ 23 := t23
                have x1e : x3 + (-1 : Int32) = nI (u.length + 1) := by rw [hx3]; exact nI_m1
                have x2e : x3 + (-1 : Int32) - (1 : Int32) = nI u.length := by rw [x1e]; exact nI_pred _
                have ea : oi (oc h) (a0 + 8) (x3 + (-1 : Int32) - (1 : Int32)).toNatClampNeg = va := by rw [x2e, nI_cl (by omega)]; exact vstk_t (vstk_o T)
                have eb : oi (oc h) (a0 + 8) (x3 + (-1 : Int32)).toNatClampNeg = vb := by rw [x1e, nI_cl (by omega)]; exact vstk_t T
                rw [ea, eb] at hf
                rw [ea, eb] at c23
                have ov : (if W (484 + 2 * (a + t)) = 12 then va + vb else if (1 : Int32) = 0 then 0 else 1) = opW (W (484 + 2 * (a + t))) va vb := by
                  rw [c22]
                  show (1 : Int32) = if decide (vb < va) = true then 1 else 0
                  rw [if_pos (by rw [decide_eq_true_iff, Int32.lt_iff_toInt_lt]; rw [Int32.le_iff_toInt_le] at c23; omega)]
                obtain ⟨h9, o9, z9, hf⟩ := E_X12_222 M x1e (by omega) hf
                rw [ov] at o9
                have fz : frM a0 [8] [] (oc h) (oc h9) := by rw [o9]; exact frM_c (by decide)
                have Wz : wl (oc h9) a0 = W := by rw [o9, wl_n (by omega)]; exact hW
                have er9 : runC W i a (t + 1) = opW (W (484 + 2 * (a + t))) va vb :: u := by
                  show stpC W i (W (484 + 2 * (a + t))) (W (485 + 2 * (a + t))) (runC W i a t) = _
                  rw [ev0]
                  unfold stpC
                  rw [if_neg n11, if_neg c11]
                have Tz : vstk (oc h9) a0 (runC W i a (t + 1)) := by rw [er9, o9]; exact vstk_p (vstk_o (vstk_o T))
                have Lz : x3 + (-1 : Int32) = nI (runC W i a (t + 1)).length := by rw [er9]; exact x1e
                have zz := z9
                obtain ⟨b1, b2, b3, b4⟩ := E_X12_holdsLine_22 K hi hl h4 ⟨ty9, ty1, ty2⟩ k (t + 1) (mS_fr M fz (by decide) (by decide)) Wz Tz hx2 Lz hx4 (by rw [hx5, nI_1]; rfl) (by omega) hf
                exact ⟨b1, b2, frM_tr fz b3, b4.trans zz⟩
            · skip
              replace hf := jite hf
              rcases hf with ⟨c24, hf⟩ | ⟨c24, hf⟩
              · skip
                replace hf := jite hf
                rcases hf with ⟨c25, hf⟩ | ⟨c25, hf⟩
                · skip
                  -- leaf 1011100: F_X12_holdsLine_222 n rc22 a0 x2 (x3 + (- 1 : Int32)) x4 x5 v48 v130 v138 (1 : Int32) h
                  rw [i3, nI_cl (by omega), ww, hx5, Int32.le_iff_toInt_le, nI_toInt (by omega), hl] at c3
                  have tl9 : t < len := by omega
                  obtain ⟨tk2, tk3⟩ := tyR_nx ty1 tl9 tk1
                  have s9 : oi (oc h) (a0 + 1) ((484 : Int32) + ((2 : Int32) * x5)).toNatClampNeg = W (484 + 2 * (a + t)) := by rw [hx5, nI_c484, nI_cl (by omega)]; exact ww _
                  rw [s9] at c10 c11 c20 c22 c24 hf
                  have n11 : ¬ (W (484 + 2 * (a + t))).toInt ≤ 11 := by rw [Int32.lt_iff_toInt_lt, show (11 : Int32).toInt = 11 from rfl] at c10; omega
                  obtain ⟨x9, y9, r9, er, xy⟩ := tyC_bin (by omega) c11 tk3
                  subst er
                  obtain ⟨vb, u0, ev0, b01, tu0⟩ := tyV_1 tv
                  obtain ⟨va, u, ev, a01, tu⟩ := tyV_1 tu0
                  subst ev
                  rw [ev0] at T hx3
                  have hx3 : x3 = nI (u.length + 1 + 1) := hx3
                  have ul := tyV_len tu
                  have ul2 : r9.length + 1 + 1 ≤ 23 := t23
                  have x1e : x3 + (-1 : Int32) = nI (u.length + 1) := by rw [hx3]; exact nI_m1
                  have x2e : x3 + (-1 : Int32) - (1 : Int32) = nI u.length := by rw [x1e]; exact nI_pred _
                  have ea : oi (oc h) (a0 + 8) (x3 + (-1 : Int32) - (1 : Int32)).toNatClampNeg = va := by rw [x2e, nI_cl (by omega)]; exact vstk_t (vstk_o T)
                  have eb : oi (oc h) (a0 + 8) (x3 + (-1 : Int32)).toNatClampNeg = vb := by rw [x1e, nI_cl (by omega)]; exact vstk_t T
                  rw [ea, eb] at hf
                  rw [ea, eb] at c25
                  have ov : (if W (484 + 2 * (a + t)) = 12 then va + vb else if (1 : Int32) = 0 then 0 else 1) = opW (W (484 + 2 * (a + t))) va vb := by
                    rw [c24]
                    show (1 : Int32) = if decide (va + vb = 2) = true then 1 else 0
                    rw [if_pos (by rw [decide_eq_true_iff]; exact c25)]
                  obtain ⟨h9, o9, z9, hf⟩ := E_X12_222 M x1e (by omega) hf
                  rw [ov] at o9
                  have fz : frM a0 [8] [] (oc h) (oc h9) := by rw [o9]; exact frM_c (by decide)
                  have Wz : wl (oc h9) a0 = W := by rw [o9, wl_n (by omega)]; exact hW
                  have er9 : runC W i a (t + 1) = opW (W (484 + 2 * (a + t))) va vb :: u := by
                    show stpC W i (W (484 + 2 * (a + t))) (W (485 + 2 * (a + t))) (runC W i a t) = _
                    rw [ev0]
                    unfold stpC
                    rw [if_neg n11, if_neg c11]
                  have Tz : vstk (oc h9) a0 (runC W i a (t + 1)) := by rw [er9, o9]; exact vstk_p (vstk_o (vstk_o T))
                  have Lz : x3 + (-1 : Int32) = nI (runC W i a (t + 1)).length := by rw [er9]; exact x1e
                  have zz := z9
                  obtain ⟨b1, b2, b3, b4⟩ := E_X12_holdsLine_22 K hi hl h4 ⟨ty9, ty1, ty2⟩ k (t + 1) (mS_fr M fz (by decide) (by decide)) Wz Tz hx2 Lz hx4 (by rw [hx5, nI_1]; rfl) (by omega) hf
                  exact ⟨b1, b2, frM_tr fz b3, b4.trans zz⟩
                · skip
                  -- leaf 1011101: F_X12_holdsLine_222 n rc22 a0 x2 (x3 + (- 1 : Int32)) x4 x5 v48 v130 v138 (0 : Int32) h
                  rw [i3, nI_cl (by omega), ww, hx5, Int32.le_iff_toInt_le, nI_toInt (by omega), hl] at c3
                  have tl9 : t < len := by omega
                  obtain ⟨tk2, tk3⟩ := tyR_nx ty1 tl9 tk1
                  have s9 : oi (oc h) (a0 + 1) ((484 : Int32) + ((2 : Int32) * x5)).toNatClampNeg = W (484 + 2 * (a + t)) := by rw [hx5, nI_c484, nI_cl (by omega)]; exact ww _
                  rw [s9] at c10 c11 c20 c22 c24 hf
                  have n11 : ¬ (W (484 + 2 * (a + t))).toInt ≤ 11 := by rw [Int32.lt_iff_toInt_lt, show (11 : Int32).toInt = 11 from rfl] at c10; omega
                  obtain ⟨x9, y9, r9, er, xy⟩ := tyC_bin (by omega) c11 tk3
                  subst er
                  obtain ⟨vb, u0, ev0, b01, tu0⟩ := tyV_1 tv
                  obtain ⟨va, u, ev, a01, tu⟩ := tyV_1 tu0
                  subst ev
                  rw [ev0] at T hx3
                  have hx3 : x3 = nI (u.length + 1 + 1) := hx3
                  have ul := tyV_len tu
                  have ul2 : r9.length + 1 + 1 ≤ 23 := t23
                  have x1e : x3 + (-1 : Int32) = nI (u.length + 1) := by rw [hx3]; exact nI_m1
                  have x2e : x3 + (-1 : Int32) - (1 : Int32) = nI u.length := by rw [x1e]; exact nI_pred _
                  have ea : oi (oc h) (a0 + 8) (x3 + (-1 : Int32) - (1 : Int32)).toNatClampNeg = va := by rw [x2e, nI_cl (by omega)]; exact vstk_t (vstk_o T)
                  have eb : oi (oc h) (a0 + 8) (x3 + (-1 : Int32)).toNatClampNeg = vb := by rw [x1e, nI_cl (by omega)]; exact vstk_t T
                  rw [ea, eb] at hf
                  rw [ea, eb] at c25
                  have ov : (if W (484 + 2 * (a + t)) = 12 then va + vb else if (0 : Int32) = 0 then 0 else 1) = opW (W (484 + 2 * (a + t))) va vb := by
                    rw [c24]
                    show (0 : Int32) = if decide (va + vb = 2) = true then 1 else 0
                    rw [if_neg (by rw [decide_eq_true_iff]; exact c25)]
                  obtain ⟨h9, o9, z9, hf⟩ := E_X12_222 M x1e (by omega) hf
                  rw [ov] at o9
                  have fz : frM a0 [8] [] (oc h) (oc h9) := by rw [o9]; exact frM_c (by decide)
                  have Wz : wl (oc h9) a0 = W := by rw [o9, wl_n (by omega)]; exact hW
                  have er9 : runC W i a (t + 1) = opW (W (484 + 2 * (a + t))) va vb :: u := by
                    show stpC W i (W (484 + 2 * (a + t))) (W (485 + 2 * (a + t))) (runC W i a t) = _
                    rw [ev0]
                    unfold stpC
                    rw [if_neg n11, if_neg c11]
                  have Tz : vstk (oc h9) a0 (runC W i a (t + 1)) := by rw [er9, o9]; exact vstk_p (vstk_o (vstk_o T))
                  have Lz : x3 + (-1 : Int32) = nI (runC W i a (t + 1)).length := by rw [er9]; exact x1e
                  have zz := z9
                  obtain ⟨b1, b2, b3, b4⟩ := E_X12_holdsLine_22 K hi hl h4 ⟨ty9, ty1, ty2⟩ k (t + 1) (mS_fr M fz (by decide) (by decide)) Wz Tz hx2 Lz hx4 (by rw [hx5, nI_1]; rfl) (by omega) hf
                  exact ⟨b1, b2, frM_tr fz b3, b4.trans zz⟩
              · skip
                replace hf := jite hf
                rcases hf with ⟨c26, hf⟩ | ⟨c26, hf⟩
                · skip
                  -- leaf 1011110: F_X12_holdsLine_222 n rc22 a0 x2 (x3 + (- 1 : Int32)) x4 x5 v48 v130 v138 (0 : Int32) h
                  rw [i3, nI_cl (by omega), ww, hx5, Int32.le_iff_toInt_le, nI_toInt (by omega), hl] at c3
                  have tl9 : t < len := by omega
                  obtain ⟨tk2, tk3⟩ := tyR_nx ty1 tl9 tk1
                  have s9 : oi (oc h) (a0 + 1) ((484 : Int32) + ((2 : Int32) * x5)).toNatClampNeg = W (484 + 2 * (a + t)) := by rw [hx5, nI_c484, nI_cl (by omega)]; exact ww _
                  rw [s9] at c10 c11 c20 c22 c24 hf
                  have n11 : ¬ (W (484 + 2 * (a + t))).toInt ≤ 11 := by rw [Int32.lt_iff_toInt_lt, show (11 : Int32).toInt = 11 from rfl] at c10; omega
                  obtain ⟨x9, y9, r9, er, xy⟩ := tyC_bin (by omega) c11 tk3
                  subst er
                  obtain ⟨vb, u0, ev0, b01, tu0⟩ := tyV_1 tv
                  obtain ⟨va, u, ev, a01, tu⟩ := tyV_1 tu0
                  subst ev
                  rw [ev0] at T hx3
                  have hx3 : x3 = nI (u.length + 1 + 1) := hx3
                  have ul := tyV_len tu
                  have ul2 : r9.length + 1 + 1 ≤ 23 := t23
                  have x1e : x3 + (-1 : Int32) = nI (u.length + 1) := by rw [hx3]; exact nI_m1
                  have x2e : x3 + (-1 : Int32) - (1 : Int32) = nI u.length := by rw [x1e]; exact nI_pred _
                  have ea : oi (oc h) (a0 + 8) (x3 + (-1 : Int32) - (1 : Int32)).toNatClampNeg = va := by rw [x2e, nI_cl (by omega)]; exact vstk_t (vstk_o T)
                  have eb : oi (oc h) (a0 + 8) (x3 + (-1 : Int32)).toNatClampNeg = vb := by rw [x1e, nI_cl (by omega)]; exact vstk_t T
                  rw [ea, eb] at hf
                  rw [ea, eb] at c26
                  have ov : (if W (484 + 2 * (a + t)) = 12 then va + vb else if (0 : Int32) = 0 then 0 else 1) = opW (W (484 + 2 * (a + t))) va vb := by
                    by_cases z : W (484 + 2 * (a + t)) = 12
                    · unfold opW
                      rw [if_pos z, if_pos z]
                    · have oe : opW (W (484 + 2 * (a + t))) va vb = if decide (0 < va + vb) = true then 1 else 0 := by unfold opW; rw [if_neg z, if_neg c20, if_neg c22, if_neg c24]
                      rw [if_neg z, oe, if_pos (rfl : (0 : Int32) = 0), if_neg (by rw [decide_eq_true_iff, Int32.lt_iff_toInt_lt]; rw [Int32.le_iff_toInt_le] at c26; have l0 : (0 : Int32).toInt = 0 := rfl; omega)]
                  obtain ⟨h9, o9, z9, hf⟩ := E_X12_222 M x1e (by omega) hf
                  rw [ov] at o9
                  have fz : frM a0 [8] [] (oc h) (oc h9) := by rw [o9]; exact frM_c (by decide)
                  have Wz : wl (oc h9) a0 = W := by rw [o9, wl_n (by omega)]; exact hW
                  have er9 : runC W i a (t + 1) = opW (W (484 + 2 * (a + t))) va vb :: u := by
                    show stpC W i (W (484 + 2 * (a + t))) (W (485 + 2 * (a + t))) (runC W i a t) = _
                    rw [ev0]
                    unfold stpC
                    rw [if_neg n11, if_neg c11]
                  have Tz : vstk (oc h9) a0 (runC W i a (t + 1)) := by rw [er9, o9]; exact vstk_p (vstk_o (vstk_o T))
                  have Lz : x3 + (-1 : Int32) = nI (runC W i a (t + 1)).length := by rw [er9]; exact x1e
                  have zz := z9
                  obtain ⟨b1, b2, b3, b4⟩ := E_X12_holdsLine_22 K hi hl h4 ⟨ty9, ty1, ty2⟩ k (t + 1) (mS_fr M fz (by decide) (by decide)) Wz Tz hx2 Lz hx4 (by rw [hx5, nI_1]; rfl) (by omega) hf
                  exact ⟨b1, b2, frM_tr fz b3, b4.trans zz⟩
                · skip
                  -- leaf 1011111: F_X12_holdsLine_222 n rc22 a0 x2 (x3 + (- 1 : Int32)) x4 x5 v48 v130 v138 (1 : Int32) h
                  rw [i3, nI_cl (by omega), ww, hx5, Int32.le_iff_toInt_le, nI_toInt (by omega), hl] at c3
                  have tl9 : t < len := by omega
                  obtain ⟨tk2, tk3⟩ := tyR_nx ty1 tl9 tk1
                  have s9 : oi (oc h) (a0 + 1) ((484 : Int32) + ((2 : Int32) * x5)).toNatClampNeg = W (484 + 2 * (a + t)) := by rw [hx5, nI_c484, nI_cl (by omega)]; exact ww _
                  rw [s9] at c10 c11 c20 c22 c24 hf
                  have n11 : ¬ (W (484 + 2 * (a + t))).toInt ≤ 11 := by rw [Int32.lt_iff_toInt_lt, show (11 : Int32).toInt = 11 from rfl] at c10; omega
                  obtain ⟨x9, y9, r9, er, xy⟩ := tyC_bin (by omega) c11 tk3
                  subst er
                  obtain ⟨vb, u0, ev0, b01, tu0⟩ := tyV_1 tv
                  obtain ⟨va, u, ev, a01, tu⟩ := tyV_1 tu0
                  subst ev
                  rw [ev0] at T hx3
                  have hx3 : x3 = nI (u.length + 1 + 1) := hx3
                  have ul := tyV_len tu
                  have ul2 : r9.length + 1 + 1 ≤ 23 := t23
                  have x1e : x3 + (-1 : Int32) = nI (u.length + 1) := by rw [hx3]; exact nI_m1
                  have x2e : x3 + (-1 : Int32) - (1 : Int32) = nI u.length := by rw [x1e]; exact nI_pred _
                  have ea : oi (oc h) (a0 + 8) (x3 + (-1 : Int32) - (1 : Int32)).toNatClampNeg = va := by rw [x2e, nI_cl (by omega)]; exact vstk_t (vstk_o T)
                  have eb : oi (oc h) (a0 + 8) (x3 + (-1 : Int32)).toNatClampNeg = vb := by rw [x1e, nI_cl (by omega)]; exact vstk_t T
                  rw [ea, eb] at hf
                  rw [ea, eb] at c26
                  have ov : (if W (484 + 2 * (a + t)) = 12 then va + vb else if (1 : Int32) = 0 then 0 else 1) = opW (W (484 + 2 * (a + t))) va vb := by
                    by_cases z : W (484 + 2 * (a + t)) = 12
                    · unfold opW
                      rw [if_pos z, if_pos z]
                    · have oe : opW (W (484 + 2 * (a + t))) va vb = if decide (0 < va + vb) = true then 1 else 0 := by unfold opW; rw [if_neg z, if_neg c20, if_neg c22, if_neg c24]
                      rw [if_neg z, oe, if_neg (show ¬ (1 : Int32) = 0 by decide), if_pos (by rw [decide_eq_true_iff, Int32.lt_iff_toInt_lt]; rw [Int32.le_iff_toInt_le] at c26; have l0 : (0 : Int32).toInt = 0 := rfl; omega)]
                  obtain ⟨h9, o9, z9, hf⟩ := E_X12_222 M x1e (by omega) hf
                  rw [ov] at o9
                  have fz : frM a0 [8] [] (oc h) (oc h9) := by rw [o9]; exact frM_c (by decide)
                  have Wz : wl (oc h9) a0 = W := by rw [o9, wl_n (by omega)]; exact hW
                  have er9 : runC W i a (t + 1) = opW (W (484 + 2 * (a + t))) va vb :: u := by
                    show stpC W i (W (484 + 2 * (a + t))) (W (485 + 2 * (a + t))) (runC W i a t) = _
                    rw [ev0]
                    unfold stpC
                    rw [if_neg n11, if_neg c11]
                  have Tz : vstk (oc h9) a0 (runC W i a (t + 1)) := by rw [er9, o9]; exact vstk_p (vstk_o (vstk_o T))
                  have Lz : x3 + (-1 : Int32) = nI (runC W i a (t + 1)).length := by rw [er9]; exact x1e
                  have zz := z9
                  obtain ⟨b1, b2, b3, b4⟩ := E_X12_holdsLine_22 K hi hl h4 ⟨ty9, ty1, ty2⟩ k (t + 1) (mS_fr M fz (by decide) (by decide)) Wz Tz hx2 Lz hx4 (by rw [hx5, nI_1]; rfl) (by omega) hf
                  exact ⟨b1, b2, frM_tr fz b3, b4.trans zz⟩
      · skip
        replace hf := jbind hf
        obtain ⟨p59, e27, hf⟩ := hf
        have r27 := oc_gR e27
        rw [s17] at r27
        cases r27
        clear e27
        replace hf := jbind hf
        obtain ⟨p67, e28, hf⟩ := hf
        have r28 := oc_gR e28
        rw [s1] at r28
        cases r28
        clear e28
        replace hf := jbind hf
        obtain ⟨v80, e29, hf⟩ := hf
        obtain ⟨r29, y29⟩ := oc_al e29
        subst r29
        clear e29
        replace hf := jbind hf
        obtain ⟨v82, e30, hf⟩ := hf
        replace e30 := (jcv_o e30).2
        replace hf := jbind hf
        obtain ⟨h85, e31, hf⟩ := hf
        obtain ⟨o31, z31, y31⟩ := oc_as e31
        rw [jnar0] at o31
        clear e31
        -- leaf 11: rc22 a0 x2 (x3 + (1 : Int32)) x4 (x5 + (1 : Int32)) h85
        rw [i3, nI_cl (by omega), ww, hx5, Int32.le_iff_toInt_le, nI_toInt (by omega), hl] at c3
        have tl9 : t < len := by omega
        obtain ⟨tk2, tk3⟩ := tyR_nx ty1 tl9 tk1
        have s9 : oi (oc h) (a0 + 1) ((484 : Int32) + ((2 : Int32) * x5)).toNatClampNeg = W (484 + 2 * (a + t)) := by rw [hx5, nI_c484, nI_cl (by omega)]; exact ww _
        rw [s9] at c10 e30
        have s11 : (W (484 + 2 * (a + t))).toInt ≤ 11 := by rw [Int32.lt_iff_toInt_lt, show (11 : Int32).toInt = 11 from rfl] at c10; omega
        have i29 : ((484 : Int32) + ((2 : Int32) * x5)) + (1 : Int32) = nI (485 + 2 * (a + t)) := by rw [hx5, nI_c484, nI_1]; congr 1; omega
        rw [i29, nI_cl (by omega), ww] at e30
        have fa := E_X12_factOf M hW K hx2 hi e30
        subst fa
        rw [hx3, nI_cl (by omega)] at o31
        have fz : frM a0 [8] [] (oc h) (oc h85) := by rw [o31]; exact frM_c (by decide)
        have Wz : wl (oc h85) a0 = W := by rw [o31, wl_n (by omega)]; exact hW
        have er9 : runC W i a (t + 1) = factW W i (W (484 + 2 * (a + t))) (W (485 + 2 * (a + t))) :: runC W i a t := if_pos s11
        have Tz : vstk (oc h85) a0 (runC W i a (t + 1)) := by rw [er9, o31]; exact vstk_p T
        have Lz : x3 + (1 : Int32) = nI (runC W i a (t + 1)).length := by rw [er9, hx3]; exact nI_1 _
        have zz := z31
        obtain ⟨b1, b2, b3, b4⟩ := E_X12_holdsLine_22 K hi hl h4 ⟨ty9, ty1, ty2⟩ k (t + 1) (mS_fr M fz (by decide) (by decide)) Wz Tz hx2 Lz hx4 (by rw [hx5, nI_1]; rfl) (by omega) hf
        exact ⟨b1, b2, frM_tr fz b3, b4.trans zz⟩
theorem E_X12_holdsLine {W : jWd} {i : Nat} {ln : Nat} {n : Nat} {a0 : Nat} {x1 : Int32} {x2 : Int32} {h : jH} {q : Int32 × jH} (M : mS (oc h) a0) (hW : wl (oc h) a0 = W) (K : wOK W) (hi : (i : Int) < (W 0).toInt) (LK : lawK W) (h2 : W 2 = 1) (hln : (ln : Int) < (W 435).toInt) (hx : x1 = nI ln) (hx2 : x2 = nI i) (hf : F_X12_holdsLine n a0 x1 x2 h = some q) : (q.1 = 0 ∨ q.1 = 1) ∧ (q.1 = 1 ↔ holdsW W i ln) ∧ frM a0 [8] [] (oc h) (oc q.2) ∧ q.2.1 = h.1 := by
  unfold F_X12_holdsLine at hf
  have K0 := K.1
  obtain ⟨s1, s2, s3, s4, s5, s8, s15, s17, s19, s20, s21⟩ := id M
  have ww : ∀ k, oi (oc h) (a0 + 1) k = W k := fun k => by rw [← hW]
  obtain ⟨n0, nn⟩ := LK.2 h2
  obtain ⟨n5, n6, n7, n11⟩ := nn ln hln
  obtain ⟨a, ha⟩ : ∃ a : Nat, (W (438 + 4 * ln)).toInt = (a : Int) := ⟨(W (438 + 4 * ln)).toInt.toNat, by omega⟩
  obtain ⟨len, hlen⟩ : ∃ len : Nat, (W (439 + 4 * ln)).toInt = ((a + len : Nat) : Int) := ⟨((W (439 + 4 * ln)).toInt - a).toNat, by omega⟩
  have el : (W (439 + 4 * ln)).toInt.toNat - (W (438 + 4 * ln)).toInt.toNat = len := by omega
  have ea : (W (438 + 4 * ln)).toInt.toNat = a := by omega
  have hT : ∃ ty, tyR W a len = some ty ∧ (ty = [] ∨ ty = [true]) := by rw [el, ea] at n11; exact n11
  replace hf := jbind hf
  obtain ⟨p12, e1, hf⟩ := hf
  have r1 := oc_gR e1
  rw [s1] at r1
  cases r1
  clear e1
  replace hf := jbind hf
  obtain ⟨v19, e2, hf⟩ := hf
  obtain ⟨r2, y2⟩ := oc_al e2
  subst r2
  clear e2
  -- leaf : F_X12_holdsLine_22 n n a0 x2 (0 : Int32) ((436 : Int32) + ((4 : Int32) * x1)) v19 h
  have i2 : ((436 : Int32) + ((4 : Int32) * x1)) + (2 : Int32) = nI (438 + 4 * ln) := by rw [hx, nI_c436]; show nI (436 + 4 * ln) + nI 2 = _; rw [nI_add]; congr 1; omega
  rw [i2, nI_cl (by omega), ww] at hf
  obtain ⟨b1, b2, b3, b4⟩ := E_X12_holdsLine_22 K hi hlen (by omega) hT n 0 M hW (fun k hk => absurd hk (Nat.not_lt_zero k)) hx2 rfl (by rw [hx, nI_c436]) (nI_k ha) (Nat.zero_le _) hf
  refine ⟨b1, b2.trans ?_, b3, b4⟩
  unfold holdsW
  rw [el, ea]
theorem E_X12_sumOf_5 {n : Nat} {W : jWd} {i : Nat} {nl : Nat} (K : wOK W) (hi : (i : Int) < (W 0).toInt) (LK : lawK W) (h2 : W 2 = 1) (hn9 : (W 435).toInt = (nl : Int)) : ∀ (k : Nat) {a0 : Nat} {x1 : Int32} {x2 : Int32} {x3 : Int32} {x4 : Int32} {h : jH} {q : Int32 × jH} (m : Nat) (M : mS (oc h) a0) (hW : wl (oc h) a0 = W) (hx2 : x2 = nI i) (hm : x4 = nI m) (ml : m ≤ nl) (hacc : x3 = sumW W x1 i m), F_X12_sumOf_5 n k a0 x1 x2 x3 x4 h = some q → q.1 = sumW W x1 i nl ∧ frM a0 [8] [] (oc h) (oc q.2) ∧ q.2.1 = h.1
  | 0, a0, x1, x2, x3, x4, h, q, m, M, hW, hx2, hm, ml, hacc, hf => by cases hf
  | k + 1, a0, x1, x2, x3, x4, h, q, m, M, hW, hx2, hm, ml, hacc, hf => by
    replace hf : F_X12_sumOf_5_b n (F_X12_sumOf_5 n k) a0 x1 x2 x3 x4 h = some q := hf
    unfold F_X12_sumOf_5_b at hf
    obtain ⟨s1, s2, s3, s4, s5, s8, s15, s17, s19, s20, s21⟩ := id M
    have ww : ∀ k, oi (oc h) (a0 + 1) k = W k := fun k => by rw [← hW]
    have n0 := (LK.2 h2).1
    have N9 : oi (oc h) (a0 + 1) 435 = W 435 := ww 435
    replace hf := jbind hf
    obtain ⟨p8, e1, hf⟩ := hf
    have r1 := oc_gR e1
    rw [s1] at r1
    cases r1
    clear e1
    replace hf := jbind hf
    obtain ⟨v14, e2, hf⟩ := hf
    obtain ⟨r2, y2⟩ := oc_al e2
    rw [show (435 : Int32).toNatClampNeg = 435 from rfl] at r2
    subst r2
    clear e2
    replace hf := jite hf
    rcases hf with ⟨c3, hf⟩ | ⟨c3, hf⟩
    · skip
      cases hf
      -- leaf 0: (x3, h)
      rw [hm, N9, Int32.le_iff_toInt_le, nI_toInt (by omega), hn9] at c3
      have : m = nl := by omega
      subst this
      exact ⟨hacc, frM_rfl, rfl⟩
    · skip
      replace hf := jbind hf
      obtain ⟨p19, e4, hf⟩ := hf
      have r4 := oc_gR e4
      rw [s1] at r4
      cases r4
      clear e4
      replace hf := jbind hf
      obtain ⟨v30, e5, hf⟩ := hf
      obtain ⟨r5, y5⟩ := oc_al e5
      subst r5
      clear e5
      replace hf := jite hf
      rcases hf with ⟨c6, hf⟩ | ⟨c6, hf⟩
      · skip
        replace hf := jbind hf
        obtain ⟨q39, e7, hf⟩ := hf
        replace e7 := (jcv_o e7).2
        have m9 : m < nl := by rw [hm, N9, Int32.le_iff_toInt_le, nI_toInt (by omega), hn9] at c3; omega
        obtain ⟨t1, t2, t3, t4⟩ := E_X12_holdsLine (ln := m) M hW K hi LK h2 (by omega) hm hx2 e7
        replace hf := jite hf
        rcases hf with ⟨c8, hf⟩ | ⟨c8, hf⟩
        · skip
          -- leaf 100: rc5 a0 x1 x2 x3 (x4 + (1 : Int32)) q39.2
          rw [hm, nI_c436, nI_cl (by omega), ww] at c6
          have nh : ¬ holdsW W i m := fun z => absurd (c8.symm.trans (t2.mpr z)) (by decide)
          obtain ⟨b1, b2, b3⟩ := E_X12_sumOf_5 K hi LK h2 hn9 k (m + 1) (mS_fr M t3 (by decide) (by decide)) (by funext k; rw [← hW]; exact oi_M t3 (fun c hc q => by simp at hc; omega) (fun _ => by simp)) hx2 (by rw [hm, nI_1]) (by omega) (by rw [hacc, sumW_n (fun z => nh z.2)]) hf
          exact ⟨b1, frM_tr t3 b2, b3.trans t4⟩
        · skip
          replace hf := jbind hf
          obtain ⟨p47, e9, hf⟩ := hf
          have r9 := oc_gR e9
          rw [t3 (a0) 1  (fun c hc q => by simp at hc; omega) (fun _ => by simp)] at r9
          rw [s1] at r9
          cases r9
          clear e9
          replace hf := jbind hf
          obtain ⟨v60, e10, hf⟩ := hf
          obtain ⟨r10, y10⟩ := oc_al e10
          rw [oi_M t3 (fun c hc q => by simp at hc; omega) (fun _ => by simp)] at r10
          subst r10
          clear e10
          -- leaf 101: rc5 a0 x1 x2 (x3 + v60) (x4 + (1 : Int32)) q39.2
          rw [hm, nI_c436, nI_cl (by omega), ww] at c6
          have yh : holdsW W i m := t2.mp (t1.resolve_left c8)
          have i7 : ((436 : Int32) + ((4 : Int32) * x4)) + (1 : Int32) = nI (437 + 4 * m) := by rw [hm, nI_c436, nI_1]; congr 1; omega
          rw [i7, nI_cl (by omega), ww] at hf
          obtain ⟨b1, b2, b3⟩ := E_X12_sumOf_5 K hi LK h2 hn9 k (m + 1) (mS_fr M t3 (by decide) (by decide)) (by funext k; rw [← hW]; exact oi_M t3 (fun c hc q => by simp at hc; omega) (fun _ => by simp)) hx2 (by rw [hm, nI_1]) (by omega) (by rw [hacc, sumW_p ⟨c6, yh⟩]) hf
          exact ⟨b1, frM_tr t3 b2, b3.trans t4⟩
      · skip
        -- leaf 11: rc5 a0 x1 x2 x3 (x4 + (1 : Int32)) h
        have m9 : m < nl := by rw [hm, N9, Int32.le_iff_toInt_le, nI_toInt (by omega), hn9] at c3; omega
        rw [hm, nI_c436, nI_cl (by omega), ww] at c6
        obtain ⟨b1, b2, b3⟩ := E_X12_sumOf_5 K hi LK h2 hn9 k (m + 1) M hW hx2 (by rw [hm, nI_1]) (by omega) (by rw [hacc, sumW_n (fun z => c6 z.1)]) hf
        exact ⟨b1, b2, b3⟩
theorem E_X12_sumOf {W : jWd} {i : Nat} {nl : Nat} {n : Nat} {a0 : Nat} {x1 : Int32} {x2 : Int32} {h : jH} {q : Int32 × jH} (M : mS (oc h) a0) (hW : wl (oc h) a0 = W) (K : wOK W) (hi : (i : Int) < (W 0).toInt) (LK : lawK W) (h2 : W 2 = 1) (hn9 : (W 435).toInt = (nl : Int)) (hx2 : x2 = nI i) (hf : F_X12_sumOf n a0 x1 x2 h = some q) : q.1 = sumW W x1 i nl ∧ frM a0 [8] [] (oc h) (oc q.2) ∧ q.2.1 = h.1 := by
  unfold F_X12_sumOf at hf
  -- leaf : F_X12_sumOf_5 n n a0 x1 x2 (0 : Int32) (0 : Int32) h
  exact E_X12_sumOf_5 K hi LK h2 hn9 n 0 M hW hx2 rfl (Nat.zero_le _) rfl hf
theorem E_X12_byLaw {W : jWd} {i : Nat} {n : Nat} {a0 : Nat} {x1 : Int32} {x2 : Int32} {h : jH} {q : Int32 × jH} (M : mS (oc h) a0) (hW : wl (oc h) a0 = W) (K : wOK W) (hi : (i : Int) < (W 0).toInt) (LK : lawK W) (hx2 : x2 = nI i) (hf : F_X12_byLaw n a0 x1 x2 h = some q) : q.1 = byW W x1 i ∧ frM a0 [8] [] (oc h) (oc q.2) ∧ q.2.1 = h.1 := by
  unfold F_X12_byLaw at hf
  obtain ⟨s1, s2, s3, s4, s5, s8, s15, s17, s19, s20, s21⟩ := id M
  have K0 := K.1
  have ww : ∀ k, oi (oc h) (a0 + 1) k = W k := fun k => by rw [← hW]
  replace hf := jbind hf
  obtain ⟨p1, e1, hf⟩ := hf
  have r1 := oc_gR e1
  rw [s1] at r1
  cases r1
  clear e1
  replace hf := jbind hf
  obtain ⟨v5, e2, hf⟩ := hf
  obtain ⟨r2, y2⟩ := oc_al e2
  rw [show (2 : Int32).toNatClampNeg = 2 from rfl] at r2
  subst r2
  clear e2
  replace hf := jite hf
  rcases hf with ⟨c3, hf⟩ | ⟨c3, hf⟩
  · skip
    replace hf := jbind hf
    obtain ⟨q13, e4, hf⟩ := hf
    replace e4 := (jcv_o e4).2
    cases hf
    -- leaf 0: (q13.1, q13.2)
    rw [ww] at c3
    have n0 := (LK.2 c3).1
    obtain ⟨b1, b2, b3⟩ := E_X12_sumOf M hW K hi LK c3 (by omega : (W 435).toInt = ((W 435).toInt.toNat : Int)) hx2 e4
    refine ⟨?_, b2, b3⟩
    unfold byW
    rw [if_pos c3]
    exact b1
  · skip
    replace hf := jite hf
    rcases hf with ⟨c5, hf⟩ | ⟨c5, hf⟩
    · skip
      replace hf := jbind hf
      obtain ⟨p24, e6, hf⟩ := hf
      have r6 := oc_gR e6
      rw [s1] at r6
      cases r6
      clear e6
      replace hf := jbind hf
      obtain ⟨v28, e7, hf⟩ := hf
      obtain ⟨r7, y7⟩ := oc_al e7
      rw [show (3 : Int32).toNatClampNeg = 3 from rfl] at r7
      subst r7
      clear e7
      replace hf := jbind hf
      obtain ⟨v29, e8, hf⟩ := hf
      replace e8 := (jcv_o e8).2
      have r8 := E_X12_isLit M hW K hx2 hi e8
      replace hf := jite hf
      rcases hf with ⟨c9, hf⟩ | ⟨c9, hf⟩
      · skip
        cases hf
        -- leaf 100: ((0 : Int32), h)
        rw [ww] at c3
        refine ⟨?_, frM_rfl, rfl⟩
        unfold byW
        rw [if_neg c3, if_pos c5, ← ww 3, ← r8]
        exact c9.symm
      · skip
        cases hf
        -- leaf 101: ((1 : Int32), h)
        rw [ww] at c3
        refine ⟨?_, frM_rfl, rfl⟩
        unfold byW
        rw [if_neg c3, if_pos c5]
        rw [ww 3] at r8
        have l9 := litW_01 (W := W) (i := i) (h := W 3)
        rw [← r8] at l9 ⊢
        exact (l9.resolve_left c9).symm
    · skip
      replace hf := jite hf
      rcases hf with ⟨c10, hf⟩ | ⟨c10, hf⟩
      · skip
        cases hf
        -- leaf 110: ((10 : Int32), h)
        rw [ww] at c3
        refine ⟨?_, frM_rfl, rfl⟩
        unfold byW
        rw [if_neg c3, if_neg c5, if_pos c10]
      · skip
        cases hf
        -- leaf 111: ((0 : Int32), h)
        rw [ww] at c3
        refine ⟨?_, frM_rfl, rfl⟩
        unfold byW
        rw [if_neg c3, if_neg c5, if_neg c10]
