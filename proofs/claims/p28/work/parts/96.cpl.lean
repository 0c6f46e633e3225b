/-! copies of laws -/
theorem lawE_mv {O O2 : jO} {r d : Nat} {W : jWd} (L : lawE O r W) (S : lawS O2 d) (h7 : oi O2 d 7 = oi O r 7) (h8 : oi O2 d 8 = oi O r 8) (h1 : ∀ k, k < 12 → oi O2 (d + 1) k = oi O (r + 1) k ∧ oi O2 (d + 2) k = oi O (r + 2) k ∧ oi O2 (d + 3) k = oi O (r + 3) k) (h4 : ∀ k, k < 400 → oi O2 (d + 4) k = oi O (r + 4) k) : lawE O2 d W := by
  obtain ⟨-, a, b, c⟩ := L
  refine ⟨S, h7.trans a, b, fun z => ?_⟩
  obtain ⟨c1, c2, c3⟩ := c z
  refine ⟨h8.trans c1, c2, fun i hi => ?_⟩
  obtain ⟨a1, a2, a3, a4, a5, a6, a7, a8, a9, a10, a11⟩ := c3 i hi
  obtain ⟨b1, b2, b3⟩ := h1 i (by omega)
  exact ⟨b1.trans a1, b2.trans a2, b3.trans a3, a4, a5, a6, a7, a8, a9, fun j u w => by rw [h4 j (by omega)]; exact a10 j u w, a11⟩
/-- all but the six cells of the law at d is left alone -/
def frW (d : Nat) (O O2 : jO) : Prop := ∀ b k, (b < d ∨ d + 5 < b) → O2 b k = O b k
theorem E_X2_copyFrom {d : Nat} {r : Nat} {W : jWd} {n : Nat} {a0 : Nat} {a1 : Nat} {h : jH} {q : jH} (h0 : d = a0) (h1 : r = a1) (hd : d + 5 < r ∨ r + 5 < d) (sd : lawS (oc h) d) (R : lawE (oc h) r W) (hf : F_X2_copyFrom n a0 a1 h = some q) : lawE (oc q) d W ∧ frW d (oc h) (oc q) ∧ q.1 = h.1 := by
  unfold F_X2_copyFrom at hf
  subst h0 h1
  have sr := R.1
  obtain ⟨sd0, sd1, sd2, sd3, sd4⟩ := id sd
  obtain ⟨sr0, sr1, sr2, sr3, sr4⟩ := id sr
  replace hf := jbind hf
  obtain ⟨p1, e1, hf⟩ := hf
  have r1 := oc_gR e1
  rw [sr0] at r1
  cases r1
  clear e1
  replace hf := jbind hf
  obtain ⟨p6, e2, hf⟩ := hf
  have r2 := oc_gR e2
  rw [sd0] at r2
  cases r2
  clear e2
  replace hf := jbind hf
  obtain ⟨h12, e3, hf⟩ := hf
  obtain ⟨o3, z3⟩ := oc_cp e3
  clear e3
  rw [show (0 : Int32).toNatClampNeg = 0 from rfl, show (12 : Int32).toNatClampNeg = 12 from rfl] at o3
  replace hf := jbind hf
  obtain ⟨p16, e4, hf⟩ := hf
  have r4 := oc_gR e4
  rw [o3] at r4
  rw [ucp_ne (by omega)] at r4
  rw [sr1] at r4
  cases r4
  clear e4
  replace hf := jbind hf
  obtain ⟨p21, e5, hf⟩ := hf
  have r5 := oc_gR e5
  rw [o3] at r5
  rw [ucp_ne (by omega)] at r5
  rw [sd1] at r5
  cases r5
  clear e5
  replace hf := jbind hf
  obtain ⟨h27, e6, hf⟩ := hf
  obtain ⟨o6, z6⟩ := oc_cp e6
  clear e6
  rw [show (0 : Int32).toNatClampNeg = 0 from rfl, show (12 : Int32).toNatClampNeg = 12 from rfl] at o6
  replace hf := jbind hf
  obtain ⟨p31, e7, hf⟩ := hf
  have r7 := oc_gR e7
  rw [o6] at r7
  rw [ucp_ne (by omega)] at r7
  rw [o3] at r7
  rw [ucp_ne (by omega)] at r7
  rw [sr2] at r7
  cases r7
  clear e7
  replace hf := jbind hf
  obtain ⟨p36, e8, hf⟩ := hf
  have r8 := oc_gR e8
  rw [o6] at r8
  rw [ucp_ne (by omega)] at r8
  rw [o3] at r8
  rw [ucp_ne (by omega)] at r8
  rw [sd2] at r8
  cases r8
  clear e8
  replace hf := jbind hf
  obtain ⟨h42, e9, hf⟩ := hf
  obtain ⟨o9, z9⟩ := oc_cp e9
  clear e9
  rw [show (0 : Int32).toNatClampNeg = 0 from rfl, show (12 : Int32).toNatClampNeg = 12 from rfl] at o9
  replace hf := jbind hf
  obtain ⟨p46, e10, hf⟩ := hf
  have r10 := oc_gR e10
  rw [o9] at r10
  rw [ucp_ne (by omega)] at r10
  rw [o6] at r10
  rw [ucp_ne (by omega)] at r10
  rw [o3] at r10
  rw [ucp_ne (by omega)] at r10
  rw [sr3] at r10
  cases r10
  clear e10
  replace hf := jbind hf
  obtain ⟨p51, e11, hf⟩ := hf
  have r11 := oc_gR e11
  rw [o9] at r11
  rw [ucp_ne (by omega)] at r11
  rw [o6] at r11
  rw [ucp_ne (by omega)] at r11
  rw [o3] at r11
  rw [ucp_ne (by omega)] at r11
  rw [sd3] at r11
  cases r11
  clear e11
  replace hf := jbind hf
  obtain ⟨h58, e12, hf⟩ := hf
  obtain ⟨o12, z12⟩ := oc_cp e12
  clear e12
  rw [show (0 : Int32).toNatClampNeg = 0 from rfl, show (400 : Int32).toNatClampNeg = 400 from rfl] at o12
  replace hf := jbind hf
  obtain ⟨v63, e13, hf⟩ := hf
  have r13 := oc_gI e13
  rw [o12] at r13
  rw [ucp_oi (by omega)] at r13
  rw [o9] at r13
  rw [ucp_oi (by omega)] at r13
  rw [o6] at r13
  rw [ucp_oi (by omega)] at r13
  rw [o3] at r13
  rw [ucp_oi (by omega)] at r13
  subst r13
  clear e13
  replace hf := jbind hf
  obtain ⟨h66, e14, hf⟩ := hf
  obtain ⟨o14, z14⟩ := oc_pf e14
  clear e14
  replace hf := jbind hf
  obtain ⟨v71, e15, hf⟩ := hf
  have r15 := oc_gI e15
  rw [o14] at r15
  rw [oi_ne (Or.inl (by omega))] at r15
  rw [o12] at r15
  rw [ucp_oi (by omega)] at r15
  rw [o9] at r15
  rw [ucp_oi (by omega)] at r15
  rw [o6] at r15
  rw [ucp_oi (by omega)] at r15
  rw [o3] at r15
  rw [ucp_oi (by omega)] at r15
  subst r15
  clear e15
  replace hf := jite hf
  rcases hf with ⟨c16, hf⟩ | ⟨c16, hf⟩
  · skip
    replace hf := jbind hf
    obtain ⟨h74, e17, hf⟩ := hf
    obtain ⟨o17, z17⟩ := oc_pf e17
    clear e17
    replace hf := jbind hf
    obtain ⟨v79, e18, hf⟩ := hf
    have r18 := oc_gI e18
    rw [o17] at r18
    rw [oi_ne (Or.inl (by omega))] at r18
    rw [o14] at r18
    rw [oi_ne (Or.inl (by omega))] at r18
    rw [o12] at r18
    rw [ucp_oi (by omega)] at r18
    rw [o9] at r18
    rw [ucp_oi (by omega)] at r18
    rw [o6] at r18
    rw [ucp_oi (by omega)] at r18
    rw [o3] at r18
    rw [ucp_oi (by omega)] at r18
    subst r18
    clear e18
    replace hf := jbind hf
    obtain ⟨h82, e19, hf⟩ := hf
    obtain ⟨o19, z19⟩ := oc_pf e19
    clear e19
    cases hf
    -- leaf 0: h82
    refine ⟨lawE_mv R ⟨?_, ?_, ?_, ?_, ?_⟩ ?_ ?_ (fun k hk => ⟨?_, ?_, ?_⟩) (fun k hk => ?_), fun b k hb => ?_, z19.trans (z17.trans (z14.trans (z12.trans (z9.trans (z6.trans z3)))))⟩
    · simp (disch := omega) only [o19, o17, o14, o12, o9, o6, o3, u2_ne, ucp_ne, oi_ne, oi_eq, ucp_oi, ucp_in]; exact sd0
    · simp (disch := omega) only [o19, o17, o14, o12, o9, o6, o3, u2_ne, ucp_ne, oi_ne, oi_eq, ucp_oi, ucp_in]; exact sd1
    · simp (disch := omega) only [o19, o17, o14, o12, o9, o6, o3, u2_ne, ucp_ne, oi_ne, oi_eq, ucp_oi, ucp_in]; exact sd2
    · simp (disch := omega) only [o19, o17, o14, o12, o9, o6, o3, u2_ne, ucp_ne, oi_ne, oi_eq, ucp_oi, ucp_in]; exact sd3
    · simp (disch := omega) only [o19, o17, o14, o12, o9, o6, o3, u2_ne, ucp_ne, oi_ne, oi_eq, ucp_oi, ucp_in]; exact sd4
    · simp (disch := omega) only [o19, o17, o14, o12, o9, o6, o3, u2_ne, ucp_ne, oi_ne, oi_eq, ucp_oi, ucp_in]
    · simp (disch := omega) only [o19, o17, o14, o12, o9, o6, o3, u2_ne, ucp_ne, oi_ne, oi_eq, ucp_oi, ucp_in]
    · simp (disch := omega) only [o19, o17, o14, o12, o9, o6, o3, u2_ne, ucp_ne, oi_ne, oi_eq, ucp_oi, ucp_in]
    · simp (disch := omega) only [o19, o17, o14, o12, o9, o6, o3, u2_ne, ucp_ne, oi_ne, oi_eq, ucp_oi, ucp_in]
    · simp (disch := omega) only [o19, o17, o14, o12, o9, o6, o3, u2_ne, ucp_ne, oi_ne, oi_eq, ucp_oi, ucp_in]
    · simp (disch := omega) only [o19, o17, o14, o12, o9, o6, o3, u2_ne, ucp_ne, oi_ne, oi_eq, ucp_oi, ucp_in]
    · simp (disch := omega) only [o19, o17, o14, o12, o9, o6, o3, u2_ne, ucp_ne, oi_ne, oi_eq, ucp_oi, ucp_in]
  · skip
    cases hf
theorem E_X12_image_7 {n : Nat} : ∀ (k : Nat) {a0 : Nat} {x1 : Int32} {h : jH} {q : jH} (t : Nat) (M : mS (oc h) a0) (hx : x1 = nI t) (ht : t ≤ 1284), F_X12_image_7 n k a0 x1 h = some q → (∀ j, oi (oc q) (a0 + 2) j = if t ≤ j ∧ j < 1284 then oi (oc h) (a0 + 1) j else oi (oc h) (a0 + 2) j) ∧ frM a0 [2] [6] (oc h) (oc q) ∧ q.1 = h.1 ∧ oi (oc q) a0 6 = 1
  | 0, a0, x1, h, q, t, M, hx, ht, hf => by cases hf
  | k + 1, a0, x1, h, q, t, M, hx, ht, hf => by
    replace hf : F_X12_image_7_b n (F_X12_image_7 n k) a0 x1 h = some q := hf
    unfold F_X12_image_7_b at hf
    obtain ⟨s1, s2, s3, s4, s5, s8, s15, s17, s19, s20, s21⟩ := id M
    subst hx
    have lN : (1284 : Int32).toInt = 1284 := rfl
    replace hf := jite hf
    rcases hf with ⟨c1, hf⟩ | ⟨c1, hf⟩
    · skip
      replace hf := jbind hf
      obtain ⟨h34, e2, hf⟩ := hf
      obtain ⟨o2, z2⟩ := oc_pf e2
      clear e2
      cases hf
      -- leaf 0: h34
      rw [Int32.le_iff_toInt_le, nI_toInt (by omega)] at c1
      refine ⟨fun j => ?_, ?_, z2, ?_⟩
      · rw [if_neg (by omega), o2, oi_ne (Or.inl (by omega))]
      · rw [o2]; exact frM_f (by decide)
      · rw [o2, oi_eq]
    · skip
      replace hf := jbind hf
      obtain ⟨p15, e3, hf⟩ := hf
      have r3 := oc_gR e3
      rw [s2] at r3
      cases r3
      clear e3
      replace hf := jbind hf
      obtain ⟨p20, e4, hf⟩ := hf
      have r4 := oc_gR e4
      rw [s1] at r4
      cases r4
      clear e4
      replace hf := jbind hf
      obtain ⟨v24, e5, hf⟩ := hf
      obtain ⟨r5, y5⟩ := oc_al e5
      subst r5
      clear e5
      replace hf := jbind hf
      obtain ⟨h25, e6, hf⟩ := hf
      obtain ⟨o6, z6, y6⟩ := oc_as e6
      rw [jnar0] at o6
      clear e6
      -- leaf 1: rc7 a0 (x1 + (1 : Int32)) h25
      rw [Int32.le_iff_toInt_le, nI_toInt (by omega)] at c1
      rw [nI_cl (by omega)] at o6
      have f9 : frM a0 [2] [6] (oc h) (oc h25) := by rw [o6]; exact frM_c (by decide)
      obtain ⟨a1, a2, a3, a4⟩ := E_X12_image_7 k (t + 1) (mS_fr M f9 (by decide) (by decide)) (nI_1 t) (by omega) hf
      refine ⟨?_, frM_tr f9 a2, a3.trans z6, a4⟩
      intro j
      rw [a1 j]
      by_cases q1 : j = t
      · subst q1
        rw [if_neg (by omega), if_pos (by omega), o6, oi_eq]
      · by_cases q2 : t ≤ j ∧ j < 1284
        · rw [if_pos (by omega), if_pos q2, o6, oi_ne (Or.inl (by omega))]
        · rw [if_neg (by omega), if_neg q2, o6, oi_ne (Or.inr (by omega))]
theorem E_X12_back_16 {n : Nat} : ∀ (k : Nat) {a0 : Nat} {x1 : Int32} {h : jH} {q : Int32 × jH} (t : Nat) (M : mS (oc h) a0) (hx : x1 = nI t) (ht : t ≤ 1284), F_X12_back_16 n k a0 x1 h = some q → (∀ j, oi (oc q.2) (a0 + 1) j = if t ≤ j ∧ j < 1284 then oi (oc h) (a0 + 2) j else oi (oc h) (a0 + 1) j) ∧ frM a0 [1] [7] (oc h) (oc q.2) ∧ q.2.1 = h.1 ∧ oi (oc q.2) a0 7 = 0 ∧ q.1 = 1
  | 0, a0, x1, h, q, t, M, hx, ht, hf => by cases hf
  | k + 1, a0, x1, h, q, t, M, hx, ht, hf => by
    replace hf : F_X12_back_16_b n (F_X12_back_16 n k) a0 x1 h = some q := hf
    unfold F_X12_back_16_b at hf
    obtain ⟨s1, s2, s3, s4, s5, s8, s15, s17, s19, s20, s21⟩ := id M
    subst hx
    have lN : (1284 : Int32).toInt = 1284 := rfl
    replace hf := jite hf
    rcases hf with ⟨c1, hf⟩ | ⟨c1, hf⟩
    · skip
      replace hf := jbind hf
      obtain ⟨h43, e2, hf⟩ := hf
      obtain ⟨o2, z2⟩ := oc_pf e2
      clear e2
      cases hf
      -- leaf 0: ((1 : Int32), h43)
      rw [Int32.le_iff_toInt_le, nI_toInt (by omega)] at c1
      refine ⟨fun j => ?_, ?_, z2, ?_, rfl⟩
      · rw [if_neg (by omega), o2, oi_ne (Or.inl (by omega))]
      · rw [o2]; exact frM_f (by decide)
      · rw [o2, oi_eq]
    · skip
      replace hf := jbind hf
      obtain ⟨p24, e3, hf⟩ := hf
      have r3 := oc_gR e3
      rw [s1] at r3
      cases r3
      clear e3
      replace hf := jbind hf
      obtain ⟨p29, e4, hf⟩ := hf
      have r4 := oc_gR e4
      rw [s2] at r4
      cases r4
      clear e4
      replace hf := jbind hf
      obtain ⟨v33, e5, hf⟩ := hf
      obtain ⟨r5, y5⟩ := oc_al e5
      subst r5
      clear e5
      replace hf := jbind hf
      obtain ⟨h34, e6, hf⟩ := hf
      obtain ⟨o6, z6, y6⟩ := oc_as e6
      rw [jnar0] at o6
      clear e6
      -- leaf 1: rc16 a0 (x1 + (1 : Int32)) h34
      rw [Int32.le_iff_toInt_le, nI_toInt (by omega)] at c1
      rw [nI_cl (by omega)] at o6
      have f9 : frM a0 [1] [7] (oc h) (oc h34) := by rw [o6]; exact frM_c (by decide)
      obtain ⟨a1, a2, a3, a4, a5⟩ := E_X12_back_16 k (t + 1) (mS_fr M f9 (by decide) (by decide)) (nI_1 t) (by omega) hf
      refine ⟨?_, frM_tr f9 a2, a3.trans z6, a4, a5⟩
      intro j
      rw [a1 j]
      by_cases q1 : j = t
      · subst q1
        rw [if_neg (by omega), if_pos (by omega), o6, oi_eq]
      · by_cases q2 : t ≤ j ∧ j < 1284
        · rw [if_pos (by omega), if_pos q2, o6, oi_ne (Or.inl (by omega))]
        · rw [if_neg (by omega), if_neg q2, o6, oi_ne (Or.inr (by omega))]
theorem E_X12_pole_92 {n : Nat} : ∀ (k : Nat) {a0 : Nat} {x2 : Int32} {h : jH} {q : Int32 × jH} (t : Nat) (M : mS (oc h) a0) (hx : x2 = nI t) (ht : t ≤ 1284), F_X12_pole_92 n k a0 x2 h = some q → (∀ j, oi (oc q.2) (a0 + 1) j = if t ≤ j ∧ j < 1284 then oi (oc h) (a0 + 3) (j) else oi (oc h) (a0 + 1) j) ∧ frM a0 [1] [] (oc h) (oc q.2) ∧ q.2.1 = h.1 ∧ q.1 = 0
  | 0, a0, x2, h, q, t, M, hx, ht, hf => by cases hf
  | k + 1, a0, x2, h, q, t, M, hx, ht, hf => by
    replace hf : F_X12_pole_92_b n (F_X12_pole_92 n k) a0 x2 h = some q := hf
    unfold F_X12_pole_92_b at hf
    obtain ⟨s1, s2, s3, s4, s5, s8, s15, s17, s19, s20, s21⟩ := id M
    subst hx
    have lN : (1284 : Int32).toInt = 1284 := rfl
    replace hf := jite hf
    rcases hf with ⟨c1, hf⟩ | ⟨c1, hf⟩
    · skip
      cases hf
      -- leaf 0: ((0 : Int32), h)
      rw [Int32.le_iff_toInt_le, nI_toInt (by omega)] at c1
      exact ⟨fun j => by rw [if_neg (by omega)], frM_rfl, rfl, rfl⟩
    · skip
      replace hf := jbind hf
      obtain ⟨p100, e2, hf⟩ := hf
      have r2 := oc_gR e2
      rw [s1] at r2
      cases r2
      clear e2
      replace hf := jbind hf
      obtain ⟨p105, e3, hf⟩ := hf
      have r3 := oc_gR e3
      rw [s3] at r3
      cases r3
      clear e3
      replace hf := jbind hf
      obtain ⟨v109, e4, hf⟩ := hf
      obtain ⟨r4, y4⟩ := oc_al e4
      subst r4
      clear e4
      replace hf := jbind hf
      obtain ⟨h110, e5, hf⟩ := hf
      obtain ⟨o5, z5, y5⟩ := oc_as e5
      rw [jnar0] at o5
      clear e5
      -- leaf 1: rc92 a0 (x2 + (1 : Int32)) h110
      rw [Int32.le_iff_toInt_le, nI_toInt (by omega)] at c1
      rw [nI_cl (by omega)] at o5
      have f9 : frM a0 [1] [] (oc h) (oc h110) := by rw [o5]; exact frM_c (by decide)
      obtain ⟨a1, a2, a3, a4⟩ := E_X12_pole_92 k (t + 1) (mS_fr M f9 (by decide) (by decide)) (nI_1 t) (by omega)  hf
      refine ⟨?_, frM_tr f9 a2, a3.trans z5, a4⟩
      intro j
      rw [a1 j]
      by_cases q1 : j = t
      · subst q1
        rw [if_neg (by omega), if_pos (by omega), o5, oi_eq]
      · by_cases q2 : t ≤ j ∧ j < 1284
        · rw [if_pos (by omega), if_pos q2, o5, oi_ne (Or.inl (by omega))]
        · rw [if_neg (by omega), if_neg q2, o5, oi_ne (Or.inr (by omega))]
