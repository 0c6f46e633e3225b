/-! a ring sewn on -/
/-- one ring more, at place x with cloth y -/
def hgW (W : jWd) (x y : Int32) : jWd := fun k => if k = 0 then W 0 + 1 else if k = 11 + 8 * cN W then x else if k = 12 + 8 * cN W then y else if k = 17 + 8 * cN W then 1 else if 11 + 8 * cN W ≤ k ∧ k < 19 + 8 * cN W then 0 else W k
def leW (W : jWd) : Int32 := if W 0 = 0 then 0 else W (11 + 8 * (cN W - 1)) + 1
def moW (W : jWd) : Int32 := if W 0 = 0 then 31 else (if W (11 + 8 * (cN W - 1)) + W (12 + 8 * (cN W - 1)) < (31 : Int32) then W (11 + 8 * (cN W - 1)) + W (12 + 8 * (cN W - 1)) else (31 : Int32))
def canS (W : jWd) (x : Int32) : Prop := ¬ W 0 = 8 ∧ (leW W).toInt ≤ x.toInt ∧ x.toInt ≤ (moW W).toInt
theorem cN_last {W : jWd} (K : wOK W) (h : ¬ W 0 = 0) : W 0 - 1 = nI (cN W - 1) ∧ 1 ≤ cN W ∧ cN W ≤ 8 := by
  have k := K.1
  have l1 : (1 : Int32).toInt = 1 := rfl
  have n0 : (W 0).toInt ≠ 0 := fun z => h (nI_k (k := 0) z)
  have e : (cN W : Int) = (W 0).toInt := by unfold cN; omega
  exact ⟨nI_k (by rw [jsub (by omega) (by omega)]; omega), by omega, by omega⟩
theorem E_X12_hangs_8 {n : Nat} {W : jWd} : ∀ (k : Nat) {a0 : Nat} {x1 : Int32} {x2 : Int32} {x3 : Int32} {x4 : Int32} {h : jH} {q : jH} (t : Nat) (M : mS (oc h) a0) (hw : ∀ k, wl (oc h) a0 k = if 11 + 8 * cN W ≤ k ∧ k < 11 + 8 * cN W + t then 0 else W k) (h3 : x3 = nI (cN W)) (h4 : x4 = nI t) (ht : t ≤ 8) (hc : cN W < 8), F_X12_hangs_8 n k a0 x1 x2 x3 x4 h = some q → wl (oc q) a0 = hgW W x1 x2 ∧ frM a0 [1] [] (oc h) (oc q) ∧ q.1 = h.1
  | 0, a0, x1, x2, x3, x4, h, q, t, M, hw, h3, h4, ht, hc, hf => by cases hf
  | k + 1, a0, x1, x2, x3, x4, h, q, t, M, hw, h3, h4, ht, hc, hf => by
    replace hf : F_X12_hangs_8_b n (F_X12_hangs_8 n k) a0 x1 x2 x3 x4 h = some q := hf
    unfold F_X12_hangs_8_b at hf
    obtain ⟨s1, s2, s3, s4, s5, s8, s15, s17, s19, s20, s21⟩ := id M
    replace hf := jite hf
    rcases hf with ⟨c1, hf⟩ | ⟨c1, hf⟩
    · skip
      replace hf := jbind hf
      obtain ⟨p34, e2, hf⟩ := hf
      have r2 := oc_gR e2
      rw [s1] at r2
      cases r2
      clear e2
      replace hf := jbind hf
      obtain ⟨v39, e3, hf⟩ := hf
      have r3 := E_X12_at (i := cN W) (j := 0) (t := 11 + 8 * cN W) h3 rfl (by omega) e3
      subst r3
      replace hf := jbind hf
      obtain ⟨h43, e4, hf⟩ := hf
      obtain ⟨o4, z4, y4⟩ := oc_as e4
      rw [jnar0] at o4
      clear e4
      rw [nI_cl (show 11 + 8 * cN W < 2147483648 by omega)] at o4
      replace hf := jbind hf
      obtain ⟨p45, e5, hf⟩ := hf
      have r5 := oc_gR e5
      rw [o4] at r5
      rw [u2_ne (Or.inl (by omega))] at r5
      rw [s1] at r5
      cases r5
      clear e5
      replace hf := jbind hf
      obtain ⟨v50, e6, hf⟩ := hf
      have r6 := E_X12_at (i := cN W) (j := 1) (t := 12 + 8 * cN W) h3 rfl (by omega) e6
      subst r6
      replace hf := jbind hf
      obtain ⟨h54, e7, hf⟩ := hf
      obtain ⟨o7, z7, y7⟩ := oc_as e7
      rw [jnar0] at o7
      clear e7
      rw [nI_cl (show 12 + 8 * cN W < 2147483648 by omega)] at o7
      replace hf := jbind hf
      obtain ⟨p56, e8, hf⟩ := hf
      have r8 := oc_gR e8
      rw [o7] at r8
      rw [u2_ne (Or.inl (by omega))] at r8
      rw [o4] at r8
      rw [u2_ne (Or.inl (by omega))] at r8
      rw [s1] at r8
      cases r8
      clear e8
      replace hf := jbind hf
      obtain ⟨v62, e9, hf⟩ := hf
      have r9 := E_X12_at (i := cN W) (j := 6) (t := 17 + 8 * cN W) h3 rfl (by omega) e9
      subst r9
      replace hf := jbind hf
      obtain ⟨h66, e10, hf⟩ := hf
      obtain ⟨o10, z10, y10⟩ := oc_as e10
      rw [jnar0] at o10
      clear e10
      rw [nI_cl (show 17 + 8 * cN W < 2147483648 by omega)] at o10
      replace hf := jbind hf
      obtain ⟨p68, e11, hf⟩ := hf
      have r11 := oc_gR e11
      rw [o10] at r11
      rw [u2_ne (Or.inl (by omega))] at r11
      rw [o7] at r11
      rw [u2_ne (Or.inl (by omega))] at r11
      rw [o4] at r11
      rw [u2_ne (Or.inl (by omega))] at r11
      rw [s1] at r11
      cases r11
      clear e11
      replace hf := jbind hf
      obtain ⟨v73, e12, hf⟩ := hf
      obtain ⟨r12, y12⟩ := oc_al e12
      rw [show (0 : Int32).toNatClampNeg = 0 from rfl] at r12
      rw [o10] at r12
      rw [oi_ne (Or.inr (by omega))] at r12
      rw [o7] at r12
      rw [oi_ne (Or.inr (by omega))] at r12
      rw [o4] at r12
      rw [oi_ne (Or.inr (by omega))] at r12
      subst r12
      clear e12
      replace hf := jbind hf
      obtain ⟨h76, e13, hf⟩ := hf
      obtain ⟨o13, z13, y13⟩ := oc_as e13
      rw [jnar0] at o13
      rw [show (0 : Int32).toNatClampNeg = 0 from rfl] at o13
      clear e13
      cases hf
      -- leaf 0: h76
      rw [h4, Int32.le_iff_toInt_le, nI_toInt (by omega), show (8 : Int32).toInt = 8 from rfl] at c1
      have t8 : t = 8 := by omega
      subst t8
      have g0 : oi (oc h) (a0 + 1) 0 = W 0 := (hw 0).trans (if_neg (by omega))
      rw [g0] at o13
      have w9 : wl (oc q) a0 = upd (upd (upd (upd (wl (oc h) a0) (11 + 8 * cN W) x1) (12 + 8 * cN W) x2) (17 + 8 * cN W) 1) 0 (W 0 + 1) := by rw [o13, wl_w, o10, wl_w, o7, wl_w, o4, wl_w]
      have f9 : frM a0 [1] [] (oc h) (oc q) := by rw [o13, o10, o7, o4]; exact frM_tr (frM_tr (frM_tr (frM_c (by decide)) (frM_c (by decide))) (frM_c (by decide))) (frM_c (by decide))
      refine ⟨?_, f9, z13.trans (z10.trans (z7.trans z4))⟩
      rw [w9]
      funext k
      unfold hgW
      by_cases k0 : k = 0
      · rw [k0, upd_eq, if_pos rfl]
      rw [upd_n k0, if_neg k0]
      by_cases k1 : k = 11 + 8 * cN W
      · rw [if_pos k1, upd_n (by omega), upd_n (by omega), k1, upd_eq]
      by_cases k2 : k = 12 + 8 * cN W
      · rw [if_neg k1, if_pos k2, upd_n (by omega), k2, upd_eq]
      by_cases k6 : k = 17 + 8 * cN W
      · rw [if_neg k1, if_neg k2, if_pos k6, k6, upd_eq]
      rw [if_neg k1, if_neg k2, if_neg k6, upd_n k6, upd_n k2, upd_n k1, hw k]
      by_cases y : 11 + 8 * cN W ≤ k ∧ k < 11 + 8 * cN W + 8
      · rw [if_pos y, if_pos (by omega)]
      · rw [if_neg y, if_neg (by omega)]
    · skip
      replace hf := jbind hf
      obtain ⟨p16, e14, hf⟩ := hf
      have r14 := oc_gR e14
      rw [s1] at r14
      cases r14
      clear e14
      replace hf := jbind hf
      obtain ⟨v22, e15, hf⟩ := hf
      have r15 := E_X12_at (i := cN W) (j := t) (t := 11 + 8 * cN W + t) h3 h4 (by omega) e15
      subst r15
      replace hf := jbind hf
      obtain ⟨h26, e16, hf⟩ := hf
      obtain ⟨o16, z16, y16⟩ := oc_as e16
      rw [jnar0] at o16
      clear e16
      rw [nI_cl (show 11 + 8 * cN W + t < 2147483648 by omega)] at o16
      -- leaf 1: rc8 a0 x1 x2 x3 (x4 + (1 : Int32)) h26
      rw [h4, Int32.le_iff_toInt_le, nI_toInt (by omega), show (8 : Int32).toInt = 8 from rfl] at c1
      have f16 : frM a0 [1] [] (oc h) (oc h26) := by rw [o16]; exact frM_c (by decide)
      have hw2 : ∀ u, wl (oc h26) a0 u = if 11 + 8 * cN W ≤ u ∧ u < 11 + 8 * cN W + (t + 1) then 0 else W u := by
        intro u
        rw [o16, wl_w]
        by_cases y : u = 11 + 8 * cN W + t
        · rw [y, upd_eq, if_pos (by omega)]
        · rw [upd_n y, hw u]
          by_cases w : 11 + 8 * cN W ≤ u ∧ u < 11 + 8 * cN W + t
          · rw [if_pos w, if_pos (by omega)]
          · rw [if_neg w, if_neg (by omega)]
      obtain ⟨b1, b2, b3⟩ := E_X12_hangs_8 (W := W) k (t + 1) (mS_fr M f16 (by decide) (by decide)) hw2 h3 (by rw [h4, nI_1]) (by omega) hc hf
      exact ⟨b1, frM_tr f16 b2, b3.trans z16⟩
theorem E_X12_hangs {W : jWd} {n : Nat} {a0 : Nat} {x1 : Int32} {x2 : Int32} {h : jH} {q : jH} (M : mS (oc h) a0) (hW : wl (oc h) a0 = W) (K : wOK W) (hc : cN W < 8) (hf : F_X12_hangs n a0 x1 x2 h = some q) : wl (oc q) a0 = hgW W x1 x2 ∧ frM a0 [1] [] (oc h) (oc q) ∧ q.1 = h.1 := by
  unfold F_X12_hangs at hf
  replace hf := jbind hf
  obtain ⟨v1, e1, hf⟩ := hf
  replace e1 := (jcv_o e1).2
  have r1 := E_X12_rings M e1
  rw [hW] at r1
  subst r1
  -- leaf : F_X12_hangs_8 n n a0 x1 x2 v1 (0 : Int32) h
  have k0 := K.1
  have h3 : W 0 = nI (cN W) := nI_k (by unfold cN; omega)
  exact E_X12_hangs_8 (W := W) n 0 M (fun k => by rw [if_neg (by omega), hW]) h3 rfl (by omega) hc hf
theorem E_X12_leastPlace {W : jWd} {n : Nat} {a0 : Nat} {h : jH} {q : Int32} (M : mS (oc h) a0) (hW : wl (oc h) a0 = W) (K : wOK W) (hf : F_X12_leastPlace n a0 h = some q) : q = leW W := by
  unfold F_X12_leastPlace at hf
  replace hf := jbind hf
  obtain ⟨v1, e1, hf⟩ := hf
  replace e1 := (jcv_o e1).2
  have r1 := E_X12_rings M e1
  rw [hW] at r1
  subst r1
  replace hf := jite hf
  rcases hf with ⟨c2, hf⟩ | ⟨c2, hf⟩
  · skip
    cases hf
    -- leaf 0: (0 : Int32)
    exact (if_pos c2).symm
  · skip
    replace hf := jbind hf
    obtain ⟨v13, e3, hf⟩ := hf
    replace e3 := (jcv_o e3).2
    have r3 := E_X12_lastRing M e3
    rw [hW] at r3
    subst r3
    obtain ⟨n1, n2, n3⟩ := cN_last K c2
    replace hf := jbind hf
    obtain ⟨v17, e4, hf⟩ := hf
    replace e4 := (jcv_o e4).2
    have r4 := E_X12_of (i := cN W - 1) (j := 0) (t := 11 + 8 * (cN W - 1)) M n1 rfl (by omega) (by omega) e4
    rw [hW] at r4
    subst r4
    cases hf
    -- leaf 1: (v17 + (1 : Int32))
    exact (if_neg c2).symm
theorem E_X12_mostPlace {W : jWd} {n : Nat} {a0 : Nat} {h : jH} {q : Int32} (M : mS (oc h) a0) (hW : wl (oc h) a0 = W) (K : wOK W) (hf : F_X12_mostPlace n a0 h = some q) : q = moW W := by
  unfold F_X12_mostPlace at hf
  replace hf := jbind hf
  obtain ⟨v1, e1, hf⟩ := hf
  replace e1 := (jcv_o e1).2
  have r1 := E_X12_rings M e1
  rw [hW] at r1
  subst r1
  replace hf := jite hf
  rcases hf with ⟨c2, hf⟩ | ⟨c2, hf⟩
  · skip
    cases hf
    -- leaf 0: (31 : Int32)
    exact (if_pos c2).symm
  · skip
    replace hf := jbind hf
    obtain ⟨v16, e3, hf⟩ := hf
    replace e3 := (jcv_o e3).2
    have r3 := E_X12_lastRing M e3
    rw [hW] at r3
    subst r3
    obtain ⟨n1, n2, n3⟩ := cN_last K c2
    replace hf := jbind hf
    obtain ⟨v20, e4, hf⟩ := hf
    replace e4 := (jcv_o e4).2
    have r4 := E_X12_of (i := cN W - 1) (j := 0) (t := 11 + 8 * (cN W - 1)) M n1 rfl (by omega) (by omega) e4
    rw [hW] at r4
    subst r4
    replace hf := jbind hf
    obtain ⟨v25, e5, hf⟩ := hf
    replace e5 := (jcv_o e5).2
    have r5 := E_X12_lastRing M e5
    rw [hW] at r5
    subst r5
    obtain ⟨n1, n2, n3⟩ := cN_last K c2
    replace hf := jbind hf
    obtain ⟨v29, e6, hf⟩ := hf
    replace e6 := (jcv_o e6).2
    have r6 := E_X12_of (i := cN W - 1) (j := 1) (t := 12 + 8 * (cN W - 1)) M n1 rfl (by omega) (by omega) e6
    rw [hW] at r6
    subst r6
    cases hf
    -- leaf 1: (if (v20 + v29) < (31 : Int32) then v20 + v29 else (31 : Int32))
    exact (if_neg c2).symm
