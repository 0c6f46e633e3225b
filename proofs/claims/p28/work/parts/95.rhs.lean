/-! whole hours of the reference -/
noncomputable def tlH (calm : Bool) (W1 : jWd) : jWd × Int32 :=
  if calm = true then (tuW W1, 0)
  else (tuW (itW fl1 0 (cN (itW ct1 0 (cN W1) W1 0).1) (itW ct1 0 (cN W1) W1 0).1 0).1, (itW ct1 0 (cN W1) W1 0).2 + (itW fl1 0 (cN (itW ct1 0 (cN W1) W1 0).1) (itW ct1 0 (cN W1) W1 0).1 0).2)
theorem hr_tl {calm : Bool} {W : jWd} : hrW calm W = tlH calm (itW fd1 0 (cN W) W 0).1 := rfl
theorem tl_f {W1 : jWd} : tlH false W1 = (tuW (itW fl1 0 (cN (itW ct1 0 (cN W1) W1 0).1) (itW ct1 0 (cN W1) W1 0).1 0).1, (itW ct1 0 (cN W1) W1 0).2 + (itW fl1 0 (cN (itW ct1 0 (cN W1) W1 0).1) (itW ct1 0 (cN W1) W1 0).1 0).2) := if_neg (by decide)
theorem tl_t {W1 : jWd} : tlH true W1 = (tuW W1, 0) := if_pos rfl
theorem E_X12_catches {W : jWd} {n : Nat} {a0 : Nat} {h : jH} {q : Int32 × jH} (C : rkE (oc h) a0 W) (hf : F_X12_catches n a0 h = some q) : rkE (oc q.2) a0 (itW ct1 0 (cN W) W 0).1 ∧ q.1 = (itW ct1 0 (cN W) W 0).2 ∧ frM a0 [1, 8] [] (oc h) (oc q.2) ∧ q.2.1 = h.1 := by
  unfold F_X12_catches at hf
  -- leaf : F_X12_catches_4 n n a0 (0 : Int32) (0 : Int32) h
  exact E_X12_catches_4 n W 0 (cN W) C rfl (cN_m C.2.2.1) hf
theorem E_X12_falls {W : jWd} {n : Nat} {a0 : Nat} {h : jH} {q : Int32 × jH} (C : rkE (oc h) a0 W) (hf : F_X12_falls n a0 h = some q) : rkE (oc q.2) a0 (itW fl1 0 (cN W) W 0).1 ∧ q.1 = (itW fl1 0 (cN W) W 0).2 ∧ frM a0 [1, 8] [] (oc h) (oc q.2) ∧ q.2.1 = h.1 := by
  unfold F_X12_falls at hf
  -- leaf : F_X12_falls_4 n n a0 (0 : Int32) (0 : Int32) h
  exact E_X12_falls_4 n W 0 (cN W) C rfl (cN_m C.2.2.1) hf
theorem E_X12_oneHour_61 {W : jWd} {n : Nat} {a0 : Nat} {s0 : Int32} {h : jH} {q : Int32 × jH} (C : rkE (oc h) a0 W) (hf : F_X12_oneHour_61 n a0 s0 h = some q) : rkE (oc q.2) a0 (tuW W) ∧ q.1 = s0 ∧ frM a0 [1, 8] [] (oc h) (oc q.2) ∧ q.2.1 = h.1 := by
  unfold F_X12_oneHour_61 at hf
  obtain ⟨M, hW, K, LK, LB⟩ := id C
  obtain ⟨s1, s2, s3, s4, s5, s8, s15, s17, s19, s20, s21⟩ := id M
  have K0 := K.1
  have l1 : (1 : Int32).toInt = 1 := rfl
  have k3 := K.2.2.2.2.1
  have k4 := K.2.2.2.2.2.1
  have w3 : oi (oc h) (a0 + 1) 3 = W 3 := by rw [← hW]
  have w4 : oi (oc h) (a0 + 1) 4 = W 4 := by rw [← hW]
  replace hf := jbind hf
  obtain ⟨p63, e1, hf⟩ := hf
  have r1 := oc_gR e1
  rw [s1] at r1
  cases r1
  clear e1
  replace hf := jbind hf
  obtain ⟨v68, e2, hf⟩ := hf
  obtain ⟨r2, y2⟩ := oc_al e2
  rw [show (3 : Int32).toNatClampNeg = 3 from rfl] at r2
  subst r2
  clear e2
  replace hf := jbind hf
  obtain ⟨h71, e3, hf⟩ := hf
  obtain ⟨o3, z3, y3⟩ := oc_as e3
  rw [jnar0] at o3
  rw [show (3 : Int32).toNatClampNeg = 3 from rfl] at o3
  clear e3
  replace hf := jbind hf
  obtain ⟨p73, e4, hf⟩ := hf
  have r4 := oc_gR e4
  rw [o3] at r4
  rw [u2_ne (Or.inl (by omega))] at r4
  rw [s1] at r4
  cases r4
  clear e4
  replace hf := jbind hf
  obtain ⟨v77, e5, hf⟩ := hf
  obtain ⟨r5, y5⟩ := oc_al e5
  rw [show (3 : Int32).toNatClampNeg = 3 from rfl] at r5
  rw [o3] at r5
  rw [oi_eq] at r5
  subst r5
  clear e5
  replace hf := jite hf
  rcases hf with ⟨c6, hf⟩ | ⟨c6, hf⟩
  · skip
    replace hf := jbind hf
    obtain ⟨p84, e7, hf⟩ := hf
    have r7 := oc_gR e7
    rw [o3] at r7
    rw [u2_ne (Or.inl (by omega))] at r7
    rw [s1] at r7
    cases r7
    clear e7
    replace hf := jbind hf
    obtain ⟨h89, e8, hf⟩ := hf
    obtain ⟨o8, z8, y8⟩ := oc_as e8
    rw [jnar0] at o8
    rw [show (3 : Int32).toNatClampNeg = 3 from rfl] at o8
    clear e8
    replace hf := jbind hf
    obtain ⟨p91, e9, hf⟩ := hf
    have r9 := oc_gR e9
    rw [o8] at r9
    rw [u2_ne (Or.inl (by omega))] at r9
    rw [o3] at r9
    rw [u2_ne (Or.inl (by omega))] at r9
    rw [s1] at r9
    cases r9
    clear e9
    replace hf := jbind hf
    obtain ⟨p99, e10, hf⟩ := hf
    have r10 := oc_gR e10
    rw [o8] at r10
    rw [u2_ne (Or.inl (by omega))] at r10
    rw [o3] at r10
    rw [u2_ne (Or.inl (by omega))] at r10
    rw [s1] at r10
    cases r10
    clear e10
    replace hf := jbind hf
    obtain ⟨v103, e11, hf⟩ := hf
    obtain ⟨r11, y11⟩ := oc_al e11
    rw [show (4 : Int32).toNatClampNeg = 4 from rfl] at r11
    rw [o8] at r11
    rw [oi_ne (Or.inr (by decide))] at r11
    rw [o3] at r11
    rw [oi_ne (Or.inr (by decide))] at r11
    subst r11
    clear e11
    replace hf := jbind hf
    obtain ⟨h109, e12, hf⟩ := hf
    obtain ⟨o12, z12, y12⟩ := oc_as e12
    rw [jnar0] at o12
    rw [show (4 : Int32).toNatClampNeg = 4 from rfl] at o12
    clear e12
    cases hf
    -- leaf 0: (s0, h109)
    rw [w3, i_eq, jadd (by omega) (by omega), show (8 : Int32).toInt = 8 from rfl] at c6
    rw [w4] at o12
    have e : tuW W = upd (upd W 3 0) 4 (if W 4 + 1 < (9999 : Int32) then W 4 + 1 else 9999) := if_neg (by omega)
    have f9 : frM a0 [1] [] (oc h) (oc h109) := by rw [o12, o8, o3]; exact frM_tr (frM_tr (frM_c (by decide)) (frM_c (by decide))) (frM_c (by decide))
    have w9 : wl (oc h109) a0 = tuW W := by rw [e, o12, wl_w, o8, wl_w, o3, wl_w, upd_upd, hW]
    exact ⟨rk_w C (f1 f9) w9 (wOK_tu K) (fun k hk => tuW_n (by omega) (by omega)), rfl, f1 f9, z12.trans (z8.trans z3)⟩
  · skip
    cases hf
    -- leaf 1: (s0, h71)
    rw [w3, i_eq, jadd (by omega) (by omega), show (8 : Int32).toInt = 8 from rfl] at c6
    rw [w3] at o3
    have e : tuW W = upd W 3 (W 3 + 1) := if_pos (by omega)
    have f9 : frM a0 [1] [] (oc h) (oc h71) := by rw [o3]; exact frM_c (by decide)
    have w9 : wl (oc h71) a0 = tuW W := by rw [e, o3, wl_w, hW]
    exact ⟨rk_w C (f1 f9) w9 (wOK_tu K) (fun k hk => tuW_n (by omega) (by omega)), rfl, f1 f9, z3⟩
theorem E_X12_oneHour_2 {n : Nat} {calm : Bool} : ∀ (k : Nat) {a0 : Nat} {x1 : Int32} {x2 : Int32} {h : jH} {q : Int32 × jH} (W : jWd) (i : Nat) (m : Nat) (C : rkE (oc h) a0 W) (hc : x1 = dI calm) (hx : x2 = nI i) (hm : ((i + m : Nat) : Int) = (W 0).toInt), F_X12_oneHour_2 n k a0 x1 x2 h = some q → rkE (oc q.2) a0 (tlH calm (itW fd1 i m W 0).1).1 ∧ q.1 = (tlH calm (itW fd1 i m W 0).1).2 ∧ frM a0 [1, 8] [] (oc h) (oc q.2) ∧ q.2.1 = h.1
  | 0, a0, x1, x2, h, q, W, i, m, C, hc, hx, hm, hf => by cases hf
  | k + 1, a0, x1, x2, h, q, W, i, m, C, hc, hx, hm, hf => by
    replace hf : F_X12_oneHour_2_b n (F_X12_oneHour_2 n k) a0 x1 x2 h = some q := hf
    unfold F_X12_oneHour_2_b at hf
    obtain ⟨M, hW, K, LK, LB⟩ := id C
    obtain ⟨s1, s2, s3, s4, s5, s8, s15, s17, s19, s20, s21⟩ := id M
    have K0 := K.1
    have l1 : (1 : Int32).toInt = 1 := rfl
    replace hf := jbind hf
    obtain ⟨v4, e1, hf⟩ := hf
    replace e1 := (jcv_o e1).2
    have r1 := E_X12_rings M e1
    rw [hW] at r1
    subst r1
    replace hf := jite hf
    rcases hf with ⟨c2, hf⟩ | ⟨c2, hf⟩
    · skip
      replace hf := jite hf
      rcases hf with ⟨c3, hf⟩ | ⟨c3, hf⟩
      · skip
        replace hf := jbind hf
        obtain ⟨q53, e4, hf⟩ := hf
        replace e4 := (jcv_o e4).2
        replace hf := jbind hf
        obtain ⟨q57, e5, hf⟩ := hf
        replace e5 := (jcv_o e5).2
        -- leaf 00: F_X12_oneHour_61 n a0 (q53.1 + q57.1) q57.2
        rw [hx, nI_eI (by omega)] at c2
        have : m = 0 := by omega
        subst this
        have dz : calm = false := by cases calm with | false => rfl | true => exact absurd (hc.symm.trans c3) (by decide)
        subst dz
        obtain ⟨A1, A2, A3, A4⟩ := E_X12_catches C e4
        obtain ⟨P2, hP2⟩ : ∃ p, p = itW ct1 0 (cN W) W 0 := ⟨_, rfl⟩
        rw [← hP2] at A1 A2
        obtain ⟨B1, B2, B3, B4⟩ := E_X12_falls A1 e5
        obtain ⟨P3, hP3⟩ : ∃ p, p = itW fl1 0 (cN P2.1) P2.1 0 := ⟨_, rfl⟩
        rw [← hP3] at B1 B2
        obtain ⟨T1, T2, T3, T4⟩ := E_X12_oneHour_61 B1 hf
        have hh : tlH false (itW fd1 i 0 W 0).1 = (tuW P3.1, P2.2 + P3.2) := by show tlH false W = _; rw [tl_f, ← hP2, ← hP3]
        rw [hh]
        exact ⟨T1, by rw [T2, A2, B2], frM_tr (frM_tr A3 B3) T3, T4.trans (B4.trans A4)⟩
      · skip
        -- leaf 01: F_X12_oneHour_61 n a0 (0 : Int32) h
        rw [hx, nI_eI (by omega)] at c2
        have : m = 0 := by omega
        subst this
        have dz : calm = true := by cases calm with | true => rfl | false => exact absurd hc c3
        subst dz
        obtain ⟨T1, T2, T3, T4⟩ := E_X12_oneHour_61 C hf
        have hh : tlH true (itW fd1 i 0 W 0).1 = (tuW W, 0) := tl_t
        rw [hh]
        exact ⟨T1, T2, T3, T4⟩
    · skip
      replace hf := jbind hf
      obtain ⟨p11, e6, hf⟩ := hf
      have r6 := oc_gR e6
      rw [s1] at r6
      cases r6
      clear e6
      replace hf := jbind hf
      obtain ⟨v16, e7, hf⟩ := hf
      replace hf := jbind hf
      obtain ⟨v24, e8, hf⟩ := hf
      replace e8 := (jcv_o e8).2
      replace hf := jbind hf
      obtain ⟨q30, e9, hf⟩ := hf
      replace e9 := (jcv_o e9).2
      replace hf := jbind hf
      obtain ⟨h37, e10, hf⟩ := hf
      obtain ⟨o10, z10, y10⟩ := oc_as e10
      rw [jnar0] at o10
      clear e10
      -- leaf 1: rc2 a0 x1 (x2 + (1 : Int32)) h37
      have hi : (i : Int) < (W 0).toInt := by rw [hx, nI_eI (by omega)] at c2; omega
      obtain ⟨m, rfl⟩ : ∃ p, m = p + 1 := ⟨m - 1, by omega⟩
      have r7 := E_X12_at (i := i) (j := 4) (t := 15 + 8 * i) hx rfl (by omega) e7
      have r8 := E_X12_of M (j := 4) (t := 15 + 8 * i) hx rfl (by omega) (by omega) e8
      rw [hW] at r8
      obtain ⟨b1, b2, b3⟩ := E_X12_byLaw M hW K hi LK hx e9
      have C2 := rk_8 C b2
      rw [r7, nI_cl (by omega), r8, b1] at o10
      obtain ⟨g1, g2⟩ := wOK_fd K LK LB hi
      have f3 : frM a0 [1] [] (oc q30.2) (oc h37) := by rw [o10]; exact frM_c (by decide)
      have w3 : wl (oc h37) a0 = (fd1 W i).1 := by rw [o10, wl_w, C2.2.1]; rfl
      have C3 := rk_w C2 (f1 f3) w3 g1 (fun k hk => g2 k (by omega))
      obtain ⟨d1, d2, d3, d4⟩ := E_X12_oneHour_2 k (fd1 W i).1 (i + 1) m C3 hc (by rw [hx, nI_1]) (by rw [g2 0 (by omega)]; omega) hf
      have e : (itW fd1 i (m + 1) W 0).1 = (itW fd1 (i + 1) m (fd1 W i).1 0).1 := rfl
      rw [e]
      exact ⟨d1, d2, frM_tr (frM_tr (f8 b2) (f1 f3)) d3, d4.trans (z10.trans b3)⟩
theorem E_X12_oneHour {calm : Bool} {W : jWd} {n : Nat} {a0 : Nat} {x1 : Int32} {h : jH} {q : Int32 × jH} (C : rkE (oc h) a0 W) (hc : x1 = dI calm) (hf : F_X12_oneHour n a0 x1 h = some q) : rkE (oc q.2) a0 (hrW calm W).1 ∧ q.1 = (hrW calm W).2 ∧ frM a0 [1, 8] [] (oc h) (oc q.2) ∧ q.2.1 = h.1 := by
  unfold F_X12_oneHour at hf
  -- leaf : F_X12_oneHour_2 n n a0 x1 (0 : Int32) h
  rw [hr_tl]
  exact E_X12_oneHour_2 n W 0 (cN W) C hc rfl (cN_m C.2.2.1) hf
theorem E_X12_goesOn_5 {n : Nat} {calm : Bool} : ∀ (k : Nat) {a0 : Nat} {x1 : Int32} {x2 : Int32} {x3 : Int32} {x4 : Int32} {h : jH} {q : Int32 × jH} (W : jWd) (t : Nat) (m : Nat) (C : rkE (oc h) a0 W) (hc : x2 = dI calm) (hn : t + m < 1000) (h1 : x1 = nI (t + m)) (h4 : x4 = nI t), F_X12_goesOn_5 n k a0 x1 x2 x3 x4 h = some q → rkE (oc q.2) a0 (hrs calm m W x3).1 ∧ q.1 = (hrs calm m W x3).2 ∧ frM a0 [1, 8] [] (oc h) (oc q.2) ∧ q.2.1 = h.1
  | 0, a0, x1, x2, x3, x4, h, q, W, t, m, C, hc, hn, h1, h4, hf => by cases hf
  | k + 1, a0, x1, x2, x3, x4, h, q, W, t, m, C, hc, hn, h1, h4, hf => by
    replace hf : F_X12_goesOn_5_b n (F_X12_goesOn_5 n k) a0 x1 x2 x3 x4 h = some q := hf
    unfold F_X12_goesOn_5_b at hf
    replace hf := jite hf
    rcases hf with ⟨c1, hf⟩ | ⟨c1, hf⟩
    · skip
      cases hf
      -- leaf 0: (x3, h)
      rw [h1, h4, Int32.le_iff_toInt_le, nI_toInt (by omega), nI_toInt (by omega)] at c1
      have : m = 0 := by omega
      subst this
      exact ⟨C, rfl, frM_rfl, rfl⟩
    · skip
      replace hf := jbind hf
      obtain ⟨q14, e2, hf⟩ := hf
      replace e2 := (jcv_o e2).2
      obtain ⟨A1, A2, A3, A4⟩ := E_X12_oneHour C hc e2
      -- leaf 1: rc5 a0 x1 x2 (x3 + q14.1) (x4 + (1 : Int32)) q14.2
      rw [h1, h4, Int32.le_iff_toInt_le, nI_toInt (by omega), nI_toInt (by omega)] at c1
      obtain ⟨m, rfl⟩ : ∃ p, m = p + 1 := ⟨m - 1, by omega⟩
      obtain ⟨g1, g2, g3, g4⟩ := E_X12_goesOn_5 k (hrW calm W).1 (t + 1) m A1 hc (by omega) (by rw [h1]; congr 1; omega) (by rw [h4, nI_1]) hf
      rw [A2] at g1 g2
      exact ⟨g1, g2, frM_tr A3 g3, g4.trans A4⟩
theorem E_X12_goesOn {calm : Bool} {W : jWd} {m : Nat} {n : Nat} {a0 : Nat} {x1 : Int32} {x2 : Int32} {h : jH} {q : Int32 × jH} (C : rkE (oc h) a0 W) (hc : x2 = dI calm) (hn : m < 1000) (h1 : x1 = nI m) (hf : F_X12_goesOn n a0 x1 x2 h = some q) : rkE (oc q.2) a0 (hrs calm m W 0).1 ∧ q.1 = (hrs calm m W 0).2 ∧ frM a0 [1, 8] [] (oc h) (oc q.2) ∧ q.2.1 = h.1 := by
  unfold F_X12_goesOn at hf
  -- leaf : F_X12_goesOn_5 n n a0 x1 x2 (0 : Int32) (0 : Int32) h
  exact E_X12_goesOn_5 n W 0 m C hc (by omega) (by rw [h1]; congr 1; omega) rfl hf
