section
/-! whole hours of the reference -/
noncomputable def tlH (calm : Bool) (W1 : jWd) : jWd × Int32 :=
  if calm = true then (tuW W1, 0)
  else (tuW (itW fl1 0 (cN (itW ct1 0 (cN W1) W1 0).1) (itW ct1 0 (cN W1) W1 0).1 0).1, (itW ct1 0 (cN W1) W1 0).2 + (itW fl1 0 (cN (itW ct1 0 (cN W1) W1 0).1) (itW ct1 0 (cN W1) W1 0).1 0).2)
theorem hr_tl {calm : Bool} {W : jWd} : hrW calm W = tlH calm (itW fd1 0 (cN W) W 0).1 := rfl
theorem tl_f {W1 : jWd} : tlH false W1 = (tuW (itW fl1 0 (cN (itW ct1 0 (cN W1) W1 0).1) (itW ct1 0 (cN W1) W1 0).1 0).1, (itW ct1 0 (cN W1) W1 0).2 + (itW fl1 0 (cN (itW ct1 0 (cN W1) W1 0).1) (itW ct1 0 (cN W1) W1 0).1 0).2) := if_neg (by decide)
theorem tl_t {W1 : jWd} : tlH true W1 = (tuW W1, 0) := if_pos rfl
theorem E_X12_catches {W : jWd} {n : Nat} {a0 : Nat} {h : jH} {q : Int32 × jH} (C : rkE (oc h) a0 W) (hf : F_X12_catches n a0 h = some q) : rkE (oc q.2) a0 (itW ct1 0 (cN W) W 0).1 ∧ q.1 = (itW ct1 0 (cN W) W 0).2 ∧ frM a0 [1, 8] [] (oc h) (oc q.2) ∧ q.2.1 = h.1 := by
  unfold F_X12_catches at hf
  -- leaf : F_X12_catches_4 n n a0 (0 : Int32) (0 : Int32) h
  exact E_X12_catches_4 n W 0 (cN W) C rfl (cN_m C.2.2.1) hf
theorem E_X12_falls {W : jWd} {n : Nat} {a0 : Nat} {h : jH} {q : Int32 × jH} (C : rkE (oc h) a0 W) (hf : F_X12_falls n a0 h = some q) : rkE (oc q.2) a0 (itW fl1 0 (cN W) W 0).1 ∧ q.1 = (itW fl1 0 (cN W) W 0).2 ∧ frM a0 [1, 8] [] (oc h) (oc q.2) ∧ q.2.1 = h.1 := by
  unfold F_X12_falls at hf
  -- leaf : F_X12_falls_4 n n a0 (0 : Int32) (0 : Int32) h
  exact E_X12_falls_4 n W 0 (cN W) C rfl (cN_m C.2.2.1) hf
theorem E_X12_oneHour_61 {W : jWd} {n : Nat} {a0 : Nat} {s0 : Int32} {h : jH} {q : Int32 × jH} (C : rkE (oc h) a0 W) (hf : F_X12_oneHour_61 n a0 s0 h = some q) : rkE (oc q.2) a0 (tuW W) ∧ q.1 = s0 ∧ frM a0 [1, 8] [] (oc h) (oc q.2) ∧ q.2.1 = h.1 := by
  unfold F_X12_oneHour_61 at hf
  obtain ⟨M, hW, K, LK, LB⟩ := id C
  obtain ⟨s1, s2, s3, s4, s5, s8, s15, s17, s19, s20, s21⟩ := id M
  have K0 := K.1
  have l1 : (1 : Int32).toInt = 1 := rfl
  have k3 := K.2.2.2.2.1
  have k4 := K.2.2.2.2.2.1
  have w3 : oi (oc h) (a0 + 1) 3 = W 3 := by rw [← hW]
  have w4 : oi (oc h) (a0 + 1) 4 = W 4 := by rw [← hW]
  replace hf := jbind hf
  obtain ⟨p63, e1, hf⟩ := hf
  have r1 := oc_gR e1
  rw [s1] at r1
  cases r1
  clear e1
  replace hf := jbind hf
  obtain ⟨v68, e2, hf⟩ := hf
  obtain ⟨r2, y2⟩ := oc_al e2
  rw [show (3 : Int32).toNatClampNeg = 3 from rfl] at r2
  subst r2
  clear e2
  replace hf := jbind hf
  obtain ⟨h71, e3, hf⟩ := hf
  obtain ⟨o3, z3, y3⟩ := oc_as e3
  rw [jnar0] at o3
  rw [show (3 : Int32).toNatClampNeg = 3 from rfl] at o3
  clear e3
  replace hf := jbind hf
  obtain ⟨p73, e4, hf⟩ := hf
  have r4 := oc_gR e4
  rw [o3] at r4
  rw [u2_ne (Or.inl (by omega))] at r4
  rw [s1] at r4
  cases r4
  clear e4
  replace hf := jbind hf
  obtain ⟨v77, e5, hf⟩ := hf
  obtain ⟨r5, y5⟩ := oc_al e5
  rw [show (3 : Int32).toNatClampNeg = 3 from rfl] at r5
  rw [o3] at r5
  rw [oi_eq] at r5
  subst r5
  clear e5
  replace hf := jite hf
  rcases hf with ⟨c6, hf⟩ | ⟨c6, hf⟩
  · skip
    replace hf := jbind hf
    obtain ⟨p84, e7, hf⟩ := hf
    have r7 := oc_gR e7
    rw [o3] at r7
    rw [u2_ne (Or.inl (by omega))] at r7
    rw [s1] at r7
    cases r7
    clear e7
    replace hf := jbind hf
    obtain ⟨h89, e8, hf⟩ := hf
    obtain ⟨o8, z8, y8⟩ := oc_as e8
    rw [jnar0] at o8
    rw [show (3 : Int32).toNatClampNeg = 3 from rfl] at o8
    clear e8
    replace hf := jbind hf
    obtain ⟨p91, e9, hf⟩ := hf
    have r9 := oc_gR e9
    rw [o8] at r9
    rw [u2_ne (Or.inl (by omega))] at r9
    rw [o3] at r9
    rw [u2_ne (Or.inl (by omega))] at r9
    rw [s1] at r9
    cases r9
    clear e9
    replace hf := jbind hf
    obtain ⟨p99, e10, hf⟩ := hf
    have r10 := oc_gR e10
    rw [o8] at r10
    rw [u2_ne (Or.inl (by omega))] at r10
    rw [o3] at r10
    rw [u2_ne (Or.inl (by omega))] at r10
    rw [s1] at r10
    cases r10
    clear e10
    replace hf := jbind hf
    obtain ⟨v103, e11, hf⟩ := hf
    obtain ⟨r11, y11⟩ := oc_al e11
    rw [show (4 : Int32).toNatClampNeg = 4 from rfl] at r11
    rw [o8] at r11
    rw [oi_ne (Or.inr (by decide))] at r11
    rw [o3] at r11
    rw [oi_ne (Or.inr (by decide))] at r11
    subst r11
    clear e11
    replace hf := jbind hf
    obtain ⟨h109, e12, hf⟩ := hf
    obtain ⟨o12, z12, y12⟩ := oc_as e12
    rw [jnar0] at o12
    rw [show (4 : Int32).toNatClampNeg = 4 from rfl] at o12
    clear e12
    cases hf
    -- leaf 0: (s0, h109)
    rw [w3, i_eq, jadd (by omega) (by omega), show (8 : Int32).toInt = 8 from rfl] at c6
    rw [w4] at o12
    have e : tuW W = upd (upd W 3 0) 4 (if W 4 + 1 < (9999 : Int32) then W 4 + 1 else 9999) := if_neg (by omega)
    have f9 : frM a0 [1] [] (oc h) (oc h109) := by rw [o12, o8, o3]; exact frM_tr (frM_tr (frM_c (by decide)) (frM_c (by decide))) (frM_c (by decide))
    have w9 : wl (oc h109) a0 = tuW W := by rw [e, o12, wl_w, o8, wl_w, o3, wl_w, upd_upd, hW]
    exact ⟨rk_w C (f1 f9) w9 (wOK_tu K) (fun k hk => tuW_n (by omega) (by omega)), rfl, f1 f9, z12.trans (z8.trans z3)⟩
  · skip
    cases hf
    -- leaf 1: (s0, h71)
    rw [w3, i_eq, jadd (by omega) (by omega), show (8 : Int32).toInt = 8 from rfl] at c6
    rw [w3] at o3
    have e : tuW W = upd W 3 (W 3 + 1) := if_pos (by omega)
    have f9 : frM a0 [1] [] (oc h) (oc h71) := by rw [o3]; exact frM_c (by decide)
    have w9 : wl (oc h71) a0 = tuW W := by rw [e, o3, wl_w, hW]
    exact ⟨rk_w C (f1 f9) w9 (wOK_tu K) (fun k hk => tuW_n (by omega) (by omega)), rfl, f1 f9, z3⟩
theorem E_X12_oneHour_2 {n : Nat} {calm : Bool} : ∀ (k : Nat) {a0 : Nat} {x1 : Int32} {x2 : Int32} {h : jH} {q : Int32 × jH} (W : jWd) (i : Nat) (m : Nat) (C : rkE (oc h) a0 W) (hc : x1 = dI calm) (hx : x2 = nI i) (hm : ((i + m : Nat) : Int) = (W 0).toInt), F_X12_oneHour_2 n k a0 x1 x2 h = some q → rkE (oc q.2) a0 (tlH calm (itW fd1 i m W 0).1).1 ∧ q.1 = (tlH calm (itW fd1 i m W 0).1).2 ∧ frM a0 [1, 8] [] (oc h) (oc q.2) ∧ q.2.1 = h.1
  | 0, a0, x1, x2, h, q, W, i, m, C, hc, hx, hm, hf => by cases hf
  | k + 1, a0, x1, x2, h, q, W, i, m, C, hc, hx, hm, hf => by
    replace hf : F_X12_oneHour_2_b n (F_X12_oneHour_2 n k) a0 x1 x2 h = some q := hf
    unfold F_X12_oneHour_2_b at hf
    obtain ⟨M, hW, K, LK, LB⟩ := id C
    obtain ⟨s1, s2, s3, s4, s5, s8, s15, s17, s19, s20, s21⟩ := id M
    have K0 := K.1
    have l1 : (1 : Int32).toInt = 1 := rfl
    replace hf := jbind hf
    obtain ⟨v4, e1, hf⟩ := hf
    replace e1 := (jcv_o e1).2
    have r1 := E_X12_rings M e1
    rw [hW] at r1
    subst r1
    replace hf := jite hf
    rcases hf with ⟨c2, hf⟩ | ⟨c2, hf⟩
    · skip
      replace hf := jite hf
      rcases hf with ⟨c3, hf⟩ | ⟨c3, hf⟩
      · skip
        replace hf := jbind hf
        obtain ⟨q53, e4, hf⟩ := hf
        replace e4 := (jcv_o e4).2
        replace hf := jbind hf
        obtain ⟨q57, e5, hf⟩ := hf
        replace e5 := (jcv_o e5).2
        -- leaf 00: F_X12_oneHour_61 n a0 (q53.1 + q57.1) q57.2
        rw [hx, nI_eI (by omega)] at c2
        have : m = 0 := by omega
        subst this
        have dz : calm = false := by cases calm with | false => rfl | true => exact absurd (hc.symm.trans c3) (by decide)
        subst dz
        obtain ⟨A1, A2, A3, A4⟩ := E_X12_catches C e4
        obtain ⟨P2, hP2⟩ : ∃ p, p = itW ct1 0 (cN W) W 0 := ⟨_, rfl⟩
        rw [← hP2] at A1 A2
        obtain ⟨B1, B2, B3, B4⟩ := E_X12_falls A1 e5
        obtain ⟨P3, hP3⟩ : ∃ p, p = itW fl1 0 (cN P2.1) P2.1 0 := ⟨_, rfl⟩
        rw [← hP3] at B1 B2
        obtain ⟨T1, T2, T3, T4⟩ := E_X12_oneHour_61 B1 hf
        have hh : tlH false (itW fd1 i 0 W 0).1 = (tuW P3.1, P2.2 + P3.2) := by show tlH false W = _; rw [tl_f, ← hP2, ← hP3]
        rw [hh]
        exact ⟨T1, by rw [T2, A2, B2], frM_tr (frM_tr A3 B3) T3, T4.trans (B4.trans A4)⟩
      · skip
        -- leaf 01: F_X12_oneHour_61 n a0 (0 : Int32) h
        rw [hx, nI_eI (by omega)] at c2
        have : m = 0 := by omega
        subst this
        have dz : calm = true := by cases calm with | true => rfl | false => exact absurd hc c3
        subst dz
        obtain ⟨T1, T2, T3, T4⟩ := E_X12_oneHour_61 C hf
        have hh : tlH true (itW fd1 i 0 W 0).1 = (tuW W, 0) := tl_t
        rw [hh]
        exact ⟨T1, T2, T3, T4⟩
    · skip
      replace hf := jbind hf
      obtain ⟨p11, e6, hf⟩ := hf
      have r6 := oc_gR e6
      rw [s1] at r6
      cases r6
      clear e6
      replace hf := jbind hf
      obtain ⟨v16, e7, hf⟩ := hf
      replace hf := jbind hf
      obtain ⟨v24, e8, hf⟩ := hf
      replace e8 := (jcv_o e8).2
      replace hf := jbind hf
      obtain ⟨q30, e9, hf⟩ := hf
      replace e9 := (jcv_o e9).2
      replace hf := jbind hf
      obtain ⟨h37, e10, hf⟩ := hf
      obtain ⟨o10, z10, y10⟩ := oc_as e10
      rw [jnar0] at o10
      clear e10
      -- leaf 1: rc2 a0 x1 (x2 + (1 : Int32)) h37
      have hi : (i : Int) < (W 0).toInt := by rw [hx, nI_eI (by omega)] at c2; omega
      obtain ⟨m, rfl⟩ : ∃ p, m = p + 1 := ⟨m - 1, by omega⟩
      have r7 := E_X12_at (i := i) (j := 4) (t := 15 + 8 * i) hx rfl (by omega) e7
      have r8 := E_X12_of M (j := 4) (t := 15 + 8 * i) hx rfl (by omega) (by omega) e8
      rw [hW] at r8
      obtain ⟨b1, b2, b3⟩ := E_X12_byLaw M hW K hi LK hx e9
      have C2 := rk_8 C b2
      rw [r7, nI_cl (by omega), r8, b1] at o10
      obtain ⟨g1, g2⟩ := wOK_fd K LK LB hi
      have f3 : frM a0 [1] [] (oc q30.2) (oc h37) := by rw [o10]; exact frM_c (by decide)
      have w3 : wl (oc h37) a0 = (fd1 W i).1 := by rw [o10, wl_w, C2.2.1]; rfl
      have C3 := rk_w C2 (f1 f3) w3 g1 (fun k hk => g2 k (by omega))
      obtain ⟨d1, d2, d3, d4⟩ := E_X12_oneHour_2 k (fd1 W i).1 (i + 1) m C3 hc (by rw [hx, nI_1]) (by rw [g2 0 (by omega)]; omega) hf
      have e : (itW fd1 i (m + 1) W 0).1 = (itW fd1 (i + 1) m (fd1 W i).1 0).1 := rfl
      rw [e]
      exact ⟨d1, d2, frM_tr (frM_tr (f8 b2) (f1 f3)) d3, d4.trans (z10.trans b3)⟩
theorem E_X12_oneHour {calm : Bool} {W : jWd} {n : Nat} {a0 : Nat} {x1 : Int32} {h : jH} {q : Int32 × jH} (C : rkE (oc h) a0 W) (hc : x1 = dI calm) (hf : F_X12_oneHour n a0 x1 h = some q) : rkE (oc q.2) a0 (hrW calm W).1 ∧ q.1 = (hrW calm W).2 ∧ frM a0 [1, 8] [] (oc h) (oc q.2) ∧ q.2.1 = h.1 := by
  unfold F_X12_oneHour at hf
  -- leaf : F_X12_oneHour_2 n n a0 x1 (0 : Int32) h
  rw [hr_tl]
  exact E_X12_oneHour_2 n W 0 (cN W) C hc rfl (cN_m C.2.2.1) hf
theorem E_X12_goesOn_5 {n : Nat} {calm : Bool} : ∀ (k : Nat) {a0 : Nat} {x1 : Int32} {x2 : Int32} {x3 : Int32} {x4 : Int32} {h : jH} {q : Int32 × jH} (W : jWd) (t : Nat) (m : Nat) (C : rkE (oc h) a0 W) (hc : x2 = dI calm) (hn : t + m < 1000) (h1 : x1 = nI (t + m)) (h4 : x4 = nI t), F_X12_goesOn_5 n k a0 x1 x2 x3 x4 h = some q → rkE (oc q.2) a0 (hrs calm m W x3).1 ∧ q.1 = (hrs calm m W x3).2 ∧ frM a0 [1, 8] [] (oc h) (oc q.2) ∧ q.2.1 = h.1
  | 0, a0, x1, x2, x3, x4, h, q, W, t, m, C, hc, hn, h1, h4, hf => by cases hf
  | k + 1, a0, x1, x2, x3, x4, h, q, W, t, m, C, hc, hn, h1, h4, hf => by
    replace hf : F_X12_goesOn_5_b n (F_X12_goesOn_5 n k) a0 x1 x2 x3 x4 h = some q := hf
    unfold F_X12_goesOn_5_b at hf
    replace hf := jite hf
    rcases hf with ⟨c1, hf⟩ | ⟨c1, hf⟩
    · skip
      cases hf
      -- leaf 0: (x3, h)
      rw [h1, h4, Int32.le_iff_toInt_le, nI_toInt (by omega), nI_toInt (by omega)] at c1
      have : m = 0 := by omega
      subst this
      exact ⟨C, rfl, frM_rfl, rfl⟩
    · skip
      replace hf := jbind hf
      obtain ⟨q14, e2, hf⟩ := hf
      replace e2 := (jcv_o e2).2
      obtain ⟨A1, A2, A3, A4⟩ := E_X12_oneHour C hc e2
      -- leaf 1: rc5 a0 x1 x2 (x3 + q14.1) (x4 + (1 : Int32)) q14.2
      rw [h1, h4, Int32.le_iff_toInt_le, nI_toInt (by omega), nI_toInt (by omega)] at c1
      obtain ⟨m, rfl⟩ : ∃ p, m = p + 1 := ⟨m - 1, by omega⟩
      obtain ⟨g1, g2, g3, g4⟩ := E_X12_goesOn_5 k (hrW calm W).1 (t + 1) m A1 hc (by omega) (by rw [h1]; congr 1; omega) (by rw [h4, nI_1]) hf
      rw [A2] at g1 g2
      exact ⟨g1, g2, frM_tr A3 g3, g4.trans A4⟩
theorem E_X12_goesOn {calm : Bool} {W : jWd} {m : Nat} {n : Nat} {a0 : Nat} {x1 : Int32} {x2 : Int32} {h : jH} {q : Int32 × jH} (C : rkE (oc h) a0 W) (hc : x2 = dI calm) (hn : m < 1000) (h1 : x1 = nI m) (hf : F_X12_goesOn n a0 x1 x2 h = some q) : rkE (oc q.2) a0 (hrs calm m W 0).1 ∧ q.1 = (hrs calm m W 0).2 ∧ frM a0 [1, 8] [] (oc h) (oc q.2) ∧ q.2.1 = h.1 := by
  unfold F_X12_goesOn at hf
  -- leaf : F_X12_goesOn_5 n n a0 x1 x2 (0 : Int32) (0 : Int32) h
  exact E_X12_goesOn_5 n W 0 m C hc (by omega) (by rw [h1]; congr 1; omega) rfl hf
end
section
/-! copies of laws -/
theorem lawE_mv {O O2 : jO} {r d : Nat} {W : jWd} (L : lawE O r W) (S : lawS O2 d) (h7 : oi O2 d 7 = oi O r 7) (h8 : oi O2 d 8 = oi O r 8) (h1 : ∀ k, k < 12 → oi O2 (d + 1) k = oi O (r + 1) k ∧ oi O2 (d + 2) k = oi O (r + 2) k ∧ oi O2 (d + 3) k = oi O (r + 3) k) (h4 : ∀ k, k < 400 → oi O2 (d + 4) k = oi O (r + 4) k) : lawE O2 d W := by
  obtain ⟨-, a, b, c⟩ := L
  refine ⟨S, h7.trans a, b, fun z => ?_⟩
  obtain ⟨c1, c2, c3⟩ := c z
  refine ⟨h8.trans c1, c2, fun i hi => ?_⟩
  obtain ⟨a1, a2, a3, a4, a5, a6, a7, a8, a9, a10, a11⟩ := c3 i hi
  obtain ⟨b1, b2, b3⟩ := h1 i (by omega)
  exact ⟨b1.trans a1, b2.trans a2, b3.trans a3, a4, a5, a6, a7, a8, a9, fun j u w => by rw [h4 j (by omega)]; exact a10 j u w, a11⟩
/-- all but the six cells of the law at d is left alone -/
def frW (d : Nat) (O O2 : jO) : Prop := ∀ b k, (b < d ∨ d + 5 < b) → O2 b k = O b k
theorem E_X2_copyFrom {d : Nat} {r : Nat} {W : jWd} {n : Nat} {a0 : Nat} {a1 : Nat} {h : jH} {q : jH} (h0 : d = a0) (h1 : r = a1) (hd : d + 5 < r ∨ r + 5 < d) (sd : lawS (oc h) d) (R : lawE (oc h) r W) (hf : F_X2_copyFrom n a0 a1 h = some q) : lawE (oc q) d W ∧ frW d (oc h) (oc q) ∧ q.1 = h.1 := by
  unfold F_X2_copyFrom at hf
  subst h0 h1
  have sr := R.1
  obtain ⟨sd0, sd1, sd2, sd3, sd4⟩ := id sd
  obtain ⟨sr0, sr1, sr2, sr3, sr4⟩ := id sr
  replace hf := jbind hf
  obtain ⟨p1, e1, hf⟩ := hf
  have r1 := oc_gR e1
  rw [sr0] at r1
  cases r1
  clear e1
  replace hf := jbind hf
  obtain ⟨p6, e2, hf⟩ := hf
  have r2 := oc_gR e2
  rw [sd0] at r2
  cases r2
  clear e2
  replace hf := jbind hf
  obtain ⟨h12, e3, hf⟩ := hf
  obtain ⟨o3, z3⟩ := oc_cp e3
  clear e3
  rw [show (0 : Int32).toNatClampNeg = 0 from rfl, show (12 : Int32).toNatClampNeg = 12 from rfl] at o3
  replace hf := jbind hf
  obtain ⟨p16, e4, hf⟩ := hf
  have r4 := oc_gR e4
  rw [o3] at r4
  rw [ucp_ne (by omega)] at r4
  rw [sr1] at r4
  cases r4
  clear e4
  replace hf := jbind hf
  obtain ⟨p21, e5, hf⟩ := hf
  have r5 := oc_gR e5
  rw [o3] at r5
  rw [ucp_ne (by omega)] at r5
  rw [sd1] at r5
  cases r5
  clear e5
  replace hf := jbind hf
  obtain ⟨h27, e6, hf⟩ := hf
  obtain ⟨o6, z6⟩ := oc_cp e6
  clear e6
  rw [show (0 : Int32).toNatClampNeg = 0 from rfl, show (12 : Int32).toNatClampNeg = 12 from rfl] at o6
  replace hf := jbind hf
  obtain ⟨p31, e7, hf⟩ := hf
  have r7 := oc_gR e7
  rw [o6] at r7
  rw [ucp_ne (by omega)] at r7
  rw [o3] at r7
  rw [ucp_ne (by omega)] at r7
  rw [sr2] at r7
  cases r7
  clear e7
  replace hf := jbind hf
  obtain ⟨p36, e8, hf⟩ := hf
  have r8 := oc_gR e8
  rw [o6] at r8
  rw [ucp_ne (by omega)] at r8
  rw [o3] at r8
  rw [ucp_ne (by omega)] at r8
  rw [sd2] at r8
  cases r8
  clear e8
  replace hf := jbind hf
  obtain ⟨h42, e9, hf⟩ := hf
  obtain ⟨o9, z9⟩ := oc_cp e9
  clear e9
  rw [show (0 : Int32).toNatClampNeg = 0 from rfl, show (12 : Int32).toNatClampNeg = 12 from rfl] at o9
  replace hf := jbind hf
  obtain ⟨p46, e10, hf⟩ := hf
  have r10 := oc_gR e10
  rw [o9] at r10
  rw [ucp_ne (by omega)] at r10
  rw [o6] at r10
  rw [ucp_ne (by omega)] at r10
  rw [o3] at r10
  rw [ucp_ne (by omega)] at r10
  rw [sr3] at r10
  cases r10
  clear e10
  replace hf := jbind hf
  obtain ⟨p51, e11, hf⟩ := hf
  have r11 := oc_gR e11
  rw [o9] at r11
  rw [ucp_ne (by omega)] at r11
  rw [o6] at r11
  rw [ucp_ne (by omega)] at r11
  rw [o3] at r11
  rw [ucp_ne (by omega)] at r11
  rw [sd3] at r11
  cases r11
  clear e11
  replace hf := jbind hf
  obtain ⟨h58, e12, hf⟩ := hf
  obtain ⟨o12, z12⟩ := oc_cp e12
  clear e12
  rw [show (0 : Int32).toNatClampNeg = 0 from rfl, show (400 : Int32).toNatClampNeg = 400 from rfl] at o12
  replace hf := jbind hf
  obtain ⟨v63, e13, hf⟩ := hf
  have r13 := oc_gI e13
  rw [o12] at r13
  rw [ucp_oi (by omega)] at r13
  rw [o9] at r13
  rw [ucp_oi (by omega)] at r13
  rw [o6] at r13
  rw [ucp_oi (by omega)] at r13
  rw [o3] at r13
  rw [ucp_oi (by omega)] at r13
  subst r13
  clear e13
  replace hf := jbind hf
  obtain ⟨h66, e14, hf⟩ := hf
  obtain ⟨o14, z14⟩ := oc_pf e14
  clear e14
  replace hf := jbind hf
  obtain ⟨v71, e15, hf⟩ := hf
  have r15 := oc_gI e15
  rw [o14] at r15
  rw [oi_ne (Or.inl (by omega))] at r15
  rw [o12] at r15
  rw [ucp_oi (by omega)] at r15
  rw [o9] at r15
  rw [ucp_oi (by omega)] at r15
  rw [o6] at r15
  rw [ucp_oi (by omega)] at r15
  rw [o3] at r15
  rw [ucp_oi (by omega)] at r15
  subst r15
  clear e15
  replace hf := jite hf
  rcases hf with ⟨c16, hf⟩ | ⟨c16, hf⟩
  · skip
    replace hf := jbind hf
    obtain ⟨h74, e17, hf⟩ := hf
    obtain ⟨o17, z17⟩ := oc_pf e17
    clear e17
    replace hf := jbind hf
    obtain ⟨v79, e18, hf⟩ := hf
    have r18 := oc_gI e18
    rw [o17] at r18
    rw [oi_ne (Or.inl (by omega))] at r18
    rw [o14] at r18
    rw [oi_ne (Or.inl (by omega))] at r18
    rw [o12] at r18
    rw [ucp_oi (by omega)] at r18
    rw [o9] at r18
    rw [ucp_oi (by omega)] at r18
    rw [o6] at r18
    rw [ucp_oi (by omega)] at r18
    rw [o3] at r18
    rw [ucp_oi (by omega)] at r18
    subst r18
    clear e18
    replace hf := jbind hf
    obtain ⟨h82, e19, hf⟩ := hf
    obtain ⟨o19, z19⟩ := oc_pf e19
    clear e19
    cases hf
    -- leaf 0: h82
    refine ⟨lawE_mv R ⟨?_, ?_, ?_, ?_, ?_⟩ ?_ ?_ (fun k hk => ⟨?_, ?_, ?_⟩) (fun k hk => ?_), fun b k hb => ?_, z19.trans (z17.trans (z14.trans (z12.trans (z9.trans (z6.trans z3)))))⟩
    · simp (disch := omega) only [o19, o17, o14, o12, o9, o6, o3, u2_ne, ucp_ne, oi_ne, oi_eq, ucp_oi, ucp_in]; exact sd0
    · simp (disch := omega) only [o19, o17, o14, o12, o9, o6, o3, u2_ne, ucp_ne, oi_ne, oi_eq, ucp_oi, ucp_in]; exact sd1
    · simp (disch := omega) only [o19, o17, o14, o12, o9, o6, o3, u2_ne, ucp_ne, oi_ne, oi_eq, ucp_oi, ucp_in]; exact sd2
    · simp (disch := omega) only [o19, o17, o14, o12, o9, o6, o3, u2_ne, ucp_ne, oi_ne, oi_eq, ucp_oi, ucp_in]; exact sd3
    · simp (disch := omega) only [o19, o17, o14, o12, o9, o6, o3, u2_ne, ucp_ne, oi_ne, oi_eq, ucp_oi, ucp_in]; exact sd4
    · simp (disch := omega) only [o19, o17, o14, o12, o9, o6, o3, u2_ne, ucp_ne, oi_ne, oi_eq, ucp_oi, ucp_in]
    · simp (disch := omega) only [o19, o17, o14, o12, o9, o6, o3, u2_ne, ucp_ne, oi_ne, oi_eq, ucp_oi, ucp_in]
    · simp (disch := omega) only [o19, o17, o14, o12, o9, o6, o3, u2_ne, ucp_ne, oi_ne, oi_eq, ucp_oi, ucp_in]
    · simp (disch := omega) only [o19, o17, o14, o12, o9, o6, o3, u2_ne, ucp_ne, oi_ne, oi_eq, ucp_oi, ucp_in]
    · simp (disch := omega) only [o19, o17, o14, o12, o9, o6, o3, u2_ne, ucp_ne, oi_ne, oi_eq, ucp_oi, ucp_in]
    · simp (disch := omega) only [o19, o17, o14, o12, o9, o6, o3, u2_ne, ucp_ne, oi_ne, oi_eq, ucp_oi, ucp_in]
    · simp (disch := omega) only [o19, o17, o14, o12, o9, o6, o3, u2_ne, ucp_ne, oi_ne, oi_eq, ucp_oi, ucp_in]
  · skip
    cases hf
theorem E_X12_image_7 {n : Nat} : ∀ (k : Nat) {a0 : Nat} {x1 : Int32} {h : jH} {q : jH} (t : Nat) (M : mS (oc h) a0) (hx : x1 = nI t) (ht : t ≤ 1284), F_X12_image_7 n k a0 x1 h = some q → (∀ j, oi (oc q) (a0 + 2) j = if t ≤ j ∧ j < 1284 then oi (oc h) (a0 + 1) j else oi (oc h) (a0 + 2) j) ∧ frM a0 [2] [6] (oc h) (oc q) ∧ q.1 = h.1 ∧ oi (oc q) a0 6 = 1
  | 0, a0, x1, h, q, t, M, hx, ht, hf => by cases hf
  | k + 1, a0, x1, h, q, t, M, hx, ht, hf => by
    replace hf : F_X12_image_7_b n (F_X12_image_7 n k) a0 x1 h = some q := hf
    unfold F_X12_image_7_b at hf
    obtain ⟨s1, s2, s3, s4, s5, s8, s15, s17, s19, s20, s21⟩ := id M
    subst hx
    have lN : (1284 : Int32).toInt = 1284 := rfl
    replace hf := jite hf
    rcases hf with ⟨c1, hf⟩ | ⟨c1, hf⟩
    · skip
      replace hf := jbind hf
      obtain ⟨h34, e2, hf⟩ := hf
      obtain ⟨o2, z2⟩ := oc_pf e2
      clear e2
      cases hf
      -- leaf 0: h34
      rw [Int32.le_iff_toInt_le, nI_toInt (by omega)] at c1
      refine ⟨fun j => ?_, ?_, z2, ?_⟩
      · rw [if_neg (by omega), o2, oi_ne (Or.inl (by omega))]
      · rw [o2]; exact frM_f (by decide)
      · rw [o2, oi_eq]
    · skip
      replace hf := jbind hf
      obtain ⟨p15, e3, hf⟩ := hf
      have r3 := oc_gR e3
      rw [s2] at r3
      cases r3
      clear e3
      replace hf := jbind hf
      obtain ⟨p20, e4, hf⟩ := hf
      have r4 := oc_gR e4
      rw [s1] at r4
      cases r4
      clear e4
      replace hf := jbind hf
      obtain ⟨v24, e5, hf⟩ := hf
      obtain ⟨r5, y5⟩ := oc_al e5
      subst r5
      clear e5
      replace hf := jbind hf
      obtain ⟨h25, e6, hf⟩ := hf
      obtain ⟨o6, z6, y6⟩ := oc_as e6
      rw [jnar0] at o6
      clear e6
      -- leaf 1: rc7 a0 (x1 + (1 : Int32)) h25
      rw [Int32.le_iff_toInt_le, nI_toInt (by omega)] at c1
      rw [nI_cl (by omega)] at o6
      have f9 : frM a0 [2] [6] (oc h) (oc h25) := by rw [o6]; exact frM_c (by decide)
      obtain ⟨a1, a2, a3, a4⟩ := E_X12_image_7 k (t + 1) (mS_fr M f9 (by decide) (by decide)) (nI_1 t) (by omega) hf
      refine ⟨?_, frM_tr f9 a2, a3.trans z6, a4⟩
      intro j
      rw [a1 j]
      by_cases q1 : j = t
      · subst q1
        rw [if_neg (by omega), if_pos (by omega), o6, oi_eq]
      · by_cases q2 : t ≤ j ∧ j < 1284
        · rw [if_pos (by omega), if_pos q2, o6, oi_ne (Or.inl (by omega))]
        · rw [if_neg (by omega), if_neg q2, o6, oi_ne (Or.inr (by omega))]
theorem E_X12_back_16 {n : Nat} : ∀ (k : Nat) {a0 : Nat} {x1 : Int32} {h : jH} {q : Int32 × jH} (t : Nat) (M : mS (oc h) a0) (hx : x1 = nI t) (ht : t ≤ 1284), F_X12_back_16 n k a0 x1 h = some q → (∀ j, oi (oc q.2) (a0 + 1) j = if t ≤ j ∧ j < 1284 then oi (oc h) (a0 + 2) j else oi (oc h) (a0 + 1) j) ∧ frM a0 [1] [7] (oc h) (oc q.2) ∧ q.2.1 = h.1 ∧ oi (oc q.2) a0 7 = 0 ∧ q.1 = 1
  | 0, a0, x1, h, q, t, M, hx, ht, hf => by cases hf
  | k + 1, a0, x1, h, q, t, M, hx, ht, hf => by
    replace hf : F_X12_back_16_b n (F_X12_back_16 n k) a0 x1 h = some q := hf
    unfold F_X12_back_16_b at hf
    obtain ⟨s1, s2, s3, s4, s5, s8, s15, s17, s19, s20, s21⟩ := id M
    subst hx
    have lN : (1284 : Int32).toInt = 1284 := rfl
    replace hf := jite hf
    rcases hf with ⟨c1, hf⟩ | ⟨c1, hf⟩
    · skip
      replace hf := jbind hf
      obtain ⟨h43, e2, hf⟩ := hf
      obtain ⟨o2, z2⟩ := oc_pf e2
      clear e2
      cases hf
      -- leaf 0: ((1 : Int32), h43)
      rw [Int32.le_iff_toInt_le, nI_toInt (by omega)] at c1
      refine ⟨fun j => ?_, ?_, z2, ?_, rfl⟩
      · rw [if_neg (by omega), o2, oi_ne (Or.inl (by omega))]
      · rw [o2]; exact frM_f (by decide)
      · rw [o2, oi_eq]
    · skip
      replace hf := jbind hf
      obtain ⟨p24, e3, hf⟩ := hf
      have r3 := oc_gR e3
      rw [s1] at r3
      cases r3
      clear e3
      replace hf := jbind hf
      obtain ⟨p29, e4, hf⟩ := hf
      have r4 := oc_gR e4
      rw [s2] at r4
      cases r4
      clear e4
      replace hf := jbind hf
      obtain ⟨v33, e5, hf⟩ := hf
      obtain ⟨r5, y5⟩ := oc_al e5
      subst r5
      clear e5
      replace hf := jbind hf
      obtain ⟨h34, e6, hf⟩ := hf
      obtain ⟨o6, z6, y6⟩ := oc_as e6
      rw [jnar0] at o6
      clear e6
      -- leaf 1: rc16 a0 (x1 + (1 : Int32)) h34
      rw [Int32.le_iff_toInt_le, nI_toInt (by omega)] at c1
      rw [nI_cl (by omega)] at o6
      have f9 : frM a0 [1] [7] (oc h) (oc h34) := by rw [o6]; exact frM_c (by decide)
      obtain ⟨a1, a2, a3, a4, a5⟩ := E_X12_back_16 k (t + 1) (mS_fr M f9 (by decide) (by decide)) (nI_1 t) (by omega) hf
      refine ⟨?_, frM_tr f9 a2, a3.trans z6, a4, a5⟩
      intro j
      rw [a1 j]
      by_cases q1 : j = t
      · subst q1
        rw [if_neg (by omega), if_pos (by omega), o6, oi_eq]
      · by_cases q2 : t ≤ j ∧ j < 1284
        · rw [if_pos (by omega), if_pos q2, o6, oi_ne (Or.inl (by omega))]
        · rw [if_neg (by omega), if_neg q2, o6, oi_ne (Or.inr (by omega))]
theorem E_X12_pole_92 {n : Nat} : ∀ (k : Nat) {a0 : Nat} {x2 : Int32} {h : jH} {q : Int32 × jH} (t : Nat) (M : mS (oc h) a0) (hx : x2 = nI t) (ht : t ≤ 1284), F_X12_pole_92 n k a0 x2 h = some q → (∀ j, oi (oc q.2) (a0 + 1) j = if t ≤ j ∧ j < 1284 then oi (oc h) (a0 + 3) (j) else oi (oc h) (a0 + 1) j) ∧ frM a0 [1] [] (oc h) (oc q.2) ∧ q.2.1 = h.1 ∧ q.1 = 0
  | 0, a0, x2, h, q, t, M, hx, ht, hf => by cases hf
  | k + 1, a0, x2, h, q, t, M, hx, ht, hf => by
    replace hf : F_X12_pole_92_b n (F_X12_pole_92 n k) a0 x2 h = some q := hf
    unfold F_X12_pole_92_b at hf
    obtain ⟨s1, s2, s3, s4, s5, s8, s15, s17, s19, s20, s21⟩ := id M
    subst hx
    have lN : (1284 : Int32).toInt = 1284 := rfl
    replace hf := jite hf
    rcases hf with ⟨c1, hf⟩ | ⟨c1, hf⟩
    · skip
      cases hf
      -- leaf 0: ((0 : Int32), h)
      rw [Int32.le_iff_toInt_le, nI_toInt (by omega)] at c1
      exact ⟨fun j => by rw [if_neg (by omega)], frM_rfl, rfl, rfl⟩
    · skip
      replace hf := jbind hf
      obtain ⟨p100, e2, hf⟩ := hf
      have r2 := oc_gR e2
      rw [s1] at r2
      cases r2
      clear e2
      replace hf := jbind hf
      obtain ⟨p105, e3, hf⟩ := hf
      have r3 := oc_gR e3
      rw [s3] at r3
      cases r3
      clear e3
      replace hf := jbind hf
      obtain ⟨v109, e4, hf⟩ := hf
      obtain ⟨r4, y4⟩ := oc_al e4
      subst r4
      clear e4
      replace hf := jbind hf
      obtain ⟨h110, e5, hf⟩ := hf
      obtain ⟨o5, z5, y5⟩ := oc_as e5
      rw [jnar0] at o5
      clear e5
      -- leaf 1: rc92 a0 (x2 + (1 : Int32)) h110
      rw [Int32.le_iff_toInt_le, nI_toInt (by omega)] at c1
      rw [nI_cl (by omega)] at o5
      have f9 : frM a0 [1] [] (oc h) (oc h110) := by rw [o5]; exact frM_c (by decide)
      obtain ⟨a1, a2, a3, a4⟩ := E_X12_pole_92 k (t + 1) (mS_fr M f9 (by decide) (by decide)) (nI_1 t) (by omega)  hf
      refine ⟨?_, frM_tr f9 a2, a3.trans z5, a4⟩
      intro j
      rw [a1 j]
      by_cases q1 : j = t
      · subst q1
        rw [if_neg (by omega), if_pos (by omega), o5, oi_eq]
      · by_cases q2 : t ≤ j ∧ j < 1284
        · rw [if_pos (by omega), if_pos q2, o5, oi_ne (Or.inl (by omega))]
        · rw [if_neg (by omega), if_neg q2, o5, oi_ne (Or.inr (by omega))]
end
section
/-! the tape's bytes -/
def byt (v : Int32) (k : Nat) : Int32 := jnar 1 ((jushr v (nI (24 - 8 * k))).toInt8.toInt32)
theorem by8 {v : Int32} {s : Nat} (hs : s ≤ 24) : (v >>> (nI s &&& 31)).toInt8 = (jushr v (nI s)).toInt8 := by
  apply Int8.toBitVec_inj.mp
  show (v >>> (nI s &&& 31)).toBitVec.signExtend 8 = (jushr v (nI s)).toBitVec.signExtend 8
  refine BitVec.eq_of_getLsbD_eq fun i hi => ?_
  rw [BitVec.getLsbD_signExtend, BitVec.getLsbD_signExtend]
  have a : bt (v >>> (nI s &&& 31)) i = if s + i < 32 then bt v (s + i) else bt v 31 := b_sshr s (by omega) v (by omega)
  have b : bt (jushr v (nI s)) i = bt v (s + i) := b_ushr s (by omega) v i
  rw [if_pos (by omega)] at a
  have c : (v >>> (nI s &&& 31)).toBitVec.getLsbD i = (jushr v (nI s)).toBitVec.getLsbD i := a.trans b.symm
  rw [c]
  simp [show i < 32 by omega]
/-- 24, 16, 8, 0 -/
theorem sh_n {x : Int32} {j : Nat} (h : x.toInt = 24 - 8 * (j : Int)) (hj : j < 4) : x = nI (24 - 8 * j) := nI_k (by omega)
def tpS (O : jO) (T : Nat) : Prop := O T 0 = .ref (T + 1) ∧ O T 1 = .ref (T + 2) ∧ O T 2 = .ref (T + 3) ∧ O T 3 = .ref (T + 4)
def ar5 (a b c d e : Int32) (k : Nat) : Int32 := if k = 0 then a else if k = 1 then b else if k = 2 then c else if k = 3 then d else e
theorem div4 {t : Nat} (ht : t < 100) : nI t / (4 : Int32) = nI (t / 4) := by
  apply nI_k
  rw [jdivL (by rw [nI_toInt (by omega)]; omega) (show (4 : Int32).toInt = 4 from rfl) (by decide), nI_toInt (by omega)]
  omega
theorem sh24 {t : Nat} (ht : t < 100) : (24 : Int32) - ((8 : Int32) * (nI t - nI t / (4 : Int32) * (4 : Int32))) = nI (24 - 8 * (t % 4)) := by
  rw [div4 ht]
  have e1 : nI (t / 4) * (4 : Int32) = nI (t / 4 * 4) := nI_mul _ 4
  have e2 : nI t - nI (t / 4 * 4) = nI (t % 4) := nI_k (by rw [jsub (by rw [nI_toInt (by omega), nI_toInt (by omega)]; omega) (by rw [nI_toInt (by omega), nI_toInt (by omega)]; omega), nI_toInt (by omega), nI_toInt (by omega)]; omega)
  have e3 : (8 : Int32) * nI (t % 4) = nI (8 * (t % 4)) := nI_mul 8 _
  rw [e1, e2, e3]
  have l24 : (24 : Int32).toInt = 24 := rfl
  exact nI_k (by rw [jsub (by rw [nI_toInt (by omega)]; omega) (by rw [nI_toInt (by omega)]; omega), nI_toInt (by omega)]; omega)
theorem E_X10_put_3 {n : Nat} : ∀ (k : Nat) {a0 : Nat} {x1 : Int32} {x2 : Int32} {h : jH} {q : jH} (L : Nat) (j : Nat) (S : tpS (oc h) a0) (h6 : oi (oc h) a0 6 = nI L) (hj : j ≤ 4) (hL : L + (4 - j) ≤ 400) (hx : x2.toInt = 24 - 8 * (j : Int)), F_X10_put_3 n k a0 x1 x2 h = some q → oi (oc q) a0 6 = nI (L + (4 - j)) ∧ (∀ i, oi (oc q) (a0 + 1) i = if L ≤ i ∧ i < L + (4 - j) then byt x1 (j + (i - L)) else oi (oc h) (a0 + 1) i) ∧ (∀ a k, a ≠ a0 + 1 → ¬ (a = a0 ∧ k = 6) → oc q a k = oc h a k) ∧ q.1 = h.1
  | 0, a0, x1, x2, h, q, L, j, S, h6, hj, hL, hx, hf => by cases hf
  | k + 1, a0, x1, x2, h, q, L, j, S, h6, hj, hL, hx, hf => by
    replace hf : F_X10_put_3_b n (F_X10_put_3 n k) a0 x1 x2 h = some q := hf
    unfold F_X10_put_3_b at hf
    obtain ⟨p0, p1, p2, p3⟩ := id S
    have l0 : (0 : Int32).toInt = 0 := rfl
    have lm : (-8 : Int32).toInt = -8 := rfl
    replace hf := jite hf
    rcases hf with ⟨c1, hf⟩ | ⟨c1, hf⟩
    · skip
      cases hf
      -- leaf 0: h
      rw [Int32.lt_iff_toInt_lt] at c1
      have j4 : j = 4 := by omega
      subst j4
      exact ⟨h6, fun i => by rw [if_neg (by omega)], fun a k _ _ => rfl, rfl⟩
    · skip
      replace hf := jbind hf
      obtain ⟨v8, e2, hf⟩ := hf
      have r2 := oc_gI e2
      subst r2
      clear e2
      replace hf := jite hf
      rcases hf with ⟨c3, hf⟩ | ⟨c3, hf⟩
      · skip
        cases hf
        -- leaf 10: h
        rw [Int32.lt_iff_toInt_lt] at c1
        rw [h6, Int32.le_iff_toInt_le, nI_toInt (by omega), show (400 : Int32).toInt = 400 from rfl] at c3
        omega
      · skip
        replace hf := jbind hf
        obtain ⟨p18, e4, hf⟩ := hf
        have r4 := oc_gR e4
        rw [p0] at r4
        cases r4
        clear e4
        replace hf := jbind hf
        obtain ⟨v22, e5, hf⟩ := hf
        have r5 := oc_gI e5
        subst r5
        clear e5
        replace hf := jbind hf
        obtain ⟨h29, e6, hf⟩ := hf
        obtain ⟨o6, z6, y6⟩ := oc_as e6
        clear e6
        replace hf := jbind hf
        obtain ⟨v32, e7, hf⟩ := hf
        have r7 := oc_gI e7
        rw [o6] at r7
        rw [oi_ne (Or.inl (by omega))] at r7
        subst r7
        clear e7
        replace hf := jbind hf
        obtain ⟨h37, e8, hf⟩ := hf
        obtain ⟨o8, z8⟩ := oc_pf e8
        clear e8
        -- leaf 11: rc3 a0 x1 (x2 + (- 8 : Int32)) h37
        rw [Int32.lt_iff_toInt_lt] at c1
        have j4 : j < 4 := by omega
        rw [sh_n hx j4, h6, nI_cl (by omega)] at o6
        rw [h6, nI_1] at o8
        have fz : ∀ a k, a ≠ a0 + 1 → ¬ (a = a0 ∧ k = 6) → oc h37 a k = oc h a k := fun a k u w => by rw [o8, u2_ne (by omega), o6, u2_ne (by omega)]
        have S2 : tpS (oc h37) a0 := ⟨(fz _ _ (by omega) (by omega)).trans p0, (fz _ _ (by omega) (by omega)).trans p1, (fz _ _ (by omega) (by omega)).trans p2, (fz _ _ (by omega) (by omega)).trans p3⟩
        obtain ⟨b1, b2, b3, b4⟩ := E_X10_put_3 k (L + 1) (j + 1) S2 (by rw [o8, oi_eq]) (by omega) (by omega) (by rw [jadd (by omega) (by omega)]; omega) hf
        refine ⟨by rw [b1]; congr 1; omega, fun i => ?_, fun a k u w => (b3 a k u w).trans (fz a k u w), b4.trans (z8.trans z6)⟩
        rw [b2 i]
        by_cases y : i = L
        · subst y
          rw [if_neg (by omega), if_pos (by omega), o8, oi_ne (Or.inl (by omega)), o6, oi_eq, show j + (i - i) = j by omega]
          rfl
        · by_cases w : L ≤ i ∧ i < L + (4 - j)
          · rw [if_pos (by omega), if_pos w, show j + 1 + (i - (L + 1)) = j + (i - L) by omega]
          · rw [if_neg (by omega), if_neg w, o8, oi_ne (Or.inl (by omega)), o6, oi_ne (Or.inr y)]
theorem E_X10_put {L : Nat} {n : Nat} {a0 : Nat} {x1 : Int32} {h : jH} {q : jH} (S : tpS (oc h) a0) (h6 : oi (oc h) a0 6 = nI L) (hL : L + 4 ≤ 400) (hf : F_X10_put n a0 x1 h = some q) : oi (oc q) a0 6 = nI (L + 4) ∧ (∀ i, oi (oc q) (a0 + 1) i = if L ≤ i ∧ i < L + 4 then byt x1 (i - L) else oi (oc h) (a0 + 1) i) ∧ (∀ a k, a ≠ a0 + 1 → ¬ (a = a0 ∧ k = 6) → oc q a k = oc h a k) ∧ q.1 = h.1 := by
  unfold F_X10_put at hf
  -- leaf : F_X10_put_3 n n a0 x1 (24 : Int32) h
  obtain ⟨b1, b2, b3, b4⟩ := E_X10_put_3 n L 0 S h6 (by omega) (by omega) (by decide) hf
  refine ⟨b1, fun i => ?_, b3, b4⟩
  rw [b2 i]
  by_cases w : L ≤ i ∧ i < L + 4
  · rw [if_pos (by omega), if_pos w, show 0 + (i - L) = i - L by omega]
  · rw [if_neg (by omega), if_neg w]
theorem E_X10_hasRoom {L : Nat} {n : Nat} {a0 : Nat} {h : jH} {q : Int32} (h6 : oi (oc h) a0 6 = nI L) (hL : L ≤ 400) (hf : F_X10_hasRoom n a0 h = some q) : (q = 0 ∨ q = 1) ∧ (q = 1 ↔ L ≤ 380) := by
  unfold F_X10_hasRoom at hf
  replace hf := jbind hf
  obtain ⟨v1, e1, hf⟩ := hf
  have r1 := oc_gI e1
  subst r1
  clear e1
  replace hf := jite hf
  rcases hf with ⟨c2, hf⟩ | ⟨c2, hf⟩
  · skip
    cases hf
    -- leaf 0: (0 : Int32)
    have e : nI L + (20 : Int32) = nI (L + 20) := nI_add L 20
    rw [h6, e, Int32.lt_iff_toInt_lt, nI_toInt (by omega), show (400 : Int32).toInt = 400 from rfl] at c2
    exact ⟨Or.inl rfl, fun z => absurd z (by decide), fun z => by omega⟩
  · skip
    cases hf
    -- leaf 1: (1 : Int32)
    have e : nI L + (20 : Int32) = nI (L + 20) := nI_add L 20
    rw [h6, e, Int32.lt_iff_toInt_lt, nI_toInt (by omega), show (400 : Int32).toInt = 400 from rfl] at c2
    exact ⟨Or.inr rfl, fun _ => by omega, fun _ => rfl⟩
theorem E_X11_feed {L : Nat} {n : Nat} {a0 : Nat} {x1 : Int32} {x2 : Int32} {x3 : Int32} {x4 : Int32} {x5 : Int32} {h : jH} {q : Int32 × jH} (x0 : oc h a0 0 = .ref (a0 + 1)) (S : tpS (oc h) (a0 + 1)) (h6 : oi (oc h) (a0 + 1) 6 = nI L) (hL : L ≤ 400) (hf : F_X11_feed n a0 x1 x2 x3 x4 x5 h = some q) : (380 < L ∧ q = (-1, h)) ∨ (L ≤ 380 ∧ q.1 = nI (L + 20) ∧ oi (oc q.2) (a0 + 1) 6 = nI (L + 20) ∧ (∀ i, oi (oc q.2) (a0 + 1 + 1) i = if L ≤ i ∧ i < L + 20 then byt (ar5 x1 x2 x3 x4 x5 ((i - L) / 4)) ((i - L) % 4) else oi (oc h) (a0 + 1 + 1) i) ∧ (∀ a k, a ≠ a0 + 1 + 1 → ¬ (a = a0 + 1 ∧ k = 6) → oc q.2 a k = oc h a k) ∧ q.2.1 = h.1) := by
  unfold F_X11_feed at hf
  replace hf := jbind hf
  obtain ⟨p1, e1, hf⟩ := hf
  have r1 := oc_gR e1
  rw [x0] at r1
  cases r1
  clear e1
  replace hf := jbind hf
  obtain ⟨v4, e2, hf⟩ := hf
  replace e2 := (jcv_o e2).2
  have r2 := E_X10_hasRoom (L := L) h6 hL e2
  replace hf := jite hf
  rcases hf with ⟨c3, hf⟩ | ⟨c3, hf⟩
  · skip
    cases hf
    -- leaf 0: ((- 1 : Int32), h)
    exact Or.inl ⟨Classical.byContradiction fun z => absurd (c3.symm.trans (r2.2.mpr (by omega))) (by decide), rfl⟩
  · skip
    replace hf := jbind hf
    obtain ⟨p13, e4, hf⟩ := hf
    have r4 := oc_gR e4
    rw [x0] at r4
    cases r4
    clear e4
    replace hf := jbind hf
    obtain ⟨h17, e5, hf⟩ := hf
    replace e5 := (jcv_o e5).2
    have L8 : L ≤ 380 := r2.2.mp (r2.1.resolve_left c3)
    obtain ⟨b10, b20, b30, b40⟩ := E_X10_put (L := L + 0) S h6 (by omega) e5
    have S0 : tpS (oc h17) (a0 + 1) := ⟨(b30 _ _ (by omega) (by omega)).trans S.1, (b30 _ _ (by omega) (by omega)).trans S.2.1, (b30 _ _ (by omega) (by omega)).trans S.2.2.1, (b30 _ _ (by omega) (by omega)).trans S.2.2.2⟩
    have h60 : oi (oc h17) (a0 + 1) 6 = nI (L + 4) := b10
    have x0 : oc h17 a0 0 = .ref (a0 + 1) := (b30 _ _ (by omega) (by omega)).trans x0
    replace hf := jbind hf
    obtain ⟨p21, e6, hf⟩ := hf
    have r6 := oc_gR e6
    rw [x0] at r6
    cases r6
    clear e6
    replace hf := jbind hf
    obtain ⟨h25, e7, hf⟩ := hf
    replace e7 := (jcv_o e7).2
    obtain ⟨b11, b21, b31, b41⟩ := E_X10_put (L := L + 4) S0 h60 (by omega) e7
    have S1 : tpS (oc h25) (a0 + 1) := ⟨(b31 _ _ (by omega) (by omega)).trans S0.1, (b31 _ _ (by omega) (by omega)).trans S0.2.1, (b31 _ _ (by omega) (by omega)).trans S0.2.2.1, (b31 _ _ (by omega) (by omega)).trans S0.2.2.2⟩
    have h61 : oi (oc h25) (a0 + 1) 6 = nI (L + 8) := b11
    have x1 : oc h25 a0 0 = .ref (a0 + 1) := (b31 _ _ (by omega) (by omega)).trans x0
    replace hf := jbind hf
    obtain ⟨p29, e8, hf⟩ := hf
    have r8 := oc_gR e8
    rw [x1] at r8
    cases r8
    clear e8
    replace hf := jbind hf
    obtain ⟨h33, e9, hf⟩ := hf
    replace e9 := (jcv_o e9).2
    obtain ⟨b12, b22, b32, b42⟩ := E_X10_put (L := L + 8) S1 h61 (by omega) e9
    have S2 : tpS (oc h33) (a0 + 1) := ⟨(b32 _ _ (by omega) (by omega)).trans S1.1, (b32 _ _ (by omega) (by omega)).trans S1.2.1, (b32 _ _ (by omega) (by omega)).trans S1.2.2.1, (b32 _ _ (by omega) (by omega)).trans S1.2.2.2⟩
    have h62 : oi (oc h33) (a0 + 1) 6 = nI (L + 12) := b12
    have x2 : oc h33 a0 0 = .ref (a0 + 1) := (b32 _ _ (by omega) (by omega)).trans x1
    replace hf := jbind hf
    obtain ⟨p37, e10, hf⟩ := hf
    have r10 := oc_gR e10
    rw [x2] at r10
    cases r10
    clear e10
    replace hf := jbind hf
    obtain ⟨h42, e11, hf⟩ := hf
    replace e11 := (jcv_o e11).2
    obtain ⟨b13, b23, b33, b43⟩ := E_X10_put (L := L + 12) S2 h62 (by omega) e11
    have S3 : tpS (oc h42) (a0 + 1) := ⟨(b33 _ _ (by omega) (by omega)).trans S2.1, (b33 _ _ (by omega) (by omega)).trans S2.2.1, (b33 _ _ (by omega) (by omega)).trans S2.2.2.1, (b33 _ _ (by omega) (by omega)).trans S2.2.2.2⟩
    have h63 : oi (oc h42) (a0 + 1) 6 = nI (L + 16) := b13
    have x3 : oc h42 a0 0 = .ref (a0 + 1) := (b33 _ _ (by omega) (by omega)).trans x2
    replace hf := jbind hf
    obtain ⟨p46, e12, hf⟩ := hf
    have r12 := oc_gR e12
    rw [x3] at r12
    cases r12
    clear e12
    replace hf := jbind hf
    obtain ⟨h51, e13, hf⟩ := hf
    replace e13 := (jcv_o e13).2
    obtain ⟨b14, b24, b34, b44⟩ := E_X10_put (L := L + 16) S3 h63 (by omega) e13
    have S4 : tpS (oc h51) (a0 + 1) := ⟨(b34 _ _ (by omega) (by omega)).trans S3.1, (b34 _ _ (by omega) (by omega)).trans S3.2.1, (b34 _ _ (by omega) (by omega)).trans S3.2.2.1, (b34 _ _ (by omega) (by omega)).trans S3.2.2.2⟩
    have h64 : oi (oc h51) (a0 + 1) 6 = nI (L + 20) := b14
    have x4 : oc h51 a0 0 = .ref (a0 + 1) := (b34 _ _ (by omega) (by omega)).trans x3
    replace hf := jbind hf
    obtain ⟨p55, e14, hf⟩ := hf
    have r14 := oc_gR e14
    rw [x4] at r14
    cases r14
    clear e14
    replace hf := jbind hf
    obtain ⟨v58, e15, hf⟩ := hf
    have r15 := oc_gI e15
    subst r15
    clear e15
    cases hf
    -- leaf 1: (v58, h51)
    refine Or.inr ⟨L8, h64, h64, fun i => ?_, fun a k u w => ?_, b44.trans (b43.trans (b42.trans (b41.trans b40)))⟩
    · rw [b24 i]
      by_cases y4 : L + 16 ≤ i ∧ i < L + 16 + 4
      · rw [if_pos y4, if_pos (by omega)]; rw [show (i - L) / 4 = 4 by omega, show (i - L) % 4 = i - (L + 16) by omega]; rfl
      rw [if_neg y4, b23 i]
      by_cases y3 : L + 12 ≤ i ∧ i < L + 12 + 4
      · rw [if_pos y3, if_pos (by omega)]; rw [show (i - L) / 4 = 3 by omega, show (i - L) % 4 = i - (L + 12) by omega]; rfl
      rw [if_neg y3, b22 i]
      by_cases y2 : L + 8 ≤ i ∧ i < L + 8 + 4
      · rw [if_pos y2, if_pos (by omega)]; rw [show (i - L) / 4 = 2 by omega, show (i - L) % 4 = i - (L + 8) by omega]; rfl
      rw [if_neg y2, b21 i]
      by_cases y1 : L + 4 ≤ i ∧ i < L + 4 + 4
      · rw [if_pos y1, if_pos (by omega)]; rw [show (i - L) / 4 = 1 by omega, show (i - L) % 4 = i - (L + 4) by omega]; rfl
      rw [if_neg y1, b20 i]
      by_cases y0 : L + 0 ≤ i ∧ i < L + 0 + 4
      · rw [if_pos y0, if_pos (by omega)]; rw [show (i - L) / 4 = 0 by omega, show (i - L) % 4 = i - (L + 0) by omega]; rfl
      rw [if_neg y0, if_neg (by omega)]
    · rw [b34 a k u w, b33 a k u w, b32 a k u w, b31 a k u w, b30 a k u w]
theorem E_X12_feed_60 {n : Nat} {A : Nat → Int32} {L : Nat} : ∀ (k : Nat) {a0 : Nat} {x6 : Int32} {h : jH} {q : Int32 × jH} (j : Nat) (M : mS (oc h) a0) (F : ∀ t, t < 5 → oi (oc h) (a0 + 7) t = A t) (h9 : oi (oc h) a0 9 = nI L) (hj : j ≤ 20) (hL : L ≤ 380) (hx : x6 = nI j), F_X12_feed_60 n k a0 x6 h = some q → q.1 = nI (L + 20) ∧ oi (oc q.2) a0 9 = nI (L + 20) ∧ (∀ i, oi (oc q.2) (a0 + 6) i = if L + j ≤ i ∧ i < L + 20 then byt (A ((i - L) / 4)) ((i - L) % 4) else oi (oc h) (a0 + 6) i) ∧ frM a0 [6] [9] (oc h) (oc q.2) ∧ q.2.1 = h.1
  | 0, a0, x6, h, q, j, M, F, h9, hj, hL, hx, hf => by cases hf
  | k + 1, a0, x6, h, q, j, M, F, h9, hj, hL, hx, hf => by
    replace hf : F_X12_feed_60_b n (F_X12_feed_60 n k) a0 x6 h = some q := hf
    unfold F_X12_feed_60_b at hf
    obtain ⟨s1, s2, s3, s4, s5, s8, s15, s17, s19, s20, s21⟩ := id M
    replace hf := jite hf
    rcases hf with ⟨c1, hf⟩ | ⟨c1, hf⟩
    · skip
      replace hf := jbind hf
      obtain ⟨v108, e2, hf⟩ := hf
      have r2 := oc_gI e2
      subst r2
      clear e2
      replace hf := jbind hf
      obtain ⟨h114, e3, hf⟩ := hf
      obtain ⟨o3, z3⟩ := oc_pf e3
      clear e3
      replace hf := jbind hf
      obtain ⟨v118, e4, hf⟩ := hf
      have r4 := oc_gI e4
      rw [o3] at r4
      rw [oi_eq] at r4
      subst r4
      clear e4
      cases hf
      -- leaf 0: (v118, h114)
      rw [hx, Int32.le_iff_toInt_le, nI_toInt (by omega), show (20 : Int32).toInt = 20 from rfl] at c1
      have j20 : j = 20 := by omega
      subst j20
      have a1 : oi (oc h) a0 9 + 20 = nI (L + 20) := by rw [h9]; exact nI_add L 20
      have a2 : oi (oc h114) a0 9 = nI (L + 20) := by rw [o3, oi_eq, a1]
      have a3 : frM a0 [6] [9] (oc h) (oc h114) := by rw [o3]; exact frM_f (by decide)
      have a4 : ∀ i, oi (oc h114) (a0 + 6) i = oi (oc h) (a0 + 6) i := fun i => by rw [o3, oi_ne (Or.inl (by omega))]
      exact ⟨a1, a2, fun i => by rw [if_neg (by omega)]; exact a4 i, a3, z3⟩
    · skip
      replace hf := jbind hf
      obtain ⟨p68, e5, hf⟩ := hf
      have r5 := oc_gR e5
      rw [s8] at r5
      cases r5
      clear e5
      replace hf := jbind hf
      obtain ⟨v72, e6, hf⟩ := hf
      have r6 := oc_gI e6
      subst r6
      clear e6
      replace hf := jbind hf
      obtain ⟨p79, e7, hf⟩ := hf
      have r7 := oc_gR e7
      rw [s15] at r7
      cases r7
      clear e7
      replace hf := jbind hf
      obtain ⟨v86, e8, hf⟩ := hf
      obtain ⟨r8, y8⟩ := oc_al e8
      subst r8
      clear e8
      replace hf := jbind hf
      obtain ⟨h99, e9, hf⟩ := hf
      obtain ⟨o9, z9, y9⟩ := oc_as e9
      clear e9
      -- leaf 1: rc60 a0 (x6 + (1 : Int32)) h99
      rw [hx, Int32.le_iff_toInt_le, nI_toInt (by omega), show (20 : Int32).toInt = 20 from rfl] at c1
      have jl : j < 20 := by omega
      have e1 : nI L + nI j = nI (L + j) := nI_add L j
      rw [hx, h9, sh24 (by omega), div4 (by omega), e1, nI_cl (show L + j < 2147483648 by omega), nI_cl (show j / 4 < 2147483648 by omega), F (j / 4) (by omega), by8 (by omega)] at o9
      have f6 : frM a0 [6] [9] (oc h) (oc h99) := by rw [o9]; exact frM_c (by decide)
      have h92 : oi (oc h99) a0 9 = nI L := by rw [o9, oi_ne (Or.inl (by omega))]; exact h9
      obtain ⟨b1, b2, b3, b4, b5⟩ := E_X12_feed_60 (A := A) k (j + 1) (mS_fr M f6 (by decide) (by decide)) (fun t ht => by rw [o9, oi_ne (Or.inl (by omega))]; exact F t ht) h92 (by omega) hL (by rw [hx, nI_1]) hf
      refine ⟨b1, b2, fun i => ?_, frM_tr f6 b4, b5.trans z9⟩
      rw [b3 i]
      by_cases y : i = L + j
      · subst y
        rw [if_neg (by omega), if_pos (by omega), o9, oi_eq, show L + j - L = j by omega]
        rfl
      · by_cases w : L + j ≤ i ∧ i < L + 20
        · rw [if_pos (by omega), if_pos w]
        · rw [if_neg (by omega), if_neg w, o9, oi_ne (Or.inr y)]
theorem E_X12_feed {L : Nat} {n : Nat} {a0 : Nat} {x1 : Int32} {x2 : Int32} {x3 : Int32} {x4 : Int32} {x5 : Int32} {h : jH} {q : Int32 × jH} (M : mS (oc h) a0) (h9 : oi (oc h) a0 9 = nI L) (hL : L ≤ 400) (hf : F_X12_feed n a0 x1 x2 x3 x4 x5 h = some q) : (380 < L ∧ q.1 = -1 ∧ oi (oc q.2) a0 0 = 0 ∧ frM a0 [] [0] (oc h) (oc q.2) ∧ q.2.1 = h.1) ∨ (L ≤ 380 ∧ q.1 = nI (L + 20) ∧ oi (oc q.2) a0 0 = 0 ∧ oi (oc q.2) a0 9 = nI (L + 20) ∧ (∀ i, oi (oc q.2) (a0 + 6) i = if L ≤ i ∧ i < L + 20 then byt (ar5 x1 x2 x3 x4 x5 ((i - L) / 4)) ((i - L) % 4) else oi (oc h) (a0 + 6) i) ∧ frM a0 [6, 7] [0, 9] (oc h) (oc q.2) ∧ q.2.1 = h.1) := by
  unfold F_X12_feed at hf
  obtain ⟨s1, s2, s3, s4, s5, s8, s15, s17, s19, s20, s21⟩ := id M
  replace hf := jbind hf
  obtain ⟨h2, e1, hf⟩ := hf
  obtain ⟨o1, z1⟩ := oc_pf e1
  clear e1
  replace hf := jbind hf
  obtain ⟨v6, e2, hf⟩ := hf
  have r2 := oc_gI e2
  rw [o1] at r2
  rw [oi_ne (Or.inr (by decide))] at r2
  subst r2
  clear e2
  replace hf := jite hf
  rcases hf with ⟨c3, hf⟩ | ⟨c3, hf⟩
  · skip
    replace hf := jbind hf
    obtain ⟨p21, e4, hf⟩ := hf
    have r4 := oc_gR e4
    rw [o1] at r4
    rw [u2_ne (Or.inr (by decide))] at r4
    rw [s15] at r4
    cases r4
    clear e4
    replace hf := jbind hf
    obtain ⟨h26, e5, hf⟩ := hf
    obtain ⟨o5, z5, y5⟩ := oc_as e5
    rw [jnar0] at o5
    rw [show (0 : Int32).toNatClampNeg = 0 from rfl] at o5
    clear e5
    replace hf := jbind hf
    obtain ⟨p28, e6, hf⟩ := hf
    have r6 := oc_gR e6
    rw [o5] at r6
    rw [u2_ne (Or.inl (by omega))] at r6
    rw [o1] at r6
    rw [u2_ne (Or.inr (by decide))] at r6
    rw [s15] at r6
    cases r6
    clear e6
    replace hf := jbind hf
    obtain ⟨h33, e7, hf⟩ := hf
    obtain ⟨o7, z7, y7⟩ := oc_as e7
    rw [jnar0] at o7
    rw [show (1 : Int32).toNatClampNeg = 1 from rfl] at o7
    clear e7
    replace hf := jbind hf
    obtain ⟨p35, e8, hf⟩ := hf
    have r8 := oc_gR e8
    rw [o7] at r8
    rw [u2_ne (Or.inl (by omega))] at r8
    rw [o5] at r8
    rw [u2_ne (Or.inl (by omega))] at r8
    rw [o1] at r8
    rw [u2_ne (Or.inr (by decide))] at r8
    rw [s15] at r8
    cases r8
    clear e8
    replace hf := jbind hf
    obtain ⟨h40, e9, hf⟩ := hf
    obtain ⟨o9, z9, y9⟩ := oc_as e9
    rw [jnar0] at o9
    rw [show (2 : Int32).toNatClampNeg = 2 from rfl] at o9
    clear e9
    replace hf := jbind hf
    obtain ⟨p42, e10, hf⟩ := hf
    have r10 := oc_gR e10
    rw [o9] at r10
    rw [u2_ne (Or.inl (by omega))] at r10
    rw [o7] at r10
    rw [u2_ne (Or.inl (by omega))] at r10
    rw [o5] at r10
    rw [u2_ne (Or.inl (by omega))] at r10
    rw [o1] at r10
    rw [u2_ne (Or.inr (by decide))] at r10
    rw [s15] at r10
    cases r10
    clear e10
    replace hf := jbind hf
    obtain ⟨h48, e11, hf⟩ := hf
    obtain ⟨o11, z11, y11⟩ := oc_as e11
    rw [jnar0] at o11
    rw [show (3 : Int32).toNatClampNeg = 3 from rfl] at o11
    clear e11
    replace hf := jbind hf
    obtain ⟨p50, e12, hf⟩ := hf
    have r12 := oc_gR e12
    rw [o11] at r12
    rw [u2_ne (Or.inl (by omega))] at r12
    rw [o9] at r12
    rw [u2_ne (Or.inl (by omega))] at r12
    rw [o7] at r12
    rw [u2_ne (Or.inl (by omega))] at r12
    rw [o5] at r12
    rw [u2_ne (Or.inl (by omega))] at r12
    rw [o1] at r12
    rw [u2_ne (Or.inr (by decide))] at r12
    rw [s15] at r12
    cases r12
    clear e12
    replace hf := jbind hf
    obtain ⟨h56, e13, hf⟩ := hf
    obtain ⟨o13, z13, y13⟩ := oc_as e13
    rw [jnar0] at o13
    rw [show (4 : Int32).toNatClampNeg = 4 from rfl] at o13
    clear e13
    -- leaf 0: F_X12_feed_60 n n a0 (0 : Int32) h56
    have e1 : nI L + (20 : Int32) = nI (L + 20) := nI_add L 20
    rw [h9, e1, Int32.le_iff_toInt_le, nI_toInt (by omega), show (400 : Int32).toInt = 400 from rfl] at c3
    have f1 : frM a0 [6, 7] [0, 9] (oc h) (oc h2) := by rw [o1]; exact frM_f (by decide)
    have f2 : frM a0 [6, 7] [0, 9] (oc h2) (oc h26) := by rw [o5]; exact frM_c (by decide)
    have f3 : frM a0 [6, 7] [0, 9] (oc h26) (oc h33) := by rw [o7]; exact frM_c (by decide)
    have f4 : frM a0 [6, 7] [0, 9] (oc h33) (oc h40) := by rw [o9]; exact frM_c (by decide)
    have f5 : frM a0 [6, 7] [0, 9] (oc h40) (oc h48) := by rw [o11]; exact frM_c (by decide)
    have f6 : frM a0 [6, 7] [0, 9] (oc h48) (oc h56) := by rw [o13]; exact frM_c (by decide)
    have f7 := frM_tr (frM_tr (frM_tr (frM_tr (frM_tr f1 f2) f3) f4) f5) f6
    have g6 : ∀ i, oi (oc h56) (a0 + 6) i = oi (oc h) (a0 + 6) i := fun i => by rw [o13, oi_ne (Or.inl (by omega)), o11, oi_ne (Or.inl (by omega)), o9, oi_ne (Or.inl (by omega)), o7, oi_ne (Or.inl (by omega)), o5, oi_ne (Or.inl (by omega)), o1, oi_ne (Or.inl (by omega))]
    have g9 : oi (oc h56) a0 9 = nI L := by rw [o13, oi_ne (Or.inl (by omega)), o11, oi_ne (Or.inl (by omega)), o9, oi_ne (Or.inl (by omega)), o7, oi_ne (Or.inl (by omega)), o5, oi_ne (Or.inl (by omega)), o1, oi_ne (Or.inr (by decide))]; exact h9
    have g0 : oi (oc h56) a0 0 = 0 := by rw [o13, oi_ne (Or.inl (by omega)), o11, oi_ne (Or.inl (by omega)), o9, oi_ne (Or.inl (by omega)), o7, oi_ne (Or.inl (by omega)), o5, oi_ne (Or.inl (by omega)), o1, oi_eq]
    have F : ∀ t, t < 5 → oi (oc h56) (a0 + 7) t = ar5 x1 x2 x3 x4 x5 t := fun t ht => by
      rcases (by omega : t = 0 ∨ t = 1 ∨ t = 2 ∨ t = 3 ∨ t = 4) with y | y | y | y | y <;> subst y
      · rw [o13, oi_ne (Or.inr (by decide)), o11, oi_ne (Or.inr (by decide)), o9, oi_ne (Or.inr (by decide)), o7, oi_ne (Or.inr (by decide)), o5, oi_eq]; rfl
      · rw [o13, oi_ne (Or.inr (by decide)), o11, oi_ne (Or.inr (by decide)), o9, oi_ne (Or.inr (by decide)), o7, oi_eq]; rfl
      · rw [o13, oi_ne (Or.inr (by decide)), o11, oi_ne (Or.inr (by decide)), o9, oi_eq]; rfl
      · rw [o13, oi_ne (Or.inr (by decide)), o11, oi_eq]; rfl
      · rw [o13, oi_eq]; rfl
    obtain ⟨b1, b2, b3, b4, b5⟩ := E_X12_feed_60 (A := ar5 x1 x2 x3 x4 x5) n 0 (mS_fr M f7 (by decide) (by decide)) F g9 (by omega) (by omega) rfl hf
    refine Or.inr ⟨by omega, b1, (oi_M b4 (by simp) (by simp)).trans g0, b2, fun i => ?_, frM_tr f7 (frM_le b4 (by decide) (by decide)), b5.trans (z13.trans (z11.trans (z9.trans (z7.trans (z5.trans z1)))))⟩
    rw [b3 i, g6 i]
    rfl
  · skip
    cases hf
    -- leaf 1: ((- 1 : Int32), h2)
    have e1 : nI L + (20 : Int32) = nI (L + 20) := nI_add L 20
    rw [h9, e1, Int32.le_iff_toInt_le, nI_toInt (by omega), show (400 : Int32).toInt = 400 from rfl] at c3
    have a0 : oi (oc h2) a0 0 = 0 := by rw [o1, oi_eq]
    exact Or.inl ⟨by omega, rfl, a0, by show frM _ _ _ _ (oc h2); rw [o1]; exact frM_f (by decide), z1⟩
theorem E_X11_end {L : Nat} {n : Nat} {a0 : Nat} {x1 : Int32} {h : jH} {q : Int32 × jH} (x0 : oc h a0 0 = .ref (a0 + 1)) (h6 : oi (oc h) (a0 + 1) 6 = nI L) (hL : L ≤ 400) (hf : F_X11_end n a0 x1 h = some q) : ((x1.toInt < 0 ∨ (L : Int) < x1.toInt) ∧ q = (0, h)) ∨ (0 ≤ x1.toInt ∧ x1.toInt ≤ (L : Int) ∧ q.1 = 1 ∧ oi (oc q.2) (a0 + 1) 6 = x1 ∧ (∀ a k, ¬ (a = a0 + 1 ∧ k = 6) → oc q.2 a k = oc h a k) ∧ q.2.1 = h.1) := by
  unfold F_X11_end at hf
  have l0 : (0 : Int32).toInt = 0 := rfl
  replace hf := jite hf
  rcases hf with ⟨c1, hf⟩ | ⟨c1, hf⟩
  · skip
    cases hf
    -- leaf 0: ((0 : Int32), h)
    rw [Int32.lt_iff_toInt_lt, l0] at c1
    exact Or.inl ⟨Or.inl c1, rfl⟩
  · skip
    replace hf := jbind hf
    obtain ⟨p6, e2, hf⟩ := hf
    have r2 := oc_gR e2
    rw [x0] at r2
    cases r2
    clear e2
    replace hf := jbind hf
    obtain ⟨v9, e3, hf⟩ := hf
    have r3 := oc_gI e3
    subst r3
    clear e3
    replace hf := jite hf
    rcases hf with ⟨c4, hf⟩ | ⟨c4, hf⟩
    · skip
      replace hf := jbind hf
      obtain ⟨p18, e5, hf⟩ := hf
      have r5 := oc_gR e5
      rw [x0] at r5
      cases r5
      clear e5
      replace hf := jbind hf
      obtain ⟨h22, e6, hf⟩ := hf
      obtain ⟨o6, z6⟩ := oc_pf e6
      clear e6
      cases hf
      -- leaf 10: ((1 : Int32), h22)
      rw [Int32.lt_iff_toInt_lt, l0] at c1
      rw [h6, Int32.le_iff_toInt_le, nI_toInt (by omega)] at c4
      have g1 : oi (oc h22) (a0 + 1) 6 = x1 := by rw [o6, oi_eq]
      have g2 : ∀ a k, ¬ (a = a0 + 1 ∧ k = 6) → oc h22 a k = oc h a k := fun a k w => by rw [o6, u2_ne (by omega)]
      exact Or.inr ⟨by omega, c4, rfl, g1, g2, z6⟩
    · skip
      cases hf
      -- leaf 11: ((0 : Int32), h)
      rw [h6, Int32.le_iff_toInt_le, nI_toInt (by omega)] at c4
      exact Or.inl ⟨Or.inr (by omega), rfl⟩
theorem E_X12_end {L : Nat} {n : Nat} {a0 : Nat} {x1 : Int32} {h : jH} {q : Int32 × jH} (h9 : oi (oc h) a0 9 = nI L) (hL : L ≤ 400) (hf : F_X12_end n a0 x1 h = some q) : ((x1.toInt < 0 ∨ (L : Int) < x1.toInt) ∧ q.1 = 0 ∧ oi (oc q.2) a0 0 = 0 ∧ frM a0 [] [0] (oc h) (oc q.2) ∧ q.2.1 = h.1) ∨ (0 ≤ x1.toInt ∧ x1.toInt ≤ (L : Int) ∧ q.1 = 1 ∧ oi (oc q.2) a0 0 = 0 ∧ oi (oc q.2) a0 9 = x1 ∧ frM a0 [] [0, 9] (oc h) (oc q.2) ∧ q.2.1 = h.1) := by
  unfold F_X12_end at hf
  have l0 : (0 : Int32).toInt = 0 := rfl
  replace hf := jbind hf
  obtain ⟨h2, e1, hf⟩ := hf
  obtain ⟨o1, z1⟩ := oc_pf e1
  clear e1
  replace hf := jite hf
  rcases hf with ⟨c2, hf⟩ | ⟨c2, hf⟩
  · skip
    cases hf
    -- leaf 0: ((0 : Int32), h2)
    rw [Int32.lt_iff_toInt_lt, l0] at c2
    have g0 : oi (oc h2) a0 0 = 0 := by rw [o1, oi_eq]
    have f1 : frM a0 [] [0] (oc h) (oc h2) := by rw [o1]; exact frM_f (by decide)
    exact Or.inl ⟨Or.inl c2, rfl, g0, f1, z1⟩
  · skip
    replace hf := jbind hf
    obtain ⟨v11, e3, hf⟩ := hf
    have r3 := oc_gI e3
    rw [o1] at r3
    rw [oi_ne (Or.inr (by decide))] at r3
    subst r3
    clear e3
    replace hf := jite hf
    rcases hf with ⟨c4, hf⟩ | ⟨c4, hf⟩
    · skip
      replace hf := jbind hf
      obtain ⟨h21, e5, hf⟩ := hf
      obtain ⟨o5, z5⟩ := oc_pf e5
      clear e5
      cases hf
      -- leaf 10: ((1 : Int32), h21)
      rw [Int32.lt_iff_toInt_lt, l0] at c2
      rw [h9, Int32.le_iff_toInt_le, nI_toInt (by omega)] at c4
      have g0 : oi (oc h21) a0 0 = 0 := by rw [o5, oi_ne (Or.inr (by decide)), o1, oi_eq]
      have g1 : oi (oc h21) a0 9 = x1 := by rw [o5, oi_eq]
      have f1 : frM a0 [] [0, 9] (oc h) (oc h21) := by rw [o5, o1]; exact frM_tr (frM_f (by decide)) (frM_f (by decide))
      exact Or.inr ⟨by omega, c4, rfl, g0, g1, f1, z5.trans z1⟩
    · skip
      cases hf
      -- leaf 11: ((0 : Int32), h2)
      rw [h9, Int32.le_iff_toInt_le, nI_toInt (by omega)] at c4
      have g0 : oi (oc h2) a0 0 = 0 := by rw [o1, oi_eq]
      have f1 : frM a0 [] [0] (oc h) (oc h2) := by rw [o1]; exact frM_f (by decide)
      exact Or.inl ⟨Or.inr (by omega), rfl, g0, f1, z1⟩
end
section
/-! acts of the reference: the fault, what is remembered, the world after -/
def rTh (m : Nat) (c : Int32) (h h2 : jH) : Prop := oi (oc h2) m 0 = c ∧ frM m [] [0] (oc h) (oc h2) ∧ h2.1 = h.1
def rRM (m r : Nat) (h q : jH) : Prop := oi (oc q) m 7 = nI (if r < 12 then r + 1 else 12) ∧ (∀ k, k < 435 → oi (oc q) (m + 5) (435 * ((if r < 12 then r + 1 else 12) - 1) + k) = wl (oc h) m k) ∧ (∀ j, 1 ≤ j → j < (if r < 12 then r + 1 else 12) → ∀ k, k < 435 → oi (oc q) (m + 5) (435 * ((if r < 12 then r + 1 else 12) - 1 - j) + k) = oi (oc h) (m + 5) (435 * (r - j) + k)) ∧ frM m [5] [7] (oc h) (oc q) ∧ q.1 = h.1
/-- one act: fault 0, the world W2, the world before it remembered -/
def rAct (m r : Nat) (W2 : jWd) (h q : jH) : Prop := oi (oc q) m 0 = 0 ∧ wl (oc q) m = W2 ∧ oi (oc q) m 7 = nI (if r < 12 then r + 1 else 12) ∧ (∀ k, k < 435 → oi (oc q) (m + 5) (435 * ((if r < 12 then r + 1 else 12) - 1) + k) = wl (oc h) m k) ∧ (∀ j, 1 ≤ j → j < (if r < 12 then r + 1 else 12) → ∀ k, k < 435 → oi (oc q) (m + 5) (435 * ((if r < 12 then r + 1 else 12) - 1 - j) + k) = oi (oc h) (m + 5) (435 * (r - j) + k)) ∧ frM m [1, 5, 8] [0, 7, 18] (oc h) (oc q) ∧ q.1 = h.1
theorem wl_f {m : Nat} {cs fs : List Nat} {O O2 : jO} (f : frM m cs fs O O2) (h : 1 ∉ cs) : wl O2 m = wl O m := by
  refine funext fun k => oi_M f (fun c hc q => h ?_) (fun q => by omega)
  have e : c = 1 := by omega
  rw [← e]; exact hc
theorem rTh_rfl {m : Nat} {h : jH} {c : Int32} (z : oi (oc h) m 0 = c) : rTh m c h h := ⟨z, frM_rfl, rfl⟩
theorem rTh_tr {m : Nat} {c d : Int32} {h h2 h3 : jH} (a : rTh m c h h2) (b : rTh m d h2 h3) : rTh m d h h3 := ⟨b.1, frM_tr a.2.1 b.2.1, b.2.2.trans a.2.2⟩
theorem rAct_tr {m r : Nat} {c : Int32} {W2 : jWd} {h h2 h3 : jH} (a : rTh m c h h2) (b : rAct m r W2 h2 h3) : rAct m r W2 h h3 := by
  obtain ⟨b1, b2, b3, b4, b5, b6, b7⟩ := b
  exact ⟨b1, b2, b3, fun k hk => (b4 k hk).trans (congrFun (wl_f a.2.1 (by decide)) k), fun j j1 j2 k hk => (b5 j j1 j2 k hk).trans (oi_M a.2.1 (fun c hc => by cases hc) (fun q => by omega)), frM_tr (frM_le a.2.1 (fun c hc => by cases hc) (by decide)) b6, b7.trans a.2.2⟩
theorem rAct_mk18 {m r : Nat} {W2 : jWd} {h hB hC : jH} (T : oi (oc h) m 0 = 0) (R : rRM m r h hB) (f2 : frM m [1, 8] [18] (oc hB) (oc hC)) (w : wl (oc hC) m = W2) (z : hC.1 = hB.1) : rAct m r W2 h hC := by
  obtain ⟨b1, b2, b3, b4, b5⟩ := R
  have n5 : ∀ c ∈ [1, 8], m + 5 ≠ m + c := fun c hc => by simp at hc; omega
  have n0 : ∀ c ∈ [1, 8], m ≠ m + c := fun c hc => by simp at hc; omega
  exact ⟨(oi_M f2 n0 (fun _ => by decide)).trans ((oi_M b4 (fun c hc => by simp at hc; omega) (fun _ => by decide)).trans T), w, (oi_M f2 n0 (fun _ => by decide)).trans b1, fun k hk => (oi_M f2 n5 (fun q => by omega)).trans (b2 k hk), fun j j1 j2 k hk => (oi_M f2 n5 (fun q => by omega)).trans (b3 j j1 j2 k hk), frM_tr (frM_le b4 (by decide) (by decide)) (frM_le f2 (by decide) (by decide)), z.trans b5⟩
theorem rAct_mk {m r : Nat} {W2 : jWd} {h hB hC : jH} (T : oi (oc h) m 0 = 0) (R : rRM m r h hB) (f2 : frM m [1, 8] [] (oc hB) (oc hC)) (w : wl (oc hC) m = W2) (z : hC.1 = hB.1) : rAct m r W2 h hC := rAct_mk18 T R (frM_le f2 (fun c h => h) (fun c h => by cases h)) w z
theorem rTh_W {m : Nat} {c : Int32} {W : jWd} {h h2 : jH} (T : rTh m c h h2) (M : mS (oc h) m) (hW : wl (oc h) m = W) {v : Int32} (h7 : oi (oc h) m 7 = v) : mS (oc h2) m ∧ wl (oc h2) m = W ∧ oi (oc h2) m 7 = v := ⟨mS_fr M T.2.1 (by decide) (by decide), (wl_f T.2.1 (by decide)).trans hW, (oi_M T.2.1 (fun c hc => by cases hc) (fun _ => by decide)).trans h7⟩
theorem i_ring {W : jWd} {x : Int32} (K : wOK W) (h : 0 ≤ x.toInt ∧ x.toInt < (W 0).toInt) : ∃ i : Nat, i < 8 ∧ x = nI i ∧ (i : Int) < (W 0).toInt := by
  have k := K.1
  exact ⟨x.toInt.toNat, by omega, nI_k (by omega), by omega⟩
theorem E_X12_throwsIf {n : Nat} {a0 : Nat} {x1 : Int32} {x2 : Int32} {h : jH} {q : Int32 × jH} (hx : x1 = 0 ∨ x1 = 1) (hf : F_X12_throwsIf n a0 x1 x2 h = some q) : (x1 = 0 ∧ q.1 = 0 ∧ q.2 = h) ∨ (x1 = 1 ∧ q.1 = 1 ∧ rTh a0 x2 h q.2) := by
  unfold F_X12_throwsIf at hf
  replace hf := jite hf
  rcases hf with ⟨c1, hf⟩ | ⟨c1, hf⟩
  · skip
    replace hf := jite hf
    rcases hf with ⟨c2, hf⟩ | ⟨c2, hf⟩
    · skip
      cases hf
      -- leaf 00: (x1, h)
      exact Or.inl ⟨c1, c1, rfl⟩
    · skip
      cases hf
  · skip
    replace hf := jbind hf
    obtain ⟨h6, e3, hf⟩ := hf
    obtain ⟨o3, z3⟩ := oc_pf e3
    clear e3
    replace hf := jite hf
    rcases hf with ⟨c4, hf⟩ | ⟨c4, hf⟩
    · skip
      cases hf
      -- leaf 10: (x1, h6)
      have y := hx.resolve_left c1
      have g0 : oi (oc h6) a0 0 = x2 := by rw [o3, oi_eq]
      have g1 : frM a0 [] [0] (oc h) (oc h6) := by rw [o3]; exact frM_f (by decide)
      exact Or.inr ⟨y, y, g0, g1, z3⟩
    · skip
      cases hf
theorem E_X12_noRing {W : jWd} {n : Nat} {a0 : Nat} {x1 : Int32} {h : jH} {q : Int32} (M : mS (oc h) a0) (hW : wl (oc h) a0 = W) (K : wOK W) (hf : F_X12_noRing n a0 x1 h = some q) : (q = 0 ∨ q = 1) ∧ (q = 1 ↔ ¬ (0 ≤ x1.toInt ∧ x1.toInt < (W 0).toInt)) := by
  unfold F_X12_noRing at hf
  replace hf := jbind hf
  obtain ⟨v3, e1, hf⟩ := hf
  replace e1 := (jcv_o e1).2
  have r1 := E_X12_lastRing M e1
  rw [hW] at r1
  subst r1
  replace hf := jbind hf
  obtain ⟨v6, e2, hf⟩ := hf
  have r2 := E_X12_in e2
  replace hf := jite hf
  rcases hf with ⟨c3, hf⟩ | ⟨c3, hf⟩
  · skip
    cases hf
    -- leaf 0: (1 : Int32)
    have k0 := K.1
    have l0 : (0 : Int32).toInt = 0 := rfl
    have l1 : (1 : Int32).toInt = 1 := rfl
    have e3 : (W 0 - 1).toInt = (W 0).toInt - 1 := by rw [jsub (by omega) (by omega)]; omega
    rw [e3, l0] at r2
    exact ⟨Or.inr rfl, fun _ z => absurd (c3.symm.trans (r2.2.mpr (by omega))) (by decide), fun _ => rfl⟩
  · skip
    cases hf
    -- leaf 1: (0 : Int32)
    have k0 := K.1
    have l0 : (0 : Int32).toInt = 0 := rfl
    have l1 : (1 : Int32).toInt = 1 := rfl
    have e3 : (W 0 - 1).toInt = (W 0).toInt - 1 := by rw [jsub (by omega) (by omega)]; omega
    rw [e3, l0] at r2
    have y := r2.2.mp (r2.1.resolve_left c3)
    exact ⟨Or.inl rfl, fun z => absurd z (by decide), fun z => absurd (by omega) z⟩
theorem E_X12_let_34 {W : jWd} {r : Nat} {i : Nat} {n : Nat} {a0 : Nat} {x1 : Int32} {x2 : Int32} {sa0 : Nat} {s1 : Int32} {h : jH} {q : Int32 × jH} (M : mS (oc h) a0) (hW : wl (oc h) a0 = W) (K : wOK W) (h7 : oi (oc h) a0 7 = nI r) (hr : r ≤ 12) (z0 : oi (oc h) a0 0 = 0) (hs : a0 = sa0) (h01 : s1 = 0 ∨ s1 = 1) (hi : x1 = nI i) (h8 : i < 8) (hf : F_X12_let_34 n a0 x1 x2 sa0 s1 h = some q) : (s1 = 1 ∧ q.1 = 0 ∧ rTh a0 2 h q.2) ∨ (s1 = 0 ∧ q.1 = W (16 + 8 * i) ∧ rAct a0 r (upd W (16 + 8 * i) x2) h q.2) := by
  unfold F_X12_let_34 at hf
  subst hs
  replace hf := jbind hf
  obtain ⟨q35, e1, hf⟩ := hf
  replace e1 := (jcv_o e1).2
  have r1 := E_X12_throwsIf h01 e1
  replace hf := jite hf
  rcases hf with ⟨c2, hf⟩ | ⟨c2, hf⟩
  · skip
    replace hf := jbind hf
    obtain ⟨h44, e3, hf⟩ := hf
    replace e3 := (jcv_o e3).2
    have hq : q35.2 = h := by
      rcases r1 with ⟨-, -, y⟩ | ⟨-, y, -⟩
      · exact y
      · exact absurd (y.symm.trans c2) (by decide)
    rw [hq] at e3
    have R3 : rRM a0 r h h44 := E_X12_remembers M h7 hr e3
    have M3 : mS (oc h44) a0 := mS_fr M R3.2.2.2.1 (by decide) (by decide)
    obtain ⟨t1, t2, t3, t4, t5, t8, t15, t17, t19, t20, t21⟩ := id M3
    have w3 : wl (oc h44) a0 = W := (wl_f R3.2.2.2.1 (by decide)).trans hW
    replace hf := jbind hf
    obtain ⟨v50, e4, hf⟩ := hf
    replace e4 := (jcv_o e4).2
    have r4 := E_X12_of (i := i) (j := 5) (t := 16 + 8 * i) M3 hi rfl (by omega) (by omega) e4
    rw [w3] at r4
    replace hf := jbind hf
    obtain ⟨p55, e5, hf⟩ := hf
    have r5 := oc_gR e5
    rw [t1] at r5
    cases r5
    clear e5
    replace hf := jbind hf
    obtain ⟨v60, e6, hf⟩ := hf
    have r6 := E_X12_at (i := i) (j := 5) (t := 16 + 8 * i) hi rfl (by omega) e6
    replace hf := jbind hf
    obtain ⟨h64, e7, hf⟩ := hf
    obtain ⟨o7, z7, y7⟩ := oc_as e7
    rw [jnar0] at o7
    clear e7
    cases hf
    -- leaf 0: (v50, h64)
    rcases r1 with ⟨s, -, -⟩ | ⟨-, y, -⟩
    · rw [r6, nI_cl (by omega)] at o7
      have f7 : frM a0 [1, 8] [] (oc h44) (oc h64) := by rw [o7]; exact frM_c (by decide)
      have w7 : wl (oc h64) a0 = upd W (16 + 8 * i) x2 := by rw [o7, wl_w, w3]
      exact Or.inr ⟨s, r4, rAct_mk z0 R3 f7 w7 z7⟩
    · exact absurd (y.symm.trans c2) (by decide)
  · skip
    cases hf
    -- leaf 1: ((0 : Int32), q35.2)
    rcases r1 with ⟨-, y, -⟩ | ⟨s, -, T⟩
    · exact absurd y c2
    · exact Or.inl ⟨s, rfl, T⟩
end
