/-! whole hours -/
def cN (W : jWd) : Nat := (W 0).toInt.toNat
noncomputable def hrW (calm : Bool) (W : jWd) : jWd × Int32 :=
  if calm = true then (tuW (itW fd1 0 (cN W) W 0).1, 0)
  else (tuW (itW fl1 0 (cN (itW ct1 0 (cN (itW fd1 0 (cN W) W 0).1) (itW fd1 0 (cN W) W 0).1 0).1) (itW ct1 0 (cN (itW fd1 0 (cN W) W 0).1) (itW fd1 0 (cN W) W 0).1 0).1 0).1,
    (itW ct1 0 (cN (itW fd1 0 (cN W) W 0).1) (itW fd1 0 (cN W) W 0).1 0).2 + (itW fl1 0 (cN (itW ct1 0 (cN (itW fd1 0 (cN W) W 0).1) (itW fd1 0 (cN W) W 0).1 0).1) (itW ct1 0 (cN (itW fd1 0 (cN W) W 0).1) (itW fd1 0 (cN W) W 0).1 0).1 0).2)
noncomputable def hrs (calm : Bool) : Nat → jWd → Int32 → jWd × Int32
  | 0, W, a => (W, a)
  | m + 1, W, a => hrs calm m (hrW calm W).1 (a + (hrW calm W).2)
theorem cN_m {W : jWd} (K : wOK W) : ((0 + cN W : Nat) : Int) = (W 0).toInt := by
  have := K.1
  unfold cN
  omega
theorem tuW_n {W : jWd} {k : Nat} (h3 : k ≠ 3) (h4 : k ≠ 4) : tuW W k = W k := by
  unfold tuW
  by_cases c : (W 3).toInt < 7
  · rw [if_pos c, upd_ne h3]
  · rw [if_neg c, upd_ne h4, upd_ne h3]
theorem hr_f {W : jWd} : hrW false W = (tuW (itW fl1 0 (cN (itW ct1 0 (cN (itW fd1 0 (cN W) W 0).1) (itW fd1 0 (cN W) W 0).1 0).1) (itW ct1 0 (cN (itW fd1 0 (cN W) W 0).1) (itW fd1 0 (cN W) W 0).1 0).1 0).1,
    (itW ct1 0 (cN (itW fd1 0 (cN W) W 0).1) (itW fd1 0 (cN W) W 0).1 0).2 + (itW fl1 0 (cN (itW ct1 0 (cN (itW fd1 0 (cN W) W 0).1) (itW fd1 0 (cN W) W 0).1 0).1) (itW ct1 0 (cN (itW fd1 0 (cN W) W 0).1) (itW fd1 0 (cN W) W 0).1 0).1 0).2) := if_neg (by decide)
theorem hr_t {W : jWd} : hrW true W = (tuW (itW fd1 0 (cN W) W 0).1, 0) := if_pos rfl
theorem E_X1_turn {W : jWd} {n : Nat} {a0 : Nat} {h : jH} {q : jH} (R : rodE (oc h) a0 W) (K : wOK W) (hf : F_X1_turn n a0 h = some q) : rodE (oc q) a0 (tuW W) ∧ frR a0 (oc h) (oc q) ∧ q.1 = h.1 := by
  unfold F_X1_turn at hf
  obtain ⟨⟨s0, s1, s2, s3, s4, s5⟩, ⟨u5, u10, u11, u12, u13, u14, u15, u16, u17⟩, RB, RC, RL⟩ := id R
  have k3 := K.2.2.2.2.1
  have k4 := K.2.2.2.2.2.1
  have l8 : (8 : Int32).toInt = 8 := rfl
  have l1 : (1 : Int32).toInt = 1 := rfl
  replace hf := jbind hf
  obtain ⟨v2, e1, hf⟩ := hf
  have r1 := oc_gI e1
  subst r1
  clear e1
  replace hf := jbind hf
  obtain ⟨h7, e2, hf⟩ := hf
  obtain ⟨o2, z2⟩ := oc_pf e2
  clear e2
  replace hf := jbind hf
  obtain ⟨v11, e3, hf⟩ := hf
  have r3 := oc_gI e3
  rw [o2] at r3
  rw [oi_eq] at r3
  subst r3
  clear e3
  replace hf := jite hf
  rcases hf with ⟨c4, hf⟩ | ⟨c4, hf⟩
  · skip
    cases hf
    -- leaf 0: h7
    rw [u13, Int32.lt_iff_toInt_lt, jadd (by omega) (by omega), l8] at c4
    have l1 : (1 : Int32).toInt = 1 := rfl
    rw [u13] at o2
    have e : tuW W = upd W 3 (W 3 + 1) := if_pos (by omega)
    rw [e]
    exact ⟨by rw [o2]; exact rodE_i13 R, by rw [o2]; exact frR_u2 (by omega), z2⟩
  · skip
    replace hf := jbind hf
    obtain ⟨h21, e5, hf⟩ := hf
    obtain ⟨o5, z5⟩ := oc_pf e5
    clear e5
    replace hf := jbind hf
    obtain ⟨v29, e6, hf⟩ := hf
    have r6 := oc_gI e6
    rw [o5] at r6
    rw [oi_ne (Or.inr (by decide))] at r6
    rw [o2] at r6
    rw [oi_ne (Or.inr (by decide))] at r6
    subst r6
    clear e6
    replace hf := jbind hf
    obtain ⟨h37, e7, hf⟩ := hf
    obtain ⟨o7, z7⟩ := oc_pf e7
    clear e7
    cases hf
    -- leaf 1: h37
    rw [u13, Int32.lt_iff_toInt_lt, jadd (by omega) (by omega), l8] at c4
    have l1 : (1 : Int32).toInt = 1 := rfl
    rw [u14] at o7
    have e : tuW W = upd (upd W 3 0) 4 (if W 4 + 1 < (9999 : Int32) then W 4 + 1 else 9999) := if_neg (by omega)
    rw [e]
    have f : frR a0 (oc h) (oc q) := by rw [o7, o5, o2]; exact frR_tr (frR_tr (frR_u2 (by omega)) (frR_u2 (by omega))) (frR_u2 (by omega))
    refine ⟨?_, f, z7.trans (z5.trans z2)⟩
    have R2 : rodE (oc h7) a0 (upd W 3 (oi (oc h) a0 13 + 1)) := by rw [o2]; exact rodE_i13 R
    have R3 : rodE (oc h21) a0 (upd W 3 0) := by have := rodE_i13 (x := 0) R2; rw [upd_upd] at this; rw [o5]; exact this
    rw [o7]
    exact rodE_i14 R3
theorem E_X1_fadeAll {l : Nat} {W : jWd} {n : Nat} {a0 : Nat} {a1 : Nat} {h : jH} {q : jH} (C : clkE (oc h) a0 l a1 W) (D : clkD a0 l a1) (hf : F_X1_fadeAll n a0 a1 h = some q) : clkE (oc q) a0 l a1 (itW fd1 0 (cN W) W 0).1 ∧ frRL a1 l (oc h) (oc q) ∧ q.1 = h.1 := by
  unfold F_X1_fadeAll at hf
  -- leaf : F_X1_fadeAll_2 n n a0 a1 (0 : Int32) h
  exact E_X1_fadeAll_2 n W 0 (cN W) C D rfl (cN_m C.2.2.2) hf
theorem E_X1_catchSome {l : Nat} {W : jWd} {n : Nat} {a0 : Nat} {a1 : Nat} {h : jH} {q : Int32 × jH} (C : clkE (oc h) a0 l a1 W) (D : clkD a0 l a1) (hf : F_X1_catchSome n a0 a1 h = some q) : clkE (oc q.2) a0 l a1 (itW ct1 0 (cN W) W 0).1 ∧ q.1 = (itW ct1 0 (cN W) W 0).2 ∧ frRL a1 l (oc h) (oc q.2) ∧ q.2.1 = h.1 := by
  unfold F_X1_catchSome at hf
  -- leaf : F_X1_catchSome_4 n n a0 a1 (0 : Int32) (0 : Int32) h
  exact E_X1_catchSome_4 n W 0 (cN W) C D rfl (cN_m C.2.2.2) hf
theorem E_X1_dropSome {l : Nat} {W : jWd} {n : Nat} {a0 : Nat} {a1 : Nat} {h : jH} {q : Int32 × jH} (C : clkE (oc h) a0 l a1 W) (D : clkD a0 l a1) (hf : F_X1_dropSome n a0 a1 h = some q) : clkE (oc q.2) a0 l a1 (itW fl1 0 (cN W) W 0).1 ∧ q.1 = (itW fl1 0 (cN W) W 0).2 ∧ frRL a1 l (oc h) (oc q.2) ∧ q.2.1 = h.1 := by
  unfold F_X1_dropSome at hf
  -- leaf : F_X1_dropSome_4 n n a0 a1 (0 : Int32) (0 : Int32) h
  exact E_X1_dropSome_4 n W 0 (cN W) C D rfl (cN_m C.2.2.2) hf
theorem E_X1_run_5 {n : Nat} {l : Nat} : ∀ (k : Nat) {a0 : Nat} {a1 : Nat} {x2 : Int32} {x3 : Int32} {x4 : Int32} {h : jH} {q : Int32 × jH} (W : jWd) (t : Nat) (m : Nat) (C : clkE (oc h) a0 l a1 W) (D : clkD a0 l a1) (hn : t + m < 1000) (h2 : x2 = nI (t + m)) (h4 : x4 = nI t), F_X1_run_5 n k a0 a1 x2 x3 x4 h = some q → clkE (oc q.2) a0 l a1 (hrs false m W x3).1 ∧ q.1 = (hrs false m W x3).2 ∧ frRL a1 l (oc h) (oc q.2) ∧ q.2.1 = h.1
  | 0, a0, a1, x2, x3, x4, h, q, W, t, m, C, D, hn, h2, h4, hf => by cases hf
  | k + 1, a0, a1, x2, x3, x4, h, q, W, t, m, C, D, hn, h2, h4, hf => by
    replace hf : F_X1_run_5_b n (F_X1_run_5 n k) a0 a1 x2 x3 x4 h = some q := hf
    unfold F_X1_run_5_b at hf
    replace hf := jite hf
    rcases hf with ⟨c1, hf⟩ | ⟨c1, hf⟩
    · skip
      cases hf
      -- leaf 0: (x3, h)
      rw [h2, h4, Int32.le_iff_toInt_le, nI_toInt (by omega), nI_toInt (by omega)] at c1
      have : m = 0 := by omega
      subst this
      exact ⟨C, rfl, frRL_rfl, rfl⟩
    · skip
      replace hf := jbind hf
      obtain ⟨h13, e2, hf⟩ := hf
      replace e2 := (jcv_o e2).2
      replace hf := jbind hf
      obtain ⟨q19, e3, hf⟩ := hf
      replace e3 := (jcv_o e3).2
      replace hf := jbind hf
      obtain ⟨q24, e4, hf⟩ := hf
      replace e4 := (jcv_o e4).2
      replace hf := jbind hf
      obtain ⟨h31, e5, hf⟩ := hf
      -- leaf 1: rc5 a0 a1 x2 (x3 + (q19.1 + q24.1)) (x4 + (1 : Int32)) h31
      rw [h2, h4, Int32.le_iff_toInt_le, nI_toInt (by omega), nI_toInt (by omega)] at c1
      obtain ⟨m, rfl⟩ : ∃ p, m = p + 1 := ⟨m - 1, by omega⟩
      obtain ⟨A1, A2, A3⟩ := E_X1_fadeAll C D e2
      obtain ⟨W1, hW1⟩ : ∃ p, p = (itW fd1 0 (cN W) W 0).1 := ⟨_, rfl⟩
      rw [← hW1] at A1
      obtain ⟨B1, B2, B3, B4⟩ := E_X1_catchSome A1 D e3
      obtain ⟨P2, hP2⟩ : ∃ p, p = itW ct1 0 (cN W1) W1 0 := ⟨_, rfl⟩
      rw [← hP2] at B1 B2
      obtain ⟨D1, D2, D3, D4⟩ := E_X1_dropSome B1 D e4
      obtain ⟨P3, hP3⟩ : ∃ p, p = itW fl1 0 (cN P2.1) P2.1 0 := ⟨_, rfl⟩
      rw [← hP3] at D1 D2
      obtain ⟨T1, T2, T3⟩ := E_X1_turn D1.2.1 D1.2.2.2 e5
      have hh : hrW false W = (tuW P3.1, P2.2 + P3.2) := by rw [hr_f, ← hW1, ← hP2, ← hP3]
      have C5 : clkE (oc h31) a0 l a1 (hrW false W).1 := by rw [hh]; exact clk_R D1 D T2 T1 (wOK_tu D1.2.2.2) (fun k hk => tuW_n (by omega) (by omega))
      obtain ⟨g1, g2, g3, g4⟩ := E_X1_run_5 k (hrW false W).1 (t + 1) m C5 D (by omega) (by rw [h2]; congr 1; omega) (by rw [h4, nI_1]) hf
      rw [show q19.1 + q24.1 = (hrW false W).2 by rw [hh, B2, D2]] at g1 g2
      exact ⟨g1, g2, frRL_tr (frRL_tr (frRL_tr (frRL_tr A2 B3) D3) (frRL_R T2)) g3, g4.trans (T3.trans (D4.trans (B4.trans A3)))⟩
theorem E_X1_run {l : Nat} {W : jWd} {m : Nat} {n : Nat} {a0 : Nat} {a1 : Nat} {x2 : Int32} {h : jH} {q : Int32 × jH} (C : clkE (oc h) a0 l a1 W) (D : clkD a0 l a1) (hn : m < 1000) (h2 : x2 = nI m) (hf : F_X1_run n a0 a1 x2 h = some q) : clkE (oc q.2) a0 l a1 (hrs false m W 0).1 ∧ q.1 = (hrs false m W 0).2 ∧ frRL a1 l (oc h) (oc q.2) ∧ q.2.1 = h.1 := by
  unfold F_X1_run at hf
  -- leaf : F_X1_run_5 n n a0 a1 x2 (0 : Int32) (0 : Int32) h
  exact E_X1_run_5 n W 0 m C D (by omega) (by rw [h2]; congr 1; omega) rfl hf
