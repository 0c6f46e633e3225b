/-! hours of the reference -/
theorem lawK_cg {W W2 : jWd} (L : lawK W) (h : ∀ k, k = 2 ∨ 435 ≤ k → W2 k = W k) : lawK W2 := by
  obtain ⟨a, b⟩ := L
  unfold lawK
  rw [h 2 (Or.inl rfl), h 435 (Or.inr (by omega))]
  refine ⟨a, fun z => ⟨(b z).1, fun i hi => ?_⟩⟩
  obtain ⟨c1, c2, c3, c4⟩ := (b z).2 i hi
  rw [h (438 + 4 * i) (by omega), h (439 + 4 * i) (by omega), tyR_cg (fun k hk => h k (Or.inr hk))]
  exact ⟨c1, c2, c3, c4⟩
theorem lawB_cg {W W2 : jWd} (L : lawB W) (h : ∀ k, k = 2 ∨ 435 ≤ k → W2 k = W k) : lawB W2 := by
  intro z i hi
  rw [h 2 (Or.inl rfl)] at z
  rw [h 435 (Or.inr (by omega))] at hi
  rw [h (437 + 4 * i) (by omega)]
  exact L z i hi
theorem b_32767 : ∀ i, i < 32 → bt 32767 i = decide (i < 15) := by decide +kernel
theorem rn_eq {s : Int32} : (s >>> ((16 : Int32) &&& 31)) &&& (32767 : Int32) = (jushr s (16 : Int32)) &&& (32767 : Int32) := by
  refine b_ext fun i hi => ?_
  rw [b_and, b_and, b_32767 i hi]
  have a : bt (s >>> ((16 : Int32) &&& 31)) i = if 16 + i < 32 then bt s (16 + i) else bt s 31 := b_sshr 16 (by decide) s hi
  have b : bt (jushr s (16 : Int32)) i = bt s (16 + i) := b_ushr 16 (by decide) s i
  rw [a, b]
  by_cases c : i < 15
  · rw [if_pos (by omega)]
  · rw [decide_eq_false c, Bool.and_false, Bool.and_false]
/-- the reference at m tells the world -/
def rkE (O : jO) (m : Nat) (W : jWd) : Prop := mS O m ∧ wl O m = W ∧ wOK W ∧ lawK W ∧ lawB W
theorem rk_w {O O2 : jO} {m : Nat} {W W2 : jWd} (C : rkE O m W) (f : frM m [1, 8] [] O O2) (w : wl O2 m = W2) (K : wOK W2) (h : ∀ k, k = 2 ∨ 435 ≤ k → W2 k = W k) : rkE O2 m W2 :=
  ⟨mS_fr C.1 f (by decide) (by decide), w, K, lawK_cg C.2.2.2.1 h, lawB_cg C.2.2.2.2 h⟩
theorem wl_8 {O O2 : jO} {m : Nat} (f : frM m [8] [] O O2) : wl O2 m = wl O m := by
  funext k
  exact oi_M f (fun c hc q => by simp at hc; omega) (fun _ => by simp)
theorem rk_8 {O O2 : jO} {m : Nat} {W : jWd} (C : rkE O m W) (f : frM m [8] [] O O2) : rkE O2 m W :=
  ⟨mS_fr C.1 f (by decide) (by decide), (wl_8 f).trans C.2.1, C.2.2⟩
theorem f8 {O O2 : jO} {m : Nat} (f : frM m [8] [] O O2) : frM m [1, 8] [] O O2 := frM_le f (fun c h => by simp at h ⊢; omega) (fun c h => by cases h)
theorem f1 {O O2 : jO} {m : Nat} (f : frM m [1] [] O O2) : frM m [1, 8] [] O O2 := frM_le f (fun c h => by simp at h ⊢; omega) (fun c h => by cases h)
theorem E_X12_drawn {W : jWd} {n : Nat} {a0 : Nat} {x1 : Int32} {h : jH} {q : Int32 × jH} (C : rkE (oc h) a0 W) (hx : x1 = 100) (hf : F_X12_drawn n a0 x1 h = some q) : q.1 = rnW (sdW (W 10)) ∧ wl (oc q.2) a0 = upd W 10 (sdW (W 10)) ∧ frM a0 [1, 8] [] (oc h) (oc q.2) ∧ q.2.1 = h.1 := by
  unfold F_X12_drawn at hf
  have M := C.1
  have hW := C.2.1
  obtain ⟨s1, s2, s3, s4, s5, s8, s15, s17, s19, s20, s21⟩ := id M
  subst hx
  replace hf := jbind hf
  obtain ⟨p1, e1, hf⟩ := hf
  have r1 := oc_gR e1
  rw [s1] at r1
  cases r1
  clear e1
  replace hf := jbind hf
  obtain ⟨p9, e2, hf⟩ := hf
  have r2 := oc_gR e2
  rw [s1] at r2
  cases r2
  clear e2
  replace hf := jbind hf
  obtain ⟨v14, e3, hf⟩ := hf
  obtain ⟨r3, y3⟩ := oc_al e3
  rw [show (10 : Int32).toNatClampNeg = 10 from rfl] at r3
  subst r3
  clear e3
  replace hf := jbind hf
  obtain ⟨h20, e4, hf⟩ := hf
  obtain ⟨o4, z4, y4⟩ := oc_as e4
  rw [jnar0] at o4
  rw [show (10 : Int32).toNatClampNeg = 10 from rfl] at o4
  clear e4
  replace hf := jbind hf
  obtain ⟨p22, e5, hf⟩ := hf
  have r5 := oc_gR e5
  rw [o4] at r5
  rw [u2_ne (Or.inl (by omega))] at r5
  rw [s1] at r5
  cases r5
  clear e5
  replace hf := jbind hf
  obtain ⟨v27, e6, hf⟩ := hf
  obtain ⟨r6, y6⟩ := oc_al e6
  rw [show (10 : Int32).toNatClampNeg = 10 from rfl] at r6
  rw [o4] at r6
  rw [oi_eq] at r6
  subst r6
  clear e6
  replace hf := jite hf
  rcases hf with ⟨c7, hf⟩ | ⟨c7, hf⟩
  · skip
    cases hf
  · skip
    cases hf
    -- leaf 1: (((v27 >>> ((16 : Int32) &&& 31)) &&& (32767 : Int32)) - ((v27 >>> ((16 : Int32) &&& 31)) &&& (32767
    have w10 : oi (oc h) (a0 + 1) 10 = W 10 := by rw [← hW]
    rw [w10] at o4
    refine ⟨?_, ?_, ?_, z4⟩
    · show _ = rnW (sdW (W 10))
      unfold rnW
      rw [← rn_eq, ← w10]
      rfl
    · rw [o4, wl_w, hW]
      rfl
    · rw [o4]
      exact frM_c (by decide)
theorem E_X12_catches_4 {n : Nat} : ∀ (k : Nat) {a0 : Nat} {x1 : Int32} {x2 : Int32} {h : jH} {q : Int32 × jH} (W : jWd) (i : Nat) (m : Nat) (C : rkE (oc h) a0 W) (hx : x2 = nI i) (hm : ((i + m : Nat) : Int) = (W 0).toInt), F_X12_catches_4 n k a0 x1 x2 h = some q → rkE (oc q.2) a0 (itW ct1 i m W x1).1 ∧ q.1 = (itW ct1 i m W x1).2 ∧ frM a0 [1, 8] [] (oc h) (oc q.2) ∧ q.2.1 = h.1
  | 0, a0, x1, x2, h, q, W, i, m, C, hx, hm, hf => by cases hf
  | k + 1, a0, x1, x2, h, q, W, i, m, C, hx, hm, hf => by
    replace hf : F_X12_catches_4_b n (F_X12_catches_4 n k) a0 x1 x2 h = some q := hf
    unfold F_X12_catches_4_b at hf
    obtain ⟨M, hW, K, LK, LB⟩ := id C
    obtain ⟨s1, s2, s3, s4, s5, s8, s15, s17, s19, s20, s21⟩ := id M
    have K0 := K.1
    have l1 : (1 : Int32).toInt = 1 := rfl
    replace hf := jbind hf
    obtain ⟨v6, e1, hf⟩ := hf
    replace e1 := (jcv_o e1).2
    have r1 := E_X12_lastRing M e1
    rw [hW] at r1
    subst r1
    replace hf := jite hf
    rcases hf with ⟨c2, hf⟩ | ⟨c2, hf⟩
    · skip
      cases hf
      -- leaf 0: (x1, h)
      rw [hx, nI_eI (by omega), jsub (by omega) (by omega)] at c2
      by_cases m0 : m = 0
      · subst m0; exact ⟨C, rfl, frM_rfl, rfl⟩
      · have m1 : m = 0 + 1 := by omega
        subst m1
        rw [it_z (ct_0 (fun z => by omega))]
        exact ⟨C, rfl, frM_rfl, rfl⟩
    · skip
      replace hf := jbind hf
      obtain ⟨v14, e3, hf⟩ := hf
      replace e3 := (jcv_o e3).2
      replace hf := jite hf
      rcases hf with ⟨c4, hf⟩ | ⟨c4, hf⟩
      · skip
        replace hf := jbind hf
        obtain ⟨v25, e5, hf⟩ := hf
        replace e5 := (jcv_o e5).2
        replace hf := jite hf
        rcases hf with ⟨c6, hf⟩ | ⟨c6, hf⟩
        · skip
          replace hf := jbind hf
          obtain ⟨q34, e7, hf⟩ := hf
          replace e7 := (jcv_o e7).2
          have hj : (i : Int) + 1 < (W 0).toInt := by rw [hx, nI_eI (by omega), jsub (by omega) (by omega)] at c2; omega
          have hi : (i : Int) < (W 0).toInt := by omega
          obtain ⟨d1, d2, d3, d4⟩ := E_X12_drawn C rfl e7
          have C2 : rkE (oc q34.2) a0 (upd W 10 (sdW (W 10))) := rk_w C d3 d2 (wOK_10 K) (fun k hk => upd_ne (by omega))
          replace hf := jbind hf
          obtain ⟨q40, e8, hf⟩ := hf
          replace e8 := (jcv_o e8).2
          have w0 : upd W 10 (sdW (W 10)) 0 = W 0 := upd_ne (by omega)
          obtain ⟨b1, b2, b3⟩ := E_X12_byLaw C2.1 C2.2.1 C2.2.2.1 (by rw [w0]; exact hi) C2.2.2.2.1 hx e8
          have C3 := rk_8 C2 b2
          have M3 := C3.1
          obtain ⟨s1b, -⟩ := id M3
          replace hf := jite hf
          rcases hf with ⟨c9, hf⟩ | ⟨c9, hf⟩
          · skip
            replace hf := jbind hf
            obtain ⟨p50, e10, hf⟩ := hf
            have r10 := oc_gR e10
            rw [s1b] at r10
            cases r10
            clear e10
            replace hf := jbind hf
            obtain ⟨v56, e11, hf⟩ := hf
            replace hf := jbind hf
            obtain ⟨h60, e12, hf⟩ := hf
            obtain ⟨o12, z12, y12⟩ := oc_as e12
            rw [jnar0] at o12
            clear e12
            replace hf := jbind hf
            obtain ⟨h65, e13, hf⟩ := hf
            replace e13 := (jcv_o e13).2
            -- leaf 1000: rc4 a0 (x1 + (1 : Int32)) (x2 + (1 : Int32)) h65
            have r3 := E_X12_gapOf M (by rw [hW]; exact K) hx (by rw [hW]; exact hi) e3
            rw [hW, if_pos hj] at r3
            have r5 := E_X12_is M (j := 7) (t := 18 + 8 * i) hx rfl (by omega) (by omega) e5
            rw [hW] at r5
            have cond : ((i : Int) + 1 < (W 0).toInt ∧ W (11 + 8 * (i + 1)) - W (11 + 8 * i) = 1) ∧ W (18 + 8 * i) ≠ 1 := ⟨⟨hj, r3.symm.trans c4⟩, fun z => absurd (c6.symm.trans (r5.2.mpr z)) (by decide)⟩
            obtain ⟨m, rfl⟩ : ∃ p, m = p + 1 := ⟨m - 1, by omega⟩
            have nl : rnW (sdW (W 10)) < byW (upd W 10 (sdW (W 10))) 1 i := by rw [← d1, ← b1]; exact c9
            rw [it_s (ct_2 cond nl)]
            have at9 := E_X12_at (i := i) (j := 7) (t := 18 + 8 * i) hx rfl (by omega) e11
            rw [at9, nI_cl (by omega)] at o12
            have f4 : frM a0 [1] [] (oc q40.2) (oc h60) := by rw [o12]; exact frM_c (by decide)
            have w4 : wl (oc h60) a0 = upd (upd W 10 (sdW (W 10))) (18 + 8 * i) 1 := by rw [o12, wl_w, C3.2.1]
            have K4 : wOK (upd (upd W 10 (sdW (W 10))) (18 + 8 * i) 1) := wOK_ct C3.2.2.1 (Or.inr ⟨rfl, by rw [w0]; exact cond.1.1⟩)
            have v4 : upd (upd W 10 (sdW (W 10))) (18 + 8 * i) 1 0 = W 0 := (upd_ne (by omega)).trans w0
            obtain ⟨t1, t2, t3⟩ := E_X12_tells (r := i) (mS_fr C3.1 f4 (by decide) (by decide)) w4 (by omega) hx e13
            have t1 : wl (oc h65) a0 = tlW (upd (upd W 10 (sdW (W 10))) (18 + 8 * i) 1) i (nI i) (nI 1) (nI 0) := by rw [t1, hx]; rfl
            have C5 := rk_w C3 (frM_tr (f1 f4) (f1 t2)) t1 (wOK_tl K4) (fun k hk => (tlW_n (by omega)).trans (upd_ne (by omega)))
            obtain ⟨g1, g2, g3, g4⟩ := E_X12_catches_4 k _ (i + 1) m C5 (by rw [hx, nI_1]) (by rw [tlW_n (Or.inl (by omega)), v4]; omega) hf
            exact ⟨g1, g2, frM_tr (frM_tr (frM_tr d3 (f8 b2)) (frM_tr (f1 f4) (f1 t2))) g3, g4.trans (t3.trans (z12.trans (b3.trans d4)))⟩
          · skip
            -- leaf 1001: rc4 a0 x1 (x2 + (1 : Int32)) q40.2
            have r3 := E_X12_gapOf M (by rw [hW]; exact K) hx (by rw [hW]; exact hi) e3
            rw [hW, if_pos hj] at r3
            have r5 := E_X12_is M (j := 7) (t := 18 + 8 * i) hx rfl (by omega) (by omega) e5
            rw [hW] at r5
            have cond : ((i : Int) + 1 < (W 0).toInt ∧ W (11 + 8 * (i + 1)) - W (11 + 8 * i) = 1) ∧ W (18 + 8 * i) ≠ 1 := ⟨⟨hj, r3.symm.trans c4⟩, fun z => absurd (c6.symm.trans (r5.2.mpr z)) (by decide)⟩
            obtain ⟨m, rfl⟩ : ∃ p, m = p + 1 := ⟨m - 1, by omega⟩
            have nl : ¬ rnW (sdW (W 10)) < byW (upd W 10 (sdW (W 10))) 1 i := by rw [← d1, ← b1]; exact c9
            rw [it_z (ct_1 cond nl)]
            obtain ⟨g1, g2, g3, g4⟩ := E_X12_catches_4 k (upd W 10 (sdW (W 10))) (i + 1) m C3 (by rw [hx, nI_1]) (by rw [w0]; omega) hf
            exact ⟨g1, g2, frM_tr (frM_tr d3 (f8 b2)) g3, g4.trans (b3.trans d4)⟩
        · skip
          -- leaf 101: rc4 a0 x1 (x2 + (1 : Int32)) h
          have hj : (i : Int) + 1 < (W 0).toInt := by rw [hx, nI_eI (by omega), jsub (by omega) (by omega)] at c2; omega
          have hi : (i : Int) < (W 0).toInt := by omega
          have r5 := E_X12_is M (j := 7) (t := 18 + 8 * i) hx rfl (by omega) (by omega) e5
          rw [hW] at r5
          obtain ⟨m, rfl⟩ : ∃ p, m = p + 1 := ⟨m - 1, by omega⟩
          rw [it_z (ct_0 (fun z => z.2 (r5.2.mp (r5.1.resolve_left c6))))]
          exact E_X12_catches_4 k W (i + 1) m C (by rw [hx, nI_1]) (by omega) hf
      · skip
        -- leaf 11: rc4 a0 x1 (x2 + (1 : Int32)) h
        have hj : (i : Int) + 1 < (W 0).toInt := by rw [hx, nI_eI (by omega), jsub (by omega) (by omega)] at c2; omega
        have hi : (i : Int) < (W 0).toInt := by omega
        have r3 := E_X12_gapOf M (by rw [hW]; exact K) hx (by rw [hW]; exact hi) e3
        rw [hW, if_pos hj] at r3
        obtain ⟨m, rfl⟩ : ∃ p, m = p + 1 := ⟨m - 1, by omega⟩
        rw [it_z (ct_0 (fun z => c4 (r3.trans z.1.2)))]
        exact E_X12_catches_4 k W (i + 1) m C (by rw [hx, nI_1]) (by omega) hf
theorem E_X12_falls_4 {n : Nat} : ∀ (k : Nat) {a0 : Nat} {x1 : Int32} {x2 : Int32} {h : jH} {q : Int32 × jH} (W : jWd) (i : Nat) (m : Nat) (C : rkE (oc h) a0 W) (hx : x2 = nI i) (hm : ((i + m : Nat) : Int) = (W 0).toInt), F_X12_falls_4 n k a0 x1 x2 h = some q → rkE (oc q.2) a0 (itW fl1 i m W x1).1 ∧ q.1 = (itW fl1 i m W x1).2 ∧ frM a0 [1, 8] [] (oc h) (oc q.2) ∧ q.2.1 = h.1
  | 0, a0, x1, x2, h, q, W, i, m, C, hx, hm, hf => by cases hf
  | k + 1, a0, x1, x2, h, q, W, i, m, C, hx, hm, hf => by
    replace hf : F_X12_falls_4_b n (F_X12_falls_4 n k) a0 x1 x2 h = some q := hf
    unfold F_X12_falls_4_b at hf
    obtain ⟨M, hW, K, LK, LB⟩ := id C
    obtain ⟨s1, s2, s3, s4, s5, s8, s15, s17, s19, s20, s21⟩ := id M
    have K0 := K.1
    have l1 : (1 : Int32).toInt = 1 := rfl
    replace hf := jbind hf
    obtain ⟨v6, e1, hf⟩ := hf
    replace e1 := (jcv_o e1).2
    have r1 := E_X12_rings M e1
    rw [hW] at r1
    subst r1
    replace hf := jite hf
    rcases hf with ⟨c2, hf⟩ | ⟨c2, hf⟩
    · skip
      cases hf
      -- leaf 0: (x1, h)
      rw [hx, nI_eI (by omega)] at c2
      have : m = 0 := by omega
      subst this
      exact ⟨C, rfl, frM_rfl, rfl⟩
    · skip
      replace hf := jbind hf
      obtain ⟨v16, e3, hf⟩ := hf
      replace e3 := (jcv_o e3).2
      replace hf := jite hf
      rcases hf with ⟨c4, hf⟩ | ⟨c4, hf⟩
      · skip
        -- leaf 10: rc4 a0 x1 (x2 + (1 : Int32)) h
        have hi : (i : Int) < (W 0).toInt := by rw [hx, nI_eI (by omega)] at c2; omega
        have r3 := E_X12_is M (j := 6) (t := 17 + 8 * i) hx rfl (by omega) (by omega) e3
        rw [hW] at r3
        obtain ⟨m, rfl⟩ : ∃ p, m = p + 1 := ⟨m - 1, by omega⟩
        rw [it_z (fl_0 (fun z => absurd (c4.symm.trans (r3.2.mpr z)) (by decide)))]
        exact E_X12_falls_4 k W (i + 1) m C (by rw [hx, nI_1]) (by omega) hf
      · skip
        replace hf := jbind hf
        obtain ⟨q25, e5, hf⟩ := hf
        replace e5 := (jcv_o e5).2
        have hi : (i : Int) < (W 0).toInt := by rw [hx, nI_eI (by omega)] at c2; omega
        obtain ⟨d1, d2, d3, d4⟩ := E_X12_drawn C rfl e5
        have C2 : rkE (oc q25.2) a0 (upd W 10 (sdW (W 10))) := rk_w C d3 d2 (wOK_10 K) (fun k hk => upd_ne (by omega))
        replace hf := jbind hf
        obtain ⟨q31, e6, hf⟩ := hf
        replace e6 := (jcv_o e6).2
        have w0 : upd W 10 (sdW (W 10)) 0 = W 0 := upd_ne (by omega)
        obtain ⟨b1, b2, b3⟩ := E_X12_byLaw C2.1 C2.2.1 C2.2.2.1 (by rw [w0]; exact hi) C2.2.2.2.1 hx e6
        have C3 := rk_8 C2 b2
        have M3 := C3.1
        obtain ⟨s1b, -⟩ := id M3
        replace hf := jite hf
        rcases hf with ⟨c7, hf⟩ | ⟨c7, hf⟩
        · skip
          replace hf := jbind hf
          obtain ⟨p41, e8, hf⟩ := hf
          have r8 := oc_gR e8
          rw [s1b] at r8
          cases r8
          clear e8
          replace hf := jbind hf
          obtain ⟨v47, e9, hf⟩ := hf
          replace hf := jbind hf
          obtain ⟨h51, e10, hf⟩ := hf
          obtain ⟨o10, z10, y10⟩ := oc_as e10
          rw [jnar0] at o10
          clear e10
          replace hf := jbind hf
          obtain ⟨h56, e11, hf⟩ := hf
          replace e11 := (jcv_o e11).2
          -- leaf 110: rc4 a0 (x1 + (1 : Int32)) (x2 + (1 : Int32)) h56
          have r3 := E_X12_is M (j := 6) (t := 17 + 8 * i) hx rfl (by omega) (by omega) e3
          rw [hW] at r3
          have cond : W (17 + 8 * i) = 1 := r3.2.mp (r3.1.resolve_left c4)
          obtain ⟨m, rfl⟩ : ∃ p, m = p + 1 := ⟨m - 1, by omega⟩
          have nl : rnW (sdW (W 10)) < byW (upd W 10 (sdW (W 10))) 2 i := by rw [← d1, ← b1]; exact c7
          rw [it_s (fl_2 cond nl)]
          have at9 := E_X12_at (i := i) (j := 6) (t := 17 + 8 * i) hx rfl (by omega) e9
          rw [at9, nI_cl (by omega)] at o10
          have f4 : frM a0 [1] [] (oc q31.2) (oc h51) := by rw [o10]; exact frM_c (by decide)
          have w4 : wl (oc h51) a0 = upd (upd W 10 (sdW (W 10))) (17 + 8 * i) 0 := by rw [o10, wl_w, C3.2.1]
          have K4 : wOK (upd (upd W 10 (sdW (W 10))) (17 + 8 * i) 0) := wOK_hk C3.2.2.1 (Or.inl rfl)
          have v4 : upd (upd W 10 (sdW (W 10))) (17 + 8 * i) 0 0 = W 0 := (upd_ne (by omega)).trans w0
          obtain ⟨t1, t2, t3⟩ := E_X12_tells (r := i) (mS_fr C3.1 f4 (by decide) (by decide)) w4 (by omega) hx e11
          have t1 : wl (oc h56) a0 = tlW (upd (upd W 10 (sdW (W 10))) (17 + 8 * i) 0) i (nI i) (nI 2) (nI 0) := by rw [t1, hx]; rfl
          have C5 := rk_w C3 (frM_tr (f1 f4) (f1 t2)) t1 (wOK_tl K4) (fun k hk => (tlW_n (by omega)).trans (upd_ne (by omega)))
          obtain ⟨g1, g2, g3, g4⟩ := E_X12_falls_4 k _ (i + 1) m C5 (by rw [hx, nI_1]) (by rw [tlW_n (Or.inl (by omega)), v4]; omega) hf
          exact ⟨g1, g2, frM_tr (frM_tr (frM_tr d3 (f8 b2)) (frM_tr (f1 f4) (f1 t2))) g3, g4.trans (t3.trans (z10.trans (b3.trans d4)))⟩
        · skip
          -- leaf 111: rc4 a0 x1 (x2 + (1 : Int32)) q31.2
          have r3 := E_X12_is M (j := 6) (t := 17 + 8 * i) hx rfl (by omega) (by omega) e3
          rw [hW] at r3
          have cond : W (17 + 8 * i) = 1 := r3.2.mp (r3.1.resolve_left c4)
          obtain ⟨m, rfl⟩ : ∃ p, m = p + 1 := ⟨m - 1, by omega⟩
          have nl : ¬ rnW (sdW (W 10)) < byW (upd W 10 (sdW (W 10))) 2 i := by rw [← d1, ← b1]; exact c7
          rw [it_z (fl_1 cond nl)]
          obtain ⟨g1, g2, g3, g4⟩ := E_X12_falls_4 k (upd W 10 (sdW (W 10))) (i + 1) m C3 (by rw [hx, nI_1]) (by rw [w0]; omega) hf
          exact ⟨g1, g2, frM_tr (frM_tr d3 (f8 b2)) g3, g4.trans (b3.trans d4)⟩
