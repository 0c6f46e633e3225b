/-! a line of a pole's text, the reference -/
theorem E_X12_readNumber {b : Nat → Int32} {L : Nat} {m : Nat} {T : Nat → Int32 × Int32} {st : Nat → Nat} {en : Nat → Nat} {k : Nat} {W : jWd} {i : Nat} {n : Nat} {a0 : Nat} {x1 : Int32} {x2 : Int32} {x3 : Int32} {h : jH} {q : Int32 × jH} (H : tkE b L m T st en) (R : rc (oc h) a0 b L st k) (hW : wl (oc h) a0 = W) (hi : i < 11) (h1 : x1 = nI i) (h2 : 0 ≤ x2.toInt) (h3 : x3.toInt ≤ 999) (hf : F_X12_readNumber n a0 x1 x2 x3 h = some q) : lnR (oc q.2) q.1 a0 b L st (rdNum T k x2 x3 (fun v => upd W i v)) ∧ frM a0 [1] [10, 12] (oc h) (oc q.2) ∧ q.2.1 = h.1 := by
  unfold F_X12_readNumber at hf
  replace hf := jbind hf
  obtain ⟨q3, e1, hf⟩ := hf
  replace e1 := (jcv_o e1).2
  obtain ⟨d1, M1, g1, f1, z1⟩ := T_number H h3 R e1
  replace hf := jbind hf
  obtain ⟨p9, e2, hf⟩ := hf
  have r2 := oc_gR e2
  rw [M1.1] at r2
  cases r2
  clear e2
  replace hf := jite hf
  rcases hf with ⟨c3, hf⟩ | ⟨c3, hf⟩
  · skip
    replace hf := jbind hf
    obtain ⟨h29, e4, hf⟩ := hf
    obtain ⟨o4, z4, y4⟩ := oc_as e4
    rw [jnar0] at o4
    clear e4
    replace hf := jite hf
    rcases hf with ⟨c5, hf⟩ | ⟨c5, hf⟩
    · skip
      cases hf
      -- leaf 00: ((0 : Int32), h29)
      rw [Int32.le_iff_toInt_le] at c3
      rw [Int32.lt_iff_toInt_lt] at c5
      omega
    · skip
      cases hf
      -- leaf 01: ((1 : Int32), h29)
      rcases d1 with ⟨v, y, R9⟩ | ⟨v, y⟩
      rotate_left
      · rw [v] at c3
        exact absurd c3 (by decide)
      rw [h1, nI_cl (by omega), v] at o4
      have f4 : frM a0 [1] [] (oc q3.2) (oc h29) := by rw [o4]; exact frM_c (by decide)
      have w4 : wl (oc h29) a0 = upd W i (T k).2 := by rw [o4, wl_w, wl_f f1 (by decide), hW]
      exact ⟨lnR_l (if_pos y) ⟨rfl, rc_fr R9 f4 (by decide) (by decide) (by decide) (by decide) (by decide), w4⟩, frM_tr (frM_le f1 (by decide) (by decide)) (frM_le f4 (by decide) (by decide)), z4.trans z1⟩
  · skip
    replace hf := jbind hf
    obtain ⟨p19, e6, hf⟩ := hf
    have r6 := oc_gR e6
    rw [M1.1] at r6
    cases r6
    clear e6
    replace hf := jbind hf
    obtain ⟨v23, e7, hf⟩ := hf
    obtain ⟨r7, y7⟩ := oc_al e7
    subst r7
    clear e7
    replace hf := jbind hf
    obtain ⟨h29, e8, hf⟩ := hf
    obtain ⟨o8, z8, y8⟩ := oc_as e8
    rw [jnar0] at o8
    clear e8
    replace hf := jite hf
    rcases hf with ⟨c9, hf⟩ | ⟨c9, hf⟩
    · skip
      cases hf
      -- leaf 10: ((0 : Int32), h29)
      have e3 : oi (oc h29) a0 12 = oi (oc q3.2) a0 12 := by rw [o8, oi_ne (Or.inl (by omega))]
      have f8 : frM a0 [1] [] (oc q3.2) (oc h29) := by rw [o8]; exact frM_c (by decide)
      rcases d1 with ⟨v, y, R9⟩ | ⟨v, y⟩
      · exfalso
        have := y.2.1
        rw [Int32.le_iff_toInt_le, ← v] at this
        rw [Int32.lt_iff_toInt_lt] at c9
        have l0 : (0 : Int32).toInt = 0 := rfl
        omega
      exact ⟨lnR_r (if_neg y) ⟨rfl, e3.trans g1, mS_fr M1 f8 (by decide) (by decide)⟩, frM_tr (frM_le f1 (by decide) (by decide)) (frM_le f8 (by decide) (by decide)), z8.trans z1⟩
    · skip
      cases hf
      -- leaf 11: ((1 : Int32), h29)
      rw [Int32.le_iff_toInt_le] at c3
      rw [Int32.lt_iff_toInt_lt] at c9
      omega
theorem E_X12_readCaught {b : Nat → Int32} {L : Nat} {m : Nat} {T : Nat → Int32 × Int32} {st : Nat → Nat} {en : Nat → Nat} {k : Nat} {W : jWd} {n : Nat} {a0 : Nat} {h : jH} {q : Int32 × jH} (H : tkE b L m T st en) (R : rc (oc h) a0 b L st k) (hW : wl (oc h) a0 = W) (K : wOK W) (hf : F_X12_readCaught n a0 h = some q) : lnR (oc q.2) q.1 a0 b L st (rdNum T k 0 (W 0 - 2) (fun v => upd W (18 + 8 * v.toInt.toNat) 1)) ∧ frM a0 [1] [10, 12] (oc h) (oc q.2) ∧ q.2.1 = h.1 := by
  unfold F_X12_readCaught at hf
  have k0 := K.1
  have M := rc_mS R
  replace hf := jbind hf
  obtain ⟨v3, e1, hf⟩ := hf
  replace e1 := (jcv_o e1).2
  have r1 := E_X12_lastRing M e1
  rw [show wl (oc h) a0 0 = W 0 by rw [hW]] at r1
  subst r1
  have l1 : (1 : Int32).toInt = 1 := rfl
  have l2 : (2 : Int32).toInt = 2 := rfl
  have e2a : (W 0 - 2).toInt = (W 0).toInt - 2 := by rw [jsub (by omega) (by omega)]; rfl
  have e1a : (W 0 - 1).toInt = (W 0).toInt - 1 := by rw [jsub (by omega) (by omega)]; rfl
  have es : (W 0 - 1) - 1 = W 0 - 2 := Int32.toInt_inj.mp (by rw [e2a, jsub (by omega) (by omega), e1a]; omega)
  replace hf := jbind hf
  obtain ⟨q8, e2, hf⟩ := hf
  replace e2 := (jcv_o e2).2
  rw [es] at e2
  obtain ⟨d2, M2, g2, f2, z2⟩ := T_number H (by omega) R e2
  replace hf := jite hf
  rcases hf with ⟨c3, hf⟩ | ⟨c3, hf⟩
  · skip
    replace hf := jbind hf
    obtain ⟨p19, e4, hf⟩ := hf
    have r4 := oc_gR e4
    rw [M2.1] at r4
    cases r4
    clear e4
    replace hf := jbind hf
    obtain ⟨v25, e5, hf⟩ := hf
    rcases d2 with ⟨v, y, R9⟩ | ⟨v, y⟩
    rotate_left
    · rw [v] at c3
      exact absurd c3 (by decide)
    have y2 := y.2.2
    have y1 := y.2.1
    rw [Int32.le_iff_toInt_le] at y1 y2
    have r5 := E_X12_at (i := q8.1.toInt.toNat) (j := 7) (t := 18 + 8 * q8.1.toInt.toNat) (nI_k (by rw [v]; have l0 : (0 : Int32).toInt = 0 := rfl; omega)) rfl (by omega) e5
    subst r5
    replace hf := jbind hf
    obtain ⟨h29, e6, hf⟩ := hf
    obtain ⟨o6, z6, y6⟩ := oc_as e6
    rw [jnar0] at o6
    clear e6
    cases hf
    -- leaf 0: ((1 : Int32), h29)
    rw [nI_cl (by rw [v]; omega), v] at o6
    have f4 : frM a0 [1] [] (oc q8.2) (oc h29) := by rw [o6]; exact frM_c (by decide)
    have w4 : wl (oc h29) a0 = upd W (18 + 8 * (T k).2.toInt.toNat) 1 := by rw [o6, wl_w, wl_f f2 (by decide), hW]
    exact ⟨lnR_l (if_pos y) ⟨rfl, rc_fr R9 f4 (by decide) (by decide) (by decide) (by decide) (by decide), w4⟩, frM_tr (frM_le f2 (by decide) (by decide)) (frM_le f4 (by decide) (by decide)), z6.trans z2⟩
  · skip
    cases hf
    -- leaf 1: ((0 : Int32), q8.2)
    rcases d2 with ⟨v, y, R9⟩ | ⟨v, y⟩
    · exfalso
      have := y.2.1
      rw [Int32.le_iff_toInt_le, ← v] at this
      rw [Int32.le_iff_toInt_le] at c3
      have l0 : (0 : Int32).toInt = 0 := rfl
      omega
    exact ⟨lnR_r (if_neg y) ⟨rfl, g2, M2⟩, (frM_le f2 (by decide) (by decide)), z2⟩
theorem E_X12_readChair {b : Nat → Int32} {L : Nat} {m : Nat} {T : Nat → Int32 × Int32} {st : Nat → Nat} {en : Nat → Nat} {k : Nat} {W : jWd} {n : Nat} {a0 : Nat} {h : jH} {q : Int32 × jH} (H : tkE b L m T st en) (R : rc (oc h) a0 b L st k) (hW : wl (oc h) a0 = W) (hf : F_X12_readChair n a0 h = some q) : lnR (oc q.2) q.1 a0 b L st (rdNum T k 0 31 (fun v => upd W 7 (chV (W 7) v.toInt.toNat 1))) ∧ frM a0 [1] [10, 12] (oc h) (oc q.2) ∧ q.2.1 = h.1 := by
  unfold F_X12_readChair at hf
  replace hf := jbind hf
  obtain ⟨q4, e1, hf⟩ := hf
  replace e1 := (jcv_o e1).2
  obtain ⟨d1, M1, g1, f1, z1⟩ := T_number H (by decide) R e1
  replace hf := jite hf
  rcases hf with ⟨c2, hf⟩ | ⟨c2, hf⟩
  · skip
    replace hf := jbind hf
    obtain ⟨p15, e3, hf⟩ := hf
    have r3 := oc_gR e3
    rw [M1.1] at r3
    cases r3
    clear e3
    replace hf := jbind hf
    obtain ⟨v21, e4, hf⟩ := hf
    obtain ⟨r4, y4⟩ := oc_al e4
    rw [show (7 : Int32).toNatClampNeg = 7 from rfl] at r4
    subst r4
    clear e4
    replace hf := jbind hf
    obtain ⟨h26, e5, hf⟩ := hf
    obtain ⟨o5, z5, y5⟩ := oc_as e5
    rw [jnar0] at o5
    rw [show (7 : Int32).toNatClampNeg = 7 from rfl] at o5
    clear e5
    cases hf
    -- leaf 0: ((1 : Int32), h26)
    rcases d1 with ⟨v, y, R9⟩ | ⟨v, y⟩
    rotate_left
    · rw [v] at c2
      exact absurd c2 (by decide)
    have y2 := y.2.2
    have y1 := y.2.1
    rw [Int32.le_iff_toInt_le] at y1 y2
    have l31 : (31 : Int32).toInt = 31 := rfl
    have l0 : (0 : Int32).toInt = 0 := rfl
    have en : q4.1 = nI q4.1.toInt.toNat := nI_k (by rw [v]; omega)
    have f4 : frM a0 [1] [] (oc q4.2) (oc h26) := by rw [o5]; exact frM_c (by decide)
    have e7 : oi (oc q4.2) (a0 + 1) 7 = W 7 := by rw [← hW, ← wl_f f1 (by decide)]
    have w4 : wl (oc h26) a0 = upd W 7 (chV (W 7) (T k).2.toInt.toNat 1) := by
      rw [o5, wl_w, wl_f f1 (by decide), hW]
      congr 1
      show oi (oc q4.2) (a0 + 1) 7 ||| _ = _
      rw [e7, en, v]
      rfl
    exact ⟨lnR_l (if_pos y) ⟨rfl, rc_fr R9 f4 (by decide) (by decide) (by decide) (by decide) (by decide), w4⟩, frM_tr (frM_le f1 (by decide) (by decide)) (frM_le f4 (by decide) (by decide)), z5.trans z1⟩
  · skip
    cases hf
    -- leaf 1: ((0 : Int32), q4.2)
    rcases d1 with ⟨v, y, R9⟩ | ⟨v, y⟩
    · exfalso
      have := y.2.1
      rw [Int32.le_iff_toInt_le, ← v] at this
      rw [Int32.le_iff_toInt_le] at c2
      have l0 : (0 : Int32).toInt = 0 := rfl
      omega
    exact ⟨lnR_r (if_neg y) ⟨rfl, g1, M1⟩, (frM_le f1 (by decide) (by decide)), z1⟩
theorem E_X12_readPoleLine {b : Nat → Int32} {L : Nat} {m : Nat} {T : Nat → Int32 × Int32} {st : Nat → Nat} {en : Nat → Nat} {k : Nat} {W : jWd} {n : Nat} {a0 : Nat} {h : jH} {q : Int32 × jH} (H : tkE b L m T st en) (R : rw2 (oc h) a0 b L st k) (hW : wl (oc h) a0 = W) (K : wOK W) (hf : F_X12_readPoleLine n a0 h = some q) : lnR (oc q.2) q.1 a0 b L st (rdPole T W k) ∧ frM a0 [1] [10, 12] (oc h) (oc q.2) ∧ q.2.1 = h.1 := by
  unfold F_X12_readPoleLine at hf
  replace hf := jbind hf
  obtain ⟨v3, e1, hf⟩ := hf
  replace e1 := (jcv_o e1).2
  have r1 := T_isWord (w := 0) H (by decide) R e1
  replace hf := jite hf
  rcases hf with ⟨c2, hf⟩ | ⟨c2, hf⟩
  · skip
    replace hf := jbind hf
    obtain ⟨v17, e3, hf⟩ := hf
    replace e3 := (jcv_o e3).2
    have r3 := T_isWord (w := 19) H (by decide) R e3
    replace hf := jite hf
    rcases hf with ⟨c4, hf⟩ | ⟨c4, hf⟩
    · skip
      replace hf := jbind hf
      obtain ⟨v31, e5, hf⟩ := hf
      replace e5 := (jcv_o e5).2
      have r5 := T_isWord (w := 20) H (by decide) R e5
      replace hf := jite hf
      rcases hf with ⟨c6, hf⟩ | ⟨c6, hf⟩
      · skip
        replace hf := jbind hf
        obtain ⟨v45, e7, hf⟩ := hf
        replace e7 := (jcv_o e7).2
        have r7 := T_isWord (w := 21) H (by decide) R e7
        replace hf := jite hf
        rcases hf with ⟨c8, hf⟩ | ⟨c8, hf⟩
        · skip
          replace hf := jbind hf
          obtain ⟨v63, e9, hf⟩ := hf
          replace e9 := (jcv_o e9).2
          have r9 := T_isWord (w := 22) H (by decide) R e9
          replace hf := jite hf
          rcases hf with ⟨c10, hf⟩ | ⟨c10, hf⟩
          · skip
            replace hf := jbind hf
            obtain ⟨v82, e11, hf⟩ := hf
            replace e11 := (jcv_o e11).2
            have r11 := T_isWord (w := 5) H (by decide) R e11
            replace hf := jite hf
            rcases hf with ⟨c12, hf⟩ | ⟨c12, hf⟩
            · skip
              replace hf := jbind hf
              obtain ⟨v100, e13, hf⟩ := hf
              replace e13 := (jcv_o e13).2
              have r13 := T_isWord (w := 6) H (by decide) R e13
              replace hf := jite hf
              rcases hf with ⟨c14, hf⟩ | ⟨c14, hf⟩
              · skip
                cases hf
                -- leaf 0000000: ((0 : Int32), h)
                have n : ∀ w : Nat, w = 0 ∨ w = 19 ∨ w = 20 ∨ w = 21 ∨ w = 22 ∨ w = 5 ∨ w = 6 → (T k).1 ≠ nI w := fun w hw z => by
                  rcases hw with y | y | y | y | y | y | y <;> subst y
                  · exact absurd ((r1.2.mpr z).symm.trans c2) (by decide)
                  · exact absurd ((r3.2.mpr z).symm.trans c4) (by decide)
                  · exact absurd ((r5.2.mpr z).symm.trans c6) (by decide)
                  · exact absurd ((r7.2.mpr z).symm.trans c8) (by decide)
                  · exact absurd ((r9.2.mpr z).symm.trans c10) (by decide)
                  · exact absurd ((r11.2.mpr z).symm.trans c12) (by decide)
                  · exact absurd ((r13.2.mpr z).symm.trans c14) (by decide)
                obtain ⟨e, Rb, -, g⟩ := R
                exact ⟨lnR_r (rdPole_x (n 0 (by decide)) (fun z => by
                  rcases z with y | y | y | y | y | y
                  · exact n 19 (by decide) y
                  · exact n 20 (by decide) y
                  · exact n 21 (by decide) y
                  · exact n 22 (by decide) y
                  · exact n 5 (by decide) y
                  · exact n 6 (by decide) y
                  )) ⟨rfl, g, Rb.1⟩, frM_rfl, rfl⟩
              · skip
                replace hf := jbind hf
                obtain ⟨q112, e15, hf⟩ := hf
                replace e15 := (jcv_o e15).2
                have eT : (T k).1 = nI 6 := r13.2.mp (r13.1.resolve_left c14)
                have R1 := rw_n H (by decide) R eT
                obtain ⟨d15, f15, z15⟩ := E_X12_readNumber (i := 4) H R1 hW (by decide) rfl (by decide) (by decide) e15
                replace hf := jite hf
                rcases hf with ⟨c16, hf⟩ | ⟨c16, hf⟩
                · skip
                  cases hf
                  -- leaf 00000010: ((0 : Int32), q112.2)
                  rw [rdPole_n (w := 6) eT (Or.inr (Or.inr (Or.inr (Or.inr (Or.inr rfl)))))]
                  rw [c16] at d15
                  exact ⟨d15, f15, z15⟩
                · skip
                  cases hf
                  -- leaf 00000011: ((1 : Int32), q112.2)
                  rw [rdPole_n (w := 6) eT (Or.inr (Or.inr (Or.inr (Or.inr (Or.inr rfl)))))]
                  have : q112.1 = 1 := by
                    rcases hR : rdNum T (k + 1) 0 999 (fun v => upd W 4 v) with p | f
                    · exact (d15.1 p hR).1
                    · exact absurd (d15.2 f hR).1 c16
                  rw [this] at d15
                  exact ⟨d15, f15, z15⟩
            · skip
              replace hf := jbind hf
              obtain ⟨q93, e17, hf⟩ := hf
              replace e17 := (jcv_o e17).2
              have eT : (T k).1 = nI 5 := r11.2.mp (r11.1.resolve_left c12)
              have R1 := rw_n H (by decide) R eT
              obtain ⟨d17, f17, z17⟩ := E_X12_readNumber (i := 3) H R1 hW (by decide) rfl (by decide) (by decide) e17
              replace hf := jite hf
              rcases hf with ⟨c18, hf⟩ | ⟨c18, hf⟩
              · skip
                cases hf
                -- leaf 0000010: (q93.1, q93.2)
                rw [rdPole_n (w := 5) eT (Or.inr (Or.inr (Or.inr (Or.inr (Or.inl rfl)))))]
                exact ⟨d17, f17, z17⟩
              · skip
                cases hf
          · skip
            replace hf := jbind hf
            obtain ⟨q75, e19, hf⟩ := hf
            replace e19 := (jcv_o e19).2
            have eT : (T k).1 = nI 22 := r9.2.mp (r9.1.resolve_left c10)
            have R1 := rw_n H (by decide) R eT
            obtain ⟨d19, f19, z19⟩ := E_X12_readNumber (i := 6) H R1 hW (by decide) rfl (by decide) (by decide) e19
            replace hf := jite hf
            rcases hf with ⟨c20, hf⟩ | ⟨c20, hf⟩
            · skip
              cases hf
              -- leaf 000010: (q75.1, q75.2)
              rw [rdPole_n (w := 22) eT (Or.inr (Or.inr (Or.inr (Or.inl rfl))))]
              exact ⟨d19, f19, z19⟩
            · skip
              cases hf
        · skip
          replace hf := jbind hf
          obtain ⟨q56, e21, hf⟩ := hf
          replace e21 := (jcv_o e21).2
          have eT : (T k).1 = nI 21 := r7.2.mp (r7.1.resolve_left c8)
          have R1 := rw_n H (by decide) R eT
          obtain ⟨d21, f21, z21⟩ := E_X12_readNumber (i := 5) H R1 hW (by decide) rfl (by decide) (by decide) e21
          replace hf := jite hf
          rcases hf with ⟨c22, hf⟩ | ⟨c22, hf⟩
          · skip
            cases hf
            -- leaf 00010: (q56.1, q56.2)
            rw [rdPole_n (w := 21) eT (Or.inr (Or.inr (Or.inl rfl)))]
            exact ⟨d21, f21, z21⟩
          · skip
            cases hf
      · skip
        replace hf := jbind hf
        obtain ⟨q38, e23, hf⟩ := hf
        replace e23 := (jcv_o e23).2
        have eT : (T k).1 = nI 20 := r5.2.mp (r5.1.resolve_left c6)
        have R1 := rw_n H (by decide) R eT
        obtain ⟨d23, f23, z23⟩ := E_X12_readChair H R1 hW e23
        replace hf := jite hf
        rcases hf with ⟨c24, hf⟩ | ⟨c24, hf⟩
        · skip
          cases hf
          -- leaf 0010: (q38.1, q38.2)
          rw [rdPole_n (w := 20) eT (Or.inr (Or.inl rfl))]
          exact ⟨d23, f23, z23⟩
        · skip
          cases hf
    · skip
      replace hf := jbind hf
      obtain ⟨q24, e25, hf⟩ := hf
      replace e25 := (jcv_o e25).2
      have eT : (T k).1 = nI 19 := r3.2.mp (r3.1.resolve_left c4)
      have R1 := rw_n H (by decide) R eT
      obtain ⟨d25, f25, z25⟩ := E_X12_readCaught H R1 hW K e25
      replace hf := jite hf
      rcases hf with ⟨c26, hf⟩ | ⟨c26, hf⟩
      · skip
        cases hf
        -- leaf 010: (q24.1, q24.2)
        rw [rdPole_n (w := 19) eT (Or.inl rfl)]
        exact ⟨d25, f25, z25⟩
      · skip
        cases hf
  · skip
    replace hf := jbind hf
    obtain ⟨q10, e27, hf⟩ := hf
    replace e27 := (jcv_o e27).2
    have eT : (T k).1 = nI 0 := r1.2.mp (r1.1.resolve_left c2)
    have R1 := rw_n H (by decide) R eT
    obtain ⟨d27, f27, z27⟩ := E_X12_readRing H R hW K eT e27
    replace hf := jite hf
    rcases hf with ⟨c28, hf⟩ | ⟨c28, hf⟩
    · skip
      cases hf
      -- leaf 10: (q10.1, q10.2)
      unfold rdPole
      rw [if_pos (show (T k).1 = 0 from eT)]
      exact ⟨d27, f27, z27⟩
    · skip
      cases hf
