/-! sew, the reference -/
theorem cN_lt {W : jWd} (K : wOK W) (h : ¬ W 0 = 8) : cN W < 8 := by
  have k := K.1
  have n8 : (W 0).toInt ≠ 8 := fun z => h (nI_k (k := 8) z)
  unfold cN
  omega
theorem E_X12_sew_70 {W : jWd} {r : Nat} {n : Nat} {a0 : Nat} {x1 : Int32} {x2 : Int32} {sa0 : Nat} {s1 : Int32} {h : jH} {q : Int32 × jH} (M : mS (oc h) a0) (hW : wl (oc h) a0 = W) (K : wOK W) (h7 : oi (oc h) a0 7 = nI r) (hr : r ≤ 12) (z0 : oi (oc h) a0 0 = 0) (hs : a0 = sa0) (h01 : s1 = 0 ∨ s1 = 1) (hc : s1 = 0 → cN W < 8) (hf : F_X12_sew_70 n a0 x1 x2 sa0 s1 h = some q) : (s1 = 1 ∧ q.1 = 0 ∧ rTh a0 3 h q.2) ∨ (s1 = 0 ∧ q.1 = hgW W x1 x2 0 - 1 ∧ rAct a0 r (hgW W x1 x2) h q.2) := by
  unfold F_X12_sew_70 at hf
  subst hs
  replace hf := jbind hf
  obtain ⟨q71, e1, hf⟩ := hf
  replace e1 := (jcv_o e1).2
  have r1 := E_X12_throwsIf h01 e1
  replace hf := jite hf
  rcases hf with ⟨c2, hf⟩ | ⟨c2, hf⟩
  · skip
    replace hf := jbind hf
    obtain ⟨h80, e3, hf⟩ := hf
    replace e3 := (jcv_o e3).2
    have s0 : s1 = 0 := by
      rcases r1 with ⟨y, -, -⟩ | ⟨-, y, -⟩
      · exact y
      · exact absurd (y.symm.trans c2) (by decide)
    have hq : q71.2 = h := by
      rcases r1 with ⟨-, -, y⟩ | ⟨-, y, -⟩
      · exact y
      · exact absurd (y.symm.trans c2) (by decide)
    rw [hq] at e3
    have R3 : rRM a0 r h h80 := E_X12_remembers M h7 hr e3
    have M3 : mS (oc h80) a0 := mS_fr M R3.2.2.2.1 (by decide) (by decide)
    obtain ⟨t1, t2, t3, t4, t5, t8, t15, t17, t19, t20, t21⟩ := id M3
    have w3 : wl (oc h80) a0 = W := (wl_f R3.2.2.2.1 (by decide)).trans hW
    replace hf := jbind hf
    obtain ⟨h86, e4, hf⟩ := hf
    replace e4 := (jcv_o e4).2
    obtain ⟨G1, G2, G3⟩ := E_X12_hangs M3 w3 K (hc s0) e4
    have M4 : mS (oc h86) a0 := mS_fr M3 G2 (by decide) (by decide)
    replace hf := jbind hf
    obtain ⟨v90, e5, hf⟩ := hf
    replace e5 := (jcv_o e5).2
    have r5 := E_X12_lastRing M4 e5
    rw [G1] at r5
    cases hf
    -- leaf 0: (v90, h86)
    exact Or.inr ⟨s0, r5, rAct_mk z0 R3 (f1 G2) G1 G3⟩
  · skip
    cases hf
    -- leaf 1: ((0 : Int32), q71.2)
    rcases r1 with ⟨-, y, -⟩ | ⟨s, -, T⟩
    · exact absurd y c2
    · exact Or.inl ⟨s, rfl, T⟩
theorem E_X12_sew_33 {W : jWd} {r : Nat} {n : Nat} {a0 : Nat} {x1 : Int32} {x2 : Int32} {sa0 : Nat} {s1 : Int32} {h : jH} {q : Int32 × jH} (M : mS (oc h) a0) (hW : wl (oc h) a0 = W) (K : wOK W) (h7 : oi (oc h) a0 7 = nI r) (hr : r ≤ 12) (z0 : oi (oc h) a0 0 = 0) (hs : a0 = sa0) (h01 : s1 = 0 ∨ s1 = 1) (hf : F_X12_sew_33 n a0 x1 x2 sa0 s1 h = some q) : (s1 = 1 ∧ q.1 = 0 ∧ rTh a0 2 h q.2) ∨ (s1 = 0 ∧ ((¬ canS W x1 ∧ q.1 = 0 ∧ rTh a0 3 h q.2) ∨ (canS W x1 ∧ q.1 = hgW W x1 x2 0 - 1 ∧ rAct a0 r (hgW W x1 x2) h q.2))) := by
  unfold F_X12_sew_33 at hf
  subst hs
  replace hf := jbind hf
  obtain ⟨q34, e1, hf⟩ := hf
  replace e1 := (jcv_o e1).2
  have r1 := E_X12_throwsIf h01 e1
  replace hf := jite hf
  rcases hf with ⟨c2, hf⟩ | ⟨c2, hf⟩
  · skip
    replace hf := jbind hf
    obtain ⟨v42, e3, hf⟩ := hf
    replace e3 := (jcv_o e3).2
    have s0 : s1 = 0 := by
      rcases r1 with ⟨y, -, -⟩ | ⟨-, y, -⟩
      · exact y
      · exact absurd (y.symm.trans c2) (by decide)
    have hq : q34.2 = h := by
      rcases r1 with ⟨-, -, y⟩ | ⟨-, y, -⟩
      · exact y
      · exact absurd (y.symm.trans c2) (by decide)
    rw [hq] at e3
    have r3 := E_X12_rings M e3
    rw [hW] at r3
    replace hf := jite hf
    rcases hf with ⟨c4, hf⟩ | ⟨c4, hf⟩
    · skip
      -- leaf 00: F_X12_sew_70 n a0 x1 x2 a0 (1 : Int32) q34.2
      rw [hq] at hf
      rcases E_X12_sew_70 M hW K h7 hr z0 rfl (Or.inr rfl) (fun z => absurd z (by decide)) hf with ⟨-, b, T⟩ | ⟨s, -⟩
      · exact Or.inr ⟨s0, Or.inl ⟨fun z => z.1 (r3.symm.trans c4), b, T⟩⟩
      · exact absurd s (by decide)
    · skip
      replace hf := jbind hf
      obtain ⟨v52, e5, hf⟩ := hf
      replace e5 := (jcv_o e5).2
      rw [hq] at e5
      have r5 := E_X12_leastPlace M hW K e5
      replace hf := jbind hf
      obtain ⟨v56, e6, hf⟩ := hf
      replace e6 := (jcv_o e6).2
      rw [hq] at e6
      have r6 := E_X12_mostPlace M hW K e6
      replace hf := jbind hf
      obtain ⟨v59, e7, hf⟩ := hf
      have r7 := E_X12_in e7
      replace hf := jite hf
      rcases hf with ⟨c8, hf⟩ | ⟨c8, hf⟩
      · skip
        -- leaf 010: F_X12_sew_70 n a0 x1 x2 a0 (1 : Int32) q34.2
        rw [hq] at hf
        rcases E_X12_sew_70 M hW K h7 hr z0 rfl (Or.inr rfl) (fun z => absurd z (by decide)) hf with ⟨-, b, T⟩ | ⟨s, -⟩
        · exact Or.inr ⟨s0, Or.inl ⟨fun z => absurd ((r7.2.mpr ⟨by rw [r5]; exact z.2.1, by rw [r6]; exact z.2.2⟩).symm.trans c8) (by decide), b, T⟩⟩
        · exact absurd s (by decide)
      · skip
        -- leaf 011: F_X12_sew_70 n a0 x1 x2 a0 (0 : Int32) q34.2
        rw [hq] at hf
        have y := r7.2.mp (r7.1.resolve_left c8)
        rw [r5, r6] at y
        have n8 : ¬ W 0 = 8 := fun z => c4 (r3.trans z)
        rcases E_X12_sew_70 M hW K h7 hr z0 rfl (Or.inl rfl) (fun _ => cN_lt K n8) hf with ⟨s, -⟩ | ⟨-, b, A⟩
        · exact absurd s (by decide)
        · exact Or.inr ⟨s0, Or.inr ⟨⟨n8, y⟩, b, A⟩⟩
  · skip
    cases hf
    -- leaf 1: ((0 : Int32), q34.2)
    rcases r1 with ⟨-, y, -⟩ | ⟨s, -, T⟩
    · exact absurd y c2
    · exact Or.inl ⟨s, rfl, T⟩
theorem E_X12_sew {W : jWd} {r : Nat} {n : Nat} {a0 : Nat} {x1 : Int32} {x2 : Int32} {h : jH} {q : Int32 × jH} (M : mS (oc h) a0) (hW : wl (oc h) a0 = W) (K : wOK W) (h7 : oi (oc h) a0 7 = nI r) (hr : r ≤ 12) (hf : F_X12_sew n a0 x1 x2 h = some q) : (¬ (0 ≤ x1.toInt ∧ x1.toInt ≤ 31) ∧ q.1 = 0 ∧ rTh a0 1 h q.2) ∨ ((0 ≤ x1.toInt ∧ x1.toInt ≤ 31) ∧ ((¬ (1 ≤ x2.toInt ∧ x2.toInt ≤ 9) ∧ q.1 = 0 ∧ rTh a0 2 h q.2) ∨ ((1 ≤ x2.toInt ∧ x2.toInt ≤ 9) ∧ ((¬ canS W x1 ∧ q.1 = 0 ∧ rTh a0 3 h q.2) ∨ (canS W x1 ∧ q.1 = hgW W x1 x2 0 - 1 ∧ rAct a0 r (hgW W x1 x2) h q.2))))) := by
  unfold F_X12_sew at hf
  replace hf := jbind hf
  obtain ⟨h2, e1, hf⟩ := hf
  obtain ⟨o1, z1⟩ := oc_pf e1
  clear e1
  replace hf := jbind hf
  obtain ⟨v7, e2, hf⟩ := hf
  have T1 : rTh a0 0 h h2 := ⟨by rw [o1, oi_eq], by rw [o1]; exact frM_f (by decide), z1⟩
  obtain ⟨M1, w1, g1⟩ := rTh_W T1 M hW h7
  have r2 := E_X12_noPlace e2
  replace hf := jbind hf
  obtain ⟨q11, e3, hf⟩ := hf
  replace e3 := (jcv_o e3).2
  have r3 := E_X12_throwsIf r2.1 e3
  replace hf := jite hf
  rcases hf with ⟨c4, hf⟩ | ⟨c4, hf⟩
  · skip
    replace hf := jbind hf
    obtain ⟨v22, e5, hf⟩ := hf
    have r5 := E_X12_in e5
    replace hf := jite hf
    rcases hf with ⟨c6, hf⟩ | ⟨c6, hf⟩
    · skip
      -- leaf 00: F_X12_sew_33 n a0 x1 x2 a0 (1 : Int32) q11.2
      have hq : q11.2 = h2 := by
        rcases r3 with ⟨-, -, y⟩ | ⟨-, y, -⟩
        · exact y
        · exact absurd (y.symm.trans c4) (by decide)
      have hv : v7 = 0 := by
        rcases r3 with ⟨y, -, -⟩ | ⟨-, y, -⟩
        · exact y
        · exact absurd (y.symm.trans c4) (by decide)
      have P : (0 ≤ x1.toInt ∧ x1.toInt ≤ 31) := Classical.byContradiction fun z => absurd ((r2.2.mpr z).symm.trans hv) (by decide)
      have l1 : (1 : Int32).toInt = 1 := rfl
      have l9 : (9 : Int32).toInt = 9 := rfl
      rw [l1, l9] at r5
      rw [hq] at hf
      rcases E_X12_sew_33 M1 w1 K g1 hr T1.1 rfl (Or.inr rfl) hf with ⟨-, b, T⟩ | ⟨s, -⟩
      · exact Or.inr ⟨P, Or.inl ⟨fun z => absurd ((r5.2.mpr z).symm.trans c6) (by decide), b, rTh_tr T1 T⟩⟩
      · exact absurd s (by decide)
    · skip
      -- leaf 01: F_X12_sew_33 n a0 x1 x2 a0 (0 : Int32) q11.2
      have hq : q11.2 = h2 := by
        rcases r3 with ⟨-, -, y⟩ | ⟨-, y, -⟩
        · exact y
        · exact absurd (y.symm.trans c4) (by decide)
      have hv : v7 = 0 := by
        rcases r3 with ⟨y, -, -⟩ | ⟨-, y, -⟩
        · exact y
        · exact absurd (y.symm.trans c4) (by decide)
      have P : (0 ≤ x1.toInt ∧ x1.toInt ≤ 31) := Classical.byContradiction fun z => absurd ((r2.2.mpr z).symm.trans hv) (by decide)
      have l1 : (1 : Int32).toInt = 1 := rfl
      have l9 : (9 : Int32).toInt = 9 := rfl
      rw [l1, l9] at r5
      rw [hq] at hf
      rcases E_X12_sew_33 M1 w1 K g1 hr T1.1 rfl (Or.inl rfl) hf with ⟨s, -⟩ | ⟨-, y⟩
      · exact absurd s (by decide)
      refine Or.inr ⟨P, Or.inr ⟨r5.2.mp (r5.1.resolve_left c6), ?_⟩⟩
      rcases y with ⟨a, b, T⟩ | ⟨a, b, A⟩
      · exact Or.inl ⟨a, b, rTh_tr T1 T⟩
      · exact Or.inr ⟨a, b, rAct_tr T1 A⟩
  · skip
    cases hf
    -- leaf 1: ((0 : Int32), q11.2)
    rcases r3 with ⟨-, y, -⟩ | ⟨s, -, T⟩
    · exact absurd y c4
    · exact Or.inl ⟨r2.2.mp s, rfl, rTh_tr T1 T⟩
