section
/-! acts of the reference: let, free, snag, seed, hook, chair -/
theorem ring_next {W : jWd} {i : Nat} (K : wOK W) (hi : (i : Int) < (W 0).toInt) (h : W (18 + 8 * i) = 1) : (i : Int) + 1 < (W 0).toInt := by
  obtain ⟨-, -, -, k4, -⟩ := K
  by_cases e : (i : Int) + 1 = (W 0).toInt
  · exact absurd ((k4 i e).symm.trans h) (by decide)
  · omega
theorem gap_ct {W : jWd} {m i : Nat} {O : jO} {x v : Int32} (w : wl O m = upd W (18 + 8 * i) x) (hn : (i : Int) + 1 < (W 0).toInt) (h : v = if (i : Int) + 1 < (wl O m 0).toInt then wl O m (11 + 8 * (i + 1)) - wl O m (11 + 8 * i) else 99) : v = W (11 + 8 * (i + 1)) - W (11 + 8 * i) := by
  rw [h, w, upd_n (by omega), if_pos hn, upd_n (by omega), upd_n (by omega)]
theorem bool_eq {v w : Int32} (a : v = 0 ∨ v = 1) (b : v = 1 ↔ w = 1) (c : w = 0 ∨ w = 1) : v = w := by
  rcases a with a | a
  · rcases c with c | c
    · rw [a, c]
    · exact absurd (a.symm.trans (b.mpr c)) (by decide)
  · rw [a, b.mp a]
/-- a chair put or taken -/
def chV (v : Int32) (k : Nat) (x : Int32) : Int32 := if x = 0 then v &&& (((1 : Int32) <<< (nI k &&& 31)) ^^^ (-1 : Int32)) else v ||| ((1 : Int32) <<< (nI k &&& 31))
theorem chr_eq {v : Int32} {k : Nat} (hk : k < 32) : (v &&& (((1 : Int32) <<< (nI k &&& 31)) ^^^ (-1 : Int32))) ||| ((1 : Int32) <<< (nI k &&& 31)) = v ||| ((1 : Int32) <<< (nI k &&& 31)) := b_ext fun i hi => by
  rw [b_set hk hi, b_clr hk hi, b_set hk hi]
  by_cases e : i = k <;> simp [e]
theorem chV_ans {v x b : Int32} {k : Nat} (hk : k < 32) (hx : x = 0 ∨ x = 1) (r : (b = 0 ∨ b = 1) ∧ (b = 1 ↔ bt v k = true)) : chV v k x = v ↔ b = x := by
  rcases hx with rfl | rfl
  · unfold chV
    rw [if_pos rfl]
    constructor
    · intro e
      refine r.1.resolve_right fun z => ?_
      have y := r.2.mp z
      rw [← e, b_clr hk hk] at y
      simp at y
    · intro e
      refine b_ext fun i hi => ?_
      rw [b_clr hk hi]
      by_cases w : i = k
      · subst w
        have nb : bt v i = false := by
          cases z : bt v i
          · rfl
          · exact absurd ((r.2.mpr z).symm.trans e) (by decide)
        rw [nb]; rfl
      · simp [w]
  · unfold chV
    rw [if_neg (by decide)]
    constructor
    · intro e
      refine r.2.mpr ?_
      rw [← e, b_set hk hk]
      simp
    · intro e
      have y := r.2.mp e
      refine b_ext fun i hi => ?_
      rw [b_set hk hi]
      by_cases w : i = k
      · subst w; rw [y]; rfl
      · simp [w]
theorem i_place {x : Int32} (h : 0 ≤ x.toInt ∧ x.toInt ≤ 31) : ∃ i : Nat, i < 32 ∧ x = nI i := ⟨x.toInt.toNat, by omega, nI_k (by omega)⟩
theorem E_X12_let {W : jWd} {r : Nat} {n : Nat} {a0 : Nat} {x1 : Int32} {x2 : Int32} {h : jH} {q : Int32 × jH} (M : mS (oc h) a0) (hW : wl (oc h) a0 = W) (K : wOK W) (h7 : oi (oc h) a0 7 = nI r) (hr : r ≤ 12) (hf : F_X12_let n a0 x1 x2 h = some q) : (¬ (0 ≤ x1.toInt ∧ x1.toInt < (W 0).toInt) ∧ q.1 = 0 ∧ rTh a0 1 h q.2) ∨ ∃ i : Nat, i < 8 ∧ x1 = nI i ∧ (i : Int) < (W 0).toInt ∧ ((¬ (0 ≤ x2.toInt ∧ x2.toInt ≤ 9) ∧ q.1 = 0 ∧ rTh a0 2 h q.2) ∨ ((0 ≤ x2.toInt ∧ x2.toInt ≤ 9) ∧ q.1 = W (16 + 8 * i) ∧ rAct a0 r (upd W (16 + 8 * i) x2) h q.2)) := by
  unfold F_X12_let at hf
  replace hf := jbind hf
  obtain ⟨h2, e1, hf⟩ := hf
  obtain ⟨o1, z1⟩ := oc_pf e1
  clear e1
  replace hf := jbind hf
  obtain ⟨v8, e2, hf⟩ := hf
  replace e2 := (jcv_o e2).2
  have T1 : rTh a0 0 h h2 := ⟨by rw [o1, oi_eq], by rw [o1]; exact frM_f (by decide), z1⟩
  obtain ⟨M1, w1, g1⟩ := rTh_W T1 M hW h7
  have r2 := E_X12_noRing M1 w1 K e2
  replace hf := jbind hf
  obtain ⟨q12, e3, hf⟩ := hf
  replace e3 := (jcv_o e3).2
  have r3 := E_X12_throwsIf r2.1 e3
  replace hf := jite hf
  rcases hf with ⟨c4, hf⟩ | ⟨c4, hf⟩
  · skip
    replace hf := jbind hf
    obtain ⟨v23, e5, hf⟩ := hf
    have r5 := E_X12_in e5
    replace hf := jite hf
    rcases hf with ⟨c6, hf⟩ | ⟨c6, hf⟩
    · skip
      -- leaf 00: F_X12_let_34 n a0 x1 x2 a0 (1 : Int32) q12.2
      have hq : q12.2 = h2 := by
        rcases r3 with ⟨-, -, y⟩ | ⟨-, y, -⟩
        · exact y
        · exact absurd (y.symm.trans c4) (by decide)
      have hv : v8 = 0 := by
        rcases r3 with ⟨y, -, -⟩ | ⟨-, y, -⟩
        · exact y
        · exact absurd (y.symm.trans c4) (by decide)
      obtain ⟨i, h8, hi, hi0⟩ := i_ring K (Classical.byContradiction fun z => absurd ((r2.2.mpr z).symm.trans hv) (by decide))
      have l0 : (0 : Int32).toInt = 0 := rfl
      have l9 : (9 : Int32).toInt = 9 := rfl
      rw [l0, l9] at r5
      rw [hq] at hf
      refine Or.inr ⟨i, h8, hi, hi0, ?_⟩
      rcases E_X12_let_34 (W := W) (r := r) (i := i) M1 w1 K g1 hr T1.1 rfl (Or.inr rfl) hi h8 hf with ⟨-, b, T⟩ | ⟨s, -, -⟩
      · exact Or.inl ⟨fun z => absurd ((r5.2.mpr z).symm.trans c6) (by decide), b, rTh_tr T1 T⟩
      · exact absurd s (by decide)
    · skip
      -- leaf 01: F_X12_let_34 n a0 x1 x2 a0 (0 : Int32) q12.2
      have hq : q12.2 = h2 := by
        rcases r3 with ⟨-, -, y⟩ | ⟨-, y, -⟩
        · exact y
        · exact absurd (y.symm.trans c4) (by decide)
      have hv : v8 = 0 := by
        rcases r3 with ⟨y, -, -⟩ | ⟨-, y, -⟩
        · exact y
        · exact absurd (y.symm.trans c4) (by decide)
      obtain ⟨i, h8, hi, hi0⟩ := i_ring K (Classical.byContradiction fun z => absurd ((r2.2.mpr z).symm.trans hv) (by decide))
      have l0 : (0 : Int32).toInt = 0 := rfl
      have l9 : (9 : Int32).toInt = 9 := rfl
      rw [l0, l9] at r5
      rw [hq] at hf
      refine Or.inr ⟨i, h8, hi, hi0, ?_⟩
      rcases E_X12_let_34 (W := W) (r := r) (i := i) M1 w1 K g1 hr T1.1 rfl (Or.inl rfl) hi h8 hf with ⟨s, -, -⟩ | ⟨-, b, A⟩
      · exact absurd s (by decide)
      · exact Or.inr ⟨r5.2.mp (r5.1.resolve_left c6), b, rAct_tr T1 A⟩
  · skip
    cases hf
    -- leaf 1: ((0 : Int32), q12.2)
    rcases r3 with ⟨-, y, -⟩ | ⟨s, -, T⟩
    · exact absurd y c4
    · exact Or.inl ⟨r2.2.mp s, rfl, rTh_tr T1 T⟩
theorem E_X12_free_34 {W : jWd} {r : Nat} {i : Nat} {n : Nat} {a0 : Nat} {x1 : Int32} {sa0 : Nat} {s1 : Int32} {h : jH} {q : Int32 × jH} (M : mS (oc h) a0) (hW : wl (oc h) a0 = W) (K : wOK W) (h7 : oi (oc h) a0 7 = nI r) (hr : r ≤ 12) (z0 : oi (oc h) a0 0 = 0) (hs : a0 = sa0) (h01 : s1 = 0 ∨ s1 = 1) (hi : x1 = nI i) (h8 : i < 8) (hn : s1 = 0 → (i : Int) + 1 < (W 0).toInt) (hf : F_X12_free_34 n a0 x1 sa0 s1 h = some q) : (s1 = 1 ∧ q.1 = 0 ∧ rTh a0 2 h q.2) ∨ (s1 = 0 ∧ q.1 = W (11 + 8 * (i + 1)) - W (11 + 8 * i) ∧ rAct a0 r (upd W (18 + 8 * i) 0) h q.2) := by
  unfold F_X12_free_34 at hf
  subst hs
  replace hf := jbind hf
  obtain ⟨q35, e1, hf⟩ := hf
  replace e1 := (jcv_o e1).2
  have r1 := E_X12_throwsIf h01 e1
  replace hf := jite hf
  rcases hf with ⟨c2, hf⟩ | ⟨c2, hf⟩
  · skip
    replace hf := jbind hf
    obtain ⟨h44, e3, hf⟩ := hf
    replace e3 := (jcv_o e3).2
    have hq : q35.2 = h := by
      rcases r1 with ⟨-, -, y⟩ | ⟨-, y, -⟩
      · exact y
      · exact absurd (y.symm.trans c2) (by decide)
    rw [hq] at e3
    have R3 : rRM a0 r h h44 := E_X12_remembers M h7 hr e3
    have M3 : mS (oc h44) a0 := mS_fr M R3.2.2.2.1 (by decide) (by decide)
    obtain ⟨t1, t2, t3, t4, t5, t8, t15, t17, t19, t20, t21⟩ := id M3
    have w3 : wl (oc h44) a0 = W := (wl_f R3.2.2.2.1 (by decide)).trans hW
    replace hf := jbind hf
    obtain ⟨p48, e4, hf⟩ := hf
    have r4 := oc_gR e4
    rw [t1] at r4
    cases r4
    clear e4
    replace hf := jbind hf
    obtain ⟨v54, e5, hf⟩ := hf
    have r5 := E_X12_at (i := i) (j := 7) (t := 18 + 8 * i) hi rfl (by omega) e5
    replace hf := jbind hf
    obtain ⟨h58, e6, hf⟩ := hf
    obtain ⟨o6, z6, y6⟩ := oc_as e6
    rw [jnar0] at o6
    clear e6
    replace hf := jbind hf
    obtain ⟨v61, e7, hf⟩ := hf
    replace e7 := (jcv_o e7).2
    cases hf
    -- leaf 0: (v61, h58)
    rcases r1 with ⟨s, -, -⟩ | ⟨-, y, -⟩
    · have hn := hn s
      rw [r5, nI_cl (by omega)] at o6
      have f7 : frM a0 [1, 8] [] (oc h44) (oc h58) := by rw [o6]; exact frM_c (by decide)
      have w7 : wl (oc h58) a0 = upd W (18 + 8 * i) 0 := by rw [o6, wl_w, w3]
      have K7 : wOK (wl (oc h58) a0) := by rw [w7]; exact wOK_ct K (Or.inl rfl)
      have g7 := gap_ct w7 hn (E_X12_gapOf (mS_fr M3 f7 (by decide) (by decide)) K7 hi (by rw [w7, upd_n (by omega)]; omega) e7)
      exact Or.inr ⟨s, g7, rAct_mk z0 R3 f7 w7 z6⟩
    · exact absurd (y.symm.trans c2) (by decide)
  · skip
    cases hf
    -- leaf 1: ((0 : Int32), q35.2)
    rcases r1 with ⟨-, y, -⟩ | ⟨s, -, T⟩
    · exact absurd y c2
    · exact Or.inl ⟨s, rfl, T⟩
theorem E_X12_snag_42 {W : jWd} {r : Nat} {i : Nat} {n : Nat} {a0 : Nat} {x1 : Int32} {sa0 : Nat} {s1 : Int32} {h : jH} {q : Int32 × jH} (M : mS (oc h) a0) (hW : wl (oc h) a0 = W) (K : wOK W) (h7 : oi (oc h) a0 7 = nI r) (hr : r ≤ 12) (z0 : oi (oc h) a0 0 = 0) (hs : a0 = sa0) (h01 : s1 = 0 ∨ s1 = 1) (hi : x1 = nI i) (h8 : i < 8) (hn : s1 = 0 → (i : Int) + 1 < (W 0).toInt) (hf : F_X12_snag_42 n a0 x1 sa0 s1 h = some q) : (s1 = 1 ∧ q.1 = 0 ∧ rTh a0 2 h q.2) ∨ (s1 = 0 ∧ q.1 = W (11 + 8 * (i + 1)) - W (11 + 8 * i) ∧ rAct a0 r (upd W (18 + 8 * i) 1) h q.2) := by
  unfold F_X12_snag_42 at hf
  subst hs
  replace hf := jbind hf
  obtain ⟨q43, e1, hf⟩ := hf
  replace e1 := (jcv_o e1).2
  have r1 := E_X12_throwsIf h01 e1
  replace hf := jite hf
  rcases hf with ⟨c2, hf⟩ | ⟨c2, hf⟩
  · skip
    replace hf := jbind hf
    obtain ⟨h52, e3, hf⟩ := hf
    replace e3 := (jcv_o e3).2
    have hq : q43.2 = h := by
      rcases r1 with ⟨-, -, y⟩ | ⟨-, y, -⟩
      · exact y
      · exact absurd (y.symm.trans c2) (by decide)
    rw [hq] at e3
    have R3 : rRM a0 r h h52 := E_X12_remembers M h7 hr e3
    have M3 : mS (oc h52) a0 := mS_fr M R3.2.2.2.1 (by decide) (by decide)
    obtain ⟨t1, t2, t3, t4, t5, t8, t15, t17, t19, t20, t21⟩ := id M3
    have w3 : wl (oc h52) a0 = W := (wl_f R3.2.2.2.1 (by decide)).trans hW
    replace hf := jbind hf
    obtain ⟨p56, e4, hf⟩ := hf
    have r4 := oc_gR e4
    rw [t1] at r4
    cases r4
    clear e4
    replace hf := jbind hf
    obtain ⟨v62, e5, hf⟩ := hf
    have r5 := E_X12_at (i := i) (j := 7) (t := 18 + 8 * i) hi rfl (by omega) e5
    replace hf := jbind hf
    obtain ⟨h66, e6, hf⟩ := hf
    obtain ⟨o6, z6, y6⟩ := oc_as e6
    rw [jnar0] at o6
    clear e6
    replace hf := jbind hf
    obtain ⟨v69, e7, hf⟩ := hf
    replace e7 := (jcv_o e7).2
    cases hf
    -- leaf 0: (v69, h66)
    rcases r1 with ⟨s, -, -⟩ | ⟨-, y, -⟩
    · have hn := hn s
      rw [r5, nI_cl (by omega)] at o6
      have f7 : frM a0 [1, 8] [] (oc h52) (oc h66) := by rw [o6]; exact frM_c (by decide)
      have w7 : wl (oc h66) a0 = upd W (18 + 8 * i) 1 := by rw [o6, wl_w, w3]
      have K7 : wOK (wl (oc h66) a0) := by rw [w7]; exact wOK_ct K (Or.inr ⟨rfl, hn⟩)
      have g7 := gap_ct w7 hn (E_X12_gapOf (mS_fr M3 f7 (by decide) (by decide)) K7 hi (by rw [w7, upd_n (by omega)]; omega) e7)
      exact Or.inr ⟨s, g7, rAct_mk z0 R3 f7 w7 z6⟩
    · exact absurd (y.symm.trans c2) (by decide)
  · skip
    cases hf
    -- leaf 1: ((0 : Int32), q43.2)
    rcases r1 with ⟨-, y, -⟩ | ⟨s, -, T⟩
    · exact absurd y c2
    · exact Or.inl ⟨s, rfl, T⟩
theorem E_X12_free {W : jWd} {r : Nat} {n : Nat} {a0 : Nat} {x1 : Int32} {h : jH} {q : Int32 × jH} (M : mS (oc h) a0) (hW : wl (oc h) a0 = W) (K : wOK W) (h7 : oi (oc h) a0 7 = nI r) (hr : r ≤ 12) (hf : F_X12_free n a0 x1 h = some q) : (¬ (0 ≤ x1.toInt ∧ x1.toInt < (W 0).toInt) ∧ q.1 = 0 ∧ rTh a0 1 h q.2) ∨ ∃ i : Nat, i < 8 ∧ x1 = nI i ∧ (i : Int) < (W 0).toInt ∧ ((W (18 + 8 * i) ≠ 1 ∧ q.1 = 0 ∧ rTh a0 2 h q.2) ∨ (¬ (W (18 + 8 * i) ≠ 1) ∧ (i : Int) + 1 < (W 0).toInt ∧ q.1 = W (11 + 8 * (i + 1)) - W (11 + 8 * i) ∧ rAct a0 r (upd W (18 + 8 * i) 0) h q.2)) := by
  unfold F_X12_free at hf
  replace hf := jbind hf
  obtain ⟨h2, e1, hf⟩ := hf
  obtain ⟨o1, z1⟩ := oc_pf e1
  clear e1
  replace hf := jbind hf
  obtain ⟨v8, e2, hf⟩ := hf
  replace e2 := (jcv_o e2).2
  have T1 : rTh a0 0 h h2 := ⟨by rw [o1, oi_eq], by rw [o1]; exact frM_f (by decide), z1⟩
  obtain ⟨M1, w1, g1⟩ := rTh_W T1 M hW h7
  have r2 := E_X12_noRing M1 w1 K e2
  replace hf := jbind hf
  obtain ⟨q12, e3, hf⟩ := hf
  replace e3 := (jcv_o e3).2
  have r3 := E_X12_throwsIf r2.1 e3
  replace hf := jite hf
  rcases hf with ⟨c4, hf⟩ | ⟨c4, hf⟩
  · skip
    replace hf := jbind hf
    obtain ⟨v23, e5, hf⟩ := hf
    replace e5 := (jcv_o e5).2
    have hq : q12.2 = h2 := by
      rcases r3 with ⟨-, -, y⟩ | ⟨-, y, -⟩
      · exact y
      · exact absurd (y.symm.trans c4) (by decide)
    have hv : v8 = 0 := by
      rcases r3 with ⟨y, -, -⟩ | ⟨-, y, -⟩
      · exact y
      · exact absurd (y.symm.trans c4) (by decide)
    obtain ⟨i, h8, hi, hi0⟩ := i_ring K (Classical.byContradiction fun z => absurd ((r2.2.mpr z).symm.trans hv) (by decide))
    have M5 : mS (oc q12.2) a0 := by rw [hq]; exact M1
    have w5 : wl (oc q12.2) a0 = W := by rw [hq]; exact w1
    have r5 := E_X12_is (i := i) (j := 7) (t := 18 + 8 * i) M5 hi rfl (by omega) (by omega) e5
    rw [w5] at r5
    replace hf := jite hf
    rcases hf with ⟨c6, hf⟩ | ⟨c6, hf⟩
    · skip
      -- leaf 00: F_X12_free_34 n a0 x1 a0 (1 : Int32) q12.2
      rw [hq] at hf
      refine Or.inr ⟨i, h8, hi, hi0, ?_⟩
      rcases E_X12_free_34 (W := W) (r := r) (i := i) M1 w1 K g1 hr T1.1 rfl (Or.inr rfl) hi h8 (fun z => absurd z (by decide)) hf with ⟨-, b, T⟩ | ⟨s, -, -⟩
      · exact Or.inl ⟨fun z => absurd ((r5.2.mpr z).symm.trans c6) (by decide), b, rTh_tr T1 T⟩
      · exact absurd s (by decide)
    · skip
      -- leaf 01: F_X12_free_34 n a0 x1 a0 (0 : Int32) q12.2
      rw [hq] at hf
      have ct := r5.2.mp (r5.1.resolve_left c6)
      have hn := ring_next K hi0 ct
      refine Or.inr ⟨i, h8, hi, hi0, ?_⟩
      rcases E_X12_free_34 (W := W) (r := r) (i := i) M1 w1 K g1 hr T1.1 rfl (Or.inl rfl) hi h8 (fun _ => hn) hf with ⟨s, -, -⟩ | ⟨-, b, A⟩
      · exact absurd s (by decide)
      · exact Or.inr ⟨fun z => z ct, hn, b, rAct_tr T1 A⟩
  · skip
    cases hf
    -- leaf 1: ((0 : Int32), q12.2)
    rcases r3 with ⟨-, y, -⟩ | ⟨s, -, T⟩
    · exact absurd y c4
    · exact Or.inl ⟨r2.2.mp s, rfl, rTh_tr T1 T⟩
theorem E_X12_snag {W : jWd} {r : Nat} {n : Nat} {a0 : Nat} {x1 : Int32} {h : jH} {q : Int32 × jH} (M : mS (oc h) a0) (hW : wl (oc h) a0 = W) (K : wOK W) (h7 : oi (oc h) a0 7 = nI r) (hr : r ≤ 12) (hf : F_X12_snag n a0 x1 h = some q) : (¬ (0 ≤ x1.toInt ∧ x1.toInt < (W 0).toInt) ∧ q.1 = 0 ∧ rTh a0 1 h q.2) ∨ ∃ i : Nat, i < 8 ∧ x1 = nI i ∧ (i : Int) < (W 0).toInt ∧ ((((i : Int) + 1 = (W 0).toInt ∨ W (18 + 8 * i) = 1) ∧ q.1 = 0 ∧ rTh a0 2 h q.2) ∨ (¬ (((i : Int) + 1 = (W 0).toInt ∨ W (18 + 8 * i) = 1)) ∧ (i : Int) + 1 < (W 0).toInt ∧ q.1 = W (11 + 8 * (i + 1)) - W (11 + 8 * i) ∧ rAct a0 r (upd W (18 + 8 * i) 1) h q.2)) := by
  unfold F_X12_snag at hf
  replace hf := jbind hf
  obtain ⟨h2, e1, hf⟩ := hf
  obtain ⟨o1, z1⟩ := oc_pf e1
  clear e1
  replace hf := jbind hf
  obtain ⟨v8, e2, hf⟩ := hf
  replace e2 := (jcv_o e2).2
  have T1 : rTh a0 0 h h2 := ⟨by rw [o1, oi_eq], by rw [o1]; exact frM_f (by decide), z1⟩
  obtain ⟨M1, w1, g1⟩ := rTh_W T1 M hW h7
  have r2 := E_X12_noRing M1 w1 K e2
  replace hf := jbind hf
  obtain ⟨q12, e3, hf⟩ := hf
  replace e3 := (jcv_o e3).2
  have r3 := E_X12_throwsIf r2.1 e3
  replace hf := jite hf
  rcases hf with ⟨c4, hf⟩ | ⟨c4, hf⟩
  · skip
    replace hf := jbind hf
    obtain ⟨v21, e5, hf⟩ := hf
    replace e5 := (jcv_o e5).2
    have hq : q12.2 = h2 := by
      rcases r3 with ⟨-, -, y⟩ | ⟨-, y, -⟩
      · exact y
      · exact absurd (y.symm.trans c4) (by decide)
    have hv : v8 = 0 := by
      rcases r3 with ⟨y, -, -⟩ | ⟨-, y, -⟩
      · exact y
      · exact absurd (y.symm.trans c4) (by decide)
    obtain ⟨i, h8, hi, hi0⟩ := i_ring K (Classical.byContradiction fun z => absurd ((r2.2.mpr z).symm.trans hv) (by decide))
    have M5 : mS (oc q12.2) a0 := by rw [hq]; exact M1
    have w5 : wl (oc q12.2) a0 = W := by rw [hq]; exact w1
    have r5 := E_X12_lastRing M5 e5
    rw [w5] at r5
    replace hf := jite hf
    rcases hf with ⟨c6, hf⟩ | ⟨c6, hf⟩
    · skip
      -- leaf 00: F_X12_snag_42 n a0 x1 a0 (1 : Int32) q12.2
      have k0 := K.1
      have l1 : (1 : Int32).toInt = 1 := rfl
      rw [r5, hi] at c6
      have y := congrArg Int32.toInt c6
      rw [nI_toInt (by omega), jsub (by omega) (by omega), l1] at y
      rw [hq] at hf
      refine Or.inr ⟨i, h8, hi, hi0, ?_⟩
      rcases E_X12_snag_42 (W := W) (r := r) (i := i) M1 w1 K g1 hr T1.1 rfl (Or.inr rfl) hi h8 (fun z => absurd z (by decide)) hf with ⟨-, b, T⟩ | ⟨s, -, -⟩
      · exact Or.inl ⟨Or.inl (by omega), b, rTh_tr T1 T⟩
      · exact absurd s (by decide)
    · skip
      replace hf := jbind hf
      obtain ⟨v31, e7, hf⟩ := hf
      replace e7 := (jcv_o e7).2
      have r7 := E_X12_is (i := i) (j := 7) (t := 18 + 8 * i) M5 hi rfl (by omega) (by omega) e7
      rw [w5] at r7
      replace hf := jite hf
      rcases hf with ⟨c8, hf⟩ | ⟨c8, hf⟩
      · skip
        -- leaf 010: F_X12_snag_42 n a0 x1 a0 (0 : Int32) q12.2
        have k0 := K.1
        have l1 : (1 : Int32).toInt = 1 := rfl
        have nl : ¬ (i : Int) + 1 = (W 0).toInt := fun z => c6 (by rw [hi, r5]; exact (nI_k (by rw [jsub (by omega) (by omega)]; omega)).symm)
        rw [hq] at hf
        have nc : ¬ W (18 + 8 * i) = 1 := fun z => absurd ((r7.2.mpr z).symm.trans c8) (by decide)
        refine Or.inr ⟨i, h8, hi, hi0, ?_⟩
        rcases E_X12_snag_42 (W := W) (r := r) (i := i) M1 w1 K g1 hr T1.1 rfl (Or.inl rfl) hi h8 (fun _ => by omega) hf with ⟨s, -, -⟩ | ⟨-, b, A⟩
        · exact absurd s (by decide)
        · exact Or.inr ⟨fun z => z.elim nl nc, by omega, b, rAct_tr T1 A⟩
      · skip
        -- leaf 011: F_X12_snag_42 n a0 x1 a0 (1 : Int32) q12.2
        rw [hq] at hf
        refine Or.inr ⟨i, h8, hi, hi0, ?_⟩
        rcases E_X12_snag_42 (W := W) (r := r) (i := i) M1 w1 K g1 hr T1.1 rfl (Or.inr rfl) hi h8 (fun z => absurd z (by decide)) hf with ⟨-, b, T⟩ | ⟨s, -, -⟩
        · exact Or.inl ⟨Or.inr (r7.2.mp (r7.1.resolve_left c8)), b, rTh_tr T1 T⟩
        · exact absurd s (by decide)
  · skip
    cases hf
    -- leaf 1: ((0 : Int32), q12.2)
    rcases r3 with ⟨-, y, -⟩ | ⟨s, -, T⟩
    · exact absurd y c4
    · exact Or.inl ⟨r2.2.mp s, rfl, rTh_tr T1 T⟩
theorem E_X12_seed {W : jWd} {n : Nat} {a0 : Nat} {x1 : Int32} {h : jH} {q : Int32 × jH} (M : mS (oc h) a0) (hW : wl (oc h) a0 = W) (hf : F_X12_seed n a0 x1 h = some q) : q.1 = W 10 ∧ oi (oc q.2) a0 0 = 0 ∧ wl (oc q.2) a0 = upd W 10 x1 ∧ frM a0 [1] [0] (oc h) (oc q.2) ∧ q.2.1 = h.1 := by
  unfold F_X12_seed at hf
  obtain ⟨s1, s2, s3, s4, s5, s8, s15, s17, s19, s20, s21⟩ := id M
  replace hf := jbind hf
  obtain ⟨h2, e1, hf⟩ := hf
  obtain ⟨o1, z1⟩ := oc_pf e1
  clear e1
  replace hf := jbind hf
  obtain ⟨p6, e2, hf⟩ := hf
  have r2 := oc_gR e2
  rw [o1] at r2
  rw [u2_ne (Or.inr (by decide))] at r2
  rw [s1] at r2
  cases r2
  clear e2
  replace hf := jbind hf
  obtain ⟨v11, e3, hf⟩ := hf
  obtain ⟨r3, y3⟩ := oc_al e3
  rw [show (10 : Int32).toNatClampNeg = 10 from rfl] at r3
  rw [o1] at r3
  rw [oi_ne (Or.inl (by omega))] at r3
  subst r3
  clear e3
  replace hf := jbind hf
  obtain ⟨p14, e4, hf⟩ := hf
  have r4 := oc_gR e4
  rw [o1] at r4
  rw [u2_ne (Or.inr (by decide))] at r4
  rw [s1] at r4
  cases r4
  clear e4
  replace hf := jbind hf
  obtain ⟨h20, e5, hf⟩ := hf
  obtain ⟨o5, z5, y5⟩ := oc_as e5
  rw [jnar0] at o5
  rw [show (10 : Int32).toNatClampNeg = 10 from rfl] at o5
  clear e5
  cases hf
  -- leaf : (v11, h20)
  have g0 : oi (oc h20) a0 0 = 0 := by rw [o5, oi_ne (Or.inl (by omega)), o1, oi_eq]
  have f1 : frM a0 [1] [0] (oc h) (oc h2) := by rw [o1]; exact frM_f (by decide)
  have f2 : frM a0 [1] [0] (oc h2) (oc h20) := by rw [o5]; exact frM_c (by decide)
  have g1 : wl (oc h20) a0 = upd W 10 x1 := by rw [o5, wl_w, o1, wl_n (by omega), hW]
  exact ⟨congrFun hW 10, g0, g1, frM_tr f1 f2, z5.trans z1⟩
theorem E_X12_hook {W : jWd} {r : Nat} {n : Nat} {a0 : Nat} {x1 : Int32} {x2 : Int32} {h : jH} {q : Int32 × jH} (M : mS (oc h) a0) (hW : wl (oc h) a0 = W) (K : wOK W) (h7 : oi (oc h) a0 7 = nI r) (hr : r ≤ 12) (hb : x2 = 0 ∨ x2 = 1) (hf : F_X12_hook n a0 x1 x2 h = some q) : (¬ (0 ≤ x1.toInt ∧ x1.toInt < (W 0).toInt) ∧ q.1 = 0 ∧ rTh a0 1 h q.2) ∨ ∃ i : Nat, i < 8 ∧ x1 = nI i ∧ (i : Int) < (W 0).toInt ∧ (q.1 = (if W (17 + 8 * i) = x2 then 0 else 1) ∧ rAct a0 r (upd W (17 + 8 * i) x2) h q.2) := by
  unfold F_X12_hook at hf
  replace hf := jbind hf
  obtain ⟨h2, e1, hf⟩ := hf
  obtain ⟨o1, z1⟩ := oc_pf e1
  clear e1
  replace hf := jbind hf
  obtain ⟨v8, e2, hf⟩ := hf
  replace e2 := (jcv_o e2).2
  have T1 : rTh a0 0 h h2 := ⟨by rw [o1, oi_eq], by rw [o1]; exact frM_f (by decide), z1⟩
  obtain ⟨M1, w1, g1⟩ := rTh_W T1 M hW h7
  have r2 := E_X12_noRing M1 w1 K e2
  replace hf := jbind hf
  obtain ⟨q12, e3, hf⟩ := hf
  replace e3 := (jcv_o e3).2
  have r3 := E_X12_throwsIf r2.1 e3
  replace hf := jite hf
  rcases hf with ⟨c4, hf⟩ | ⟨c4, hf⟩
  · skip
    replace hf := jbind hf
    obtain ⟨h21, e5, hf⟩ := hf
    replace e5 := (jcv_o e5).2
    have hq : q12.2 = h2 := by
      rcases r3 with ⟨-, -, y⟩ | ⟨-, y, -⟩
      · exact y
      · exact absurd (y.symm.trans c4) (by decide)
    have hv : v8 = 0 := by
      rcases r3 with ⟨y, -, -⟩ | ⟨-, y, -⟩
      · exact y
      · exact absurd (y.symm.trans c4) (by decide)
    obtain ⟨i, h8, hi, hi0⟩ := i_ring K (Classical.byContradiction fun z => absurd ((r2.2.mpr z).symm.trans hv) (by decide))
    rw [hq] at e5
    have R5 : rRM a0 r h2 h21 := E_X12_remembers M1 g1 hr e5
    have M5 : mS (oc h21) a0 := mS_fr M1 R5.2.2.2.1 (by decide) (by decide)
    obtain ⟨t1, t2, t3, t4, t5, t8, t15, t17, t19, t20, t21⟩ := id M5
    have w5 : wl (oc h21) a0 = W := (wl_f R5.2.2.2.1 (by decide)).trans w1
    replace hf := jbind hf
    obtain ⟨v28, e6, hf⟩ := hf
    replace e6 := (jcv_o e6).2
    have r6 := E_X12_is (i := i) (j := 6) (t := 17 + 8 * i) M5 hi rfl (by omega) (by omega) e6
    rw [w5] at r6
    replace hf := jbind hf
    obtain ⟨p33, e7, hf⟩ := hf
    have r7 := oc_gR e7
    rw [t1] at r7
    cases r7
    clear e7
    replace hf := jbind hf
    obtain ⟨v39, e8, hf⟩ := hf
    have r8 := E_X12_at (i := i) (j := 6) (t := 17 + 8 * i) hi rfl (by omega) e8
    replace hf := jite hf
    rcases hf with ⟨c9, hf⟩ | ⟨c9, hf⟩
    · skip
      replace hf := jbind hf
      obtain ⟨h51, e10, hf⟩ := hf
      obtain ⟨o10, z10, y10⟩ := oc_as e10
      rw [jnar0] at o10
      clear e10
      replace hf := jite hf
      rcases hf with ⟨c11, hf⟩ | ⟨c11, hf⟩
      · skip
        cases hf
        -- leaf 000: ((0 : Int32), h51)
        have hv6 : v28 = W (17 + 8 * i) := bool_eq r6.1 r6.2 (K.2.1 i hi0).2.2.2.2.2.2.1
        rw [r8, nI_cl (by omega)] at o10
        have f7 : frM a0 [1, 8] [] (oc h21) (oc h51) := by rw [o10]; exact frM_c (by decide)
        have hx2 : x2 = 0 := c9
        have w7 : wl (oc h51) a0 = upd W (17 + 8 * i) x2 := by rw [o10, wl_w, w5, hx2]
        exact Or.inr ⟨i, h8, hi, hi0, by rw [← hv6]; exact (if_pos c11).symm, rAct_tr T1 (rAct_mk T1.1 R5 f7 w7 z10)⟩
      · skip
        cases hf
        -- leaf 001: ((1 : Int32), h51)
        have hv6 : v28 = W (17 + 8 * i) := bool_eq r6.1 r6.2 (K.2.1 i hi0).2.2.2.2.2.2.1
        rw [r8, nI_cl (by omega)] at o10
        have f7 : frM a0 [1, 8] [] (oc h21) (oc h51) := by rw [o10]; exact frM_c (by decide)
        have hx2 : x2 = 0 := c9
        have w7 : wl (oc h51) a0 = upd W (17 + 8 * i) x2 := by rw [o10, wl_w, w5, hx2]
        exact Or.inr ⟨i, h8, hi, hi0, by rw [← hv6]; exact (if_neg c11).symm, rAct_tr T1 (rAct_mk T1.1 R5 f7 w7 z10)⟩
    · skip
      replace hf := jbind hf
      obtain ⟨h51, e12, hf⟩ := hf
      obtain ⟨o12, z12, y12⟩ := oc_as e12
      rw [jnar0] at o12
      clear e12
      replace hf := jite hf
      rcases hf with ⟨c13, hf⟩ | ⟨c13, hf⟩
      · skip
        cases hf
        -- leaf 010: ((0 : Int32), h51)
        have hv6 : v28 = W (17 + 8 * i) := bool_eq r6.1 r6.2 (K.2.1 i hi0).2.2.2.2.2.2.1
        rw [r8, nI_cl (by omega)] at o12
        have f7 : frM a0 [1, 8] [] (oc h21) (oc h51) := by rw [o12]; exact frM_c (by decide)
        have hx2 : x2 = 1 := hb.resolve_left c9
        have w7 : wl (oc h51) a0 = upd W (17 + 8 * i) x2 := by rw [o12, wl_w, w5, hx2]
        exact Or.inr ⟨i, h8, hi, hi0, by rw [← hv6]; exact (if_pos c13).symm, rAct_tr T1 (rAct_mk T1.1 R5 f7 w7 z12)⟩
      · skip
        cases hf
        -- leaf 011: ((1 : Int32), h51)
        have hv6 : v28 = W (17 + 8 * i) := bool_eq r6.1 r6.2 (K.2.1 i hi0).2.2.2.2.2.2.1
        rw [r8, nI_cl (by omega)] at o12
        have f7 : frM a0 [1, 8] [] (oc h21) (oc h51) := by rw [o12]; exact frM_c (by decide)
        have hx2 : x2 = 1 := hb.resolve_left c9
        have w7 : wl (oc h51) a0 = upd W (17 + 8 * i) x2 := by rw [o12, wl_w, w5, hx2]
        exact Or.inr ⟨i, h8, hi, hi0, by rw [← hv6]; exact (if_neg c13).symm, rAct_tr T1 (rAct_mk T1.1 R5 f7 w7 z12)⟩
  · skip
    cases hf
    -- leaf 1: ((0 : Int32), q12.2)
    rcases r3 with ⟨-, y, -⟩ | ⟨s, -, T⟩
    · exact absurd y c4
    · exact Or.inl ⟨r2.2.mp s, rfl, rTh_tr T1 T⟩
theorem E_X12_chair {W : jWd} {r : Nat} {n : Nat} {a0 : Nat} {x1 : Int32} {x2 : Int32} {h : jH} {q : Int32 × jH} (M : mS (oc h) a0) (hW : wl (oc h) a0 = W) (K : wOK W) (h7 : oi (oc h) a0 7 = nI r) (hr : r ≤ 12) (hb : x2 = 0 ∨ x2 = 1) (hf : F_X12_chair n a0 x1 x2 h = some q) : (¬ (0 ≤ x1.toInt ∧ x1.toInt ≤ 31) ∧ q.1 = 0 ∧ rTh a0 1 h q.2) ∨ ∃ i : Nat, i < 32 ∧ x1 = nI i ∧ q.1 = (if chV (W 7) i x2 = W 7 then 0 else 1) ∧ rAct a0 r (upd W 7 (chV (W 7) i x2)) h q.2 := by
  unfold F_X12_chair at hf
  replace hf := jbind hf
  obtain ⟨h2, e1, hf⟩ := hf
  obtain ⟨o1, z1⟩ := oc_pf e1
  clear e1
  replace hf := jbind hf
  obtain ⟨v7, e2, hf⟩ := hf
  have T1 : rTh a0 0 h h2 := ⟨by rw [o1, oi_eq], by rw [o1]; exact frM_f (by decide), z1⟩
  obtain ⟨M1, w1, g1⟩ := rTh_W T1 M hW h7
  have r2 := E_X12_noPlace e2
  replace hf := jbind hf
  obtain ⟨q11, e3, hf⟩ := hf
  replace e3 := (jcv_o e3).2
  have r3 := E_X12_throwsIf r2.1 e3
  replace hf := jite hf
  rcases hf with ⟨c4, hf⟩ | ⟨c4, hf⟩
  · skip
    replace hf := jbind hf
    obtain ⟨h20, e5, hf⟩ := hf
    replace e5 := (jcv_o e5).2
    have hq : q11.2 = h2 := by
      rcases r3 with ⟨-, -, y⟩ | ⟨-, y, -⟩
      · exact y
      · exact absurd (y.symm.trans c4) (by decide)
    have hv : v7 = 0 := by
      rcases r3 with ⟨y, -, -⟩ | ⟨-, y, -⟩
      · exact y
      · exact absurd (y.symm.trans c4) (by decide)
    obtain ⟨i, h8, hi⟩ := i_place (Classical.byContradiction fun z => absurd ((r2.2.mpr z).symm.trans hv) (by decide))
    rw [hq] at e5
    have R5 : rRM a0 r h2 h20 := E_X12_remembers M1 g1 hr e5
    have M5 : mS (oc h20) a0 := mS_fr M1 R5.2.2.2.1 (by decide) (by decide)
    obtain ⟨t1, t2, t3, t4, t5, t8, t15, t17, t19, t20, t21⟩ := id M5
    have w5 : wl (oc h20) a0 = W := (wl_f R5.2.2.2.1 (by decide)).trans w1
    replace hf := jbind hf
    obtain ⟨p24, e6, hf⟩ := hf
    have r6 := oc_gR e6
    rw [t1] at r6
    cases r6
    clear e6
    replace hf := jbind hf
    obtain ⟨v29, e7, hf⟩ := hf
    obtain ⟨r7, y7⟩ := oc_al e7
    rw [show (7 : Int32).toNatClampNeg = 7 from rfl] at r7
    subst r7
    clear e7
    replace hf := jbind hf
    obtain ⟨v31, e8, hf⟩ := hf
    have r8 := E_X12_has (k := i) hi h8 e8
    replace hf := jbind hf
    obtain ⟨p36, e9, hf⟩ := hf
    have r9 := oc_gR e9
    rw [t1] at r9
    cases r9
    clear e9
    replace hf := jbind hf
    obtain ⟨v41, e10, hf⟩ := hf
    obtain ⟨r10, y10⟩ := oc_al e10
    rw [show (7 : Int32).toNatClampNeg = 7 from rfl] at r10
    subst r10
    clear e10
    replace hf := jbind hf
    obtain ⟨p51, e11, hf⟩ := hf
    have r11 := oc_gR e11
    rw [t1] at r11
    cases r11
    clear e11
    replace hf := jite hf
    rcases hf with ⟨c12, hf⟩ | ⟨c12, hf⟩
    · skip
      replace hf := jbind hf
      obtain ⟨h71, e13, hf⟩ := hf
      obtain ⟨o13, z13, y13⟩ := oc_as e13
      rw [jnar0] at o13
      rw [show (7 : Int32).toNatClampNeg = 7 from rfl] at o13
      clear e13
      replace hf := jite hf
      rcases hf with ⟨c14, hf⟩ | ⟨c14, hf⟩
      · skip
        cases hf
        -- leaf 000: ((0 : Int32), h71)
        have c7 : oi (oc h20) (a0 + 1) 7 = W 7 := congrFun w5 7
        rw [hi, c7] at o13
        rw [c7] at r8
        have an := chV_ans h8 hb r8
        have f7 : frM a0 [1, 8] [] (oc h20) (oc h71) := by rw [o13]; exact frM_c (by decide)
        have w7 : wl (oc h71) a0 = upd W 7 (chV (W 7) i x2) := by rw [o13, wl_w, w5]; unfold chV; rw [if_pos c12]
        exact Or.inr ⟨i, h8, hi, (if_pos (an.mpr c14)).symm, rAct_tr T1 (rAct_mk T1.1 R5 f7 w7 z13)⟩
      · skip
        cases hf
        -- leaf 001: ((1 : Int32), h71)
        have c7 : oi (oc h20) (a0 + 1) 7 = W 7 := congrFun w5 7
        rw [hi, c7] at o13
        rw [c7] at r8
        have an := chV_ans h8 hb r8
        have f7 : frM a0 [1, 8] [] (oc h20) (oc h71) := by rw [o13]; exact frM_c (by decide)
        have w7 : wl (oc h71) a0 = upd W 7 (chV (W 7) i x2) := by rw [o13, wl_w, w5]; unfold chV; rw [if_pos c12]
        exact Or.inr ⟨i, h8, hi, (if_neg fun z => c14 (an.mp z)).symm, rAct_tr T1 (rAct_mk T1.1 R5 f7 w7 z13)⟩
    · skip
      replace hf := jbind hf
      obtain ⟨h71, e15, hf⟩ := hf
      obtain ⟨o15, z15, y15⟩ := oc_as e15
      rw [jnar0] at o15
      rw [show (7 : Int32).toNatClampNeg = 7 from rfl] at o15
      clear e15
      replace hf := jite hf
      rcases hf with ⟨c16, hf⟩ | ⟨c16, hf⟩
      · skip
        cases hf
        -- leaf 010: ((0 : Int32), h71)
        have c7 : oi (oc h20) (a0 + 1) 7 = W 7 := congrFun w5 7
        rw [hi, c7, chr_eq h8] at o15
        rw [c7] at r8
        have an := chV_ans h8 hb r8
        have f7 : frM a0 [1, 8] [] (oc h20) (oc h71) := by rw [o15]; exact frM_c (by decide)
        have w7 : wl (oc h71) a0 = upd W 7 (chV (W 7) i x2) := by rw [o15, wl_w, w5]; unfold chV; rw [if_neg c12]
        exact Or.inr ⟨i, h8, hi, (if_pos (an.mpr c16)).symm, rAct_tr T1 (rAct_mk T1.1 R5 f7 w7 z15)⟩
      · skip
        cases hf
        -- leaf 011: ((1 : Int32), h71)
        have c7 : oi (oc h20) (a0 + 1) 7 = W 7 := congrFun w5 7
        rw [hi, c7, chr_eq h8] at o15
        rw [c7] at r8
        have an := chV_ans h8 hb r8
        have f7 : frM a0 [1, 8] [] (oc h20) (oc h71) := by rw [o15]; exact frM_c (by decide)
        have w7 : wl (oc h71) a0 = upd W 7 (chV (W 7) i x2) := by rw [o15, wl_w, w5]; unfold chV; rw [if_neg c12]
        exact Or.inr ⟨i, h8, hi, (if_neg fun z => c16 (an.mp z)).symm, rAct_tr T1 (rAct_mk T1.1 R5 f7 w7 z15)⟩
  · skip
    cases hf
    -- leaf 1: ((0 : Int32), q11.2)
    rcases r3 with ⟨-, y, -⟩ | ⟨s, -, T⟩
    · exact absurd y c4
    · exact Or.inl ⟨r2.2.mp s, rfl, rTh_tr T1 T⟩
end
section
/-! acts of the class -/
/-- x: the class, its rod tells W, the next place of its acts is nx -/
def cPre (x nx : Nat) (W : jWd) (h : jH) : Prop :=
  (oc h x 1 = .ref (x + 6) ∧ oc h x 3 = .ref (x + 19) ∧ oc h (x + 19) 0 = .ref (x + 20) ∧ oi (oc h) (x + 19) 1 = nI nx ∧ nx ≤ 11 ∧ rodE (oc h) (x + 6) W ∧ wOK W) ∧
  (∀ b : Nat, oc h (x + 20) nx = .ref b → rodS (oc h) b ∧ x + 52 < b) ∧ x + 52 < h.1 ∧ (0 ≤ (oi (oc h) (x + 19) 2).toInt ∧ (oi (oc h) (x + 19) 2).toInt ≤ 12)
/-- b is the rod that remembers W -/
def cRm (x nx b : Nat) (W : jWd) (h q : jH) : Prop :=
  ((oc h (x + 20) nx = .ref b ∧ q.1 = h.1) ∨ (oc h (x + 20) nx = .null ∧ b = h.1 ∧ q.1 = h.1 + 7)) ∧ oc q (x + 20) nx = .ref b ∧ rodE (oc q) b W ∧ oi (oc q) (x + 19) 1 = nI ((nx + 1) % 12) ∧ (oi (oc q) (x + 19) 2).toInt = (if (oi (oc h) (x + 19) 2).toInt < 12 then (oi (oc h) (x + 19) 2).toInt + 1 else 12)
/-- the act before is remembered in the rod b, the class's rod tells W2 -/
def cAct (x nx : Nat) (W W2 : jWd) (h q : jH) : Prop :=
  rodE (oc q) (x + 6) W2 ∧ ∃ b : Nat, cRm x nx b W h q ∧ (∀ a k, a < h.1 → ¬ (b ≤ a ∧ a ≤ b + 6) → ¬ (a = x + 19 ∧ (k = 1 ∨ k = 2)) → ¬ (a = x + 20 ∧ k = nx) → ¬ (x + 6 ≤ a ∧ a ≤ x + 12) → a ≠ x + 18 → ¬ (a = x + 13 ∧ k = 5) → oc q a k = oc h a k)
theorem cRm_lb {x nx b : Nat} {W : jWd} {h q : jH} (hz : x + 52 < h.1) (hb : ∀ b : Nat, oc h (x + 20) nx = .ref b → rodS (oc h) b ∧ x + 52 < b) (A : cRm x nx b W h q) : x + 52 < b := by
  rcases A.1 with ⟨e, -⟩ | ⟨-, e, -⟩
  · exact (hb b e).2
  · rw [e]; exact hz
theorem c_rem {n x nx : Nat} {W : jWd} {h q : jH} (C : cPre x nx W h) (hf : F_X0_remember n (x + 19) (x + 6) h = some q) : oc q x 1 = .ref (x + 6) ∧ rodE (oc q) (x + 6) W ∧ cAct x nx W W h q := by
  obtain ⟨⟨x1, x3, sA, hx, hn, R, K⟩, hb, hz, sz⟩ := C
  obtain ⟨b, A, c5⟩ : ∃ b : Nat, cRm x nx b W h q ∧ (∀ a k, a < h.1 → ¬ (b ≤ a ∧ a ≤ b + 6) → ¬ (a = x + 19 ∧ (k = 1 ∨ k = 2)) → ¬ (a = x + 20 ∧ k = nx) → oc q a k = oc h a k) := by
    obtain ⟨b, B, c1, c2, c3, c4, c5⟩ := E_X0_remember (h := h) sA hx hn R K (fun b e => ⟨(hb b e).1, Or.inr (by have := (hb b e).2; omega), Or.inr (by have := (hb b e).2; omega)⟩) (by omega) (by omega) (by omega) sz hf
    exact ⟨b, ⟨B, c1, c2, c3, c4⟩, c5⟩
  have lb := cRm_lb hz hb A
  have y1 : oc q x 1 = .ref (x + 6) := (c5 _ _ (by omega) (by omega) (by omega) (by omega)).trans x1
  have y2 : rodE (oc q) (x + 6) W := rodE_fr R (fun a k h1 h2 => c5 _ _ (by omega) (by omega) (by omega) (by omega))
  exact ⟨y1, y2, y2, b, A, fun a k z1 z2 z3 z4 _ _ _ => c5 a k z1 z2 z3 z4⟩
/-- what the act does to the rod after that -/
theorem c_mkL {x nx : Nat} {W W2 : jWd} {h p q : jH} (hz : x + 52 < h.1) (hb : ∀ b : Nat, oc h (x + 20) nx = .ref b → rodS (oc h) b ∧ x + 52 < b) (A : cAct x nx W W h p) (f : frRL (x + 6) (x + 13) (oc p) (oc q)) (R : rodE (oc q) (x + 6) W2) (z : q.1 = p.1) : cAct x nx W W2 h q := by
  obtain ⟨-, b, A, c5⟩ := A
  have lb := cRm_lb hz hb A
  obtain ⟨B, c1, c2, c3, c4⟩ := A
  have o1 : ∀ k, oi (oc q) (x + 19) k = oi (oc p) (x + 19) k := fun k => by unfold oi; rw [f _ _ (by omega) (by omega) (by omega)]
  refine ⟨R, b, ⟨?_, (f _ _ (by omega) (by omega) (by omega)).trans c1, rodE_fr c2 (fun a k h1 h2 => f _ _ (by omega) (by omega) (by omega)), (o1 1).trans c3, by rw [o1 2]; exact c4⟩, fun a k z1 z2 z3 z4 z5 z6 z7 => (f _ _ (by omega) (by omega) (by omega)).trans (c5 a k z1 z2 z3 z4 z5 z6 z7)⟩
  rcases B with ⟨e, y⟩ | ⟨e, y1, y2⟩
  · exact Or.inl ⟨e, z.trans y⟩
  · exact Or.inr ⟨e, y1, z.trans y2⟩
theorem c_mk {x nx : Nat} {W W2 : jWd} {h p q : jH} (hz : x + 52 < h.1) (hb : ∀ b : Nat, oc h (x + 20) nx = .ref b → rodS (oc h) b ∧ x + 52 < b) (A : cAct x nx W W h p) (f : frR (x + 6) (oc p) (oc q)) (R : rodE (oc q) (x + 6) W2) (z : q.1 = p.1) : cAct x nx W W2 h q := c_mkL hz hb A (frRL_R f) R z
theorem c_keep {x nx : Nat} {W W2 : jWd} {h q : jH} (hz : x + 52 < h.1) (hb : ∀ b : Nat, oc h (x + 20) nx = .ref b → rodS (oc h) b ∧ x + 52 < b) (A : cAct x nx W W2 h q) : ∀ a k, a ≤ x + 52 → ¬ (a = x + 19 ∧ (k = 1 ∨ k = 2)) → ¬ (a = x + 20 ∧ k = nx) → ¬ (x + 6 ≤ a ∧ a ≤ x + 12) → a ≠ x + 18 → ¬ (a = x + 13 ∧ k = 5) → oc q a k = oc h a k := by
  obtain ⟨-, b, A, c5⟩ := A
  have lb := cRm_lb hz hb A
  exact fun a k z z2 z3 z4 z5 z6 => c5 a k (by omega) (by omega) z2 z3 z4 z5 z6
theorem E_X11_requireRing {W : jWd} {nx : Nat} {n : Nat} {a0 : Nat} {x1 : Int32} {h : jH} {q : jR × jH} (C : cPre a0 nx W h) (hf : F_X11_requireRing n a0 x1 h = some q) : ((0 ≤ x1.toInt ∧ x1.toInt < (W 0).toInt) ∧ q.1 = .inl 0 ∧ q.2 = h) ∨ (¬ (0 ≤ x1.toInt ∧ x1.toInt < (W 0).toInt) ∧ q.1 = .inr 2 ∧ q.2 = h) := by
  unfold F_X11_requireRing at hf
  obtain ⟨⟨X1, X3, sA, hx, hn, R, K⟩, hb, hz, sz⟩ := id C
  obtain ⟨⟨s0, s1, s2, s3, s4, s5⟩, ⟨u5, u10, u11, u12, u13, u14, u15, u16, u17⟩, RB, RC, RL⟩ := id R
  have l0 : (0 : Int32).toInt = 0 := rfl
  replace hf := jite hf
  rcases hf with ⟨c1, hf⟩ | ⟨c1, hf⟩
  · skip
    cases hf
    -- leaf 0: (.inr 2, h)
    rw [Int32.lt_iff_toInt_lt, l0] at c1
    exact Or.inr ⟨by omega, rfl, rfl⟩
  · skip
    replace hf := jbind hf
    obtain ⟨p6, e2, hf⟩ := hf
    have r2 := oc_gR e2
    rw [X1] at r2
    cases r2
    clear e2
    replace hf := jbind hf
    obtain ⟨v9, e3, hf⟩ := hf
    have r3 := oc_gI e3
    subst r3
    clear e3
    replace hf := jite hf
    rcases hf with ⟨c4, hf⟩ | ⟨c4, hf⟩
    · skip
      cases hf
      -- leaf 10: (.inl 0, h)
      rw [Int32.lt_iff_toInt_lt, l0] at c1
      rw [u5, Int32.lt_iff_toInt_lt] at c4
      exact Or.inl ⟨by omega, rfl, rfl⟩
    · skip
      cases hf
      -- leaf 11: (.inr 2, h)
      rw [u5, Int32.lt_iff_toInt_lt] at c4
      exact Or.inr ⟨by omega, rfl, rfl⟩
theorem E_X11_requirePlace {n : Nat} {a0 : Nat} {x1 : Int32} {h : jH} {q : jR × jH} (hf : F_X11_requirePlace n a0 x1 h = some q) : ((0 ≤ x1.toInt ∧ x1.toInt ≤ 31) ∧ q.1 = .inl 0 ∧ q.2 = h) ∨ (¬ (0 ≤ x1.toInt ∧ x1.toInt ≤ 31) ∧ q.1 = .inr 2 ∧ q.2 = h) := by
  unfold F_X11_requirePlace at hf
  have l0 : (0 : Int32).toInt = 0 := rfl
  have l31 : (31 : Int32).toInt = 31 := rfl
  replace hf := jite hf
  rcases hf with ⟨c1, hf⟩ | ⟨c1, hf⟩
  · skip
    cases hf
    -- leaf 0: (.inr 2, h)
    rw [Int32.lt_iff_toInt_lt, l0] at c1
    exact Or.inr ⟨by omega, rfl, rfl⟩
  · skip
    replace hf := jite hf
    rcases hf with ⟨c2, hf⟩ | ⟨c2, hf⟩
    · skip
      cases hf
      -- leaf 10: (.inl 0, h)
      rw [Int32.lt_iff_toInt_lt, l0] at c1
      rw [Int32.le_iff_toInt_le, l31] at c2
      exact Or.inl ⟨by omega, rfl, rfl⟩
    · skip
      cases hf
      -- leaf 11: (.inr 2, h)
      rw [Int32.le_iff_toInt_le, l31] at c2
      exact Or.inr ⟨by omega, rfl, rfl⟩
theorem E_X11_requireNumber {n : Nat} {a0 : Nat} {x1 : Int32} {x2 : Int32} {x3 : Int32} {h : jH} {q : jR × jH} (hf : F_X11_requireNumber n a0 x1 x2 x3 h = some q) : ((x2.toInt ≤ x1.toInt ∧ x1.toInt ≤ x3.toInt) ∧ q.1 = .inl 0 ∧ q.2 = h) ∨ (¬ (x2.toInt ≤ x1.toInt ∧ x1.toInt ≤ x3.toInt) ∧ q.1 = .inr 0 ∧ q.2 = h) := by
  unfold F_X11_requireNumber at hf
  replace hf := jite hf
  rcases hf with ⟨c1, hf⟩ | ⟨c1, hf⟩
  · skip
    cases hf
    -- leaf 0: (.inr 0, h)
    rw [Int32.lt_iff_toInt_lt] at c1
    exact Or.inr ⟨by omega, rfl, rfl⟩
  · skip
    replace hf := jite hf
    rcases hf with ⟨c2, hf⟩ | ⟨c2, hf⟩
    · skip
      cases hf
      -- leaf 10: (.inl 0, h)
      rw [Int32.lt_iff_toInt_lt] at c1
      rw [Int32.le_iff_toInt_le] at c2
      exact Or.inl ⟨by omega, rfl, rfl⟩
    · skip
      cases hf
      -- leaf 11: (.inr 0, h)
      rw [Int32.le_iff_toInt_le] at c2
      exact Or.inr ⟨by omega, rfl, rfl⟩
theorem E_X11_let {W : jWd} {nx : Nat} {n : Nat} {a0 : Nat} {x1 : Int32} {x2 : Int32} {h : jH} {q : jR × jH} (C : cPre a0 nx W h) (hf : F_X11_let n a0 x1 x2 h = some q) : (¬ (0 ≤ x1.toInt ∧ x1.toInt < (W 0).toInt) ∧ q.1 = .inr 2 ∧ q.2 = h) ∨ ∃ i : Nat, i < 8 ∧ x1 = nI i ∧ (i : Int) < (W 0).toInt ∧ ((¬ (0 ≤ x2.toInt ∧ x2.toInt ≤ 9) ∧ q.1 = .inr 0 ∧ q.2 = h) ∨ ((0 ≤ x2.toInt ∧ x2.toInt ≤ 9) ∧ q.1 = .inl (W (16 + 8 * i)) ∧ cAct a0 nx W (upd W (16 + 8 * i) x2) h q.2)) := by
  unfold F_X11_let at hf
  obtain ⟨⟨X1, X3, sA, hx, hn, R, K⟩, hb, hz, sz⟩ := id C
  obtain ⟨⟨s0, s1, s2, s3, s4, s5⟩, ⟨u5, u10, u11, u12, u13, u14, u15, u16, u17⟩, RB, RC, RL⟩ := id R
  replace hf := jbind hf
  obtain ⟨q2, e1, hf⟩ := hf
  replace e1 := (jcv_o e1).2
  have r1 := E_X11_requireRing C e1
  obtain ⟨wq2, h2⟩ := q2
  have hqq : h2 = h := r1.elim (fun y => y.2.2) (fun y => y.2.2)
  subst hqq
  rcases wq2 with r2 | xq2
  · skip
    replace hf := (jthen_l (q := (.inl r2, h2)) rfl).symm.trans hf
    dsimp only at hf
    replace hf := jbind hf
    obtain ⟨q10, e2, hf⟩ := hf
    replace e2 := (jcv_o e2).2
    have r2 := E_X11_requireNumber e2
    obtain ⟨wq10, h10⟩ := q10
    have hqq : h10 = h2 := r2.elim (fun y => y.2.2) (fun y => y.2.2)
    subst hqq
    rcases wq10 with r10 | xq10
    · skip
      replace hf := (jthen_l (q := (.inl r10, h10)) rfl).symm.trans hf
      dsimp only at hf
      replace hf := jbind hf
      obtain ⟨p14, e3, hf⟩ := hf
      have r3 := oc_gR e3
      rw [X3] at r3
      cases r3
      clear e3
      replace hf := jbind hf
      obtain ⟨p18, e4, hf⟩ := hf
      have r4 := oc_gR e4
      rw [X1] at r4
      cases r4
      clear e4
      replace hf := jbind hf
      obtain ⟨h21, e5, hf⟩ := hf
      replace e5 := (jcv_o e5).2
      obtain ⟨Y1, RR, AA⟩ := c_rem C e5
      obtain ⟨⟨t0, t1, t2, t3, t4, t5⟩, ⟨g5, g10, g11, g12, g13, g14, g15, g16, g17⟩, QB, QC, QL⟩ := id RR
      replace hf := jbind hf
      obtain ⟨p25, e6, hf⟩ := hf
      have r6 := oc_gR e6
      rw [Y1] at r6
      cases r6
      clear e6
      replace hf := jbind hf
      obtain ⟨p28, e7, hf⟩ := hf
      have r7 := oc_gR e7
      rw [t3] at r7
      cases r7
      clear e7
      replace hf := jbind hf
      obtain ⟨v32, e8, hf⟩ := hf
      obtain ⟨r8, y8⟩ := oc_al e8
      subst r8
      clear e8
      replace hf := jbind hf
      obtain ⟨p35, e9, hf⟩ := hf
      have r9 := oc_gR e9
      rw [Y1] at r9
      cases r9
      clear e9
      replace hf := jbind hf
      obtain ⟨p38, e10, hf⟩ := hf
      have r10 := oc_gR e10
      rw [t3] at r10
      cases r10
      clear e10
      replace hf := jbind hf
      obtain ⟨h43, e11, hf⟩ := hf
      obtain ⟨o11, z11, y11⟩ := oc_as e11
      rw [jnar0] at o11
      clear e11
      cases hf
      -- leaf : (.inl v32, h43)
      have P : (0 ≤ x1.toInt ∧ x1.toInt < (W 0).toInt) := by
        rcases r1 with ⟨P, -, -⟩ | ⟨-, y, -⟩
        · exact P
        · cases y
      obtain ⟨i, h8, hi, hi0⟩ := i_ring K P
      refine Or.inr ⟨i, h8, hi, hi0, ?_⟩
      have P2 : (0 ≤ x2.toInt ∧ x2.toInt ≤ 9) := by
        rcases r2 with ⟨P, -, -⟩ | ⟨-, y, -⟩
        · exact P
        · cases y
      rw [hi, nI_cl (by omega)] at o11
      have f7 : frR (a0 + 6) (oc h21) (oc h43) := by rw [o11]; exact frR_u2 (by omega)
      have R7 : rodE (oc h43) (a0 + 6) (upd W (16 + 8 * i) x2) := by rw [o11]; exact rodE_ln RR h8
      exact Or.inr ⟨P2, by rw [hi, nI_cl (by omega), (QB i hi0).2.2.2.2.2.1], c_mk hz hb AA f7 R7 z11⟩
    · skip
      replace hf := (jthen_r (q := (.inr xq10, h10)) rfl).symm.trans hf
      cases hf
      have P : (0 ≤ x1.toInt ∧ x1.toInt < (W 0).toInt) := by
        rcases r1 with ⟨P, -, -⟩ | ⟨-, y, -⟩
        · exact P
        · cases y
      obtain ⟨i, h8, hi, hi0⟩ := i_ring K P
      refine Or.inr ⟨i, h8, hi, hi0, ?_⟩
      rcases r2 with ⟨-, y, -⟩ | ⟨P2, y, -⟩
      · cases y
      · exact Or.inl ⟨P2, y, rfl⟩
  · skip
    replace hf := (jthen_r (q := (.inr xq2, h2)) rfl).symm.trans hf
    cases hf
    rcases r1 with ⟨-, y, -⟩ | ⟨P, y, -⟩
    · cases y
    · exact Or.inl ⟨P, y, rfl⟩
end
section
theorem chV_bit {v x : Int32} {k : Nat} (hk : k < 32) (hx : x = 0 ∨ x = 1) : ∀ j, j < 32 → (bt (chV v k x) j = true ↔ (if j = k then x = 1 else bt v j = true)) := by
  intro j hj
  rcases hx with rfl | rfl
  · unfold chV
    rw [if_pos rfl, b_clr hk hj]
    by_cases e : j = k <;> simp [e]
  · unfold chV
    rw [if_neg (by decide), b_set hk hj]
    by_cases e : j = k <;> simp [e]
theorem gap_c {W : jWd} {i : Nat} {x v e : Int32} (hn : (i : Int) + 1 < (W 0).toInt) (h : v = if (i : Int) + 1 < (upd W (18 + 8 * i) x 0).toInt then upd W (18 + 8 * i) x (11 + 8 * (i + 1)) - upd W (18 + 8 * i) x (11 + 8 * i) else e) : v = W (11 + 8 * (i + 1)) - W (11 + 8 * i) := by
  rw [h, upd_n (by omega), if_pos hn, upd_n (by omega), upd_n (by omega)]
theorem E_X11_bit {i : Nat} {n : Nat} {x0 : Int32} {x1 : Int32} {h : jH} {q : Int32} (hx : x1 = nI i) (h8 : i < 32) (hf : F_X11_bit n x0 x1 h = some q) : q = if bt x0 i = true then 1 else 0 := by
  unfold F_X11_bit at hf
  cases hf
  -- leaf : ((jushr x0 x1) &&& (1 : Int32))
  rw [hx]
  exact b_ask0 h8
theorem E_X11_withBit {i : Nat} {n : Nat} {x0 : Int32} {x1 : Int32} {x2 : Int32} {h : jH} {q : Int32} (hx : x1 = nI i) (hf : F_X11_withBit n x0 x1 x2 h = some q) : q = chV x0 i x2 := by
  unfold F_X11_withBit at hf
  replace hf := jite hf
  rcases hf with ⟨c1, hf⟩ | ⟨c1, hf⟩
  · skip
    cases hf
    -- leaf 0: (x0 &&& (((1 : Int32) <<< (x1 &&& 31)) ^^^ (- 1 : Int32)))
    unfold chV
    rw [if_pos c1, hx]
  · skip
    cases hf
    -- leaf 1: (x0 ||| ((1 : Int32) <<< (x1 &&& 31)))
    unfold chV
    rw [if_neg c1, hx]
theorem E_X11_free {W : jWd} {nx : Nat} {n : Nat} {a0 : Nat} {x1 : Int32} {h : jH} {q : jR × jH} (C : cPre a0 nx W h) (hf : F_X11_free n a0 x1 h = some q) : (¬ (0 ≤ x1.toInt ∧ x1.toInt < (W 0).toInt) ∧ q.1 = .inr 2 ∧ q.2 = h) ∨ ∃ i : Nat, i < 8 ∧ x1 = nI i ∧ (i : Int) < (W 0).toInt ∧ ((W (18 + 8 * i) ≠ 1 ∧ q.1 = .inr 1 ∧ q.2 = h) ∨ (¬ (W (18 + 8 * i) ≠ 1) ∧ (i : Int) + 1 < (W 0).toInt ∧ q.1 = .inl (W (11 + 8 * (i + 1)) - W (11 + 8 * i)) ∧ cAct a0 nx W (upd W (18 + 8 * i) 0) h q.2)) := by
  unfold F_X11_free at hf
  obtain ⟨⟨X1, X3, sA, hx, hn, R, K⟩, hb, hz, sz⟩ := id C
  obtain ⟨⟨s0, s1, s2, s3, s4, s5⟩, ⟨u5, u10, u11, u12, u13, u14, u15, u16, u17⟩, RB, RC, RL⟩ := id R
  replace hf := jbind hf
  obtain ⟨q2, e1, hf⟩ := hf
  replace e1 := (jcv_o e1).2
  have r1 := E_X11_requireRing C e1
  obtain ⟨wq2, h2⟩ := q2
  have hqq : h2 = h := r1.elim (fun y => y.2.2) (fun y => y.2.2)
  subst hqq
  rcases wq2 with r2 | xq2
  · skip
    replace hf := (jthen_l (q := (.inl r2, h2)) rfl).symm.trans hf
    dsimp only at hf
    replace hf := jbind hf
    obtain ⟨p6, e2, hf⟩ := hf
    have r2 := oc_gR e2
    rw [X1] at r2
    cases r2
    clear e2
    replace hf := jbind hf
    obtain ⟨v9, e3, hf⟩ := hf
    have r3 := oc_gI e3
    subst r3
    clear e3
    replace hf := jbind hf
    obtain ⟨v13, e4, hf⟩ := hf
    have P : (0 ≤ x1.toInt ∧ x1.toInt < (W 0).toInt) := by
      rcases r1 with ⟨P, -, -⟩ | ⟨-, y, -⟩
      · exact P
      · cases y
    obtain ⟨i, h8, hi, hi0⟩ := i_ring K P
    have r4 := E_X11_bit (i := i) hi (by omega) e4
    replace hf := jite hf
    rcases hf with ⟨c5, hf⟩ | ⟨c5, hf⟩
    · skip
      cases hf
      -- leaf 0: (.inr 1, h2)
      refine Or.inr ⟨i, h8, hi, hi0, ?_⟩
      exact Or.inl ⟨fun z => absurd ((r4.trans (if_pos ((RB i hi0).2.2.2.2.2.2.2.mpr z))).symm.trans c5) (by decide), rfl, rfl⟩
    · skip
      replace hf := jbind hf
      obtain ⟨p30, e6, hf⟩ := hf
      have r6 := oc_gR e6
      rw [X3] at r6
      cases r6
      clear e6
      replace hf := jbind hf
      obtain ⟨p34, e7, hf⟩ := hf
      have r7 := oc_gR e7
      rw [X1] at r7
      cases r7
      clear e7
      replace hf := jbind hf
      obtain ⟨h37, e8, hf⟩ := hf
      replace e8 := (jcv_o e8).2
      obtain ⟨Y1, RR, AA⟩ := c_rem C e8
      obtain ⟨⟨t0, t1, t2, t3, t4, t5⟩, ⟨g5, g10, g11, g12, g13, g14, g15, g16, g17⟩, QB, QC, QL⟩ := id RR
      replace hf := jbind hf
      obtain ⟨p41, e9, hf⟩ := hf
      have r9 := oc_gR e9
      rw [Y1] at r9
      cases r9
      clear e9
      replace hf := jbind hf
      obtain ⟨p45, e10, hf⟩ := hf
      have r10 := oc_gR e10
      rw [Y1] at r10
      cases r10
      clear e10
      replace hf := jbind hf
      obtain ⟨v48, e11, hf⟩ := hf
      have r11 := oc_gI e11
      subst r11
      clear e11
      replace hf := jbind hf
      obtain ⟨v53, e12, hf⟩ := hf
      have r12 := E_X11_withBit (i := i) hi e12
      subst r12
      replace hf := jbind hf
      obtain ⟨h56, e13, hf⟩ := hf
      obtain ⟨o13, z13⟩ := oc_pf e13
      clear e13
      replace hf := jbind hf
      obtain ⟨p60, e14, hf⟩ := hf
      have r14 := oc_gR e14
      rw [o13] at r14
      rw [u2_ne (Or.inl (by omega))] at r14
      rw [Y1] at r14
      cases r14
      clear e14
      replace hf := jbind hf
      obtain ⟨v65, e15, hf⟩ := hf
      replace e15 := (jcv_o e15).2
      cases hf
      -- leaf 1: (.inl v65, h56)
      refine Or.inr ⟨i, h8, hi, hi0, ?_⟩
      have ct : W (18 + 8 * i) = 1 := Classical.byContradiction fun z => c5 (r4.trans (if_neg fun y => z ((RB i hi0).2.2.2.2.2.2.2.mp y)))
      have hn := ring_next K hi0 ct
      have f7 : frR (a0 + 6) (oc h37) (oc h56) := by rw [o13]; exact frR_u2 (by omega)
      have R7 : rodE (oc h56) (a0 + 6) (upd W (18 + 8 * i) 0) := by rw [o13]; exact rodE_ct RR hi0 h8 (chV_bit (by omega) (Or.inl rfl)) K.1
      have g7 := gap_c hn (E_X8_gap R7 (wOK_ct K (Or.inl rfl)) hi (by omega) e15)
      exact Or.inr ⟨fun z => z ct, hn, by rw [g7], c_mk hz hb AA f7 R7 z13⟩
  · skip
    replace hf := (jthen_r (q := (.inr xq2, h2)) rfl).symm.trans hf
    cases hf
    rcases r1 with ⟨-, y, -⟩ | ⟨P, y, -⟩
    · cases y
    · exact Or.inl ⟨P, y, rfl⟩
theorem E_X11_snag {W : jWd} {nx : Nat} {n : Nat} {a0 : Nat} {x1 : Int32} {h : jH} {q : jR × jH} (C : cPre a0 nx W h) (hf : F_X11_snag n a0 x1 h = some q) : (¬ (0 ≤ x1.toInt ∧ x1.toInt < (W 0).toInt) ∧ q.1 = .inr 2 ∧ q.2 = h) ∨ ∃ i : Nat, i < 8 ∧ x1 = nI i ∧ (i : Int) < (W 0).toInt ∧ ((((i : Int) + 1 = (W 0).toInt ∨ W (18 + 8 * i) = 1) ∧ q.1 = .inr 1 ∧ q.2 = h) ∨ (¬ (((i : Int) + 1 = (W 0).toInt ∨ W (18 + 8 * i) = 1)) ∧ (i : Int) + 1 < (W 0).toInt ∧ q.1 = .inl (W (11 + 8 * (i + 1)) - W (11 + 8 * i)) ∧ cAct a0 nx W (upd W (18 + 8 * i) 1) h q.2)) := by
  unfold F_X11_snag at hf
  obtain ⟨⟨X1, X3, sA, hx, hn, R, K⟩, hb, hz, sz⟩ := id C
  obtain ⟨⟨s0, s1, s2, s3, s4, s5⟩, ⟨u5, u10, u11, u12, u13, u14, u15, u16, u17⟩, RB, RC, RL⟩ := id R
  replace hf := jbind hf
  obtain ⟨q2, e1, hf⟩ := hf
  replace e1 := (jcv_o e1).2
  have r1 := E_X11_requireRing C e1
  obtain ⟨wq2, h2⟩ := q2
  have hqq : h2 = h := r1.elim (fun y => y.2.2) (fun y => y.2.2)
  subst hqq
  rcases wq2 with r2 | xq2
  · skip
    replace hf := (jthen_l (q := (.inl r2, h2)) rfl).symm.trans hf
    dsimp only at hf
    replace hf := jbind hf
    obtain ⟨p7, e2, hf⟩ := hf
    have r2 := oc_gR e2
    rw [X1] at r2
    cases r2
    clear e2
    replace hf := jbind hf
    obtain ⟨v10, e3, hf⟩ := hf
    have r3 := oc_gI e3
    subst r3
    clear e3
    replace hf := jite hf
    rcases hf with ⟨c4, hf⟩ | ⟨c4, hf⟩
    · skip
      cases hf
      -- leaf 0: (.inr 1, h2)
      have P : (0 ≤ x1.toInt ∧ x1.toInt < (W 0).toInt) := by
        rcases r1 with ⟨P, -, -⟩ | ⟨-, y, -⟩
        · exact P
        · cases y
      obtain ⟨i, h8, hi, hi0⟩ := i_ring K P
      have k0 := K.1
      have l1 : (1 : Int32).toInt = 1 := rfl
      rw [u5, hi] at c4
      have y := congrArg Int32.toInt c4
      rw [nI_toInt (by omega), jsub (by omega) (by omega), l1] at y
      refine Or.inr ⟨i, h8, hi, hi0, ?_⟩
      exact Or.inl ⟨Or.inl (by omega), rfl, rfl⟩
    · skip
      replace hf := jbind hf
      obtain ⟨p19, e5, hf⟩ := hf
      have r5 := oc_gR e5
      rw [X1] at r5
      cases r5
      clear e5
      replace hf := jbind hf
      obtain ⟨v22, e6, hf⟩ := hf
      have r6 := oc_gI e6
      subst r6
      clear e6
      replace hf := jbind hf
      obtain ⟨v26, e7, hf⟩ := hf
      have P : (0 ≤ x1.toInt ∧ x1.toInt < (W 0).toInt) := by
        rcases r1 with ⟨P, -, -⟩ | ⟨-, y, -⟩
        · exact P
        · cases y
      obtain ⟨i, h8, hi, hi0⟩ := i_ring K P
      have k0 := K.1
      have l1 : (1 : Int32).toInt = 1 := rfl
      have nl : ¬ (i : Int) + 1 = (W 0).toInt := fun z => c4 (by rw [hi, u5]; exact (nI_k (by rw [jsub (by omega) (by omega)]; omega)).symm)
      have r7 := E_X11_bit (i := i) hi (by omega) e7
      replace hf := jite hf
      rcases hf with ⟨c8, hf⟩ | ⟨c8, hf⟩
      · skip
        cases hf
        -- leaf 10: (.inr 1, h2)
        refine Or.inr ⟨i, h8, hi, hi0, ?_⟩
        exact Or.inl ⟨Or.inr (Classical.byContradiction fun z => absurd ((r7.trans (if_neg fun y => z ((RB i hi0).2.2.2.2.2.2.2.mp y))).symm.trans c8) (by decide)), rfl, rfl⟩
      · skip
        replace hf := jbind hf
        obtain ⟨p44, e9, hf⟩ := hf
        have r9 := oc_gR e9
        rw [X3] at r9
        cases r9
        clear e9
        replace hf := jbind hf
        obtain ⟨p48, e10, hf⟩ := hf
        have r10 := oc_gR e10
        rw [X1] at r10
        cases r10
        clear e10
        replace hf := jbind hf
        obtain ⟨h51, e11, hf⟩ := hf
        replace e11 := (jcv_o e11).2
        obtain ⟨Y1, RR, AA⟩ := c_rem C e11
        obtain ⟨⟨t0, t1, t2, t3, t4, t5⟩, ⟨g5, g10, g11, g12, g13, g14, g15, g16, g17⟩, QB, QC, QL⟩ := id RR
        replace hf := jbind hf
        obtain ⟨p55, e12, hf⟩ := hf
        have r12 := oc_gR e12
        rw [Y1] at r12
        cases r12
        clear e12
        replace hf := jbind hf
        obtain ⟨p59, e13, hf⟩ := hf
        have r13 := oc_gR e13
        rw [Y1] at r13
        cases r13
        clear e13
        replace hf := jbind hf
        obtain ⟨v62, e14, hf⟩ := hf
        have r14 := oc_gI e14
        subst r14
        clear e14
        replace hf := jbind hf
        obtain ⟨v67, e15, hf⟩ := hf
        have r15 := E_X11_withBit (i := i) hi e15
        subst r15
        replace hf := jbind hf
        obtain ⟨h70, e16, hf⟩ := hf
        obtain ⟨o16, z16⟩ := oc_pf e16
        clear e16
        replace hf := jbind hf
        obtain ⟨p74, e17, hf⟩ := hf
        have r17 := oc_gR e17
        rw [o16] at r17
        rw [u2_ne (Or.inl (by omega))] at r17
        rw [Y1] at r17
        cases r17
        clear e17
        replace hf := jbind hf
        obtain ⟨v79, e18, hf⟩ := hf
        replace e18 := (jcv_o e18).2
        cases hf
        -- leaf 11: (.inl v79, h70)
        refine Or.inr ⟨i, h8, hi, hi0, ?_⟩
        have nc : ¬ W (18 + 8 * i) = 1 := fun z => c8 (r7.trans (if_pos ((RB i hi0).2.2.2.2.2.2.2.mpr z)))
        have hn : (i : Int) + 1 < (W 0).toInt := by omega
        have f7 : frR (a0 + 6) (oc h51) (oc h70) := by rw [o16]; exact frR_u2 (by omega)
        have R7 : rodE (oc h70) (a0 + 6) (upd W (18 + 8 * i) 1) := by rw [o16]; exact rodE_ct RR hi0 h8 (chV_bit (by omega) (Or.inr rfl)) K.1
        have g7 := gap_c hn (E_X8_gap R7 (wOK_ct K (Or.inr ⟨rfl, hn⟩)) hi (by omega) e18)
        exact Or.inr ⟨fun z => z.elim nl nc, hn, by rw [g7], c_mk hz hb AA f7 R7 z16⟩
  · skip
    replace hf := (jthen_r (q := (.inr xq2, h2)) rfl).symm.trans hf
    cases hf
    rcases r1 with ⟨-, y, -⟩ | ⟨P, y, -⟩
    · cases y
    · exact Or.inl ⟨P, y, rfl⟩
theorem E_X11_hook {W : jWd} {nx : Nat} {n : Nat} {a0 : Nat} {x1 : Int32} {x2 : Int32} {h : jH} {q : jR × jH} (C : cPre a0 nx W h) (hxb : x2 = 0 ∨ x2 = 1) (hf : F_X11_hook n a0 x1 x2 h = some q) : (¬ (0 ≤ x1.toInt ∧ x1.toInt < (W 0).toInt) ∧ q.1 = .inr 2 ∧ q.2 = h) ∨ ∃ i : Nat, i < 8 ∧ x1 = nI i ∧ (i : Int) < (W 0).toInt ∧ (q.1 = .inl (if W (17 + 8 * i) = x2 then 0 else 1) ∧ cAct a0 nx W (upd W (17 + 8 * i) x2) h q.2) := by
  unfold F_X11_hook at hf
  obtain ⟨⟨X1, X3, sA, hx, hn, R, K⟩, hb, hz, sz⟩ := id C
  obtain ⟨⟨s0, s1, s2, s3, s4, s5⟩, ⟨u5, u10, u11, u12, u13, u14, u15, u16, u17⟩, RB, RC, RL⟩ := id R
  replace hf := jbind hf
  obtain ⟨q2, e1, hf⟩ := hf
  replace e1 := (jcv_o e1).2
  have r1 := E_X11_requireRing C e1
  obtain ⟨wq2, h2⟩ := q2
  have hqq : h2 = h := r1.elim (fun y => y.2.2) (fun y => y.2.2)
  subst hqq
  rcases wq2 with r2 | xq2
  · skip
    replace hf := (jthen_l (q := (.inl r2, h2)) rfl).symm.trans hf
    dsimp only at hf
    replace hf := jbind hf
    obtain ⟨p6, e2, hf⟩ := hf
    have r2 := oc_gR e2
    rw [X3] at r2
    cases r2
    clear e2
    replace hf := jbind hf
    obtain ⟨p10, e3, hf⟩ := hf
    have r3 := oc_gR e3
    rw [X1] at r3
    cases r3
    clear e3
    replace hf := jbind hf
    obtain ⟨h13, e4, hf⟩ := hf
    replace e4 := (jcv_o e4).2
    obtain ⟨Y1, RR, AA⟩ := c_rem C e4
    obtain ⟨⟨t0, t1, t2, t3, t4, t5⟩, ⟨g5, g10, g11, g12, g13, g14, g15, g16, g17⟩, QB, QC, QL⟩ := id RR
    replace hf := jbind hf
    obtain ⟨p17, e5, hf⟩ := hf
    have r5 := oc_gR e5
    rw [Y1] at r5
    cases r5
    clear e5
    replace hf := jbind hf
    obtain ⟨v20, e6, hf⟩ := hf
    have r6 := oc_gI e6
    subst r6
    clear e6
    replace hf := jbind hf
    obtain ⟨p25, e7, hf⟩ := hf
    have r7 := oc_gR e7
    rw [Y1] at r7
    cases r7
    clear e7
    replace hf := jbind hf
    obtain ⟨v31, e8, hf⟩ := hf
    have P : (0 ≤ x1.toInt ∧ x1.toInt < (W 0).toInt) := by
      rcases r1 with ⟨P, -, -⟩ | ⟨-, y, -⟩
      · exact P
      · cases y
    obtain ⟨i, h8, hi, hi0⟩ := i_ring K P
    have r8 := E_X11_withBit (i := i) hi e8
    subst r8
    replace hf := jbind hf
    obtain ⟨h34, e9, hf⟩ := hf
    obtain ⟨o9, z9⟩ := oc_pf e9
    clear e9
    replace hf := jbind hf
    obtain ⟨p38, e10, hf⟩ := hf
    have r10 := oc_gR e10
    rw [o9] at r10
    rw [u2_ne (Or.inl (by omega))] at r10
    rw [Y1] at r10
    cases r10
    clear e10
    replace hf := jbind hf
    obtain ⟨v41, e11, hf⟩ := hf
    have r11 := oc_gI e11
    rw [o9] at r11
    rw [oi_eq] at r11
    subst r11
    clear e11
    replace hf := jite hf
    rcases hf with ⟨c12, hf⟩ | ⟨c12, hf⟩
    · skip
      cases hf
      -- leaf 0: (.inl (0 : Int32), h34)
      have an := chV_ans (v := oi (oc h13) (a0 + 6) 8) (show i < 32 by omega) hxb ⟨(K.2.1 i hi0).2.2.2.2.2.2.1, (QB i hi0).2.2.2.2.2.2.1.symm⟩
      have f7 : frR (a0 + 6) (oc h13) (oc h34) := by rw [o9]; exact frR_u2 (by omega)
      have R7 : rodE (oc h34) (a0 + 6) (upd W (17 + 8 * i) x2) := by rw [o9]; exact rodE_hk RR hi0 h8 (chV_bit (by omega) hxb) K.1
      exact Or.inr ⟨i, h8, hi, hi0, congrArg Sum.inl (if_pos (an.mp c12)).symm, c_mk hz hb AA f7 R7 z9⟩
    · skip
      cases hf
      -- leaf 1: (.inl (1 : Int32), h34)
      have an := chV_ans (v := oi (oc h13) (a0 + 6) 8) (show i < 32 by omega) hxb ⟨(K.2.1 i hi0).2.2.2.2.2.2.1, (QB i hi0).2.2.2.2.2.2.1.symm⟩
      have f7 : frR (a0 + 6) (oc h13) (oc h34) := by rw [o9]; exact frR_u2 (by omega)
      have R7 : rodE (oc h34) (a0 + 6) (upd W (17 + 8 * i) x2) := by rw [o9]; exact rodE_hk RR hi0 h8 (chV_bit (by omega) hxb) K.1
      exact Or.inr ⟨i, h8, hi, hi0, congrArg Sum.inl (if_neg fun z => c12 (an.mpr z)).symm, c_mk hz hb AA f7 R7 z9⟩
  · skip
    replace hf := (jthen_r (q := (.inr xq2, h2)) rfl).symm.trans hf
    cases hf
    rcases r1 with ⟨-, y, -⟩ | ⟨P, y, -⟩
    · cases y
    · exact Or.inl ⟨P, y, rfl⟩
theorem E_X11_chair {W : jWd} {nx : Nat} {n : Nat} {a0 : Nat} {x1 : Int32} {x2 : Int32} {h : jH} {q : jR × jH} (C : cPre a0 nx W h) (hf : F_X11_chair n a0 x1 x2 h = some q) : (¬ (0 ≤ x1.toInt ∧ x1.toInt ≤ 31) ∧ q.1 = .inr 2 ∧ q.2 = h) ∨ ∃ i : Nat, i < 32 ∧ x1 = nI i ∧ q.1 = .inl (if chV (W 7) i x2 = W 7 then 0 else 1) ∧ cAct a0 nx W (upd W 7 (chV (W 7) i x2)) h q.2 := by
  unfold F_X11_chair at hf
  obtain ⟨⟨X1, X3, sA, hx, hn, R, K⟩, hb, hz, sz⟩ := id C
  obtain ⟨⟨s0, s1, s2, s3, s4, s5⟩, ⟨u5, u10, u11, u12, u13, u14, u15, u16, u17⟩, RB, RC, RL⟩ := id R
  replace hf := jbind hf
  obtain ⟨q2, e1, hf⟩ := hf
  replace e1 := (jcv_o e1).2
  have r1 := E_X11_requirePlace e1
  obtain ⟨wq2, h2⟩ := q2
  have hqq : h2 = h := r1.elim (fun y => y.2.2) (fun y => y.2.2)
  subst hqq
  rcases wq2 with r2 | xq2
  · skip
    replace hf := (jthen_l (q := (.inl r2, h2)) rfl).symm.trans hf
    dsimp only at hf
    replace hf := jbind hf
    obtain ⟨p6, e2, hf⟩ := hf
    have r2 := oc_gR e2
    rw [X3] at r2
    cases r2
    clear e2
    replace hf := jbind hf
    obtain ⟨p10, e3, hf⟩ := hf
    have r3 := oc_gR e3
    rw [X1] at r3
    cases r3
    clear e3
    replace hf := jbind hf
    obtain ⟨h13, e4, hf⟩ := hf
    replace e4 := (jcv_o e4).2
    obtain ⟨Y1, RR, AA⟩ := c_rem C e4
    obtain ⟨⟨t0, t1, t2, t3, t4, t5⟩, ⟨g5, g10, g11, g12, g13, g14, g15, g16, g17⟩, QB, QC, QL⟩ := id RR
    replace hf := jbind hf
    obtain ⟨p17, e5, hf⟩ := hf
    have r5 := oc_gR e5
    rw [Y1] at r5
    cases r5
    clear e5
    replace hf := jbind hf
    obtain ⟨v20, e6, hf⟩ := hf
    have r6 := oc_gI e6
    subst r6
    clear e6
    replace hf := jbind hf
    obtain ⟨p25, e7, hf⟩ := hf
    have r7 := oc_gR e7
    rw [Y1] at r7
    cases r7
    clear e7
    replace hf := jbind hf
    obtain ⟨v31, e8, hf⟩ := hf
    have P : (0 ≤ x1.toInt ∧ x1.toInt ≤ 31) := by
      rcases r1 with ⟨P, -, -⟩ | ⟨-, y, -⟩
      · exact P
      · cases y
    obtain ⟨i, h8, hi⟩ := i_place P
    have r8 := E_X11_withBit (i := i) hi e8
    subst r8
    replace hf := jbind hf
    obtain ⟨h34, e9, hf⟩ := hf
    obtain ⟨o9, z9⟩ := oc_pf e9
    clear e9
    replace hf := jbind hf
    obtain ⟨p38, e10, hf⟩ := hf
    have r10 := oc_gR e10
    rw [o9] at r10
    rw [u2_ne (Or.inl (by omega))] at r10
    rw [Y1] at r10
    cases r10
    clear e10
    replace hf := jbind hf
    obtain ⟨v41, e11, hf⟩ := hf
    have r11 := oc_gI e11
    rw [o9] at r11
    rw [oi_eq] at r11
    subst r11
    clear e11
    replace hf := jite hf
    rcases hf with ⟨c12, hf⟩ | ⟨c12, hf⟩
    · skip
      cases hf
      -- leaf 0: (.inl (0 : Int32), h34)
      rw [g10] at c12
      have f7 : frR (a0 + 6) (oc h13) (oc h34) := by rw [o9]; exact frR_u2 (by omega)
      have R7 : rodE (oc h34) (a0 + 6) (upd W 7 (chV (W 7) i x2)) := by rw [o9, g10]; exact rodE_i10 RR
      exact Or.inr ⟨i, h8, hi, congrArg Sum.inl (if_pos c12).symm, c_mk hz hb AA f7 R7 z9⟩
    · skip
      cases hf
      -- leaf 1: (.inl (1 : Int32), h34)
      rw [g10] at c12
      have f7 : frR (a0 + 6) (oc h13) (oc h34) := by rw [o9]; exact frR_u2 (by omega)
      have R7 : rodE (oc h34) (a0 + 6) (upd W 7 (chV (W 7) i x2)) := by rw [o9, g10]; exact rodE_i10 RR
      exact Or.inr ⟨i, h8, hi, congrArg Sum.inl (if_neg c12).symm, c_mk hz hb AA f7 R7 z9⟩
  · skip
    replace hf := (jthen_r (q := (.inr xq2, h2)) rfl).symm.trans hf
    cases hf
    rcases r1 with ⟨-, y, -⟩ | ⟨P, y, -⟩
    · cases y
    · exact Or.inl ⟨P, y, rfl⟩
theorem E_X11_seed {W : jWd} {n : Nat} {a0 : Nat} {x1 : Int32} {h : jH} {q : Int32 × jH} (X1 : oc h a0 1 = .ref (a0 + 6)) (R : rodE (oc h) (a0 + 6) W) (hf : F_X11_seed n a0 x1 h = some q) : q.1 = W 10 ∧ rodE (oc q.2) (a0 + 6) (upd W 10 x1) ∧ frR (a0 + 6) (oc h) (oc q.2) ∧ q.2.1 = h.1 := by
  unfold F_X11_seed at hf
  obtain ⟨-, ⟨u5, u10, u11, u12, u13, u14, u15, u16, u17⟩, -⟩ := id R
  replace hf := jbind hf
  obtain ⟨p1, e1, hf⟩ := hf
  have r1 := oc_gR e1
  rw [X1] at r1
  cases r1
  clear e1
  replace hf := jbind hf
  obtain ⟨v4, e2, hf⟩ := hf
  have r2 := oc_gI e2
  subst r2
  clear e2
  replace hf := jbind hf
  obtain ⟨p9, e3, hf⟩ := hf
  have r3 := oc_gR e3
  rw [X1] at r3
  cases r3
  clear e3
  replace hf := jbind hf
  obtain ⟨h13, e4, hf⟩ := hf
  obtain ⟨o4, z4⟩ := oc_pf e4
  clear e4
  cases hf
  -- leaf : (v4, h13)
  have f7 : frR (a0 + 6) (oc h) (oc h13) := by rw [o4]; exact frR_u2 (by omega)
  have R7 : rodE (oc h13) (a0 + 6) (upd W 10 x1) := by rw [o4]; exact rodE_i16 R
  exact ⟨u16, R7, f7, z4⟩
end
