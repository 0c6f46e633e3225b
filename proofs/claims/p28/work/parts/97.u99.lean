/-! acts of the reference: let, free, snag, seed, hook, chair -/
theorem ring_next {W : jWd} {i : Nat} (K : wOK W) (hi : (i : Int) < (W 0).toInt) (h : W (18 + 8 * i) = 1) : (i : Int) + 1 < (W 0).toInt := by
  obtain ⟨-, -, -, k4, -⟩ := K
  by_cases e : (i : Int) + 1 = (W 0).toInt
  · exact absurd ((k4 i e).symm.trans h) (by decide)
  · omega
theorem gap_ct {W : jWd} {m i : Nat} {O : jO} {x v : Int32} (w : wl O m = upd W (18 + 8 * i) x) (hn : (i : Int) + 1 < (W 0).toInt) (h : v = if (i : Int) + 1 < (wl O m 0).toInt then wl O m (11 + 8 * (i + 1)) - wl O m (11 + 8 * i) else 99) : v = W (11 + 8 * (i + 1)) - W (11 + 8 * i) := by
  rw [h, w, upd_n (by omega), if_pos hn, upd_n (by omega), upd_n (by omega)]
theorem bool_eq {v w : Int32} (a : v = 0 ∨ v = 1) (b : v = 1 ↔ w = 1) (c : w = 0 ∨ w = 1) : v = w := by
  rcases a with a | a
  · rcases c with c | c
    · rw [a, c]
    · exact absurd (a.symm.trans (b.mpr c)) (by decide)
  · rw [a, b.mp a]
/-- a chair put or taken -/
def chV (v : Int32) (k : Nat) (x : Int32) : Int32 := if x = 0 then v &&& (((1 : Int32) <<< (nI k &&& 31)) ^^^ (-1 : Int32)) else v ||| ((1 : Int32) <<< (nI k &&& 31))
theorem chr_eq {v : Int32} {k : Nat} (hk : k < 32) : (v &&& (((1 : Int32) <<< (nI k &&& 31)) ^^^ (-1 : Int32))) ||| ((1 : Int32) <<< (nI k &&& 31)) = v ||| ((1 : Int32) <<< (nI k &&& 31)) := b_ext fun i hi => by
  rw [b_set hk hi, b_clr hk hi, b_set hk hi]
  by_cases e : i = k <;> simp [e]
theorem chV_ans {v x b : Int32} {k : Nat} (hk : k < 32) (hx : x = 0 ∨ x = 1) (r : (b = 0 ∨ b = 1) ∧ (b = 1 ↔ bt v k = true)) : chV v k x = v ↔ b = x := by
  rcases hx with rfl | rfl
  · unfold chV
    rw [if_pos rfl]
    constructor
    · intro e
      refine r.1.resolve_right fun z => ?_
      have y := r.2.mp z
      rw [← e, b_clr hk hk] at y
      simp at y
    · intro e
      refine b_ext fun i hi => ?_
      rw [b_clr hk hi]
      by_cases w : i = k
      · subst w
        have nb : bt v i = false := by
          cases z : bt v i
          · rfl
          · exact absurd ((r.2.mpr z).symm.trans e) (by decide)
        rw [nb]; rfl
      · simp [w]
  · unfold chV
    rw [if_neg (by decide)]
    constructor
    · intro e
      refine r.2.mpr ?_
      rw [← e, b_set hk hk]
      simp
    · intro e
      have y := r.2.mp e
      refine b_ext fun i hi => ?_
      rw [b_set hk hi]
      by_cases w : i = k
      · subst w; rw [y]; rfl
      · simp [w]
theorem i_place {x : Int32} (h : 0 ≤ x.toInt ∧ x.toInt ≤ 31) : ∃ i : Nat, i < 32 ∧ x = nI i := ⟨x.toInt.toNat, by omega, nI_k (by omega)⟩
theorem E_X12_let {W : jWd} {r : Nat} {n : Nat} {a0 : Nat} {x1 : Int32} {x2 : Int32} {h : jH} {q : Int32 × jH} (M : mS (oc h) a0) (hW : wl (oc h) a0 = W) (K : wOK W) (h7 : oi (oc h) a0 7 = nI r) (hr : r ≤ 12) (hf : F_X12_let n a0 x1 x2 h = some q) : (¬ (0 ≤ x1.toInt ∧ x1.toInt < (W 0).toInt) ∧ q.1 = 0 ∧ rTh a0 1 h q.2) ∨ ∃ i : Nat, i < 8 ∧ x1 = nI i ∧ (i : Int) < (W 0).toInt ∧ ((¬ (0 ≤ x2.toInt ∧ x2.toInt ≤ 9) ∧ q.1 = 0 ∧ rTh a0 2 h q.2) ∨ ((0 ≤ x2.toInt ∧ x2.toInt ≤ 9) ∧ q.1 = W (16 + 8 * i) ∧ rAct a0 r (upd W (16 + 8 * i) x2) h q.2)) := by
  unfold F_X12_let at hf
  replace hf := jbind hf
  obtain ⟨h2, e1, hf⟩ := hf
  obtain ⟨o1, z1⟩ := oc_pf e1
  clear e1
  replace hf := jbind hf
  obtain ⟨v8, e2, hf⟩ := hf
  replace e2 := (jcv_o e2).2
  have T1 : rTh a0 0 h h2 := ⟨by rw [o1, oi_eq], by rw [o1]; exact frM_f (by decide), z1⟩
  obtain ⟨M1, w1, g1⟩ := rTh_W T1 M hW h7
  have r2 := E_X12_noRing M1 w1 K e2
  replace hf := jbind hf
  obtain ⟨q12, e3, hf⟩ := hf
  replace e3 := (jcv_o e3).2
  have r3 := E_X12_throwsIf r2.1 e3
  replace hf := jite hf
  rcases hf with ⟨c4, hf⟩ | ⟨c4, hf⟩
  · skip
    replace hf := jbind hf
    obtain ⟨v23, e5, hf⟩ := hf
    have r5 := E_X12_in e5
    replace hf := jite hf
    rcases hf with ⟨c6, hf⟩ | ⟨c6, hf⟩
    · skip
      -- leaf 00: F_X12_let_34 n a0 x1 x2 a0 (1 : Int32) q12.2
      have hq : q12.2 = h2 := by
        rcases r3 with ⟨-, -, y⟩ | ⟨-, y, -⟩
        · exact y
        · exact absurd (y.symm.trans c4) (by decide)
      have hv : v8 = 0 := by
        rcases r3 with ⟨y, -, -⟩ | ⟨-, y, -⟩
        · exact y
        · exact absurd (y.symm.trans c4) (by decide)
      obtain ⟨i, h8, hi, hi0⟩ := i_ring K (Classical.byContradiction fun z => absurd ((r2.2.mpr z).symm.trans hv) (by decide))
      have l0 : (0 : Int32).toInt = 0 := rfl
      have l9 : (9 : Int32).toInt = 9 := rfl
      rw [l0, l9] at r5
      rw [hq] at hf
      refine Or.inr ⟨i, h8, hi, hi0, ?_⟩
      rcases E_X12_let_34 (W := W) (r := r) (i := i) M1 w1 K g1 hr T1.1 rfl (Or.inr rfl) hi h8 hf with ⟨-, b, T⟩ | ⟨s, -, -⟩
      · exact Or.inl ⟨fun z => absurd ((r5.2.mpr z).symm.trans c6) (by decide), b, rTh_tr T1 T⟩
      · exact absurd s (by decide)
    · skip
      -- leaf 01: F_X12_let_34 n a0 x1 x2 a0 (0 : Int32) q12.2
      have hq : q12.2 = h2 := by
        rcases r3 with ⟨-, -, y⟩ | ⟨-, y, -⟩
        · exact y
        · exact absurd (y.symm.trans c4) (by decide)
      have hv : v8 = 0 := by
        rcases r3 with ⟨y, -, -⟩ | ⟨-, y, -⟩
        · exact y
        · exact absurd (y.symm.trans c4) (by decide)
      obtain ⟨i, h8, hi, hi0⟩ := i_ring K (Classical.byContradiction fun z => absurd ((r2.2.mpr z).symm.trans hv) (by decide))
      have l0 : (0 : Int32).toInt = 0 := rfl
      have l9 : (9 : Int32).toInt = 9 := rfl
      rw [l0, l9] at r5
      rw [hq] at hf
      refine Or.inr ⟨i, h8, hi, hi0, ?_⟩
      rcases E_X12_let_34 (W := W) (r := r) (i := i) M1 w1 K g1 hr T1.1 rfl (Or.inl rfl) hi h8 hf with ⟨s, -, -⟩ | ⟨-, b, A⟩
      · exact absurd s (by decide)
      · exact Or.inr ⟨r5.2.mp (r5.1.resolve_left c6), b, rAct_tr T1 A⟩
  · skip
    cases hf
    -- leaf 1: ((0 : Int32), q12.2)
    rcases r3 with ⟨-, y, -⟩ | ⟨s, -, T⟩
    · exact absurd y c4
    · exact Or.inl ⟨r2.2.mp s, rfl, rTh_tr T1 T⟩
theorem E_X12_free_34 {W : jWd} {r : Nat} {i : Nat} {n : Nat} {a0 : Nat} {x1 : Int32} {sa0 : Nat} {s1 : Int32} {h : jH} {q : Int32 × jH} (M : mS (oc h) a0) (hW : wl (oc h) a0 = W) (K : wOK W) (h7 : oi (oc h) a0 7 = nI r) (hr : r ≤ 12) (z0 : oi (oc h) a0 0 = 0) (hs : a0 = sa0) (h01 : s1 = 0 ∨ s1 = 1) (hi : x1 = nI i) (h8 : i < 8) (hn : s1 = 0 → (i : Int) + 1 < (W 0).toInt) (hf : F_X12_free_34 n a0 x1 sa0 s1 h = some q) : (s1 = 1 ∧ q.1 = 0 ∧ rTh a0 2 h q.2) ∨ (s1 = 0 ∧ q.1 = W (11 + 8 * (i + 1)) - W (11 + 8 * i) ∧ rAct a0 r (upd W (18 + 8 * i) 0) h q.2) := by
  unfold F_X12_free_34 at hf
  subst hs
  replace hf := jbind hf
  obtain ⟨q35, e1, hf⟩ := hf
  replace e1 := (jcv_o e1).2
  have r1 := E_X12_throwsIf h01 e1
  replace hf := jite hf
  rcases hf with ⟨c2, hf⟩ | ⟨c2, hf⟩
  · skip
    replace hf := jbind hf
    obtain ⟨h44, e3, hf⟩ := hf
    replace e3 := (jcv_o e3).2
    have hq : q35.2 = h := by
      rcases r1 with ⟨-, -, y⟩ | ⟨-, y, -⟩
      · exact y
      · exact absurd (y.symm.trans c2) (by decide)
    rw [hq] at e3
    have R3 : rRM a0 r h h44 := E_X12_remembers M h7 hr e3
    have M3 : mS (oc h44) a0 := mS_fr M R3.2.2.2.1 (by decide) (by decide)
    obtain ⟨t1, t2, t3, t4, t5, t8, t15, t17, t19, t20, t21⟩ := id M3
    have w3 : wl (oc h44) a0 = W := (wl_f R3.2.2.2.1 (by decide)).trans hW
    replace hf := jbind hf
    obtain ⟨p48, e4, hf⟩ := hf
    have r4 := oc_gR e4
    rw [t1] at r4
    cases r4
    clear e4
    replace hf := jbind hf
    obtain ⟨v54, e5, hf⟩ := hf
    have r5 := E_X12_at (i := i) (j := 7) (t := 18 + 8 * i) hi rfl (by omega) e5
    replace hf := jbind hf
    obtain ⟨h58, e6, hf⟩ := hf
    obtain ⟨o6, z6, y6⟩ := oc_as e6
    rw [jnar0] at o6
    clear e6
    replace hf := jbind hf
    obtain ⟨v61, e7, hf⟩ := hf
    replace e7 := (jcv_o e7).2
    cases hf
    -- leaf 0: (v61, h58)
    rcases r1 with ⟨s, -, -⟩ | ⟨-, y, -⟩
    · have hn := hn s
      rw [r5, nI_cl (by omega)] at o6
      have f7 : frM a0 [1, 8] [] (oc h44) (oc h58) := by rw [o6]; exact frM_c (by decide)
      have w7 : wl (oc h58) a0 = upd W (18 + 8 * i) 0 := by rw [o6, wl_w, w3]
      have K7 : wOK (wl (oc h58) a0) := by rw [w7]; exact wOK_ct K (Or.inl rfl)
      have g7 := gap_ct w7 hn (E_X12_gapOf (mS_fr M3 f7 (by decide) (by decide)) K7 hi (by rw [w7, upd_n (by omega)]; omega) e7)
      exact Or.inr ⟨s, g7, rAct_mk z0 R3 f7 w7 z6⟩
    · exact absurd (y.symm.trans c2) (by decide)
  · skip
    cases hf
    -- leaf 1: ((0 : Int32), q35.2)
    rcases r1 with ⟨-, y, -⟩ | ⟨s, -, T⟩
    · exact absurd y c2
    · exact Or.inl ⟨s, rfl, T⟩
theorem E_X12_snag_42 {W : jWd} {r : Nat} {i : Nat} {n : Nat} {a0 : Nat} {x1 : Int32} {sa0 : Nat} {s1 : Int32} {h : jH} {q : Int32 × jH} (M : mS (oc h) a0) (hW : wl (oc h) a0 = W) (K : wOK W) (h7 : oi (oc h) a0 7 = nI r) (hr : r ≤ 12) (z0 : oi (oc h) a0 0 = 0) (hs : a0 = sa0) (h01 : s1 = 0 ∨ s1 = 1) (hi : x1 = nI i) (h8 : i < 8) (hn : s1 = 0 → (i : Int) + 1 < (W 0).toInt) (hf : F_X12_snag_42 n a0 x1 sa0 s1 h = some q) : (s1 = 1 ∧ q.1 = 0 ∧ rTh a0 2 h q.2) ∨ (s1 = 0 ∧ q.1 = W (11 + 8 * (i + 1)) - W (11 + 8 * i) ∧ rAct a0 r (upd W (18 + 8 * i) 1) h q.2) := by
  unfold F_X12_snag_42 at hf
  subst hs
  replace hf := jbind hf
  obtain ⟨q43, e1, hf⟩ := hf
  replace e1 := (jcv_o e1).2
  have r1 := E_X12_throwsIf h01 e1
  replace hf := jite hf
  rcases hf with ⟨c2, hf⟩ | ⟨c2, hf⟩
  · skip
    replace hf := jbind hf
    obtain ⟨h52, e3, hf⟩ := hf
    replace e3 := (jcv_o e3).2
    have hq : q43.2 = h := by
      rcases r1 with ⟨-, -, y⟩ | ⟨-, y, -⟩
      · exact y
      · exact absurd (y.symm.trans c2) (by decide)
    rw [hq] at e3
    have R3 : rRM a0 r h h52 := E_X12_remembers M h7 hr e3
    have M3 : mS (oc h52) a0 := mS_fr M R3.2.2.2.1 (by decide) (by decide)
    obtain ⟨t1, t2, t3, t4, t5, t8, t15, t17, t19, t20, t21⟩ := id M3
    have w3 : wl (oc h52) a0 = W := (wl_f R3.2.2.2.1 (by decide)).trans hW
    replace hf := jbind hf
    obtain ⟨p56, e4, hf⟩ := hf
    have r4 := oc_gR e4
    rw [t1] at r4
    cases r4
    clear e4
    replace hf := jbind hf
    obtain ⟨v62, e5, hf⟩ := hf
    have r5 := E_X12_at (i := i) (j := 7) (t := 18 + 8 * i) hi rfl (by omega) e5
    replace hf := jbind hf
    obtain ⟨h66, e6, hf⟩ := hf
    obtain ⟨o6, z6, y6⟩ := oc_as e6
    rw [jnar0] at o6
    clear e6
    replace hf := jbind hf
    obtain ⟨v69, e7, hf⟩ := hf
    replace e7 := (jcv_o e7).2
    cases hf
    -- leaf 0: (v69, h66)
    rcases r1 with ⟨s, -, -⟩ | ⟨-, y, -⟩
    · have hn := hn s
      rw [r5, nI_cl (by omega)] at o6
      have f7 : frM a0 [1, 8] [] (oc h52) (oc h66) := by rw [o6]; exact frM_c (by decide)
      have w7 : wl (oc h66) a0 = upd W (18 + 8 * i) 1 := by rw [o6, wl_w, w3]
      have K7 : wOK (wl (oc h66) a0) := by rw [w7]; exact wOK_ct K (Or.inr ⟨rfl, hn⟩)
      have g7 := gap_ct w7 hn (E_X12_gapOf (mS_fr M3 f7 (by decide) (by decide)) K7 hi (by rw [w7, upd_n (by omega)]; omega) e7)
      exact Or.inr ⟨s, g7, rAct_mk z0 R3 f7 w7 z6⟩
    · exact absurd (y.symm.trans c2) (by decide)
  · skip
    cases hf
    -- leaf 1: ((0 : Int32), q43.2)
    rcases r1 with ⟨-, y, -⟩ | ⟨s, -, T⟩
    · exact absurd y c2
    · exact Or.inl ⟨s, rfl, T⟩
theorem E_X12_free {W : jWd} {r : Nat} {n : Nat} {a0 : Nat} {x1 : Int32} {h : jH} {q : Int32 × jH} (M : mS (oc h) a0) (hW : wl (oc h) a0 = W) (K : wOK W) (h7 : oi (oc h) a0 7 = nI r) (hr : r ≤ 12) (hf : F_X12_free n a0 x1 h = some q) : (¬ (0 ≤ x1.toInt ∧ x1.toInt < (W 0).toInt) ∧ q.1 = 0 ∧ rTh a0 1 h q.2) ∨ ∃ i : Nat, i < 8 ∧ x1 = nI i ∧ (i : Int) < (W 0).toInt ∧ ((W (18 + 8 * i) ≠ 1 ∧ q.1 = 0 ∧ rTh a0 2 h q.2) ∨ (¬ (W (18 + 8 * i) ≠ 1) ∧ (i : Int) + 1 < (W 0).toInt ∧ q.1 = W (11 + 8 * (i + 1)) - W (11 + 8 * i) ∧ rAct a0 r (upd W (18 + 8 * i) 0) h q.2)) := by
  unfold F_X12_free at hf
  replace hf := jbind hf
  obtain ⟨h2, e1, hf⟩ := hf
  obtain ⟨o1, z1⟩ := oc_pf e1
  clear e1
  replace hf := jbind hf
  obtain ⟨v8, e2, hf⟩ := hf
  replace e2 := (jcv_o e2).2
  have T1 : rTh a0 0 h h2 := ⟨by rw [o1, oi_eq], by rw [o1]; exact frM_f (by decide), z1⟩
  obtain ⟨M1, w1, g1⟩ := rTh_W T1 M hW h7
  have r2 := E_X12_noRing M1 w1 K e2
  replace hf := jbind hf
  obtain ⟨q12, e3, hf⟩ := hf
  replace e3 := (jcv_o e3).2
  have r3 := E_X12_throwsIf r2.1 e3
  replace hf := jite hf
  rcases hf with ⟨c4, hf⟩ | ⟨c4, hf⟩
  · skip
    replace hf := jbind hf
    obtain ⟨v23, e5, hf⟩ := hf
    replace e5 := (jcv_o e5).2
    have hq : q12.2 = h2 := by
      rcases r3 with ⟨-, -, y⟩ | ⟨-, y, -⟩
      · exact y
      · exact absurd (y.symm.trans c4) (by decide)
    have hv : v8 = 0 := by
      rcases r3 with ⟨y, -, -⟩ | ⟨-, y, -⟩
      · exact y
      · exact absurd (y.symm.trans c4) (by decide)
    obtain ⟨i, h8, hi, hi0⟩ := i_ring K (Classical.byContradiction fun z => absurd ((r2.2.mpr z).symm.trans hv) (by decide))
    have M5 : mS (oc q12.2) a0 := by rw [hq]; exact M1
    have w5 : wl (oc q12.2) a0 = W := by rw [hq]; exact w1
    have r5 := E_X12_is (i := i) (j := 7) (t := 18 + 8 * i) M5 hi rfl (by omega) (by omega) e5
    rw [w5] at r5
    replace hf := jite hf
    rcases hf with ⟨c6, hf⟩ | ⟨c6, hf⟩
    · skip
      -- leaf 00: F_X12_free_34 n a0 x1 a0 (1 : Int32) q12.2
      rw [hq] at hf
      refine Or.inr ⟨i, h8, hi, hi0, ?_⟩
      rcases E_X12_free_34 (W := W) (r := r) (i := i) M1 w1 K g1 hr T1.1 rfl (Or.inr rfl) hi h8 (fun z => absurd z (by decide)) hf with ⟨-, b, T⟩ | ⟨s, -, -⟩
      · exact Or.inl ⟨fun z => absurd ((r5.2.mpr z).symm.trans c6) (by decide), b, rTh_tr T1 T⟩
      · exact absurd s (by decide)
    · skip
      -- leaf 01: F_X12_free_34 n a0 x1 a0 (0 : Int32) q12.2
      rw [hq] at hf
      have ct := r5.2.mp (r5.1.resolve_left c6)
      have hn := ring_next K hi0 ct
      refine Or.inr ⟨i, h8, hi, hi0, ?_⟩
      rcases E_X12_free_34 (W := W) (r := r) (i := i) M1 w1 K g1 hr T1.1 rfl (Or.inl rfl) hi h8 (fun _ => hn) hf with ⟨s, -, -⟩ | ⟨-, b, A⟩
      · exact absurd s (by decide)
      · exact Or.inr ⟨fun z => z ct, hn, b, rAct_tr T1 A⟩
  · skip
    cases hf
    -- leaf 1: ((0 : Int32), q12.2)
    rcases r3 with ⟨-, y, -⟩ | ⟨s, -, T⟩
    · exact absurd y c4
    · exact Or.inl ⟨r2.2.mp s, rfl, rTh_tr T1 T⟩
theorem E_X12_snag {W : jWd} {r : Nat} {n : Nat} {a0 : Nat} {x1 : Int32} {h : jH} {q : Int32 × jH} (M : mS (oc h) a0) (hW : wl (oc h) a0 = W) (K : wOK W) (h7 : oi (oc h) a0 7 = nI r) (hr : r ≤ 12) (hf : F_X12_snag n a0 x1 h = some q) : (¬ (0 ≤ x1.toInt ∧ x1.toInt < (W 0).toInt) ∧ q.1 = 0 ∧ rTh a0 1 h q.2) ∨ ∃ i : Nat, i < 8 ∧ x1 = nI i ∧ (i : Int) < (W 0).toInt ∧ ((((i : Int) + 1 = (W 0).toInt ∨ W (18 + 8 * i) = 1) ∧ q.1 = 0 ∧ rTh a0 2 h q.2) ∨ (¬ (((i : Int) + 1 = (W 0).toInt ∨ W (18 + 8 * i) = 1)) ∧ (i : Int) + 1 < (W 0).toInt ∧ q.1 = W (11 + 8 * (i + 1)) - W (11 + 8 * i) ∧ rAct a0 r (upd W (18 + 8 * i) 1) h q.2)) := by
  unfold F_X12_snag at hf
  replace hf := jbind hf
  obtain ⟨h2, e1, hf⟩ := hf
  obtain ⟨o1, z1⟩ := oc_pf e1
  clear e1
  replace hf := jbind hf
  obtain ⟨v8, e2, hf⟩ := hf
  replace e2 := (jcv_o e2).2
  have T1 : rTh a0 0 h h2 := ⟨by rw [o1, oi_eq], by rw [o1]; exact frM_f (by decide), z1⟩
  obtain ⟨M1, w1, g1⟩ := rTh_W T1 M hW h7
  have r2 := E_X12_noRing M1 w1 K e2
  replace hf := jbind hf
  obtain ⟨q12, e3, hf⟩ := hf
  replace e3 := (jcv_o e3).2
  have r3 := E_X12_throwsIf r2.1 e3
  replace hf := jite hf
  rcases hf with ⟨c4, hf⟩ | ⟨c4, hf⟩
  · skip
    replace hf := jbind hf
    obtain ⟨v21, e5, hf⟩ := hf
    replace e5 := (jcv_o e5).2
    have hq : q12.2 = h2 := by
      rcases r3 with ⟨-, -, y⟩ | ⟨-, y, -⟩
      · exact y
      · exact absurd (y.symm.trans c4) (by decide)
    have hv : v8 = 0 := by
      rcases r3 with ⟨y, -, -⟩ | ⟨-, y, -⟩
      · exact y
      · exact absurd (y.symm.trans c4) (by decide)
    obtain ⟨i, h8, hi, hi0⟩ := i_ring K (Classical.byContradiction fun z => absurd ((r2.2.mpr z).symm.trans hv) (by decide))
    have M5 : mS (oc q12.2) a0 := by rw [hq]; exact M1
    have w5 : wl (oc q12.2) a0 = W := by rw [hq]; exact w1
    have r5 := E_X12_lastRing M5 e5
    rw [w5] at r5
    replace hf := jite hf
    rcases hf with ⟨c6, hf⟩ | ⟨c6, hf⟩
    · skip
      -- leaf 00: F_X12_snag_42 n a0 x1 a0 (1 : Int32) q12.2
      have k0 := K.1
      have l1 : (1 : Int32).toInt = 1 := rfl
      rw [r5, hi] at c6
      have y := congrArg Int32.toInt c6
      rw [nI_toInt (by omega), jsub (by omega) (by omega), l1] at y
      rw [hq] at hf
      refine Or.inr ⟨i, h8, hi, hi0, ?_⟩
      rcases E_X12_snag_42 (W := W) (r := r) (i := i) M1 w1 K g1 hr T1.1 rfl (Or.inr rfl) hi h8 (fun z => absurd z (by decide)) hf with ⟨-, b, T⟩ | ⟨s, -, -⟩
      · exact Or.inl ⟨Or.inl (by omega), b, rTh_tr T1 T⟩
      · exact absurd s (by decide)
    · skip
      replace hf := jbind hf
      obtain ⟨v31, e7, hf⟩ := hf
      replace e7 := (jcv_o e7).2
      have r7 := E_X12_is (i := i) (j := 7) (t := 18 + 8 * i) M5 hi rfl (by omega) (by omega) e7
      rw [w5] at r7
      replace hf := jite hf
      rcases hf with ⟨c8, hf⟩ | ⟨c8, hf⟩
      · skip
        -- leaf 010: F_X12_snag_42 n a0 x1 a0 (0 : Int32) q12.2
        have k0 := K.1
        have l1 : (1 : Int32).toInt = 1 := rfl
        have nl : ¬ (i : Int) + 1 = (W 0).toInt := fun z => c6 (by rw [hi, r5]; exact (nI_k (by rw [jsub (by omega) (by omega)]; omega)).symm)
        rw [hq] at hf
        have nc : ¬ W (18 + 8 * i) = 1 := fun z => absurd ((r7.2.mpr z).symm.trans c8) (by decide)
        refine Or.inr ⟨i, h8, hi, hi0, ?_⟩
        rcases E_X12_snag_42 (W := W) (r := r) (i := i) M1 w1 K g1 hr T1.1 rfl (Or.inl rfl) hi h8 (fun _ => by omega) hf with ⟨s, -, -⟩ | ⟨-, b, A⟩
        · exact absurd s (by decide)
        · exact Or.inr ⟨fun z => z.elim nl nc, by omega, b, rAct_tr T1 A⟩
      · skip
        -- leaf 011: F_X12_snag_42 n a0 x1 a0 (1 : Int32) q12.2
        rw [hq] at hf
        refine Or.inr ⟨i, h8, hi, hi0, ?_⟩
        rcases E_X12_snag_42 (W := W) (r := r) (i := i) M1 w1 K g1 hr T1.1 rfl (Or.inr rfl) hi h8 (fun z => absurd z (by decide)) hf with ⟨-, b, T⟩ | ⟨s, -, -⟩
        · exact Or.inl ⟨Or.inr (r7.2.mp (r7.1.resolve_left c8)), b, rTh_tr T1 T⟩
        · exact absurd s (by decide)
  · skip
    cases hf
    -- leaf 1: ((0 : Int32), q12.2)
    rcases r3 with ⟨-, y, -⟩ | ⟨s, -, T⟩
    · exact absurd y c4
    · exact Or.inl ⟨r2.2.mp s, rfl, rTh_tr T1 T⟩
theorem E_X12_seed {W : jWd} {n : Nat} {a0 : Nat} {x1 : Int32} {h : jH} {q : Int32 × jH} (M : mS (oc h) a0) (hW : wl (oc h) a0 = W) (hf : F_X12_seed n a0 x1 h = some q) : q.1 = W 10 ∧ oi (oc q.2) a0 0 = 0 ∧ wl (oc q.2) a0 = upd W 10 x1 ∧ frM a0 [1] [0] (oc h) (oc q.2) ∧ q.2.1 = h.1 := by
  unfold F_X12_seed at hf
  obtain ⟨s1, s2, s3, s4, s5, s8, s15, s17, s19, s20, s21⟩ := id M
  replace hf := jbind hf
  obtain ⟨h2, e1, hf⟩ := hf
  obtain ⟨o1, z1⟩ := oc_pf e1
  clear e1
  replace hf := jbind hf
  obtain ⟨p6, e2, hf⟩ := hf
  have r2 := oc_gR e2
  rw [o1] at r2
  rw [u2_ne (Or.inr (by decide))] at r2
  rw [s1] at r2
  cases r2
  clear e2
  replace hf := jbind hf
  obtain ⟨v11, e3, hf⟩ := hf
  obtain ⟨r3, y3⟩ := oc_al e3
  rw [show (10 : Int32).toNatClampNeg = 10 from rfl] at r3
  rw [o1] at r3
  rw [oi_ne (Or.inl (by omega))] at r3
  subst r3
  clear e3
  replace hf := jbind hf
  obtain ⟨p14, e4, hf⟩ := hf
  have r4 := oc_gR e4
  rw [o1] at r4
  rw [u2_ne (Or.inr (by decide))] at r4
  rw [s1] at r4
  cases r4
  clear e4
  replace hf := jbind hf
  obtain ⟨h20, e5, hf⟩ := hf
  obtain ⟨o5, z5, y5⟩ := oc_as e5
  rw [jnar0] at o5
  rw [show (10 : Int32).toNatClampNeg = 10 from rfl] at o5
  clear e5
  cases hf
  -- leaf : (v11, h20)
  have g0 : oi (oc h20) a0 0 = 0 := by rw [o5, oi_ne (Or.inl (by omega)), o1, oi_eq]
  have f1 : frM a0 [1] [0] (oc h) (oc h2) := by rw [o1]; exact frM_f (by decide)
  have f2 : frM a0 [1] [0] (oc h2) (oc h20) := by rw [o5]; exact frM_c (by decide)
  have g1 : wl (oc h20) a0 = upd W 10 x1 := by rw [o5, wl_w, o1, wl_n (by omega), hW]
  exact ⟨congrFun hW 10, g0, g1, frM_tr f1 f2, z5.trans z1⟩
theorem E_X12_hook {W : jWd} {r : Nat} {n : Nat} {a0 : Nat} {x1 : Int32} {x2 : Int32} {h : jH} {q : Int32 × jH} (M : mS (oc h) a0) (hW : wl (oc h) a0 = W) (K : wOK W) (h7 : oi (oc h) a0 7 = nI r) (hr : r ≤ 12) (hb : x2 = 0 ∨ x2 = 1) (hf : F_X12_hook n a0 x1 x2 h = some q) : (¬ (0 ≤ x1.toInt ∧ x1.toInt < (W 0).toInt) ∧ q.1 = 0 ∧ rTh a0 1 h q.2) ∨ ∃ i : Nat, i < 8 ∧ x1 = nI i ∧ (i : Int) < (W 0).toInt ∧ (q.1 = (if W (17 + 8 * i) = x2 then 0 else 1) ∧ rAct a0 r (upd W (17 + 8 * i) x2) h q.2) := by
  unfold F_X12_hook at hf
  replace hf := jbind hf
  obtain ⟨h2, e1, hf⟩ := hf
  obtain ⟨o1, z1⟩ := oc_pf e1
  clear e1
  replace hf := jbind hf
  obtain ⟨v8, e2, hf⟩ := hf
  replace e2 := (jcv_o e2).2
  have T1 : rTh a0 0 h h2 := ⟨by rw [o1, oi_eq], by rw [o1]; exact frM_f (by decide), z1⟩
  obtain ⟨M1, w1, g1⟩ := rTh_W T1 M hW h7
  have r2 := E_X12_noRing M1 w1 K e2
  replace hf := jbind hf
  obtain ⟨q12, e3, hf⟩ := hf
  replace e3 := (jcv_o e3).2
  have r3 := E_X12_throwsIf r2.1 e3
  replace hf := jite hf
  rcases hf with ⟨c4, hf⟩ | ⟨c4, hf⟩
  · skip
    replace hf := jbind hf
    obtain ⟨h21, e5, hf⟩ := hf
    replace e5 := (jcv_o e5).2
    have hq : q12.2 = h2 := by
      rcases r3 with ⟨-, -, y⟩ | ⟨-, y, -⟩
      · exact y
      · exact absurd (y.symm.trans c4) (by decide)
    have hv : v8 = 0 := by
      rcases r3 with ⟨y, -, -⟩ | ⟨-, y, -⟩
      · exact y
      · exact absurd (y.symm.trans c4) (by decide)
    obtain ⟨i, h8, hi, hi0⟩ := i_ring K (Classical.byContradiction fun z => absurd ((r2.2.mpr z).symm.trans hv) (by decide))
    rw [hq] at e5
    have R5 : rRM a0 r h2 h21 := E_X12_remembers M1 g1 hr e5
    have M5 : mS (oc h21) a0 := mS_fr M1 R5.2.2.2.1 (by decide) (by decide)
    obtain ⟨t1, t2, t3, t4, t5, t8, t15, t17, t19, t20, t21⟩ := id M5
    have w5 : wl (oc h21) a0 = W := (wl_f R5.2.2.2.1 (by decide)).trans w1
    replace hf := jbind hf
    obtain ⟨v28, e6, hf⟩ := hf
    replace e6 := (jcv_o e6).2
    have r6 := E_X12_is (i := i) (j := 6) (t := 17 + 8 * i) M5 hi rfl (by omega) (by omega) e6
    rw [w5] at r6
    replace hf := jbind hf
    obtain ⟨p33, e7, hf⟩ := hf
    have r7 := oc_gR e7
    rw [t1] at r7
    cases r7
    clear e7
    replace hf := jbind hf
    obtain ⟨v39, e8, hf⟩ := hf
    have r8 := E_X12_at (i := i) (j := 6) (t := 17 + 8 * i) hi rfl (by omega) e8
    replace hf := jite hf
    rcases hf with ⟨c9, hf⟩ | ⟨c9, hf⟩
    · skip
      replace hf := jbind hf
      obtain ⟨h51, e10, hf⟩ := hf
      obtain ⟨o10, z10, y10⟩ := oc_as e10
      rw [jnar0] at o10
      clear e10
      replace hf := jite hf
      rcases hf with ⟨c11, hf⟩ | ⟨c11, hf⟩
      · skip
        cases hf
        -- leaf 000: ((0 : Int32), h51)
        have hv6 : v28 = W (17 + 8 * i) := bool_eq r6.1 r6.2 (K.2.1 i hi0).2.2.2.2.2.2.1
        rw [r8, nI_cl (by omega)] at o10
        have f7 : frM a0 [1, 8] [] (oc h21) (oc h51) := by rw [o10]; exact frM_c (by decide)
        have hx2 : x2 = 0 := c9
        have w7 : wl (oc h51) a0 = upd W (17 + 8 * i) x2 := by rw [o10, wl_w, w5, hx2]
        exact Or.inr ⟨i, h8, hi, hi0, by rw [← hv6]; exact (if_pos c11).symm, rAct_tr T1 (rAct_mk T1.1 R5 f7 w7 z10)⟩
      · skip
        cases hf
        -- leaf 001: ((1 : Int32), h51)
        have hv6 : v28 = W (17 + 8 * i) := bool_eq r6.1 r6.2 (K.2.1 i hi0).2.2.2.2.2.2.1
        rw [r8, nI_cl (by omega)] at o10
        have f7 : frM a0 [1, 8] [] (oc h21) (oc h51) := by rw [o10]; exact frM_c (by decide)
        have hx2 : x2 = 0 := c9
        have w7 : wl (oc h51) a0 = upd W (17 + 8 * i) x2 := by rw [o10, wl_w, w5, hx2]
        exact Or.inr ⟨i, h8, hi, hi0, by rw [← hv6]; exact (if_neg c11).symm, rAct_tr T1 (rAct_mk T1.1 R5 f7 w7 z10)⟩
    · skip
      replace hf := jbind hf
      obtain ⟨h51, e12, hf⟩ := hf
      obtain ⟨o12, z12, y12⟩ := oc_as e12
      rw [jnar0] at o12
      clear e12
      replace hf := jite hf
      rcases hf with ⟨c13, hf⟩ | ⟨c13, hf⟩
      · skip
        cases hf
        -- leaf 010: ((0 : Int32), h51)
        have hv6 : v28 = W (17 + 8 * i) := bool_eq r6.1 r6.2 (K.2.1 i hi0).2.2.2.2.2.2.1
        rw [r8, nI_cl (by omega)] at o12
        have f7 : frM a0 [1, 8] [] (oc h21) (oc h51) := by rw [o12]; exact frM_c (by decide)
        have hx2 : x2 = 1 := hb.resolve_left c9
        have w7 : wl (oc h51) a0 = upd W (17 + 8 * i) x2 := by rw [o12, wl_w, w5, hx2]
        exact Or.inr ⟨i, h8, hi, hi0, by rw [← hv6]; exact (if_pos c13).symm, rAct_tr T1 (rAct_mk T1.1 R5 f7 w7 z12)⟩
      · skip
        cases hf
        -- leaf 011: ((1 : Int32), h51)
        have hv6 : v28 = W (17 + 8 * i) := bool_eq r6.1 r6.2 (K.2.1 i hi0).2.2.2.2.2.2.1
        rw [r8, nI_cl (by omega)] at o12
        have f7 : frM a0 [1, 8] [] (oc h21) (oc h51) := by rw [o12]; exact frM_c (by decide)
        have hx2 : x2 = 1 := hb.resolve_left c9
        have w7 : wl (oc h51) a0 = upd W (17 + 8 * i) x2 := by rw [o12, wl_w, w5, hx2]
        exact Or.inr ⟨i, h8, hi, hi0, by rw [← hv6]; exact (if_neg c13).symm, rAct_tr T1 (rAct_mk T1.1 R5 f7 w7 z12)⟩
  · skip
    cases hf
    -- leaf 1: ((0 : Int32), q12.2)
    rcases r3 with ⟨-, y, -⟩ | ⟨s, -, T⟩
    · exact absurd y c4
    · exact Or.inl ⟨r2.2.mp s, rfl, rTh_tr T1 T⟩
theorem E_X12_chair {W : jWd} {r : Nat} {n : Nat} {a0 : Nat} {x1 : Int32} {x2 : Int32} {h : jH} {q : Int32 × jH} (M : mS (oc h) a0) (hW : wl (oc h) a0 = W) (K : wOK W) (h7 : oi (oc h) a0 7 = nI r) (hr : r ≤ 12) (hb : x2 = 0 ∨ x2 = 1) (hf : F_X12_chair n a0 x1 x2 h = some q) : (¬ (0 ≤ x1.toInt ∧ x1.toInt ≤ 31) ∧ q.1 = 0 ∧ rTh a0 1 h q.2) ∨ ∃ i : Nat, i < 32 ∧ x1 = nI i ∧ q.1 = (if chV (W 7) i x2 = W 7 then 0 else 1) ∧ rAct a0 r (upd W 7 (chV (W 7) i x2)) h q.2 := by
  unfold F_X12_chair at hf
  replace hf := jbind hf
  obtain ⟨h2, e1, hf⟩ := hf
  obtain ⟨o1, z1⟩ := oc_pf e1
  clear e1
  replace hf := jbind hf
  obtain ⟨v7, e2, hf⟩ := hf
  have T1 : rTh a0 0 h h2 := ⟨by rw [o1, oi_eq], by rw [o1]; exact frM_f (by decide), z1⟩
  obtain ⟨M1, w1, g1⟩ := rTh_W T1 M hW h7
  have r2 := E_X12_noPlace e2
  replace hf := jbind hf
  obtain ⟨q11, e3, hf⟩ := hf
  replace e3 := (jcv_o e3).2
  have r3 := E_X12_throwsIf r2.1 e3
  replace hf := jite hf
  rcases hf with ⟨c4, hf⟩ | ⟨c4, hf⟩
  · skip
    replace hf := jbind hf
    obtain ⟨h20, e5, hf⟩ := hf
    replace e5 := (jcv_o e5).2
    have hq : q11.2 = h2 := by
      rcases r3 with ⟨-, -, y⟩ | ⟨-, y, -⟩
      · exact y
      · exact absurd (y.symm.trans c4) (by decide)
    have hv : v7 = 0 := by
      rcases r3 with ⟨y, -, -⟩ | ⟨-, y, -⟩
      · exact y
      · exact absurd (y.symm.trans c4) (by decide)
    obtain ⟨i, h8, hi⟩ := i_place (Classical.byContradiction fun z => absurd ((r2.2.mpr z).symm.trans hv) (by decide))
    rw [hq] at e5
    have R5 : rRM a0 r h2 h20 := E_X12_remembers M1 g1 hr e5
    have M5 : mS (oc h20) a0 := mS_fr M1 R5.2.2.2.1 (by decide) (by decide)
    obtain ⟨t1, t2, t3, t4, t5, t8, t15, t17, t19, t20, t21⟩ := id M5
    have w5 : wl (oc h20) a0 = W := (wl_f R5.2.2.2.1 (by decide)).trans w1
    replace hf := jbind hf
    obtain ⟨p24, e6, hf⟩ := hf
    have r6 := oc_gR e6
    rw [t1] at r6
    cases r6
    clear e6
    replace hf := jbind hf
    obtain ⟨v29, e7, hf⟩ := hf
    obtain ⟨r7, y7⟩ := oc_al e7
    rw [show (7 : Int32).toNatClampNeg = 7 from rfl] at r7
    subst r7
    clear e7
    replace hf := jbind hf
    obtain ⟨v31, e8, hf⟩ := hf
    have r8 := E_X12_has (k := i) hi h8 e8
    replace hf := jbind hf
    obtain ⟨p36, e9, hf⟩ := hf
    have r9 := oc_gR e9
    rw [t1] at r9
    cases r9
    clear e9
    replace hf := jbind hf
    obtain ⟨v41, e10, hf⟩ := hf
    obtain ⟨r10, y10⟩ := oc_al e10
    rw [show (7 : Int32).toNatClampNeg = 7 from rfl] at r10
    subst r10
    clear e10
    replace hf := jbind hf
    obtain ⟨p51, e11, hf⟩ := hf
    have r11 := oc_gR e11
    rw [t1] at r11
    cases r11
    clear e11
    replace hf := jite hf
    rcases hf with ⟨c12, hf⟩ | ⟨c12, hf⟩
    · skip
      replace hf := jbind hf
      obtain ⟨h71, e13, hf⟩ := hf
      obtain ⟨o13, z13, y13⟩ := oc_as e13
      rw [jnar0] at o13
      rw [show (7 : Int32).toNatClampNeg = 7 from rfl] at o13
      clear e13
      replace hf := jite hf
      rcases hf with ⟨c14, hf⟩ | ⟨c14, hf⟩
      · skip
        cases hf
        -- leaf 000: ((0 : Int32), h71)
        have c7 : oi (oc h20) (a0 + 1) 7 = W 7 := congrFun w5 7
        rw [hi, c7] at o13
        rw [c7] at r8
        have an := chV_ans h8 hb r8
        have f7 : frM a0 [1, 8] [] (oc h20) (oc h71) := by rw [o13]; exact frM_c (by decide)
        have w7 : wl (oc h71) a0 = upd W 7 (chV (W 7) i x2) := by rw [o13, wl_w, w5]; unfold chV; rw [if_pos c12]
        exact Or.inr ⟨i, h8, hi, (if_pos (an.mpr c14)).symm, rAct_tr T1 (rAct_mk T1.1 R5 f7 w7 z13)⟩
      · skip
        cases hf
        -- leaf 001: ((1 : Int32), h71)
        have c7 : oi (oc h20) (a0 + 1) 7 = W 7 := congrFun w5 7
        rw [hi, c7] at o13
        rw [c7] at r8
        have an := chV_ans h8 hb r8
        have f7 : frM a0 [1, 8] [] (oc h20) (oc h71) := by rw [o13]; exact frM_c (by decide)
        have w7 : wl (oc h71) a0 = upd W 7 (chV (W 7) i x2) := by rw [o13, wl_w, w5]; unfold chV; rw [if_pos c12]
        exact Or.inr ⟨i, h8, hi, (if_neg fun z => c14 (an.mp z)).symm, rAct_tr T1 (rAct_mk T1.1 R5 f7 w7 z13)⟩
    · skip
      replace hf := jbind hf
      obtain ⟨h71, e15, hf⟩ := hf
      obtain ⟨o15, z15, y15⟩ := oc_as e15
      rw [jnar0] at o15
      rw [show (7 : Int32).toNatClampNeg = 7 from rfl] at o15
      clear e15
      replace hf := jite hf
      rcases hf with ⟨c16, hf⟩ | ⟨c16, hf⟩
      · skip
        cases hf
        -- leaf 010: ((0 : Int32), h71)
        have c7 : oi (oc h20) (a0 + 1) 7 = W 7 := congrFun w5 7
        rw [hi, c7, chr_eq h8] at o15
        rw [c7] at r8
        have an := chV_ans h8 hb r8
        have f7 : frM a0 [1, 8] [] (oc h20) (oc h71) := by rw [o15]; exact frM_c (by decide)
        have w7 : wl (oc h71) a0 = upd W 7 (chV (W 7) i x2) := by rw [o15, wl_w, w5]; unfold chV; rw [if_neg c12]
        exact Or.inr ⟨i, h8, hi, (if_pos (an.mpr c16)).symm, rAct_tr T1 (rAct_mk T1.1 R5 f7 w7 z15)⟩
      · skip
        cases hf
        -- leaf 011: ((1 : Int32), h71)
        have c7 : oi (oc h20) (a0 + 1) 7 = W 7 := congrFun w5 7
        rw [hi, c7, chr_eq h8] at o15
        rw [c7] at r8
        have an := chV_ans h8 hb r8
        have f7 : frM a0 [1, 8] [] (oc h20) (oc h71) := by rw [o15]; exact frM_c (by decide)
        have w7 : wl (oc h71) a0 = upd W 7 (chV (W 7) i x2) := by rw [o15, wl_w, w5]; unfold chV; rw [if_neg c12]
        exact Or.inr ⟨i, h8, hi, (if_neg fun z => c16 (an.mp z)).symm, rAct_tr T1 (rAct_mk T1.1 R5 f7 w7 z15)⟩
  · skip
    cases hf
    -- leaf 1: ((0 : Int32), q11.2)
    rcases r3 with ⟨-, y, -⟩ | ⟨s, -, T⟩
    · exact absurd y c4
    · exact Or.inl ⟨r2.2.mp s, rfl, rTh_tr T1 T⟩
