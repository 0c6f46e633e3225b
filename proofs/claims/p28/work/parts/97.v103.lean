/-! hours as an act, on both sides -/
theorem i_hours {x : Int32} (h : 1 ≤ x.toInt ∧ x.toInt ≤ 80) : ∃ m : Nat, m ≤ 80 ∧ 1 ≤ m ∧ x = nI m := ⟨x.toInt.toNat, by omega, by omega, nI_k (by omega)⟩
theorem E_X12_hours_21 {W : jWd} {r : Nat} {m : Nat} {n : Nat} {a0 : Nat} {x1 : Int32} {sa0 : Nat} {s1 : Int32} {h : jH} {q : Int32 × jH} (M : mS (oc h) a0) (hW : wl (oc h) a0 = W) (K : wOK W) (h7 : oi (oc h) a0 7 = nI r) (hr : r ≤ 12) (z0 : oi (oc h) a0 0 = 0) (hs : a0 = sa0) (h01 : s1 = 0 ∨ s1 = 1) (LK : lawK W) (LB : lawB W) (hi : s1 = 0 → x1 = nI m) (h8 : m < 1000) (hf : F_X12_hours_21 n a0 x1 sa0 s1 h = some q) : (s1 = 1 ∧ q.1 = 0 ∧ rTh a0 1 h q.2) ∨ (s1 = 0 ∧ q.1 = (hrs false m W 0).2 ∧ rAct a0 r (hrs false m W 0).1 h q.2 ∧ rkE (oc q.2) a0 (hrs false m W 0).1) := by
  unfold F_X12_hours_21 at hf
  subst hs
  replace hf := jbind hf
  obtain ⟨q22, e1, hf⟩ := hf
  replace e1 := (jcv_o e1).2
  have r1 := E_X12_throwsIf h01 e1
  replace hf := jite hf
  rcases hf with ⟨c2, hf⟩ | ⟨c2, hf⟩
  · skip
    replace hf := jbind hf
    obtain ⟨h31, e3, hf⟩ := hf
    replace e3 := (jcv_o e3).2
    have s0 : s1 = 0 := by
      rcases r1 with ⟨y, -, -⟩ | ⟨-, y, -⟩
      · exact y
      · exact absurd (y.symm.trans c2) (by decide)
    have hi := hi s0
    have hq : q22.2 = h := by
      rcases r1 with ⟨-, -, y⟩ | ⟨-, y, -⟩
      · exact y
      · exact absurd (y.symm.trans c2) (by decide)
    rw [hq] at e3
    have R3 : rRM a0 r h h31 := E_X12_remembers M h7 hr e3
    have M3 : mS (oc h31) a0 := mS_fr M R3.2.2.2.1 (by decide) (by decide)
    obtain ⟨t1, t2, t3, t4, t5, t8, t15, t17, t19, t20, t21⟩ := id M3
    have w3 : wl (oc h31) a0 = W := (wl_f R3.2.2.2.1 (by decide)).trans hW
    replace hf := jbind hf
    obtain ⟨q37, e4, hf⟩ := hf
    replace e4 := (jcv_o e4).2
    obtain ⟨F1, F2, F3, F4⟩ := E_X12_goesOn (calm := false) (m := m) (⟨M3, w3, K, LK, LB⟩ : rkE (oc h31) a0 W) rfl (by omega) hi e4
    cases hf
    -- leaf 0: (q37.1, q37.2)
    exact Or.inr ⟨s0, F2, rAct_mk z0 R3 F3 F1.2.1 F4, F1⟩
  · skip
    cases hf
    -- leaf 1: ((0 : Int32), q22.2)
    rcases r1 with ⟨-, y, -⟩ | ⟨s, -, T⟩
    · exact absurd y c2
    · exact Or.inl ⟨s, rfl, T⟩
theorem E_X12_hours {W : jWd} {r : Nat} {n : Nat} {a0 : Nat} {x1 : Int32} {h : jH} {q : Int32 × jH} (M : mS (oc h) a0) (hW : wl (oc h) a0 = W) (K : wOK W) (h7 : oi (oc h) a0 7 = nI r) (hr : r ≤ 12) (LK : lawK W) (LB : lawB W) (hf : F_X12_hours n a0 x1 h = some q) : (¬ (1 ≤ x1.toInt ∧ x1.toInt ≤ 80) ∧ q.1 = 0 ∧ rTh a0 1 h q.2) ∨ ∃ m : Nat, m ≤ 80 ∧ 1 ≤ m ∧ x1 = nI m ∧ q.1 = (hrs false m W 0).2 ∧ rAct a0 r (hrs false m W 0).1 h q.2 ∧ rkE (oc q.2) a0 (hrs false m W 0).1 := by
  unfold F_X12_hours at hf
  replace hf := jbind hf
  obtain ⟨h2, e1, hf⟩ := hf
  obtain ⟨o1, z1⟩ := oc_pf e1
  clear e1
  replace hf := jbind hf
  obtain ⟨v10, e2, hf⟩ := hf
  have r2 := E_X12_in e2
  replace hf := jite hf
  rcases hf with ⟨c3, hf⟩ | ⟨c3, hf⟩
  · skip
    -- leaf 0: F_X12_hours_21 n a0 x1 a0 (1 : Int32) h2
    have T1 : rTh a0 0 h h2 := ⟨by rw [o1, oi_eq], by rw [o1]; exact frM_f (by decide), z1⟩
    obtain ⟨M1, w1, g1⟩ := rTh_W T1 M hW h7
    have l1 : (1 : Int32).toInt = 1 := rfl
    have l80 : (80 : Int32).toInt = 80 := rfl
    rw [l1, l80] at r2
    rcases E_X12_hours_21 (m := 0) M1 w1 K g1 hr T1.1 rfl (Or.inr rfl) LK LB (fun z => absurd z (by decide)) (by decide) hf with ⟨-, b, T⟩ | ⟨s, -⟩
    · exact Or.inl ⟨fun z => absurd ((r2.2.mpr z).symm.trans c3) (by decide), b, rTh_tr T1 T⟩
    · exact absurd s (by decide)
  · skip
    -- leaf 1: F_X12_hours_21 n a0 x1 a0 (0 : Int32) h2
    have T1 : rTh a0 0 h h2 := ⟨by rw [o1, oi_eq], by rw [o1]; exact frM_f (by decide), z1⟩
    obtain ⟨M1, w1, g1⟩ := rTh_W T1 M hW h7
    have l1 : (1 : Int32).toInt = 1 := rfl
    have l80 : (80 : Int32).toInt = 80 := rfl
    rw [l1, l80] at r2
    obtain ⟨m, h8, h1, hi⟩ := i_hours (r2.2.mp (r2.1.resolve_left c3))
    rcases E_X12_hours_21 (m := m) M1 w1 K g1 hr T1.1 rfl (Or.inl rfl) LK LB (fun _ => hi) (by omega) hf with ⟨s, -⟩ | ⟨-, b, A, F⟩
    · exact absurd s (by decide)
    · exact Or.inr ⟨m, h8, h1, hi, b, rAct_tr T1 A, F⟩
theorem E_X11_hours {W : jWd} {nx : Nat} {n : Nat} {a0 : Nat} {x1 : Int32} {h : jH} {q : jR × jH} (C : cPre a0 nx W h) (X8 : oc h a0 8 = .ref (a0 + 36)) (Z36 : oc h (a0 + 36) 0 = .ref (a0 + 13)) (LE : lawE (oc h) (a0 + 13) W) (hf : F_X11_hours n a0 x1 h = some q) : (¬ (1 ≤ x1.toInt ∧ x1.toInt ≤ 80) ∧ q.1 = .inr 0 ∧ q.2 = h) ∨ ∃ m : Nat, m ≤ 80 ∧ 1 ≤ m ∧ x1 = nI m ∧ q.1 = .inl (hrs false m W 0).2 ∧ cAct a0 nx W (hrs false m W 0).1 h q.2 ∧ clkE (oc q.2) (a0 + 36) (a0 + 13) (a0 + 6) (hrs false m W 0).1 := by
  unfold F_X11_hours at hf
  obtain ⟨⟨X1, X3, sA, hx, hn, R, K⟩, hb, hz, sz⟩ := id C
  obtain ⟨⟨s0, s1, s2, s3, s4, s5⟩, ⟨u5, u10, u11, u12, u13, u14, u15, u16, u17⟩, RB, RC, RL⟩ := id R
  replace hf := jbind hf
  obtain ⟨q5, e1, hf⟩ := hf
  replace e1 := (jcv_o e1).2
  have r1 := E_X11_requireNumber e1
  obtain ⟨wq5, h5⟩ := q5
  have hqq : h5 = h := r1.elim (fun y => y.2.2) (fun y => y.2.2)
  subst hqq
  rcases wq5 with r5 | xq5
  · skip
    replace hf := (jthen_l (q := (.inl r5, h5)) rfl).symm.trans hf
    dsimp only at hf
    replace hf := jbind hf
    obtain ⟨p9, e2, hf⟩ := hf
    have r2 := oc_gR e2
    rw [X3] at r2
    cases r2
    clear e2
    replace hf := jbind hf
    obtain ⟨p13, e3, hf⟩ := hf
    have r3 := oc_gR e3
    rw [X1] at r3
    cases r3
    clear e3
    replace hf := jbind hf
    obtain ⟨h16, e4, hf⟩ := hf
    replace e4 := (jcv_o e4).2
    obtain ⟨Y1, RR, AA⟩ := c_rem C e4
    obtain ⟨⟨t0, t1, t2, t3, t4, t5⟩, ⟨g5, g10, g11, g12, g13, g14, g15, g16, g17⟩, QB, QC, QL⟩ := id RR
    have kp := c_keep hz hb AA
    have Y8 : oc h16 a0 8 = .ref (a0 + 36) := (kp _ _ (by omega) (by omega) (by omega) (by omega) (by omega) (by omega)).trans X8
    have CE : clkE (oc h16) (a0 + 36) (a0 + 13) (a0 + 6) W := ⟨(kp _ _ (by omega) (by omega) (by omega) (by omega) (by omega) (by omega)).trans Z36, RR, lawE_fr LE (fun a k h1 h2 h3 => kp _ _ (by omega) (by omega) (by omega) (by omega) (by omega) (by omega)), K⟩
    replace hf := jbind hf
    obtain ⟨p20, e5, hf⟩ := hf
    have r5 := oc_gR e5
    rw [Y8] at r5
    cases r5
    clear e5
    replace hf := jbind hf
    obtain ⟨p24, e6, hf⟩ := hf
    have r6 := oc_gR e6
    rw [Y1] at r6
    cases r6
    clear e6
    replace hf := jbind hf
    obtain ⟨q28, e7, hf⟩ := hf
    replace e7 := (jcv_o e7).2
    have P : (1 ≤ x1.toInt ∧ x1.toInt ≤ 80) := by
      rcases r1 with ⟨P, -, -⟩ | ⟨-, y, -⟩
      · exact P
      · cases y
    obtain ⟨m, h8, h1, hi⟩ := i_hours P
    obtain ⟨F1, F2, F3, F4⟩ := E_X1_run CE (by show (_ ∨ _) ∧ (_ ∨ _) ∧ (_ ∨ _); omega) (show m < 1000 by omega) hi e7
    cases hf
    -- leaf : (.inl q28.1, q28.2)
    exact Or.inr ⟨m, h8, h1, hi, congrArg Sum.inl F2, c_mkL hz hb AA F3 F1.2.1 F4, F1⟩
  · skip
    replace hf := (jthen_r (q := (.inr xq5, h5)) rfl).symm.trans hf
    cases hf
    rcases r1 with ⟨-, y, -⟩ | ⟨P, y, -⟩
    · cases y
    · exact Or.inl ⟨P, y, rfl⟩
