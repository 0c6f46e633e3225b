section
/-! a pull, on both sides; f: the steps that the ring goes -/
def isF (W : jWd) (r : Nat) (d : Bool) (N f : Nat) : Prop := f ≤ N ∧ (∀ s, s < f → gv (mvO W r d s) r d ≠ 0) ∧ (f = N ∨ gv (mvO W r d f) r d = 0)
theorem isF_u {W : jWd} {r N f g : Nat} {d : Bool} (a : isF W r d N f) (b : isF W r d N g) : f = g := by
  obtain ⟨a1, a2, a3⟩ := a
  obtain ⟨b1, b2, b3⟩ := b
  rcases Nat.lt_trichotomy f g with h | h | h
  · rcases a3 with a3 | a3
    · omega
    · exact absurd a3 (b2 f h)
  · exact h
  · rcases b3 with b3 | b3
    · omega
    · exact absurd b3 (a2 g h)
theorem plW_n0 {W : jWd} {r f : Nat} {d : Bool} : plW W r d f 0 = W 0 := (upd_n (by decide)).trans (mvO_ot (Or.inl (by decide)) f)
theorem i_steps {x : Int32} (h : 1 ≤ x.toInt ∧ x.toInt ≤ 31) : ∃ N : Nat, N < 32 ∧ 1 ≤ N ∧ x = nI N := ⟨x.toInt.toNat, by omega, by omega, nI_k (by omega)⟩
theorem E_X12_pull {W : jWd} {r : Nat} {d : Bool} {n : Nat} {a0 : Nat} {x1 : Int32} {x2 : Int32} {x3 : Int32} {h : jH} {q : Int32 × jH} (M : mS (oc h) a0) (hW : wl (oc h) a0 = W) (K : wOK W) (h7 : oi (oc h) a0 7 = nI r) (hr : r ≤ 12) (hd : x2 = dI d) (hf : F_X12_pull n a0 x1 x2 x3 h = some q) : (¬ (0 ≤ x1.toInt ∧ x1.toInt < (W 0).toInt) ∧ q.1 = 0 ∧ rTh a0 1 h q.2) ∨ ∃ i : Nat, i < 8 ∧ x1 = nI i ∧ (i : Int) < (W 0).toInt ∧ ((¬ (1 ≤ x3.toInt ∧ x3.toInt ≤ 31) ∧ q.1 = 0 ∧ rTh a0 2 h q.2) ∨ ∃ N f : Nat, N < 32 ∧ 1 ≤ N ∧ x3 = nI N ∧ isF W i d N f ∧ q.1 = nI f ∧ rAct a0 r (tlW (plW W i d f) i (nI i) 0 (nI f)) h q.2) := by
  unfold F_X12_pull at hf
  replace hf := jbind hf
  obtain ⟨h2, e1, hf⟩ := hf
  obtain ⟨o1, z1⟩ := oc_pf e1
  clear e1
  replace hf := jbind hf
  obtain ⟨v8, e2, hf⟩ := hf
  replace e2 := (jcv_o e2).2
  have T1 : rTh a0 0 h h2 := ⟨by rw [o1, oi_eq], by rw [o1]; exact frM_f (by decide), z1⟩
  obtain ⟨M1, w1, g1⟩ := rTh_W T1 M hW h7
  have r2 := E_X12_noRing M1 w1 K e2
  replace hf := jbind hf
  obtain ⟨q12, e3, hf⟩ := hf
  replace e3 := (jcv_o e3).2
  have r3 := E_X12_throwsIf r2.1 e3
  replace hf := jite hf
  rcases hf with ⟨c4, hf⟩ | ⟨c4, hf⟩
  · skip
    replace hf := jbind hf
    obtain ⟨v20, e5, hf⟩ := hf
    have r5 := E_X12_noSteps e5
    replace hf := jbind hf
    obtain ⟨q24, e6, hf⟩ := hf
    replace e6 := (jcv_o e6).2
    have r6 := E_X12_throwsIf r5.1 e6
    replace hf := jite hf
    rcases hf with ⟨c7, hf⟩ | ⟨c7, hf⟩
    · skip
      replace hf := jbind hf
      obtain ⟨h33, e8, hf⟩ := hf
      replace e8 := (jcv_o e8).2
      have hq2 : q24.2 = q12.2 := by
        rcases r6 with ⟨-, -, y⟩ | ⟨-, y, -⟩
        · exact y
        · exact absurd (y.symm.trans c7) (by decide)
      have hv2 : v20 = 0 := by
        rcases r6 with ⟨y, -, -⟩ | ⟨-, y, -⟩
        · exact y
        · exact absurd (y.symm.trans c7) (by decide)
      obtain ⟨N, hN, hN1, h3⟩ := i_steps (Classical.byContradiction fun z => absurd ((r5.2.mpr z).symm.trans hv2) (by decide))
      have hq : q12.2 = h2 := by
        rcases r3 with ⟨-, -, y⟩ | ⟨-, y, -⟩
        · exact y
        · exact absurd (y.symm.trans c4) (by decide)
      have hv : v8 = 0 := by
        rcases r3 with ⟨y, -, -⟩ | ⟨-, y, -⟩
        · exact y
        · exact absurd (y.symm.trans c4) (by decide)
      obtain ⟨i, h8, hi, hi0⟩ := i_ring K (Classical.byContradiction fun z => absurd ((r2.2.mpr z).symm.trans hv) (by decide))
      rw [hq2] at e8
      rw [hq] at e8
      have R8 : rRM a0 r h2 h33 := E_X12_remembers M1 g1 hr e8
      have M8 : mS (oc h33) a0 := mS_fr M1 R8.2.2.2.1 (by decide) (by decide)
      obtain ⟨t1, t2, t3, t4, t5, t8, t15, t17, t19, t20, t21⟩ := id M8
      have w8 : wl (oc h33) a0 = W := (wl_f R8.2.2.2.1 (by decide)).trans w1
      replace hf := jbind hf
      obtain ⟨q40, e9, hf⟩ := hf
      replace e9 := (jcv_o e9).2
      obtain ⟨f, F1, F2, F3, F4, F5, F6, F7⟩ := E_X12_pulls M8 w8 K hi0 (show N < 500 by omega) hi hd h3 e9
      have M9 : mS (oc q40.2) a0 := mS_fr M8 F4 (by decide) (by decide)
      replace hf := jbind hf
      obtain ⟨h50, e10, hf⟩ := hf
      replace e10 := (jcv_o e10).2
      obtain ⟨G1, G2, G3⟩ := E_X12_tells M9 F3 h8 hi e10
      cases hf
      -- leaf 00: (q40.1, h50)
      have f7 : frM a0 [1, 8] [18] (oc h33) (oc h50) := frM_tr (frM_le F4 (by decide) (by decide)) (frM_le G2 (by decide) (by decide))
      rw [hi, F2] at G1
      exact Or.inr ⟨i, h8, hi, hi0, Or.inr ⟨N, f, hN, hN1, h3, ⟨F1, F6, F7⟩, F2, rAct_tr T1 (rAct_mk18 T1.1 R8 f7 G1 (G3.trans F5))⟩⟩
    · skip
      cases hf
      -- leaf 01: ((0 : Int32), q24.2)
      have hq : q12.2 = h2 := by
        rcases r3 with ⟨-, -, y⟩ | ⟨-, y, -⟩
        · exact y
        · exact absurd (y.symm.trans c4) (by decide)
      have hv : v8 = 0 := by
        rcases r3 with ⟨y, -, -⟩ | ⟨-, y, -⟩
        · exact y
        · exact absurd (y.symm.trans c4) (by decide)
      obtain ⟨i, h8, hi, hi0⟩ := i_ring K (Classical.byContradiction fun z => absurd ((r2.2.mpr z).symm.trans hv) (by decide))
      rw [hq] at r6
      rcases r6 with ⟨-, y, -⟩ | ⟨s, -, T⟩
      · exact absurd y c7
      · exact Or.inr ⟨i, h8, hi, hi0, Or.inl ⟨r5.2.mp s, rfl, rTh_tr T1 T⟩⟩
  · skip
    cases hf
    -- leaf 1: ((0 : Int32), q12.2)
    rcases r3 with ⟨-, y, -⟩ | ⟨s, -, T⟩
    · exact absurd y c4
    · exact Or.inl ⟨r2.2.mp s, rfl, rTh_tr T1 T⟩
theorem E_X11_pull {W : jWd} {nx : Nat} {d : Bool} {n : Nat} {a0 : Nat} {x1 : Int32} {x2 : Int32} {x3 : Int32} {h : jH} {q : jR × jH} (C : cPre a0 nx W h) (hd : x2 = dI d) (hf : F_X11_pull n a0 x1 x2 x3 h = some q) : (¬ (0 ≤ x1.toInt ∧ x1.toInt < (W 0).toInt) ∧ q.1 = .inr 2 ∧ q.2 = h) ∨ ∃ i : Nat, i < 8 ∧ x1 = nI i ∧ (i : Int) < (W 0).toInt ∧ ((¬ (1 ≤ x3.toInt ∧ x3.toInt ≤ 31) ∧ q.1 = .inr 0 ∧ q.2 = h) ∨ ∃ N f : Nat, N < 32 ∧ 1 ≤ N ∧ x3 = nI N ∧ isF W i d N f ∧ q.1 = .inl (nI f) ∧ wOK (plW W i d f) ∧ cAct a0 nx W (tlW (plW W i d f) i (nI i) 0 (nI f)) h q.2) := by
  unfold F_X11_pull at hf
  obtain ⟨⟨X1, X3, sA, hx, hn, R, K⟩, hb, hz, sz⟩ := id C
  obtain ⟨⟨s0, s1, s2, s3, s4, s5⟩, ⟨u5, u10, u11, u12, u13, u14, u15, u16, u17⟩, RB, RC, RL⟩ := id R
  replace hf := jbind hf
  obtain ⟨q2, e1, hf⟩ := hf
  replace e1 := (jcv_o e1).2
  have r1 := E_X11_requireRing C e1
  obtain ⟨wq2, h2⟩ := q2
  have hqq : h2 = h := r1.elim (fun y => y.2.2) (fun y => y.2.2)
  subst hqq
  rcases wq2 with r2 | xq2
  · skip
    replace hf := (jthen_l (q := (.inl r2, h2)) rfl).symm.trans hf
    dsimp only at hf
    replace hf := jbind hf
    obtain ⟨q10, e2, hf⟩ := hf
    replace e2 := (jcv_o e2).2
    have r2 := E_X11_requireNumber e2
    obtain ⟨wq10, h10⟩ := q10
    have hqq : h10 = h2 := r2.elim (fun y => y.2.2) (fun y => y.2.2)
    subst hqq
    rcases wq10 with r10 | xq10
    · skip
      replace hf := (jthen_l (q := (.inl r10, h10)) rfl).symm.trans hf
      dsimp only at hf
      replace hf := jbind hf
      obtain ⟨p14, e3, hf⟩ := hf
      have r3 := oc_gR e3
      rw [X3] at r3
      cases r3
      clear e3
      replace hf := jbind hf
      obtain ⟨p18, e4, hf⟩ := hf
      have r4 := oc_gR e4
      rw [X1] at r4
      cases r4
      clear e4
      replace hf := jbind hf
      obtain ⟨h21, e5, hf⟩ := hf
      replace e5 := (jcv_o e5).2
      obtain ⟨Y1, RR, AA⟩ := c_rem C e5
      obtain ⟨⟨t0, t1, t2, t3, t4, t5⟩, ⟨g5, g10, g11, g12, g13, g14, g15, g16, g17⟩, QB, QC, QL⟩ := id RR
      replace hf := jbind hf
      obtain ⟨p25, e6, hf⟩ := hf
      have r6 := oc_gR e6
      rw [Y1] at r6
      cases r6
      clear e6
      replace hf := jbind hf
      obtain ⟨q31, e7, hf⟩ := hf
      replace e7 := (jcv_o e7).2
      have P : (0 ≤ x1.toInt ∧ x1.toInt < (W 0).toInt) := by
        rcases r1 with ⟨P, -, -⟩ | ⟨-, y, -⟩
        · exact P
        · cases y
      obtain ⟨i, h8, hi, hi0⟩ := i_ring K P
      have P2 : (1 ≤ x3.toInt ∧ x3.toInt ≤ 31) := by
        rcases r2 with ⟨P, -, -⟩ | ⟨-, y, -⟩
        · exact P
        · cases y
      obtain ⟨N, hN, hN1, h3⟩ := i_steps P2
      obtain ⟨f, F1, F2, F3, K3, F4, F5, F6, F7⟩ := E_X8_move RR K hi0 (show N < 500 by omega) hi hd h3 e7
      have Y2 : oc q31.2 a0 1 = .ref (a0 + 6) := (F4 _ _ (by omega)).trans Y1
      obtain ⟨⟨t0, t1, t2, t3, t4, t5⟩, -, -, -, -⟩ := id F3
      replace hf := jbind hf
      obtain ⟨p37, e8, hf⟩ := hf
      have r8 := oc_gR e8
      rw [Y2] at r8
      cases r8
      clear e8
      replace hf := jbind hf
      obtain ⟨p40, e9, hf⟩ := hf
      have r9 := oc_gR e9
      rw [t4] at r9
      cases r9
      clear e9
      replace hf := jbind hf
      obtain ⟨p44, e10, hf⟩ := hf
      have r10 := oc_gR e10
      rw [Y2] at r10
      cases r10
      clear e10
      replace hf := jbind hf
      obtain ⟨h51, e11, hf⟩ := hf
      replace e11 := (jcv_o e11).2
      obtain ⟨G1, G2, G3⟩ := E_X5_add rfl F3 K3 hi (by rw [plW_n0]; exact hi0) (show (0 : Int32) = nI 0 from rfl) (by decide) F2 (show f < 32 by omega) e11
      cases hf
      -- leaf : (.inl q31.1, h51)
      exact Or.inr ⟨i, h8, hi, hi0, Or.inr ⟨N, f, hN, hN1, h3, ⟨F1, F6, F7⟩, congrArg Sum.inl F2, K3, c_mk hz hb AA (frR_tr F4 G2) G1 (G3.trans F5)⟩⟩
    · skip
      replace hf := (jthen_r (q := (.inr xq10, h10)) rfl).symm.trans hf
      cases hf
      have P : (0 ≤ x1.toInt ∧ x1.toInt < (W 0).toInt) := by
        rcases r1 with ⟨P, -, -⟩ | ⟨-, y, -⟩
        · exact P
        · cases y
      obtain ⟨i, h8, hi, hi0⟩ := i_ring K P
      rcases r2 with ⟨-, y, -⟩ | ⟨P2, y, -⟩
      · cases y
      · exact Or.inr ⟨i, h8, hi, hi0, Or.inl ⟨P2, y, rfl⟩⟩
  · skip
    replace hf := (jthen_r (q := (.inr xq2, h2)) rfl).symm.trans hf
    cases hf
    rcases r1 with ⟨-, y, -⟩ | ⟨P, y, -⟩
    · cases y
    · exact Or.inl ⟨P, y, rfl⟩
end
section
/-! hours as an act, on both sides -/
theorem i_hours {x : Int32} (h : 1 ≤ x.toInt ∧ x.toInt ≤ 80) : ∃ m : Nat, m ≤ 80 ∧ 1 ≤ m ∧ x = nI m := ⟨x.toInt.toNat, by omega, by omega, nI_k (by omega)⟩
theorem E_X12_hours_21 {W : jWd} {r : Nat} {m : Nat} {n : Nat} {a0 : Nat} {x1 : Int32} {sa0 : Nat} {s1 : Int32} {h : jH} {q : Int32 × jH} (M : mS (oc h) a0) (hW : wl (oc h) a0 = W) (K : wOK W) (h7 : oi (oc h) a0 7 = nI r) (hr : r ≤ 12) (z0 : oi (oc h) a0 0 = 0) (hs : a0 = sa0) (h01 : s1 = 0 ∨ s1 = 1) (LK : lawK W) (LB : lawB W) (hi : s1 = 0 → x1 = nI m) (h8 : m < 1000) (hf : F_X12_hours_21 n a0 x1 sa0 s1 h = some q) : (s1 = 1 ∧ q.1 = 0 ∧ rTh a0 1 h q.2) ∨ (s1 = 0 ∧ q.1 = (hrs false m W 0).2 ∧ rAct a0 r (hrs false m W 0).1 h q.2 ∧ rkE (oc q.2) a0 (hrs false m W 0).1) := by
  unfold F_X12_hours_21 at hf
  subst hs
  replace hf := jbind hf
  obtain ⟨q22, e1, hf⟩ := hf
  replace e1 := (jcv_o e1).2
  have r1 := E_X12_throwsIf h01 e1
  replace hf := jite hf
  rcases hf with ⟨c2, hf⟩ | ⟨c2, hf⟩
  · skip
    replace hf := jbind hf
    obtain ⟨h31, e3, hf⟩ := hf
    replace e3 := (jcv_o e3).2
    have s0 : s1 = 0 := by
      rcases r1 with ⟨y, -, -⟩ | ⟨-, y, -⟩
      · exact y
      · exact absurd (y.symm.trans c2) (by decide)
    have hi := hi s0
    have hq : q22.2 = h := by
      rcases r1 with ⟨-, -, y⟩ | ⟨-, y, -⟩
      · exact y
      · exact absurd (y.symm.trans c2) (by decide)
    rw [hq] at e3
    have R3 : rRM a0 r h h31 := E_X12_remembers M h7 hr e3
    have M3 : mS (oc h31) a0 := mS_fr M R3.2.2.2.1 (by decide) (by decide)
    obtain ⟨t1, t2, t3, t4, t5, t8, t15, t17, t19, t20, t21⟩ := id M3
    have w3 : wl (oc h31) a0 = W := (wl_f R3.2.2.2.1 (by decide)).trans hW
    replace hf := jbind hf
    obtain ⟨q37, e4, hf⟩ := hf
    replace e4 := (jcv_o e4).2
    obtain ⟨F1, F2, F3, F4⟩ := E_X12_goesOn (calm := false) (m := m) (⟨M3, w3, K, LK, LB⟩ : rkE (oc h31) a0 W) rfl (by omega) hi e4
    cases hf
    -- leaf 0: (q37.1, q37.2)
    exact Or.inr ⟨s0, F2, rAct_mk z0 R3 F3 F1.2.1 F4, F1⟩
  · skip
    cases hf
    -- leaf 1: ((0 : Int32), q22.2)
    rcases r1 with ⟨-, y, -⟩ | ⟨s, -, T⟩
    · exact absurd y c2
    · exact Or.inl ⟨s, rfl, T⟩
theorem E_X12_hours {W : jWd} {r : Nat} {n : Nat} {a0 : Nat} {x1 : Int32} {h : jH} {q : Int32 × jH} (M : mS (oc h) a0) (hW : wl (oc h) a0 = W) (K : wOK W) (h7 : oi (oc h) a0 7 = nI r) (hr : r ≤ 12) (LK : lawK W) (LB : lawB W) (hf : F_X12_hours n a0 x1 h = some q) : (¬ (1 ≤ x1.toInt ∧ x1.toInt ≤ 80) ∧ q.1 = 0 ∧ rTh a0 1 h q.2) ∨ ∃ m : Nat, m ≤ 80 ∧ 1 ≤ m ∧ x1 = nI m ∧ q.1 = (hrs false m W 0).2 ∧ rAct a0 r (hrs false m W 0).1 h q.2 ∧ rkE (oc q.2) a0 (hrs false m W 0).1 := by
  unfold F_X12_hours at hf
  replace hf := jbind hf
  obtain ⟨h2, e1, hf⟩ := hf
  obtain ⟨o1, z1⟩ := oc_pf e1
  clear e1
  replace hf := jbind hf
  obtain ⟨v10, e2, hf⟩ := hf
  have r2 := E_X12_in e2
  replace hf := jite hf
  rcases hf with ⟨c3, hf⟩ | ⟨c3, hf⟩
  · skip
    -- leaf 0: F_X12_hours_21 n a0 x1 a0 (1 : Int32) h2
    have T1 : rTh a0 0 h h2 := ⟨by rw [o1, oi_eq], by rw [o1]; exact frM_f (by decide), z1⟩
    obtain ⟨M1, w1, g1⟩ := rTh_W T1 M hW h7
    have l1 : (1 : Int32).toInt = 1 := rfl
    have l80 : (80 : Int32).toInt = 80 := rfl
    rw [l1, l80] at r2
    rcases E_X12_hours_21 (m := 0) M1 w1 K g1 hr T1.1 rfl (Or.inr rfl) LK LB (fun z => absurd z (by decide)) (by decide) hf with ⟨-, b, T⟩ | ⟨s, -⟩
    · exact Or.inl ⟨fun z => absurd ((r2.2.mpr z).symm.trans c3) (by decide), b, rTh_tr T1 T⟩
    · exact absurd s (by decide)
  · skip
    -- leaf 1: F_X12_hours_21 n a0 x1 a0 (0 : Int32) h2
    have T1 : rTh a0 0 h h2 := ⟨by rw [o1, oi_eq], by rw [o1]; exact frM_f (by decide), z1⟩
    obtain ⟨M1, w1, g1⟩ := rTh_W T1 M hW h7
    have l1 : (1 : Int32).toInt = 1 := rfl
    have l80 : (80 : Int32).toInt = 80 := rfl
    rw [l1, l80] at r2
    obtain ⟨m, h8, h1, hi⟩ := i_hours (r2.2.mp (r2.1.resolve_left c3))
    rcases E_X12_hours_21 (m := m) M1 w1 K g1 hr T1.1 rfl (Or.inl rfl) LK LB (fun _ => hi) (by omega) hf with ⟨s, -⟩ | ⟨-, b, A, F⟩
    · exact absurd s (by decide)
    · exact Or.inr ⟨m, h8, h1, hi, b, rAct_tr T1 A, F⟩
theorem E_X11_hours {W : jWd} {nx : Nat} {n : Nat} {a0 : Nat} {x1 : Int32} {h : jH} {q : jR × jH} (C : cPre a0 nx W h) (X8 : oc h a0 8 = .ref (a0 + 36)) (Z36 : oc h (a0 + 36) 0 = .ref (a0 + 13)) (LE : lawE (oc h) (a0 + 13) W) (hf : F_X11_hours n a0 x1 h = some q) : (¬ (1 ≤ x1.toInt ∧ x1.toInt ≤ 80) ∧ q.1 = .inr 0 ∧ q.2 = h) ∨ ∃ m : Nat, m ≤ 80 ∧ 1 ≤ m ∧ x1 = nI m ∧ q.1 = .inl (hrs false m W 0).2 ∧ cAct a0 nx W (hrs false m W 0).1 h q.2 ∧ clkE (oc q.2) (a0 + 36) (a0 + 13) (a0 + 6) (hrs false m W 0).1 := by
  unfold F_X11_hours at hf
  obtain ⟨⟨X1, X3, sA, hx, hn, R, K⟩, hb, hz, sz⟩ := id C
  obtain ⟨⟨s0, s1, s2, s3, s4, s5⟩, ⟨u5, u10, u11, u12, u13, u14, u15, u16, u17⟩, RB, RC, RL⟩ := id R
  replace hf := jbind hf
  obtain ⟨q5, e1, hf⟩ := hf
  replace e1 := (jcv_o e1).2
  have r1 := E_X11_requireNumber e1
  obtain ⟨wq5, h5⟩ := q5
  have hqq : h5 = h := r1.elim (fun y => y.2.2) (fun y => y.2.2)
  subst hqq
  rcases wq5 with r5 | xq5
  · skip
    replace hf := (jthen_l (q := (.inl r5, h5)) rfl).symm.trans hf
    dsimp only at hf
    replace hf := jbind hf
    obtain ⟨p9, e2, hf⟩ := hf
    have r2 := oc_gR e2
    rw [X3] at r2
    cases r2
    clear e2
    replace hf := jbind hf
    obtain ⟨p13, e3, hf⟩ := hf
    have r3 := oc_gR e3
    rw [X1] at r3
    cases r3
    clear e3
    replace hf := jbind hf
    obtain ⟨h16, e4, hf⟩ := hf
    replace e4 := (jcv_o e4).2
    obtain ⟨Y1, RR, AA⟩ := c_rem C e4
    obtain ⟨⟨t0, t1, t2, t3, t4, t5⟩, ⟨g5, g10, g11, g12, g13, g14, g15, g16, g17⟩, QB, QC, QL⟩ := id RR
    have kp := c_keep hz hb AA
    have Y8 : oc h16 a0 8 = .ref (a0 + 36) := (kp _ _ (by omega) (by omega) (by omega) (by omega) (by omega) (by omega)).trans X8
    have CE : clkE (oc h16) (a0 + 36) (a0 + 13) (a0 + 6) W := ⟨(kp _ _ (by omega) (by omega) (by omega) (by omega) (by omega) (by omega)).trans Z36, RR, lawE_fr LE (fun a k h1 h2 h3 => kp _ _ (by omega) (by omega) (by omega) (by omega) (by omega) (by omega)), K⟩
    replace hf := jbind hf
    obtain ⟨p20, e5, hf⟩ := hf
    have r5 := oc_gR e5
    rw [Y8] at r5
    cases r5
    clear e5
    replace hf := jbind hf
    obtain ⟨p24, e6, hf⟩ := hf
    have r6 := oc_gR e6
    rw [Y1] at r6
    cases r6
    clear e6
    replace hf := jbind hf
    obtain ⟨q28, e7, hf⟩ := hf
    replace e7 := (jcv_o e7).2
    have P : (1 ≤ x1.toInt ∧ x1.toInt ≤ 80) := by
      rcases r1 with ⟨P, -, -⟩ | ⟨-, y, -⟩
      · exact P
      · cases y
    obtain ⟨m, h8, h1, hi⟩ := i_hours P
    obtain ⟨F1, F2, F3, F4⟩ := E_X1_run CE (by show (_ ∨ _) ∧ (_ ∨ _) ∧ (_ ∨ _); omega) (show m < 1000 by omega) hi e7
    cases hf
    -- leaf : (.inl q28.1, q28.2)
    exact Or.inr ⟨m, h8, h1, hi, congrArg Sum.inl F2, c_mkL hz hb AA F3 F1.2.1 F4, F1⟩
  · skip
    replace hf := (jthen_r (q := (.inr xq5, h5)) rfl).symm.trans hf
    cases hf
    rcases r1 with ⟨-, y, -⟩ | ⟨P, y, -⟩
    · cases y
    · exact Or.inl ⟨P, y, rfl⟩
end
section
/-! a ring sewn on -/
/-- one ring more, at place x with cloth y -/
def hgW (W : jWd) (x y : Int32) : jWd := fun k => if k = 0 then W 0 + 1 else if k = 11 + 8 * cN W then x else if k = 12 + 8 * cN W then y else if k = 17 + 8 * cN W then 1 else if 11 + 8 * cN W ≤ k ∧ k < 19 + 8 * cN W then 0 else W k
def leW (W : jWd) : Int32 := if W 0 = 0 then 0 else W (11 + 8 * (cN W - 1)) + 1
def moW (W : jWd) : Int32 := if W 0 = 0 then 31 else (if W (11 + 8 * (cN W - 1)) + W (12 + 8 * (cN W - 1)) < (31 : Int32) then W (11 + 8 * (cN W - 1)) + W (12 + 8 * (cN W - 1)) else (31 : Int32))
def canS (W : jWd) (x : Int32) : Prop := ¬ W 0 = 8 ∧ (leW W).toInt ≤ x.toInt ∧ x.toInt ≤ (moW W).toInt
theorem cN_last {W : jWd} (K : wOK W) (h : ¬ W 0 = 0) : W 0 - 1 = nI (cN W - 1) ∧ 1 ≤ cN W ∧ cN W ≤ 8 := by
  have k := K.1
  have l1 : (1 : Int32).toInt = 1 := rfl
  have n0 : (W 0).toInt ≠ 0 := fun z => h (nI_k (k := 0) z)
  have e : (cN W : Int) = (W 0).toInt := by unfold cN; omega
  exact ⟨nI_k (by rw [jsub (by omega) (by omega)]; omega), by omega, by omega⟩
theorem E_X12_hangs_8 {n : Nat} {W : jWd} : ∀ (k : Nat) {a0 : Nat} {x1 : Int32} {x2 : Int32} {x3 : Int32} {x4 : Int32} {h : jH} {q : jH} (t : Nat) (M : mS (oc h) a0) (hw : ∀ k, wl (oc h) a0 k = if 11 + 8 * cN W ≤ k ∧ k < 11 + 8 * cN W + t then 0 else W k) (h3 : x3 = nI (cN W)) (h4 : x4 = nI t) (ht : t ≤ 8) (hc : cN W < 8), F_X12_hangs_8 n k a0 x1 x2 x3 x4 h = some q → wl (oc q) a0 = hgW W x1 x2 ∧ frM a0 [1] [] (oc h) (oc q) ∧ q.1 = h.1
  | 0, a0, x1, x2, x3, x4, h, q, t, M, hw, h3, h4, ht, hc, hf => by cases hf
  | k + 1, a0, x1, x2, x3, x4, h, q, t, M, hw, h3, h4, ht, hc, hf => by
    replace hf : F_X12_hangs_8_b n (F_X12_hangs_8 n k) a0 x1 x2 x3 x4 h = some q := hf
    unfold F_X12_hangs_8_b at hf
    obtain ⟨s1, s2, s3, s4, s5, s8, s15, s17, s19, s20, s21⟩ := id M
    replace hf := jite hf
    rcases hf with ⟨c1, hf⟩ | ⟨c1, hf⟩
    · skip
      replace hf := jbind hf
      obtain ⟨p34, e2, hf⟩ := hf
      have r2 := oc_gR e2
      rw [s1] at r2
      cases r2
      clear e2
      replace hf := jbind hf
      obtain ⟨v39, e3, hf⟩ := hf
      have r3 := E_X12_at (i := cN W) (j := 0) (t := 11 + 8 * cN W) h3 rfl (by omega) e3
      subst r3
      replace hf := jbind hf
      obtain ⟨h43, e4, hf⟩ := hf
      obtain ⟨o4, z4, y4⟩ := oc_as e4
      rw [jnar0] at o4
      clear e4
      rw [nI_cl (show 11 + 8 * cN W < 2147483648 by omega)] at o4
      replace hf := jbind hf
      obtain ⟨p45, e5, hf⟩ := hf
      have r5 := oc_gR e5
      rw [o4] at r5
      rw [u2_ne (Or.inl (by omega))] at r5
      rw [s1] at r5
      cases r5
      clear e5
      replace hf := jbind hf
      obtain ⟨v50, e6, hf⟩ := hf
      have r6 := E_X12_at (i := cN W) (j := 1) (t := 12 + 8 * cN W) h3 rfl (by omega) e6
      subst r6
      replace hf := jbind hf
      obtain ⟨h54, e7, hf⟩ := hf
      obtain ⟨o7, z7, y7⟩ := oc_as e7
      rw [jnar0] at o7
      clear e7
      rw [nI_cl (show 12 + 8 * cN W < 2147483648 by omega)] at o7
      replace hf := jbind hf
      obtain ⟨p56, e8, hf⟩ := hf
      have r8 := oc_gR e8
      rw [o7] at r8
      rw [u2_ne (Or.inl (by omega))] at r8
      rw [o4] at r8
      rw [u2_ne (Or.inl (by omega))] at r8
      rw [s1] at r8
      cases r8
      clear e8
      replace hf := jbind hf
      obtain ⟨v62, e9, hf⟩ := hf
      have r9 := E_X12_at (i := cN W) (j := 6) (t := 17 + 8 * cN W) h3 rfl (by omega) e9
      subst r9
      replace hf := jbind hf
      obtain ⟨h66, e10, hf⟩ := hf
      obtain ⟨o10, z10, y10⟩ := oc_as e10
      rw [jnar0] at o10
      clear e10
      rw [nI_cl (show 17 + 8 * cN W < 2147483648 by omega)] at o10
      replace hf := jbind hf
      obtain ⟨p68, e11, hf⟩ := hf
      have r11 := oc_gR e11
      rw [o10] at r11
      rw [u2_ne (Or.inl (by omega))] at r11
      rw [o7] at r11
      rw [u2_ne (Or.inl (by omega))] at r11
      rw [o4] at r11
      rw [u2_ne (Or.inl (by omega))] at r11
      rw [s1] at r11
      cases r11
      clear e11
      replace hf := jbind hf
      obtain ⟨v73, e12, hf⟩ := hf
      obtain ⟨r12, y12⟩ := oc_al e12
      rw [show (0 : Int32).toNatClampNeg = 0 from rfl] at r12
      rw [o10] at r12
      rw [oi_ne (Or.inr (by omega))] at r12
      rw [o7] at r12
      rw [oi_ne (Or.inr (by omega))] at r12
      rw [o4] at r12
      rw [oi_ne (Or.inr (by omega))] at r12
      subst r12
      clear e12
      replace hf := jbind hf
      obtain ⟨h76, e13, hf⟩ := hf
      obtain ⟨o13, z13, y13⟩ := oc_as e13
      rw [jnar0] at o13
      rw [show (0 : Int32).toNatClampNeg = 0 from rfl] at o13
      clear e13
      cases hf
      -- leaf 0: h76
      rw [h4, Int32.le_iff_toInt_le, nI_toInt (by omega), show (8 : Int32).toInt = 8 from rfl] at c1
      have t8 : t = 8 := by omega
      subst t8
      have g0 : oi (oc h) (a0 + 1) 0 = W 0 := (hw 0).trans (if_neg (by omega))
      rw [g0] at o13
      have w9 : wl (oc q) a0 = upd (upd (upd (upd (wl (oc h) a0) (11 + 8 * cN W) x1) (12 + 8 * cN W) x2) (17 + 8 * cN W) 1) 0 (W 0 + 1) := by rw [o13, wl_w, o10, wl_w, o7, wl_w, o4, wl_w]
      have f9 : frM a0 [1] [] (oc h) (oc q) := by rw [o13, o10, o7, o4]; exact frM_tr (frM_tr (frM_tr (frM_c (by decide)) (frM_c (by decide))) (frM_c (by decide))) (frM_c (by decide))
      refine ⟨?_, f9, z13.trans (z10.trans (z7.trans z4))⟩
      rw [w9]
      funext k
      unfold hgW
      by_cases k0 : k = 0
      · rw [k0, upd_eq, if_pos rfl]
      rw [upd_n k0, if_neg k0]
      by_cases k1 : k = 11 + 8 * cN W
      · rw [if_pos k1, upd_n (by omega), upd_n (by omega), k1, upd_eq]
      by_cases k2 : k = 12 + 8 * cN W
      · rw [if_neg k1, if_pos k2, upd_n (by omega), k2, upd_eq]
      by_cases k6 : k = 17 + 8 * cN W
      · rw [if_neg k1, if_neg k2, if_pos k6, k6, upd_eq]
      rw [if_neg k1, if_neg k2, if_neg k6, upd_n k6, upd_n k2, upd_n k1, hw k]
      by_cases y : 11 + 8 * cN W ≤ k ∧ k < 11 + 8 * cN W + 8
      · rw [if_pos y, if_pos (by omega)]
      · rw [if_neg y, if_neg (by omega)]
    · skip
      replace hf := jbind hf
      obtain ⟨p16, e14, hf⟩ := hf
      have r14 := oc_gR e14
      rw [s1] at r14
      cases r14
      clear e14
      replace hf := jbind hf
      obtain ⟨v22, e15, hf⟩ := hf
      have r15 := E_X12_at (i := cN W) (j := t) (t := 11 + 8 * cN W + t) h3 h4 (by omega) e15
      subst r15
      replace hf := jbind hf
      obtain ⟨h26, e16, hf⟩ := hf
      obtain ⟨o16, z16, y16⟩ := oc_as e16
      rw [jnar0] at o16
      clear e16
      rw [nI_cl (show 11 + 8 * cN W + t < 2147483648 by omega)] at o16
      -- leaf 1: rc8 a0 x1 x2 x3 (x4 + (1 : Int32)) h26
      rw [h4, Int32.le_iff_toInt_le, nI_toInt (by omega), show (8 : Int32).toInt = 8 from rfl] at c1
      have f16 : frM a0 [1] [] (oc h) (oc h26) := by rw [o16]; exact frM_c (by decide)
      have hw2 : ∀ u, wl (oc h26) a0 u = if 11 + 8 * cN W ≤ u ∧ u < 11 + 8 * cN W + (t + 1) then 0 else W u := by
        intro u
        rw [o16, wl_w]
        by_cases y : u = 11 + 8 * cN W + t
        · rw [y, upd_eq, if_pos (by omega)]
        · rw [upd_n y, hw u]
          by_cases w : 11 + 8 * cN W ≤ u ∧ u < 11 + 8 * cN W + t
          · rw [if_pos w, if_pos (by omega)]
          · rw [if_neg w, if_neg (by omega)]
      obtain ⟨b1, b2, b3⟩ := E_X12_hangs_8 (W := W) k (t + 1) (mS_fr M f16 (by decide) (by decide)) hw2 h3 (by rw [h4, nI_1]) (by omega) hc hf
      exact ⟨b1, frM_tr f16 b2, b3.trans z16⟩
theorem E_X12_hangs {W : jWd} {n : Nat} {a0 : Nat} {x1 : Int32} {x2 : Int32} {h : jH} {q : jH} (M : mS (oc h) a0) (hW : wl (oc h) a0 = W) (K : wOK W) (hc : cN W < 8) (hf : F_X12_hangs n a0 x1 x2 h = some q) : wl (oc q) a0 = hgW W x1 x2 ∧ frM a0 [1] [] (oc h) (oc q) ∧ q.1 = h.1 := by
  unfold F_X12_hangs at hf
  replace hf := jbind hf
  obtain ⟨v1, e1, hf⟩ := hf
  replace e1 := (jcv_o e1).2
  have r1 := E_X12_rings M e1
  rw [hW] at r1
  subst r1
  -- leaf : F_X12_hangs_8 n n a0 x1 x2 v1 (0 : Int32) h
  have k0 := K.1
  have h3 : W 0 = nI (cN W) := nI_k (by unfold cN; omega)
  exact E_X12_hangs_8 (W := W) n 0 M (fun k => by rw [if_neg (by omega), hW]) h3 rfl (by omega) hc hf
theorem E_X12_leastPlace {W : jWd} {n : Nat} {a0 : Nat} {h : jH} {q : Int32} (M : mS (oc h) a0) (hW : wl (oc h) a0 = W) (K : wOK W) (hf : F_X12_leastPlace n a0 h = some q) : q = leW W := by
  unfold F_X12_leastPlace at hf
  replace hf := jbind hf
  obtain ⟨v1, e1, hf⟩ := hf
  replace e1 := (jcv_o e1).2
  have r1 := E_X12_rings M e1
  rw [hW] at r1
  subst r1
  replace hf := jite hf
  rcases hf with ⟨c2, hf⟩ | ⟨c2, hf⟩
  · skip
    cases hf
    -- leaf 0: (0 : Int32)
    exact (if_pos c2).symm
  · skip
    replace hf := jbind hf
    obtain ⟨v13, e3, hf⟩ := hf
    replace e3 := (jcv_o e3).2
    have r3 := E_X12_lastRing M e3
    rw [hW] at r3
    subst r3
    obtain ⟨n1, n2, n3⟩ := cN_last K c2
    replace hf := jbind hf
    obtain ⟨v17, e4, hf⟩ := hf
    replace e4 := (jcv_o e4).2
    have r4 := E_X12_of (i := cN W - 1) (j := 0) (t := 11 + 8 * (cN W - 1)) M n1 rfl (by omega) (by omega) e4
    rw [hW] at r4
    subst r4
    cases hf
    -- leaf 1: (v17 + (1 : Int32))
    exact (if_neg c2).symm
theorem E_X12_mostPlace {W : jWd} {n : Nat} {a0 : Nat} {h : jH} {q : Int32} (M : mS (oc h) a0) (hW : wl (oc h) a0 = W) (K : wOK W) (hf : F_X12_mostPlace n a0 h = some q) : q = moW W := by
  unfold F_X12_mostPlace at hf
  replace hf := jbind hf
  obtain ⟨v1, e1, hf⟩ := hf
  replace e1 := (jcv_o e1).2
  have r1 := E_X12_rings M e1
  rw [hW] at r1
  subst r1
  replace hf := jite hf
  rcases hf with ⟨c2, hf⟩ | ⟨c2, hf⟩
  · skip
    cases hf
    -- leaf 0: (31 : Int32)
    exact (if_pos c2).symm
  · skip
    replace hf := jbind hf
    obtain ⟨v16, e3, hf⟩ := hf
    replace e3 := (jcv_o e3).2
    have r3 := E_X12_lastRing M e3
    rw [hW] at r3
    subst r3
    obtain ⟨n1, n2, n3⟩ := cN_last K c2
    replace hf := jbind hf
    obtain ⟨v20, e4, hf⟩ := hf
    replace e4 := (jcv_o e4).2
    have r4 := E_X12_of (i := cN W - 1) (j := 0) (t := 11 + 8 * (cN W - 1)) M n1 rfl (by omega) (by omega) e4
    rw [hW] at r4
    subst r4
    replace hf := jbind hf
    obtain ⟨v25, e5, hf⟩ := hf
    replace e5 := (jcv_o e5).2
    have r5 := E_X12_lastRing M e5
    rw [hW] at r5
    subst r5
    obtain ⟨n1, n2, n3⟩ := cN_last K c2
    replace hf := jbind hf
    obtain ⟨v29, e6, hf⟩ := hf
    replace e6 := (jcv_o e6).2
    have r6 := E_X12_of (i := cN W - 1) (j := 1) (t := 12 + 8 * (cN W - 1)) M n1 rfl (by omega) (by omega) e6
    rw [hW] at r6
    subst r6
    cases hf
    -- leaf 1: (if (v20 + v29) < (31 : Int32) then v20 + v29 else (31 : Int32))
    exact (if_neg c2).symm
end
section
/-! sew, the reference -/
theorem cN_lt {W : jWd} (K : wOK W) (h : ¬ W 0 = 8) : cN W < 8 := by
  have k := K.1
  have n8 : (W 0).toInt ≠ 8 := fun z => h (nI_k (k := 8) z)
  unfold cN
  omega
theorem E_X12_sew_70 {W : jWd} {r : Nat} {n : Nat} {a0 : Nat} {x1 : Int32} {x2 : Int32} {sa0 : Nat} {s1 : Int32} {h : jH} {q : Int32 × jH} (M : mS (oc h) a0) (hW : wl (oc h) a0 = W) (K : wOK W) (h7 : oi (oc h) a0 7 = nI r) (hr : r ≤ 12) (z0 : oi (oc h) a0 0 = 0) (hs : a0 = sa0) (h01 : s1 = 0 ∨ s1 = 1) (hc : s1 = 0 → cN W < 8) (hf : F_X12_sew_70 n a0 x1 x2 sa0 s1 h = some q) : (s1 = 1 ∧ q.1 = 0 ∧ rTh a0 3 h q.2) ∨ (s1 = 0 ∧ q.1 = hgW W x1 x2 0 - 1 ∧ rAct a0 r (hgW W x1 x2) h q.2) := by
  unfold F_X12_sew_70 at hf
  subst hs
  replace hf := jbind hf
  obtain ⟨q71, e1, hf⟩ := hf
  replace e1 := (jcv_o e1).2
  have r1 := E_X12_throwsIf h01 e1
  replace hf := jite hf
  rcases hf with ⟨c2, hf⟩ | ⟨c2, hf⟩
  · skip
    replace hf := jbind hf
    obtain ⟨h80, e3, hf⟩ := hf
    replace e3 := (jcv_o e3).2
    have s0 : s1 = 0 := by
      rcases r1 with ⟨y, -, -⟩ | ⟨-, y, -⟩
      · exact y
      · exact absurd (y.symm.trans c2) (by decide)
    have hq : q71.2 = h := by
      rcases r1 with ⟨-, -, y⟩ | ⟨-, y, -⟩
      · exact y
      · exact absurd (y.symm.trans c2) (by decide)
    rw [hq] at e3
    have R3 : rRM a0 r h h80 := E_X12_remembers M h7 hr e3
    have M3 : mS (oc h80) a0 := mS_fr M R3.2.2.2.1 (by decide) (by decide)
    obtain ⟨t1, t2, t3, t4, t5, t8, t15, t17, t19, t20, t21⟩ := id M3
    have w3 : wl (oc h80) a0 = W := (wl_f R3.2.2.2.1 (by decide)).trans hW
    replace hf := jbind hf
    obtain ⟨h86, e4, hf⟩ := hf
    replace e4 := (jcv_o e4).2
    obtain ⟨G1, G2, G3⟩ := E_X12_hangs M3 w3 K (hc s0) e4
    have M4 : mS (oc h86) a0 := mS_fr M3 G2 (by decide) (by decide)
    replace hf := jbind hf
    obtain ⟨v90, e5, hf⟩ := hf
    replace e5 := (jcv_o e5).2
    have r5 := E_X12_lastRing M4 e5
    rw [G1] at r5
    cases hf
    -- leaf 0: (v90, h86)
    exact Or.inr ⟨s0, r5, rAct_mk z0 R3 (f1 G2) G1 G3⟩
  · skip
    cases hf
    -- leaf 1: ((0 : Int32), q71.2)
    rcases r1 with ⟨-, y, -⟩ | ⟨s, -, T⟩
    · exact absurd y c2
    · exact Or.inl ⟨s, rfl, T⟩
theorem E_X12_sew_33 {W : jWd} {r : Nat} {n : Nat} {a0 : Nat} {x1 : Int32} {x2 : Int32} {sa0 : Nat} {s1 : Int32} {h : jH} {q : Int32 × jH} (M : mS (oc h) a0) (hW : wl (oc h) a0 = W) (K : wOK W) (h7 : oi (oc h) a0 7 = nI r) (hr : r ≤ 12) (z0 : oi (oc h) a0 0 = 0) (hs : a0 = sa0) (h01 : s1 = 0 ∨ s1 = 1) (hf : F_X12_sew_33 n a0 x1 x2 sa0 s1 h = some q) : (s1 = 1 ∧ q.1 = 0 ∧ rTh a0 2 h q.2) ∨ (s1 = 0 ∧ ((¬ canS W x1 ∧ q.1 = 0 ∧ rTh a0 3 h q.2) ∨ (canS W x1 ∧ q.1 = hgW W x1 x2 0 - 1 ∧ rAct a0 r (hgW W x1 x2) h q.2))) := by
  unfold F_X12_sew_33 at hf
  subst hs
  replace hf := jbind hf
  obtain ⟨q34, e1, hf⟩ := hf
  replace e1 := (jcv_o e1).2
  have r1 := E_X12_throwsIf h01 e1
  replace hf := jite hf
  rcases hf with ⟨c2, hf⟩ | ⟨c2, hf⟩
  · skip
    replace hf := jbind hf
    obtain ⟨v42, e3, hf⟩ := hf
    replace e3 := (jcv_o e3).2
    have s0 : s1 = 0 := by
      rcases r1 with ⟨y, -, -⟩ | ⟨-, y, -⟩
      · exact y
      · exact absurd (y.symm.trans c2) (by decide)
    have hq : q34.2 = h := by
      rcases r1 with ⟨-, -, y⟩ | ⟨-, y, -⟩
      · exact y
      · exact absurd (y.symm.trans c2) (by decide)
    rw [hq] at e3
    have r3 := E_X12_rings M e3
    rw [hW] at r3
    replace hf := jite hf
    rcases hf with ⟨c4, hf⟩ | ⟨c4, hf⟩
    · skip
      -- leaf 00: F_X12_sew_70 n a0 x1 x2 a0 (1 : Int32) q34.2
      rw [hq] at hf
      rcases E_X12_sew_70 M hW K h7 hr z0 rfl (Or.inr rfl) (fun z => absurd z (by decide)) hf with ⟨-, b, T⟩ | ⟨s, -⟩
      · exact Or.inr ⟨s0, Or.inl ⟨fun z => z.1 (r3.symm.trans c4), b, T⟩⟩
      · exact absurd s (by decide)
    · skip
      replace hf := jbind hf
      obtain ⟨v52, e5, hf⟩ := hf
      replace e5 := (jcv_o e5).2
      rw [hq] at e5
      have r5 := E_X12_leastPlace M hW K e5
      replace hf := jbind hf
      obtain ⟨v56, e6, hf⟩ := hf
      replace e6 := (jcv_o e6).2
      rw [hq] at e6
      have r6 := E_X12_mostPlace M hW K e6
      replace hf := jbind hf
      obtain ⟨v59, e7, hf⟩ := hf
      have r7 := E_X12_in e7
      replace hf := jite hf
      rcases hf with ⟨c8, hf⟩ | ⟨c8, hf⟩
      · skip
        -- leaf 010: F_X12_sew_70 n a0 x1 x2 a0 (1 : Int32) q34.2
        rw [hq] at hf
        rcases E_X12_sew_70 M hW K h7 hr z0 rfl (Or.inr rfl) (fun z => absurd z (by decide)) hf with ⟨-, b, T⟩ | ⟨s, -⟩
        · exact Or.inr ⟨s0, Or.inl ⟨fun z => absurd ((r7.2.mpr ⟨by rw [r5]; exact z.2.1, by rw [r6]; exact z.2.2⟩).symm.trans c8) (by decide), b, T⟩⟩
        · exact absurd s (by decide)
      · skip
        -- leaf 011: F_X12_sew_70 n a0 x1 x2 a0 (0 : Int32) q34.2
        rw [hq] at hf
        have y := r7.2.mp (r7.1.resolve_left c8)
        rw [r5, r6] at y
        have n8 : ¬ W 0 = 8 := fun z => c4 (r3.trans z)
        rcases E_X12_sew_70 M hW K h7 hr z0 rfl (Or.inl rfl) (fun _ => cN_lt K n8) hf with ⟨s, -⟩ | ⟨-, b, A⟩
        · exact absurd s (by decide)
        · exact Or.inr ⟨s0, Or.inr ⟨⟨n8, y⟩, b, A⟩⟩
  · skip
    cases hf
    -- leaf 1: ((0 : Int32), q34.2)
    rcases r1 with ⟨-, y, -⟩ | ⟨s, -, T⟩
    · exact absurd y c2
    · exact Or.inl ⟨s, rfl, T⟩
theorem E_X12_sew {W : jWd} {r : Nat} {n : Nat} {a0 : Nat} {x1 : Int32} {x2 : Int32} {h : jH} {q : Int32 × jH} (M : mS (oc h) a0) (hW : wl (oc h) a0 = W) (K : wOK W) (h7 : oi (oc h) a0 7 = nI r) (hr : r ≤ 12) (hf : F_X12_sew n a0 x1 x2 h = some q) : (¬ (0 ≤ x1.toInt ∧ x1.toInt ≤ 31) ∧ q.1 = 0 ∧ rTh a0 1 h q.2) ∨ ((0 ≤ x1.toInt ∧ x1.toInt ≤ 31) ∧ ((¬ (1 ≤ x2.toInt ∧ x2.toInt ≤ 9) ∧ q.1 = 0 ∧ rTh a0 2 h q.2) ∨ ((1 ≤ x2.toInt ∧ x2.toInt ≤ 9) ∧ ((¬ canS W x1 ∧ q.1 = 0 ∧ rTh a0 3 h q.2) ∨ (canS W x1 ∧ q.1 = hgW W x1 x2 0 - 1 ∧ rAct a0 r (hgW W x1 x2) h q.2))))) := by
  unfold F_X12_sew at hf
  replace hf := jbind hf
  obtain ⟨h2, e1, hf⟩ := hf
  obtain ⟨o1, z1⟩ := oc_pf e1
  clear e1
  replace hf := jbind hf
  obtain ⟨v7, e2, hf⟩ := hf
  have T1 : rTh a0 0 h h2 := ⟨by rw [o1, oi_eq], by rw [o1]; exact frM_f (by decide), z1⟩
  obtain ⟨M1, w1, g1⟩ := rTh_W T1 M hW h7
  have r2 := E_X12_noPlace e2
  replace hf := jbind hf
  obtain ⟨q11, e3, hf⟩ := hf
  replace e3 := (jcv_o e3).2
  have r3 := E_X12_throwsIf r2.1 e3
  replace hf := jite hf
  rcases hf with ⟨c4, hf⟩ | ⟨c4, hf⟩
  · skip
    replace hf := jbind hf
    obtain ⟨v22, e5, hf⟩ := hf
    have r5 := E_X12_in e5
    replace hf := jite hf
    rcases hf with ⟨c6, hf⟩ | ⟨c6, hf⟩
    · skip
      -- leaf 00: F_X12_sew_33 n a0 x1 x2 a0 (1 : Int32) q11.2
      have hq : q11.2 = h2 := by
        rcases r3 with ⟨-, -, y⟩ | ⟨-, y, -⟩
        · exact y
        · exact absurd (y.symm.trans c4) (by decide)
      have hv : v7 = 0 := by
        rcases r3 with ⟨y, -, -⟩ | ⟨-, y, -⟩
        · exact y
        · exact absurd (y.symm.trans c4) (by decide)
      have P : (0 ≤ x1.toInt ∧ x1.toInt ≤ 31) := Classical.byContradiction fun z => absurd ((r2.2.mpr z).symm.trans hv) (by decide)
      have l1 : (1 : Int32).toInt = 1 := rfl
      have l9 : (9 : Int32).toInt = 9 := rfl
      rw [l1, l9] at r5
      rw [hq] at hf
      rcases E_X12_sew_33 M1 w1 K g1 hr T1.1 rfl (Or.inr rfl) hf with ⟨-, b, T⟩ | ⟨s, -⟩
      · exact Or.inr ⟨P, Or.inl ⟨fun z => absurd ((r5.2.mpr z).symm.trans c6) (by decide), b, rTh_tr T1 T⟩⟩
      · exact absurd s (by decide)
    · skip
      -- leaf 01: F_X12_sew_33 n a0 x1 x2 a0 (0 : Int32) q11.2
      have hq : q11.2 = h2 := by
        rcases r3 with ⟨-, -, y⟩ | ⟨-, y, -⟩
        · exact y
        · exact absurd (y.symm.trans c4) (by decide)
      have hv : v7 = 0 := by
        rcases r3 with ⟨y, -, -⟩ | ⟨-, y, -⟩
        · exact y
        · exact absurd (y.symm.trans c4) (by decide)
      have P : (0 ≤ x1.toInt ∧ x1.toInt ≤ 31) := Classical.byContradiction fun z => absurd ((r2.2.mpr z).symm.trans hv) (by decide)
      have l1 : (1 : Int32).toInt = 1 := rfl
      have l9 : (9 : Int32).toInt = 9 := rfl
      rw [l1, l9] at r5
      rw [hq] at hf
      rcases E_X12_sew_33 M1 w1 K g1 hr T1.1 rfl (Or.inl rfl) hf with ⟨s, -⟩ | ⟨-, y⟩
      · exact absurd s (by decide)
      refine Or.inr ⟨P, Or.inr ⟨r5.2.mp (r5.1.resolve_left c6), ?_⟩⟩
      rcases y with ⟨a, b, T⟩ | ⟨a, b, A⟩
      · exact Or.inl ⟨a, b, rTh_tr T1 T⟩
      · exact Or.inr ⟨a, b, rAct_tr T1 A⟩
  · skip
    cases hf
    -- leaf 1: ((0 : Int32), q11.2)
    rcases r3 with ⟨-, y, -⟩ | ⟨s, -, T⟩
    · exact absurd y c4
    · exact Or.inl ⟨r2.2.mp s, rfl, rTh_tr T1 T⟩
end
section
/-! sew, the class -/
theorem hg_lo {W : jWd} {x y : Int32} {k : Nat} (h0 : k ≠ 0) (h : k < 11 + 8 * cN W ∨ 19 + 8 * cN W ≤ k) : hgW W x y k = W k := by
  unfold hgW
  rw [if_neg h0, if_neg (by omega), if_neg (by omega), if_neg (by omega), if_neg (by omega)]
theorem hg_pl {W : jWd} {x y : Int32} : hgW W x y (11 + 8 * cN W) = x := by
  unfold hgW
  rw [if_neg (by omega), if_pos rfl]
theorem hg_cl {W : jWd} {x y : Int32} : hgW W x y (12 + 8 * cN W) = y := by
  unfold hgW
  rw [if_neg (by omega), if_neg (by omega), if_pos rfl]
theorem hg_hk {W : jWd} {x y : Int32} : hgW W x y (17 + 8 * cN W) = 1 := by
  unfold hgW
  rw [if_neg (by omega), if_neg (by omega), if_neg (by omega), if_pos rfl]
theorem hg_z {W : jWd} {x y : Int32} {k : Nat} (h : 13 + 8 * cN W ≤ k ∧ k < 19 + 8 * cN W ∧ k ≠ 17 + 8 * cN W) : hgW W x y k = 0 := by
  unfold hgW
  rw [if_neg (by omega), if_neg (by omega), if_neg (by omega), if_neg (by omega), if_pos (by omega)]
theorem chV_f {v x : Int32} {k i : Nat} (hk : k < 32) (hx : x = 0 ∨ x = 1) (hi : i < 32) (n : i ≠ k) (h : bt v i = false) : bt (chV v k x) i = false := by
  have y := chV_bit (v := v) hk hx i hi
  rw [if_neg n, h] at y
  cases z : bt (chV v k x) i
  · rfl
  · exact absurd (y.mp z) (by decide)
/-- the class's rod with one ring more -/
theorem rodE_hg {O O2 : jO} {a0 : Nat} {W : jWd} {x1 x2 : Int32} (R : rodE O a0 W) (K : wOK W) (hc : cN W < 8)
    (E : O2 = u2 (u2 (u2 (u2 (u2 (u2 (u2 (u2 (u2 O (a0 + 1) (cN W) (.int x1)) (a0 + 2) (cN W) (.int x2)) (a0 + 3) (cN W) (.int 0)) (a0 + 4) (cN W) (.int 0)) a0 6 (.int (chV (oi O a0 6) (cN W) 0))) a0 7 (.int (chV (oi O a0 7) (cN W) 0))) a0 8 (.int (chV (oi O a0 8) (cN W) 1))) a0 9 (.int (chV (oi O a0 9) (cN W) 0))) a0 5 (.int (oi O a0 5 + 1))) : rodE O2 a0 (hgW W x1 x2) := by
  obtain ⟨⟨s0, s1, s2, s3, s4, s5⟩, ⟨u5, u10, u11, u12, u13, u14, u15, u16, u17⟩, RB, RC, RL⟩ := R
  have k0 := K.1
  have l1 : (1 : Int32).toInt = 1 := rfl
  have g0 : hgW W x1 x2 0 = W 0 + 1 := if_pos rfl
  have g0i : (hgW W x1 x2 0).toInt = (W 0).toInt + 1 := by rw [g0, jadd (by omega) (by omega)]; omega
  have ec : (cN W : Int) = (W 0).toInt := by unfold cN; omega
  have q6 : oi O2 a0 6 = chV (oi O a0 6) (cN W) 0 := by subst E; simp (disch := omega) only [oi_ne, oi_eq]
  have q7 : oi O2 a0 7 = chV (oi O a0 7) (cN W) 0 := by subst E; simp (disch := omega) only [oi_ne, oi_eq]
  have q8 : oi O2 a0 8 = chV (oi O a0 8) (cN W) 1 := by subst E; simp (disch := omega) only [oi_ne, oi_eq]
  have q9 : oi O2 a0 9 = chV (oi O a0 9) (cN W) 0 := by subst E; simp (disch := omega) only [oi_ne, oi_eq]
  have n : ∀ a k, (a ≠ a0 ∨ 10 ≤ k ∨ k < 5) → (a < a0 + 1 ∨ a0 + 4 < a ∨ k ≠ cN W) → O2 a k = O a k := fun a k h1 h2 => by subst E; simp (disch := omega) only [u2_ne]
  have ni : ∀ a k, (a ≠ a0 ∨ 10 ≤ k ∨ k < 5) → (a < a0 + 1 ∨ a0 + 4 < a ∨ k ≠ cN W) → oi O2 a k = oi O a k := fun a k h1 h2 => by unfold oi; rw [n a k h1 h2]
  have p1 : oi O2 (a0 + 1) (cN W) = x1 := by subst E; simp (disch := omega) only [oi_ne, oi_eq]
  have p2 : oi O2 (a0 + 2) (cN W) = x2 := by subst E; simp (disch := omega) only [oi_ne, oi_eq]
  have p3 : oi O2 (a0 + 3) (cN W) = 0 := by subst E; simp (disch := omega) only [oi_ne, oi_eq]
  have p4 : oi O2 (a0 + 4) (cN W) = 0 := by subst E; simp (disch := omega) only [oi_ne, oi_eq]
  have q5 : oi O2 a0 5 = hgW W x1 x2 0 := by rw [g0, ← u5]; subst E; exact oi_eq
  have lo : ∀ k, k ≠ 0 → k < 11 + 8 * cN W ∨ 19 + 8 * cN W ≤ k → hgW W x1 x2 k = W k := fun k h1 h2 => hg_lo h1 h2
  refine ⟨⟨(n _ _ (by omega) (by omega)).trans s0, (n _ _ (by omega) (by omega)).trans s1, (n _ _ (by omega) (by omega)).trans s2, (n _ _ (by omega) (by omega)).trans s3, (n _ _ (by omega) (by omega)).trans s4, (n _ _ (by omega) (by omega)).trans s5⟩, ⟨q5, ?_, ?_, ?_, ?_, ?_, ?_, ?_, ?_⟩, fun i hi => ?_, fun i hi h32 => ?_, ?_⟩
  · rw [ni _ _ (by omega) (by omega), lo 7 (by omega) (by omega)]; exact u10
  · rw [ni _ _ (by omega) (by omega), lo 5 (by omega) (by omega)]; exact u11
  · rw [ni _ _ (by omega) (by omega), lo 6 (by omega) (by omega)]; exact u12
  · rw [ni _ _ (by omega) (by omega), lo 3 (by omega) (by omega)]; exact u13
  · rw [ni _ _ (by omega) (by omega), lo 4 (by omega) (by omega)]; exact u14
  · rw [ni _ _ (by omega) (by omega), lo 8 (by omega) (by omega)]; exact u15
  · rw [ni _ _ (by omega) (by omega), lo 10 (by omega) (by omega)]; exact u16
  · rw [ni _ _ (by omega) (by omega), lo 1 (by omega) (by omega)]; exact u17
  · rw [g0i] at hi
    have b6 := chV_bit (v := oi O a0 6) (show cN W < 32 by omega) (Or.inl rfl : (0 : Int32) = 0 ∨ (0 : Int32) = 1) i (by omega)
    have b7 := chV_bit (v := oi O a0 7) (show cN W < 32 by omega) (Or.inl rfl : (0 : Int32) = 0 ∨ (0 : Int32) = 1) i (by omega)
    have b8 := chV_bit (v := oi O a0 8) (show cN W < 32 by omega) (Or.inr rfl : (1 : Int32) = 0 ∨ (1 : Int32) = 1) i (by omega)
    have b9 := chV_bit (v := oi O a0 9) (show cN W < 32 by omega) (Or.inl rfl : (0 : Int32) = 0 ∨ (0 : Int32) = 1) i (by omega)
    rw [← q6] at b6
    rw [← q7] at b7
    rw [← q8] at b8
    rw [← q9] at b9
    by_cases y : i = cN W
    · subst y
      rw [if_pos rfl] at b6 b7 b8 b9
      rw [hg_pl, hg_cl, hg_hk, hg_z (show _ by omega), hg_z (show _ by omega), hg_z (show _ by omega), hg_z (show _ by omega), hg_z (show _ by omega)]
      exact ⟨p1, p2, b6, b7, p3, p4, b8, b9⟩
    · rw [if_neg y] at b6 b7 b8 b9
      obtain ⟨r1, r2, r3, r4, r5, r6, r7, r8⟩ := RB i (by omega)
      rw [lo _ (by omega) (by omega), lo _ (by omega) (by omega), lo _ (by omega) (by omega), lo _ (by omega) (by omega), lo _ (by omega) (by omega), lo _ (by omega) (by omega), lo _ (by omega) (by omega), lo _ (by omega) (by omega)]
      exact ⟨(ni _ _ (by omega) (by omega)).trans r1, (ni _ _ (by omega) (by omega)).trans r2, b6.trans r3, b7.trans r4, (ni _ _ (by omega) (by omega)).trans r5, (ni _ _ (by omega) (by omega)).trans r6, b8.trans r7, b9.trans r8⟩
  · rw [g0i] at hi
    obtain ⟨r1, r2⟩ := RC i (by omega) h32
    rw [q7, q9]
    exact ⟨chV_f (by omega) (Or.inl rfl) h32 (by omega) r1, chV_f (by omega) (Or.inl rfl) h32 (by omega) r2⟩
  · exact logE_cg RL (fun k => ni _ _ (by omega) (by omega)) (fun k => ni _ _ (by omega) (by omega)) (fun k hk => lo k (by omega) (by omega))
end
section
/-! sew as an act of the class -/
theorem E_X8_nearestNew {W : jWd} {n : Nat} {a0 : Nat} {h : jH} {q : Int32} (R : rodE (oc h) a0 W) (K : wOK W) (hf : F_X8_nearestNew n a0 h = some q) : q = leW W := by
  unfold F_X8_nearestNew at hf
  obtain ⟨⟨s0, s1, s2, s3, s4, s5⟩, ⟨u5, u10, u11, u12, u13, u14, u15, u16, u17⟩, RB, RC, RL⟩ := id R
  replace hf := jbind hf
  obtain ⟨v1, e1, hf⟩ := hf
  have r1 := oc_gI e1
  subst r1
  clear e1
  replace hf := jite hf
  rcases hf with ⟨c2, hf⟩ | ⟨c2, hf⟩
  · skip
    cases hf
    -- leaf 0: (0 : Int32)
    rw [u5] at c2
    exact (if_pos c2).symm
  · skip
    replace hf := jbind hf
    obtain ⟨p12, e3, hf⟩ := hf
    have r3 := oc_gR e3
    rw [s0] at r3
    cases r3
    clear e3
    replace hf := jbind hf
    obtain ⟨v16, e4, hf⟩ := hf
    have r4 := oc_gI e4
    subst r4
    clear e4
    replace hf := jbind hf
    obtain ⟨v21, e5, hf⟩ := hf
    obtain ⟨r5, y5⟩ := oc_al e5
    subst r5
    clear e5
    cases hf
    -- leaf 1: (v21 + (1 : Int32))
    rw [u5] at c2
    obtain ⟨n1, n2, n3⟩ := cN_last K c2
    have hl : ((cN W - 1 : Nat) : Int) < (W 0).toInt := by
      have k0 := K.1
      have ec : (cN W : Int) = (W 0).toInt := by unfold cN; omega
      omega
    rw [u5, n1, nI_cl (by omega), (RB _ hl).1]
    exact (if_neg c2).symm
theorem E_X8_farthestNew {W : jWd} {n : Nat} {a0 : Nat} {h : jH} {q : Int32} (R : rodE (oc h) a0 W) (K : wOK W) (hf : F_X8_farthestNew n a0 h = some q) : q = moW W := by
  unfold F_X8_farthestNew at hf
  obtain ⟨⟨s0, s1, s2, s3, s4, s5⟩, ⟨u5, u10, u11, u12, u13, u14, u15, u16, u17⟩, RB, RC, RL⟩ := id R
  replace hf := jbind hf
  obtain ⟨v1, e1, hf⟩ := hf
  have r1 := oc_gI e1
  subst r1
  clear e1
  replace hf := jite hf
  rcases hf with ⟨c2, hf⟩ | ⟨c2, hf⟩
  · skip
    cases hf
    -- leaf 0: (31 : Int32)
    rw [u5] at c2
    exact (if_pos c2).symm
  · skip
    replace hf := jbind hf
    obtain ⟨p15, e3, hf⟩ := hf
    have r3 := oc_gR e3
    rw [s0] at r3
    cases r3
    clear e3
    replace hf := jbind hf
    obtain ⟨v19, e4, hf⟩ := hf
    have r4 := oc_gI e4
    subst r4
    clear e4
    replace hf := jbind hf
    obtain ⟨v24, e5, hf⟩ := hf
    obtain ⟨r5, y5⟩ := oc_al e5
    subst r5
    clear e5
    replace hf := jbind hf
    obtain ⟨p26, e6, hf⟩ := hf
    have r6 := oc_gR e6
    rw [s1] at r6
    cases r6
    clear e6
    replace hf := jbind hf
    obtain ⟨v30, e7, hf⟩ := hf
    have r7 := oc_gI e7
    subst r7
    clear e7
    replace hf := jbind hf
    obtain ⟨v35, e8, hf⟩ := hf
    obtain ⟨r8, y8⟩ := oc_al e8
    subst r8
    clear e8
    cases hf
    -- leaf 1: (if (v24 + v35) < (31 : Int32) then v24 + v35 else (31 : Int32))
    rw [u5] at c2
    obtain ⟨n1, n2, n3⟩ := cN_last K c2
    have hl : ((cN W - 1 : Nat) : Int) < (W 0).toInt := by
      have k0 := K.1
      have ec : (cN W : Int) = (W 0).toInt := by unfold cN; omega
      omega
    rw [u5, n1, nI_cl (by omega), (RB _ hl).1, (RB _ hl).2.1]
    exact (if_neg c2).symm
theorem E_X8_add {W : jWd} {n : Nat} {a0 : Nat} {x1 : Int32} {x2 : Int32} {h : jH} {q : jH} (R : rodE (oc h) a0 W) (K : wOK W) (hc : cN W < 8) (hf : F_X8_add n a0 x1 x2 h = some q) : rodE (oc q) a0 (hgW W x1 x2) ∧ frR a0 (oc h) (oc q) ∧ q.1 = h.1 := by
  unfold F_X8_add at hf
  obtain ⟨⟨s0, s1, s2, s3, s4, s5⟩, ⟨u5, u10, u11, u12, u13, u14, u15, u16, u17⟩, RB, RC, RL⟩ := id R
  have k0 := K.1
  have ec : (cN W : Int) = (W 0).toInt := by unfold cN; omega
  have h5 : oi (oc h) a0 5 = nI (cN W) := u5.trans (nI_k ec.symm)
  replace hf := jbind hf
  obtain ⟨v1, e1, hf⟩ := hf
  have r1 := oc_gI e1
  subst r1
  clear e1
  replace hf := jite hf
  rcases hf with ⟨c2, hf⟩ | ⟨c2, hf⟩
  · skip
    replace hf := jbind hf
    obtain ⟨p11, e3, hf⟩ := hf
    have r3 := oc_gR e3
    rw [s0] at r3
    cases r3
    clear e3
    replace hf := jbind hf
    obtain ⟨v15, e4, hf⟩ := hf
    have r4 := oc_gI e4
    subst r4
    clear e4
    replace hf := jbind hf
    obtain ⟨h19, e5, hf⟩ := hf
    obtain ⟨o5, z5, y5⟩ := oc_as e5
    rw [jnar0] at o5
    clear e5
    replace hf := jbind hf
    obtain ⟨p21, e6, hf⟩ := hf
    have r6 := oc_gR e6
    rw [o5] at r6
    rw [u2_ne (Or.inl (by omega))] at r6
    rw [s1] at r6
    cases r6
    clear e6
    replace hf := jbind hf
    obtain ⟨v25, e7, hf⟩ := hf
    have r7 := oc_gI e7
    rw [o5] at r7
    rw [oi_ne (Or.inl (by omega))] at r7
    subst r7
    clear e7
    replace hf := jbind hf
    obtain ⟨h29, e8, hf⟩ := hf
    obtain ⟨o8, z8, y8⟩ := oc_as e8
    rw [jnar0] at o8
    clear e8
    replace hf := jbind hf
    obtain ⟨p31, e9, hf⟩ := hf
    have r9 := oc_gR e9
    rw [o8] at r9
    rw [u2_ne (Or.inl (by omega))] at r9
    rw [o5] at r9
    rw [u2_ne (Or.inl (by omega))] at r9
    rw [s2] at r9
    cases r9
    clear e9
    replace hf := jbind hf
    obtain ⟨v35, e10, hf⟩ := hf
    have r10 := oc_gI e10
    rw [o8] at r10
    rw [oi_ne (Or.inl (by omega))] at r10
    rw [o5] at r10
    rw [oi_ne (Or.inl (by omega))] at r10
    subst r10
    clear e10
    replace hf := jbind hf
    obtain ⟨h39, e11, hf⟩ := hf
    obtain ⟨o11, z11, y11⟩ := oc_as e11
    rw [jnar0] at o11
    clear e11
    replace hf := jbind hf
    obtain ⟨p41, e12, hf⟩ := hf
    have r12 := oc_gR e12
    rw [o11] at r12
    rw [u2_ne (Or.inl (by omega))] at r12
    rw [o8] at r12
    rw [u2_ne (Or.inl (by omega))] at r12
    rw [o5] at r12
    rw [u2_ne (Or.inl (by omega))] at r12
    rw [s3] at r12
    cases r12
    clear e12
    replace hf := jbind hf
    obtain ⟨v45, e13, hf⟩ := hf
    have r13 := oc_gI e13
    rw [o11] at r13
    rw [oi_ne (Or.inl (by omega))] at r13
    rw [o8] at r13
    rw [oi_ne (Or.inl (by omega))] at r13
    rw [o5] at r13
    rw [oi_ne (Or.inl (by omega))] at r13
    subst r13
    clear e13
    replace hf := jbind hf
    obtain ⟨h49, e14, hf⟩ := hf
    obtain ⟨o14, z14, y14⟩ := oc_as e14
    rw [jnar0] at o14
    clear e14
    replace hf := jbind hf
    obtain ⟨v52, e15, hf⟩ := hf
    have r15 := oc_gI e15
    rw [o14] at r15
    rw [oi_ne (Or.inl (by omega))] at r15
    rw [o11] at r15
    rw [oi_ne (Or.inl (by omega))] at r15
    rw [o8] at r15
    rw [oi_ne (Or.inl (by omega))] at r15
    rw [o5] at r15
    rw [oi_ne (Or.inl (by omega))] at r15
    subst r15
    clear e15
    replace hf := jbind hf
    obtain ⟨v56, e16, hf⟩ := hf
    have r16 := oc_gI e16
    rw [o14] at r16
    rw [oi_ne (Or.inl (by omega))] at r16
    rw [o11] at r16
    rw [oi_ne (Or.inl (by omega))] at r16
    rw [o8] at r16
    rw [oi_ne (Or.inl (by omega))] at r16
    rw [o5] at r16
    rw [oi_ne (Or.inl (by omega))] at r16
    subst r16
    clear e16
    replace hf := jbind hf
    obtain ⟨v60, e17, hf⟩ := hf
    have r17 := E_X11_withBit (i := cN W) h5 e17
    subst r17
    replace hf := jbind hf
    obtain ⟨h63, e18, hf⟩ := hf
    obtain ⟨o18, z18⟩ := oc_pf e18
    clear e18
    replace hf := jbind hf
    obtain ⟨v68, e19, hf⟩ := hf
    have r19 := oc_gI e19
    rw [o18] at r19
    rw [oi_ne (Or.inr (by decide))] at r19
    rw [o14] at r19
    rw [oi_ne (Or.inl (by omega))] at r19
    rw [o11] at r19
    rw [oi_ne (Or.inl (by omega))] at r19
    rw [o8] at r19
    rw [oi_ne (Or.inl (by omega))] at r19
    rw [o5] at r19
    rw [oi_ne (Or.inl (by omega))] at r19
    subst r19
    clear e19
    replace hf := jbind hf
    obtain ⟨v72, e20, hf⟩ := hf
    have r20 := oc_gI e20
    rw [o18] at r20
    rw [oi_ne (Or.inr (by decide))] at r20
    rw [o14] at r20
    rw [oi_ne (Or.inl (by omega))] at r20
    rw [o11] at r20
    rw [oi_ne (Or.inl (by omega))] at r20
    rw [o8] at r20
    rw [oi_ne (Or.inl (by omega))] at r20
    rw [o5] at r20
    rw [oi_ne (Or.inl (by omega))] at r20
    subst r20
    clear e20
    replace hf := jbind hf
    obtain ⟨v76, e21, hf⟩ := hf
    have r21 := E_X11_withBit (i := cN W) h5 e21
    subst r21
    replace hf := jbind hf
    obtain ⟨h79, e22, hf⟩ := hf
    obtain ⟨o22, z22⟩ := oc_pf e22
    clear e22
    replace hf := jbind hf
    obtain ⟨v84, e23, hf⟩ := hf
    have r23 := oc_gI e23
    rw [o22] at r23
    rw [oi_ne (Or.inr (by decide))] at r23
    rw [o18] at r23
    rw [oi_ne (Or.inr (by decide))] at r23
    rw [o14] at r23
    rw [oi_ne (Or.inl (by omega))] at r23
    rw [o11] at r23
    rw [oi_ne (Or.inl (by omega))] at r23
    rw [o8] at r23
    rw [oi_ne (Or.inl (by omega))] at r23
    rw [o5] at r23
    rw [oi_ne (Or.inl (by omega))] at r23
    subst r23
    clear e23
    replace hf := jbind hf
    obtain ⟨v88, e24, hf⟩ := hf
    have r24 := oc_gI e24
    rw [o22] at r24
    rw [oi_ne (Or.inr (by decide))] at r24
    rw [o18] at r24
    rw [oi_ne (Or.inr (by decide))] at r24
    rw [o14] at r24
    rw [oi_ne (Or.inl (by omega))] at r24
    rw [o11] at r24
    rw [oi_ne (Or.inl (by omega))] at r24
    rw [o8] at r24
    rw [oi_ne (Or.inl (by omega))] at r24
    rw [o5] at r24
    rw [oi_ne (Or.inl (by omega))] at r24
    subst r24
    clear e24
    replace hf := jbind hf
    obtain ⟨v92, e25, hf⟩ := hf
    have r25 := E_X11_withBit (i := cN W) h5 e25
    subst r25
    replace hf := jbind hf
    obtain ⟨h95, e26, hf⟩ := hf
    obtain ⟨o26, z26⟩ := oc_pf e26
    clear e26
    replace hf := jbind hf
    obtain ⟨v100, e27, hf⟩ := hf
    have r27 := oc_gI e27
    rw [o26] at r27
    rw [oi_ne (Or.inr (by decide))] at r27
    rw [o22] at r27
    rw [oi_ne (Or.inr (by decide))] at r27
    rw [o18] at r27
    rw [oi_ne (Or.inr (by decide))] at r27
    rw [o14] at r27
    rw [oi_ne (Or.inl (by omega))] at r27
    rw [o11] at r27
    rw [oi_ne (Or.inl (by omega))] at r27
    rw [o8] at r27
    rw [oi_ne (Or.inl (by omega))] at r27
    rw [o5] at r27
    rw [oi_ne (Or.inl (by omega))] at r27
    subst r27
    clear e27
    replace hf := jbind hf
    obtain ⟨v104, e28, hf⟩ := hf
    have r28 := oc_gI e28
    rw [o26] at r28
    rw [oi_ne (Or.inr (by decide))] at r28
    rw [o22] at r28
    rw [oi_ne (Or.inr (by decide))] at r28
    rw [o18] at r28
    rw [oi_ne (Or.inr (by decide))] at r28
    rw [o14] at r28
    rw [oi_ne (Or.inl (by omega))] at r28
    rw [o11] at r28
    rw [oi_ne (Or.inl (by omega))] at r28
    rw [o8] at r28
    rw [oi_ne (Or.inl (by omega))] at r28
    rw [o5] at r28
    rw [oi_ne (Or.inl (by omega))] at r28
    subst r28
    clear e28
    replace hf := jbind hf
    obtain ⟨v108, e29, hf⟩ := hf
    have r29 := E_X11_withBit (i := cN W) h5 e29
    subst r29
    replace hf := jbind hf
    obtain ⟨h111, e30, hf⟩ := hf
    obtain ⟨o30, z30⟩ := oc_pf e30
    clear e30
    replace hf := jbind hf
    obtain ⟨v116, e31, hf⟩ := hf
    have r31 := oc_gI e31
    rw [o30] at r31
    rw [oi_ne (Or.inr (by decide))] at r31
    rw [o26] at r31
    rw [oi_ne (Or.inr (by decide))] at r31
    rw [o22] at r31
    rw [oi_ne (Or.inr (by decide))] at r31
    rw [o18] at r31
    rw [oi_ne (Or.inr (by decide))] at r31
    rw [o14] at r31
    rw [oi_ne (Or.inl (by omega))] at r31
    rw [o11] at r31
    rw [oi_ne (Or.inl (by omega))] at r31
    rw [o8] at r31
    rw [oi_ne (Or.inl (by omega))] at r31
    rw [o5] at r31
    rw [oi_ne (Or.inl (by omega))] at r31
    subst r31
    clear e31
    replace hf := jbind hf
    obtain ⟨h121, e32, hf⟩ := hf
    obtain ⟨o32, z32⟩ := oc_pf e32
    clear e32
    cases hf
    -- leaf 0: h121
    rw [h5, nI_cl (by omega)] at o5 o8 o11 o14
    refine ⟨rodE_hg R K hc (by rw [o32, o30, o26, o22, o18, o14, o11, o8, o5]), ?_, z32.trans (z30.trans (z26.trans (z22.trans (z18.trans (z14.trans (z11.trans (z8.trans (z5))))))))⟩
    rw [o32, o30, o26, o22, o18, o14, o11, o8, o5]
    exact frR_tr (frR_tr (frR_tr (frR_tr (frR_tr (frR_tr (frR_tr (frR_tr (frR_u2 (by omega)) (frR_u2 (by omega))) (frR_u2 (by omega))) (frR_u2 (by omega))) (frR_u2 (by omega))) (frR_u2 (by omega))) (frR_u2 (by omega))) (frR_u2 (by omega))) (frR_u2 (by omega))
  · skip
    cases hf
    -- leaf 1: h
    exact absurd c2 (by rw [h5, Int32.lt_iff_toInt_lt, nI_toInt (by omega), show (8 : Int32).toInt = 8 from rfl]; omega)
theorem E_X11_sew {W : jWd} {nx : Nat} {n : Nat} {a0 : Nat} {x1 : Int32} {x2 : Int32} {h : jH} {q : jR × jH} (C : cPre a0 nx W h) (hf : F_X11_sew n a0 x1 x2 h = some q) : (¬ (0 ≤ x1.toInt ∧ x1.toInt ≤ 31) ∧ q.1 = .inr 2 ∧ q.2 = h) ∨ ((0 ≤ x1.toInt ∧ x1.toInt ≤ 31) ∧ ((¬ (1 ≤ x2.toInt ∧ x2.toInt ≤ 9) ∧ q.1 = .inr 0 ∧ q.2 = h) ∨ ((1 ≤ x2.toInt ∧ x2.toInt ≤ 9) ∧ ((¬ canS W x1 ∧ q.1 = .inr 1 ∧ q.2 = h) ∨ (canS W x1 ∧ q.1 = .inl (hgW W x1 x2 0 - 1) ∧ cAct a0 nx W (hgW W x1 x2) h q.2))))) := by
  unfold F_X11_sew at hf
  obtain ⟨⟨X1, X3, sA, hx, hn, R, K⟩, hb, hz, sz⟩ := id C
  obtain ⟨⟨s0, s1, s2, s3, s4, s5⟩, ⟨u5, u10, u11, u12, u13, u14, u15, u16, u17⟩, RB, RC, RL⟩ := id R
  replace hf := jbind hf
  obtain ⟨q2, e1, hf⟩ := hf
  replace e1 := (jcv_o e1).2
  have r1 := E_X11_requirePlace e1
  obtain ⟨wq2, h2⟩ := q2
  have hqq : h2 = h := r1.elim (fun y => y.2.2) (fun y => y.2.2)
  subst hqq
  rcases wq2 with r2 | xq2
  · skip
    replace hf := (jthen_l (q := (.inl r2, h2)) rfl).symm.trans hf
    dsimp only at hf
    replace hf := jbind hf
    obtain ⟨q10, e2, hf⟩ := hf
    replace e2 := (jcv_o e2).2
    have r2 := E_X11_requireNumber e2
    obtain ⟨wq10, h10⟩ := q10
    have hqq : h10 = h2 := r2.elim (fun y => y.2.2) (fun y => y.2.2)
    subst hqq
    rcases wq10 with r10 | xq10
    · skip
      replace hf := (jthen_l (q := (.inl r10, h10)) rfl).symm.trans hf
      dsimp only at hf
      replace hf := jbind hf
      obtain ⟨p14, e3, hf⟩ := hf
      have r3 := oc_gR e3
      rw [X1] at r3
      cases r3
      clear e3
      replace hf := jbind hf
      obtain ⟨v17, e4, hf⟩ := hf
      have r4 := oc_gI e4
      subst r4
      clear e4
      replace hf := jite hf
      rcases hf with ⟨c5, hf⟩ | ⟨c5, hf⟩
      · skip
        cases hf
        -- leaf 0: (.inr 1, h10)
        have k0 := K.1
        rw [u5, Int32.le_iff_toInt_le, show (8 : Int32).toInt = 8 from rfl] at c5
        have P : (0 ≤ x1.toInt ∧ x1.toInt ≤ 31) := by
          rcases r1 with ⟨P, -, -⟩ | ⟨-, y, -⟩
          · exact P
          · cases y
        have P2 : (1 ≤ x2.toInt ∧ x2.toInt ≤ 9) := by
          rcases r2 with ⟨P, -, -⟩ | ⟨-, y, -⟩
          · exact P
          · cases y
        exact Or.inr ⟨P, Or.inr ⟨P2, Or.inl ⟨fun z => z.1 (nI_k (k := 8) (by show (W 0).toInt = 8; omega)), rfl, rfl⟩⟩⟩
      · skip
        replace hf := jbind hf
        obtain ⟨p27, e6, hf⟩ := hf
        have r6 := oc_gR e6
        rw [X1] at r6
        cases r6
        clear e6
        replace hf := jbind hf
        obtain ⟨v30, e7, hf⟩ := hf
        replace e7 := (jcv_o e7).2
        have r7 := E_X8_nearestNew R K e7
        replace hf := jite hf
        rcases hf with ⟨c8, hf⟩ | ⟨c8, hf⟩
        · skip
          cases hf
          -- leaf 10: (.inr 1, h10)
          rw [r7, Int32.lt_iff_toInt_lt] at c8
          have P : (0 ≤ x1.toInt ∧ x1.toInt ≤ 31) := by
            rcases r1 with ⟨P, -, -⟩ | ⟨-, y, -⟩
            · exact P
            · cases y
          have P2 : (1 ≤ x2.toInt ∧ x2.toInt ≤ 9) := by
            rcases r2 with ⟨P, -, -⟩ | ⟨-, y, -⟩
            · exact P
            · cases y
          exact Or.inr ⟨P, Or.inr ⟨P2, Or.inl ⟨fun z => by have := z.2.1; omega, rfl, rfl⟩⟩⟩
        · skip
          replace hf := jbind hf
          obtain ⟨p38, e9, hf⟩ := hf
          have r9 := oc_gR e9
          rw [X1] at r9
          cases r9
          clear e9
          replace hf := jbind hf
          obtain ⟨v41, e10, hf⟩ := hf
          replace e10 := (jcv_o e10).2
          have r10 := E_X8_farthestNew R K e10
          replace hf := jite hf
          rcases hf with ⟨c11, hf⟩ | ⟨c11, hf⟩
          · skip
            replace hf := jbind hf
            obtain ⟨p58, e12, hf⟩ := hf
            have r12 := oc_gR e12
            rw [X3] at r12
            cases r12
            clear e12
            replace hf := jbind hf
            obtain ⟨p62, e13, hf⟩ := hf
            have r13 := oc_gR e13
            rw [X1] at r13
            cases r13
            clear e13
            replace hf := jbind hf
            obtain ⟨h65, e14, hf⟩ := hf
            replace e14 := (jcv_o e14).2
            have n8 : ¬ W 0 = 8 := fun z => c5 (by rw [u5, z]; decide)
            have hc := cN_lt K n8
            obtain ⟨Y1, RR, AA⟩ := c_rem C e14
            obtain ⟨⟨t0, t1, t2, t3, t4, t5⟩, ⟨g5, g10, g11, g12, g13, g14, g15, g16, g17⟩, QB, QC, QL⟩ := id RR
            replace hf := jbind hf
            obtain ⟨p69, e15, hf⟩ := hf
            have r15 := oc_gR e15
            rw [Y1] at r15
            cases r15
            clear e15
            replace hf := jbind hf
            obtain ⟨h74, e16, hf⟩ := hf
            replace e16 := (jcv_o e16).2
            obtain ⟨G1, G2, G3⟩ := E_X8_add RR K hc e16
            have Y2 : oc h74 a0 1 = .ref (a0 + 6) := (G2 _ _ (by omega)).trans Y1
            replace hf := jbind hf
            obtain ⟨p78, e17, hf⟩ := hf
            have r17 := oc_gR e17
            rw [Y2] at r17
            cases r17
            clear e17
            replace hf := jbind hf
            obtain ⟨v81, e18, hf⟩ := hf
            have r18 := oc_gI e18
            subst r18
            clear e18
            cases hf
            -- leaf 110: (.inl (v81 - (1 : Int32)), h74)
            rw [r7, Int32.lt_iff_toInt_lt] at c8
            rw [r10, Int32.le_iff_toInt_le] at c11
            have P : (0 ≤ x1.toInt ∧ x1.toInt ≤ 31) := by
              rcases r1 with ⟨P, -, -⟩ | ⟨-, y, -⟩
              · exact P
              · cases y
            have P2 : (1 ≤ x2.toInt ∧ x2.toInt ≤ 9) := by
              rcases r2 with ⟨P, -, -⟩ | ⟨-, y, -⟩
              · exact P
              · cases y
            exact Or.inr ⟨P, Or.inr ⟨P2, Or.inr ⟨⟨n8, by omega, c11⟩, by rw [G1.2.1.1], c_mk hz hb AA G2 G1 G3⟩⟩⟩
          · skip
            cases hf
            -- leaf 111: (.inr 1, h10)
            rw [r10, Int32.le_iff_toInt_le] at c11
            have P : (0 ≤ x1.toInt ∧ x1.toInt ≤ 31) := by
              rcases r1 with ⟨P, -, -⟩ | ⟨-, y, -⟩
              · exact P
              · cases y
            have P2 : (1 ≤ x2.toInt ∧ x2.toInt ≤ 9) := by
              rcases r2 with ⟨P, -, -⟩ | ⟨-, y, -⟩
              · exact P
              · cases y
            exact Or.inr ⟨P, Or.inr ⟨P2, Or.inl ⟨fun z => c11 z.2.2, rfl, rfl⟩⟩⟩
    · skip
      replace hf := (jthen_r (q := (.inr xq10, h10)) rfl).symm.trans hf
      cases hf
      have P : (0 ≤ x1.toInt ∧ x1.toInt ≤ 31) := by
        rcases r1 with ⟨P, -, -⟩ | ⟨-, y, -⟩
        · exact P
        · cases y
      rcases r2 with ⟨-, y, -⟩ | ⟨P2, y, -⟩
      · cases y
      · exact Or.inr ⟨P, Or.inl ⟨P2, y, rfl⟩⟩
  · skip
    replace hf := (jthen_r (q := (.inr xq2, h2)) rfl).symm.trans hf
    cases hf
    rcases r1 with ⟨-, y, -⟩ | ⟨P, y, -⟩
    · cases y
    · exact Or.inl ⟨P, y, rfl⟩
end
section
/-! what always holds of a world holds after the simple acts; the law is as it was -/
theorem wOK_ln {W : jWd} {i : Nat} {x : Int32} (K : wOK W) (hx : 0 ≤ x.toInt ∧ x.toInt ≤ 9) : wOK (upd W (16 + 8 * i) x) := by
  have e : ∀ k, k ≠ 16 + 8 * i → upd W (16 + 8 * i) x k = W k := fun k h => upd_ne h
  obtain ⟨k0, k1, k2, k3, k4, k5, k6, k7, k8, k9, k10⟩ := K
  unfold wOK
  rw [e 0 (by omega), e 3 (by omega), e 4 (by omega), e 5 (by omega), e 6 (by omega), e 8 (by omega), e 9 (by omega), e 1 (by omega)]
  refine ⟨k0, fun j hj => ?_, fun j hj => ?_, fun j hj => ?_, k4, k5, k6, k7, k8, k9, k10⟩
  · rw [e (11 + 8 * j) (by omega), e (12 + 8 * j) (by omega), e (13 + 8 * j) (by omega), e (14 + 8 * j) (by omega), e (15 + 8 * j) (by omega), e (17 + 8 * j) (by omega), e (18 + 8 * j) (by omega)]
    obtain ⟨a1, a2, a3, a4, a5, a6, a7, a8⟩ := k1 j hj
    refine ⟨a1, a2, a3, a4, a5, ?_, a7, a8⟩
    by_cases q : j = i
    · subst q; rw [upd_eq]; exact hx
    · rw [e (16 + 8 * j) (by omega)]; exact a6
  · rw [e _ (by omega), e _ (by omega)]; exact k2 j hj
  · rw [e _ (by omega)]; exact k3 j hj
theorem wOK_7 {W : jWd} {x : Int32} (K : wOK W) : wOK (upd W 7 x) := by
  have e : ∀ k, k ≠ 7 → upd W 7 x k = W k := fun k h => upd_ne h
  obtain ⟨k0, k1, k2, k3, k4, k5, k6, k7, k8, k9, k10⟩ := K
  unfold wOK
  rw [e 0 (by omega), e 3 (by omega), e 4 (by omega), e 5 (by omega), e 6 (by omega), e 8 (by omega), e 9 (by omega), e 1 (by omega)]
  refine ⟨k0, fun j hj => ?_, fun j hj => ?_, fun j hj => ?_, k4, k5, k6, k7, k8, k9, k10⟩
  · rw [e _ (by omega), e _ (by omega), e _ (by omega), e _ (by omega), e _ (by omega), e _ (by omega), e _ (by omega), e _ (by omega)]; exact k1 j hj
  · rw [e _ (by omega), e _ (by omega)]; exact k2 j hj
  · rw [e _ (by omega)]; exact k3 j hj
theorem wOK_hg {W : jWd} {x y : Int32} (K : wOK W) (hx : 0 ≤ x.toInt ∧ x.toInt ≤ 31) (hy : 1 ≤ y.toInt ∧ y.toInt ≤ 9) (c : canS W x) : wOK (hgW W x y) := by
  have n8 := cN_lt K c.1
  have le := c.2.1
  have K0 := K.1
  have l1 : (1 : Int32).toInt = 1 := rfl
  have ec : (cN W : Int) = (W 0).toInt := by unfold cN; omega
  have g0 : hgW W x y 0 = W 0 + 1 := if_pos rfl
  have g0i : (hgW W x y 0).toInt = (W 0).toInt + 1 := by rw [g0, jadd (by omega) (by omega)]; omega
  have lo : ∀ k, k ≠ 0 → k < 11 + 8 * cN W ∨ 19 + 8 * cN W ≤ k → hgW W x y k = W k := fun k h1 h2 => hg_lo h1 h2
  have lst : 1 ≤ cN W → (W (11 + 8 * (cN W - 1))).toInt < x.toInt := fun h => by
    have b := ((K.2.1 (cN W - 1) (by omega)).1)
    have n0 : ¬ W 0 = 0 := fun z => by rw [z] at ec; have : (0 : Int32).toInt = 0 := rfl; omega
    have q : leW W = W (11 + 8 * (cN W - 1)) + 1 := if_neg n0
    rw [q, jadd (by omega) (by omega)] at le
    omega
  obtain ⟨k0, k1, k2, k3, k4, k5, k6, k7, k8, k9, k10⟩ := K
  unfold wOK
  rw [lo 3 (by omega) (by omega), lo 4 (by omega) (by omega), lo 5 (by omega) (by omega), lo 6 (by omega) (by omega), lo 8 (by omega) (by omega), lo 9 (by omega) (by omega), lo 1 (by omega) (by omega), g0i]
  refine ⟨by omega, fun j hj => ?_, fun j hj => ?_, fun j hj => ?_, k4, k5, k6, k7, k8, k9, k10⟩
  · by_cases q : j = cN W
    · subst q
      rw [hg_pl, hg_cl, hg_hk, hg_z (show _ by omega), hg_z (show _ by omega), hg_z (show _ by omega), hg_z (show _ by omega), hg_z (show _ by omega)]
      exact ⟨hx, hy, Or.inl rfl, Or.inl rfl, by decide, by decide, Or.inr rfl, Or.inl rfl⟩
    · rw [lo _ (by omega) (by omega), lo _ (by omega) (by omega), lo _ (by omega) (by omega), lo _ (by omega) (by omega), lo _ (by omega) (by omega), lo _ (by omega) (by omega), lo _ (by omega) (by omega), lo _ (by omega) (by omega)]
      exact k1 j (by omega)
  · by_cases q : j + 1 = cN W
    · have e1 := lst (by omega)
      rw [q, hg_pl, lo _ (by omega) (by omega)]
      rw [show cN W - 1 = j by omega] at e1
      exact e1
    · rw [lo _ (by omega) (by omega), lo _ (by omega) (by omega)]
      exact k2 j (by omega)
  · have q : j = cN W := by omega
    subst q
    exact hg_z (by omega)
/-- the law's places are left alone -/
theorem hg_law {W : jWd} {x y : Int32} (h : cN W < 8) : ∀ k, k = 2 ∨ 435 ≤ k → hgW W x y k = W k := fun k hk => hg_lo (by omega) (by omega)
theorem up_law {W : jWd} {i : Nat} {x : Int32} (h : i < 435 ∧ i ≠ 2) : ∀ k, k = 2 ∨ 435 ≤ k → upd W i x k = W k := fun k hk => upd_n (by omega)
theorem mvO_hi {W : jWd} {r : Nat} {d : Bool} {k : Nat} (h : 75 ≤ k) : ∀ t, mvO W r d t k = W k
  | 0 => rfl
  | t + 1 => by
    show stW (mvO W r d t) (gv (mvO W r d t) r d) d 8 k = W k
    unfold stW
    rw [if_neg (fun z => by omega)]
    exact mvO_hi h t
theorem pl_law {W : jWd} {r i f : Nat} {d : Bool} {x y z : Int32} : ∀ k, k = 2 ∨ 435 ≤ k → tlW (plW W r d f) i x y z k = W k := fun k hk => by
  rw [tlW_n (by omega)]
  by_cases q : k = 2
  · subst q; exact (upd_n (by decide)).trans (mvO_ot (Or.inl (by decide)) f)
  · exact (upd_n (by omega)).trans (mvO_hi (by omega) f)
end
section
/-! undo as an act of the class -/
theorem E_X11_undo {n : Nat} {a0 : Nat} {h : jH} {q : Int32 × jH} (X1 : oc h a0 1 = .ref (a0 + 6)) (X3 : oc h a0 3 = .ref (a0 + 19)) (hf : F_X11_undo n a0 h = some q) : (oi (oc h) (a0 + 19) 2 = 0 → q = (0, h)) ∧ (∀ (nx b : Nat) (W : jWd), oc h (a0 + 19) 0 = .ref (a0 + 20) → oi (oc h) (a0 + 19) 1 = nI nx → nx ≤ 11 → oc h (a0 + 20) ((nx + 11) % 12) = .ref b → rodE (oc h) b W → wOK W → rodS (oc h) (a0 + 6) → a0 + 52 < b → 0 < (oi (oc h) (a0 + 19) 2).toInt ∧ (oi (oc h) (a0 + 19) 2).toInt ≤ 12 → q.1 = 1 ∧ rodE (oc q.2) (a0 + 6) W ∧ oi (oc q.2) (a0 + 19) 1 = nI ((nx + 11) % 12) ∧ (oi (oc q.2) (a0 + 19) 2).toInt = (oi (oc h) (a0 + 19) 2).toInt - 1 ∧ q.2.1 = h.1 ∧ (∀ a k, ¬ (a0 + 6 ≤ a ∧ a ≤ a0 + 12) → ¬ (a = a0 + 19 ∧ (k = 1 ∨ k = 2)) → oc q.2 a k = oc h a k)) := by
  unfold F_X11_undo at hf
  replace hf := jbind hf
  obtain ⟨p1, e1, hf⟩ := hf
  have r1 := oc_gR e1
  rw [X3] at r1
  cases r1
  clear e1
  replace hf := jbind hf
  obtain ⟨p5, e2, hf⟩ := hf
  have r2 := oc_gR e2
  rw [X1] at r2
  cases r2
  clear e2
  replace hf := jbind hf
  obtain ⟨q8, e3, hf⟩ := hf
  replace e3 := (jcv_o e3).2
  replace hf := jite hf
  rcases hf with ⟨c4, hf⟩ | ⟨c4, hf⟩
  · skip
    cases hf
    -- leaf 0: (q8.1, q8.2)
    refine ⟨fun z => E_X0_takeBack_0 z e3, fun nx b W sA hx hn hb R K sr lb sz => ?_⟩
    exact E_X0_takeBack sA hx hn hb R K sr (by omega) (by omega) sz e3
  · skip
    cases hf
end
