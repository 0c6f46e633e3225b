/-! a pull, on both sides; f: the steps that the ring goes -/
def isF (W : jWd) (r : Nat) (d : Bool) (N f : Nat) : Prop := f ≤ N ∧ (∀ s, s < f → gv (mvO W r d s) r d ≠ 0) ∧ (f = N ∨ gv (mvO W r d f) r d = 0)
theorem isF_u {W : jWd} {r N f g : Nat} {d : Bool} (a : isF W r d N f) (b : isF W r d N g) : f = g := by
  obtain ⟨a1, a2, a3⟩ := a
  obtain ⟨b1, b2, b3⟩ := b
  rcases Nat.lt_trichotomy f g with h | h | h
  · rcases a3 with a3 | a3
    · omega
    · exact absurd a3 (b2 f h)
  · exact h
  · rcases b3 with b3 | b3
    · omega
    · exact absurd b3 (a2 g h)
theorem plW_n0 {W : jWd} {r f : Nat} {d : Bool} : plW W r d f 0 = W 0 := (upd_n (by decide)).trans (mvO_ot (Or.inl (by decide)) f)
theorem i_steps {x : Int32} (h : 1 ≤ x.toInt ∧ x.toInt ≤ 31) : ∃ N : Nat, N < 32 ∧ 1 ≤ N ∧ x = nI N := ⟨x.toInt.toNat, by omega, by omega, nI_k (by omega)⟩
theorem E_X12_pull {W : jWd} {r : Nat} {d : Bool} {n : Nat} {a0 : Nat} {x1 : Int32} {x2 : Int32} {x3 : Int32} {h : jH} {q : Int32 × jH} (M : mS (oc h) a0) (hW : wl (oc h) a0 = W) (K : wOK W) (h7 : oi (oc h) a0 7 = nI r) (hr : r ≤ 12) (hd : x2 = dI d) (hf : F_X12_pull n a0 x1 x2 x3 h = some q) : (¬ (0 ≤ x1.toInt ∧ x1.toInt < (W 0).toInt) ∧ q.1 = 0 ∧ rTh a0 1 h q.2) ∨ ∃ i : Nat, i < 8 ∧ x1 = nI i ∧ (i : Int) < (W 0).toInt ∧ ((¬ (1 ≤ x3.toInt ∧ x3.toInt ≤ 31) ∧ q.1 = 0 ∧ rTh a0 2 h q.2) ∨ ∃ N f : Nat, N < 32 ∧ 1 ≤ N ∧ x3 = nI N ∧ isF W i d N f ∧ q.1 = nI f ∧ rAct a0 r (tlW (plW W i d f) i (nI i) 0 (nI f)) h q.2) := by
  unfold F_X12_pull at hf
  replace hf := jbind hf
  obtain ⟨h2, e1, hf⟩ := hf
  obtain ⟨o1, z1⟩ := oc_pf e1
  clear e1
  replace hf := jbind hf
  obtain ⟨v8, e2, hf⟩ := hf
  replace e2 := (jcv_o e2).2
  have T1 : rTh a0 0 h h2 := ⟨by rw [o1, oi_eq], by rw [o1]; exact frM_f (by decide), z1⟩
  obtain ⟨M1, w1, g1⟩ := rTh_W T1 M hW h7
  have r2 := E_X12_noRing M1 w1 K e2
  replace hf := jbind hf
  obtain ⟨q12, e3, hf⟩ := hf
  replace e3 := (jcv_o e3).2
  have r3 := E_X12_throwsIf r2.1 e3
  replace hf := jite hf
  rcases hf with ⟨c4, hf⟩ | ⟨c4, hf⟩
  · skip
    replace hf := jbind hf
    obtain ⟨v20, e5, hf⟩ := hf
    have r5 := E_X12_noSteps e5
    replace hf := jbind hf
    obtain ⟨q24, e6, hf⟩ := hf
    replace e6 := (jcv_o e6).2
    have r6 := E_X12_throwsIf r5.1 e6
    replace hf := jite hf
    rcases hf with ⟨c7, hf⟩ | ⟨c7, hf⟩
    · skip
      replace hf := jbind hf
      obtain ⟨h33, e8, hf⟩ := hf
      replace e8 := (jcv_o e8).2
      have hq2 : q24.2 = q12.2 := by
        rcases r6 with ⟨-, -, y⟩ | ⟨-, y, -⟩
        · exact y
        · exact absurd (y.symm.trans c7) (by decide)
      have hv2 : v20 = 0 := by
        rcases r6 with ⟨y, -, -⟩ | ⟨-, y, -⟩
        · exact y
        · exact absurd (y.symm.trans c7) (by decide)
      obtain ⟨N, hN, hN1, h3⟩ := i_steps (Classical.byContradiction fun z => absurd ((r5.2.mpr z).symm.trans hv2) (by decide))
      have hq : q12.2 = h2 := by
        rcases r3 with ⟨-, -, y⟩ | ⟨-, y, -⟩
        · exact y
        · exact absurd (y.symm.trans c4) (by decide)
      have hv : v8 = 0 := by
        rcases r3 with ⟨y, -, -⟩ | ⟨-, y, -⟩
        · exact y
        · exact absurd (y.symm.trans c4) (by decide)
      obtain ⟨i, h8, hi, hi0⟩ := i_ring K (Classical.byContradiction fun z => absurd ((r2.2.mpr z).symm.trans hv) (by decide))
      rw [hq2] at e8
      rw [hq] at e8
      have R8 : rRM a0 r h2 h33 := E_X12_remembers M1 g1 hr e8
      have M8 : mS (oc h33) a0 := mS_fr M1 R8.2.2.2.1 (by decide) (by decide)
      obtain ⟨t1, t2, t3, t4, t5, t8, t15, t17, t19, t20, t21⟩ := id M8
      have w8 : wl (oc h33) a0 = W := (wl_f R8.2.2.2.1 (by decide)).trans w1
      replace hf := jbind hf
      obtain ⟨q40, e9, hf⟩ := hf
      replace e9 := (jcv_o e9).2
      obtain ⟨f, F1, F2, F3, F4, F5, F6, F7⟩ := E_X12_pulls M8 w8 K hi0 (show N < 500 by omega) hi hd h3 e9
      have M9 : mS (oc q40.2) a0 := mS_fr M8 F4 (by decide) (by decide)
      replace hf := jbind hf
      obtain ⟨h50, e10, hf⟩ := hf
      replace e10 := (jcv_o e10).2
      obtain ⟨G1, G2, G3⟩ := E_X12_tells M9 F3 h8 hi e10
      cases hf
      -- leaf 00: (q40.1, h50)
      have f7 : frM a0 [1, 8] [18] (oc h33) (oc h50) := frM_tr (frM_le F4 (by decide) (by decide)) (frM_le G2 (by decide) (by decide))
      rw [hi, F2] at G1
      exact Or.inr ⟨i, h8, hi, hi0, Or.inr ⟨N, f, hN, hN1, h3, ⟨F1, F6, F7⟩, F2, rAct_tr T1 (rAct_mk18 T1.1 R8 f7 G1 (G3.trans F5))⟩⟩
    · skip
      cases hf
      -- leaf 01: ((0 : Int32), q24.2)
      have hq : q12.2 = h2 := by
        rcases r3 with ⟨-, -, y⟩ | ⟨-, y, -⟩
        · exact y
        · exact absurd (y.symm.trans c4) (by decide)
      have hv : v8 = 0 := by
        rcases r3 with ⟨y, -, -⟩ | ⟨-, y, -⟩
        · exact y
        · exact absurd (y.symm.trans c4) (by decide)
      obtain ⟨i, h8, hi, hi0⟩ := i_ring K (Classical.byContradiction fun z => absurd ((r2.2.mpr z).symm.trans hv) (by decide))
      rw [hq] at r6
      rcases r6 with ⟨-, y, -⟩ | ⟨s, -, T⟩
      · exact absurd y c7
      · exact Or.inr ⟨i, h8, hi, hi0, Or.inl ⟨r5.2.mp s, rfl, rTh_tr T1 T⟩⟩
  · skip
    cases hf
    -- leaf 1: ((0 : Int32), q12.2)
    rcases r3 with ⟨-, y, -⟩ | ⟨s, -, T⟩
    · exact absurd y c4
    · exact Or.inl ⟨r2.2.mp s, rfl, rTh_tr T1 T⟩
theorem E_X11_pull {W : jWd} {nx : Nat} {d : Bool} {n : Nat} {a0 : Nat} {x1 : Int32} {x2 : Int32} {x3 : Int32} {h : jH} {q : jR × jH} (C : cPre a0 nx W h) (hd : x2 = dI d) (hf : F_X11_pull n a0 x1 x2 x3 h = some q) : (¬ (0 ≤ x1.toInt ∧ x1.toInt < (W 0).toInt) ∧ q.1 = .inr 2 ∧ q.2 = h) ∨ ∃ i : Nat, i < 8 ∧ x1 = nI i ∧ (i : Int) < (W 0).toInt ∧ ((¬ (1 ≤ x3.toInt ∧ x3.toInt ≤ 31) ∧ q.1 = .inr 0 ∧ q.2 = h) ∨ ∃ N f : Nat, N < 32 ∧ 1 ≤ N ∧ x3 = nI N ∧ isF W i d N f ∧ q.1 = .inl (nI f) ∧ wOK (plW W i d f) ∧ cAct a0 nx W (tlW (plW W i d f) i (nI i) 0 (nI f)) h q.2) := by
  unfold F_X11_pull at hf
  obtain ⟨⟨X1, X3, sA, hx, hn, R, K⟩, hb, hz, sz⟩ := id C
  obtain ⟨⟨s0, s1, s2, s3, s4, s5⟩, ⟨u5, u10, u11, u12, u13, u14, u15, u16, u17⟩, RB, RC, RL⟩ := id R
  replace hf := jbind hf
  obtain ⟨q2, e1, hf⟩ := hf
  replace e1 := (jcv_o e1).2
  have r1 := E_X11_requireRing C e1
  obtain ⟨wq2, h2⟩ := q2
  have hqq : h2 = h := r1.elim (fun y => y.2.2) (fun y => y.2.2)
  subst hqq
  rcases wq2 with r2 | xq2
  · skip
    replace hf := (jthen_l (q := (.inl r2, h2)) rfl).symm.trans hf
    dsimp only at hf
    replace hf := jbind hf
    obtain ⟨q10, e2, hf⟩ := hf
    replace e2 := (jcv_o e2).2
    have r2 := E_X11_requireNumber e2
    obtain ⟨wq10, h10⟩ := q10
    have hqq : h10 = h2 := r2.elim (fun y => y.2.2) (fun y => y.2.2)
    subst hqq
    rcases wq10 with r10 | xq10
    · skip
      replace hf := (jthen_l (q := (.inl r10, h10)) rfl).symm.trans hf
      dsimp only at hf
      replace hf := jbind hf
      obtain ⟨p14, e3, hf⟩ := hf
      have r3 := oc_gR e3
      rw [X3] at r3
      cases r3
      clear e3
      replace hf := jbind hf
      obtain ⟨p18, e4, hf⟩ := hf
      have r4 := oc_gR e4
      rw [X1] at r4
      cases r4
      clear e4
      replace hf := jbind hf
      obtain ⟨h21, e5, hf⟩ := hf
      replace e5 := (jcv_o e5).2
      obtain ⟨Y1, RR, AA⟩ := c_rem C e5
      obtain ⟨⟨t0, t1, t2, t3, t4, t5⟩, ⟨g5, g10, g11, g12, g13, g14, g15, g16, g17⟩, QB, QC, QL⟩ := id RR
      replace hf := jbind hf
      obtain ⟨p25, e6, hf⟩ := hf
      have r6 := oc_gR e6
      rw [Y1] at r6
      cases r6
      clear e6
      replace hf := jbind hf
      obtain ⟨q31, e7, hf⟩ := hf
      replace e7 := (jcv_o e7).2
      have P : (0 ≤ x1.toInt ∧ x1.toInt < (W 0).toInt) := by
        rcases r1 with ⟨P, -, -⟩ | ⟨-, y, -⟩
        · exact P
        · cases y
      obtain ⟨i, h8, hi, hi0⟩ := i_ring K P
      have P2 : (1 ≤ x3.toInt ∧ x3.toInt ≤ 31) := by
        rcases r2 with ⟨P, -, -⟩ | ⟨-, y, -⟩
        · exact P
        · cases y
      obtain ⟨N, hN, hN1, h3⟩ := i_steps P2
      obtain ⟨f, F1, F2, F3, K3, F4, F5, F6, F7⟩ := E_X8_move RR K hi0 (show N < 500 by omega) hi hd h3 e7
      have Y2 : oc q31.2 a0 1 = .ref (a0 + 6) := (F4 _ _ (by omega)).trans Y1
      obtain ⟨⟨t0, t1, t2, t3, t4, t5⟩, -, -, -, -⟩ := id F3
      replace hf := jbind hf
      obtain ⟨p37, e8, hf⟩ := hf
      have r8 := oc_gR e8
      rw [Y2] at r8
      cases r8
      clear e8
      replace hf := jbind hf
      obtain ⟨p40, e9, hf⟩ := hf
      have r9 := oc_gR e9
      rw [t4] at r9
      cases r9
      clear e9
      replace hf := jbind hf
      obtain ⟨p44, e10, hf⟩ := hf
      have r10 := oc_gR e10
      rw [Y2] at r10
      cases r10
      clear e10
      replace hf := jbind hf
      obtain ⟨h51, e11, hf⟩ := hf
      replace e11 := (jcv_o e11).2
      obtain ⟨G1, G2, G3⟩ := E_X5_add rfl F3 K3 hi (by rw [plW_n0]; exact hi0) (show (0 : Int32) = nI 0 from rfl) (by decide) F2 (show f < 32 by omega) e11
      cases hf
      -- leaf : (.inl q31.1, h51)
      exact Or.inr ⟨i, h8, hi, hi0, Or.inr ⟨N, f, hN, hN1, h3, ⟨F1, F6, F7⟩, congrArg Sum.inl F2, K3, c_mk hz hb AA (frR_tr F4 G2) G1 (G3.trans F5)⟩⟩
    · skip
      replace hf := (jthen_r (q := (.inr xq10, h10)) rfl).symm.trans hf
      cases hf
      have P : (0 ≤ x1.toInt ∧ x1.toInt < (W 0).toInt) := by
        rcases r1 with ⟨P, -, -⟩ | ⟨-, y, -⟩
        · exact P
        · cases y
      obtain ⟨i, h8, hi, hi0⟩ := i_ring K P
      rcases r2 with ⟨-, y, -⟩ | ⟨P2, y, -⟩
      · cases y
      · exact Or.inr ⟨i, h8, hi, hi0, Or.inl ⟨P2, y, rfl⟩⟩
  · skip
    replace hf := (jthen_r (q := (.inr xq2, h2)) rfl).symm.trans hf
    cases hf
    rcases r1 with ⟨-, y, -⟩ | ⟨P, y, -⟩
    · cases y
    · exact Or.inl ⟨P, y, rfl⟩
