/-! pole, the reference -/
theorem E_X12_pole_2 {n : Nat} : ∀ (k : Nat) {a0 : Nat} {x1 : Int32} {h : jH} {q : Int32 × jH} (t : Nat) (M : mS (oc h) a0) (hx : x1 = nI t) (ht : t ≤ 1284), F_X12_pole_2 n k a0 x1 h = some q → ∃ h2, (∀ j, oi (oc h2) (a0 + 3) j = if t ≤ j ∧ j < 1284 then oi (oc h) (a0 + 1) j else oi (oc h) (a0 + 3) j) ∧ frM a0 [3] [] (oc h) (oc h2) ∧ h2.1 = h.1 ∧ F_X12_pole_2_b n (fun _ _ _ => none) a0 (1284 : Int32) h2 = some q
  | 0, a0, x1, h, q, t, M, hx, ht, hf => by cases hf
  | k + 1, a0, x1, h, q, t, M, hx, ht, hf => by
    replace hf : F_X12_pole_2_b n (F_X12_pole_2 n k) a0 x1 h = some q := hf
    obtain ⟨s1, s2, s3, s4, s5, s8, s15, s17, s19, s20, s21⟩ := id M
    have l : (1284 : Int32).toInt = 1284 := rfl
    by_cases e : t = 1284
    · subst e
      refine ⟨h, fun j => by rw [if_neg (by omega)], frM_rfl, rfl, ?_⟩
      have hx2 : x1 = (1284 : Int32) := hx
      rw [hx2] at hf
      unfold F_X12_pole_2_b at hf ⊢
      rw [if_pos (Int32.le_refl _)] at hf ⊢
      exact hf
    · unfold F_X12_pole_2_b at hf
      replace hf := jite hf
      rcases hf with ⟨c1, hf⟩ | ⟨c1, hf⟩
      · rw [hx, Int32.le_iff_toInt_le, nI_toInt (by omega), l] at c1
        omega
      · replace hf := jbind hf
        obtain ⟨p10, e1, hf⟩ := hf
        have r1 := oc_gR e1
        rw [s3] at r1
        cases r1
        replace hf := jbind hf
        obtain ⟨p15, e2, hf⟩ := hf
        have r2 := oc_gR e2
        rw [s1] at r2
        cases r2
        replace hf := jbind hf
        obtain ⟨v19, e3, hf⟩ := hf
        obtain ⟨r3, y3⟩ := oc_al e3
        subst r3
        replace hf := jbind hf
        obtain ⟨h20, e4, hf⟩ := hf
        obtain ⟨o4, z4, y4⟩ := oc_as e4
        rw [jnar0, hx, nI_cl (by omega)] at o4
        have f4 : frM a0 [3] [] (oc h) (oc h20) := by rw [o4]; exact frM_c (by decide)
        rw [hx] at hf
        obtain ⟨h2, a1, a2, a3, a4⟩ := E_X12_pole_2 k (t + 1) (mS_fr M f4 (by decide) (by decide)) (nI_1 t) (by omega) hf
        refine ⟨h2, fun j => ?_, frM_tr f4 a2, a3.trans z4, a4⟩
        rw [a1 j]
        by_cases q1 : j = t
        · subst q1
          rw [if_neg (by omega), if_pos (by omega), o4, oi_eq]
        · by_cases q2 : t ≤ j ∧ j < 1284
          · rw [if_pos (by omega), if_pos q2, o4, oi_ne (Or.inl (by omega))]
          · rw [if_neg (by omega), if_neg q2, o4, oi_ne (Or.inr (by omega))]
theorem E_X12_pole_83 {W : jWd} {n : Nat} {a0 : Nat} {sa0 : Nat} {s1 : Int32} {h : jH} {q : Int32 × jH} (hs : a0 = sa0) (h01 : s1 = 0 ∨ s1 = 1) (M : mS (oc h) a0) (z0 : oi (oc h) a0 0 = 0) (hW : wl (oc h) a0 = W) (hf : F_X12_pole_83 n a0 sa0 s1 h = some q) : (s1 = 1 ∧ q.1 = 0 ∧ oi (oc q.2) a0 0 = 2 ∧ (∀ j, j < 1284 → oi (oc q.2) (a0 + 1) j = oi (oc h) (a0 + 3) j) ∧ frM a0 [1] [0] (oc h) (oc q.2) ∧ q.2.1 = h.1) ∨ (s1 = 0 ∧ q.1 = W 1 + 1 ∧ wl (oc q.2) a0 = upd W 1 (W 1 + 1) ∧ oi (oc q.2) a0 7 = 0 ∧ oi (oc q.2) a0 0 = 0 ∧ frM a0 [1] [7] (oc h) (oc q.2) ∧ q.2.1 = h.1) := by
  unfold F_X12_pole_83 at hf
  subst hs
  have M0 := M
  replace hf := jbind hf
  obtain ⟨q84, e1, hf⟩ := hf
  replace e1 := (jcv_o e1).2
  have r1 := E_X12_throwsIf h01 e1
  have M1 : mS (oc q84.2) a0 := by rcases r1 with ⟨-, -, e0⟩ | ⟨-, -, T⟩; rw [e0]; exact M; exact mS_fr M T.2.1 (by decide) (by decide)
  replace hf := jite hf
  rcases hf with ⟨c2, hf⟩ | ⟨c2, hf⟩
  · skip
    replace hf := jbind hf
    obtain ⟨p120, e3, hf⟩ := hf
    have r3 := oc_gR e3
    rw [M1.1] at r3
    cases r3
    clear e3
    replace hf := jbind hf
    obtain ⟨v125, e4, hf⟩ := hf
    obtain ⟨r4, y4⟩ := oc_al e4
    rw [show (1 : Int32).toNatClampNeg = 1 from rfl] at r4
    subst r4
    clear e4
    replace hf := jbind hf
    obtain ⟨h128, e5, hf⟩ := hf
    obtain ⟨o5, z5, y5⟩ := oc_as e5
    rw [jnar0] at o5
    rw [show (1 : Int32).toNatClampNeg = 1 from rfl] at o5
    clear e5
    replace hf := jbind hf
    obtain ⟨h131, e6, hf⟩ := hf
    obtain ⟨o6, z6⟩ := oc_pf e6
    clear e6
    replace hf := jbind hf
    obtain ⟨p135, e7, hf⟩ := hf
    have r7 := oc_gR e7
    rw [o6] at r7
    rw [u2_ne (Or.inr (by decide))] at r7
    rw [o5] at r7
    rw [u2_ne (Or.inl (by omega))] at r7
    rw [M1.1] at r7
    cases r7
    clear e7
    replace hf := jbind hf
    obtain ⟨v139, e8, hf⟩ := hf
    obtain ⟨r8, y8⟩ := oc_al e8
    rw [show (1 : Int32).toNatClampNeg = 1 from rfl] at r8
    rw [o6] at r8
    rw [oi_ne (Or.inl (by omega))] at r8
    rw [o5] at r8
    rw [oi_eq] at r8
    subst r8
    clear e8
    cases hf
    -- leaf 0: (v139, h131)
    rcases r1 with ⟨s0, -, e0⟩ | ⟨-, y, -⟩
    rotate_left
    · exact absurd (y.symm.trans c2) (by decide)
    rw [e0] at o5 z5
    have f6 : frM a0 [1] [7] (oc h) (oc h131) := by rw [o6, o5]; exact frM_tr (frM_c (by decide)) (frM_f (by decide))
    have e1 : oi (oc h) (a0 + 1) 1 = W 1 := by rw [← hW]
    have w : wl (oc h131) a0 = upd W 1 (W 1 + 1) := by
      rw [o6, wl_n (by omega), o5]
      show wl (u2 (oc h) (a0 + 1) 1 (.int (oi (oc h) (a0 + 1) 1 + 1))) a0 = _
      rw [wl_w, hW, e1]
    have g7 : oi (oc h131) a0 7 = 0 := by rw [o6, oi_eq]
    have g0 : oi (oc h131) a0 0 = 0 := (frM_oi f6 (by decide) (by decide)).trans z0
    have g1 : oi (oc q84.2) (a0 + 1) 1 + 1 = W 1 + 1 := by rw [e0, e1]
    exact Or.inr ⟨s0, g1, w, g7, g0, f6, z6.trans z5⟩
  · skip
    -- leaf 1: F_X12_pole_92 n n a0 (0 : Int32) q84.2
    rcases r1 with ⟨-, y, -⟩ | ⟨s0, -, T⟩
    · exact absurd y c2
    have M1 := mS_fr M T.2.1 (by decide) (by decide)
    obtain ⟨b1, b2, b3, b4⟩ := E_X12_pole_92 n 0 M1 rfl (by omega) hf
    have bk : (∀ j, j < 1284 → oi (oc q.2) (a0 + 1) j = oi (oc h) (a0 + 3) j) := fun j hj => by rw [b1 j, if_pos (by omega)]; exact oi_M T.2.1 (by simp) (by omega)
    have b0 : oi (oc q.2) a0 0 = 2 := (frM_oi b2 (by decide) (by decide)).trans T.1
    have bf : frM a0 [1] [0] (oc h) (oc q.2) := frM_tr (frM_le T.2.1 (by decide) (by decide)) (frM_le b2 (by decide) (by decide))
    exact Or.inl ⟨s0, b4, b0, bk, bf, b3.trans T.2.2⟩
theorem E_X12_pole_59 {W : jWd} {n : Nat} {a0 : Nat} {sa0 : Nat} {s1 : Int32} {h : jH} {q : Int32 × jH} (hs : a0 = sa0) (h01 : s1 = 0 ∨ s1 = 1) (M : mS (oc h) a0) (z0 : oi (oc h) a0 0 = 0) (hW : wl (oc h) a0 = W) (hf : F_X12_pole_59 n a0 sa0 s1 h = some q) : (s1 = 1 ∧ q.1 = 0 ∧ oi (oc q.2) a0 0 = 1 ∧ (∀ j, j < 1284 → oi (oc q.2) (a0 + 1) j = oi (oc h) (a0 + 3) j) ∧ frM a0 [1] [0] (oc h) (oc q.2) ∧ q.2.1 = h.1) ∨ (s1 = 0 ∧ W 1 = 12 ∧ q.1 = 0 ∧ oi (oc q.2) a0 0 = 2 ∧ (∀ j, j < 1284 → oi (oc q.2) (a0 + 1) j = oi (oc h) (a0 + 3) j) ∧ frM a0 [1] [0] (oc h) (oc q.2) ∧ q.2.1 = h.1) ∨ (s1 = 0 ∧ W 1 ≠ 12 ∧ q.1 = W 1 + 1 ∧ wl (oc q.2) a0 = upd W 1 (W 1 + 1) ∧ oi (oc q.2) a0 7 = 0 ∧ oi (oc q.2) a0 0 = 0 ∧ frM a0 [1] [7] (oc h) (oc q.2) ∧ q.2.1 = h.1) := by
  unfold F_X12_pole_59 at hf
  subst hs
  replace hf := jbind hf
  obtain ⟨q60, e1, hf⟩ := hf
  replace e1 := (jcv_o e1).2
  have r1 := E_X12_throwsIf h01 e1
  have M1 : mS (oc q60.2) a0 := by rcases r1 with ⟨-, -, e0⟩ | ⟨-, -, T⟩; rw [e0]; exact M; exact mS_fr M T.2.1 (by decide) (by decide)
  replace hf := jite hf
  rcases hf with ⟨c2, hf⟩ | ⟨c2, hf⟩
  · skip
    replace hf := jbind hf
    obtain ⟨p68, e3, hf⟩ := hf
    have r3 := oc_gR e3
    rw [M1.1] at r3
    cases r3
    clear e3
    replace hf := jbind hf
    obtain ⟨v72, e4, hf⟩ := hf
    obtain ⟨r4, y4⟩ := oc_al e4
    rw [show (1 : Int32).toNatClampNeg = 1 from rfl] at r4
    subst r4
    clear e4
    replace hf := jite hf
    rcases hf with ⟨c5, hf⟩ | ⟨c5, hf⟩
    · skip
      -- leaf 00: F_X12_pole_83 n a0 a0 (1 : Int32) q60.2
      rcases r1 with ⟨s0, -, e0⟩ | ⟨-, y, -⟩
      rotate_left
      · exact absurd (y.symm.trans c2) (by decide)
      rw [e0] at hf c5
      have e1 : W 1 = 12 := by rw [← hW]; exact c5
      rcases E_X12_pole_83 rfl (Or.inr rfl) M z0 hW hf with ⟨-, a⟩ | ⟨y, -⟩
      · exact Or.inr (Or.inl ⟨s0, e1, a⟩)
      · exact absurd y (by decide)
    · skip
      -- leaf 01: F_X12_pole_83 n a0 a0 (0 : Int32) q60.2
      rcases r1 with ⟨s0, -, e0⟩ | ⟨-, y, -⟩
      rotate_left
      · exact absurd (y.symm.trans c2) (by decide)
      rw [e0] at hf c5
      have e1 : W 1 ≠ 12 := by rw [← hW]; exact c5
      rcases E_X12_pole_83 rfl (Or.inl rfl) M z0 hW hf with ⟨y, -⟩ | ⟨-, a⟩
      · exact absurd y (by decide)
      · exact Or.inr (Or.inr ⟨s0, e1, a⟩)
  · skip
    -- leaf 1: F_X12_pole_92 n n a0 (0 : Int32) q60.2
    rcases r1 with ⟨-, y, -⟩ | ⟨s0, -, T⟩
    · exact absurd y c2
    have M1 := mS_fr M T.2.1 (by decide) (by decide)
    obtain ⟨b1, b2, b3, b4⟩ := E_X12_pole_92 n 0 M1 rfl (by omega) hf
    have bk : (∀ j, j < 1284 → oi (oc q.2) (a0 + 1) j = oi (oc h) (a0 + 3) j) := fun j hj => by rw [b1 j, if_pos (by omega)]; exact oi_M T.2.1 (by simp) (by omega)
    have b0 : oi (oc q.2) a0 0 = 1 := (frM_oi b2 (by decide) (by decide)).trans T.1
    have bf : frM a0 [1] [0] (oc h) (oc q.2) := frM_tr (frM_le T.2.1 (by decide) (by decide)) (frM_le b2 (by decide) (by decide))
    exact Or.inl ⟨s0, b4, b0, bk, bf, b3.trans T.2.2⟩
theorem E_X12_pole_2_b {b : Nat → Int32} {L : Nat} {m : Nat} {T : Nat → Int32 × Int32} {st : Nat → Nat} {en : Nat → Nat} {W : jWd} {n : Nat} {rc2 : Nat → Int32 → jH → Option (Int32 × jH)} {a0 : Nat} {x1 : Int32} {h : jH} {q : Int32 × jH} (H : tkE b L m T st en) (hx : x1 = 1284) (M : mS (oc h) a0) (hW : wl (oc h) a0 = W) (K : wOK W) (hE : ∀ j, j < 1284 → oi (oc h) (a0 + 3) j = W j) (h9 : oi (oc h) a0 9 = nI L) (hb : ∀ i, oi (oc h) (a0 + 6) i = b i) (hf : F_X12_pole_2_b n rc2 a0 x1 h = some q) : (∀ f, (if (T 0).1 = -1 then .inl W else rdLines (rdPole T) T 14 W 0) = .inr f → q.1 = 0 ∧ oi (oc q.2) a0 0 = 1 ∧ oi (oc q.2) a0 14 = nI (st f) ∧ oi (oc q.2) a0 7 = oi (oc h) a0 7 ∧ (∀ j, j < 1284 → wl (oc q.2) a0 j = W j)) ∧ (∀ W2, (if (T 0).1 = -1 then .inl W else rdLines (rdPole T) T 14 W 0) = .inl W2 → oi (oc q.2) a0 14 = -1 ∧ wOK W2 ∧ ((W2 1 = 12 ∧ q.1 = 0 ∧ oi (oc q.2) a0 0 = 2 ∧ oi (oc q.2) a0 7 = oi (oc h) a0 7 ∧ (∀ j, j < 1284 → wl (oc q.2) a0 j = W j)) ∨ (W2 1 ≠ 12 ∧ q.1 = W2 1 + 1 ∧ oi (oc q.2) a0 0 = 0 ∧ wl (oc q.2) a0 = upd W2 1 (W2 1 + 1) ∧ oi (oc q.2) a0 7 = 0))) ∧ oi (oc q.2) a0 9 = 0 ∧ frM a0 [1] [0, 7, 9, 10, 11, 12, 14, 16] (oc h) (oc q.2) ∧ q.2.1 = h.1 := by
  unfold F_X12_pole_2_b at hf
  obtain ⟨s1, s2, s3, s4, s5, s8, s15, s17, s19, s20, s21⟩ := id M
  replace hf := jite hf
  rcases hf with ⟨c1, hf⟩ | ⟨c1, hf⟩
  · skip
    replace hf := jbind hf
    obtain ⟨q29, e2, hf⟩ := hf
    replace e2 := (jcv_o e2).2
    obtain ⟨A1, A2, A0, A9, ⟨Af, -⟩, Az⟩ := E_X12_readAll (N := 14) (Z := 0) (cs := [1]) (fs := [10, 12]) (W := W) (by decide) (by decide) (by decide) H (polHL H) polHP M h9 hb (fun O f _ => ⟨by rw [wl_f f (by decide)]; exact hW, K⟩) (by decide) (by decide) e2
    have M2 := mS_fr M Af (by decide) (by decide)
    have a7 : oi (oc q29.2) a0 7 = oi (oc h) a0 7 := frM_oi Af (by decide) (by decide)
    have aE : ∀ j, oi (oc q29.2) (a0 + 3) j = oi (oc h) (a0 + 3) j := fun j => oi_M Af (by simp) (by omega)
    have RR : lsG (polP a0) (oc q29.2) q29.1 a0 st 14 0 (if (T 0).1 = -1 then .inl W else rdLines (rdPole T) T 14 W 0) := by
      split
      · rename_i z
        obtain ⟨y1, y2⟩ := A1 z
        exact lsG_l (k2 := 0) rfl ⟨Nat.le_refl 0, by omega, y1, y2⟩
      · rename_i z
        exact ⟨fun W2 y => by
          obtain ⟨j2, k2, b1, b2, b3, b4⟩ := (A2 z).1 W2 y
          exact ⟨j2, k2, by omega, b2, b3, b4⟩, (A2 z).2⟩
    replace hf := jite hf
    rcases hf with ⟨c3, hf⟩ | ⟨c3, hf⟩
    · skip
      replace hf := jbind hf
      obtain ⟨h46, e4, hf⟩ := hf
      obtain ⟨o4, z4⟩ := oc_pf e4
      clear e4
      replace hf := jite hf
      rcases hf with ⟨c5, hf⟩ | ⟨c5, hf⟩
      · skip
        -- leaf 000: F_X12_pole_59 n a0 a0 (0 : Int32) h46
        rcases hR : (if (T 0).1 = -1 then .inl W else rdLines (rdPole T) T 14 W 0) with W2 | f
        rotate_left
        · exfalso
          have := (RR.2 f hR).1
          rw [Int32.le_iff_toInt_le, this] at c3
          exact absurd c3 (by decide)
        obtain ⟨j2, k2, -, -, -, w2, K2⟩ := RR.1 W2 hR
        have fo : frM a0 [] [14] (oc q29.2) (oc h46) := by rw [o4]; exact frM_f (by decide)
        have M3 := mS_fr M2 fo (by decide) (by decide)
        have g0 : oi (oc h46) a0 0 = 0 := (frM_oi fo (by decide) (by decide)).trans A0
        have g9 : oi (oc h46) a0 9 = 0 := (frM_oi fo (by decide) (by decide)).trans A9
        have g7 : oi (oc h46) a0 7 = oi (oc h) a0 7 := (frM_oi fo (by decide) (by decide)).trans a7
        have gE : ∀ j, oi (oc h46) (a0 + 3) j = oi (oc h) (a0 + 3) j := fun j => (oi_M fo (by simp) (by omega)).trans (aE j)
        have FF : frM a0 [1] [0, 7, 9, 10, 11, 12, 14, 16] (oc h) (oc h46) := frM_tr (frM_le Af (by decide) (by decide)) (frM_le fo (by decide) (by decide))
        have w3 : wl (oc h46) a0 = W2 := (wl_f fo (by decide)).trans w2
        have g14 : oi (oc h46) a0 14 = -1 := by rw [o4, oi_eq]
        rcases E_X12_pole_59 rfl (Or.inl rfl) M3 g0 w3 hf with ⟨y, -⟩ | ⟨-, t12, v, t0, tb, tf, tz⟩ | ⟨-, t12, v, tw, t7, t0, tf, tz⟩
        · exact absurd y (by decide)
        · exact ⟨fun f y => (by rw [hR] at y; cases y), fun W3 y => (by rw [hR] at y; cases y; exact ⟨(frM_oi tf (by decide) (by decide)).trans g14, K2, Or.inl ⟨t12, v, t0, (frM_oi tf (by decide) (by decide)).trans g7, fun j hj => ((tb j hj).trans (gE j)).trans (hE j hj)⟩⟩), (frM_oi tf (by decide) (by decide)).trans g9, frM_tr FF (frM_le tf (by decide) (by decide)), tz.trans (z4.trans Az)⟩
        · exact ⟨fun f y => (by rw [hR] at y; cases y), fun W3 y => (by rw [hR] at y; cases y; exact ⟨(frM_oi tf (by decide) (by decide)).trans g14, K2, Or.inr ⟨t12, v, t0, tw, t7⟩⟩), (frM_oi tf (by decide) (by decide)).trans g9, frM_tr FF (frM_le tf (by decide) (by decide)), tz.trans (z4.trans Az)⟩
      · skip
        -- leaf 001: F_X12_pole_59 n a0 a0 (1 : Int32) h46
        exact absurd c3 c5
    · skip
      replace hf := jbind hf
      obtain ⟨v39, e6, hf⟩ := hf
      have r6 := oc_gI e6
      subst r6
      clear e6
      replace hf := jbind hf
      obtain ⟨h46, e7, hf⟩ := hf
      obtain ⟨o7, z7⟩ := oc_pf e7
      clear e7
      replace hf := jite hf
      rcases hf with ⟨c8, hf⟩ | ⟨c8, hf⟩
      · skip
        -- leaf 010: F_X12_pole_59 n a0 a0 (0 : Int32) h46
        exact absurd c8 c3
      · skip
        -- leaf 011: F_X12_pole_59 n a0 a0 (1 : Int32) h46
        rcases hR : (if (T 0).1 = -1 then .inl W else rdLines (rdPole T) T 14 W 0) with W2 | f
        · exfalso
          obtain ⟨j2, k2, -, b2, b3, -⟩ := RR.1 W2 hR
          exact c3 (by rw [b3, Int32.le_iff_toInt_le, nI_toInt (by omega)]; have l0 : (0 : Int32).toInt = 0 := rfl; omega)
        obtain ⟨v1, g12⟩ := RR.2 f hR
        have fo : frM a0 [] [14] (oc q29.2) (oc h46) := by rw [o7]; exact frM_f (by decide)
        have M3 := mS_fr M2 fo (by decide) (by decide)
        have g0 : oi (oc h46) a0 0 = 0 := (frM_oi fo (by decide) (by decide)).trans A0
        have g9 : oi (oc h46) a0 9 = 0 := (frM_oi fo (by decide) (by decide)).trans A9
        have g7 : oi (oc h46) a0 7 = oi (oc h) a0 7 := (frM_oi fo (by decide) (by decide)).trans a7
        have gE : ∀ j, oi (oc h46) (a0 + 3) j = oi (oc h) (a0 + 3) j := fun j => (oi_M fo (by simp) (by omega)).trans (aE j)
        have FF : frM a0 [1] [0, 7, 9, 10, 11, 12, 14, 16] (oc h) (oc h46) := frM_tr (frM_le Af (by decide) (by decide)) (frM_le fo (by decide) (by decide))
        have g14 : oi (oc h46) a0 14 = nI (st f) := by rw [o7, oi_eq]; exact g12
        rcases E_X12_pole_59 rfl (Or.inr rfl) M3 g0 rfl hf with ⟨-, v, t0, tb, tf, tz⟩ | ⟨y, -⟩ | ⟨y, -⟩
        rotate_left
        · exact absurd y (by decide)
        · exact absurd y (by decide)
        exact ⟨fun f2 y => (by rw [hR] at y; cases y; exact ⟨v, t0, (frM_oi tf (by decide) (by decide)).trans g14, (frM_oi tf (by decide) (by decide)).trans g7, fun j hj => ((tb j hj).trans (gE j)).trans (hE j hj)⟩), fun W3 y => (by rw [hR] at y; cases y), (frM_oi tf (by decide) (by decide)).trans g9, frM_tr FF (frM_le tf (by decide) (by decide)), tz.trans (z7.trans Az)⟩
  · skip
    replace hf := jbind hf
    obtain ⟨p10, e9, hf⟩ := hf
    have r9 := oc_gR e9
    rw [s3] at r9
    cases r9
    clear e9
    replace hf := jbind hf
    obtain ⟨p15, e10, hf⟩ := hf
    have r10 := oc_gR e10
    rw [s1] at r10
    cases r10
    clear e10
    replace hf := jbind hf
    obtain ⟨v19, e11, hf⟩ := hf
    obtain ⟨r11, y11⟩ := oc_al e11
    subst r11
    clear e11
    replace hf := jbind hf
    obtain ⟨h20, e12, hf⟩ := hf
    obtain ⟨o12, z12, y12⟩ := oc_as e12
    rw [jnar0] at o12
    clear e12
    -- leaf 1: rc2 a0 (x1 + (1 : Int32)) h20
    rw [hx] at c1
    exact absurd (Int32.le_refl _) c1
theorem E_X12_pole {b : Nat → Int32} {L : Nat} {m : Nat} {T : Nat → Int32 × Int32} {st : Nat → Nat} {en : Nat → Nat} {W : jWd} {n : Nat} {a0 : Nat} {h : jH} {q : Int32 × jH} (H : tkE b L m T st en) (M : mS (oc h) a0) (hW : wl (oc h) a0 = W) (K : wOK W) (h9 : oi (oc h) a0 9 = nI L) (hb : ∀ i, oi (oc h) (a0 + 6) i = b i) (hf : F_X12_pole n a0 h = some q) : (∀ f, (if (T 0).1 = -1 then .inl W else rdLines (rdPole T) T 14 W 0) = .inr f → q.1 = 0 ∧ oi (oc q.2) a0 0 = 1 ∧ oi (oc q.2) a0 14 = nI (st f) ∧ oi (oc q.2) a0 7 = oi (oc h) a0 7 ∧ (∀ j, j < 1284 → wl (oc q.2) a0 j = W j)) ∧ (∀ W2, (if (T 0).1 = -1 then .inl W else rdLines (rdPole T) T 14 W 0) = .inl W2 → oi (oc q.2) a0 14 = -1 ∧ wOK W2 ∧ ((W2 1 = 12 ∧ q.1 = 0 ∧ oi (oc q.2) a0 0 = 2 ∧ oi (oc q.2) a0 7 = oi (oc h) a0 7 ∧ (∀ j, j < 1284 → wl (oc q.2) a0 j = W j)) ∨ (W2 1 ≠ 12 ∧ q.1 = W2 1 + 1 ∧ oi (oc q.2) a0 0 = 0 ∧ wl (oc q.2) a0 = upd W2 1 (W2 1 + 1) ∧ oi (oc q.2) a0 7 = 0))) ∧ oi (oc q.2) a0 9 = 0 ∧ frM a0 [1, 3] [0, 7, 9, 10, 11, 12, 14, 16] (oc h) (oc q.2) ∧ q.2.1 = h.1 := by
  unfold F_X12_pole at hf
  -- leaf : F_X12_pole_2 n n a0 (0 : Int32) h
  obtain ⟨h2, a1, a2, a3, a4⟩ := E_X12_pole_2 n 0 M rfl (by omega) hf
  have M2 := mS_fr M a2 (by decide) (by decide)
  obtain ⟨b1, b2, b3, b4, b5⟩ := E_X12_pole_2_b H rfl M2 ((wl_f a2 (by decide)).trans hW) K (fun j hj => by rw [a1 j, if_pos (by omega), ← hW]) ((frM_oi a2 (by decide) (by decide)).trans h9) (fun i => (oi_M a2 (by simp) (by omega)).trans (hb i)) a4
  have e7 : oi (oc h2) a0 7 = oi (oc h) a0 7 := frM_oi a2 (by decide) (by decide)
  rw [e7] at b1 b2
  exact ⟨b1, b2, b3, frM_tr (frM_le a2 (by decide) (by decide)) (frM_le b4 (by decide) (by decide)), b5.trans a3⟩
