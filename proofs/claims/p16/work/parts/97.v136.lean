section
/-! pole, the reference -/
theorem E_X12_pole_2 {n : Nat} : ∀ (k : Nat) {a0 : Nat} {x1 : Int32} {h : jH} {q : Int32 × jH} (t : Nat) (M : mS (oc h) a0) (hx : x1 = nI t) (ht : t ≤ 1284), F_X12_pole_2 n k a0 x1 h = some q → ∃ h2, (∀ j, oi (oc h2) (a0 + 3) j = if t ≤ j ∧ j < 1284 then oi (oc h) (a0 + 1) j else oi (oc h) (a0 + 3) j) ∧ frM a0 [3] [] (oc h) (oc h2) ∧ h2.1 = h.1 ∧ F_X12_pole_2_b n (fun _ _ _ => none) a0 (1284 : Int32) h2 = some q
  | 0, a0, x1, h, q, t, M, hx, ht, hf => by cases hf
  | k + 1, a0, x1, h, q, t, M, hx, ht, hf => by
    replace hf : F_X12_pole_2_b n (F_X12_pole_2 n k) a0 x1 h = some q := hf
    obtain ⟨s1, s2, s3, s4, s5, s8, s15, s17, s19, s20, s21⟩ := id M
    have l : (1284 : Int32).toInt = 1284 := rfl
    by_cases e : t = 1284
    · subst e
      refine ⟨h, fun j => by rw [if_neg (by omega)], frM_rfl, rfl, ?_⟩
      have hx2 : x1 = (1284 : Int32) := hx
      rw [hx2] at hf
      unfold F_X12_pole_2_b at hf ⊢
      rw [if_pos (Int32.le_refl _)] at hf ⊢
      exact hf
    · unfold F_X12_pole_2_b at hf
      replace hf := jite hf
      rcases hf with ⟨c1, hf⟩ | ⟨c1, hf⟩
      · rw [hx, Int32.le_iff_toInt_le, nI_toInt (by omega), l] at c1
        omega
      · replace hf := jbind hf
        obtain ⟨p10, e1, hf⟩ := hf
        have r1 := oc_gR e1
        rw [s3] at r1
        cases r1
        replace hf := jbind hf
        obtain ⟨p15, e2, hf⟩ := hf
        have r2 := oc_gR e2
        rw [s1] at r2
        cases r2
        replace hf := jbind hf
        obtain ⟨v19, e3, hf⟩ := hf
        obtain ⟨r3, y3⟩ := oc_al e3
        subst r3
        replace hf := jbind hf
        obtain ⟨h20, e4, hf⟩ := hf
        obtain ⟨o4, z4, y4⟩ := oc_as e4
        rw [jnar0, hx, nI_cl (by omega)] at o4
        have f4 : frM a0 [3] [] (oc h) (oc h20) := by rw [o4]; exact frM_c (by decide)
        rw [hx] at hf
        obtain ⟨h2, a1, a2, a3, a4⟩ := E_X12_pole_2 k (t + 1) (mS_fr M f4 (by decide) (by decide)) (nI_1 t) (by omega) hf
        refine ⟨h2, fun j => ?_, frM_tr f4 a2, a3.trans z4, a4⟩
        rw [a1 j]
        by_cases q1 : j = t
        · subst q1
          rw [if_neg (by omega), if_pos (by omega), o4, oi_eq]
        · by_cases q2 : t ≤ j ∧ j < 1284
          · rw [if_pos (by omega), if_pos q2, o4, oi_ne (Or.inl (by omega))]
          · rw [if_neg (by omega), if_neg q2, o4, oi_ne (Or.inr (by omega))]
theorem E_X12_pole_83 {W : jWd} {n : Nat} {a0 : Nat} {sa0 : Nat} {s1 : Int32} {h : jH} {q : Int32 × jH} (hs : a0 = sa0) (h01 : s1 = 0 ∨ s1 = 1) (M : mS (oc h) a0) (z0 : oi (oc h) a0 0 = 0) (hW : wl (oc h) a0 = W) (hf : F_X12_pole_83 n a0 sa0 s1 h = some q) : (s1 = 1 ∧ q.1 = 0 ∧ oi (oc q.2) a0 0 = 2 ∧ (∀ j, j < 1284 → oi (oc q.2) (a0 + 1) j = oi (oc h) (a0 + 3) j) ∧ frM a0 [1] [0] (oc h) (oc q.2) ∧ q.2.1 = h.1) ∨ (s1 = 0 ∧ q.1 = W 1 + 1 ∧ wl (oc q.2) a0 = upd W 1 (W 1 + 1) ∧ oi (oc q.2) a0 7 = 0 ∧ oi (oc q.2) a0 0 = 0 ∧ frM a0 [1] [7] (oc h) (oc q.2) ∧ q.2.1 = h.1) := by
  unfold F_X12_pole_83 at hf
  subst hs
  have M0 := M
  replace hf := jbind hf
  obtain ⟨q84, e1, hf⟩ := hf
  replace e1 := (jcv_o e1).2
  have r1 := E_X12_throwsIf h01 e1
  have M1 : mS (oc q84.2) a0 := by rcases r1 with ⟨-, -, e0⟩ | ⟨-, -, T⟩; rw [e0]; exact M; exact mS_fr M T.2.1 (by decide) (by decide)
  replace hf := jite hf
  rcases hf with ⟨c2, hf⟩ | ⟨c2, hf⟩
  · skip
    replace hf := jbind hf
    obtain ⟨p120, e3, hf⟩ := hf
    have r3 := oc_gR e3
    rw [M1.1] at r3
    cases r3
    clear e3
    replace hf := jbind hf
    obtain ⟨v125, e4, hf⟩ := hf
    obtain ⟨r4, y4⟩ := oc_al e4
    rw [show (1 : Int32).toNatClampNeg = 1 from rfl] at r4
    subst r4
    clear e4
    replace hf := jbind hf
    obtain ⟨h128, e5, hf⟩ := hf
    obtain ⟨o5, z5, y5⟩ := oc_as e5
    rw [jnar0] at o5
    rw [show (1 : Int32).toNatClampNeg = 1 from rfl] at o5
    clear e5
    replace hf := jbind hf
    obtain ⟨h131, e6, hf⟩ := hf
    obtain ⟨o6, z6⟩ := oc_pf e6
    clear e6
    replace hf := jbind hf
    obtain ⟨p135, e7, hf⟩ := hf
    have r7 := oc_gR e7
    rw [o6] at r7
    rw [u2_ne (Or.inr (by decide))] at r7
    rw [o5] at r7
    rw [u2_ne (Or.inl (by omega))] at r7
    rw [M1.1] at r7
    cases r7
    clear e7
    replace hf := jbind hf
    obtain ⟨v139, e8, hf⟩ := hf
    obtain ⟨r8, y8⟩ := oc_al e8
    rw [show (1 : Int32).toNatClampNeg = 1 from rfl] at r8
    rw [o6] at r8
    rw [oi_ne (Or.inl (by omega))] at r8
    rw [o5] at r8
    rw [oi_eq] at r8
    subst r8
    clear e8
    cases hf
    -- leaf 0: (v139, h131)
    rcases r1 with ⟨s0, -, e0⟩ | ⟨-, y, -⟩
    rotate_left
    · exact absurd (y.symm.trans c2) (by decide)
    rw [e0] at o5 z5
    have f6 : frM a0 [1] [7] (oc h) (oc h131) := by rw [o6, o5]; exact frM_tr (frM_c (by decide)) (frM_f (by decide))
    have e1 : oi (oc h) (a0 + 1) 1 = W 1 := by rw [← hW]
    have w : wl (oc h131) a0 = upd W 1 (W 1 + 1) := by
      rw [o6, wl_n (by omega), o5]
      show wl (u2 (oc h) (a0 + 1) 1 (.int (oi (oc h) (a0 + 1) 1 + 1))) a0 = _
      rw [wl_w, hW, e1]
    have g7 : oi (oc h131) a0 7 = 0 := by rw [o6, oi_eq]
    have g0 : oi (oc h131) a0 0 = 0 := (frM_oi f6 (by decide) (by decide)).trans z0
    have g1 : oi (oc q84.2) (a0 + 1) 1 + 1 = W 1 + 1 := by rw [e0, e1]
    exact Or.inr ⟨s0, g1, w, g7, g0, f6, z6.trans z5⟩
  · skip
    -- leaf 1: F_X12_pole_92 n n a0 (0 : Int32) q84.2
    rcases r1 with ⟨-, y, -⟩ | ⟨s0, -, T⟩
    · exact absurd y c2
    have M1 := mS_fr M T.2.1 (by decide) (by decide)
    obtain ⟨b1, b2, b3, b4⟩ := E_X12_pole_92 n 0 M1 rfl (by omega) hf
    have bk : (∀ j, j < 1284 → oi (oc q.2) (a0 + 1) j = oi (oc h) (a0 + 3) j) := fun j hj => by rw [b1 j, if_pos (by omega)]; exact oi_M T.2.1 (by simp) (by omega)
    have b0 : oi (oc q.2) a0 0 = 2 := (frM_oi b2 (by decide) (by decide)).trans T.1
    have bf : frM a0 [1] [0] (oc h) (oc q.2) := frM_tr (frM_le T.2.1 (by decide) (by decide)) (frM_le b2 (by decide) (by decide))
    exact Or.inl ⟨s0, b4, b0, bk, bf, b3.trans T.2.2⟩
theorem E_X12_pole_59 {W : jWd} {n : Nat} {a0 : Nat} {sa0 : Nat} {s1 : Int32} {h : jH} {q : Int32 × jH} (hs : a0 = sa0) (h01 : s1 = 0 ∨ s1 = 1) (M : mS (oc h) a0) (z0 : oi (oc h) a0 0 = 0) (hW : wl (oc h) a0 = W) (hf : F_X12_pole_59 n a0 sa0 s1 h = some q) : (s1 = 1 ∧ q.1 = 0 ∧ oi (oc q.2) a0 0 = 1 ∧ (∀ j, j < 1284 → oi (oc q.2) (a0 + 1) j = oi (oc h) (a0 + 3) j) ∧ frM a0 [1] [0] (oc h) (oc q.2) ∧ q.2.1 = h.1) ∨ (s1 = 0 ∧ W 1 = 12 ∧ q.1 = 0 ∧ oi (oc q.2) a0 0 = 2 ∧ (∀ j, j < 1284 → oi (oc q.2) (a0 + 1) j = oi (oc h) (a0 + 3) j) ∧ frM a0 [1] [0] (oc h) (oc q.2) ∧ q.2.1 = h.1) ∨ (s1 = 0 ∧ W 1 ≠ 12 ∧ q.1 = W 1 + 1 ∧ wl (oc q.2) a0 = upd W 1 (W 1 + 1) ∧ oi (oc q.2) a0 7 = 0 ∧ oi (oc q.2) a0 0 = 0 ∧ frM a0 [1] [7] (oc h) (oc q.2) ∧ q.2.1 = h.1) := by
  unfold F_X12_pole_59 at hf
  subst hs
  replace hf := jbind hf
  obtain ⟨q60, e1, hf⟩ := hf
  replace e1 := (jcv_o e1).2
  have r1 := E_X12_throwsIf h01 e1
  have M1 : mS (oc q60.2) a0 := by rcases r1 with ⟨-, -, e0⟩ | ⟨-, -, T⟩; rw [e0]; exact M; exact mS_fr M T.2.1 (by decide) (by decide)
  replace hf := jite hf
  rcases hf with ⟨c2, hf⟩ | ⟨c2, hf⟩
  · skip
    replace hf := jbind hf
    obtain ⟨p68, e3, hf⟩ := hf
    have r3 := oc_gR e3
    rw [M1.1] at r3
    cases r3
    clear e3
    replace hf := jbind hf
    obtain ⟨v72, e4, hf⟩ := hf
    obtain ⟨r4, y4⟩ := oc_al e4
    rw [show (1 : Int32).toNatClampNeg = 1 from rfl] at r4
    subst r4
    clear e4
    replace hf := jite hf
    rcases hf with ⟨c5, hf⟩ | ⟨c5, hf⟩
    · skip
      -- leaf 00: F_X12_pole_83 n a0 a0 (1 : Int32) q60.2
      rcases r1 with ⟨s0, -, e0⟩ | ⟨-, y, -⟩
      rotate_left
      · exact absurd (y.symm.trans c2) (by decide)
      rw [e0] at hf c5
      have e1 : W 1 = 12 := by rw [← hW]; exact c5
      rcases E_X12_pole_83 rfl (Or.inr rfl) M z0 hW hf with ⟨-, a⟩ | ⟨y, -⟩
      · exact Or.inr (Or.inl ⟨s0, e1, a⟩)
      · exact absurd y (by decide)
    · skip
      -- leaf 01: F_X12_pole_83 n a0 a0 (0 : Int32) q60.2
      rcases r1 with ⟨s0, -, e0⟩ | ⟨-, y, -⟩
      rotate_left
      · exact absurd (y.symm.trans c2) (by decide)
      rw [e0] at hf c5
      have e1 : W 1 ≠ 12 := by rw [← hW]; exact c5
      rcases E_X12_pole_83 rfl (Or.inl rfl) M z0 hW hf with ⟨y, -⟩ | ⟨-, a⟩
      · exact absurd y (by decide)
      · exact Or.inr (Or.inr ⟨s0, e1, a⟩)
  · skip
    -- leaf 1: F_X12_pole_92 n n a0 (0 : Int32) q60.2
    rcases r1 with ⟨-, y, -⟩ | ⟨s0, -, T⟩
    · exact absurd y c2
    have M1 := mS_fr M T.2.1 (by decide) (by decide)
    obtain ⟨b1, b2, b3, b4⟩ := E_X12_pole_92 n 0 M1 rfl (by omega) hf
    have bk : (∀ j, j < 1284 → oi (oc q.2) (a0 + 1) j = oi (oc h) (a0 + 3) j) := fun j hj => by rw [b1 j, if_pos (by omega)]; exact oi_M T.2.1 (by simp) (by omega)
    have b0 : oi (oc q.2) a0 0 = 1 := (frM_oi b2 (by decide) (by decide)).trans T.1
    have bf : frM a0 [1] [0] (oc h) (oc q.2) := frM_tr (frM_le T.2.1 (by decide) (by decide)) (frM_le b2 (by decide) (by decide))
    exact Or.inl ⟨s0, b4, b0, bk, bf, b3.trans T.2.2⟩
theorem E_X12_pole_2_b {b : Nat → Int32} {L : Nat} {m : Nat} {T : Nat → Int32 × Int32} {st : Nat → Nat} {en : Nat → Nat} {W : jWd} {n : Nat} {rc2 : Nat → Int32 → jH → Option (Int32 × jH)} {a0 : Nat} {x1 : Int32} {h : jH} {q : Int32 × jH} (H : tkE b L m T st en) (hx : x1 = 1284) (M : mS (oc h) a0) (hW : wl (oc h) a0 = W) (K : wOK W) (hE : ∀ j, j < 1284 → oi (oc h) (a0 + 3) j = W j) (h9 : oi (oc h) a0 9 = nI L) (hb : ∀ i, oi (oc h) (a0 + 6) i = b i) (hf : F_X12_pole_2_b n rc2 a0 x1 h = some q) : (∀ f, (if (T 0).1 = -1 then .inl W else rdLines (rdPole T) T 14 W 0) = .inr f → q.1 = 0 ∧ oi (oc q.2) a0 0 = 1 ∧ oi (oc q.2) a0 14 = nI (st f) ∧ oi (oc q.2) a0 7 = oi (oc h) a0 7 ∧ (∀ j, j < 1284 → wl (oc q.2) a0 j = W j)) ∧ (∀ W2, (if (T 0).1 = -1 then .inl W else rdLines (rdPole T) T 14 W 0) = .inl W2 → oi (oc q.2) a0 14 = -1 ∧ wOK W2 ∧ ((W2 1 = 12 ∧ q.1 = 0 ∧ oi (oc q.2) a0 0 = 2 ∧ oi (oc q.2) a0 7 = oi (oc h) a0 7 ∧ (∀ j, j < 1284 → wl (oc q.2) a0 j = W j)) ∨ (W2 1 ≠ 12 ∧ q.1 = W2 1 + 1 ∧ oi (oc q.2) a0 0 = 0 ∧ wl (oc q.2) a0 = upd W2 1 (W2 1 + 1) ∧ oi (oc q.2) a0 7 = 0))) ∧ oi (oc q.2) a0 9 = 0 ∧ frM a0 [1] [0, 7, 9, 10, 11, 12, 14, 16] (oc h) (oc q.2) ∧ q.2.1 = h.1 := by
  unfold F_X12_pole_2_b at hf
  obtain ⟨s1, s2, s3, s4, s5, s8, s15, s17, s19, s20, s21⟩ := id M
  replace hf := jite hf
  rcases hf with ⟨c1, hf⟩ | ⟨c1, hf⟩
  · skip
    replace hf := jbind hf
    obtain ⟨q29, e2, hf⟩ := hf
    replace e2 := (jcv_o e2).2
    obtain ⟨A1, A2, A0, A9, ⟨Af, -⟩, Az⟩ := E_X12_readAll (N := 14) (Z := 0) (cs := [1]) (fs := [10, 12]) (W := W) (by decide) (by decide) (by decide) H (polHL H) polHP M h9 hb (fun O f _ => ⟨by rw [wl_f f (by decide)]; exact hW, K⟩) (by decide) (by decide) e2
    have M2 := mS_fr M Af (by decide) (by decide)
    have a7 : oi (oc q29.2) a0 7 = oi (oc h) a0 7 := frM_oi Af (by decide) (by decide)
    have aE : ∀ j, oi (oc q29.2) (a0 + 3) j = oi (oc h) (a0 + 3) j := fun j => oi_M Af (by simp) (by omega)
    have RR : lsG (polP a0) (oc q29.2) q29.1 a0 st 14 0 (if (T 0).1 = -1 then .inl W else rdLines (rdPole T) T 14 W 0) := by
      split
      · rename_i z
        obtain ⟨y1, y2⟩ := A1 z
        exact lsG_l (k2 := 0) rfl ⟨Nat.le_refl 0, by omega, y1, y2⟩
      · rename_i z
        exact ⟨fun W2 y => by
          obtain ⟨j2, k2, b1, b2, b3, b4⟩ := (A2 z).1 W2 y
          exact ⟨j2, k2, by omega, b2, b3, b4⟩, (A2 z).2⟩
    replace hf := jite hf
    rcases hf with ⟨c3, hf⟩ | ⟨c3, hf⟩
    · skip
      replace hf := jbind hf
      obtain ⟨h46, e4, hf⟩ := hf
      obtain ⟨o4, z4⟩ := oc_pf e4
      clear e4
      replace hf := jite hf
      rcases hf with ⟨c5, hf⟩ | ⟨c5, hf⟩
      · skip
        -- leaf 000: F_X12_pole_59 n a0 a0 (0 : Int32) h46
        rcases hR : (if (T 0).1 = -1 then .inl W else rdLines (rdPole T) T 14 W 0) with W2 | f
        rotate_left
        · exfalso
          have := (RR.2 f hR).1
          rw [Int32.le_iff_toInt_le, this] at c3
          exact absurd c3 (by decide)
        obtain ⟨j2, k2, -, -, -, w2, K2⟩ := RR.1 W2 hR
        have fo : frM a0 [] [14] (oc q29.2) (oc h46) := by rw [o4]; exact frM_f (by decide)
        have M3 := mS_fr M2 fo (by decide) (by decide)
        have g0 : oi (oc h46) a0 0 = 0 := (frM_oi fo (by decide) (by decide)).trans A0
        have g9 : oi (oc h46) a0 9 = 0 := (frM_oi fo (by decide) (by decide)).trans A9
        have g7 : oi (oc h46) a0 7 = oi (oc h) a0 7 := (frM_oi fo (by decide) (by decide)).trans a7
        have gE : ∀ j, oi (oc h46) (a0 + 3) j = oi (oc h) (a0 + 3) j := fun j => (oi_M fo (by simp) (by omega)).trans (aE j)
        have FF : frM a0 [1] [0, 7, 9, 10, 11, 12, 14, 16] (oc h) (oc h46) := frM_tr (frM_le Af (by decide) (by decide)) (frM_le fo (by decide) (by decide))
        have w3 : wl (oc h46) a0 = W2 := (wl_f fo (by decide)).trans w2
        have g14 : oi (oc h46) a0 14 = -1 := by rw [o4, oi_eq]
        rcases E_X12_pole_59 rfl (Or.inl rfl) M3 g0 w3 hf with ⟨y, -⟩ | ⟨-, t12, v, t0, tb, tf, tz⟩ | ⟨-, t12, v, tw, t7, t0, tf, tz⟩
        · exact absurd y (by decide)
        · exact ⟨fun f y => (by rw [hR] at y; cases y), fun W3 y => (by rw [hR] at y; cases y; exact ⟨(frM_oi tf (by decide) (by decide)).trans g14, K2, Or.inl ⟨t12, v, t0, (frM_oi tf (by decide) (by decide)).trans g7, fun j hj => ((tb j hj).trans (gE j)).trans (hE j hj)⟩⟩), (frM_oi tf (by decide) (by decide)).trans g9, frM_tr FF (frM_le tf (by decide) (by decide)), tz.trans (z4.trans Az)⟩
        · exact ⟨fun f y => (by rw [hR] at y; cases y), fun W3 y => (by rw [hR] at y; cases y; exact ⟨(frM_oi tf (by decide) (by decide)).trans g14, K2, Or.inr ⟨t12, v, t0, tw, t7⟩⟩), (frM_oi tf (by decide) (by decide)).trans g9, frM_tr FF (frM_le tf (by decide) (by decide)), tz.trans (z4.trans Az)⟩
      · skip
        -- leaf 001: F_X12_pole_59 n a0 a0 (1 : Int32) h46
        exact absurd c3 c5
    · skip
      replace hf := jbind hf
      obtain ⟨v39, e6, hf⟩ := hf
      have r6 := oc_gI e6
      subst r6
      clear e6
      replace hf := jbind hf
      obtain ⟨h46, e7, hf⟩ := hf
      obtain ⟨o7, z7⟩ := oc_pf e7
      clear e7
      replace hf := jite hf
      rcases hf with ⟨c8, hf⟩ | ⟨c8, hf⟩
      · skip
        -- leaf 010: F_X12_pole_59 n a0 a0 (0 : Int32) h46
        exact absurd c8 c3
      · skip
        -- leaf 011: F_X12_pole_59 n a0 a0 (1 : Int32) h46
        rcases hR : (if (T 0).1 = -1 then .inl W else rdLines (rdPole T) T 14 W 0) with W2 | f
        · exfalso
          obtain ⟨j2, k2, -, b2, b3, -⟩ := RR.1 W2 hR
          exact c3 (by rw [b3, Int32.le_iff_toInt_le, nI_toInt (by omega)]; have l0 : (0 : Int32).toInt = 0 := rfl; omega)
        obtain ⟨v1, g12⟩ := RR.2 f hR
        have fo : frM a0 [] [14] (oc q29.2) (oc h46) := by rw [o7]; exact frM_f (by decide)
        have M3 := mS_fr M2 fo (by decide) (by decide)
        have g0 : oi (oc h46) a0 0 = 0 := (frM_oi fo (by decide) (by decide)).trans A0
        have g9 : oi (oc h46) a0 9 = 0 := (frM_oi fo (by decide) (by decide)).trans A9
        have g7 : oi (oc h46) a0 7 = oi (oc h) a0 7 := (frM_oi fo (by decide) (by decide)).trans a7
        have gE : ∀ j, oi (oc h46) (a0 + 3) j = oi (oc h) (a0 + 3) j := fun j => (oi_M fo (by simp) (by omega)).trans (aE j)
        have FF : frM a0 [1] [0, 7, 9, 10, 11, 12, 14, 16] (oc h) (oc h46) := frM_tr (frM_le Af (by decide) (by decide)) (frM_le fo (by decide) (by decide))
        have g14 : oi (oc h46) a0 14 = nI (st f) := by rw [o7, oi_eq]; exact g12
        rcases E_X12_pole_59 rfl (Or.inr rfl) M3 g0 rfl hf with ⟨-, v, t0, tb, tf, tz⟩ | ⟨y, -⟩ | ⟨y, -⟩
        rotate_left
        · exact absurd y (by decide)
        · exact absurd y (by decide)
        exact ⟨fun f2 y => (by rw [hR] at y; cases y; exact ⟨v, t0, (frM_oi tf (by decide) (by decide)).trans g14, (frM_oi tf (by decide) (by decide)).trans g7, fun j hj => ((tb j hj).trans (gE j)).trans (hE j hj)⟩), fun W3 y => (by rw [hR] at y; cases y), (frM_oi tf (by decide) (by decide)).trans g9, frM_tr FF (frM_le tf (by decide) (by decide)), tz.trans (z7.trans Az)⟩
  · skip
    replace hf := jbind hf
    obtain ⟨p10, e9, hf⟩ := hf
    have r9 := oc_gR e9
    rw [s3] at r9
    cases r9
    clear e9
    replace hf := jbind hf
    obtain ⟨p15, e10, hf⟩ := hf
    have r10 := oc_gR e10
    rw [s1] at r10
    cases r10
    clear e10
    replace hf := jbind hf
    obtain ⟨v19, e11, hf⟩ := hf
    obtain ⟨r11, y11⟩ := oc_al e11
    subst r11
    clear e11
    replace hf := jbind hf
    obtain ⟨h20, e12, hf⟩ := hf
    obtain ⟨o12, z12, y12⟩ := oc_as e12
    rw [jnar0] at o12
    clear e12
    -- leaf 1: rc2 a0 (x1 + (1 : Int32)) h20
    rw [hx] at c1
    exact absurd (Int32.le_refl _) c1
theorem E_X12_pole {b : Nat → Int32} {L : Nat} {m : Nat} {T : Nat → Int32 × Int32} {st : Nat → Nat} {en : Nat → Nat} {W : jWd} {n : Nat} {a0 : Nat} {h : jH} {q : Int32 × jH} (H : tkE b L m T st en) (M : mS (oc h) a0) (hW : wl (oc h) a0 = W) (K : wOK W) (h9 : oi (oc h) a0 9 = nI L) (hb : ∀ i, oi (oc h) (a0 + 6) i = b i) (hf : F_X12_pole n a0 h = some q) : (∀ f, (if (T 0).1 = -1 then .inl W else rdLines (rdPole T) T 14 W 0) = .inr f → q.1 = 0 ∧ oi (oc q.2) a0 0 = 1 ∧ oi (oc q.2) a0 14 = nI (st f) ∧ oi (oc q.2) a0 7 = oi (oc h) a0 7 ∧ (∀ j, j < 1284 → wl (oc q.2) a0 j = W j)) ∧ (∀ W2, (if (T 0).1 = -1 then .inl W else rdLines (rdPole T) T 14 W 0) = .inl W2 → oi (oc q.2) a0 14 = -1 ∧ wOK W2 ∧ ((W2 1 = 12 ∧ q.1 = 0 ∧ oi (oc q.2) a0 0 = 2 ∧ oi (oc q.2) a0 7 = oi (oc h) a0 7 ∧ (∀ j, j < 1284 → wl (oc q.2) a0 j = W j)) ∨ (W2 1 ≠ 12 ∧ q.1 = W2 1 + 1 ∧ oi (oc q.2) a0 0 = 0 ∧ wl (oc q.2) a0 = upd W2 1 (W2 1 + 1) ∧ oi (oc q.2) a0 7 = 0))) ∧ oi (oc q.2) a0 9 = 0 ∧ frM a0 [1, 3] [0, 7, 9, 10, 11, 12, 14, 16] (oc h) (oc q.2) ∧ q.2.1 = h.1 := by
  unfold F_X12_pole at hf
  -- leaf : F_X12_pole_2 n n a0 (0 : Int32) h
  obtain ⟨h2, a1, a2, a3, a4⟩ := E_X12_pole_2 n 0 M rfl (by omega) hf
  have M2 := mS_fr M a2 (by decide) (by decide)
  obtain ⟨b1, b2, b3, b4, b5⟩ := E_X12_pole_2_b H rfl M2 ((wl_f a2 (by decide)).trans hW) K (fun j hj => by rw [a1 j, if_pos (by omega), ← hW]) ((frM_oi a2 (by decide) (by decide)).trans h9) (fun i => (oi_M a2 (by simp) (by omega)).trans (hb i)) a4
  have e7 : oi (oc h2) a0 7 = oi (oc h) a0 7 := frM_oi a2 (by decide) (by decide)
  rw [e7] at b1 b2
  exact ⟨b1, b2, b3, frM_tr (frM_le a2 (by decide) (by decide)) (frM_le b4 (by decide) (by decide)), b5.trans a3⟩
end
section
/-! building the relation anew behind a text, or behind back -/
theorem im_k2 {O O2 : jO} {x z z2 : Nat} (fr : ∀ a k : Nat, ((a = x ∧ (k = 10 ∨ k = 11)) ∨ a = x + 42 ∨ (a = x + 40 ∧ k = 6) ∨ (x + 52 < a ∧ a < z ∧ ∀ s b : Nat, s < 12 → O (x + 20) s = .ref b → a < b ∨ b + 6 < a)) → O2 a k = O a k)
    (sl : ∀ s b : Nat, s < 12 → O2 (x + 20) s = .ref b → O (x + 20) s = .ref b ∨ z ≤ b) (hz : z ≤ z2) (S2 : rdrS O2 x) (F2 : oi O2 x 12 = oi O2 (x + 40) 14) (I : imE O z x) : imE O2 z2 x := by
  obtain ⟨-, -, I⟩ := I
  have fi : ∀ a k : Nat, (a = x + 42 ∨ (a = x + 40 ∧ k = 6)) → oi O2 a k = oi O a k := fun a k h => by unfold oi; rw [fr a k (by omega)]
  have ew : iwl O2 x = iwl O x := funext fun k => fi _ _ (by omega)
  refine ⟨S2, F2, ?_⟩
  rcases I with ⟨a1, a2, a3⟩ | ⟨kr, kl, ⟨a1, a2, a3⟩, ⟨b1, b2, b3, b4, b5⟩, ⟨c1, c2, c3, c4, c5⟩, d⟩
  · exact Or.inl ⟨(fr _ _ (by omega)).trans a1, (fr _ _ (by omega)).trans a2, (fi _ _ (by omega)).trans a3⟩
  · refine Or.inr ⟨kr, kl, ⟨(fr _ _ (by omega)).trans a1, (fr _ _ (by omega)).trans a2, (fi _ _ (by omega)).trans a3⟩, ?_, ⟨c1, by omega, c3, by omega, c5⟩, fun s b hs e => ?_⟩
    · rw [ew]
      refine ⟨rodE_fr b1 (fun a k h1 h2 => fr a k ?_), lawE_fr b2 (fun a k h1 h2 h3 => fr a k ?_), b3, b4, b5⟩
      · exact Or.inr (Or.inr (Or.inr ⟨by omega, by omega, fun s b hs e => by have := (d s b hs e).1; omega⟩))
      · exact Or.inr (Or.inr (Or.inr ⟨by omega, by omega, fun s b hs e => by have := (d s b hs e).2; omega⟩))
    · rcases sl s b hs e with y | y
      · exact d s b hs y
      · exact ⟨by omega, by omega⟩
/-- the cells that a text or back may change -/
def txc (x a k : Nat) : Prop := (a = x ∧ k = 12) ∨ (a = x + 1 ∧ 4 ≤ k ∧ k ≤ 6) ∨ (x + 3 ≤ a ∧ a ≤ x + 18) ∨ (a = x + 19 ∧ k = 2) ∨ (x + 21 ≤ a ∧ a ≤ x + 33) ∨ a = x + 41 ∨ a = x + 43 ∨ (a = x + 40 ∧ (k = 0 ∨ k = 7 ∨ (9 ≤ k ∧ k ≤ 14) ∨ k = 16))
theorem eq_bld {x nx r L L2 r2 : Nat} {W W2 : jWd} {h h3 : jH} (E : eqS x nx r L W h) (f : ∀ a k : Nat, ¬ txc x a k → oc h3 a k = oc h a k) (dz : h3.1 = h.1)
    (A2 : (r2 = 0 ∧ oi (oc h3) (x + 19) 2 = 0 ∧ oi (oc h3) (x + 40) 7 = 0) ∨ (r2 = r ∧ oi (oc h3) (x + 19) 2 = oi (oc h) (x + 19) 2 ∧ oi (oc h3) (x + 40) 7 = oi (oc h) (x + 40) 7 ∧ oi (oc h3) (x + 13) 7 = oi (oc h) (x + 13) 7))
    (W2E : rodE (oc h3) (x + 6) W2 ∧ wl (oc h3) (x + 40) = W2 ∧ wOK W2 ∧ lawE (oc h3) (x + 13) W2 ∧ lawK W2 ∧ lawB W2) (T2 : oi (oc h3) (x + 1) 6 = nI L2 ∧ oi (oc h3) (x + 40) 9 = nI L2 ∧ L2 ≤ 400) (D2 : rodS (oc h3) (x + 21) ∧ lawS (oc h3) (x + 28)) (F2 : oi (oc h3) x 12 = oi (oc h3) (x + 40) 14) : eqS x nx r2 L2 W2 h3 := by
  obtain ⟨⟨e0, e1, e3, e8, e36, e19, ⟨t0, t1, t2, t3⟩, s1, s2, s3, s4, s5, s8, s15, s17, s19, s20, s21⟩, ⟨n1, n2, n3, n4, n5, n6, S, P, A⟩, -, ⟨l1, l2, l3, l4, I⟩⟩ := E
  have g : ∀ a k : Nat, ¬ txc x a k → oi (oc h3) a k = oi (oc h) a k := fun a k z => by unfold oi; rw [f a k z]
  have c : ∀ k : Nat, k ≤ 11 → oc h3 x k = oc h x k := fun k z => f _ _ (by unfold txc; omega)
  have m : ∀ k : Nat, k = 1 ∨ k = 2 ∨ k = 3 ∨ k = 4 ∨ k = 5 ∨ k = 8 ∨ k = 15 ∨ k = 17 ∨ k = 19 ∨ k = 20 ∨ k = 21 → oc h3 (x + 40) k = oc h (x + 40) k := fun k z => f _ _ (by unfold txc; omega)
  have t : ∀ k : Nat, k ≤ 3 → oc h3 (x + 1) k = oc h (x + 1) k := fun k z => f _ _ (by unfold txc; omega)
  obtain ⟨q1, q2⟩ := slot_keep (O2 := oc h3) (z2 := h3.1) (fun a k z => f a k (by unfold txc; omega)) (by omega) S P
  obtain ⟨⟨u1, u2, u3, u4, u5, u6⟩, ⟨v1, v2, v3⟩, ⟨w1, w2, w3⟩, ⟨y1, y2, y3, y4, y5⟩, -, -⟩ := I.1
  have S3 : rdrS (oc h3) x := ⟨⟨(c _ (by omega)).trans u1, (c _ (by omega)).trans u2, (c _ (by omega)).trans u3, (c _ (by omega)).trans u4, (c _ (by omega)).trans u5, (c _ (by omega)).trans u6⟩,
    ⟨(f _ _ (by unfold txc; omega)).trans v1, (f _ _ (by unfold txc; omega)).trans v2, (f _ _ (by unfold txc; omega)).trans v3⟩, ⟨(f _ _ (by unfold txc; omega)).trans w1, (f _ _ (by unfold txc; omega)).trans w2, (f _ _ (by unfold txc; omega)).trans w3⟩,
    ⟨(f _ _ (by unfold txc; omega)).trans y1, (f _ _ (by unfold txc; omega)).trans y2, (f _ _ (by unfold txc; omega)).trans y3, (f _ _ (by unfold txc; omega)).trans y4, (f _ _ (by unfold txc; omega)).trans y5⟩, D2.1, D2.2⟩
  have I3 : imE (oc h3) h3.1 x := im_k2 (O := oc h) (z := h.1) (fun a k z => f a k (by unfold txc; omega)) (fun s d hs e => Or.inl (by rw [← f (x + 20) s (by unfold txc; omega)]; exact e)) (by omega) S3 F2 I
  have AA : (oi (oc h3) (x + 19) 2).toInt = (r2 : Int) ∧ oi (oc h3) (x + 40) 7 = nI r2 ∧ r2 ≤ 12 ∧ actE (oc h3) x (x + 40) r2 nx := by
    rcases A2 with ⟨a1, a2, a3⟩ | ⟨a1, a2, a3, a4⟩
    · subst a1
      exact ⟨by rw [a2]; rfl, a3, by omega, fun j hj => by omega⟩
    · subst a1
      refine ⟨by rw [a2]; exact n3, a3.trans n4, n5, ?_⟩
      intro j hj
      obtain ⟨d, V, b1, b2, b3, b4, b5⟩ := A j hj
      have l : x + 52 < d := by
        rcases S ((nx + 11 - j) % 12) (by omega) with q | ⟨d2, q, q1, q2, q3⟩
        · rw [q] at b1; cases b1
        · rw [q] at b1; cases b1; exact q2
      refine ⟨d, V, (f _ _ (by unfold txc; omega)).trans b1, rodE_fr b2 (fun a k h1 h2 => f _ _ (by unfold txc; omega)), b3, fun k hk => (b4 k hk).trans (g _ _ (by unfold txc; omega)).symm, b5.trans a4.symm⟩
  obtain ⟨aa1, aa2, aa3, aa4⟩ := AA
  refine ⟨⟨(c _ (by omega)).trans e0, (c _ (by omega)).trans e1, (c _ (by omega)).trans e3, (c _ (by omega)).trans e8, (f _ _ (by unfold txc; omega)).trans e36, (f _ _ (by unfold txc; omega)).trans e19, ⟨(t _ (by omega)).trans t0, (t _ (by omega)).trans t1, (t _ (by omega)).trans t2, (t _ (by omega)).trans t3⟩,
    (m _ (by omega)).trans s1, (m _ (by omega)).trans s2, (m _ (by omega)).trans s3, (m _ (by omega)).trans s4, (m _ (by omega)).trans s5, (m _ (by omega)).trans s8, (m _ (by omega)).trans s15, (m _ (by omega)).trans s17, (m _ (by omega)).trans s19, (m _ (by omega)).trans s20, (m _ (by omega)).trans s21⟩,
    ⟨(g _ _ (by unfold txc; omega)).trans n1, n2, aa1, aa2, aa3, by omega, q1, q2, aa4⟩, W2E, ⟨T2.1, T2.2.1, T2.2.2, fun i hi => ?_, I3⟩⟩
  rw [g _ _ (by unfold txc; omega), g _ _ (by unfold txc; omega)]
  exact l4 i hi
theorem E_X11_pole {b : Nat → Int32} {L : Nat} {x : Nat} {W : jWd} {n : Nat} {a0 : Nat} {h : jH} {q : jR × jH} (ha : x = a0) (X0 : oc h x 0 = .ref (x + 1)) (X1 : oc h x 1 = .ref (x + 6)) (X3 : oc h x 3 = .ref (x + 19)) (I : rdrS (oc h) x) (C : ctb (oc h) (x + 1) b L) (R : rodE (oc h) (x + 6) W) (K : wOK W) (J : jlen h (x + 24) = some 8 ∧ jlen h (x + 25) = some 8) (hf : F_X11_pole n a0 h = some q) : ∃ (m : Nat) (T : Nat → Int32 × Int32) (st en : Nat → Nat), tkE b L m T st en ∧ (∀ f, (if (T 0).1 = -1 then .inl W else rdLines (rdPole T) T 14 W 0) = .inr f → q.1 = .inr 0 ∧ oi (oc q.2) x 12 = nI (st f) ∧ (∀ a k : Nat, ¬ (a = x ∧ k = 12) → ¬ (a = x + 1 ∧ 4 ≤ k ∧ k ≤ 6) → ¬ (x + 3 ≤ a ∧ a ≤ x + 5) → ¬ (x + 21 ≤ a ∧ a ≤ x + 27) → oc q.2 a k = oc h a k)) ∧ (∀ W2, (if (T 0).1 = -1 then .inl W else rdLines (rdPole T) T 14 W 0) = .inl W2 → okW W W2 ∧ oi (oc q.2) x 12 = -1 ∧ ((¬ W 1 < 12 ∧ q.1 = .inr 3 ∧ (∀ a k : Nat, ¬ (a = x ∧ k = 12) → ¬ (a = x + 1 ∧ 4 ≤ k ∧ k ≤ 6) → ¬ (x + 3 ≤ a ∧ a ≤ x + 5) → ¬ (x + 21 ≤ a ∧ a ≤ x + 27) → oc q.2 a k = oc h a k)) ∨ (W 1 < 12 ∧ q.1 = .inl (W2 1 + 1) ∧ rodE (oc q.2) (x + 6) (upd W2 1 (W2 1 + 1)) ∧ oi (oc q.2) (x + 19) 2 = 0 ∧ (∀ a k : Nat, ¬ (a = x ∧ k = 12) → ¬ (a = x + 1 ∧ 4 ≤ k ∧ k ≤ 6) → ¬ (x + 3 ≤ a ∧ a ≤ x + 5) → ¬ (x + 6 ≤ a ∧ a ≤ x + 12) → ¬ (a = x + 19 ∧ k = 2) → ¬ (x + 21 ≤ a ∧ a ≤ x + 27) → oc q.2 a k = oc h a k)))) ∧ oi (oc q.2) (x + 1) 6 = 0 ∧ rodS (oc q.2) (x + 21) ∧ q.2.1 = h.1 := by
  unfold F_X11_pole at hf
  subst ha
  replace hf := jbind hf
  obtain ⟨p1, e1, hf⟩ := hf
  have r1 := oc_gR e1
  rw [I.1.2.1] at r1
  cases r1
  clear e1
  replace hf := jbind hf
  obtain ⟨p5, e2, hf⟩ := hf
  have r2 := oc_gR e2
  rw [X1] at r2
  cases r2
  clear e2
  replace hf := jbind hf
  obtain ⟨h8, e3, hf⟩ := hf
  replace e3 := (jcv_o e3).2
  have S34 : rrS (oc h) x := I.2.1
  have sd := I.2.2.2.2.1
  obtain ⟨R3, f3, z3⟩ := E_X8_copyFrom (d := x + 21) (r := x + 6) rfl rfl (by omega) sd R K e3
  have J3 : jlen h8 (x + 24) = some 8 ∧ jlen h8 (x + 25) = some 8 := ⟨Ln_X8_copyFrom e3 _ _ J.1, Ln_X8_copyFrom e3 _ _ J.2⟩
  have S3 : rrS (oc h8) x := rrS_D S34 (frD_R f3)
  have C3 : ctb (oc h8) (x + 1) b L := ctb_fr C (fun a k u => f3 _ _ (by omega))
  have g3 : ∀ k, oc h8 x k = oc h x k := fun k => f3 _ _ (by omega)
  have x6 : oc h8 x 6 = .ref (x + 34) := (g3 6).trans I.1.2.2.2.1
  replace hf := jbind hf
  obtain ⟨p13, e4, hf⟩ := hf
  have r4 := oc_gR e4
  rw [x6] at r4
  cases r4
  clear e4
  replace hf := jbind hf
  obtain ⟨q16, e5, hf⟩ := hf
  replace e5 := (jcv_o e5).2
  obtain ⟨m, T, st, en, H, r5, f5, z5⟩ := E_X4_read_R C3 S3 rfl R3 K J3 e5
  have g5 : ∀ k, oc q16.2 x k = oc h x k := fun k => (f5 _ _ (by omega) (by omega) (by omega)).trans (g3 k)
  have x0 : oc q16.2 x 0 = .ref (x + 1) := (g5 0).trans X0
  have x1 : oc q16.2 x 1 = .ref (x + 6) := (g5 1).trans X1
  have x3 : oc q16.2 x 3 = .ref (x + 19) := (g5 3).trans X3
  have x4 : oc q16.2 x 4 = .ref (x + 21) := (g5 4).trans I.1.2.1
  replace hf := jbind hf
  obtain ⟨h19, e6, hf⟩ := hf
  obtain ⟨o6, z6⟩ := oc_pf e6
  clear e6
  replace hf := jbind hf
  obtain ⟨p23, e7, hf⟩ := hf
  have r7 := oc_gR e7
  rw [o6] at r7
  rw [u2_ne (Or.inr (by decide))] at r7
  rw [x0] at r7
  cases r7
  clear e7
  replace hf := jbind hf
  obtain ⟨h27, e8, hf⟩ := hf
  obtain ⟨o8, z8⟩ := oc_pf e8
  clear e8
  replace hf := jbind hf
  obtain ⟨v31, e9, hf⟩ := hf
  have r9 := oc_gI e9
  rw [o8] at r9
  rw [oi_ne (Or.inl (by omega))] at r9
  rw [o6] at r9
  rw [oi_eq] at r9
  subst r9
  clear e9
  have q27 : ∀ a k : Nat, ¬ (a = x ∧ k = 12) → ¬ (a = x + 1 ∧ k = 6) → oc h27 a k = oc q16.2 a k := fun a k u1 u2 => by rw [o8, u2_ne (by omega), o6, u2_ne (by omega)]
  have f27 : ∀ a k : Nat, ¬ (a = x ∧ k = 12) → ¬ (a = x + 1 ∧ 4 ≤ k ∧ k ≤ 6) → ¬ (x + 3 ≤ a ∧ a ≤ x + 5) → ¬ (x + 21 ≤ a ∧ a ≤ x + 27) → oc h27 a k = oc h a k := fun a k u1 u2 u3 u4 => (q27 a k u1 (by omega)).trans ((f5 a k (by omega) (by omega) (by omega)).trans (f3 a k (by omega)))
  have g27 : oi (oc h27) (x + 1) 6 = 0 := by rw [o8, oi_eq]
  have n27 : oi (oc h27) x 12 = q16.1 := by rw [o8, oi_ne (Or.inl (by omega)), o6, oi_eq]
  have z27 : h27.1 = h.1 := z8.trans (z6.trans (z5.trans z3))
  replace hf := jite hf
  rcases hf with ⟨c10, hf⟩ | ⟨c10, hf⟩
  · skip
    replace hf := jbind hf
    obtain ⟨p49, e11, hf⟩ := hf
    have r11 := oc_gR e11
    rw [o8] at r11
    rw [u2_ne (Or.inl (by omega))] at r11
    rw [o6] at r11
    rw [u2_ne (Or.inr (by decide))] at r11
    rw [x1] at r11
    cases r11
    clear e11
    replace hf := jbind hf
    obtain ⟨v52, e12, hf⟩ := hf
    have r12 := oc_gI e12
    rw [o8] at r12
    rw [oi_ne (Or.inl (by omega))] at r12
    rw [o6] at r12
    rw [oi_ne (Or.inl (by omega))] at r12
    subst r12
    clear e12
    rcases hR : (if (T 0).1 = -1 then .inl W else rdLines (rdPole T) T 14 W 0) with W2 | f
    rotate_left
    · exfalso
      have y := (r5.2 f hR).1
      rw [c10] at y
      have sl := tk_L H f
      have hL := H.1
      exact nI_ng (x := -1) (by omega) (by decide) y
    have RW2 := (r5.1 W2 hR).2
    have ok : okW W W2 := by
      split at hR
      · cases hR; exact ⟨K, fun _ _ => rfl⟩
      · exact rdLines_ok 14 K hR
    have R12 : oi (oc q16.2) (x + 6) 17 = W 1 := by
      unfold oi
      rw [f5 _ _ (by omega) (by omega) (by omega), f3 _ _ (by omega)]
      exact R.2.1.2.2.2.2.2.2.2.2
    replace hf := jite hf
    rcases hf with ⟨c13, hf⟩ | ⟨c13, hf⟩
    · skip
      replace hf := jbind hf
      obtain ⟨p71, e14, hf⟩ := hf
      have r14 := oc_gR e14
      rw [o8] at r14
      rw [u2_ne (Or.inl (by omega))] at r14
      rw [o6] at r14
      rw [u2_ne (Or.inr (by decide))] at r14
      rw [x4] at r14
      cases r14
      clear e14
      replace hf := jbind hf
      obtain ⟨v75, e15, hf⟩ := hf
      have r15 := oc_gI e15
      rw [o8] at r15
      rw [oi_ne (Or.inl (by omega))] at r15
      rw [o6] at r15
      rw [oi_ne (Or.inl (by omega))] at r15
      subst r15
      clear e15
      have w17 : oi (oc q16.2) (x + 21) 17 + 1 = W2 1 + 1 := by rw [RW2.2.1.2.2.2.2.2.2.2.2]
      replace hf := jbind hf
      obtain ⟨h80, e16, hf⟩ := hf
      obtain ⟨o16, z16⟩ := oc_pf e16
      clear e16
      replace hf := jbind hf
      obtain ⟨p84, e17, hf⟩ := hf
      have r17 := oc_gR e17
      rw [o16] at r17
      rw [u2_ne (Or.inl (by omega))] at r17
      rw [o8] at r17
      rw [u2_ne (Or.inl (by omega))] at r17
      rw [o6] at r17
      rw [u2_ne (Or.inr (by decide))] at r17
      rw [x1] at r17
      cases r17
      clear e17
      replace hf := jbind hf
      obtain ⟨p88, e18, hf⟩ := hf
      have r18 := oc_gR e18
      rw [o16] at r18
      rw [u2_ne (Or.inl (by omega))] at r18
      rw [o8] at r18
      rw [u2_ne (Or.inl (by omega))] at r18
      rw [o6] at r18
      rw [u2_ne (Or.inr (by decide))] at r18
      rw [x4] at r18
      cases r18
      clear e18
      replace hf := jbind hf
      obtain ⟨h91, e19, hf⟩ := hf
      replace e19 := (jcv_o e19).2
      have R16 : rodE (oc h80) (x + 21) (upd W2 1 (W2 1 + 1)) := by
        rw [o16, w17]
        exact rodE_i17 (rodE_fr RW2 (fun a k u1 u2 => q27 a k (by omega) (by omega)))
      have f80 : ∀ a k : Nat, ¬ (a = x + 21 ∧ k = 17) → oc h80 a k = oc h27 a k := fun a k u => by rw [o16, u2_ne (by omega)]
      have sr : rodS (oc h80) (x + 6) := by have := R.1; exact rodS_fr this (fun k => (f80 _ _ (by omega)).trans (f27 _ _ (by omega) (by omega) (by omega) (by omega))) ((f80 _ _ (by omega)).trans (f27 _ _ (by omega) (by omega) (by omega) (by omega)))
      have K16 : wOK (upd W2 1 (W2 1 + 1)) := wOK_1 ok.1 (by rw [ok.2 1 (Or.inl rfl)]; have k11 := K.2.2.2.2.2.2.2.2.2.2; have c13 := c13; rw [R12, Int32.lt_iff_toInt_lt, show (12 : Int32).toInt = 12 from rfl] at c13; have l1 : (1 : Int32).toInt = 1 := rfl; rw [jadd (by omega) (by omega)]; omega)
      obtain ⟨R19, f19, z19⟩ := E_X8_copyFrom (d := x + 6) (r := x + 21) rfl rfl (by omega) sr R16 K16 e19
      have x1c : oc h91 x 1 = .ref (x + 6) := (f19 _ _ (by omega)).trans ((f80 _ _ (by omega)).trans ((f27 _ _ (by omega) (by omega) (by omega) (by omega)).trans X1))
      have x3c : oc h91 x 3 = .ref (x + 19) := (f19 _ _ (by omega)).trans ((f80 _ _ (by omega)).trans ((f27 _ _ (by omega) (by omega) (by omega) (by omega)).trans X3))
      replace hf := jbind hf
      obtain ⟨p95, e20, hf⟩ := hf
      have r20 := oc_gR e20
      rw [x3c] at r20
      cases r20
      clear e20
      replace hf := jbind hf
      obtain ⟨h98, e21, hf⟩ := hf
      replace e21 := (jcv_o e21).2
      obtain ⟨o21, z21⟩ := E_X0_forget e21
      replace hf := jbind hf
      obtain ⟨p102, e22, hf⟩ := hf
      have r22 := oc_gR e22
      rw [o21] at r22
      rw [u2_ne (Or.inl (by omega))] at r22
      rw [x1c] at r22
      cases r22
      clear e22
      replace hf := jbind hf
      obtain ⟨v105, e23, hf⟩ := hf
      have r23 := oc_gI e23
      rw [o21] at r23
      rw [oi_ne (Or.inl (by omega))] at r23
      subst r23
      clear e23
      cases hf
      -- leaf 00: (.inl v105, h98)
      have cw : W 1 < 12 := by rw [← R12]; exact c13
      have f98 : ∀ a k : Nat, ¬ (a = x ∧ k = 12) → ¬ (a = x + 1 ∧ 4 ≤ k ∧ k ≤ 6) → ¬ (x + 3 ≤ a ∧ a ≤ x + 5) → ¬ (x + 6 ≤ a ∧ a ≤ x + 12) → ¬ (a = x + 19 ∧ k = 2) → ¬ (x + 21 ≤ a ∧ a ≤ x + 27) → oc h98 a k = oc h a k := fun a k u1 u2 u3 u4 u5 u6 => by rw [o21, u2_ne (by omega), f19 a k (by omega), f80 a k (by omega)]; exact f27 a k u1 u2 u3 u6
      have k98 : ∀ a k : Nat, ¬ (x + 6 ≤ a ∧ a ≤ x + 12) → ¬ (a = x + 19 ∧ k = 2) → ¬ (a = x + 21 ∧ k = 17) → oc h98 a k = oc h27 a k := fun a k u1 u2 u3 => by rw [o21, u2_ne (by omega), f19 a k (by omega), f80 a k (by omega)]
      have R98 : rodE (oc h98) (x + 6) (upd W2 1 (W2 1 + 1)) := rodE_fr R19 (fun a k u1 u2 => by rw [o21, u2_ne (by omega)])
      have a98 : oi (oc h91) (x + 6) 17 = W2 1 + 1 := by rw [R19.2.1.2.2.2.2.2.2.2.2, upd_eq]
      refine ⟨m, T, st, en, H, fun f y => (by rw [hR] at y; cases y), fun W3 y => ?_, ?_, ?_, ?_⟩
      · rw [hR] at y
        cases y
        refine ⟨ok, ?_, Or.inr ⟨cw, by rw [a98], R98, ?_, f98⟩⟩
        · show oi (oc h98) x 12 = -1
          unfold oi
          rw [k98 _ _ (by omega) (by omega) (by omega)]
          exact n27.trans c10
        · show oi (oc h98) (x + 19) 2 = 0
          rw [o21, oi_eq]
      · show oi (oc h98) (x + 1) 6 = 0
        unfold oi
        rw [k98 _ _ (by omega) (by omega) (by omega)]
        exact g27
      · exact rodS_fr R16.1 (fun k => by show oc h98 _ _ = _; rw [o21, u2_ne (by omega), f19 _ _ (by omega)]) (by show oc h98 _ _ = _; rw [o21, u2_ne (by omega), f19 _ _ (by omega)])
      · exact z21.trans (z19.trans (z16.trans z27))
    · skip
      cases hf
      -- leaf 01: (.inr 3, h27)
      have cw : ¬ W 1 < 12 := by rw [← R12]; exact c13
      refine ⟨m, T, st, en, H, fun f y => (by rw [hR] at y; cases y), fun W3 y => ?_, g27, rodS_fr RW2.1 (fun k => q27 _ _ (by omega) (by omega)) (q27 _ _ (by omega) (by omega)), z27⟩
      rw [hR] at y
      cases y
      exact ⟨ok, n27.trans c10, Or.inl ⟨cw, rfl, f27⟩⟩
  · skip
    cases hf
    -- leaf 1: (.inr 0, h27)
    rcases hR : (if (T 0).1 = -1 then .inl W else rdLines (rdPole T) T 14 W 0) with W2 | f
    · exact absurd (r5.1 W2 hR).1 c10
    obtain ⟨v5, s5⟩ := r5.2 f hR
    refine ⟨m, T, st, en, H, fun f2 y => ?_, fun W3 y => (by rw [hR] at y; cases y), g27, rodS_fr s5 (fun k => q27 _ _ (by omega) (by omega)) (q27 _ _ (by omega) (by omega)), z27⟩
    rw [hR] at y
    cases y
    exact ⟨rfl, n27.trans v5, f27⟩
end
section
/-! pole keeps the relation -/
theorem tyR_cb {W W2 : jWd} (h : ∀ k, k < 1284 → W2 k = W k) (a : Nat) : ∀ k, a + k ≤ 400 → tyR W2 a k = tyR W a k
  | 0, _ => rfl
  | k + 1, hk => by
    unfold tyR
    rw [tyR_cb h a k (by omega), h _ (by omega)]
theorem lawE_cb {O : jO} {l : Nat} {W W2 : jWd} (L : lawE O l W) (h : ∀ k, k < 1284 → W2 k = W k) : lawE O l W2 := by
  obtain ⟨S, a, b, c⟩ := L
  unfold lawE
  rw [h 2 (by omega), h 435 (by omega)]
  refine ⟨S, a, b, fun z => ⟨(c z).1, (c z).2.1, ?_⟩⟩
  obtain ⟨-, c2, c3⟩ := c z
  intro i hi
  rw [h _ (by omega), h _ (by omega), h _ (by omega), h _ (by omega), h (439 + 4 * (i - 1)) (by omega)]
  obtain ⟨a1, a2, a3, a4, a5, a6, a7, a8, a9, a10, a11⟩ := c3 i hi
  refine ⟨a1, a2, a3, a4, a5, a6, a7, a8, a9, fun j u w => ?_, ?_⟩
  · rw [h _ (by omega), h _ (by omega)]; exact a10 j u w
  · rw [tyR_cb h _ _ (by omega)]; exact a11
/-- the world as it was, where it tells -/
theorem wd_cb {O O2 : jO} {x y : Nat} {W W2 : jWd} (R : rodE O y W) (K : wOK W) (L : lawE O x W) (h : ∀ k, k < 1284 → W2 k = W k) (fR : ∀ a k, y ≤ a → a ≤ y + 6 → O2 a k = O a k) (fL : ∀ a k, x ≤ a → a ≤ x + 4 → ¬ (a = x ∧ k = 5) → O2 a k = O a k) : rodE O2 y W2 ∧ wOK W2 ∧ lawE O2 x W2 ∧ lawK W2 ∧ lawB W2 := by
  have L2 : lawE O2 x W2 := lawE_cb (lawE_fr L fL) h
  exact ⟨rodE_cg (rodE_fr R fR) K (fun k hk => h k (by omega)), wOK_cg K (fun k hk => h k (by omega)), L2, lawK_of L2, lawB_of L2⟩
theorem eq_pole {x nx r L n : Nat} {W : jWd} {h : jH} {q : jR × jH} {p : Int32 × jH} (E : eqS x nx r L W h) (J : jlen h (x + 24) = some 8 ∧ jlen h (x + 25) = some 8) (hB : ∀ i, i < 400 → -128 ≤ (oi (oc h) (x + 46) i).toInt ∧ (oi (oc h) (x + 46) i).toInt ≤ 127) (e1 : F_X11_pole n x h = some q) (e2 : F_X12_pole n (x + 40) q.2 = some p) :
    (∃ r2 W2, eqS x nx r2 0 W2 p.2) ∧ ansE [(0, 1), (3, 2)] q.1 p.1 (oi (oc p.2) (x + 40) 0) := by
  obtain ⟨⟨x0, x1, x3, -, -, -, ts, M⟩, ⟨n1, n2, n3, n4, n5, n6, -, -, -⟩, ⟨R, hw, K, LE, LK, LB⟩, ⟨l1, l2, l3, l4, I⟩⟩ := id E
  have C : ctb (oc h) (x + 1) (fun i => oi (oc h) (x + 46) i) L := ⟨ts, l1, l3, fun i hi => l4 i hi, hB⟩
  obtain ⟨m, T, st, en, H, a1, a2, a3, a4, a5⟩ := E_X11_pole rfl x0 x1 x3 I.1 C R K J e1
  -- whatever the answer: what the class leaves alone
  have FQ : ∀ a k : Nat, ¬ (a = x ∧ k = 12) → ¬ (a = x + 1 ∧ 4 ≤ k ∧ k ≤ 6) → ¬ (x + 3 ≤ a ∧ a ≤ x + 5) → ¬ (x + 6 ≤ a ∧ a ≤ x + 12) → ¬ (a = x + 19 ∧ k = 2) → ¬ (x + 21 ≤ a ∧ a ≤ x + 27) → oc q.2 a k = oc h a k := fun a k u1 u2 u3 u4 u5 u6 => by
    rcases hR : (if (T 0).1 = -1 then .inl W else rdLines (rdPole T) T 14 W 0 : jWd ⊕ Nat) with W2 | f
    · rcases (a2 W2 hR).2.2 with ⟨-, -, F⟩ | ⟨-, -, -, -, F⟩
      · exact F a k u1 u2 u3 u6
      · exact F a k u1 u2 u3 u4 u5 u6
    · exact (a1 f hR).2.2 a k u1 u2 u3 u6
  have k2 : ∀ a k : Nat, x + 28 ≤ a → oc q.2 a k = oc h a k := fun a k z => FQ a k (by omega) (by omega) (by omega) (by omega) (by omega) (by omega)
  have ki : ∀ a k : Nat, x + 28 ≤ a → oi (oc q.2) a k = oi (oc h) a k := fun a k z => by unfold oi; rw [k2 a k z]
  have M2 : mS (oc q.2) (x + 40) := by
    obtain ⟨s1, s2, s3, s4, s5, s8, s15, s17, s19, s20, s21⟩ := M
    have k3 : ∀ k, oc q.2 (x + 40) k = oc h (x + 40) k := fun k => k2 _ k (by omega)
    exact ⟨(k3 _).trans s1, (k3 _).trans s2, (k3 _).trans s3, (k3 _).trans s4, (k3 _).trans s5, (k3 _).trans s8, (k3 _).trans s15, (k3 _).trans s17, (k3 _).trans s19, (k3 _).trans s20, (k3 _).trans s21⟩
  have w2 : wl (oc q.2) (x + 40) = W := by rw [← hw]; funext k; exact ki (x + 41) k (by omega)
  obtain ⟨b1, b2, b3, b4, b5⟩ := E_X12_pole H M2 w2 K ((ki _ _ (by omega)).trans l2) (fun i => ki (x + 46) i (by omega)) e2
  have fp : ∀ a k : Nat, a ≠ x + 41 → a ≠ x + 43 → ¬ (a = x + 40 ∧ (k = 0 ∨ k = 7 ∨ (9 ≤ k ∧ k ≤ 14) ∨ k = 16)) → oc p.2 a k = oc q.2 a k := fun a k u1 u2 u3 => b4 a k (fun c hc z => by simp at hc; omega) (fun z y => u3 ⟨z, by simp at y; omega⟩)
  have fpi : ∀ a k : Nat, a ≤ x + 39 → oi (oc p.2) a k = oi (oc q.2) a k := fun a k z => by unfold oi; rw [fp a k (by omega) (by omega) (by omega)]
  have F : ∀ a k : Nat, ¬ txc x a k → oc p.2 a k = oc h a k := fun a k z => by
    unfold txc at z
    exact (fp a k (by omega) (by omega) (by omega)).trans (FQ a k (by omega) (by omega) (by omega) (by omega) (by omega) (by omega))
  have T2 : oi (oc p.2) (x + 1) 6 = nI 0 ∧ oi (oc p.2) (x + 40) 9 = nI 0 ∧ 0 ≤ 400 := ⟨(fpi _ _ (by omega)).trans a3, b3, by omega⟩
  have D2 : rodS (oc p.2) (x + 21) ∧ lawS (oc p.2) (x + 28) := ⟨rodS_fr a4 (fun k => fp _ _ (by omega) (by omega) (by omega)) (fp _ _ (by omega) (by omega) (by omega)), by
    obtain ⟨g1, g2, g3, g4, g5⟩ := I.1.2.2.2.2.2
    have g : ∀ k, oc p.2 (x + 28) k = oc h (x + 28) k := fun k => (fp _ _ (by omega) (by omega) (by omega)).trans (k2 _ _ (by omega))
    exact ⟨(g _).trans g1, (g _).trans g2, (g _).trans g3, (g _).trans g4, (g _).trans g5⟩⟩
  have fL : ∀ a k : Nat, x + 13 ≤ a → a ≤ x + 17 → oc p.2 a k = oc h a k := fun a k z1 z2 => (fp a k (by omega) (by omega) (by omega)).trans (FQ a k (by omega) (by omega) (by omega) (by omega) (by omega) (by omega))
  have f13 : oi (oc p.2) (x + 13) 7 = oi (oc h) (x + 13) 7 := by unfold oi; rw [fL _ _ (by omega) (by omega)]
  rcases hR : (if (T 0).1 = -1 then .inl W else rdLines (rdPole T) T 14 W 0 : jWd ⊕ Nat) with W2 | f
  · obtain ⟨ok, n12, d⟩ := a2 W2 hR
    obtain ⟨c14, c2, e⟩ := b2 W2 hR
    have W1 : W2 1 = W 1 := ok.2 1 (Or.inl rfl)
    have k11 := K.2.2.2.2.2.2.2.2.2.2
    have l12 : (12 : Int32).toInt = 12 := rfl
    rcases d with ⟨t12, v, G⟩ | ⟨t12, v, R2, s0, G⟩
    · rcases e with ⟨e12, v2, y0, y7, yW⟩ | ⟨e12, -⟩
      · obtain ⟨q1, q2, q3, q4, q5⟩ := wd_cb R K LE yW (fun a k z1 z2 => (fp a k (by omega) (by omega) (by omega)).trans (G a k (by omega) (by omega) (by omega) (by omega))) (fun a k z1 z2 _ => fL a k z1 (by omega))
        have g19 : oi (oc p.2) (x + 19) 2 = oi (oc h) (x + 19) 2 := by unfold oi; rw [fp _ _ (by omega) (by omega) (by omega), G _ _ (by omega) (by omega) (by omega) (by omega)]
        exact ⟨⟨r, _, eq_bld E F (b5.trans a5) (Or.inr ⟨rfl, g19, y7.trans (ki _ _ (by omega)), f13⟩) ⟨q1, rfl, q2, q3, q4, q5⟩ T2 D2 (((fpi _ _ (by omega)).trans n12).trans c14.symm)⟩, Or.inr ⟨(3, 2), by simp, v, v2, y0⟩⟩
      · exfalso
        rw [W1] at e12
        exact t12 (by rw [Int32.lt_iff_toInt_lt]; have : (W 1).toInt ≠ 12 := fun z => e12 (Int32.toInt_inj.mp (by rw [z, l12])); omega)
    · rcases e with ⟨e12, -⟩ | ⟨e12, v2, y0, yw, y7⟩
      · exfalso
        rw [W1] at e12
        rw [e12] at t12
        exact absurd t12 (by decide)
      · have ok3 : ∀ k : Nat, k = 2 ∨ 435 ≤ k → upd W2 1 (W2 1 + 1) k = W k := fun k hk => by rw [upd_ne (by omega)]; exact ok.2 k (Or.inr hk)
        have L3 : lawE (oc p.2) (x + 13) (upd W2 1 (W2 1 + 1)) := lawE_cg (lawE_fr LE (fun a k z1 z2 _ => fL a k z1 (by omega))) ok3
        have K3 : wOK (upd W2 1 (W2 1 + 1)) := wOK_1 ok.1 (by
          rw [W1]
          rw [Int32.lt_iff_toInt_lt] at t12
          have l1 : (1 : Int32).toInt = 1 := rfl
          rw [jadd (by omega) (by omega)]
          omega)
        exact ⟨⟨0, _, eq_bld E F (b5.trans a5) (Or.inl ⟨rfl, (fpi _ _ (by omega)).trans s0, y7⟩) ⟨rodE_fr R2 (fun a k z1 z2 => fp a k (by omega) (by omega) (by omega)), yw, K3, L3, lawK_of L3, lawB_of L3⟩ T2 D2 (((fpi _ _ (by omega)).trans n12).trans c14.symm)⟩, Or.inl ⟨by rw [v, v2], y0⟩⟩
  · obtain ⟨v, n12, G⟩ := a1 f hR
    obtain ⟨v2, y0, c14, y7, yW⟩ := b1 f hR
    obtain ⟨q1, q2, q3, q4, q5⟩ := wd_cb R K LE yW (fun a k z1 z2 => (fp a k (by omega) (by omega) (by omega)).trans (G a k (by omega) (by omega) (by omega) (by omega))) (fun a k z1 z2 _ => fL a k z1 (by omega))
    have g19 : oi (oc p.2) (x + 19) 2 = oi (oc h) (x + 19) 2 := by unfold oi; rw [fp _ _ (by omega) (by omega) (by omega), G _ _ (by omega) (by omega) (by omega) (by omega)]
    exact ⟨⟨r, _, eq_bld E F (b5.trans a5) (Or.inr ⟨rfl, g19, y7.trans (ki _ _ (by omega)), f13⟩) ⟨q1, rfl, q2, q3, q4, q5⟩ T2 D2 (((fpi _ _ (by omega)).trans n12).trans c14.symm)⟩, Or.inr ⟨(0, 1), by simp, v, v2, y0⟩⟩
end
section
/-! image, on both sides -/
theorem E_lawnew {n : Nat} {h q : jH} (e : F_X2_init n h.1 (jnew h (.inl (2, [.null, .null, .null, .null, .null, .int 0, .int 0, .int 0, .int 0]))) = some q) : lawS (oc q) h.1 ∧ q.1 = h.1 + 6 ∧ ∀ a k, a < h.1 → oc q a k = oc h a k := by
  obtain ⟨v, e2, j⟩ := I_X2_init (n := n) (h := h)
  cases e.symm.trans e2
  obtain ⟨j1, j2, j3⟩ := j
  have o : ∀ i, oc q (h.1 + 0) i = ([.ref (h.1 + 1), .ref (h.1 + 2), .ref (h.1 + 3), .ref (h.1 + 4), .ref (h.1 + 5), .int 0, .int 0, .int 0, .int 0] : List Value).getD i .null := fun i => by
    unfold oc
    rw [j3 0 _ rfl]
  refine ⟨⟨o 0, o 1, o 2, o 3, o 4⟩, j1, fun a k ha => ?_⟩
  unfold oc
  rw [j2 a ha]
theorem va_r {b : Nat} {o : Option Nat} (e : Value.ref b = va_rf o) : o = some b := by
  cases o with
  | none => cases e
  | some c =>
    have e2 : Value.ref b = .ref c := e
    cases e2
    rfl
theorem va_n {o : Option Nat} (e : Value.null = va_rf o) : o = none := by
  cases o with
  | none => rfl
  | some c =>
    have e2 : Value.null = .ref c := e
    cases e2
/-- rod and law of the class, taken over into what is kept -/
theorem E_img36 {n x kr kl : Nat} {W : jWd} {h q : jH} (X1 : oc h x 1 = .ref (x + 6)) (X2 : oc h x 2 = .ref (x + 13)) (X10 : oc h x 10 = .ref kr) (X11 : oc h x 11 = .ref kl) (R : rodE (oc h) (x + 6) W) (K : wOK W) (LE : lawE (oc h) (x + 13) W) (sr : rodS (oc h) kr) (sl : lawS (oc h) kl)
    (ap : x + 52 < kr ∧ x + 52 < kl ∧ (kr + 6 < kl ∨ kl + 5 < kr)) (hf : F_X11_image_36 n x h = some q) : rodE (oc q) kr W ∧ lawE (oc q) kl W ∧ (∀ a k : Nat, ¬ (kr ≤ a ∧ a ≤ kr + 6) → ¬ (kl ≤ a ∧ a ≤ kl + 5) → oc q a k = oc h a k) ∧ q.1 = h.1 := by
  unfold F_X11_image_36 at hf
  obtain ⟨o37, e1, hf⟩ := jbind hf
  have r1 := oc_gQ e1
  rw [X10] at r1
  cases va_r r1
  obtain ⟨p41, e2, hf⟩ := jbind hf
  have r2 := oc_gR e2
  rw [X1] at r2
  cases r2
  dsimp only at hf
  obtain ⟨h44, e3, hf⟩ := jbind hf
  obtain ⟨R3, f3, z3⟩ := E_X8_copyFrom (d := kr) (r := x + 6) rfl rfl (by omega) sr R K (jcv_o e3).2
  obtain ⟨o48, e4, hf⟩ := jbind hf
  have r4 := oc_gQ e4
  rw [f3 _ _ (by omega), X11] at r4
  cases va_r r4
  obtain ⟨p52, e5, hf⟩ := jbind hf
  have r5 := oc_gR e5
  rw [f3 _ _ (by omega), X2] at r5
  cases r5
  dsimp only at hf
  obtain ⟨h55, e6, hf⟩ := jbind hf
  have S6 : lawS (oc h44) kl := by
    obtain ⟨s0, s1, s2, s3, s4⟩ := sl
    exact ⟨(f3 _ _ (by omega)).trans s0, (f3 _ _ (by omega)).trans s1, (f3 _ _ (by omega)).trans s2, (f3 _ _ (by omega)).trans s3, (f3 _ _ (by omega)).trans s4⟩
  obtain ⟨R6, f6, z6⟩ := E_X2_copyFrom (d := kl) (r := x + 13) rfl rfl (by omega) S6 (lawE_fr LE (fun a k h1 h2 _ => f3 a k (by omega))) (jcv_o e6).2
  cases hf
  exact ⟨rodE_fr R3 (fun a k h1 h2 => f6 a k (by omega)), R6, fun a k h1 h2 => (f6 a k (by omega)).trans (f3 a k (by omega)), z6.trans z3⟩
/-- the kept rod and law: none yet, or these -/
def kp0 (O : jO) (z x : Nat) (kr kl : Nat) : Prop := (O x 10 = .null ∧ O x 11 = .null ∧ kr = z ∧ kl = z + 7) ∨ (O x 10 = .ref kr ∧ O x 11 = .ref kl ∧ rodS O kr ∧ lawS O kl ∧ x + 52 < kr ∧ kr + 6 < z ∧ x + 52 < kl ∧ kl + 5 < z ∧ (kr + 6 < kl ∨ kl + 5 < kr))
theorem E_X11_image {n x kr kl : Nat} {W : jWd} {h q : jH} (X1 : oc h x 1 = .ref (x + 6)) (X2 : oc h x 2 = .ref (x + 13)) (R : rodE (oc h) (x + 6) W) (K : wOK W) (LE : lawE (oc h) (x + 13) W) (hz : x + 52 < h.1) (A : kp0 (oc h) h.1 x kr kl) (hf : F_X11_image n x h = some q) :
    oc q x 10 = .ref kr ∧ oc q x 11 = .ref kl ∧ rodE (oc q) kr W ∧ lawE (oc q) kl W ∧ (x + 52 < kr ∧ kr + 6 < q.1 ∧ x + 52 < kl ∧ kl + 5 < q.1 ∧ (kr + 6 < kl ∨ kl + 5 < kr)) ∧ (∀ a k : Nat, a < h.1 → ¬ (a = x ∧ (k = 10 ∨ k = 11)) → ¬ (kr ≤ a ∧ a ≤ kr + 6) → ¬ (kl ≤ a ∧ a ≤ kl + 5) → oc q a k = oc h a k) ∧ h.1 ≤ q.1 := by
  unfold F_X11_image at hf
  obtain ⟨o1, e1, hf⟩ := jbind hf
  have r1 := oc_gQ e1
  rcases A with ⟨a10, a11, ek, el⟩ | ⟨a10, a11, sr, sl, b1, b2, b3, b4, b5⟩
  · subst ek el
    rw [a10] at r1
    cases va_n r1
    dsimp only at hf
    obtain ⟨h8, e2, hf⟩ := jbind hf
    cases e2
    obtain ⟨h12, e3, hf⟩ := jbind hf
    obtain ⟨n1, n2, n3⟩ := E_rodnew e3
    obtain ⟨h15, e4, hf⟩ := jbind hf
    obtain ⟨o4, z4⟩ := oc_pf e4
    have f15 : ∀ a k : Nat, a < h.1 → ¬ (a = x ∧ k = 10) → oc h15 a k = oc h a k := fun a k u w => by rw [o4, u2_ne (by omega)]; exact n3 a k u
    unfold F_X11_image_18 at hf
    obtain ⟨o5, e5, hf⟩ := jbind hf
    have r5 := oc_gQ e5
    rw [f15 _ _ (by omega) (by omega), a11] at r5
    cases va_n r5
    dsimp only at hf
    obtain ⟨h26, e6, hf⟩ := jbind hf
    cases e6
    have z15 : h15.1 = h.1 + 7 := z4.trans n2
    obtain ⟨h30, e7, hf⟩ := jbind hf
    obtain ⟨l1, l2, l3⟩ := E_lawnew e7
    obtain ⟨h33, e8, hf⟩ := jbind hf
    obtain ⟨o8, z8⟩ := oc_pf e8
    have f33 : ∀ a k : Nat, a < h.1 → ¬ (a = x ∧ (k = 10 ∨ k = 11)) → oc h33 a k = oc h a k := fun a k u w => by rw [o8, u2_ne (by omega), l3 a k (by omega)]; exact f15 a k u (by omega)
    have S33 : rodS (oc h33) h.1 := rodS_fr n1 (fun k => by rw [o8, u2_ne (by omega), l3 _ _ (by omega), o4, u2_ne (by omega)]) (by rw [o8, u2_ne (by omega), l3 _ _ (by omega), o4, u2_ne (by omega)])
    have L33 : lawS (oc h33) (h.1 + 7) := by
      rw [z15] at l1
      obtain ⟨s0, s1, s2, s3, s4⟩ := l1
      have g : ∀ k, oc h33 (h.1 + 7) k = oc h30 (h.1 + 7) k := fun k => by rw [o8, u2_ne (by omega)]
      exact ⟨(g _).trans s0, (g _).trans s1, (g _).trans s2, (g _).trans s3, (g _).trans s4⟩
    have y10 : oc h33 x 10 = .ref h.1 := by rw [o8, u2_ne (by omega), l3 _ _ (by omega), o4, u2_eq]
    have y11 : oc h33 x 11 = .ref (h.1 + 7) := by rw [o8, u2_eq, z15]
    obtain ⟨c1, c2, c3, c4⟩ := E_img36 (kr := h.1) (kl := h.1 + 7) (W := W) ((f33 _ _ (by omega) (by omega)).trans X1) ((f33 _ _ (by omega) (by omega)).trans X2) y10 y11 (rodE_fr R (fun a k u1 u2 => f33 a k (by omega) (by omega))) K (lawE_fr LE (fun a k u1 u2 _ => f33 a k (by omega) (by omega))) S33 L33 (by omega) hf
    have zq : q.1 = h.1 + 13 := by rw [c4, z8, l2, z15]
    exact ⟨(c3 _ _ (by omega) (by omega)).trans y10, (c3 _ _ (by omega) (by omega)).trans y11, c1, c2, by omega, fun a k u1 u2 u3 u4 => (c3 a k u3 u4).trans (f33 a k u1 u2), by omega⟩
  · rw [a10] at r1
    cases va_r r1
    dsimp only at hf
    unfold F_X11_image_18 at hf
    obtain ⟨o5, e5, hf⟩ := jbind hf
    have r5 := oc_gQ e5
    rw [a11] at r5
    cases va_r r5
    dsimp only at hf
    obtain ⟨c1, c2, c3, c4⟩ := E_img36 (kr := kr) (kl := kl) (W := W) X1 X2 a10 a11 R K LE sr sl (by omega) hf
    exact ⟨(c3 _ _ (by omega) (by omega)).trans a10, (c3 _ _ (by omega) (by omega)).trans a11, c1, c2, by omega, fun a k _ _ u3 u4 => c3 a k u3 u4, by omega⟩
theorem E_X12_image {n a0 : Nat} {h q : jH} (M : mS (oc h) a0) (hf : F_X12_image n a0 h = some q) : oi (oc q) a0 0 = 0 ∧ oi (oc q) a0 6 = 1 ∧ (∀ j, j < 1284 → oi (oc q) (a0 + 2) j = wl (oc h) a0 j) ∧ frM a0 [2] [0, 6] (oc h) (oc q) ∧ q.1 = h.1 := by
  unfold F_X12_image at hf
  obtain ⟨h2, e1, hf⟩ := jbind hf
  obtain ⟨o1, z1⟩ := oc_pf e1
  have f1 : frM a0 [] [0] (oc h) (oc h2) := by rw [o1]; exact frM_f (by decide)
  obtain ⟨b1, b2, b3, b4⟩ := E_X12_image_7 n 0 (mS_fr M f1 (by decide) (by decide)) rfl (by omega) hf
  refine ⟨(frM_oi b2 (by decide) (by decide)).trans (by rw [o1, oi_eq]), b4, fun j hj => ?_, frM_tr (frM_le f1 (by decide) (by decide)) (frM_le b2 (by decide) (by decide)), b3.trans z1⟩
  rw [b1 j, if_pos (by omega)]
  exact congrFun (wl_f f1 (by decide)) j
/-- acts left alone but for cells that no act holds -/
theorem slot_k2 {x z z2 : Nat} {O O2 : jO} (fr : ∀ a k : Nat, (a = x + 20 ∨ a = x + 45 ∨ (a = x + 13 ∧ k = 7) ∨ ∃ s b : Nat, s < 12 ∧ O (x + 20) s = .ref b ∧ b ≤ a ∧ a ≤ b + 6) → O2 a k = O a k) (hz : z ≤ z2) (S : slotE O z x) (P : apartE O x) : slotE O2 z2 x ∧ apartE O2 x := by
  refine ⟨fun s hs => ?_, fun s t b c hs ht ne e1 e2 => ?_⟩
  · rw [fr _ _ (Or.inl rfl)]
    rcases S s hs with w | ⟨c, w, w1, w2, w3⟩
    · exact Or.inl w
    · exact Or.inr ⟨c, w, rodS_fr w1 (fun k => fr _ _ (Or.inr (Or.inr (Or.inr ⟨s, c, hs, w, by omega, by omega⟩)))) (fr _ _ (Or.inr (Or.inr (Or.inr ⟨s, c, hs, w, by omega, by omega⟩)))), w2, by omega⟩
  · rw [fr _ _ (Or.inl rfl)] at e1 e2
    exact P s t b c hs ht ne e1 e2
theorem act_k2 {x r nx : Nat} {O O2 : jO} (fr : ∀ a k : Nat, (a = x + 20 ∨ a = x + 45 ∨ (a = x + 13 ∧ k = 7) ∨ ∃ s b : Nat, s < 12 ∧ O (x + 20) s = .ref b ∧ b ≤ a ∧ a ≤ b + 6) → O2 a k = O a k) (A : actE O x (x + 40) r nx) : actE O2 x (x + 40) r nx := by
  intro j hj
  obtain ⟨c, V, a1, a2, a3, a4, a5⟩ := A j hj
  refine ⟨c, V, (fr _ _ (Or.inl rfl)).trans a1, rodE_fr a2 (fun a k h1 h2 => fr _ _ (Or.inr (Or.inr (Or.inr ⟨_, c, Nat.mod_lt _ (by decide), a1, h1, h2⟩)))), a3, fun k hk => (a4 k hk).trans ?_, a5.trans ?_⟩
  · unfold oi
    rw [fr _ _ (Or.inr (Or.inl rfl))]
  · unfold oi
    rw [fr _ _ (Or.inr (Or.inr (Or.inl ⟨rfl, rfl⟩)))]
theorem eq_image {x nx r L n : Nat} {W : jWd} {h q p : jH} (E : eqS x nx r L W h) (e1 : F_X11_image n x h = some q) (e2 : F_X12_image n (x + 40) q = some p) : eqS x nx r L W p ∧ oi (oc p) (x + 40) 0 = 0 := by
  obtain ⟨⟨x0, x1, x3, x8, x36, x19, ⟨t0, t1, t2, t3⟩, s1, s2, s3, s4, s5, s8, s15, s17, s19, s20, s21⟩, ⟨n1, n2, n3, n4, n5, n6, S, P, A⟩, ⟨R, hw, K, LE, LK, LB⟩, ⟨l1, l2, l3, l4, I⟩⟩ := E
  obtain ⟨I0, If, I⟩ := I
  obtain ⟨kr, kl, A0, sc⟩ : ∃ kr kl : Nat, kp0 (oc h) h.1 x kr kl ∧ ∀ s b : Nat, s < 12 → oc h (x + 20) s = .ref b → b + 6 < h.1 ∧ (b + 6 < kr ∨ kr + 6 < b) ∧ (b + 6 < kl ∨ kl + 5 < b) := by
    have sb : ∀ s b : Nat, s < 12 → oc h (x + 20) s = .ref b → b + 6 < h.1 := fun s b hs e => by
      rcases S s hs with q | ⟨c, q, q1, q2, q3⟩
      · rw [q] at e; cases e
      · rw [q] at e; cases e; exact q3
    rcases I with ⟨a1, a2, -⟩ | ⟨kr, kl, ⟨a1, a2, -⟩, ⟨b1, b2, -, -, -⟩, ⟨c1, c2, c3, c4, c5⟩, d⟩
    · exact ⟨h.1, h.1 + 7, Or.inl ⟨a1, a2, rfl, rfl⟩, fun s b hs e => by have := sb s b hs e; omega⟩
    · exact ⟨kr, kl, Or.inr ⟨a1, a2, b1.1, b2.1, c1, c2, c3, c4, c5⟩, fun s b hs e => ⟨sb s b hs e, d s b hs e⟩⟩
  obtain ⟨c1, c2, c3, c4, c5, c6, c7⟩ := E_X11_image x1 I0.1.1 R K LE n6 A0 e1
  have f1 : ∀ a k : Nat, a ≤ x + 52 → ¬ (a = x ∧ (k = 10 ∨ k = 11)) → oc q a k = oc h a k := fun a k z1 z2 => c6 a k (by omega) z2 (by omega) (by omega)
  have M2 : mS (oc q) (x + 40) := ⟨(f1 _ _ (by omega) (by omega)).trans s1, (f1 _ _ (by omega) (by omega)).trans s2, (f1 _ _ (by omega) (by omega)).trans s3, (f1 _ _ (by omega) (by omega)).trans s4, (f1 _ _ (by omega) (by omega)).trans s5, (f1 _ _ (by omega) (by omega)).trans s8, (f1 _ _ (by omega) (by omega)).trans s15, (f1 _ _ (by omega) (by omega)).trans s17, (f1 _ _ (by omega) (by omega)).trans s19, (f1 _ _ (by omega) (by omega)).trans s20, (f1 _ _ (by omega) (by omega)).trans s21⟩
  obtain ⟨d0, d6, dw, df, dz⟩ := E_X12_image M2 e2
  have f2 : ∀ a k : Nat, a ≠ x + 42 → ¬ (a = x + 40 ∧ (k = 0 ∨ k = 6)) → oc p a k = oc q a k := fun a k u1 u2 => df a k (fun c hc z => by simp at hc; omega) (fun z y => u2 ⟨z, by simpa using y⟩)
  have f : ∀ a k : Nat, a ≤ x + 52 → a ≠ x + 42 → ¬ (a = x ∧ (k = 10 ∨ k = 11)) → ¬ (a = x + 40 ∧ (k = 0 ∨ k = 6)) → oc p a k = oc h a k := fun a k u1 u2 u3 u4 => (f2 a k u2 u4).trans (f1 a k u1 u3)
  have g : ∀ a k : Nat, a ≤ x + 52 → a ≠ x + 42 → ¬ (a = x ∧ (k = 10 ∨ k = 11)) → ¬ (a = x + 40 ∧ (k = 0 ∨ k = 6)) → oi (oc p) a k = oi (oc h) a k := fun a k u1 u2 u3 u4 => by unfold oi; rw [f a k u1 u2 u3 u4]
  have fa : ∀ a k : Nat, (a = x + 20 ∨ a = x + 45 ∨ (a = x + 13 ∧ k = 7) ∨ ∃ s b : Nat, s < 12 ∧ oc h (x + 20) s = .ref b ∧ b ≤ a ∧ a ≤ b + 6) → oc p a k = oc h a k := fun a k z => by
    rcases z with z | z | z | ⟨s, b, hs, e, z1, z2⟩
    · exact f a k (by omega) (by omega) (by omega) (by omega)
    · exact f a k (by omega) (by omega) (by omega) (by omega)
    · exact f a k (by omega) (by omega) (by omega) (by omega)
    · have y := sc s b hs e
      have lb : x + 52 < b := by
        rcases S s hs with q | ⟨c, q, q1, q2, q3⟩
        · rw [q] at e; cases e
        · rw [q] at e; cases e; exact q2
      exact (f2 a k (by omega) (by omega)).trans (c6 a k (by omega) (by omega) (by omega) (by omega))
  obtain ⟨q1, q2⟩ := slot_k2 (O2 := oc p) (z2 := p.1) fa (by omega) S P
  have q3 := act_k2 (O2 := oc p) fa A
  have wq : wl (oc q) (x + 40) = W := by
    rw [← hw]; funext k
    show oi (oc q) (x + 41) k = oi (oc h) (x + 41) k
    unfold oi; rw [f1 _ _ (by omega) (by omega)]
  have wp : wl (oc p) (x + 40) = W := (wl_f df (by decide)).trans wq
  have S3 : rdrS (oc p) x := rdrS_fr I0 (fun a k z => f a k (by omega) (by omega) (by omega) (by omega))
  have F3 : oi (oc p) x 12 = oi (oc p) (x + 40) 14 := by rw [g _ _ (by omega) (by omega) (by omega) (by omega), g _ _ (by omega) (by omega) (by omega) (by omega)]; exact If
  have ei : ∀ k, k < 1284 → iwl (oc p) x k = W k := fun k hk => (dw k hk).trans (congrFun wq k)
  have kk : kptE (oc p) p.1 x kr kl := by
    have L9 : lawE (oc p) kl (iwl (oc p) x) := lawE_cb (lawE_fr c4 (fun a k u1 u2 _ => f2 a k (by omega) (by omega))) ei
    exact ⟨⟨(f2 _ _ (by omega) (by omega)).trans c1, (f2 _ _ (by omega) (by omega)).trans c2, d6⟩, ⟨rodE_cg (rodE_fr c3 (fun a k u1 u2 => f2 a k (by omega) (by omega))) K (fun k hk => ei k (by omega)), L9, wOK_cg K (fun k hk => ei k (by omega)), lawK_of L9, lawB_of L9⟩, by omega, fun s b hs e => (sc s b hs (by rw [← fa (x + 20) s (Or.inl rfl)]; exact e)).2⟩
  have q4 : oi (oc p) (x + 40) 7 = nI r := by rw [g _ _ (by omega) (by omega) (by omega) (by omega)]; exact n4
  refine ⟨⟨⟨?_, ?_, ?_, ?_, ?_, ?_, ⟨?_, ?_, ?_, ?_⟩, mS_fr M2 df (by decide) (by decide)⟩, ⟨?_, n2, ?_, q4, n5, by omega, q1, q2, q3⟩, ⟨rodE_fr R (fun a k u1 u2 => f a k (by omega) (by omega) (by omega) (by omega)), wp, K, lawE_fr LE (fun a k u1 u2 _ => f a k (by omega) (by omega) (by omega) (by omega)), LK, LB⟩, ⟨?_, ?_, l3, fun i hi => ?_, S3, F3, Or.inr ⟨kr, kl, kk⟩⟩⟩, d0⟩
  · exact (f _ _ (by omega) (by omega) (by omega) (by omega)).trans x0
  · exact (f _ _ (by omega) (by omega) (by omega) (by omega)).trans x1
  · exact (f _ _ (by omega) (by omega) (by omega) (by omega)).trans x3
  · exact (f _ _ (by omega) (by omega) (by omega) (by omega)).trans x8
  · exact (f _ _ (by omega) (by omega) (by omega) (by omega)).trans x36
  · exact (f _ _ (by omega) (by omega) (by omega) (by omega)).trans x19
  · exact (f _ _ (by omega) (by omega) (by omega) (by omega)).trans t0
  · exact (f _ _ (by omega) (by omega) (by omega) (by omega)).trans t1
  · exact (f _ _ (by omega) (by omega) (by omega) (by omega)).trans t2
  · exact (f _ _ (by omega) (by omega) (by omega) (by omega)).trans t3
  · exact (g _ _ (by omega) (by omega) (by omega) (by omega)).trans n1
  · rw [g _ _ (by omega) (by omega) (by omega) (by omega)]; exact n3
  · exact (g _ _ (by omega) (by omega) (by omega) (by omega)).trans l1
  · exact (g _ _ (by omega) (by omega) (by omega) (by omega)).trans l2
  · rw [g (x + 2) i (by omega) (by omega) (by omega) (by omega), g (x + 46) i (by omega) (by omega) (by omega) (by omega)]
    exact l4 i hi
end
section
/-! back keeps the relation -/
theorem E_X12_back {n a0 : Nat} {h : jH} {q : Int32 × jH} (M : mS (oc h) a0) (hf : F_X12_back n a0 h = some q) : (oi (oc h) a0 6 = 0 ∧ q.1 = 0 ∧ rTh a0 0 h q.2) ∨ (oi (oc h) a0 6 ≠ 0 ∧ q.1 = 1 ∧ oi (oc q.2) a0 0 = 0 ∧ oi (oc q.2) a0 7 = 0 ∧ (∀ j, wl (oc q.2) a0 j = if j < 1284 then oi (oc h) (a0 + 2) j else wl (oc h) a0 j) ∧ frM a0 [1] [0, 7] (oc h) (oc q.2) ∧ q.2.1 = h.1) := by
  unfold F_X12_back at hf
  obtain ⟨h2, e1, hf⟩ := jbind hf
  obtain ⟨o1, z1⟩ := oc_pf e1
  have f1 : frM a0 [] [0] (oc h) (oc h2) := by rw [o1]; exact frM_f (by decide)
  have g0 : oi (oc h2) a0 0 = 0 := by rw [o1, oi_eq]
  obtain ⟨v6, e2, hf⟩ := jbind hf
  have r2 := oc_gI e2
  rw [frM_oi f1 (by decide) (by decide)] at r2
  subst r2
  rcases jite hf with ⟨c3, hf⟩ | ⟨c3, hf⟩
  · cases hf
    exact Or.inl ⟨c3, rfl, g0, f1, z1⟩
  · obtain ⟨b1, b2, b3, b4, b5⟩ := E_X12_back_16 n 0 (mS_fr M f1 (by decide) (by decide)) rfl (by omega) hf
    refine Or.inr ⟨c3, b5, (frM_oi b2 (by decide) (by decide)).trans g0, b4, fun j => ?_, frM_tr (frM_le f1 (by decide) (by decide)) (frM_le b2 (by decide) (by decide)), b3.trans z1⟩
    show oi (oc q.2) (a0 + 1) j = _
    rw [b1 j]
    by_cases y : j < 1284
    · rw [if_pos (by omega), if_pos y]
      exact oi_M f1 (by simp) (by omega)
    · rw [if_neg (by omega), if_neg y]
      exact congrFun (wl_f f1 (by decide)) j
theorem E_X11_back_0 {n x : Nat} {h : jH} {q : Int32 × jH} (X10 : oc h x 10 = .null) (hf : F_X11_back n x h = some q) : q = (0, h) := by
  unfold F_X11_back at hf
  obtain ⟨o1, e1, hf⟩ := jbind hf
  have r1 := oc_gQ e1
  rw [X10] at r1
  cases va_n r1
  cases hf
  rfl
theorem E_X11_back_1 {n x kr kl : Nat} {V : jWd} {h : jH} {q : Int32 × jH} (X1 : oc h x 1 = .ref (x + 6)) (X2 : oc h x 2 = .ref (x + 13)) (X3 : oc h x 3 = .ref (x + 19)) (X10 : oc h x 10 = .ref kr) (X11 : oc h x 11 = .ref kl) (R : rodE (oc h) kr V) (K : wOK V) (LE : lawE (oc h) kl V) (sr : rodS (oc h) (x + 6)) (sl : lawS (oc h) (x + 13))
    (ap : x + 52 < kr ∧ x + 52 < kl) (hf : F_X11_back n x h = some q) : q.1 = 1 ∧ rodE (oc q.2) (x + 6) V ∧ lawE (oc q.2) (x + 13) V ∧ oi (oc q.2) (x + 19) 2 = 0 ∧ (∀ a k : Nat, ¬ (x + 6 ≤ a ∧ a ≤ x + 18) → ¬ (a = x + 19 ∧ k = 2) → oc q.2 a k = oc h a k) ∧ q.2.1 = h.1 := by
  unfold F_X11_back at hf
  obtain ⟨o1, e1, hf⟩ := jbind hf
  have r1 := oc_gQ e1
  rw [X10] at r1
  cases va_r r1
  dsimp only at hf
  obtain ⟨o8, e2, hf⟩ := jbind hf
  have r2 := oc_gQ e2
  rw [X11] at r2
  cases va_r r2
  dsimp only at hf
  obtain ⟨p17, e3, hf⟩ := jbind hf
  have r3 := oc_gR e3
  rw [X1] at r3
  cases r3
  obtain ⟨o21, e4, hf⟩ := jbind hf
  have r4 := oc_gQ e4
  rw [X10] at r4
  cases va_r r4
  dsimp only at hf
  obtain ⟨h24, e5, hf⟩ := jbind hf
  obtain ⟨R5, f5, z5⟩ := E_X8_copyFrom (d := x + 6) (r := kr) rfl rfl (by omega) sr R K (jcv_o e5).2
  obtain ⟨p28, e6, hf⟩ := jbind hf
  have r6 := oc_gR e6
  rw [f5 _ _ (by omega), X2] at r6
  cases r6
  obtain ⟨o32, e7, hf⟩ := jbind hf
  have r7 := oc_gQ e7
  rw [f5 _ _ (by omega), X11] at r7
  cases va_r r7
  dsimp only at hf
  obtain ⟨h35, e8, hf⟩ := jbind hf
  have S6 : lawS (oc h24) (x + 13) := by
    obtain ⟨s0, s1, s2, s3, s4⟩ := sl
    exact ⟨(f5 _ _ (by omega)).trans s0, (f5 _ _ (by omega)).trans s1, (f5 _ _ (by omega)).trans s2, (f5 _ _ (by omega)).trans s3, (f5 _ _ (by omega)).trans s4⟩
  obtain ⟨R8, f8, z8⟩ := E_X2_copyFrom (d := x + 13) (r := kl) rfl rfl (by omega) S6 (lawE_fr LE (fun a k h1 h2 _ => f5 a k (by omega))) (jcv_o e8).2
  obtain ⟨p39, e9, hf⟩ := jbind hf
  have r9 := oc_gR e9
  rw [f8 _ _ (by omega), f5 _ _ (by omega), X3] at r9
  cases r9
  obtain ⟨h42, e10, hf⟩ := jbind hf
  obtain ⟨o10, z10⟩ := E_X0_forget (jcv_o e10).2
  cases hf
  have g19 : oi (oc h42) (x + 19) 2 = 0 := by rw [o10, oi_eq]
  exact ⟨rfl, rodE_fr R5 (fun a k h1 h2 => by show oc h42 _ _ = _; rw [o10, u2_ne (by omega)]; exact f8 a k (by omega)), lawE_fr R8 (fun a k h1 h2 _ => by show oc h42 _ _ = _; rw [o10, u2_ne (by omega)]), g19, fun a k h1 h2 => by show oc h42 _ _ = _; rw [o10, u2_ne (by omega), f8 a k (by omega)]; exact f5 a k (by omega), z10.trans (z8.trans z5)⟩
theorem eq_back {x nx r L n : Nat} {W : jWd} {h : jH} {q p : Int32 × jH} (E : eqS x nx r L W h) (e1 : F_X11_back n x h = some q) (e2 : F_X12_back n (x + 40) q.2 = some p) : (∃ r2 W2, eqS x nx r2 L W2 p.2) ∧ q.1 = p.1 ∧ oi (oc p.2) (x + 40) 0 = 0 := by
  obtain ⟨⟨x0, x1, x3, -, -, -, -, M⟩, ⟨n1, n2, n3, n4, n5, n6, -, -, -⟩, ⟨R, hw, K, LE, LK, LB⟩, ⟨l1, l2, l3, l4, I0, If, I⟩⟩ := id E
  rcases I with ⟨a1, a2, a3⟩ | ⟨kr, kl, ⟨a1, a2, a3⟩, ⟨b1, b2, b3, b4, b5⟩, ⟨c1, c2, c3, c4, c5⟩, d⟩
  · have y := E_X11_back_0 a1 e1
    rw [y] at e2
    rcases E_X12_back M e2 with ⟨-, y2, T⟩ | ⟨y2, -⟩
    · exact ⟨⟨r, W, eq_thr E T⟩, by rw [y, y2], T.1⟩
    · exact absurd a3 y2
  · obtain ⟨y1, yR, yL, y19, yf, yz⟩ := E_X11_back_1 x1 I0.1.1 x3 a1 a2 b1 b3 b2 R.1 LE.1 ⟨c1, c3⟩ e1
    have k2 : ∀ a k : Nat, x + 20 ≤ a → oc q.2 a k = oc h a k := fun a k z => yf a k (by omega) (by omega)
    have ki : ∀ a k : Nat, x + 20 ≤ a → oi (oc q.2) a k = oi (oc h) a k := fun a k z => by unfold oi; rw [k2 a k z]
    have M2 : mS (oc q.2) (x + 40) := by
      obtain ⟨s1, s2, s3, s4, s5, s8, s15, s17, s19, s20, s21⟩ := M
      have k3 : ∀ k, oc q.2 (x + 40) k = oc h (x + 40) k := fun k => k2 _ k (by omega)
      exact ⟨(k3 _).trans s1, (k3 _).trans s2, (k3 _).trans s3, (k3 _).trans s4, (k3 _).trans s5, (k3 _).trans s8, (k3 _).trans s15, (k3 _).trans s17, (k3 _).trans s19, (k3 _).trans s20, (k3 _).trans s21⟩
    rcases E_X12_back M2 e2 with ⟨y2, -⟩ | ⟨-, w, w0, w7, ww, wf, wz⟩
    · exfalso
      rw [ki _ _ (by omega), a3] at y2
      exact absurd y2 (by decide)
    · have fr : ∀ a k : Nat, a ≠ x + 41 → ¬ (a = x + 40 ∧ (k = 0 ∨ k = 7)) → oc p.2 a k = oc q.2 a k := fun a k u1 u2 => wf a k (fun c hc z => by simp at hc; omega) (fun z y => u2 ⟨z, by simpa using y⟩)
      have fi : ∀ a k : Nat, a ≠ x + 41 → ¬ (a = x + 40 ∧ (k = 0 ∨ k = 7)) → oi (oc p.2) a k = oi (oc q.2) a k := fun a k u1 u2 => by unfold oi; rw [fr a k u1 u2]
      have F : ∀ a k : Nat, ¬ txc x a k → oc p.2 a k = oc h a k := fun a k z => by
        unfold txc at z
        exact (fr a k (by omega) (by omega)).trans (yf a k (by omega) (by omega))
      have ei : ∀ k, k < 1284 → wl (oc p.2) (x + 40) k = iwl (oc h) x k := fun k hk => by
        rw [ww k, if_pos hk]
        exact ki (x + 42) k (by omega)
      have L9 : lawE (oc p.2) (x + 13) (wl (oc p.2) (x + 40)) := lawE_cb (lawE_fr yL (fun a k u1 u2 _ => fr a k (by omega) (by omega))) ei
      have fh : ∀ a k : Nat, a = x ∨ a = x + 1 ∨ (x + 21 ≤ a ∧ a ≤ x + 39) ∨ (a = x + 40 ∧ (k = 9 ∨ k = 14)) → oc p.2 a k = oc h a k := fun a k z => (fr a k (by omega) (by omega)).trans (yf a k (by omega) (by omega))
      have gh : ∀ a k : Nat, a = x ∨ a = x + 1 ∨ (x + 21 ≤ a ∧ a ≤ x + 39) ∨ (a = x + 40 ∧ (k = 9 ∨ k = 14)) → oi (oc p.2) a k = oi (oc h) a k := fun a k z => by unfold oi; rw [fh a k z]
      have I9 : rdrS (oc p.2) x := rdrS_fr I0 (fun a k z => fh a k (by omega))
      refine ⟨⟨0, _, eq_bld E F (wz.trans yz) (Or.inl ⟨rfl, (fi _ _ (by omega) (by omega)).trans y19, w7⟩) ⟨rodE_cg (rodE_fr yR (fun a k u1 u2 => fr a k (by omega) (by omega))) b3 (fun k hk => ei k (by omega)), rfl, wOK_cg b3 (fun k hk => ei k (by omega)), L9, lawK_of L9, lawB_of L9⟩ ⟨(gh _ _ (by omega)).trans l1, (gh _ _ (by omega)).trans l2, l3⟩ I9.2.2.2.2 ?_⟩, by rw [y1, w], w0⟩
      rw [gh _ _ (by omega), gh _ _ (by omega)]
      exact If
end
