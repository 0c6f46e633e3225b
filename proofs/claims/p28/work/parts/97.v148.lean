/-! law, the reference: what comes of the lines -/
theorem emW_lo {k : Nat} : ∀ (l : List (Int32 × Int32)) (W : jWd) (s : Nat), k < 1333 → emW W s l k = W k
  | [], W, s, h => rfl
  | e :: t, W, s, h => by
    show emW _ (s + 1) t k = _
    rw [emW_lo t _ _ h, upd_ne (by omega), upd_ne (by omega)]
theorem lnW_lo {W : jWd} {n s k : Nat} {e : jLn} (h : k < 1285) : lnW W n s e k = W k := by
  unfold lnW
  rw [upd_ne (by omega), emW_lo _ _ _ (by omega), upd_ne (by omega), upd_ne (by omega), upd_ne (by omega)]
theorem fold_lo {k : Nat} (h : k < 1285) : ∀ (S : List jLn) (a : jWd × Nat × Nat), (S.foldl (fun a e => (lnW a.1 a.2.1 a.2.2 e, a.2.1 + 1, a.2.2 + e.2.length)) a).1 k = a.1 k
  | [], a => rfl
  | e :: S, a => by
    rw [List.foldl_cons, fold_lo h S]
    exact lnW_lo h
theorem lwS_lo {W0 : jWd} {S : List jLn} {k : Nat} (h : k < 1285) : (lwS W0 S).1 k = W0 k := fold_lo h S _
/-- the world behind a law's text of lines S -/
def lawW (W : jWd) (S : List jLn) : jWd := fun j => if j = 2 then 1 else if j = 435 then nI (lwS W S).2.1 else if 435 ≤ j ∧ j < 1284 then (lwS W S).1 (j + 849) else if j = 1284 then nI (lwS W S).2.1 else (lwS W S).1 j
theorem E_X12_law_52 {n : Nat} : ∀ (k : Nat) {a0 : Nat} {x1 : Int32} {x2 : Int32} {h : jH} {q : Int32 × jH} (t : Nat) (M : mS (oc h) a0) (hx : x2 = nI t) (ht : t ≤ 849), F_X12_law_52 n k a0 x1 x2 h = some q → (∀ j, wl (oc q.2) a0 j = if j = 2 then 1 else if 435 + t ≤ j ∧ j < 1284 then wl (oc h) a0 (j + 849) else wl (oc h) a0 j) ∧ oi (oc q.2) a0 7 = 0 ∧ q.1 = x1 ∧ frM a0 [1] [7] (oc h) (oc q.2) ∧ q.2.1 = h.1
  | 0, a0, x1, x2, h, q, t, M, hx, ht, hf => by cases hf
  | k + 1, a0, x1, x2, h, q, t, M, hx, ht, hf => by
    replace hf : F_X12_law_52_b n (F_X12_law_52 n k) a0 x1 x2 h = some q := hf
    unfold F_X12_law_52_b at hf
    obtain ⟨s1, s2, s3, s4, s5, s8, s15, s17, s19, s20, s21⟩ := id M
    subst hx
    have lN : (849 : Int32).toInt = 849 := rfl
    replace hf := jite hf
    rcases hf with ⟨c1, hf⟩ | ⟨c1, hf⟩
    · skip
      replace hf := jbind hf
      obtain ⟨p86, e2, hf⟩ := hf
      have r2 := oc_gR e2
      rw [s1] at r2
      cases r2
      clear e2
      replace hf := jbind hf
      obtain ⟨h91, e3, hf⟩ := hf
      obtain ⟨o3, z3, y3⟩ := oc_as e3
      rw [jnar0] at o3
      rw [show (2 : Int32).toNatClampNeg = 2 from rfl] at o3
      clear e3
      replace hf := jbind hf
      obtain ⟨h94, e4, hf⟩ := hf
      obtain ⟨o4, z4⟩ := oc_pf e4
      clear e4
      cases hf
      -- leaf 0: (x1, h94)
      rw [Int32.le_iff_toInt_le, nI_toInt (by omega)] at c1
      have f : frM a0 [1] [7] (oc h) (oc h94) := by rw [o4, o3]; exact frM_tr (frM_c (by decide)) (frM_f (by decide))
      have w : wl (oc h94) a0 = upd (wl (oc h) a0) 2 1 := by rw [o4, wl_n (by omega), o3, wl_w]
      have g7 : oi (oc h94) a0 7 = 0 := by rw [o4, oi_eq]
      refine ⟨fun j => ?_, g7, rfl, f, z4.trans z3⟩
      show wl (oc h94) a0 j = _
      rw [w]
      by_cases y : j = 2
      · rw [y, upd_eq, if_pos rfl]
      · rw [upd_ne y, if_neg y, if_neg (by omega)]
    · skip
      replace hf := jbind hf
      obtain ⟨p60, e5, hf⟩ := hf
      have r5 := oc_gR e5
      rw [s1] at r5
      cases r5
      clear e5
      replace hf := jbind hf
      obtain ⟨p69, e6, hf⟩ := hf
      have r6 := oc_gR e6
      rw [s1] at r6
      cases r6
      clear e6
      replace hf := jbind hf
      obtain ⟨v77, e7, hf⟩ := hf
      obtain ⟨r7, y7⟩ := oc_al e7
      subst r7
      clear e7
      replace hf := jbind hf
      obtain ⟨h78, e8, hf⟩ := hf
      obtain ⟨o8, z8, y8⟩ := oc_as e8
      rw [jnar0] at o8
      clear e8
      -- leaf 1: rc52 a0 x1 (x2 + (1 : Int32)) h78
      rw [Int32.le_iff_toInt_le, nI_toInt (by omega)] at c1
      have e1 : (435 : Int32) + nI t = nI (435 + t) := nI_add 435 t
      have e2 : (1284 : Int32) + nI t = nI (1284 + t) := nI_add 1284 t
      rw [e1, e2, nI_cl (show 435 + t < 2147483648 by omega), nI_cl (show 1284 + t < 2147483648 by omega)] at o8
      have f8 : frM a0 [1] [7] (oc h) (oc h78) := by rw [o8]; exact frM_c (by decide)
      have w8 : wl (oc h78) a0 = upd (wl (oc h) a0) (435 + t) (wl (oc h) a0 (1284 + t)) := by rw [o8, wl_w]
      obtain ⟨a1, a2, a3, a4, a5⟩ := E_X12_law_52 k (t + 1) (mS_fr M f8 (by decide) (by decide)) (nI_1 t) (by omega) hf
      refine ⟨fun j => ?_, a2, a3, frM_tr f8 a4, a5.trans z8⟩
      rw [a1 j, w8]
      by_cases y : j = 2
      · rw [if_pos y, if_pos y]
      rw [if_neg y, if_neg y]
      by_cases y1 : j = 435 + t
      · rw [if_neg (by omega), if_pos (by omega), y1, upd_eq, show 435 + t + 849 = 1284 + t by omega]
      · by_cases y2 : 435 + t ≤ j ∧ j < 1284
        · rw [if_pos (by omega), if_pos y2, upd_ne (by omega)]
        · rw [if_neg (by omega), if_neg y2, upd_ne y1]
theorem E_X12_law_32 {W : jWd} {j : Nat} {n : Nat} {a0 : Nat} {x1 : Int32} {sa0 : Nat} {s1 : Int32} {h : jH} {q : Int32 × jH} (hs : a0 = sa0) (h01 : s1 = 0 ∨ s1 = 1) (M : mS (oc h) a0) (hW : wl (oc h) a0 = W) (z0 : oi (oc h) a0 0 = 0) (hf : F_X12_law_32 n a0 x1 sa0 s1 h = some q) : (s1 = 1 ∧ q.1 = 0 ∧ rTh a0 1 h q.2) ∨ (s1 = 0 ∧ q.1 = x1 ∧ (∀ j, wl (oc q.2) a0 j = if j = 2 then 1 else if j = 435 then x1 else if 435 ≤ j ∧ j < 1284 then W (j + 849) else if j = 1284 then x1 else W j) ∧ oi (oc q.2) a0 7 = 0 ∧ oi (oc q.2) a0 0 = 0 ∧ frM a0 [1] [7] (oc h) (oc q.2) ∧ q.2.1 = h.1) := by
  unfold F_X12_law_32 at hf
  subst hs
  replace hf := jbind hf
  obtain ⟨q33, e1, hf⟩ := hf
  replace e1 := (jcv_o e1).2
  have r1 := E_X12_throwsIf h01 e1
  have M1 : mS (oc q33.2) a0 := by rcases r1 with ⟨-, -, e0⟩ | ⟨-, -, T⟩; rw [e0]; exact M; exact mS_fr M T.2.1 (by decide) (by decide)
  replace hf := jite hf
  rcases hf with ⟨c2, hf⟩ | ⟨c2, hf⟩
  · skip
    replace hf := jbind hf
    obtain ⟨p42, e3, hf⟩ := hf
    have r3 := oc_gR e3
    rw [M1.1] at r3
    cases r3
    clear e3
    replace hf := jbind hf
    obtain ⟨h49, e4, hf⟩ := hf
    obtain ⟨o4, z4, y4⟩ := oc_as e4
    rw [jnar0] at o4
    rw [show (1284 : Int32).toNatClampNeg = 1284 from rfl] at o4
    clear e4
    -- leaf 0: F_X12_law_52 n n a0 x1 (0 : Int32) h49
    rcases r1 with ⟨s0, -, e0⟩ | ⟨-, y, -⟩
    rotate_left
    · exact absurd (y.symm.trans c2) (by decide)
    rw [e0] at o4 z4
    have f4 : frM a0 [1] [] (oc h) (oc h49) := by rw [o4]; exact frM_c (by decide)
    have w4 : wl (oc h49) a0 = upd W 1284 x1 := by rw [o4, wl_w, hW]
    obtain ⟨a1, a2, a3, a4, a5⟩ := E_X12_law_52 n 0 (mS_fr M f4 (by decide) (by decide)) rfl (by omega) hf
    refine Or.inr ⟨s0, a3, fun j => ?_, a2, (frM_oi a4 (by decide) (by decide)).trans ((frM_oi f4 (by decide) (by decide)).trans z0), frM_tr (frM_le f4 (by decide) (by decide)) a4, a5.trans z4⟩
    rw [a1 j, w4]
    by_cases y : j = 2
    · rw [if_pos y, if_pos y]
    rw [if_neg y, if_neg y]
    by_cases y1 : j = 435
    · rw [if_pos (by omega), if_pos y1, y1, upd_eq]
    rw [if_neg y1]
    by_cases y2 : 435 ≤ j ∧ j < 1284
    · rw [if_pos (by omega), if_pos y2, upd_ne (by omega)]
    rw [if_neg (by omega), if_neg y2]
    by_cases y3 : j = 1284
    · rw [if_pos y3, y3, upd_eq]
    · rw [if_neg y3, upd_ne y3]
  · skip
    cases hf
    -- leaf 1: ((0 : Int32), q33.2)
    rcases r1 with ⟨-, y, -⟩ | ⟨s0, -, T⟩
    · exact absurd y c2
    exact Or.inl ⟨s0, rfl, T⟩
theorem E_X12_law {b : Nat → Int32} {L : Nat} {m : Nat} {T : Nat → Int32 × Int32} {st : Nat → Nat} {en : Nat → Nat} {W : jWd} {n : Nat} {a0 : Nat} {h : jH} {q : Int32 × jH} (H : tkE b L m T st en) (M : mS (oc h) a0) (hW : wl (oc h) a0 = W) (h9 : oi (oc h) a0 9 = nI L) (hb : ∀ i, oi (oc h) (a0 + 6) i = b i) (hm4 : m ≤ 400) (hf : F_X12_law n a0 h = some q) : (∀ f, (if (T 0).1 = -1 then .inl [] else rdLines (rdLaw T) T 12 [] 0) = .inr f → q.1 = 0 ∧ oi (oc q.2) a0 0 = 1 ∧ oi (oc q.2) a0 14 = nI (st f) ∧ oi (oc q.2) a0 7 = oi (oc h) a0 7 ∧ ∀ j, j < 1284 → wl (oc q.2) a0 j = W j) ∧ (∀ S, (if (T 0).1 = -1 then .inl [] else rdLines (rdLaw T) T 12 [] 0) = .inl S → q.1 = nI (lwS W S).2.1 ∧ (lwS W S).2.1 ≤ 12 ∧ oi (oc q.2) a0 0 = 0 ∧ oi (oc q.2) a0 14 = -1 ∧ oi (oc q.2) a0 7 = 0 ∧ wl (oc q.2) a0 = lawW W S) ∧ oi (oc q.2) a0 9 = 0 ∧ frM a0 [1] [0, 7, 9, 10, 11, 12, 13, 14, 16] (oc h) (oc q.2) ∧ q.2.1 = h.1 := by
  unfold F_X12_law at hf
  replace hf := jbind hf
  obtain ⟨q2, e1, hf⟩ := hf
  replace e1 := (jcv_o e1).2
  obtain ⟨A1, A2, A0, A9, ⟨Af, AZ⟩, Az⟩ := E_X12_readAll (N := 12) (Z := 1284) (cs := [1]) (fs := [10, 12, 13, 16]) (W := ([] : List jLn)) (by decide) (by decide) (by decide) H (lawHL (W0 := W) H hm4) lawHP M h9 hb (fun O f g => ⟨by rw [wl_f f (by decide)]; exact hW, g, rfl, Nat.le_refl 0⟩) (by decide) (by decide) e1
  have M2 := mS_fr M Af (by decide) (by decide)
  have a7 : oi (oc q2.2) a0 7 = oi (oc h) a0 7 := frM_oi Af (by decide) (by decide)
  have RR : lsG (lawP a0 W) (oc q2.2) q2.1 a0 st 12 0 (if (T 0).1 = -1 then .inl [] else rdLines (rdLaw T) T 12 [] 0) := by
    split
    · rename_i z
      obtain ⟨y1, y2⟩ := A1 z
      exact lsG_l (k2 := 0) rfl ⟨Nat.le_refl 0, by omega, y1, y2⟩
    · rename_i z
      exact ⟨fun W2 y => by
        obtain ⟨j2, k2, b1, b2, b3, b4⟩ := (A2 z).1 W2 y
        exact ⟨j2, k2, by omega, b2, b3, b4⟩, (A2 z).2⟩
  replace hf := jite hf
  rcases hf with ⟨c2, hf⟩ | ⟨c2, hf⟩
  · skip
    replace hf := jbind hf
    obtain ⟨h19, e3, hf⟩ := hf
    obtain ⟨o3, z3⟩ := oc_pf e3
    clear e3
    replace hf := jite hf
    rcases hf with ⟨c4, hf⟩ | ⟨c4, hf⟩
    · skip
      -- leaf 00: F_X12_law_32 n a0 q2.1 a0 (0 : Int32) h19
      rcases hR : (if (T 0).1 = -1 then .inl [] else rdLines (rdLaw T) T 12 [] 0) with S | f
      rotate_left
      · exfalso
        have := (RR.2 f hR).1
        rw [Int32.le_iff_toInt_le, this] at c2
        exact absurd c2 (by decide)
      obtain ⟨j2, k2, -, l2, v2, w2, s2, n2, -⟩ := RR.1 S hR
      have fo : frM a0 [] [14] (oc q2.2) (oc h19) := by rw [o3]; exact frM_f (by decide)
      have M3 := mS_fr M2 fo (by decide) (by decide)
      have g0 : oi (oc h19) a0 0 = 0 := (frM_oi fo (by decide) (by decide)).trans A0
      have g9 : oi (oc h19) a0 9 = 0 := (frM_oi fo (by decide) (by decide)).trans A9
      have g7 : oi (oc h19) a0 7 = oi (oc h) a0 7 := (frM_oi fo (by decide) (by decide)).trans a7
      have gZ : ∀ j, j < 1284 → wl (oc h19) a0 j = W j := fun j hj => by rw [wl_f fo (by decide), ← hW]; exact AZ j hj
      have FF : frM a0 [1] [0, 7, 9, 10, 11, 12, 13, 14, 16] (oc h) (oc h19) := frM_tr (frM_le Af (by decide) (by decide)) (frM_le fo (by decide) (by decide))
      have g14 : oi (oc h19) a0 14 = -1 := by rw [o3, oi_eq]
      have w3 : wl (oc h19) a0 = (lwS W S).1 := (wl_f fo (by decide)).trans w2
      rcases E_X12_law_32 (j := 0) rfl (Or.inl rfl) M3 w3 g0 hf with ⟨y, -⟩ | ⟨-, v, tw, t7, t0, tf, tz⟩
      · exact absurd y (by decide)
      refine ⟨fun f y => (by rw [hR] at y; cases y), fun S2 y => ?_, (frM_oi tf (by decide) (by decide)).trans g9, frM_tr FF (frM_le tf (by decide) (by decide)), tz.trans (z3.trans Az)⟩
      rw [hR] at y
      cases y
      refine ⟨by rw [v, v2, n2], by omega, t0, (frM_oi tf (by decide) (by decide)).trans g14, t7, ?_⟩
      funext j
      rw [tw j]
      unfold lawW
      rw [v2, n2]
    · skip
      -- leaf 01: F_X12_law_32 n a0 q2.1 a0 (1 : Int32) h19
      exact absurd c2 c4
  · skip
    replace hf := jbind hf
    obtain ⟨v12, e5, hf⟩ := hf
    have r5 := oc_gI e5
    subst r5
    clear e5
    replace hf := jbind hf
    obtain ⟨h19, e6, hf⟩ := hf
    obtain ⟨o6, z6⟩ := oc_pf e6
    clear e6
    replace hf := jite hf
    rcases hf with ⟨c7, hf⟩ | ⟨c7, hf⟩
    · skip
      -- leaf 10: F_X12_law_32 n a0 q2.1 a0 (0 : Int32) h19
      exact absurd c7 c2
    · skip
      -- leaf 11: F_X12_law_32 n a0 q2.1 a0 (1 : Int32) h19
      rcases hR : (if (T 0).1 = -1 then .inl [] else rdLines (rdLaw T) T 12 [] 0) with S | f
      · exfalso
        obtain ⟨j2, k2, -, b2, b3, -⟩ := RR.1 S hR
        exact c2 (by rw [b3, Int32.le_iff_toInt_le, nI_toInt (by omega)]; have l0 : (0 : Int32).toInt = 0 := rfl; omega)
      obtain ⟨v1, g12⟩ := RR.2 f hR
      have fo : frM a0 [] [14] (oc q2.2) (oc h19) := by rw [o6]; exact frM_f (by decide)
      have M3 := mS_fr M2 fo (by decide) (by decide)
      have g0 : oi (oc h19) a0 0 = 0 := (frM_oi fo (by decide) (by decide)).trans A0
      have g9 : oi (oc h19) a0 9 = 0 := (frM_oi fo (by decide) (by decide)).trans A9
      have g7 : oi (oc h19) a0 7 = oi (oc h) a0 7 := (frM_oi fo (by decide) (by decide)).trans a7
      have gZ : ∀ j, j < 1284 → wl (oc h19) a0 j = W j := fun j hj => by rw [wl_f fo (by decide), ← hW]; exact AZ j hj
      have FF : frM a0 [1] [0, 7, 9, 10, 11, 12, 13, 14, 16] (oc h) (oc h19) := frM_tr (frM_le Af (by decide) (by decide)) (frM_le fo (by decide) (by decide))
      have g14 : oi (oc h19) a0 14 = nI (st f) := by rw [o6, oi_eq]; exact g12
      rcases E_X12_law_32 (j := 0) rfl (Or.inr rfl) M3 rfl g0 hf with ⟨-, v, T9⟩ | ⟨y, -⟩
      rotate_left
      · exact absurd y (by decide)
      obtain ⟨t0, tf, tz⟩ := T9
      exact ⟨fun f2 y => (by rw [hR] at y; cases y; exact ⟨v, t0, (frM_oi tf (by decide) (by decide)).trans g14, (frM_oi tf (by decide) (by decide)).trans g7, fun j hj => (congrFun (wl_f tf (by decide)) j).trans (gZ j hj)⟩), fun W3 y => (by rw [hR] at y; cases y), (frM_oi tf (by decide) (by decide)).trans g9, frM_tr FF (frM_le tf (by decide) (by decide)), tz.trans (z6.trans Az)⟩
