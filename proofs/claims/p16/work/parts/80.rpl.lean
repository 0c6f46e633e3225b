section
/-! a pull of the reference -/
theorem ncnt_s {W : jWd} {v : Int32} {i : Nat} : ncnt W v (i + 1) = ncnt W v i + if bt v i = true ∧ W (14 + 8 * i) ≠ 1 then 1 else 0 := rfl
theorem ncnt_c {W : jWd} {v : Int32} {c : Nat} (h : ∀ k, c ≤ k → k < 8 → bt v k = false) : ∀ m, c ≤ m → m ≤ 8 → ncnt W v c = ncnt W v m := by
  intro m
  induction m with
  | zero => intro a _; rw [show c = 0 by omega]
  | succ m ih =>
    intro a b
    by_cases q : c = m + 1
    · rw [q]
    · rw [ih (by omega) (by omega), ncnt_s, if_neg (fun z => absurd ((h m (by omega) (by omega)).symm.trans z.1) (by decide))]
      rfl
theorem nz_one {W : jWd} (K : wOK W) {s : Nat} (hs : s < 5000) : (if W 8 + nI s < (9999 : Int32) then W 8 + nI s else (9999 : Int32)) = nzc W s := by
  have k8 := K.2.2.2.2.2.2.2.2.1
  have e : (W 8 + nI s).toInt = (W 8).toInt + (s : Int) := by rw [jadd (by rw [nI_toInt (by omega)]; omega) (by rw [nI_toInt (by omega)]; omega), nI_toInt (by omega)]
  unfold nzc
  have l9 : (9999 : Int32).toInt = 9999 := rfl
  by_cases q : W 8 + nI s < (9999 : Int32)
  · rw [if_pos q, if_pos (by rw [Int32.lt_iff_toInt_lt, e, l9] at q; exact q)]
  · rw [if_neg q, if_neg (by rw [Int32.lt_iff_toInt_lt, e, l9] at q; exact q)]
theorem wOK_sg {W : jWd} {r : Nat} {d : Bool} (K : wOK W) (hr : (r : Int) < (W 0).toInt) (h : ∃ v, goB W r d v) : wOK (stW W (gv W r d) d 8) := by
  obtain ⟨v, hv⟩ := h
  rw [gv_of hv]
  exact wOK_st K hv hr
theorem frM_oi {m : Nat} {cs fs : List Nat} {O O2 : jO} (f : frM m cs fs O O2) {k : Nat} (hc : 0 ∉ cs) (hk : k ∉ fs) : oi O2 m k = oi O m k := by
  unfold oi
  rw [f m k (fun c h q => hc ((show c = 0 by omega) ▸ h)) (fun _ => hk)]
theorem E_X12_goesOne_52 {x : Nat} {t : Nat} {n : Nat} {rc10 : Nat → Int32 → Int32 → Int32 → jH → Option (Int32 × jH)} {a0 : Nat} {x2 : Int32} {x3 : Int32} {x4 : Int32} {sa0 : Nat} {s1 : Int32} {s2 : Int32} {s3 : Int32} {h : jH} {q : Int32 × jH} (M : mS (oc h) a0) (hs : sa0 = a0 + 1) (h1 : s1 = nI t) (ht : t = 11 + 8 * x) (x9 : x < 16) (h4 : x4 = nI x) (hf : F_X12_goesOne_52 n rc10 a0 x2 x3 x4 sa0 s1 s2 s3 h = some q) : ∃ h2 : jH, wl (oc h2) a0 = upd (wl (oc h) a0) t (s2 + s3) ∧ oi (oc h2) a0 18 = oi (oc h) a0 18 + (if wl (oc h) a0 (14 + 8 * x) = 1 then 0 else 1) ∧ frM a0 [1] [18] (oc h) (oc h2) ∧ h2.1 = h.1 ∧ rc10 a0 x2 x3 (x4 + (1 : Int32)) h2 = some q := by
  unfold F_X12_goesOne_52 at hf
  subst hs h1
  replace hf := jbind hf
  obtain ⟨h53, e1, hf⟩ := hf
  obtain ⟨o1, z1, y1⟩ := oc_as e1
  rw [jnar0] at o1
  clear e1
  replace hf := jbind hf
  obtain ⟨v56, e2, hf⟩ := hf
  have r2 := oc_gI e2
  rw [o1] at r2
  rw [oi_ne (Or.inl (by omega))] at r2
  subst r2
  clear e2
  replace hf := jbind hf
  obtain ⟨v63, e3, hf⟩ := hf
  replace e3 := (jcv_o e3).2
  rw [nI_cl (by omega)] at o1
  have f1 : frM a0 [1] [18] (oc h) (oc h53) := by rw [o1]; exact frM_c (by decide)
  have M1 : mS (oc h53) a0 := mS_fr M f1 (by decide) (by decide)
  have w1 : wl (oc h53) a0 = upd (wl (oc h) a0) t (s2 + s3) := by rw [o1]; exact wl_w
  have r3 := E_X12_is M1 (j := 3) (t := 14 + 8 * x) h4 rfl (by omega) (by omega) e3
  rw [w1, upd_ne (by omega)] at r3
  replace hf := jite hf
  rcases hf with ⟨c4, hf⟩ | ⟨c4, hf⟩
  · skip
    replace hf := jbind hf
    obtain ⟨h75, e5, hf⟩ := hf
    obtain ⟨o5, z5⟩ := oc_pf e5
    clear e5
    -- leaf 0: rc10 a0 x2 x3 (x4 + (1 : Int32)) h75
    have nw : ¬ wl (oc h) a0 (14 + 8 * x) = 1 := fun z => absurd (c4.symm.trans (r3.2.mpr z)) (by decide)
    refine ⟨h75, ?_, ?_, ?_, z5.trans z1, hf⟩
    · rw [o5, wl_n (by omega)]; exact w1
    · rw [o5, oi_eq, if_neg nw]
    · rw [o5]; exact frM_tr f1 (frM_f (by decide))
  · skip
    replace hf := jbind hf
    obtain ⟨h75, e6, hf⟩ := hf
    obtain ⟨o6, z6⟩ := oc_pf e6
    clear e6
    -- leaf 1: rc10 a0 x2 x3 (x4 + (1 : Int32)) h75
    have nw : wl (oc h) a0 (14 + 8 * x) = 1 := r3.2.mp (r3.1.resolve_left c4)
    refine ⟨h75, ?_, ?_, ?_, z6.trans z1, hf⟩
    · rw [o6, wl_n (by omega)]; exact w1
    · rw [o6, oi_eq, if_pos nw]
    · rw [o6]; exact frM_tr f1 (frM_f (by decide))
theorem E_X12_goesOne_10 {n : Nat} {W : jWd} {d : Bool} {S0 : Nat} (K : wOK W) : ∀ (k : Nat) {a0 : Nat} {x2 : Int32} {x3 : Int32} {x4 : Int32} {h : jH} {q : Int32 × jH} (x : Nat) (M : mS (oc h) a0) (hW : wl (oc h) a0 = stW W x3 d x) (hS : oi (oc h) a0 18 = nI (S0 + ncnt W x3 x)) (hd : x2 = dI d) (hx : x4 = nI x) (hl : (x : Int) ≤ (W 0).toInt), F_X12_goesOne_10 n k a0 x2 x3 x4 h = some q → q.1 = (if x3 = 0 then 0 else 1) ∧ wl (oc q.2) a0 = stW W x3 d (W 0).toInt.toNat ∧ oi (oc q.2) a0 18 = nI (S0 + ncnt W x3 (W 0).toInt.toNat) ∧ frM a0 [1] [18] (oc h) (oc q.2) ∧ q.2.1 = h.1
  | 0, a0, x2, x3, x4, h, q, x, M, hW, hS, hd, hx, hl, hf => by cases hf
  | k + 1, a0, x2, x3, x4, h, q, x, M, hW, hS, hd, hx, hl, hf => by
    replace hf : F_X12_goesOne_10_b n (F_X12_goesOne_10 n k) a0 x2 x3 x4 h = some q := hf
    unfold F_X12_goesOne_10_b at hf
    have K0 := K.1
    have e0 : wl (oc h) a0 0 = W 0 := by rw [hW]; exact stW_ot (by omega)
    obtain ⟨s1, s2, s3, s4, s5, s8, s15, s17, s19, s20, s21⟩ := id M
    replace hf := jbind hf
    obtain ⟨v13, e1, hf⟩ := hf
    replace e1 := (jcv_o e1).2
    have r1 := E_X12_rings M e1
    subst r1
    replace hf := jite hf
    rcases hf with ⟨c2, hf⟩ | ⟨c2, hf⟩
    · skip
      replace hf := jite hf
      rcases hf with ⟨c3, hf⟩ | ⟨c3, hf⟩
      · skip
        cases hf
        -- leaf 00: ((0 : Int32), h)
        rw [e0, hx, nI_eI (by omega)] at c2
        have ex : x = (W 0).toInt.toNat := by omega
        exact ⟨by rw [if_pos c3], by rw [← ex]; exact hW, by rw [← ex]; exact hS, frM_rfl, rfl⟩
      · skip
        cases hf
        -- leaf 01: ((1 : Int32), h)
        rw [e0, hx, nI_eI (by omega)] at c2
        have ex : x = (W 0).toInt.toNat := by omega
        exact ⟨by rw [if_neg c3], by rw [← ex]; exact hW, by rw [← ex]; exact hS, frM_rfl, rfl⟩
    · skip
      replace hf := jbind hf
      obtain ⟨v22, e4, hf⟩ := hf
      have r4 := E_X12_has hx (by omega) e4
      replace hf := jite hf
      rcases hf with ⟨c5, hf⟩ | ⟨c5, hf⟩
      · skip
        -- leaf 10: rc10 a0 x2 x3 (x4 + (1 : Int32)) h
        have x8 : (x : Int) < (W 0).toInt := by rw [e0, hx, nI_eI (by omega)] at c2; omega
        have bx : bt x3 x = false := by
          cases z : bt x3 x with
          | false => rfl
          | true => exact absurd (c5.symm.trans (r4.2.mpr z)) (by decide)
        exact E_X12_goesOne_10 K k (x + 1) M (by rw [hW, stW_n bx]) (by rw [hS]; rw [ncnt_s, if_neg (fun z => absurd (bx.symm.trans z.1) (by decide))]; rfl) hd (by rw [hx, nI_1]) (by omega) hf
      · skip
        replace hf := jbind hf
        obtain ⟨p32, e6, hf⟩ := hf
        have r6 := oc_gR e6
        rw [s1] at r6
        cases r6
        clear e6
        replace hf := jbind hf
        obtain ⟨v38, e7, hf⟩ := hf
        have r7 := E_X12_at (i := x) (j := 0) (t := 11 + 8 * x) hx rfl (by omega) e7
        subst r7
        replace hf := jbind hf
        obtain ⟨v42, e8, hf⟩ := hf
        obtain ⟨r8, y8⟩ := oc_al e8
        subst r8
        clear e8
        replace hf := jite hf
        rcases hf with ⟨c9, hf⟩ | ⟨c9, hf⟩
        · skip
          -- leaf 110: F_X12_goesOne_52 n rc10 a0 x2 x3 x4 p32 v38 v42 (- 1 : Int32) h
          have x8 : (x : Int) < (W 0).toInt := by rw [e0, hx, nI_eI (by omega)] at c2; omega
          have bx : bt x3 x = true := r4.2.mp (r4.1.resolve_left c5)
          obtain ⟨h2, g1, g2, g3, g4, hf⟩ := E_X12_goesOne_52 M rfl rfl rfl (by omega) hx hf
          have e1 : wl (oc h2) a0 = stW W x3 d (x + 1) := by
            rw [g1, stW_s bx, nI_cl (by omega), ← hW]
            cases d with
            | false => rfl
            | true => exact absurd (hd.symm.trans c9) (by decide)
          have e2 : oi (oc h2) a0 18 = nI (S0 + ncnt W x3 (x + 1)) := by
            rw [g2, hS, hW, stW_ot (by omega)]
            rw [ncnt_s]
            by_cases y : W (14 + 8 * x) = 1
            · rw [if_pos y, if_neg (fun z => z.2 y)]; exact Int32.add_zero _
            · rw [if_neg y, if_pos ⟨bx, y⟩, nI_1]; rfl
          obtain ⟨a1, a2, a3, a4, a5⟩ := E_X12_goesOne_10 K k (x + 1) (mS_fr M g3 (by decide) (by decide)) e1 e2 hd (by rw [hx, nI_1]) (by omega) hf
          exact ⟨a1, a2, a3, frM_tr g3 a4, a5.trans g4⟩
        · skip
          -- leaf 111: F_X12_goesOne_52 n rc10 a0 x2 x3 x4 p32 v38 v42 (1 : Int32) h
          have x8 : (x : Int) < (W 0).toInt := by rw [e0, hx, nI_eI (by omega)] at c2; omega
          have bx : bt x3 x = true := r4.2.mp (r4.1.resolve_left c5)
          obtain ⟨h2, g1, g2, g3, g4, hf⟩ := E_X12_goesOne_52 M rfl rfl rfl (by omega) hx hf
          have e1 : wl (oc h2) a0 = stW W x3 d (x + 1) := by
            rw [g1, stW_s bx, nI_cl (by omega), ← hW]
            cases d with
            | true => rfl
            | false => exact absurd hd c9
          have e2 : oi (oc h2) a0 18 = nI (S0 + ncnt W x3 (x + 1)) := by
            rw [g2, hS, hW, stW_ot (by omega)]
            rw [ncnt_s]
            by_cases y : W (14 + 8 * x) = 1
            · rw [if_pos y, if_neg (fun z => z.2 y)]; exact Int32.add_zero _
            · rw [if_neg y, if_pos ⟨bx, y⟩, nI_1]; rfl
          obtain ⟨a1, a2, a3, a4, a5⟩ := E_X12_goesOne_10 K k (x + 1) (mS_fr M g3 (by decide) (by decide)) e1 e2 hd (by rw [hx, nI_1]) (by omega) hf
          exact ⟨a1, a2, a3, frM_tr g3 a4, a5.trans g4⟩
theorem E_X12_goesOne {W : jWd} {r : Nat} {d : Bool} {S0 : Nat} {n : Nat} {a0 : Nat} {x1 : Int32} {x2 : Int32} {h : jH} {q : Int32 × jH} (M : mS (oc h) a0) (hW : wl (oc h) a0 = W) (K : wOK W) (h1 : x1 = nI r) (hr : (r : Int) < (W 0).toInt) (hd : x2 = dI d) (hS : oi (oc h) a0 18 = nI S0) (hf : F_X12_goesOne n a0 x1 x2 h = some q) : q.1 = (if gv W r d = 0 then 0 else 1) ∧ wl (oc q.2) a0 = stW W (gv W r d) d 8 ∧ oi (oc q.2) a0 18 = nI (S0 + ncnt W (gv W r d) 8) ∧ frM a0 [1] [18] (oc h) (oc q.2) ∧ q.2.1 = h.1 ∧ ∃ v, goB W r d v := by
  unfold F_X12_goesOne at hf
  have K0 := K.1
  replace hf := jbind hf
  obtain ⟨v3, e1, hf⟩ := hf
  replace e1 := (jcv_o e1).2
  have r1 := E_X12_goingBy M hW K h1 hr hd e1
  -- leaf : F_X12_goesOne_10 n n a0 x2 v3 (0 : Int32) h
  have ge := gv_of r1
  obtain ⟨c, hc⟩ : ∃ c : Nat, (W 0).toInt = (c : Int) := ⟨(W 0).toInt.toNat, by omega⟩
  have bz := goB_c r1 (c := c) (by omega)
  obtain ⟨a1, a2, a3, a4, a5⟩ := E_X12_goesOne_10 K n 0 M (by rw [hW, stW_0]) (by rw [hS]; rfl) hd rfl (by omega) hf
  have ec : (W 0).toInt.toNat = c := by omega
  rw [ec] at a2 a3
  rw [ge]
  refine ⟨a1, ?_, ?_, a4, a5, v3, r1⟩
  · rw [a2]; exact (stW_all (fun j u w => bz j u (by omega)) 8 (by omega) (Nat.le_refl _)).symm
  · rw [a3, ncnt_c (fun j u w => bz j u (by omega)) 8 (by omega) (Nat.le_refl _)]
theorem E_X12_pulls_29 {N0 : Int32} {n : Nat} {a0 : Nat} {x4 : Int32} {h : jH} {q : Int32 × jH} (M : mS (oc h) a0) (hf : F_X12_pulls_29 n a0 x4 h = some q) : q.1 = x4 ∧ wl (oc q.2) a0 = upd (wl (oc h) a0) 8 (if wl (oc h) a0 8 + oi (oc h) a0 18 < (9999 : Int32) then wl (oc h) a0 8 + oi (oc h) a0 18 else (9999 : Int32)) ∧ frM a0 [1] [] (oc h) (oc q.2) ∧ q.2.1 = h.1 := by
  unfold F_X12_pulls_29 at hf
  obtain ⟨s1, s2, s3, s4, s5, s8, s15, s17, s19, s20, s21⟩ := id M
  replace hf := jbind hf
  obtain ⟨p30, e1, hf⟩ := hf
  have r1 := oc_gR e1
  rw [s1] at r1
  cases r1
  clear e1
  replace hf := jbind hf
  obtain ⟨p39, e2, hf⟩ := hf
  have r2 := oc_gR e2
  rw [s1] at r2
  cases r2
  clear e2
  replace hf := jbind hf
  obtain ⟨v44, e3, hf⟩ := hf
  obtain ⟨r3, y3⟩ := oc_al e3
  rw [show (8 : Int32).toNatClampNeg = 8 from rfl] at r3
  subst r3
  clear e3
  replace hf := jbind hf
  obtain ⟨v46, e4, hf⟩ := hf
  have r4 := oc_gI e4
  subst r4
  clear e4
  replace hf := jbind hf
  obtain ⟨h53, e5, hf⟩ := hf
  obtain ⟨o5, z5, y5⟩ := oc_as e5
  rw [jnar0] at o5
  rw [show (8 : Int32).toNatClampNeg = 8 from rfl] at o5
  clear e5
  cases hf
  -- leaf : (x4, h53)
  refine ⟨rfl, ?_, ?_, z5⟩
  · rw [o5]; exact wl_w
  · rw [o5]; exact frM_c (by decide)
theorem E_X12_pulls_8 {n : Nat} {W : jWd} {r : Nat} {d : Bool} {N : Nat} (K : wOK W) (hr : (r : Int) < (W 0).toInt) (hN : N < 500) : ∀ (k : Nat) {a0 : Nat} {x1 : Int32} {x2 : Int32} {x3 : Int32} {x4 : Int32} {h : jH} {q : Int32 × jH} (t : Nat) (M : mS (oc h) a0) (hW : wl (oc h) a0 = mvO W r d t) (Kt : wOK (mvO W r d t)) (hS : oi (oc h) a0 18 = nI (mvS W r d t)) (h1 : x1 = nI r) (hd : x2 = dI d) (h3 : x3 = nI N) (h4 : x4 = nI t) (ht : t ≤ N) (hg : ∀ s, s < t → gv (mvO W r d s) r d ≠ 0), F_X12_pulls_8 n k a0 x1 x2 x3 x4 h = some q → ∃ f, f ≤ N ∧ q.1 = nI f ∧ wl (oc q.2) a0 = plW W r d f ∧ frM a0 [1] [18] (oc h) (oc q.2) ∧ q.2.1 = h.1 ∧ (∀ s, s < f → gv (mvO W r d s) r d ≠ 0) ∧ (f = N ∨ gv (mvO W r d f) r d = 0)
  | 0, a0, x1, x2, x3, x4, h, q, t, M, hW, Kt, hS, h1, hd, h3, h4, ht, hg, hf => by cases hf
  | k + 1, a0, x1, x2, x3, x4, h, q, t, M, hW, Kt, hS, h1, hd, h3, h4, ht, hg, hf => by
    replace hf : F_X12_pulls_8_b n (F_X12_pulls_8 n k) a0 x1 x2 x3 x4 h = some q := hf
    unfold F_X12_pulls_8_b at hf
    have K0 := K.1
    have e0 : mvO W r d t 0 = W 0 := mvO_ot (Or.inl (by decide)) t
    have e8 : mvO W r d t 8 = W 8 := mvO_ot (Or.inl (by decide)) t
    have ls := mvS_le (W := W) (r := r) (d := d) t
    have k8 := K.2.2.2.2.2.2.2.2.1
    replace hf := jite hf
    rcases hf with ⟨c1, hf⟩ | ⟨c1, hf⟩
    · skip
      -- leaf 0: F_X12_pulls_29 n a0 x4 h
      rw [h3, h4, Int32.le_iff_toInt_le, nI_toInt (by omega), nI_toInt (by omega)] at c1
      have z9 : t = N := by omega
      subst z9
      obtain ⟨a1, a2, a3, a4⟩ := E_X12_pulls_29 (N0 := 0) M hf
      refine ⟨t, ht, a1.trans h4, ?_, frM_le a3 (fun c h => h) (fun c h => by cases h), a4, hg, Or.inl rfl⟩
      rw [a2, hS, hW, e8]
      exact congrArg (upd _ 8) (nz_one K (by omega))
    · skip
      replace hf := jbind hf
      obtain ⟨q17, e2, hf⟩ := hf
      replace e2 := (jcv_o e2).2
      have r2 := E_X12_goesOne M hW Kt h1 (by rw [e0]; exact hr) hd hS e2
      replace hf := jite hf
      rcases hf with ⟨c3, hf⟩ | ⟨c3, hf⟩
      · skip
        -- leaf 10: F_X12_pulls_29 n a0 x4 q17.2
        obtain ⟨b1, b2, b3, b4, b5, b6⟩ := r2
        have gz : gv (mvO W r d t) r d = 0 := Classical.byContradiction fun z => absurd (c3.symm.trans (b1.trans (if_neg z))) (by decide)
        rw [gz] at b2 b3
        have ez : stW (mvO W r d t) 0 d 8 = mvO W r d t := (stW_all (i := 0) (j := 8) (fun k _ _ => b_0 k) 8 (by omega) (Nat.le_refl _)).trans stW_0
        have en : ncnt (mvO W r d t) 0 8 = 0 := (ncnt_c (c := 0) (fun k _ _ => b_0 k) 8 (by omega) (Nat.le_refl _)).symm
        rw [ez] at b2
        rw [en] at b3
        obtain ⟨a1, a2, a3, a4⟩ := E_X12_pulls_29 (N0 := 0) (mS_fr M b4 (by decide) (by decide)) hf
        refine ⟨t, ht, a1.trans h4, ?_, frM_tr b4 (frM_le a3 (fun c h => h) (fun c h => by cases h)), a4.trans b5, hg, Or.inr gz⟩
        rw [a2, b3, b2, e8]
        exact congrArg (upd _ 8) (nz_one K (by omega))
      · skip
        -- leaf 11: rc8 a0 x1 x2 x3 (x4 + (1 : Int32)) q17.2
        obtain ⟨b1, b2, b3, b4, b5, b6⟩ := r2
        have gn : gv (mvO W r d t) r d ≠ 0 := fun z => c3 (b1.trans (if_pos z))
        rw [h3, h4, Int32.le_iff_toInt_le, nI_toInt (by omega), nI_toInt (by omega)] at c1
        obtain ⟨f, a1, a2, a3, a4, a5, a6, a7⟩ := E_X12_pulls_8 K hr hN k (t + 1) (mS_fr M b4 (by decide) (by decide)) b2 (wOK_sg Kt (by rw [e0]; exact hr) b6) b3 h1 hd h3 (by rw [h4, nI_1]) (by omega) (fun s hs => by
          by_cases q9 : s = t
          · subst q9; exact gn
          · exact hg s (by omega)) hf
        exact ⟨f, a1, a2, a3, frM_tr b4 a4, a5.trans b5, a6, a7⟩
theorem E_X12_pulls {W : jWd} {r : Nat} {d : Bool} {N : Nat} {n : Nat} {a0 : Nat} {x1 : Int32} {x2 : Int32} {x3 : Int32} {h : jH} {q : Int32 × jH} (M : mS (oc h) a0) (hW : wl (oc h) a0 = W) (K : wOK W) (hr : (r : Int) < (W 0).toInt) (hN : N < 500) (h1 : x1 = nI r) (hd : x2 = dI d) (h3 : x3 = nI N) (hf : F_X12_pulls n a0 x1 x2 x3 h = some q) : ∃ f, f ≤ N ∧ q.1 = nI f ∧ wl (oc q.2) a0 = plW W r d f ∧ frM a0 [1] [18] (oc h) (oc q.2) ∧ q.2.1 = h.1 ∧ (∀ s, s < f → gv (mvO W r d s) r d ≠ 0) ∧ (f = N ∨ gv (mvO W r d f) r d = 0) := by
  unfold F_X12_pulls at hf
  replace hf := jbind hf
  obtain ⟨h2, e1, hf⟩ := hf
  obtain ⟨o1, z1⟩ := oc_pf e1
  clear e1
  -- leaf : F_X12_pulls_8 n n a0 x1 x2 x3 (0 : Int32) h2
  have f1 : frM a0 [1] [18] (oc h) (oc h2) := by rw [o1]; exact frM_f (by decide)
  obtain ⟨f, a1, a2, a3, a4, a5, a6, a7⟩ := E_X12_pulls_8 K hr hN n 0 (mS_fr M f1 (by decide) (by decide)) (by rw [o1, wl_n (by omega)]; exact hW) K (by rw [o1, oi_eq]; rfl) h1 hd h3 rfl (Nat.zero_le _) (fun s hs => by omega) hf
  exact ⟨f, a1, a2, a3, frM_tr f1 a4, a5.trans z1, a6, a7⟩
end
section
/-! the log's rows -/
theorem nI_bt {a i : Nat} (hi : i < 32) : bt (nI a) i = a.testBit i := by
  show (BitVec.ofNat 32 a).getLsbD i = a.testBit i
  rw [BitVec.getLsbD_ofNat, decide_eq_true hi, Bool.true_and]
/-- the numbers of a row as one -/
def pkN (d q i k f p : Nat) : Nat := ((((d * 8 + q) * 8 + i) * 4 + k) * 32 + f) * 32 + p
theorem tb_low {a j s : Nat} (h : a < 2 ^ s) (hj : s ≤ j) : a.testBit j = false := Nat.testBit_lt_two_pow (Nat.lt_of_lt_of_le h (Nat.pow_le_pow_right (by decide) hj))
theorem tb_cat {a b s j : Nat} (h : b < 2 ^ s) : (a * 2 ^ s + b).testBit j = if j < s then b.testBit j else a.testBit (j - s) := by
  rw [Nat.mul_comm]
  exact Nat.testBit_two_pow_mul_add a h j
theorem pk_row {d q i k f p : Nat} (hq : q < 8) (hi : i < 8) (hk : k < 4) (hf : f < 32) (hp : p < 32) : (((((nI d <<< ((18 : Int32) &&& 31)) ||| (nI q <<< ((15 : Int32) &&& 31))) ||| (nI i <<< ((12 : Int32) &&& 31))) ||| (nI k <<< ((10 : Int32) &&& 31))) ||| (nI f <<< ((5 : Int32) &&& 31))) ||| (nI p <<< ((0 : Int32) &&& 31)) = nI (pkN d q i k f p) := by
  refine b_ext fun j hj => ?_
  rw [b_or, b_or, b_or, b_or, b_or]
  have s18 : bt (nI d <<< ((18 : Int32) &&& 31)) j = (decide (18 ≤ j) && bt (nI d) (j - 18)) := b_shl 18 (by decide) _ hj
  have s15 : bt (nI q <<< ((15 : Int32) &&& 31)) j = (decide (15 ≤ j) && bt (nI q) (j - 15)) := b_shl 15 (by decide) _ hj
  have s12 : bt (nI i <<< ((12 : Int32) &&& 31)) j = (decide (12 ≤ j) && bt (nI i) (j - 12)) := b_shl 12 (by decide) _ hj
  have s10 : bt (nI k <<< ((10 : Int32) &&& 31)) j = (decide (10 ≤ j) && bt (nI k) (j - 10)) := b_shl 10 (by decide) _ hj
  have s5 : bt (nI f <<< ((5 : Int32) &&& 31)) j = (decide (5 ≤ j) && bt (nI f) (j - 5)) := b_shl 5 (by decide) _ hj
  have s0 : bt (nI p <<< ((0 : Int32) &&& 31)) j = (decide (0 ≤ j) && bt (nI p) (j - 0)) := b_shl 0 (by decide) _ hj
  rw [s18, s15, s12, s10, s5, s0, nI_bt (by omega), nI_bt (by omega), nI_bt (by omega), nI_bt (by omega), nI_bt (by omega), nI_bt (by omega), nI_bt hj]
  unfold pkN
  rw [show (32 : Nat) = 2 ^ 5 from rfl, tb_cat hp, tb_cat hf, show (4 : Nat) = 2 ^ 2 from rfl, tb_cat hk, show (8 : Nat) = 2 ^ 3 from rfl, tb_cat hi, tb_cat hq]
  have z0 : j - 0 = j := rfl
  rw [z0]
  by_cases j5 : j < 5
  · simp [j5, decide_eq_false (show ¬ 18 ≤ j by omega), decide_eq_false (show ¬ 15 ≤ j by omega), decide_eq_false (show ¬ 12 ≤ j by omega), decide_eq_false (show ¬ 10 ≤ j by omega), decide_eq_false (show ¬ 5 ≤ j by omega)]
  have p0 : p.testBit j = false := tb_low (s := 5) hp (by omega)
  by_cases j10 : j < 10
  · simp [j5, p0, show j - 5 < 5 by omega, decide_eq_false (show ¬ 18 ≤ j by omega), decide_eq_false (show ¬ 15 ≤ j by omega), decide_eq_false (show ¬ 12 ≤ j by omega), decide_eq_false (show ¬ 10 ≤ j by omega), decide_eq_true (show 5 ≤ j by omega)]
  have f0 : f.testBit (j - 5) = false := tb_low (s := 5) hf (by omega)
  by_cases j12 : j < 12
  · simp [j5, p0, f0, show ¬ j - 5 < 5 by omega, show j - 5 - 5 < 2 by omega, show j - 5 - 5 = j - 10 by omega, decide_eq_false (show ¬ 18 ≤ j by omega), decide_eq_false (show ¬ 15 ≤ j by omega), decide_eq_false (show ¬ 12 ≤ j by omega), decide_eq_true (show 10 ≤ j by omega)]
    intro z; exfalso; omega
  have k0 : k.testBit (j - 10) = false := tb_low (s := 2) hk (by omega)
  by_cases j15 : j < 15
  · simp [j5, p0, f0, k0, show ¬ j - 5 < 5 by omega, show j - 5 - 5 = j - 10 by omega, show ¬ j - 10 < 2 by omega, show j - 10 - 2 = j - 12 by omega, show j - 12 < 3 by omega, decide_eq_false (show ¬ 18 ≤ j by omega), decide_eq_false (show ¬ 15 ≤ j by omega), decide_eq_true (show 12 ≤ j by omega)]
  have i0 : i.testBit (j - 12) = false := tb_low (s := 3) hi (by omega)
  by_cases j18 : j < 18
  · simp [j5, p0, f0, k0, i0, show ¬ j - 5 < 5 by omega, show j - 5 - 5 = j - 10 by omega, show ¬ j - 10 < 2 by omega, show j - 10 - 2 = j - 12 by omega, show ¬ j - 12 < 3 by omega, show j - 12 - 3 = j - 15 by omega, show j - 15 < 3 by omega, decide_eq_false (show ¬ 18 ≤ j by omega), decide_eq_true (show 15 ≤ j by omega)]
  have q0 : q.testBit (j - 15) = false := tb_low (s := 3) hq (by omega)
  simp [j5, p0, f0, k0, i0, q0, show ¬ j - 5 < 5 by omega, show j - 5 - 5 = j - 10 by omega, show ¬ j - 10 < 2 by omega, show j - 10 - 2 = j - 12 by omega, show ¬ j - 12 < 3 by omega, show j - 12 - 3 = j - 15 by omega, show ¬ j - 15 < 3 by omega, show j - 15 - 3 = j - 18 by omega, decide_eq_true (show 18 ≤ j by omega)]
/-- the world behind a row more -/
def tlW (W : jWd) (r : Nat) (x kind far : Int32) : jWd := fun k => if k = 75 then W 4 else if k = 76 then W 3 else if k = 77 then x else if k = 78 then kind else if k = 79 then far else if k = 80 then W (11 + 8 * r) else if 81 ≤ k ∧ k < 435 then W (k - 6) else if k = 9 then (if W 9 + 1 < (60 : Int32) then W 9 + 1 else 60) else W k
theorem tlW_n {W : jWd} {r : Nat} {x kind far : Int32} {k : Nat} (h : k ≠ 9 ∧ k < 75 ∨ 435 ≤ k) : tlW W r x kind far k = W k := by
  unfold tlW
  rw [if_neg (by omega), if_neg (by omega), if_neg (by omega), if_neg (by omega), if_neg (by omega), if_neg (by omega), if_neg (by omega), if_neg (by omega)]
theorem tlW_s {W : jWd} {r : Nat} {x kind far : Int32} {k : Nat} (h : 81 ≤ k ∧ k < 435) : tlW W r x kind far k = W (k - 6) := by
  unfold tlW
  rw [if_neg (by omega), if_neg (by omega), if_neg (by omega), if_neg (by omega), if_neg (by omega), if_neg (by omega), if_pos h]
theorem mod60 {x y : Int} (h0 : 0 ≤ x) (h1 : x ≤ 59) (h2 : 0 ≤ y) (h3 : y ≤ 59) : (x + 59 - y) % 60 = if y + 1 ≤ x then x - y - 1 else x + 59 - y := by
  split <;> omega
/-- the class's rod behind a row more -/
theorem add_fin {W : jWd} {a1 r kind far : Nat} {h h1 q : jH} {s w : Int32} (R : rodE (oc h) a1 W) (K : wOK W) (hr : (r : Int) < (W 0).toInt) (hk : kind < 4) (hf : far < 32) (hs : s.toInt = ((oi (oc h) (a1 + 5) 2).toInt + 1) % 60)
    (o7 : oc h1 = u2 (oc h) (a1 + 6) (oi (oc h) (a1 + 5) 2).toNatClampNeg (.int w)) (z7 : h1.1 = h.1)
    (hw : w = (((((oi (oc h) a1 14 <<< ((18 : Int32) &&& 31)) ||| (oi (oc h) a1 13 <<< ((15 : Int32) &&& 31))) ||| (nI r <<< ((12 : Int32) &&& 31))) ||| (nI kind <<< ((10 : Int32) &&& 31))) ||| (nI far <<< ((5 : Int32) &&& 31))) ||| (oi (oc h) (a1 + 1) (nI r).toNatClampNeg <<< ((0 : Int32) &&& 31)))
    (e : oc q = u2 (u2 (oc h1) (a1 + 5) 2 (.int s)) (a1 + 5) 1 (.int (if oi (oc h1) (a1 + 5) 1 + (1 : Int32) < (60 : Int32) then oi (oc h1) (a1 + 5) 1 + (1 : Int32) else (60 : Int32))) ∧ q.1 = h1.1) : rodE (oc q) a1 (tlW W r (nI r) (nI kind) (nI far)) ∧ frR a1 (oc h) (oc q) ∧ q.1 = h.1 := by
  obtain ⟨e1, e2⟩ := e
  obtain ⟨⟨s0, s1, s2, s3, s4, s5⟩, ⟨u5, u10, u11, u12, u13, u14, u15, u16, u17⟩, RB, RC, RL⟩ := R
  have K0 := K.1
  have kp := (K.2.1 r hr).1
  have k9 := K.2.2.2.2.2.2.2.2.2.1
  obtain ⟨-, -, -, -, k3, k4, -⟩ := id K
  obtain ⟨L1, L2, L3⟩ := RL
  have l60 : (60 : Int32).toInt = 60 := rfl
  have l1 : (1 : Int32).toInt = 1 := rfl
  rw [o7] at e1
  rw [oi_ne (Or.inl (by omega)), L1] at e1
  have hw2 : w = nI (pkN (W 4).toInt.toNat (W 3).toInt.toNat r kind far (W (11 + 8 * r)).toInt.toNat) := by
    rw [← pk_row (by omega) (by omega) hk hf (by omega), hw, u14, u13, nI_cl (by omega), (RB r hr).1, ← nI_on (x := W 4) (by omega), ← nI_on (x := W 3) (by omega), ← nI_on (x := W (11 + 8 * r)) (by omega)]
  have fr : ∀ b k, b ≠ a1 + 5 → b ≠ a1 + 6 → oc q b k = oc h b k := fun b k h5 h6 => by rw [e1, u2_ne (Or.inl h5), u2_ne (Or.inl h5), u2_ne (Or.inl h6)]
  have fi : ∀ b k, b ≠ a1 + 5 → b ≠ a1 + 6 → oi (oc q) b k = oi (oc h) b k := fun b k h5 h6 => by unfold oi; rw [fr b k h5 h6]
  have t0 : tlW W r (nI r) (nI kind) (nI far) 0 = W 0 := tlW_n (Or.inl (by omega))
  have tn : ∀ k, k ≠ 9 ∧ k < 75 → tlW W r (nI r) (nI kind) (nI far) k = W k := fun k h => tlW_n (Or.inl h)
  have t9 : tlW W r (nI r) (nI kind) (nI far) 9 = (if W 9 + 1 < (60 : Int32) then W 9 + 1 else 60) := rfl
  have i9 : (if W 9 + 1 < (60 : Int32) then W 9 + 1 else 60).toInt = if (W 9).toInt < 59 then (W 9).toInt + 1 else 60 := by
    have j1 := jadd (x := W 9) (y := 1) (by omega) (by omega)
    by_cases z : W 9 + 1 < (60 : Int32)
    · rw [if_pos z, j1]; rw [Int32.lt_iff_toInt_lt, j1] at z; rw [if_pos (by omega), l1]
    · rw [if_neg z]; rw [Int32.lt_iff_toInt_lt, j1] at z; rw [if_neg (by omega)]; rfl
  have cl : (oi (oc h) (a1 + 5) 2).toNatClampNeg = (oi (oc h) (a1 + 5) 2).toInt.toNat := rfl
  refine ⟨⟨⟨?_, ?_, ?_, ?_, ?_, ?_⟩, ⟨?_, ?_, ?_, ?_, ?_, ?_, ?_, ?_, ?_⟩, fun j hj => ?_, fun j hj h32 => ?_, ?_⟩, fun b k hb => fr b k (by omega) (by omega), e2.trans z7⟩
  · rw [fr _ _ (by omega) (by omega)]; exact s0
  · rw [fr _ _ (by omega) (by omega)]; exact s1
  · rw [fr _ _ (by omega) (by omega)]; exact s2
  · rw [fr _ _ (by omega) (by omega)]; exact s3
  · rw [fr _ _ (by omega) (by omega)]; exact s4
  · rw [e1, u2_ne (Or.inr (by decide)), u2_ne (Or.inr (by decide)), u2_ne (Or.inl (by omega))]; exact s5
  · rw [fi _ _ (by omega) (by omega), tn _ (by omega)]; exact u5
  · rw [fi _ _ (by omega) (by omega), tn _ (by omega)]; exact u10
  · rw [fi _ _ (by omega) (by omega), tn _ (by omega)]; exact u11
  · rw [fi _ _ (by omega) (by omega), tn _ (by omega)]; exact u12
  · rw [fi _ _ (by omega) (by omega), tn _ (by omega)]; exact u13
  · rw [fi _ _ (by omega) (by omega), tn _ (by omega)]; exact u14
  · rw [fi _ _ (by omega) (by omega), tn _ (by omega)]; exact u15
  · rw [fi _ _ (by omega) (by omega), tn _ (by omega)]; exact u16
  · rw [fi _ _ (by omega) (by omega), tn _ (by omega)]; exact u17
  · rw [t0] at hj
    have B := RB j hj
    rw [fi _ _ (by omega) (by omega), fi _ _ (by omega) (by omega), fi _ _ (by omega) (by omega), fi _ _ (by omega) (by omega), fi _ _ (by omega) (by omega), fi _ _ (by omega) (by omega), fi _ _ (by omega) (by omega), fi _ _ (by omega) (by omega), tn _ (by omega), tn _ (by omega), tn _ (by omega), tn _ (by omega), tn _ (by omega), tn _ (by omega), tn _ (by omega), tn _ (by omega)]
    exact B
  · rw [t0] at hj
    rw [fi _ _ (by omega) (by omega), fi _ _ (by omega) (by omega)]
    exact RC j hj h32
  · have f2 : oi (oc q) (a1 + 5) 2 = s := by rw [e1, oi_ne (Or.inr (by decide)), oi_eq]
    refine ⟨by rw [e1, oi_eq, t9], by rw [f2]; omega, fun a ha => ?_⟩
    rw [t9, i9] at ha
    rw [f2, hs]
    have f6 : ∀ k, oi (oc q) (a1 + 6) k = if k = (oi (oc h) (a1 + 5) 2).toInt.toNat then w else oi (oc h) (a1 + 6) k := fun k => by
      rw [e1, oi_ne (Or.inl (by omega)), oi_ne (Or.inl (by omega)), cl]
      by_cases z : k = (oi (oc h) (a1 + 5) 2).toInt.toNat
      · rw [if_pos z, z, oi_eq]
      · rw [if_neg z, oi_ne (Or.inr z)]
    show ∃ d q1 i k f p : Nat, d < 16384 ∧ q1 < 8 ∧ i < 8 ∧ k < 4 ∧ f < 32 ∧ p < 32 ∧ oi (oc q) (a1 + 6) _ = _ ∧ _
    rw [f6]
    have a60 : (a : Int) ≤ 59 := by split at ha <;> omega
    by_cases z : a = 0
    · subst z
      rw [if_pos (by omega), hw2]
      refine ⟨(W 4).toInt.toNat, (W 3).toInt.toNat, r, kind, far, (W (11 + 8 * r)).toInt.toNat, by omega, by omega, by omega, hk, hf, by omega, rfl, ?_, ?_, rfl, rfl, rfl, ?_⟩
      · show W 4 = nI (W 4).toInt.toNat; exact nI_on (by omega)
      · show W 3 = nI (W 3).toInt.toNat; exact nI_on (by omega)
      · show W (11 + 8 * r) = nI (W (11 + 8 * r)).toInt.toNat; exact nI_on (by omega)
    · obtain ⟨b, rfl⟩ : ∃ b, a = b + 1 := ⟨a - 1, by omega⟩
      have hb : (b : Int) < (W 9).toInt := by split at ha <;> omega
      obtain ⟨d, q1, i, k, f, p, b1, b2, b3, b4, b5, b6, b7, b8⟩ := L3 b hb
      have en : ((((oi (oc h) (a1 + 5) 2).toInt + 1) % 60 + 59 - ((b + 1 : Nat) : Int)) % 60).toNat = (((oi (oc h) (a1 + 5) 2).toInt + 59 - (b : Int)) % 60).toNat := by omega
      rw [en, if_neg (by omega)]
      refine ⟨d, q1, i, k, f, p, b1, b2, b3, b4, b5, b6, b7, ?_⟩
      rw [tlW_s (by omega), tlW_s (by omega), tlW_s (by omega), tlW_s (by omega), tlW_s (by omega), tlW_s (by omega)]
      exact b8
theorem E_X5_add_90 {a1 : Nat} {n : Nat} {a0 : Nat} {sa0 : Nat} {s1 : Int32} {h : jH} {q : jH} (ha : a0 = a1 + 5) (hs : sa0 = a1 + 5) (hf : F_X5_add_90 n a0 sa0 s1 h = some q) : oc q = u2 (u2 (oc h) (a1 + 5) 2 (.int s1)) (a1 + 5) 1 (.int (if oi (oc h) (a1 + 5) 1 + (1 : Int32) < (60 : Int32) then oi (oc h) (a1 + 5) 1 + (1 : Int32) else (60 : Int32))) ∧ q.1 = h.1 := by
  unfold F_X5_add_90 at hf
  subst ha hs
  replace hf := jbind hf
  obtain ⟨h90, e1, hf⟩ := hf
  obtain ⟨o1, z1⟩ := oc_pf e1
  clear e1
  replace hf := jbind hf
  obtain ⟨v97, e2, hf⟩ := hf
  have r2 := oc_gI e2
  rw [o1] at r2
  rw [oi_ne (Or.inr (by decide))] at r2
  subst r2
  clear e2
  replace hf := jbind hf
  obtain ⟨h105, e3, hf⟩ := hf
  obtain ⟨o3, z3⟩ := oc_pf e3
  clear e3
  cases hf
  -- leaf : h105
  exact ⟨by rw [o3, o1], z3.trans z1⟩
theorem E_X5_add {W : jWd} {r : Nat} {kind : Nat} {far : Nat} {n : Nat} {a0 : Nat} {a1 : Nat} {x2 : Int32} {x3 : Int32} {x4 : Int32} {h : jH} {q : jH} (ha : a0 = a1 + 5) (R : rodE (oc h) a1 W) (K : wOK W) (h2 : x2 = nI r) (hr : (r : Int) < (W 0).toInt) (h3 : x3 = nI kind) (hk : kind < 4) (h4 : x4 = nI far) (hf9 : far < 32) (hf : F_X5_add n a0 a1 x2 x3 x4 h = some q) : rodE (oc q) a1 (tlW W r (nI r) (nI kind) (nI far)) ∧ frR a1 (oc h) (oc q) ∧ q.1 = h.1 := by
  unfold F_X5_add at hf
  subst ha h2 h3 h4
  obtain ⟨⟨s0, s1, s2, s3, s4, s5⟩, ⟨u5, u10, u11, u12, u13, u14, u15, u16, u17⟩, RB, RC, RL⟩ := id R
  have K0 := K.1
  obtain ⟨g0, -⟩ := RB r hr
  have kp := (K.2.1 r hr).1
  obtain ⟨-, -, -, -, k3, k4, -⟩ := id K
  obtain ⟨L1, L2, L3⟩ := id RL
  have l60 : (60 : Int32).toInt = 60 := rfl
  have l1 : (1 : Int32).toInt = 1 := rfl
  have l0 : (0 : Int32).toInt = 0 := rfl
  replace hf := jbind hf
  obtain ⟨p1, e1, hf⟩ := hf
  have r1 := oc_gR e1
  rw [s5] at r1
  cases r1
  clear e1
  replace hf := jbind hf
  obtain ⟨v5, e2, hf⟩ := hf
  have r2 := oc_gI e2
  subst r2
  clear e2
  replace hf := jbind hf
  obtain ⟨v9, e3, hf⟩ := hf
  have r3 := oc_gI e3
  subst r3
  clear e3
  replace hf := jbind hf
  obtain ⟨v19, e4, hf⟩ := hf
  have r4 := oc_gI e4
  subst r4
  clear e4
  replace hf := jbind hf
  obtain ⟨p55, e5, hf⟩ := hf
  have r5 := oc_gR e5
  rw [s0] at r5
  cases r5
  clear e5
  replace hf := jbind hf
  obtain ⟨v59, e6, hf⟩ := hf
  obtain ⟨r6, y6⟩ := oc_al e6
  subst r6
  clear e6
  replace hf := jbind hf
  obtain ⟨h67, e7, hf⟩ := hf
  obtain ⟨o7, z7, y7⟩ := oc_as e7
  rw [jnar0] at o7
  clear e7
  replace hf := jbind hf
  obtain ⟨v70, e8, hf⟩ := hf
  have r8 := oc_gI e8
  rw [o7] at r8
  rw [oi_ne (Or.inl (by omega))] at r8
  subst r8
  clear e8
  replace hf := jite hf
  rcases hf with ⟨c9, hf⟩ | ⟨c9, hf⟩
  · skip
    -- leaf 0: F_X5_add_90 n a0 a0 (0 : Int32) h67
    rw [Int32.le_iff_toInt_le, jadd (by omega) (by omega)] at c9
    exact add_fin R K hr hk hf9 (s := 0) (by omega) o7 z7 rfl (E_X5_add_90 (a1 := a1) rfl rfl hf)
  · skip
    replace hf := jbind hf
    obtain ⟨v81, e10, hf⟩ := hf
    have r10 := oc_gI e10
    rw [o7] at r10
    rw [oi_ne (Or.inl (by omega))] at r10
    subst r10
    clear e10
    -- leaf 1: F_X5_add_90 n a0 a0 (v81 + (1 : Int32)) h67
    rw [Int32.le_iff_toInt_le, jadd (by omega) (by omega)] at c9
    exact add_fin R K hr hk hf9 (s := oi (oc h) (a1 + 5) 2 + 1) (by rw [jadd (by omega) (by omega)]; omega) o7 z7 rfl (E_X5_add_90 (a1 := a1) rfl rfl hf)
end
section
/-! the reference's log -/
/-- rows behind place t have been shifted -/
def shW (W : jWd) (t : Nat) : jWd := fun k => if 75 + t < k ∧ k < 435 then W (k - 6) else W k
theorem shW_s {W : jWd} {t : Nat} (h : 6 ≤ t) (h2 : t < 360) : upd (shW W t) (75 + t) (shW W t (75 + t - 6)) = shW W (t - 1) := by
  funext k
  by_cases q : k = 75 + t
  · subst q
    rw [upd_eq]
    unfold shW
    rw [if_neg (by omega), if_pos (by omega)]
  · rw [upd_ne q]
    unfold shW
    by_cases z : 75 + t < k ∧ k < 435
    · rw [if_pos z, if_pos (by omega)]
    · rw [if_neg z, if_neg (by omega)]
theorem shW_0 {W : jWd} : shW W 359 = W := by
  funext k
  unfold shW
  rw [if_neg (by omega)]
theorem nI_sub6 {t : Nat} (h : 6 ≤ t) : nI t - (6 : Int32) = nI (t - 6) := by
  obtain ⟨b, rfl⟩ : ∃ b, t = b + 6 := ⟨t - 6, by omega⟩
  rw [← nI_add b 6, show b + 6 - 6 = b by omega]
  exact Int32.add_sub_cancel _ _
theorem upd_n {f : jWd} {i k : Nat} {x : Int32} (h : k ≠ i) : upd f i x k = f k := upd_ne h
theorem tl_fin {W : jWd} {r : Nat} {x kind far : Int32} : upd (upd (upd (upd (upd (upd (upd (shW W 5) 75 (W 4)) 76 (W 3)) 77 x) 78 kind) 79 far) 80 (W (11 + 8 * r))) 9 (if W 9 + 1 < (60 : Int32) then W 9 + 1 else 60) = tlW W r x kind far := by
  funext k
  unfold tlW
  by_cases q9 : k = 9
  · subst q9; rw [upd_eq]; rfl
  rw [upd_ne q9]
  by_cases q80 : k = 80
  · subst q80; rw [upd_eq]; rfl
  rw [upd_ne q80]
  by_cases q79 : k = 79
  · subst q79; rw [upd_eq]; rfl
  rw [upd_ne q79]
  by_cases q78 : k = 78
  · subst q78; rw [upd_eq]; rfl
  rw [upd_ne q78]
  by_cases q77 : k = 77
  · subst q77; rw [upd_eq]; rfl
  rw [upd_ne q77]
  by_cases q76 : k = 76
  · subst q76; rw [upd_eq]; rfl
  rw [upd_ne q76]
  by_cases q75 : k = 75
  · subst q75; rw [upd_eq]; rfl
  rw [upd_ne q75, if_neg q75, if_neg q76, if_neg q77, if_neg q78, if_neg q79, if_neg q80, if_neg q9]
  unfold shW
  by_cases z : 81 ≤ k ∧ k < 435
  · rw [if_pos z, if_pos (by omega)]
  · rw [if_neg z, if_neg (by omega)]
theorem E_X12_tells_5 {n : Nat} {W : jWd} {r : Nat} (hr : r < 8) : ∀ (k : Nat) {a0 : Nat} {x1 : Int32} {x2 : Int32} {x3 : Int32} {x4 : Int32} {h : jH} {q : jH} (t : Nat) (M : mS (oc h) a0) (hW : wl (oc h) a0 = shW W t) (h1 : x1 = nI r) (hx : x4 = nI t) (h5 : 5 ≤ t) (ht : t ≤ 359), F_X12_tells_5 n k a0 x1 x2 x3 x4 h = some q → wl (oc q) a0 = tlW W r x1 x2 x3 ∧ frM a0 [1] [] (oc h) (oc q) ∧ q.1 = h.1
  | 0, a0, x1, x2, x3, x4, h, q, t, M, hW, h1, hx, h5, ht, hf => by cases hf
  | k + 1, a0, x1, x2, x3, x4, h, q, t, M, hW, h1, hx, h5, ht, hf => by
    replace hf : F_X12_tells_5_b n (F_X12_tells_5 n k) a0 x1 x2 x3 x4 h = some q := hf
    unfold F_X12_tells_5_b at hf
    obtain ⟨s1, s2, s3, s4, s5, s8, s15, s17, s19, s20, s21⟩ := id M
    have l6 : (6 : Int32).toInt = 6 := rfl
    replace hf := jite hf
    rcases hf with ⟨c1, hf⟩ | ⟨c1, hf⟩
    · skip
      replace hf := jbind hf
      obtain ⟨p42, e2, hf⟩ := hf
      have r2 := oc_gR e2
      rw [s1] at r2
      cases r2
      clear e2
      replace hf := jbind hf
      obtain ⟨p48, e3, hf⟩ := hf
      have r3 := oc_gR e3
      rw [s1] at r3
      cases r3
      clear e3
      replace hf := jbind hf
      obtain ⟨v52, e4, hf⟩ := hf
      obtain ⟨r4, y4⟩ := oc_al e4
      rw [show (4 : Int32).toNatClampNeg = 4 from rfl] at r4
      subst r4
      clear e4
      replace hf := jbind hf
      obtain ⟨h53, e5, hf⟩ := hf
      obtain ⟨o5, z5, y5⟩ := oc_as e5
      rw [jnar0] at o5
      rw [show (75 : Int32).toNatClampNeg = 75 from rfl] at o5
      clear e5
      replace hf := jbind hf
      obtain ⟨p55, e6, hf⟩ := hf
      have r6 := oc_gR e6
      rw [o5] at r6
      rw [u2_ne (Or.inl (by omega))] at r6
      rw [s1] at r6
      cases r6
      clear e6
      replace hf := jbind hf
      obtain ⟨p61, e7, hf⟩ := hf
      have r7 := oc_gR e7
      rw [o5] at r7
      rw [u2_ne (Or.inl (by omega))] at r7
      rw [s1] at r7
      cases r7
      clear e7
      replace hf := jbind hf
      obtain ⟨v65, e8, hf⟩ := hf
      obtain ⟨r8, y8⟩ := oc_al e8
      rw [show (3 : Int32).toNatClampNeg = 3 from rfl] at r8
      rw [o5] at r8
      rw [oi_ne (Or.inr (by decide))] at r8
      subst r8
      clear e8
      replace hf := jbind hf
      obtain ⟨h66, e9, hf⟩ := hf
      obtain ⟨o9, z9, y9⟩ := oc_as e9
      rw [jnar0] at o9
      rw [show (76 : Int32).toNatClampNeg = 76 from rfl] at o9
      clear e9
      replace hf := jbind hf
      obtain ⟨p68, e10, hf⟩ := hf
      have r10 := oc_gR e10
      rw [o9] at r10
      rw [u2_ne (Or.inl (by omega))] at r10
      rw [o5] at r10
      rw [u2_ne (Or.inl (by omega))] at r10
      rw [s1] at r10
      cases r10
      clear e10
      replace hf := jbind hf
      obtain ⟨h74, e11, hf⟩ := hf
      obtain ⟨o11, z11, y11⟩ := oc_as e11
      rw [jnar0] at o11
      rw [show (77 : Int32).toNatClampNeg = 77 from rfl] at o11
      clear e11
      replace hf := jbind hf
      obtain ⟨p76, e12, hf⟩ := hf
      have r12 := oc_gR e12
      rw [o11] at r12
      rw [u2_ne (Or.inl (by omega))] at r12
      rw [o9] at r12
      rw [u2_ne (Or.inl (by omega))] at r12
      rw [o5] at r12
      rw [u2_ne (Or.inl (by omega))] at r12
      rw [s1] at r12
      cases r12
      clear e12
      replace hf := jbind hf
      obtain ⟨h82, e13, hf⟩ := hf
      obtain ⟨o13, z13, y13⟩ := oc_as e13
      rw [jnar0] at o13
      rw [show (78 : Int32).toNatClampNeg = 78 from rfl] at o13
      clear e13
      replace hf := jbind hf
      obtain ⟨p84, e14, hf⟩ := hf
      have r14 := oc_gR e14
      rw [o13] at r14
      rw [u2_ne (Or.inl (by omega))] at r14
      rw [o11] at r14
      rw [u2_ne (Or.inl (by omega))] at r14
      rw [o9] at r14
      rw [u2_ne (Or.inl (by omega))] at r14
      rw [o5] at r14
      rw [u2_ne (Or.inl (by omega))] at r14
      rw [s1] at r14
      cases r14
      clear e14
      replace hf := jbind hf
      obtain ⟨h90, e15, hf⟩ := hf
      obtain ⟨o15, z15, y15⟩ := oc_as e15
      rw [jnar0] at o15
      rw [show (79 : Int32).toNatClampNeg = 79 from rfl] at o15
      clear e15
      replace hf := jbind hf
      obtain ⟨p92, e16, hf⟩ := hf
      have r16 := oc_gR e16
      rw [o15] at r16
      rw [u2_ne (Or.inl (by omega))] at r16
      rw [o13] at r16
      rw [u2_ne (Or.inl (by omega))] at r16
      rw [o11] at r16
      rw [u2_ne (Or.inl (by omega))] at r16
      rw [o9] at r16
      rw [u2_ne (Or.inl (by omega))] at r16
      rw [o5] at r16
      rw [u2_ne (Or.inl (by omega))] at r16
      rw [s1] at r16
      cases r16
      clear e16
      replace hf := jbind hf
      obtain ⟨v100, e17, hf⟩ := hf
      replace e17 := (jcv_o e17).2
      have f8 : frM a0 [1] [] (oc h) (oc h90) := by
        rw [o15, o13, o11, o9, o5]
        exact frM_tr (frM_tr (frM_tr (frM_tr (frM_c (by decide)) (frM_c (by decide))) (frM_c (by decide))) (frM_c (by decide))) (frM_c (by decide))
      have M8 : mS (oc h90) a0 := mS_fr M f8 (by decide) (by decide)
      have w8 : wl (oc h90) a0 = upd (upd (upd (upd (upd (wl (oc h) a0) 75 (wl (oc h) a0 4)) 76 (wl (oc h) a0 3)) 77 x1) 78 x2) 79 x3 := by
        rw [o15, wl_w, o13, wl_w, o11, wl_w, o9, wl_w, o5, wl_w]
      have r17 := E_X12_of M8 (j := 0) (t := 11 + 8 * r) h1 rfl (by omega) (by omega) e17
      rw [w8, upd_n (by omega), upd_n (by omega), upd_n (by omega), upd_n (by omega), upd_n (by omega)] at r17
      subst r17
      replace hf := jbind hf
      obtain ⟨h103, e18, hf⟩ := hf
      obtain ⟨o18, z18, y18⟩ := oc_as e18
      rw [jnar0] at o18
      rw [show (80 : Int32).toNatClampNeg = 80 from rfl] at o18
      clear e18
      replace hf := jbind hf
      obtain ⟨p105, e19, hf⟩ := hf
      have r19 := oc_gR e19
      rw [o18] at r19
      rw [u2_ne (Or.inl (by omega))] at r19
      rw [o15] at r19
      rw [u2_ne (Or.inl (by omega))] at r19
      rw [o13] at r19
      rw [u2_ne (Or.inl (by omega))] at r19
      rw [o11] at r19
      rw [u2_ne (Or.inl (by omega))] at r19
      rw [o9] at r19
      rw [u2_ne (Or.inl (by omega))] at r19
      rw [o5] at r19
      rw [u2_ne (Or.inl (by omega))] at r19
      rw [s1] at r19
      cases r19
      clear e19
      replace hf := jbind hf
      obtain ⟨p113, e20, hf⟩ := hf
      have r20 := oc_gR e20
      rw [o18] at r20
      rw [u2_ne (Or.inl (by omega))] at r20
      rw [o15] at r20
      rw [u2_ne (Or.inl (by omega))] at r20
      rw [o13] at r20
      rw [u2_ne (Or.inl (by omega))] at r20
      rw [o11] at r20
      rw [u2_ne (Or.inl (by omega))] at r20
      rw [o9] at r20
      rw [u2_ne (Or.inl (by omega))] at r20
      rw [o5] at r20
      rw [u2_ne (Or.inl (by omega))] at r20
      rw [s1] at r20
      cases r20
      clear e20
      replace hf := jbind hf
      obtain ⟨v118, e21, hf⟩ := hf
      obtain ⟨r21, y21⟩ := oc_al e21
      rw [show (9 : Int32).toNatClampNeg = 9 from rfl] at r21
      rw [o18] at r21
      rw [oi_ne (Or.inr (by decide))] at r21
      rw [o15] at r21
      rw [oi_ne (Or.inr (by decide))] at r21
      rw [o13] at r21
      rw [oi_ne (Or.inr (by decide))] at r21
      rw [o11] at r21
      rw [oi_ne (Or.inr (by decide))] at r21
      rw [o9] at r21
      rw [oi_ne (Or.inr (by decide))] at r21
      rw [o5] at r21
      rw [oi_ne (Or.inr (by decide))] at r21
      subst r21
      clear e21
      replace hf := jbind hf
      obtain ⟨h124, e22, hf⟩ := hf
      obtain ⟨o22, z22, y22⟩ := oc_as e22
      rw [jnar0] at o22
      rw [show (9 : Int32).toNatClampNeg = 9 from rfl] at o22
      clear e22
      cases hf
      -- leaf 0: h124
      have t5 : t = 5 := by rw [hx, Int32.lt_iff_toInt_lt, nI_toInt (by omega)] at c1; omega
      subst t5
      have e3 : wl (oc h) a0 3 = W 3 := by rw [hW]; exact if_neg (by omega)
      have e4 : wl (oc h) a0 4 = W 4 := by rw [hW]; exact if_neg (by omega)
      have e9 : wl (oc h) a0 9 = W 9 := by rw [hW]; exact if_neg (by omega)
      have er : wl (oc h) a0 (11 + 8 * r) = W (11 + 8 * r) := by rw [hW]; exact if_neg (by omega)
      refine ⟨?_, ?_, ?_⟩
      · rw [o22, wl_w, o18, wl_w, w8, er, e3, e4, hW, ← tl_fin (r := r), ← e9]
      · rw [o22, o18]; exact frM_tr (frM_tr f8 (frM_c (by decide))) (frM_c (by decide))
      · exact z22.trans (z18.trans (z15.trans (z13.trans (z11.trans (z9.trans z5)))))
    · skip
      replace hf := jbind hf
      obtain ⟨p13, e23, hf⟩ := hf
      have r23 := oc_gR e23
      rw [s1] at r23
      cases r23
      clear e23
      replace hf := jbind hf
      obtain ⟨p22, e24, hf⟩ := hf
      have r24 := oc_gR e24
      rw [s1] at r24
      cases r24
      clear e24
      replace hf := jbind hf
      obtain ⟨v33, e25, hf⟩ := hf
      obtain ⟨r25, y25⟩ := oc_al e25
      subst r25
      clear e25
      replace hf := jbind hf
      obtain ⟨h34, e26, hf⟩ := hf
      obtain ⟨o26, z26, y26⟩ := oc_as e26
      rw [jnar0] at o26
      clear e26
      -- leaf 1: rc5 a0 x1 x2 x3 (x4 + (- 1 : Int32)) h34
      rw [hx, Int32.lt_iff_toInt_lt, nI_toInt (by omega)] at c1
      have i1 : (75 : Int32) + x4 = nI (75 + t) := by rw [hx]; exact nI_add 75 t
      have i2 : ((75 : Int32) + x4) - (6 : Int32) = nI (75 + t - 6) := by rw [i1]; exact nI_sub6 (by omega)
      rw [i1, nI_sub6 (by omega), nI_cl (by omega), nI_cl (by omega)] at o26
      have f2 : frM a0 [1] [] (oc h) (oc h34) := by rw [o26]; exact frM_c (by decide)
      have w2 : wl (oc h34) a0 = shW W (t - 1) := by
        rw [o26, wl_w, ← shW_s (by omega) (by omega), ← hW]
      obtain ⟨a1, a2, a3⟩ := E_X12_tells_5 hr k (t - 1) (mS_fr M f2 (by decide) (by decide)) w2 h1 (by rw [hx]; obtain ⟨b, rfl⟩ : ∃ b, t = b + 1 := ⟨t - 1, by omega⟩; rw [nI_succ, Int32.add_assoc]; exact Int32.add_zero _) (by omega) (by omega) hf
      exact ⟨a1, frM_tr f2 a2, a3.trans z26⟩
theorem E_X12_tells {W : jWd} {r : Nat} {n : Nat} {a0 : Nat} {x1 : Int32} {x2 : Int32} {x3 : Int32} {h : jH} {q : jH} (M : mS (oc h) a0) (hW : wl (oc h) a0 = W) (hr : r < 8) (h1 : x1 = nI r) (hf : F_X12_tells n a0 x1 x2 x3 h = some q) : wl (oc q) a0 = tlW W r x1 x2 x3 ∧ frM a0 [1] [] (oc h) (oc q) ∧ q.1 = h.1 := by
  unfold F_X12_tells at hf
  -- leaf : F_X12_tells_5 n n a0 x1 x2 x3 (359 : Int32) h
  exact E_X12_tells_5 hr n 359 M (by rw [shW_0]; exact hW) h1 rfl (by omega) (by omega) hf
end
section
/-! copies of rods -/
theorem ucp_ne {O : jO} {a0 s a d n b j : Nat} (h : b ≠ a) : ucp O a0 s a d n b j = O b j := if_neg (fun q => h q.1)
theorem ucp_oi {O : jO} {a0 s a d n b j : Nat} (h : b ≠ a) : oi (ucp O a0 s a d n) b j = oi O b j := by
  unfold oi
  rw [ucp_ne h]
theorem ucp_in {O : jO} {a0 a n j : Nat} (h : j < n) : oi (ucp O a0 0 a 0 n) a j = oi O a0 j := by
  unfold oi ucp
  rw [if_pos ⟨rfl, Nat.zero_le _, by omega⟩]
  rw [show 0 + (j - 0) = j by omega]
theorem logE_cp {O O2 : jO} {l m : Nat} {W : jWd} (L : logE O l W) (K : wOK W) (h1 : ∀ k, k = 1 ∨ k = 2 → oi O2 m k = oi O l k) (h2 : ∀ k, k < 60 → oi O2 (m + 1) k = oi O (l + 1) k) : logE O2 m W := by
  obtain ⟨a, b, c⟩ := L
  unfold logE
  rw [h1 1 (Or.inl rfl), h1 2 (Or.inr rfl)]
  refine ⟨a, b, fun k hk => ?_⟩
  rw [h2 _ (by omega)]
  exact c k hk
theorem E_X5_copyFrom {d : Nat} {r : Nat} {n : Nat} {a0 : Nat} {a1 : Nat} {h : jH} {q : jH} (h0 : a0 = d + 5) (h1 : a1 = r + 5) (hd : d + 6 < r ∨ r + 6 < d) (sd : oc h (d + 5) 0 = .ref (d + 6)) (sr : oc h (r + 5) 0 = .ref (r + 6)) (hf : F_X5_copyFrom n a0 a1 h = some q) : oc q = u2 (u2 (ucp (oc h) (r + 6) 0 (d + 6) 0 60) (d + 5) 1 (.int (oi (oc h) (r + 5) 1))) (d + 5) 2 (.int (oi (oc h) (r + 5) 2)) ∧ q.1 = h.1 := by
  unfold F_X5_copyFrom at hf
  subst h0 h1
  replace hf := jbind hf
  obtain ⟨p1, e1, hf⟩ := hf
  have r1 := oc_gR e1
  rw [sr] at r1
  cases r1
  clear e1
  replace hf := jbind hf
  obtain ⟨p6, e2, hf⟩ := hf
  have r2 := oc_gR e2
  rw [sd] at r2
  cases r2
  clear e2
  replace hf := jbind hf
  obtain ⟨h12, e3, hf⟩ := hf
  obtain ⟨o3, z3⟩ := oc_cp e3
  clear e3
  rw [show (0 : Int32).toNatClampNeg = 0 from rfl, show (60 : Int32).toNatClampNeg = 60 from rfl] at o3
  replace hf := jbind hf
  obtain ⟨v17, e4, hf⟩ := hf
  have r4 := oc_gI e4
  rw [o3] at r4
  rw [ucp_oi (by omega)] at r4
  subst r4
  clear e4
  replace hf := jbind hf
  obtain ⟨h20, e5, hf⟩ := hf
  obtain ⟨o5, z5⟩ := oc_pf e5
  clear e5
  replace hf := jbind hf
  obtain ⟨v25, e6, hf⟩ := hf
  have r6 := oc_gI e6
  rw [o5] at r6
  rw [oi_ne (Or.inl (by omega))] at r6
  rw [o3] at r6
  rw [ucp_oi (by omega)] at r6
  subst r6
  clear e6
  replace hf := jbind hf
  obtain ⟨h28, e7, hf⟩ := hf
  obtain ⟨o7, z7⟩ := oc_pf e7
  clear e7
  cases hf
  -- leaf : h28
  exact ⟨by rw [o7, o5, o3], z7.trans (z5.trans z3)⟩
theorem E_X8_hangAs {d : Nat} {r : Nat} {n : Nat} {a0 : Nat} {a1 : Nat} {h : jH} {q : jH} (h0 : d = a0) (h1 : r = a1) (hd : d + 6 < r ∨ r + 6 < d) (sd : oc h d 0 = .ref (d + 1)) (sr : oc h r 0 = .ref (r + 1)) (hf : F_X8_hangAs n a0 a1 h = some q) : oc q = u2 (u2 (ucp (oc h) (r + 1) 0 (d + 1) 0 8) d 15 (.int (oi (oc h) r 15))) d 9 (.int (oi (oc h) r 9)) ∧ q.1 = h.1 := by
  unfold F_X8_hangAs at hf
  subst h0 h1
  replace hf := jbind hf
  obtain ⟨p1, e1, hf⟩ := hf
  have r1 := oc_gR e1
  rw [sr] at r1
  cases r1
  clear e1
  replace hf := jbind hf
  obtain ⟨p6, e2, hf⟩ := hf
  have r2 := oc_gR e2
  rw [sd] at r2
  cases r2
  clear e2
  replace hf := jbind hf
  obtain ⟨h12, e3, hf⟩ := hf
  obtain ⟨o3, z3⟩ := oc_cp e3
  clear e3
  rw [show (0 : Int32).toNatClampNeg = 0 from rfl, show (8 : Int32).toNatClampNeg = 8 from rfl] at o3
  replace hf := jbind hf
  obtain ⟨v17, e4, hf⟩ := hf
  have r4 := oc_gI e4
  rw [o3] at r4
  rw [ucp_oi (by omega)] at r4
  subst r4
  clear e4
  replace hf := jbind hf
  obtain ⟨h20, e5, hf⟩ := hf
  obtain ⟨o5, z5⟩ := oc_pf e5
  clear e5
  replace hf := jbind hf
  obtain ⟨v25, e6, hf⟩ := hf
  have r6 := oc_gI e6
  rw [o5] at r6
  rw [oi_ne (Or.inl (by omega))] at r6
  rw [o3] at r6
  rw [ucp_oi (by omega)] at r6
  subst r6
  clear e6
  replace hf := jbind hf
  obtain ⟨h28, e7, hf⟩ := hf
  obtain ⟨o7, z7⟩ := oc_pf e7
  clear e7
  cases hf
  -- leaf : h28
  exact ⟨by rw [o7, o5, o3], z7.trans (z5.trans z3)⟩
theorem E_X8_copyFrom {d : Nat} {r : Nat} {W : jWd} {n : Nat} {a0 : Nat} {a1 : Nat} {h : jH} {q : jH} (h0 : d = a0) (h1 : r = a1) (hd : d + 6 < r ∨ r + 6 < d) (sd : rodS (oc h) d) (R : rodE (oc h) r W) (K : wOK W) (hf : F_X8_copyFrom n a0 a1 h = some q) : rodE (oc q) d W ∧ frR d (oc h) (oc q) ∧ q.1 = h.1 := by
  unfold F_X8_copyFrom at hf
  subst h0 h1
  have sr := R.1
  have sd0 := sd.1
  have sd1 := sd.2.1
  have sd2 := sd.2.2.1
  have sd3 := sd.2.2.2.1
  have sd4 := sd.2.2.2.2.1
  have sr0 := sr.1
  have sr1 := sr.2.1
  have sr2 := sr.2.2.1
  have sr3 := sr.2.2.2.1
  have sr4 := sr.2.2.2.2.1
  replace hf := jbind hf
  obtain ⟨p1, e1, hf⟩ := hf
  have r1 := oc_gR e1
  rw [sr1] at r1
  cases r1
  clear e1
  replace hf := jbind hf
  obtain ⟨p6, e2, hf⟩ := hf
  have r2 := oc_gR e2
  rw [sd1] at r2
  cases r2
  clear e2
  replace hf := jbind hf
  obtain ⟨h12, e3, hf⟩ := hf
  obtain ⟨o3, z3⟩ := oc_cp e3
  clear e3
  rw [show (0 : Int32).toNatClampNeg = 0 from rfl, show (8 : Int32).toNatClampNeg = 8 from rfl] at o3
  replace hf := jbind hf
  obtain ⟨p16, e4, hf⟩ := hf
  have r4 := oc_gR e4
  rw [o3] at r4
  rw [ucp_ne (by omega)] at r4
  rw [sr2] at r4
  cases r4
  clear e4
  replace hf := jbind hf
  obtain ⟨p21, e5, hf⟩ := hf
  have r5 := oc_gR e5
  rw [o3] at r5
  rw [ucp_ne (by omega)] at r5
  rw [sd2] at r5
  cases r5
  clear e5
  replace hf := jbind hf
  obtain ⟨h27, e6, hf⟩ := hf
  obtain ⟨o6, z6⟩ := oc_cp e6
  clear e6
  rw [show (0 : Int32).toNatClampNeg = 0 from rfl, show (8 : Int32).toNatClampNeg = 8 from rfl] at o6
  replace hf := jbind hf
  obtain ⟨p31, e7, hf⟩ := hf
  have r7 := oc_gR e7
  rw [o6] at r7
  rw [ucp_ne (by omega)] at r7
  rw [o3] at r7
  rw [ucp_ne (by omega)] at r7
  rw [sr3] at r7
  cases r7
  clear e7
  replace hf := jbind hf
  obtain ⟨p36, e8, hf⟩ := hf
  have r8 := oc_gR e8
  rw [o6] at r8
  rw [ucp_ne (by omega)] at r8
  rw [o3] at r8
  rw [ucp_ne (by omega)] at r8
  rw [sd3] at r8
  cases r8
  clear e8
  replace hf := jbind hf
  obtain ⟨h42, e9, hf⟩ := hf
  obtain ⟨o9, z9⟩ := oc_cp e9
  clear e9
  rw [show (0 : Int32).toNatClampNeg = 0 from rfl, show (8 : Int32).toNatClampNeg = 8 from rfl] at o9
  replace hf := jbind hf
  obtain ⟨p46, e10, hf⟩ := hf
  have r10 := oc_gR e10
  rw [o9] at r10
  rw [ucp_ne (by omega)] at r10
  rw [o6] at r10
  rw [ucp_ne (by omega)] at r10
  rw [o3] at r10
  rw [ucp_ne (by omega)] at r10
  rw [sd4] at r10
  cases r10
  clear e10
  replace hf := jbind hf
  obtain ⟨p50, e11, hf⟩ := hf
  have r11 := oc_gR e11
  rw [o9] at r11
  rw [ucp_ne (by omega)] at r11
  rw [o6] at r11
  rw [ucp_ne (by omega)] at r11
  rw [o3] at r11
  rw [ucp_ne (by omega)] at r11
  rw [sr4] at r11
  cases r11
  clear e11
  replace hf := jbind hf
  obtain ⟨h53, e12, hf⟩ := hf
  replace e12 := (jcv_o e12).2
  have sd9 : oc h42 (d + 5) 0 = .ref (d + 6) := by rw [o9, ucp_ne (by omega), o6, ucp_ne (by omega), o3, ucp_ne (by omega)]; exact sd.2.2.2.2.2
  have sr9 : oc h42 (r + 5) 0 = .ref (r + 6) := by rw [o9, ucp_ne (by omega), o6, ucp_ne (by omega), o3, ucp_ne (by omega)]; exact sr.2.2.2.2.2
  obtain ⟨o12, z12⟩ := E_X5_copyFrom (d := d) (r := r) rfl rfl hd sd9 sr9 e12
  replace hf := jbind hf
  obtain ⟨v58, e13, hf⟩ := hf
  have r13 := oc_gI e13
  rw [o12] at r13
  rw [oi_ne (Or.inl (by omega))] at r13
  rw [oi_ne (Or.inl (by omega))] at r13
  rw [ucp_oi (by omega)] at r13
  rw [o9] at r13
  rw [ucp_oi (by omega)] at r13
  rw [o6] at r13
  rw [ucp_oi (by omega)] at r13
  rw [o3] at r13
  rw [ucp_oi (by omega)] at r13
  subst r13
  clear e13
  replace hf := jbind hf
  obtain ⟨h61, e14, hf⟩ := hf
  obtain ⟨o14, z14⟩ := oc_pf e14
  clear e14
  replace hf := jbind hf
  obtain ⟨v66, e15, hf⟩ := hf
  have r15 := oc_gI e15
  rw [o14] at r15
  rw [oi_ne (Or.inl (by omega))] at r15
  rw [o12] at r15
  rw [oi_ne (Or.inl (by omega))] at r15
  rw [oi_ne (Or.inl (by omega))] at r15
  rw [ucp_oi (by omega)] at r15
  rw [o9] at r15
  rw [ucp_oi (by omega)] at r15
  rw [o6] at r15
  rw [ucp_oi (by omega)] at r15
  rw [o3] at r15
  rw [ucp_oi (by omega)] at r15
  subst r15
  clear e15
  replace hf := jbind hf
  obtain ⟨h69, e16, hf⟩ := hf
  obtain ⟨o16, z16⟩ := oc_pf e16
  clear e16
  replace hf := jbind hf
  obtain ⟨v74, e17, hf⟩ := hf
  have r17 := oc_gI e17
  rw [o16] at r17
  rw [oi_ne (Or.inl (by omega))] at r17
  rw [o14] at r17
  rw [oi_ne (Or.inl (by omega))] at r17
  rw [o12] at r17
  rw [oi_ne (Or.inl (by omega))] at r17
  rw [oi_ne (Or.inl (by omega))] at r17
  rw [ucp_oi (by omega)] at r17
  rw [o9] at r17
  rw [ucp_oi (by omega)] at r17
  rw [o6] at r17
  rw [ucp_oi (by omega)] at r17
  rw [o3] at r17
  rw [ucp_oi (by omega)] at r17
  subst r17
  clear e17
  replace hf := jbind hf
  obtain ⟨h77, e18, hf⟩ := hf
  obtain ⟨o18, z18⟩ := oc_pf e18
  clear e18
  replace hf := jbind hf
  obtain ⟨v82, e19, hf⟩ := hf
  have r19 := oc_gI e19
  rw [o18] at r19
  rw [oi_ne (Or.inl (by omega))] at r19
  rw [o16] at r19
  rw [oi_ne (Or.inl (by omega))] at r19
  rw [o14] at r19
  rw [oi_ne (Or.inl (by omega))] at r19
  rw [o12] at r19
  rw [oi_ne (Or.inl (by omega))] at r19
  rw [oi_ne (Or.inl (by omega))] at r19
  rw [ucp_oi (by omega)] at r19
  rw [o9] at r19
  rw [ucp_oi (by omega)] at r19
  rw [o6] at r19
  rw [ucp_oi (by omega)] at r19
  rw [o3] at r19
  rw [ucp_oi (by omega)] at r19
  subst r19
  clear e19
  replace hf := jbind hf
  obtain ⟨h85, e20, hf⟩ := hf
  obtain ⟨o20, z20⟩ := oc_pf e20
  clear e20
  replace hf := jbind hf
  obtain ⟨v90, e21, hf⟩ := hf
  have r21 := oc_gI e21
  rw [o20] at r21
  rw [oi_ne (Or.inl (by omega))] at r21
  rw [o18] at r21
  rw [oi_ne (Or.inl (by omega))] at r21
  rw [o16] at r21
  rw [oi_ne (Or.inl (by omega))] at r21
  rw [o14] at r21
  rw [oi_ne (Or.inl (by omega))] at r21
  rw [o12] at r21
  rw [oi_ne (Or.inl (by omega))] at r21
  rw [oi_ne (Or.inl (by omega))] at r21
  rw [ucp_oi (by omega)] at r21
  rw [o9] at r21
  rw [ucp_oi (by omega)] at r21
  rw [o6] at r21
  rw [ucp_oi (by omega)] at r21
  rw [o3] at r21
  rw [ucp_oi (by omega)] at r21
  subst r21
  clear e21
  replace hf := jbind hf
  obtain ⟨h93, e22, hf⟩ := hf
  obtain ⟨o22, z22⟩ := oc_pf e22
  clear e22
  replace hf := jbind hf
  obtain ⟨v98, e23, hf⟩ := hf
  have r23 := oc_gI e23
  rw [o22] at r23
  rw [oi_ne (Or.inl (by omega))] at r23
  rw [o20] at r23
  rw [oi_ne (Or.inl (by omega))] at r23
  rw [o18] at r23
  rw [oi_ne (Or.inl (by omega))] at r23
  rw [o16] at r23
  rw [oi_ne (Or.inl (by omega))] at r23
  rw [o14] at r23
  rw [oi_ne (Or.inl (by omega))] at r23
  rw [o12] at r23
  rw [oi_ne (Or.inl (by omega))] at r23
  rw [oi_ne (Or.inl (by omega))] at r23
  rw [ucp_oi (by omega)] at r23
  rw [o9] at r23
  rw [ucp_oi (by omega)] at r23
  rw [o6] at r23
  rw [ucp_oi (by omega)] at r23
  rw [o3] at r23
  rw [ucp_oi (by omega)] at r23
  subst r23
  clear e23
  replace hf := jbind hf
  obtain ⟨h101, e24, hf⟩ := hf
  obtain ⟨o24, z24⟩ := oc_pf e24
  clear e24
  replace hf := jbind hf
  obtain ⟨v106, e25, hf⟩ := hf
  have r25 := oc_gI e25
  rw [o24] at r25
  rw [oi_ne (Or.inl (by omega))] at r25
  rw [o22] at r25
  rw [oi_ne (Or.inl (by omega))] at r25
  rw [o20] at r25
  rw [oi_ne (Or.inl (by omega))] at r25
  rw [o18] at r25
  rw [oi_ne (Or.inl (by omega))] at r25
  rw [o16] at r25
  rw [oi_ne (Or.inl (by omega))] at r25
  rw [o14] at r25
  rw [oi_ne (Or.inl (by omega))] at r25
  rw [o12] at r25
  rw [oi_ne (Or.inl (by omega))] at r25
  rw [oi_ne (Or.inl (by omega))] at r25
  rw [ucp_oi (by omega)] at r25
  rw [o9] at r25
  rw [ucp_oi (by omega)] at r25
  rw [o6] at r25
  rw [ucp_oi (by omega)] at r25
  rw [o3] at r25
  rw [ucp_oi (by omega)] at r25
  subst r25
  clear e25
  replace hf := jbind hf
  obtain ⟨h109, e26, hf⟩ := hf
  obtain ⟨o26, z26⟩ := oc_pf e26
  clear e26
  replace hf := jbind hf
  obtain ⟨v114, e27, hf⟩ := hf
  have r27 := oc_gI e27
  rw [o26] at r27
  rw [oi_ne (Or.inl (by omega))] at r27
  rw [o24] at r27
  rw [oi_ne (Or.inl (by omega))] at r27
  rw [o22] at r27
  rw [oi_ne (Or.inl (by omega))] at r27
  rw [o20] at r27
  rw [oi_ne (Or.inl (by omega))] at r27
  rw [o18] at r27
  rw [oi_ne (Or.inl (by omega))] at r27
  rw [o16] at r27
  rw [oi_ne (Or.inl (by omega))] at r27
  rw [o14] at r27
  rw [oi_ne (Or.inl (by omega))] at r27
  rw [o12] at r27
  rw [oi_ne (Or.inl (by omega))] at r27
  rw [oi_ne (Or.inl (by omega))] at r27
  rw [ucp_oi (by omega)] at r27
  rw [o9] at r27
  rw [ucp_oi (by omega)] at r27
  rw [o6] at r27
  rw [ucp_oi (by omega)] at r27
  rw [o3] at r27
  rw [ucp_oi (by omega)] at r27
  subst r27
  clear e27
  replace hf := jbind hf
  obtain ⟨h117, e28, hf⟩ := hf
  obtain ⟨o28, z28⟩ := oc_pf e28
  clear e28
  replace hf := jbind hf
  obtain ⟨v122, e29, hf⟩ := hf
  have r29 := oc_gI e29
  rw [o28] at r29
  rw [oi_ne (Or.inl (by omega))] at r29
  rw [o26] at r29
  rw [oi_ne (Or.inl (by omega))] at r29
  rw [o24] at r29
  rw [oi_ne (Or.inl (by omega))] at r29
  rw [o22] at r29
  rw [oi_ne (Or.inl (by omega))] at r29
  rw [o20] at r29
  rw [oi_ne (Or.inl (by omega))] at r29
  rw [o18] at r29
  rw [oi_ne (Or.inl (by omega))] at r29
  rw [o16] at r29
  rw [oi_ne (Or.inl (by omega))] at r29
  rw [o14] at r29
  rw [oi_ne (Or.inl (by omega))] at r29
  rw [o12] at r29
  rw [oi_ne (Or.inl (by omega))] at r29
  rw [oi_ne (Or.inl (by omega))] at r29
  rw [ucp_oi (by omega)] at r29
  rw [o9] at r29
  rw [ucp_oi (by omega)] at r29
  rw [o6] at r29
  rw [ucp_oi (by omega)] at r29
  rw [o3] at r29
  rw [ucp_oi (by omega)] at r29
  subst r29
  clear e29
  replace hf := jbind hf
  obtain ⟨h125, e30, hf⟩ := hf
  obtain ⟨o30, z30⟩ := oc_pf e30
  clear e30
  replace hf := jbind hf
  obtain ⟨v130, e31, hf⟩ := hf
  have r31 := oc_gI e31
  rw [o30] at r31
  rw [oi_ne (Or.inl (by omega))] at r31
  rw [o28] at r31
  rw [oi_ne (Or.inl (by omega))] at r31
  rw [o26] at r31
  rw [oi_ne (Or.inl (by omega))] at r31
  rw [o24] at r31
  rw [oi_ne (Or.inl (by omega))] at r31
  rw [o22] at r31
  rw [oi_ne (Or.inl (by omega))] at r31
  rw [o20] at r31
  rw [oi_ne (Or.inl (by omega))] at r31
  rw [o18] at r31
  rw [oi_ne (Or.inl (by omega))] at r31
  rw [o16] at r31
  rw [oi_ne (Or.inl (by omega))] at r31
  rw [o14] at r31
  rw [oi_ne (Or.inl (by omega))] at r31
  rw [o12] at r31
  rw [oi_ne (Or.inl (by omega))] at r31
  rw [oi_ne (Or.inl (by omega))] at r31
  rw [ucp_oi (by omega)] at r31
  rw [o9] at r31
  rw [ucp_oi (by omega)] at r31
  rw [o6] at r31
  rw [ucp_oi (by omega)] at r31
  rw [o3] at r31
  rw [ucp_oi (by omega)] at r31
  subst r31
  clear e31
  replace hf := jbind hf
  obtain ⟨h133, e32, hf⟩ := hf
  obtain ⟨o32, z32⟩ := oc_pf e32
  clear e32
  replace hf := jbind hf
  obtain ⟨v138, e33, hf⟩ := hf
  have r33 := oc_gI e33
  rw [o32] at r33
  rw [oi_ne (Or.inl (by omega))] at r33
  rw [o30] at r33
  rw [oi_ne (Or.inl (by omega))] at r33
  rw [o28] at r33
  rw [oi_ne (Or.inl (by omega))] at r33
  rw [o26] at r33
  rw [oi_ne (Or.inl (by omega))] at r33
  rw [o24] at r33
  rw [oi_ne (Or.inl (by omega))] at r33
  rw [o22] at r33
  rw [oi_ne (Or.inl (by omega))] at r33
  rw [o20] at r33
  rw [oi_ne (Or.inl (by omega))] at r33
  rw [o18] at r33
  rw [oi_ne (Or.inl (by omega))] at r33
  rw [o16] at r33
  rw [oi_ne (Or.inl (by omega))] at r33
  rw [o14] at r33
  rw [oi_ne (Or.inl (by omega))] at r33
  rw [o12] at r33
  rw [oi_ne (Or.inl (by omega))] at r33
  rw [oi_ne (Or.inl (by omega))] at r33
  rw [ucp_oi (by omega)] at r33
  rw [o9] at r33
  rw [ucp_oi (by omega)] at r33
  rw [o6] at r33
  rw [ucp_oi (by omega)] at r33
  rw [o3] at r33
  rw [ucp_oi (by omega)] at r33
  subst r33
  clear e33
  replace hf := jbind hf
  obtain ⟨h141, e34, hf⟩ := hf
  obtain ⟨o34, z34⟩ := oc_pf e34
  clear e34
  replace hf := jbind hf
  obtain ⟨h146, e35, hf⟩ := hf
  replace e35 := (jcv_o e35).2
  have hz : oc h141 d 0 = .ref (d + 1) := by simp (disch := omega) only [o34, o32, o30, o28, o26, o24, o22, o20, o18, o16, o14, o12, o9, o6, o3, u2_ne, ucp_ne]; exact sd0
  have hy : oc h141 r 0 = .ref (r + 1) := by simp (disch := omega) only [o34, o32, o30, o28, o26, o24, o22, o20, o18, o16, o14, o12, o9, o6, o3, u2_ne, ucp_ne]; exact sr0
  obtain ⟨o35, z35⟩ := E_X8_hangAs (d := d) (r := r) rfl rfl hd hz hy e35
  simp only [o34, o32, o30, o28, o26, o24, o22, o20, o18, o16, o14, o12, o9, o6, o3] at o35
  cases hf
  -- leaf : h146
  obtain ⟨⟨s0, s1, s2, s3, s4, s5⟩, ⟨u5, u10, u11, u12, u13, u14, u15, u16, u17⟩, RB, RC, RL⟩ := id R
  have K0 := K.1
  have k9 := K.2.2.2.2.2.2.2.2.2.1
  refine ⟨⟨⟨?_, ?_, ?_, ?_, ?_, ?_⟩, ⟨?_, ?_, ?_, ?_, ?_, ?_, ?_, ?_, ?_⟩, fun i hi => ?_, fun i hi h32 => ?_, ?_⟩, ?_, ?_⟩
  · simp (disch := omega) only [o35, u2_ne, ucp_ne, oi_ne, oi_eq, ucp_oi, ucp_in]; exact sd0
  · simp (disch := omega) only [o35, u2_ne, ucp_ne, oi_ne, oi_eq, ucp_oi, ucp_in]; exact sd1
  · simp (disch := omega) only [o35, u2_ne, ucp_ne, oi_ne, oi_eq, ucp_oi, ucp_in]; exact sd2
  · simp (disch := omega) only [o35, u2_ne, ucp_ne, oi_ne, oi_eq, ucp_oi, ucp_in]; exact sd3
  · simp (disch := omega) only [o35, u2_ne, ucp_ne, oi_ne, oi_eq, ucp_oi, ucp_in]; exact sd4
  · simp (disch := omega) only [o35, u2_ne, ucp_ne, oi_ne, oi_eq, ucp_oi, ucp_in]; exact sd.2.2.2.2.2
  · simp (disch := omega) only [o35, u2_ne, ucp_ne, oi_ne, oi_eq, ucp_oi, ucp_in]; exact u5
  · simp (disch := omega) only [o35, u2_ne, ucp_ne, oi_ne, oi_eq, ucp_oi, ucp_in]; exact u10
  · simp (disch := omega) only [o35, u2_ne, ucp_ne, oi_ne, oi_eq, ucp_oi, ucp_in]; exact u11
  · simp (disch := omega) only [o35, u2_ne, ucp_ne, oi_ne, oi_eq, ucp_oi, ucp_in]; exact u12
  · simp (disch := omega) only [o35, u2_ne, ucp_ne, oi_ne, oi_eq, ucp_oi, ucp_in]; exact u13
  · simp (disch := omega) only [o35, u2_ne, ucp_ne, oi_ne, oi_eq, ucp_oi, ucp_in]; exact u14
  · simp (disch := omega) only [o35, u2_ne, ucp_ne, oi_ne, oi_eq, ucp_oi, ucp_in]; exact u15
  · simp (disch := omega) only [o35, u2_ne, ucp_ne, oi_ne, oi_eq, ucp_oi, ucp_in]; exact u16
  · simp (disch := omega) only [o35, u2_ne, ucp_ne, oi_ne, oi_eq, ucp_oi, ucp_in]; exact u17
  · have i8 : i < 8 := by omega
    have B := RB i hi
    simp (disch := omega) only [o35, u2_ne, ucp_ne, oi_ne, oi_eq, ucp_oi, ucp_in]
    exact B
  · have B := RC i hi h32
    simp (disch := omega) only [o35, u2_ne, ucp_ne, oi_ne, oi_eq, ucp_oi, ucp_in]
    exact B
  · refine logE_cp RL K (fun k hk => ?_) (fun k hk => ?_)
    · rcases hk with rfl | rfl <;> simp (disch := omega) only [o35, u2_ne, ucp_ne, oi_ne, oi_eq, ucp_oi, ucp_in]
    · show oi (oc q) (d + 6) k = oi (oc h) (r + 6) k
      simp (disch := omega) only [o35, u2_ne, ucp_ne, oi_ne, oi_eq, ucp_oi, ucp_in]
  · intro b k hb
    simp (disch := omega) only [o35, u2_ne, ucp_ne, oi_ne, oi_eq, ucp_oi, ucp_in]
  · exact z35.trans (z34.trans (z32.trans (z30.trans (z28.trans (z26.trans (z24.trans (z22.trans (z20.trans (z18.trans (z16.trans (z14.trans (z12.trans (z9.trans (z6.trans z3))))))))))))))
end
