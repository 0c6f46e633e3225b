/-! a pull of the reference -/
theorem ncnt_s {W : jWd} {v : Int32} {i : Nat} : ncnt W v (i + 1) = ncnt W v i + if bt v i = true ∧ W (14 + 8 * i) ≠ 1 then 1 else 0 := rfl
theorem ncnt_c {W : jWd} {v : Int32} {c : Nat} (h : ∀ k, c ≤ k → k < 8 → bt v k = false) : ∀ m, c ≤ m → m ≤ 8 → ncnt W v c = ncnt W v m := by
  intro m
  induction m with
  | zero => intro a _; rw [show c = 0 by omega]
  | succ m ih =>
    intro a b
    by_cases q : c = m + 1
    · rw [q]
    · rw [ih (by omega) (by omega), ncnt_s, if_neg (fun z => absurd ((h m (by omega) (by omega)).symm.trans z.1) (by decide))]
      rfl
theorem nz_one {W : jWd} (K : wOK W) {s : Nat} (hs : s < 5000) : (if W 8 + nI s < (9999 : Int32) then W 8 + nI s else (9999 : Int32)) = nzc W s := by
  have k8 := K.2.2.2.2.2.2.2.2.1
  have e : (W 8 + nI s).toInt = (W 8).toInt + (s : Int) := by rw [jadd (by rw [nI_toInt (by omega)]; omega) (by rw [nI_toInt (by omega)]; omega), nI_toInt (by omega)]
  unfold nzc
  have l9 : (9999 : Int32).toInt = 9999 := rfl
  by_cases q : W 8 + nI s < (9999 : Int32)
  · rw [if_pos q, if_pos (by rw [Int32.lt_iff_toInt_lt, e, l9] at q; exact q)]
  · rw [if_neg q, if_neg (by rw [Int32.lt_iff_toInt_lt, e, l9] at q; exact q)]
theorem wOK_sg {W : jWd} {r : Nat} {d : Bool} (K : wOK W) (hr : (r : Int) < (W 0).toInt) (h : ∃ v, goB W r d v) : wOK (stW W (gv W r d) d 8) := by
  obtain ⟨v, hv⟩ := h
  rw [gv_of hv]
  exact wOK_st K hv hr
theorem frM_oi {m : Nat} {cs fs : List Nat} {O O2 : jO} (f : frM m cs fs O O2) {k : Nat} (hc : 0 ∉ cs) (hk : k ∉ fs) : oi O2 m k = oi O m k := by
  unfold oi
  rw [f m k (fun c h q => hc ((show c = 0 by omega) ▸ h)) (fun _ => hk)]
theorem E_X12_goesOne_52 {x : Nat} {t : Nat} {n : Nat} {rc10 : Nat → Int32 → Int32 → Int32 → jH → Option (Int32 × jH)} {a0 : Nat} {x2 : Int32} {x3 : Int32} {x4 : Int32} {sa0 : Nat} {s1 : Int32} {s2 : Int32} {s3 : Int32} {h : jH} {q : Int32 × jH} (M : mS (oc h) a0) (hs : sa0 = a0 + 1) (h1 : s1 = nI t) (ht : t = 11 + 8 * x) (x9 : x < 16) (h4 : x4 = nI x) (hf : F_X12_goesOne_52 n rc10 a0 x2 x3 x4 sa0 s1 s2 s3 h = some q) : ∃ h2 : jH, wl (oc h2) a0 = upd (wl (oc h) a0) t (s2 + s3) ∧ oi (oc h2) a0 18 = oi (oc h) a0 18 + (if wl (oc h) a0 (14 + 8 * x) = 1 then 0 else 1) ∧ frM a0 [1] [18] (oc h) (oc h2) ∧ h2.1 = h.1 ∧ rc10 a0 x2 x3 (x4 + (1 : Int32)) h2 = some q := by
  unfold F_X12_goesOne_52 at hf
  subst hs h1
  replace hf := jbind hf
  obtain ⟨h53, e1, hf⟩ := hf
  obtain ⟨o1, z1, y1⟩ := oc_as e1
  rw [jnar0] at o1
  clear e1
  replace hf := jbind hf
  obtain ⟨v56, e2, hf⟩ := hf
  have r2 := oc_gI e2
  rw [o1] at r2
  rw [oi_ne (Or.inl (by omega))] at r2
  subst r2
  clear e2
  replace hf := jbind hf
  obtain ⟨v63, e3, hf⟩ := hf
  replace e3 := (jcv_o e3).2
  rw [nI_cl (by omega)] at o1
  have f1 : frM a0 [1] [18] (oc h) (oc h53) := by rw [o1]; exact frM_c (by decide)
  have M1 : mS (oc h53) a0 := mS_fr M f1 (by decide) (by decide)
  have w1 : wl (oc h53) a0 = upd (wl (oc h) a0) t (s2 + s3) := by rw [o1]; exact wl_w
  have r3 := E_X12_is M1 (j := 3) (t := 14 + 8 * x) h4 rfl (by omega) (by omega) e3
  rw [w1, upd_ne (by omega)] at r3
  replace hf := jite hf
  rcases hf with ⟨c4, hf⟩ | ⟨c4, hf⟩
  · skip
    replace hf := jbind hf
    obtain ⟨h75, e5, hf⟩ := hf
    obtain ⟨o5, z5⟩ := oc_pf e5
    clear e5
    -- leaf 0: rc10 a0 x2 x3 (x4 + (1 : Int32)) h75
    have nw : ¬ wl (oc h) a0 (14 + 8 * x) = 1 := fun z => absurd (c4.symm.trans (r3.2.mpr z)) (by decide)
    refine ⟨h75, ?_, ?_, ?_, z5.trans z1, hf⟩
    · rw [o5, wl_n (by omega)]; exact w1
    · rw [o5, oi_eq, if_neg nw]
    · rw [o5]; exact frM_tr f1 (frM_f (by decide))
  · skip
    replace hf := jbind hf
    obtain ⟨h75, e6, hf⟩ := hf
    obtain ⟨o6, z6⟩ := oc_pf e6
    clear e6
    -- leaf 1: rc10 a0 x2 x3 (x4 + (1 : Int32)) h75
    have nw : wl (oc h) a0 (14 + 8 * x) = 1 := r3.2.mp (r3.1.resolve_left c4)
    refine ⟨h75, ?_, ?_, ?_, z6.trans z1, hf⟩
    · rw [o6, wl_n (by omega)]; exact w1
    · rw [o6, oi_eq, if_pos nw]
    · rw [o6]; exact frM_tr f1 (frM_f (by decide))
theorem E_X12_goesOne_10 {n : Nat} {W : jWd} {d : Bool} {S0 : Nat} (K : wOK W) : ∀ (k : Nat) {a0 : Nat} {x2 : Int32} {x3 : Int32} {x4 : Int32} {h : jH} {q : Int32 × jH} (x : Nat) (M : mS (oc h) a0) (hW : wl (oc h) a0 = stW W x3 d x) (hS : oi (oc h) a0 18 = nI (S0 + ncnt W x3 x)) (hd : x2 = dI d) (hx : x4 = nI x) (hl : (x : Int) ≤ (W 0).toInt), F_X12_goesOne_10 n k a0 x2 x3 x4 h = some q → q.1 = (if x3 = 0 then 0 else 1) ∧ wl (oc q.2) a0 = stW W x3 d (W 0).toInt.toNat ∧ oi (oc q.2) a0 18 = nI (S0 + ncnt W x3 (W 0).toInt.toNat) ∧ frM a0 [1] [18] (oc h) (oc q.2) ∧ q.2.1 = h.1
  | 0, a0, x2, x3, x4, h, q, x, M, hW, hS, hd, hx, hl, hf => by cases hf
  | k + 1, a0, x2, x3, x4, h, q, x, M, hW, hS, hd, hx, hl, hf => by
    replace hf : F_X12_goesOne_10_b n (F_X12_goesOne_10 n k) a0 x2 x3 x4 h = some q := hf
    unfold F_X12_goesOne_10_b at hf
    have K0 := K.1
    have e0 : wl (oc h) a0 0 = W 0 := by rw [hW]; exact stW_ot (by omega)
    obtain ⟨s1, s2, s3, s4, s5, s8, s15, s17, s19, s20, s21⟩ := id M
    replace hf := jbind hf
    obtain ⟨v13, e1, hf⟩ := hf
    replace e1 := (jcv_o e1).2
    have r1 := E_X12_rings M e1
    subst r1
    replace hf := jite hf
    rcases hf with ⟨c2, hf⟩ | ⟨c2, hf⟩
    · skip
      replace hf := jite hf
      rcases hf with ⟨c3, hf⟩ | ⟨c3, hf⟩
      · skip
        cases hf
        -- leaf 00: ((0 : Int32), h)
        rw [e0, hx, nI_eI (by omega)] at c2
        have ex : x = (W 0).toInt.toNat := by omega
        exact ⟨by rw [if_pos c3], by rw [← ex]; exact hW, by rw [← ex]; exact hS, frM_rfl, rfl⟩
      · skip
        cases hf
        -- leaf 01: ((1 : Int32), h)
        rw [e0, hx, nI_eI (by omega)] at c2
        have ex : x = (W 0).toInt.toNat := by omega
        exact ⟨by rw [if_neg c3], by rw [← ex]; exact hW, by rw [← ex]; exact hS, frM_rfl, rfl⟩
    · skip
      replace hf := jbind hf
      obtain ⟨v22, e4, hf⟩ := hf
      have r4 := E_X12_has hx (by omega) e4
      replace hf := jite hf
      rcases hf with ⟨c5, hf⟩ | ⟨c5, hf⟩
      · skip
        -- leaf 10: rc10 a0 x2 x3 (x4 + (1 : Int32)) h
        have x8 : (x : Int) < (W 0).toInt := by rw [e0, hx, nI_eI (by omega)] at c2; omega
        have bx : bt x3 x = false := by
          cases z : bt x3 x with
          | false => rfl
          | true => exact absurd (c5.symm.trans (r4.2.mpr z)) (by decide)
        exact E_X12_goesOne_10 K k (x + 1) M (by rw [hW, stW_n bx]) (by rw [hS]; rw [ncnt_s, if_neg (fun z => absurd (bx.symm.trans z.1) (by decide))]; rfl) hd (by rw [hx, nI_1]) (by omega) hf
      · skip
        replace hf := jbind hf
        obtain ⟨p32, e6, hf⟩ := hf
        have r6 := oc_gR e6
        rw [s1] at r6
        cases r6
        clear e6
        replace hf := jbind hf
        obtain ⟨v38, e7, hf⟩ := hf
        have r7 := E_X12_at (i := x) (j := 0) (t := 11 + 8 * x) hx rfl (by omega) e7
        subst r7
        replace hf := jbind hf
        obtain ⟨v42, e8, hf⟩ := hf
        obtain ⟨r8, y8⟩ := oc_al e8
        subst r8
        clear e8
        replace hf := jite hf
        rcases hf with ⟨c9, hf⟩ | ⟨c9, hf⟩
        · skip
          -- leaf 110: F_X12_goesOne_52 n rc10 a0 x2 x3 x4 p32 v38 v42 (- 1 : Int32) h
          have x8 : (x : Int) < (W 0).toInt := by rw [e0, hx, nI_eI (by omega)] at c2; omega
          have bx : bt x3 x = true := r4.2.mp (r4.1.resolve_left c5)
          obtain ⟨h2, g1, g2, g3, g4, hf⟩ := E_X12_goesOne_52 M rfl rfl rfl (by omega) hx hf
          have e1 : wl (oc h2) a0 = stW W x3 d (x + 1) := by
            rw [g1, stW_s bx, nI_cl (by omega), ← hW]
            cases d with
            | false => rfl
            | true => exact absurd (hd.symm.trans c9) (by decide)
          have e2 : oi (oc h2) a0 18 = nI (S0 + ncnt W x3 (x + 1)) := by
            rw [g2, hS, hW, stW_ot (by omega)]
            rw [ncnt_s]
            by_cases y : W (14 + 8 * x) = 1
            · rw [if_pos y, if_neg (fun z => z.2 y)]; exact Int32.add_zero _
            · rw [if_neg y, if_pos ⟨bx, y⟩, nI_1]; rfl
          obtain ⟨a1, a2, a3, a4, a5⟩ := E_X12_goesOne_10 K k (x + 1) (mS_fr M g3 (by decide) (by decide)) e1 e2 hd (by rw [hx, nI_1]) (by omega) hf
          exact ⟨a1, a2, a3, frM_tr g3 a4, a5.trans g4⟩
        · skip
          -- leaf 111: F_X12_goesOne_52 n rc10 a0 x2 x3 x4 p32 v38 v42 (1 : Int32) h
          have x8 : (x : Int) < (W 0).toInt := by rw [e0, hx, nI_eI (by omega)] at c2; omega
          have bx : bt x3 x = true := r4.2.mp (r4.1.resolve_left c5)
          obtain ⟨h2, g1, g2, g3, g4, hf⟩ := E_X12_goesOne_52 M rfl rfl rfl (by omega) hx hf
          have e1 : wl (oc h2) a0 = stW W x3 d (x + 1) := by
            rw [g1, stW_s bx, nI_cl (by omega), ← hW]
            cases d with
            | true => rfl
            | false => exact absurd hd c9
          have e2 : oi (oc h2) a0 18 = nI (S0 + ncnt W x3 (x + 1)) := by
            rw [g2, hS, hW, stW_ot (by omega)]
            rw [ncnt_s]
            by_cases y : W (14 + 8 * x) = 1
            · rw [if_pos y, if_neg (fun z => z.2 y)]; exact Int32.add_zero _
            · rw [if_neg y, if_pos ⟨bx, y⟩, nI_1]; rfl
          obtain ⟨a1, a2, a3, a4, a5⟩ := E_X12_goesOne_10 K k (x + 1) (mS_fr M g3 (by decide) (by decide)) e1 e2 hd (by rw [hx, nI_1]) (by omega) hf
          exact ⟨a1, a2, a3, frM_tr g3 a4, a5.trans g4⟩
theorem E_X12_goesOne {W : jWd} {r : Nat} {d : Bool} {S0 : Nat} {n : Nat} {a0 : Nat} {x1 : Int32} {x2 : Int32} {h : jH} {q : Int32 × jH} (M : mS (oc h) a0) (hW : wl (oc h) a0 = W) (K : wOK W) (h1 : x1 = nI r) (hr : (r : Int) < (W 0).toInt) (hd : x2 = dI d) (hS : oi (oc h) a0 18 = nI S0) (hf : F_X12_goesOne n a0 x1 x2 h = some q) : q.1 = (if gv W r d = 0 then 0 else 1) ∧ wl (oc q.2) a0 = stW W (gv W r d) d 8 ∧ oi (oc q.2) a0 18 = nI (S0 + ncnt W (gv W r d) 8) ∧ frM a0 [1] [18] (oc h) (oc q.2) ∧ q.2.1 = h.1 ∧ ∃ v, goB W r d v := by
  unfold F_X12_goesOne at hf
  have K0 := K.1
  replace hf := jbind hf
  obtain ⟨v3, e1, hf⟩ := hf
  replace e1 := (jcv_o e1).2
  have r1 := E_X12_goingBy M hW K h1 hr hd e1
  -- leaf : F_X12_goesOne_10 n n a0 x2 v3 (0 : Int32) h
  have ge := gv_of r1
  obtain ⟨c, hc⟩ : ∃ c : Nat, (W 0).toInt = (c : Int) := ⟨(W 0).toInt.toNat, by omega⟩
  have bz := goB_c r1 (c := c) (by omega)
  obtain ⟨a1, a2, a3, a4, a5⟩ := E_X12_goesOne_10 K n 0 M (by rw [hW, stW_0]) (by rw [hS]; rfl) hd rfl (by omega) hf
  have ec : (W 0).toInt.toNat = c := by omega
  rw [ec] at a2 a3
  rw [ge]
  refine ⟨a1, ?_, ?_, a4, a5, v3, r1⟩
  · rw [a2]; exact (stW_all (fun j u w => bz j u (by omega)) 8 (by omega) (Nat.le_refl _)).symm
  · rw [a3, ncnt_c (fun j u w => bz j u (by omega)) 8 (by omega) (Nat.le_refl _)]
theorem E_X12_pulls_29 {N0 : Int32} {n : Nat} {a0 : Nat} {x4 : Int32} {h : jH} {q : Int32 × jH} (M : mS (oc h) a0) (hf : F_X12_pulls_29 n a0 x4 h = some q) : q.1 = x4 ∧ wl (oc q.2) a0 = upd (wl (oc h) a0) 8 (if wl (oc h) a0 8 + oi (oc h) a0 18 < (9999 : Int32) then wl (oc h) a0 8 + oi (oc h) a0 18 else (9999 : Int32)) ∧ frM a0 [1] [] (oc h) (oc q.2) ∧ q.2.1 = h.1 := by
  unfold F_X12_pulls_29 at hf
  obtain ⟨s1, s2, s3, s4, s5, s8, s15, s17, s19, s20, s21⟩ := id M
  replace hf := jbind hf
  obtain ⟨p30, e1, hf⟩ := hf
  have r1 := oc_gR e1
  rw [s1] at r1
  cases r1
  clear e1
  replace hf := jbind hf
  obtain ⟨p39, e2, hf⟩ := hf
  have r2 := oc_gR e2
  rw [s1] at r2
  cases r2
  clear e2
  replace hf := jbind hf
  obtain ⟨v44, e3, hf⟩ := hf
  obtain ⟨r3, y3⟩ := oc_al e3
  rw [show (8 : Int32).toNatClampNeg = 8 from rfl] at r3
  subst r3
  clear e3
  replace hf := jbind hf
  obtain ⟨v46, e4, hf⟩ := hf
  have r4 := oc_gI e4
  subst r4
  clear e4
  replace hf := jbind hf
  obtain ⟨h53, e5, hf⟩ := hf
  obtain ⟨o5, z5, y5⟩ := oc_as e5
  rw [jnar0] at o5
  rw [show (8 : Int32).toNatClampNeg = 8 from rfl] at o5
  clear e5
  cases hf
  -- leaf : (x4, h53)
  refine ⟨rfl, ?_, ?_, z5⟩
  · rw [o5]; exact wl_w
  · rw [o5]; exact frM_c (by decide)
theorem E_X12_pulls_8 {n : Nat} {W : jWd} {r : Nat} {d : Bool} {N : Nat} (K : wOK W) (hr : (r : Int) < (W 0).toInt) (hN : N < 500) : ∀ (k : Nat) {a0 : Nat} {x1 : Int32} {x2 : Int32} {x3 : Int32} {x4 : Int32} {h : jH} {q : Int32 × jH} (t : Nat) (M : mS (oc h) a0) (hW : wl (oc h) a0 = mvO W r d t) (Kt : wOK (mvO W r d t)) (hS : oi (oc h) a0 18 = nI (mvS W r d t)) (h1 : x1 = nI r) (hd : x2 = dI d) (h3 : x3 = nI N) (h4 : x4 = nI t) (ht : t ≤ N) (hg : ∀ s, s < t → gv (mvO W r d s) r d ≠ 0), F_X12_pulls_8 n k a0 x1 x2 x3 x4 h = some q → ∃ f, f ≤ N ∧ q.1 = nI f ∧ wl (oc q.2) a0 = plW W r d f ∧ frM a0 [1] [18] (oc h) (oc q.2) ∧ q.2.1 = h.1 ∧ (∀ s, s < f → gv (mvO W r d s) r d ≠ 0) ∧ (f = N ∨ gv (mvO W r d f) r d = 0)
  | 0, a0, x1, x2, x3, x4, h, q, t, M, hW, Kt, hS, h1, hd, h3, h4, ht, hg, hf => by cases hf
  | k + 1, a0, x1, x2, x3, x4, h, q, t, M, hW, Kt, hS, h1, hd, h3, h4, ht, hg, hf => by
    replace hf : F_X12_pulls_8_b n (F_X12_pulls_8 n k) a0 x1 x2 x3 x4 h = some q := hf
    unfold F_X12_pulls_8_b at hf
    have K0 := K.1
    have e0 : mvO W r d t 0 = W 0 := mvO_ot (Or.inl (by decide)) t
    have e8 : mvO W r d t 8 = W 8 := mvO_ot (Or.inl (by decide)) t
    have ls := mvS_le (W := W) (r := r) (d := d) t
    have k8 := K.2.2.2.2.2.2.2.2.1
    replace hf := jite hf
    rcases hf with ⟨c1, hf⟩ | ⟨c1, hf⟩
    · skip
      -- leaf 0: F_X12_pulls_29 n a0 x4 h
      rw [h3, h4, Int32.le_iff_toInt_le, nI_toInt (by omega), nI_toInt (by omega)] at c1
      have z9 : t = N := by omega
      subst z9
      obtain ⟨a1, a2, a3, a4⟩ := E_X12_pulls_29 (N0 := 0) M hf
      refine ⟨t, ht, a1.trans h4, ?_, frM_le a3 (fun c h => h) (fun c h => by cases h), a4, hg, Or.inl rfl⟩
      rw [a2, hS, hW, e8]
      exact congrArg (upd _ 8) (nz_one K (by omega))
    · skip
      replace hf := jbind hf
      obtain ⟨q17, e2, hf⟩ := hf
      replace e2 := (jcv_o e2).2
      have r2 := E_X12_goesOne M hW Kt h1 (by rw [e0]; exact hr) hd hS e2
      replace hf := jite hf
      rcases hf with ⟨c3, hf⟩ | ⟨c3, hf⟩
      · skip
        -- leaf 10: F_X12_pulls_29 n a0 x4 q17.2
        obtain ⟨b1, b2, b3, b4, b5, b6⟩ := r2
        have gz : gv (mvO W r d t) r d = 0 := Classical.byContradiction fun z => absurd (c3.symm.trans (b1.trans (if_neg z))) (by decide)
        rw [gz] at b2 b3
        have ez : stW (mvO W r d t) 0 d 8 = mvO W r d t := (stW_all (i := 0) (j := 8) (fun k _ _ => b_0 k) 8 (by omega) (Nat.le_refl _)).trans stW_0
        have en : ncnt (mvO W r d t) 0 8 = 0 := (ncnt_c (c := 0) (fun k _ _ => b_0 k) 8 (by omega) (Nat.le_refl _)).symm
        rw [ez] at b2
        rw [en] at b3
        obtain ⟨a1, a2, a3, a4⟩ := E_X12_pulls_29 (N0 := 0) (mS_fr M b4 (by decide) (by decide)) hf
        refine ⟨t, ht, a1.trans h4, ?_, frM_tr b4 (frM_le a3 (fun c h => h) (fun c h => by cases h)), a4.trans b5, hg, Or.inr gz⟩
        rw [a2, b3, b2, e8]
        exact congrArg (upd _ 8) (nz_one K (by omega))
      · skip
        -- leaf 11: rc8 a0 x1 x2 x3 (x4 + (1 : Int32)) q17.2
        obtain ⟨b1, b2, b3, b4, b5, b6⟩ := r2
        have gn : gv (mvO W r d t) r d ≠ 0 := fun z => c3 (b1.trans (if_pos z))
        rw [h3, h4, Int32.le_iff_toInt_le, nI_toInt (by omega), nI_toInt (by omega)] at c1
        obtain ⟨f, a1, a2, a3, a4, a5, a6, a7⟩ := E_X12_pulls_8 K hr hN k (t + 1) (mS_fr M b4 (by decide) (by decide)) b2 (wOK_sg Kt (by rw [e0]; exact hr) b6) b3 h1 hd h3 (by rw [h4, nI_1]) (by omega) (fun s hs => by
          by_cases q9 : s = t
          · subst q9; exact gn
          · exact hg s (by omega)) hf
        exact ⟨f, a1, a2, a3, frM_tr b4 a4, a5.trans b5, a6, a7⟩
theorem E_X12_pulls {W : jWd} {r : Nat} {d : Bool} {N : Nat} {n : Nat} {a0 : Nat} {x1 : Int32} {x2 : Int32} {x3 : Int32} {h : jH} {q : Int32 × jH} (M : mS (oc h) a0) (hW : wl (oc h) a0 = W) (K : wOK W) (hr : (r : Int) < (W 0).toInt) (hN : N < 500) (h1 : x1 = nI r) (hd : x2 = dI d) (h3 : x3 = nI N) (hf : F_X12_pulls n a0 x1 x2 x3 h = some q) : ∃ f, f ≤ N ∧ q.1 = nI f ∧ wl (oc q.2) a0 = plW W r d f ∧ frM a0 [1] [18] (oc h) (oc q.2) ∧ q.2.1 = h.1 ∧ (∀ s, s < f → gv (mvO W r d s) r d ≠ 0) ∧ (f = N ∨ gv (mvO W r d f) r d = 0) := by
  unfold F_X12_pulls at hf
  replace hf := jbind hf
  obtain ⟨h2, e1, hf⟩ := hf
  obtain ⟨o1, z1⟩ := oc_pf e1
  clear e1
  -- leaf : F_X12_pulls_8 n n a0 x1 x2 x3 (0 : Int32) h2
  have f1 : frM a0 [1] [18] (oc h) (oc h2) := by rw [o1]; exact frM_f (by decide)
  obtain ⟨f, a1, a2, a3, a4, a5, a6, a7⟩ := E_X12_pulls_8 K hr hN n 0 (mS_fr M f1 (by decide) (by decide)) (by rw [o1, wl_n (by omega)]; exact hW) K (by rw [o1, oi_eq]; rfl) h1 hd h3 rfl (Nat.zero_le _) (fun s hs => by omega) hf
  exact ⟨f, a1, a2, a3, frM_tr f1 a4, a5.trans z1, a6, a7⟩
