/-! a pull of the class's rod -/
def bcs (x : Int32) : Nat → Nat
  | 0 => 0
  | i + 1 => bcs x i + if bt x i = true then 1 else 0
theorem b_lt8 {x : Int32} (hb : ∀ j, 8 ≤ j → j < 32 → bt x j = false) : ∃ m, m < 256 ∧ x = nI m := by
  refine ⟨(x &&& 255).toBitVec.toNat, ?_, ?_⟩
  · have : (x &&& 255).toBitVec.toNat = x.toBitVec.toNat &&& 255 := by rw [Int32.toBitVec_and]; rfl
    rw [this]
    exact Nat.lt_succ_of_le Nat.and_le_right
  · have e : x &&& 255 = x := b_ext fun i hi => by
      rw [b_and, b_255]
      by_cases q : i < 8
      · rw [decide_eq_true q, Bool.and_true]
      · rw [hb i (by omega) hi, Bool.false_and]
    rw [e]
    exact Int32.toBitVec_inj.mp (by show _ = BitVec.ofNat 32 _; simp)
set_option maxRecDepth 100000 in
theorem E_bitCount {n : Nat} {x q : Int32} {h : jH} (hb : ∀ j, 8 ≤ j → j < 32 → bt x j = false) (hf : F_J6_bitCount_0f7a4 n x h = some q) : q = nI (bcs x 8) := by
  obtain ⟨m, hm, rfl⟩ := b_lt8 hb
  unfold F_J6_bitCount_0f7a4 at hf
  replace hf := Option.some.inj hf
  rw [← hf]
  clear hf hb
  revert m
  decide +kernel
theorem bcs_n {W : jWd} {v w : Int32} {c : Nat} (h1 : ∀ j, j < c → (bt w j = true ↔ W (14 + 8 * j) = 1)) (h2 : ∀ j, c ≤ j → j < 32 → bt v j = false) : ∀ i, i ≤ 8 → bcs (v &&& (w ^^^ (-1 : Int32))) i = ncnt W v i
  | 0, _ => rfl
  | i + 1, hi => by
    unfold bcs ncnt
    rw [bcs_n h1 h2 i (by omega), b_and, b_xor, b_m1 i (by omega)]
    congr 1
    by_cases z : i < c
    · have a := h1 i z
      cases p : bt v i <;> cases q : bt w i <;> simp_all
    · rw [h2 i (by omega) (by omega)]
      simp
theorem goB_c {W : jWd} {r : Nat} {d : Bool} {v : Int32} (g : goB W r d v) {c : Nat} (hc : (W 0).toInt ≤ (c : Int)) : ∀ j, c ≤ j → j < 32 → bt v j = false := fun j a b => by
  cases q : bt v j with
  | false => rfl
  | true =>
    have := ((g j b).mp q).1.1
    omega
theorem wOK_8 {W : jWd} {x : Int32} (K : wOK W) (hx : 0 ≤ x.toInt ∧ x.toInt ≤ 9999) : wOK (upd W 8 x) := by
  have e : ∀ k, k ≠ 8 → upd W 8 x k = W k := fun k h => upd_ne h
  obtain ⟨k0, k1, k2, k3, k4, k5, k6, k7, k8, k9, k10⟩ := K
  unfold wOK
  rw [e 0 (by decide), e 3 (by decide), e 4 (by decide), e 5 (by decide), e 6 (by decide), e 9 (by decide), e 1 (by decide), upd_eq]
  refine ⟨k0, fun i hi => ?_, fun i hi => ?_, fun i hi => ?_, k4, k5, k6, k7, hx, k9, k10⟩
  · rw [e _ (by omega), e _ (by omega), e _ (by omega), e _ (by omega), e _ (by omega), e _ (by omega), e _ (by omega), e _ (by omega)]
    exact k1 i hi
  · rw [e _ (by omega), e _ (by omega)]
    exact k2 i hi
  · rw [e _ (by omega)]
    exact k3 i hi
theorem wOK_st {W : jWd} {r : Nat} {d : Bool} {v : Int32} (K : wOK W) (g : goB W r d v) (hr : (r : Int) < (W 0).toInt) : wOK (stW W v d 8) := by
  have e : ∀ k, (k < 11 ∨ (k - 11) % 8 ≠ 0) → stW W v d 8 k = W k := fun k h => stW_ot h
  obtain ⟨k0, k1, k2, k3, k4, k5, k6, k7, k8, k9, k10⟩ := id K
  have l1 : (1 : Int32).toInt = 1 := rfl
  have lm : (-1 : Int32).toInt = -1 := rfl
  -- where a ring is behind the step
  have pl : ∀ j : Nat, (j : Int) < (W 0).toInt → (stW W v d 8 (11 + 8 * j)).toInt = (W (11 + 8 * j)).toInt + (if bt v j = true then (if d = true then 1 else -1) else 0) := fun j hj => by
    rw [stW_pl]
    have p := (k1 j hj).1
    by_cases q : bt v j = true
    · rw [if_pos ⟨by omega, q⟩, if_pos q]
      cases d with
      | true => rw [if_pos rfl, if_pos rfl, jadd (by omega) (by omega), l1]
      | false => rw [if_neg (by decide), if_neg (by decide), jadd (by omega) (by omega), lm]
    · rw [if_neg (fun z => q z.2), if_neg q, Int.add_zero]
  have st : ∀ j : Nat, (j : Int) < (W 0).toInt → bt v j = true → (W (11 + 8 * j)).toInt ≠ (if d = true then 31 else 0) := fun j hj q z => by
    have a := (g j (by omega)).mp q
    exact a.2 j a.1 (Or.inl z)
  unfold wOK
  rw [e 0 (by omega), e 3 (by omega), e 4 (by omega), e 5 (by omega), e 6 (by omega), e 8 (by omega), e 9 (by omega), e 1 (by omega)]
  refine ⟨k0, fun i hi => ?_, fun i hi => ?_, fun i hi => ?_, k4, k5, k6, k7, k8, k9, k10⟩
  · rw [e (12 + 8 * i) (by omega), e (13 + 8 * i) (by omega), e (14 + 8 * i) (by omega), e (15 + 8 * i) (by omega), e (16 + 8 * i) (by omega), e (17 + 8 * i) (by omega), e (18 + 8 * i) (by omega), pl i hi]
    obtain ⟨p, rest⟩ := k1 i hi
    refine ⟨?_, rest⟩
    by_cases q : bt v i = true
    · have s := st i hi q
      rw [if_pos q]
      cases d with
      | true => rw [if_pos rfl] at s ⊢; omega
      | false => rw [if_neg (by decide)] at s ⊢; omega
    · rw [if_neg q]; omega
  · have h1 : (i : Int) < (W 0).toInt := by omega
    have h2 : ((i + 1 : Nat) : Int) < (W 0).toInt := by omega
    rw [pl i h1, pl (i + 1) h2]
    have lt := k2 i hi
    -- all that go lie in one row
    by_cases q1 : bt v i = true <;> by_cases q2 : bt v (i + 1) = true
    · rw [if_pos q1, if_pos q2]; omega
    · -- the left one alone goes
      rw [if_pos q1, if_neg q2]
      cases d with
      | false => rw [if_neg (by decide)]; omega
      | true =>
        rw [if_pos rfl]
        obtain ⟨a1, a2⟩ := (g i (by omega)).mp q1
        have ng : ¬ gos W r true (i + 1) := fun z => q2 ((g (i + 1) (by omega)).mpr ⟨z, a2⟩)
        by_cases gap : (W (11 + 8 * (i + 1))).toInt - (W (11 + 8 * i)).toInt = 1
        · exfalso
          refine ng ⟨h2, ?_⟩
          rcases a1.2 with ⟨z1, z2⟩ | ⟨z1, z2⟩
          · refine Or.inl ⟨by omega, fun j u w => ?_⟩
            by_cases y : j = i
            · subst y; exact Or.inr (by rw [if_pos rfl]; exact gap)
            · exact z2 j u (by omega)
          · by_cases y : i = r
            · subst y
              refine Or.inl ⟨by omega, fun j u w => ?_⟩
              have : j = i := by omega
              subst this; exact Or.inr (by rw [if_pos rfl]; exact gap)
            · exact Or.inr ⟨by omega, fun j u w => z2 j (by omega) w⟩
        · omega
    · -- the right one alone goes
      rw [if_neg q1, if_pos q2]
      cases d with
      | true => rw [if_pos rfl]; omega
      | false =>
        rw [if_neg (by decide)]
        obtain ⟨a1, a2⟩ := (g (i + 1) (by omega)).mp q2
        have ng : ¬ gos W r false i := fun z => q1 ((g i (by omega)).mpr ⟨z, a2⟩)
        by_cases gap : (W (11 + 8 * (i + 1))).toInt - (W (11 + 8 * i)).toInt = 1
        · exfalso
          refine ng ⟨h1, ?_⟩
          rcases a1.2 with ⟨z1, z2⟩ | ⟨z1, z2⟩
          · by_cases y : i + 1 = r
            · refine Or.inr ⟨by omega, fun j u w => ?_⟩
              have : j = i := by omega
              subst this; exact Or.inr (by rw [if_pos (by decide)]; exact gap)
            · exact Or.inl ⟨by omega, fun j u w => z2 j u (by omega)⟩
          · refine Or.inr ⟨by omega, fun j u w => ?_⟩
            by_cases y : j = i
            · subst y; exact Or.inr (by rw [if_pos (by decide)]; exact gap)
            · exact z2 j (by omega) w
        · omega
    · rw [if_neg q1, if_neg q2]; omega
  · rw [e (18 + 8 * i) (by omega)]
    exact k3 i hi
theorem upd_upd {W : jWd} {k : Nat} {x y : Int32} : upd (upd W k x) k y = upd W k y := by
  funext j
  by_cases q : j = k
  · subst q; rw [upd_eq, upd_eq]
  · rw [upd_ne q, upd_ne q, upd_ne q]
/-- a step more -/
theorem plW_s {W : jWd} {r : Nat} {d : Bool} {t c : Nat} {v : Int32} (hv : gv (plW W r d t) r d = v) (hc : ∀ j, c ≤ j → j < 8 → bt v j = false) (c8 : c ≤ 8) : plW W r d (t + 1) = upd (stW (plW W r d t) v d c) 8 (nzc W (mvS W r d t + ncnt (plW W r d t) v 8)) := by
  have e1 : gv (mvO W r d t) r d = v := by rw [← hv]; exact (gv_8).symm
  have e2 : ∀ i, ncnt (plW W r d t) v i = ncnt (mvO W r d t) v i := by
    intro i
    induction i with
    | zero => rfl
    | succ i ih => unfold ncnt; rw [ih, show plW W r d t (14 + 8 * i) = mvO W r d t (14 + 8 * i) from upd_ne (by omega)]
  have e3 : stW (mvO W r d t) v d 8 = stW (mvO W r d t) v d c := stW_all (fun k a b => hc k a b) 8 c8 (Nat.le_refl _)
  rw [e2]
  show upd (stW (mvO W r d t) (gv (mvO W r d t) r d) d 8) 8 (nzc W (mvS W r d t + ncnt (mvO W r d t) (gv (mvO W r d t) r d) 8)) = _
  rw [e1, e3]
  unfold plW
  rw [stW_8, upd_upd]
theorem E_X8_move_28 {n : Nat} {rc3 : Nat → Int32 → Int32 → Int32 → Int32 → jH → Option (Int32 × jH)} {W : jWd} {d : Bool} {c : Nat} (K : wOK W) (hc : (W 0).toInt = (c : Int)) : ∀ (k : Nat) {a0 : Nat} {x1 : Int32} {x2 : Int32} {x3 : Int32} {x4 : Int32} {x5 : Int32} {x6 : Int32} {h : jH} {q : Int32 × jH} (i : Nat) (R : rodE (oc h) a0 (stW W x5 d i)) (hd : x2 = dI d) (hx : x6 = nI i) (hi : i ≤ c) (hv : ∀ j, c ≤ j → j < 32 → bt x5 j = false), F_X8_move_28 n rc3 k a0 x1 x2 x3 x4 x5 x6 h = some q → ∃ h2 : jH, rodE (oc h2) a0 (upd (stW W x5 d c) 8 (if W 8 + nI (ncnt W x5 8) < (9999 : Int32) then W 8 + nI (ncnt W x5 8) else (9999 : Int32))) ∧ frR a0 (oc h) (oc h2) ∧ h2.1 = h.1 ∧ rc3 a0 x1 x2 x3 (x4 + (1 : Int32)) h2 = some q
  | 0, a0, x1, x2, x3, x4, x5, x6, h, q, i, R, hd, hx, hi, hv, hf => by cases hf
  | k + 1, a0, x1, x2, x3, x4, x5, x6, h, q, i, R, hd, hx, hi, hv, hf => by
    replace hf : F_X8_move_28_b n rc3 (F_X8_move_28 n rc3 k) a0 x1 x2 x3 x4 x5 x6 h = some q := hf
    unfold F_X8_move_28_b at hf
    obtain ⟨⟨s0, s1, s2, s3, s4, s5⟩, ⟨u5, u10, u11, u12, u13, u14, u15, u16, u17⟩, RB, RC, RL⟩ := id R
    subst hx
    have K0 := K.1
    have ec : stW W x5 d i 0 = W 0 := stW_ot (by omega)
    rw [ec] at RB RC u5
    replace hf := jbind hf
    obtain ⟨v31, e1, hf⟩ := hf
    have r1 := oc_gI e1
    subst r1
    clear e1
    replace hf := jite hf
    rcases hf with ⟨c2, hf⟩ | ⟨c2, hf⟩
    · skip
      replace hf := jbind hf
      obtain ⟨v78, e3, hf⟩ := hf
      have r3 := oc_gI e3
      subst r3
      clear e3
      replace hf := jbind hf
      obtain ⟨v84, e4, hf⟩ := hf
      have r4 := oc_gI e4
      subst r4
      clear e4
      replace hf := jbind hf
      obtain ⟨v90, e5, hf⟩ := hf
      replace hf := jbind hf
      obtain ⟨h97, e6, hf⟩ := hf
      obtain ⟨o6, z6⟩ := oc_pf e6
      clear e6
      -- leaf 0: rc3 a0 x1 x2 x3 (x4 + (1 : Int32)) h97
      have z : i = c := by rw [u5, nI_eI (by omega)] at c2; omega
      subst z
      have rb := E_bitCount (fun j a b => by rw [b_and, hv j (by omega) b, Bool.false_and]) e5
      rw [bcs_n (W := W) (c := i) (fun j hj => by have := (RB j (by omega)).2.2.2.1; rw [stW_ot (by omega)] at this; exact this) hv 8 (Nat.le_refl _)] at rb
      subst rb
      have u15b : oi (oc h) a0 15 = W 8 := by rw [u15]; exact stW_ot (by omega)
      rw [u15b] at o6
      refine ⟨h97, ?_, ?_, z6, hf⟩
      · rw [o6]; exact rodE_i15 R
      · rw [o6]; exact frR_u2 (by omega)
    · skip
      replace hf := jbind hf
      obtain ⟨v41, e7, hf⟩ := hf
      unfold F_X11_bit at e7
      cases e7
      replace hf := jite hf
      rcases hf with ⟨c8, hf⟩ | ⟨c8, hf⟩
      · skip
        replace hf := jbind hf
        obtain ⟨p49, e9, hf⟩ := hf
        have r9 := oc_gR e9
        rw [s0] at r9
        cases r9
        clear e9
        replace hf := jbind hf
        obtain ⟨v55, e10, hf⟩ := hf
        obtain ⟨r10, y10⟩ := oc_al e10
        subst r10
        clear e10
        replace hf := jite hf
        rcases hf with ⟨c11, hf⟩ | ⟨c11, hf⟩
        · skip
          replace hf := jbind hf
          obtain ⟨h66, e12, hf⟩ := hf
          obtain ⟨o12, z12, y12⟩ := oc_as e12
          rw [jnar0] at o12
          clear e12
          -- leaf 100: rc28 a0 x1 x2 x3 x4 x5 (x6 + (1 : Int32)) h66
          have z : i < c := by rw [u5, nI_eI (by omega)] at c2; omega
          rw [b_ask (by omega)] at c8
          rw [nI_cl (by omega), (RB i (by omega)).1] at o12
          have R2 : rodE (oc h66) a0 (stW W x5 d (i + 1)) := by
            rw [stW_s c8, o12]
            cases d with
            | false => exact rodE_pl R (by omega)
            | true => exact absurd (hd.symm.trans c11) (by decide)
          obtain ⟨h2, r2, f2, z2, e2⟩ := E_X8_move_28 K hc k (i + 1) R2 hd (nI_1 i) (by omega) hv hf
          exact ⟨h2, r2, frR_tr (by rw [o12]; exact frR_u2 (by omega)) f2, z2.trans z12, e2⟩
        · skip
          replace hf := jbind hf
          obtain ⟨h66, e13, hf⟩ := hf
          obtain ⟨o13, z13, y13⟩ := oc_as e13
          rw [jnar0] at o13
          clear e13
          -- leaf 101: rc28 a0 x1 x2 x3 x4 x5 (x6 + (1 : Int32)) h66
          have z : i < c := by rw [u5, nI_eI (by omega)] at c2; omega
          rw [b_ask (by omega)] at c8
          rw [nI_cl (by omega), (RB i (by omega)).1] at o13
          have R2 : rodE (oc h66) a0 (stW W x5 d (i + 1)) := by
            rw [stW_s c8, o13]
            cases d with
            | true => exact rodE_pl R (by omega)
            | false => exact absurd hd c11
          obtain ⟨h2, r2, f2, z2, e2⟩ := E_X8_move_28 K hc k (i + 1) R2 hd (nI_1 i) (by omega) hv hf
          exact ⟨h2, r2, frR_tr (by rw [o13]; exact frR_u2 (by omega)) f2, z2.trans z13, e2⟩
      · skip
        -- leaf 11: rc28 a0 x1 x2 x3 x4 x5 (x6 + (1 : Int32)) h
        have z : i < c := by rw [u5, nI_eI (by omega)] at c2; omega
        rw [b_ask (by omega)] at c8
        have n8 : bt x5 i = false := by cases q9 : bt x5 i with | false => rfl | true => exact absurd q9 c8
        exact E_X8_move_28 K hc k (i + 1) (by rw [stW_n n8]; exact R) hd (nI_1 i) (by omega) hv hf
theorem E_X8_move_3 {n : Nat} {W : jWd} {d : Bool} {r : Nat} {N : Nat} (K : wOK W) (hr : (r : Int) < (W 0).toInt) (hN : N < 500) : ∀ (k : Nat) {a0 : Nat} {x1 : Int32} {x2 : Int32} {x3 : Int32} {x4 : Int32} {h : jH} {q : Int32 × jH} (t : Nat) (R : rodE (oc h) a0 (plW W r d t)) (Kt : wOK (plW W r d t)) (hd : x2 = dI d) (hx : x1 = nI r) (h3 : x3 = nI N) (h4 : x4 = nI t) (ht : t ≤ N) (hg : ∀ s, s < t → gv (mvO W r d s) r d ≠ 0), F_X8_move_3 n k a0 x1 x2 x3 x4 h = some q → ∃ f, f ≤ N ∧ q.1 = nI f ∧ rodE (oc q.2) a0 (plW W r d f) ∧ wOK (plW W r d f) ∧ frR a0 (oc h) (oc q.2) ∧ q.2.1 = h.1 ∧ (∀ s, s < f → gv (mvO W r d s) r d ≠ 0) ∧ (f = N ∨ gv (mvO W r d f) r d = 0)
  | 0, a0, x1, x2, x3, x4, h, q, t, R, Kt, hd, hx, h3, h4, ht, hg, hf => by cases hf
  | k + 1, a0, x1, x2, x3, x4, h, q, t, R, Kt, hd, hx, h3, h4, ht, hg, hf => by
    replace hf : F_X8_move_3_b n (F_X8_move_3 n k) a0 x1 x2 x3 x4 h = some q := hf
    unfold F_X8_move_3_b at hf
    have K0 := K.1
    have e0 : plW W r d t 0 = W 0 := (upd_ne (by decide)).trans (mvO_ot (Or.inl (by decide)) t)
    obtain ⟨c, hc⟩ : ∃ c : Nat, (plW W r d t 0).toInt = (c : Int) := ⟨(W 0).toInt.toNat, by rw [e0]; omega⟩
    have hc0 : (W 0).toInt = (c : Int) := by rw [← e0]; exact hc
    have g8 : gv (plW W r d t) r d = gv (mvO W r d t) r d := gv_8
    have ls := mvS_le (W := W) (r := r) (d := d) t
    replace hf := jite hf
    rcases hf with ⟨c1, hf⟩ | ⟨c1, hf⟩
    · skip
      cases hf
      -- leaf 0: (x3, h)
      rw [h3, h4, Int32.le_iff_toInt_le, nI_toInt (by omega), nI_toInt (by omega)] at c1
      have z9 : t = N := by omega
      subst z9
      exact ⟨t, ht, h3, R, Kt, frR_rfl, rfl, hg, Or.inl rfl⟩
    · skip
      replace hf := jbind hf
      obtain ⟨v12, e2, hf⟩ := hf
      replace e2 := (jcv_o e2).2
      have r2 := E_X8_goers R Kt hx (by rw [e0]; exact hr) hd e2
      replace hf := jite hf
      rcases hf with ⟨c3, hf⟩ | ⟨c3, hf⟩
      · skip
        cases hf
        -- leaf 10: (x4, h)
        have gz : gv (mvO W r d t) r d = 0 := g8.symm.trans ((gv_of r2).trans c3)
        exact ⟨t, ht, h4, R, Kt, frR_rfl, rfl, hg, Or.inr gz⟩
      · skip
        -- leaf 11: F_X8_move_28 n rc3 n a0 x1 x2 x3 x4 v12 (0 : Int32) h
        have ge : gv (plW W r d t) r d = v12 := gv_of r2
        have gn : gv (mvO W r d t) r d ≠ 0 := fun z => c3 (ge.symm.trans (g8.trans z))
        rw [h3, h4, Int32.le_iff_toInt_le, nI_toInt (by omega), nI_toInt (by omega)] at c1
        have hv := goB_c r2 (c := c) (by omega)
        have nl := ncnt_le (W := plW W r d t) (v := v12) 8
        have es := plW_s ge (c := c) (fun j a b => hv j a (by omega)) (by omega)
        obtain ⟨h2, R2, f2, z2, hf⟩ := E_X8_move_28 Kt hc n 0 (by rw [stW_0]; exact R) hd rfl (Nat.zero_le _) hv hf
        rw [show plW W r d t 8 = nzc W (mvS W r d t) from upd_eq, nzc_s K (by omega) (by omega), ← es] at R2
        have K2 : wOK (plW W r d (t + 1)) := by
          rw [es]
          rw [← stW_all (fun k a b => hv k a (by omega)) 8 (by omega) (Nat.le_refl _)]
          refine wOK_8 (wOK_st Kt r2 (by rw [e0]; exact hr)) ?_
          have nn := nzc_i K (s := mvS W r d t + ncnt (plW W r d t) v12 8) (by omega)
          obtain ⟨-, -, -, -, -, -, -, -, k8, -⟩ := id K
          rw [nn]; split <;> omega
        obtain ⟨f, a1, a2, a3, a4, a5, a6, a7, a8⟩ := E_X8_move_3 K hr hN k (t + 1) R2 K2 hd hx h3 (by rw [h4, nI_1]) (by omega) (fun s hs => by
          by_cases q9 : s = t
          · subst q9; exact gn
          · exact hg s (by omega)) hf
        exact ⟨f, a1, a2, a3, a4, frR_tr f2 a5, a6.trans z2, a7, a8⟩
theorem E_X8_move {W : jWd} {d : Bool} {r : Nat} {N : Nat} {n : Nat} {a0 : Nat} {x1 : Int32} {x2 : Int32} {x3 : Int32} {h : jH} {q : Int32 × jH} (R : rodE (oc h) a0 W) (K : wOK W) (hr : (r : Int) < (W 0).toInt) (hN : N < 500) (hx : x1 = nI r) (hd : x2 = dI d) (h3 : x3 = nI N) (hf : F_X8_move n a0 x1 x2 x3 h = some q) : ∃ f, f ≤ N ∧ q.1 = nI f ∧ rodE (oc q.2) a0 (plW W r d f) ∧ wOK (plW W r d f) ∧ frR a0 (oc h) (oc q.2) ∧ q.2.1 = h.1 ∧ (∀ s, s < f → gv (mvO W r d s) r d ≠ 0) ∧ (f = N ∨ gv (mvO W r d f) r d = 0) := by
  unfold F_X8_move at hf
  -- leaf : F_X8_move_3 n n a0 x1 x2 x3 (0 : Int32) h
  exact E_X8_move_3 K hr hN n 0 (by rw [plW_0 K]; exact R) (by rw [plW_0 K]; exact K) hd hx h3 rfl (Nat.zero_le _) (fun s hs => by omega) hf
