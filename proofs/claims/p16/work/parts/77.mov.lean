section
/-! a pull of the class's rod -/
def bcs (x : Int32) : Nat → Nat
  | 0 => 0
  | i + 1 => bcs x i + if bt x i = true then 1 else 0
theorem b_lt8 {x : Int32} (hb : ∀ j, 8 ≤ j → j < 32 → bt x j = false) : ∃ m, m < 256 ∧ x = nI m := by
  refine ⟨(x &&& 255).toBitVec.toNat, ?_, ?_⟩
  · have : (x &&& 255).toBitVec.toNat = x.toBitVec.toNat &&& 255 := by rw [Int32.toBitVec_and]; rfl
    rw [this]
    exact Nat.lt_succ_of_le Nat.and_le_right
  · have e : x &&& 255 = x := b_ext fun i hi => by
      rw [b_and, b_255]
      by_cases q : i < 8
      · rw [decide_eq_true q, Bool.and_true]
      · rw [hb i (by omega) hi, Bool.false_and]
    rw [e]
    exact Int32.toBitVec_inj.mp (by show _ = BitVec.ofNat 32 _; simp)
set_option maxRecDepth 100000 in
theorem E_bitCount {n : Nat} {x q : Int32} {h : jH} (hb : ∀ j, 8 ≤ j → j < 32 → bt x j = false) (hf : F_J6_bitCount_0f7a4 n x h = some q) : q = nI (bcs x 8) := by
  obtain ⟨m, hm, rfl⟩ := b_lt8 hb
  unfold F_J6_bitCount_0f7a4 at hf
  replace hf := Option.some.inj hf
  rw [← hf]
  clear hf hb
  revert m
  decide +kernel
theorem bcs_n {W : jWd} {v w : Int32} {c : Nat} (h1 : ∀ j, j < c → (bt w j = true ↔ W (14 + 8 * j) = 1)) (h2 : ∀ j, c ≤ j → j < 32 → bt v j = false) : ∀ i, i ≤ 8 → bcs (v &&& (w ^^^ (-1 : Int32))) i = ncnt W v i
  | 0, _ => rfl
  | i + 1, hi => by
    unfold bcs ncnt
    rw [bcs_n h1 h2 i (by omega), b_and, b_xor, b_m1 i (by omega)]
    congr 1
    by_cases z : i < c
    · have a := h1 i z
      cases p : bt v i <;> cases q : bt w i <;> simp_all
    · rw [h2 i (by omega) (by omega)]
      simp
theorem goB_c {W : jWd} {r : Nat} {d : Bool} {v : Int32} (g : goB W r d v) {c : Nat} (hc : (W 0).toInt ≤ (c : Int)) : ∀ j, c ≤ j → j < 32 → bt v j = false := fun j a b => by
  cases q : bt v j with
  | false => rfl
  | true =>
    have := ((g j b).mp q).1.1
    omega
theorem wOK_8 {W : jWd} {x : Int32} (K : wOK W) (hx : 0 ≤ x.toInt ∧ x.toInt ≤ 9999) : wOK (upd W 8 x) := by
  have e : ∀ k, k ≠ 8 → upd W 8 x k = W k := fun k h => upd_ne h
  obtain ⟨k0, k1, k2, k3, k4, k5, k6, k7, k8, k9, k10⟩ := K
  unfold wOK
  rw [e 0 (by decide), e 3 (by decide), e 4 (by decide), e 5 (by decide), e 6 (by decide), e 9 (by decide), e 1 (by decide), upd_eq]
  refine ⟨k0, fun i hi => ?_, fun i hi => ?_, fun i hi => ?_, k4, k5, k6, k7, hx, k9, k10⟩
  · rw [e _ (by omega), e _ (by omega), e _ (by omega), e _ (by omega), e _ (by omega), e _ (by omega), e _ (by omega), e _ (by omega)]
    exact k1 i hi
  · rw [e _ (by omega), e _ (by omega)]
    exact k2 i hi
  · rw [e _ (by omega)]
    exact k3 i hi
theorem wOK_st {W : jWd} {r : Nat} {d : Bool} {v : Int32} (K : wOK W) (g : goB W r d v) (hr : (r : Int) < (W 0).toInt) : wOK (stW W v d 8) := by
  have e : ∀ k, (k < 11 ∨ (k - 11) % 8 ≠ 0) → stW W v d 8 k = W k := fun k h => stW_ot h
  obtain ⟨k0, k1, k2, k3, k4, k5, k6, k7, k8, k9, k10⟩ := id K
  have l1 : (1 : Int32).toInt = 1 := rfl
  have lm : (-1 : Int32).toInt = -1 := rfl
  -- where a ring is behind the step
  have pl : ∀ j : Nat, (j : Int) < (W 0).toInt → (stW W v d 8 (11 + 8 * j)).toInt = (W (11 + 8 * j)).toInt + (if bt v j = true then (if d = true then 1 else -1) else 0) := fun j hj => by
    rw [stW_pl]
    have p := (k1 j hj).1
    by_cases q : bt v j = true
    · rw [if_pos ⟨by omega, q⟩, if_pos q]
      cases d with
      | true => rw [if_pos rfl, if_pos rfl, jadd (by omega) (by omega), l1]
      | false => rw [if_neg (by decide), if_neg (by decide), jadd (by omega) (by omega), lm]
    · rw [if_neg (fun z => q z.2), if_neg q, Int.add_zero]
  have st : ∀ j : Nat, (j : Int) < (W 0).toInt → bt v j = true → (W (11 + 8 * j)).toInt ≠ (if d = true then 31 else 0) := fun j hj q z => by
    have a := (g j (by omega)).mp q
    exact a.2 j a.1 (Or.inl z)
  unfold wOK
  rw [e 0 (by omega), e 3 (by omega), e 4 (by omega), e 5 (by omega), e 6 (by omega), e 8 (by omega), e 9 (by omega), e 1 (by omega)]
  refine ⟨k0, fun i hi => ?_, fun i hi => ?_, fun i hi => ?_, k4, k5, k6, k7, k8, k9, k10⟩
  · rw [e (12 + 8 * i) (by omega), e (13 + 8 * i) (by omega), e (14 + 8 * i) (by omega), e (15 + 8 * i) (by omega), e (16 + 8 * i) (by omega), e (17 + 8 * i) (by omega), e (18 + 8 * i) (by omega), pl i hi]
    obtain ⟨p, rest⟩ := k1 i hi
    refine ⟨?_, rest⟩
    by_cases q : bt v i = true
    · have s := st i hi q
      rw [if_pos q]
      cases d with
      | true => rw [if_pos rfl] at s ⊢; omega
      | false => rw [if_neg (by decide)] at s ⊢; omega
    · rw [if_neg q]; omega
  · have h1 : (i : Int) < (W 0).toInt := by omega
    have h2 : ((i + 1 : Nat) : Int) < (W 0).toInt := by omega
    rw [pl i h1, pl (i + 1) h2]
    have lt := k2 i hi
    -- all that go lie in one row
    by_cases q1 : bt v i = true <;> by_cases q2 : bt v (i + 1) = true
    · rw [if_pos q1, if_pos q2]; omega
    · -- the left one alone goes
      rw [if_pos q1, if_neg q2]
      cases d with
      | false => rw [if_neg (by decide)]; omega
      | true =>
        rw [if_pos rfl]
        obtain ⟨a1, a2⟩ := (g i (by omega)).mp q1
        have ng : ¬ gos W r true (i + 1) := fun z => q2 ((g (i + 1) (by omega)).mpr ⟨z, a2⟩)
        by_cases gap : (W (11 + 8 * (i + 1))).toInt - (W (11 + 8 * i)).toInt = 1
        · exfalso
          refine ng ⟨h2, ?_⟩
          rcases a1.2 with ⟨z1, z2⟩ | ⟨z1, z2⟩
          · refine Or.inl ⟨by omega, fun j u w => ?_⟩
            by_cases y : j = i
            · subst y; exact Or.inr (by rw [if_pos rfl]; exact gap)
            · exact z2 j u (by omega)
          · by_cases y : i = r
            · subst y
              refine Or.inl ⟨by omega, fun j u w => ?_⟩
              have : j = i := by omega
              subst this; exact Or.inr (by rw [if_pos rfl]; exact gap)
            · exact Or.inr ⟨by omega, fun j u w => z2 j (by omega) w⟩
        · omega
    · -- the right one alone goes
      rw [if_neg q1, if_pos q2]
      cases d with
      | true => rw [if_pos rfl]; omega
      | false =>
        rw [if_neg (by decide)]
        obtain ⟨a1, a2⟩ := (g (i + 1) (by omega)).mp q2
        have ng : ¬ gos W r false i := fun z => q1 ((g i (by omega)).mpr ⟨z, a2⟩)
        by_cases gap : (W (11 + 8 * (i + 1))).toInt - (W (11 + 8 * i)).toInt = 1
        · exfalso
          refine ng ⟨h1, ?_⟩
          rcases a1.2 with ⟨z1, z2⟩ | ⟨z1, z2⟩
          · by_cases y : i + 1 = r
            · refine Or.inr ⟨by omega, fun j u w => ?_⟩
              have : j = i := by omega
              subst this; exact Or.inr (by rw [if_pos (by decide)]; exact gap)
            · exact Or.inl ⟨by omega, fun j u w => z2 j u (by omega)⟩
          · refine Or.inr ⟨by omega, fun j u w => ?_⟩
            by_cases y : j = i
            · subst y; exact Or.inr (by rw [if_pos (by decide)]; exact gap)
            · exact z2 j (by omega) w
        · omega
    · rw [if_neg q1, if_neg q2]; omega
  · rw [e (18 + 8 * i) (by omega)]
    exact k3 i hi
theorem upd_upd {W : jWd} {k : Nat} {x y : Int32} : upd (upd W k x) k y = upd W k y := by
  funext j
  by_cases q : j = k
  · subst q; rw [upd_eq, upd_eq]
  · rw [upd_ne q, upd_ne q, upd_ne q]
/-- a step more -/
theorem plW_s {W : jWd} {r : Nat} {d : Bool} {t c : Nat} {v : Int32} (hv : gv (plW W r d t) r d = v) (hc : ∀ j, c ≤ j → j < 8 → bt v j = false) (c8 : c ≤ 8) : plW W r d (t + 1) = upd (stW (plW W r d t) v d c) 8 (nzc W (mvS W r d t + ncnt (plW W r d t) v 8)) := by
  have e1 : gv (mvO W r d t) r d = v := by rw [← hv]; exact (gv_8).symm
  have e2 : ∀ i, ncnt (plW W r d t) v i = ncnt (mvO W r d t) v i := by
    intro i
    induction i with
    | zero => rfl
    | succ i ih => unfold ncnt; rw [ih, show plW W r d t (14 + 8 * i) = mvO W r d t (14 + 8 * i) from upd_ne (by omega)]
  have e3 : stW (mvO W r d t) v d 8 = stW (mvO W r d t) v d c := stW_all (fun k a b => hc k a b) 8 c8 (Nat.le_refl _)
  rw [e2]
  show upd (stW (mvO W r d t) (gv (mvO W r d t) r d) d 8) 8 (nzc W (mvS W r d t + ncnt (mvO W r d t) (gv (mvO W r d t) r d) 8)) = _
  rw [e1, e3]
  unfold plW
  rw [stW_8, upd_upd]
theorem E_X8_move_28 {n : Nat} {rc3 : Nat → Int32 → Int32 → Int32 → Int32 → jH → Option (Int32 × jH)} {W : jWd} {d : Bool} {c : Nat} (K : wOK W) (hc : (W 0).toInt = (c : Int)) : ∀ (k : Nat) {a0 : Nat} {x1 : Int32} {x2 : Int32} {x3 : Int32} {x4 : Int32} {x5 : Int32} {x6 : Int32} {h : jH} {q : Int32 × jH} (i : Nat) (R : rodE (oc h) a0 (stW W x5 d i)) (hd : x2 = dI d) (hx : x6 = nI i) (hi : i ≤ c) (hv : ∀ j, c ≤ j → j < 32 → bt x5 j = false), F_X8_move_28 n rc3 k a0 x1 x2 x3 x4 x5 x6 h = some q → ∃ h2 : jH, rodE (oc h2) a0 (upd (stW W x5 d c) 8 (if W 8 + nI (ncnt W x5 8) < (9999 : Int32) then W 8 + nI (ncnt W x5 8) else (9999 : Int32))) ∧ frR a0 (oc h) (oc h2) ∧ h2.1 = h.1 ∧ rc3 a0 x1 x2 x3 (x4 + (1 : Int32)) h2 = some q
  | 0, a0, x1, x2, x3, x4, x5, x6, h, q, i, R, hd, hx, hi, hv, hf => by cases hf
  | k + 1, a0, x1, x2, x3, x4, x5, x6, h, q, i, R, hd, hx, hi, hv, hf => by
    replace hf : F_X8_move_28_b n rc3 (F_X8_move_28 n rc3 k) a0 x1 x2 x3 x4 x5 x6 h = some q := hf
    unfold F_X8_move_28_b at hf
    obtain ⟨⟨s0, s1, s2, s3, s4, s5⟩, ⟨u5, u10, u11, u12, u13, u14, u15, u16, u17⟩, RB, RC, RL⟩ := id R
    subst hx
    have K0 := K.1
    have ec : stW W x5 d i 0 = W 0 := stW_ot (by omega)
    rw [ec] at RB RC u5
    replace hf := jbind hf
    obtain ⟨v31, e1, hf⟩ := hf
    have r1 := oc_gI e1
    subst r1
    clear e1
    replace hf := jite hf
    rcases hf with ⟨c2, hf⟩ | ⟨c2, hf⟩
    · skip
      replace hf := jbind hf
      obtain ⟨v78, e3, hf⟩ := hf
      have r3 := oc_gI e3
      subst r3
      clear e3
      replace hf := jbind hf
      obtain ⟨v84, e4, hf⟩ := hf
      have r4 := oc_gI e4
      subst r4
      clear e4
      replace hf := jbind hf
      obtain ⟨v90, e5, hf⟩ := hf
      replace hf := jbind hf
      obtain ⟨h97, e6, hf⟩ := hf
      obtain ⟨o6, z6⟩ := oc_pf e6
      clear e6
      -- leaf 0: rc3 a0 x1 x2 x3 (x4 + (1 : Int32)) h97
      have z : i = c := by rw [u5, nI_eI (by omega)] at c2; omega
      subst z
      have rb := E_bitCount (fun j a b => by rw [b_and, hv j (by omega) b, Bool.false_and]) e5
      rw [bcs_n (W := W) (c := i) (fun j hj => by have := (RB j (by omega)).2.2.2.1; rw [stW_ot (by omega)] at this; exact this) hv 8 (Nat.le_refl _)] at rb
      subst rb
      have u15b : oi (oc h) a0 15 = W 8 := by rw [u15]; exact stW_ot (by omega)
      rw [u15b] at o6
      refine ⟨h97, ?_, ?_, z6, hf⟩
      · rw [o6]; exact rodE_i15 R
      · rw [o6]; exact frR_u2 (by omega)
    · skip
      replace hf := jbind hf
      obtain ⟨v41, e7, hf⟩ := hf
      unfold F_X11_bit at e7
      cases e7
      replace hf := jite hf
      rcases hf with ⟨c8, hf⟩ | ⟨c8, hf⟩
      · skip
        replace hf := jbind hf
        obtain ⟨p49, e9, hf⟩ := hf
        have r9 := oc_gR e9
        rw [s0] at r9
        cases r9
        clear e9
        replace hf := jbind hf
        obtain ⟨v55, e10, hf⟩ := hf
        obtain ⟨r10, y10⟩ := oc_al e10
        subst r10
        clear e10
        replace hf := jite hf
        rcases hf with ⟨c11, hf⟩ | ⟨c11, hf⟩
        · skip
          replace hf := jbind hf
          obtain ⟨h66, e12, hf⟩ := hf
          obtain ⟨o12, z12, y12⟩ := oc_as e12
          rw [jnar0] at o12
          clear e12
          -- leaf 100: rc28 a0 x1 x2 x3 x4 x5 (x6 + (1 : Int32)) h66
          have z : i < c := by rw [u5, nI_eI (by omega)] at c2; omega
          rw [b_ask (by omega)] at c8
          rw [nI_cl (by omega), (RB i (by omega)).1] at o12
          have R2 : rodE (oc h66) a0 (stW W x5 d (i + 1)) := by
            rw [stW_s c8, o12]
            cases d with
            | false => exact rodE_pl R (by omega)
            | true => exact absurd (hd.symm.trans c11) (by decide)
          obtain ⟨h2, r2, f2, z2, e2⟩ := E_X8_move_28 K hc k (i + 1) R2 hd (nI_1 i) (by omega) hv hf
          exact ⟨h2, r2, frR_tr (by rw [o12]; exact frR_u2 (by omega)) f2, z2.trans z12, e2⟩
        · skip
          replace hf := jbind hf
          obtain ⟨h66, e13, hf⟩ := hf
          obtain ⟨o13, z13, y13⟩ := oc_as e13
          rw [jnar0] at o13
          clear e13
          -- leaf 101: rc28 a0 x1 x2 x3 x4 x5 (x6 + (1 : Int32)) h66
          have z : i < c := by rw [u5, nI_eI (by omega)] at c2; omega
          rw [b_ask (by omega)] at c8
          rw [nI_cl (by omega), (RB i (by omega)).1] at o13
          have R2 : rodE (oc h66) a0 (stW W x5 d (i + 1)) := by
            rw [stW_s c8, o13]
            cases d with
            | true => exact rodE_pl R (by omega)
            | false => exact absurd hd c11
          obtain ⟨h2, r2, f2, z2, e2⟩ := E_X8_move_28 K hc k (i + 1) R2 hd (nI_1 i) (by omega) hv hf
          exact ⟨h2, r2, frR_tr (by rw [o13]; exact frR_u2 (by omega)) f2, z2.trans z13, e2⟩
      · skip
        -- leaf 11: rc28 a0 x1 x2 x3 x4 x5 (x6 + (1 : Int32)) h
        have z : i < c := by rw [u5, nI_eI (by omega)] at c2; omega
        rw [b_ask (by omega)] at c8
        have n8 : bt x5 i = false := by cases q9 : bt x5 i with | false => rfl | true => exact absurd q9 c8
        exact E_X8_move_28 K hc k (i + 1) (by rw [stW_n n8]; exact R) hd (nI_1 i) (by omega) hv hf
theorem E_X8_move_3 {n : Nat} {W : jWd} {d : Bool} {r : Nat} {N : Nat} (K : wOK W) (hr : (r : Int) < (W 0).toInt) (hN : N < 500) : ∀ (k : Nat) {a0 : Nat} {x1 : Int32} {x2 : Int32} {x3 : Int32} {x4 : Int32} {h : jH} {q : Int32 × jH} (t : Nat) (R : rodE (oc h) a0 (plW W r d t)) (Kt : wOK (plW W r d t)) (hd : x2 = dI d) (hx : x1 = nI r) (h3 : x3 = nI N) (h4 : x4 = nI t) (ht : t ≤ N) (hg : ∀ s, s < t → gv (mvO W r d s) r d ≠ 0), F_X8_move_3 n k a0 x1 x2 x3 x4 h = some q → ∃ f, f ≤ N ∧ q.1 = nI f ∧ rodE (oc q.2) a0 (plW W r d f) ∧ wOK (plW W r d f) ∧ frR a0 (oc h) (oc q.2) ∧ q.2.1 = h.1 ∧ (∀ s, s < f → gv (mvO W r d s) r d ≠ 0) ∧ (f = N ∨ gv (mvO W r d f) r d = 0)
  | 0, a0, x1, x2, x3, x4, h, q, t, R, Kt, hd, hx, h3, h4, ht, hg, hf => by cases hf
  | k + 1, a0, x1, x2, x3, x4, h, q, t, R, Kt, hd, hx, h3, h4, ht, hg, hf => by
    replace hf : F_X8_move_3_b n (F_X8_move_3 n k) a0 x1 x2 x3 x4 h = some q := hf
    unfold F_X8_move_3_b at hf
    have K0 := K.1
    have e0 : plW W r d t 0 = W 0 := (upd_ne (by decide)).trans (mvO_ot (Or.inl (by decide)) t)
    obtain ⟨c, hc⟩ : ∃ c : Nat, (plW W r d t 0).toInt = (c : Int) := ⟨(W 0).toInt.toNat, by rw [e0]; omega⟩
    have hc0 : (W 0).toInt = (c : Int) := by rw [← e0]; exact hc
    have g8 : gv (plW W r d t) r d = gv (mvO W r d t) r d := gv_8
    have ls := mvS_le (W := W) (r := r) (d := d) t
    replace hf := jite hf
    rcases hf with ⟨c1, hf⟩ | ⟨c1, hf⟩
    · skip
      cases hf
      -- leaf 0: (x3, h)
      rw [h3, h4, Int32.le_iff_toInt_le, nI_toInt (by omega), nI_toInt (by omega)] at c1
      have z9 : t = N := by omega
      subst z9
      exact ⟨t, ht, h3, R, Kt, frR_rfl, rfl, hg, Or.inl rfl⟩
    · skip
      replace hf := jbind hf
      obtain ⟨v12, e2, hf⟩ := hf
      replace e2 := (jcv_o e2).2
      have r2 := E_X8_goers R Kt hx (by rw [e0]; exact hr) hd e2
      replace hf := jite hf
      rcases hf with ⟨c3, hf⟩ | ⟨c3, hf⟩
      · skip
        cases hf
        -- leaf 10: (x4, h)
        have gz : gv (mvO W r d t) r d = 0 := g8.symm.trans ((gv_of r2).trans c3)
        exact ⟨t, ht, h4, R, Kt, frR_rfl, rfl, hg, Or.inr gz⟩
      · skip
        -- leaf 11: F_X8_move_28 n rc3 n a0 x1 x2 x3 x4 v12 (0 : Int32) h
        have ge : gv (plW W r d t) r d = v12 := gv_of r2
        have gn : gv (mvO W r d t) r d ≠ 0 := fun z => c3 (ge.symm.trans (g8.trans z))
        rw [h3, h4, Int32.le_iff_toInt_le, nI_toInt (by omega), nI_toInt (by omega)] at c1
        have hv := goB_c r2 (c := c) (by omega)
        have nl := ncnt_le (W := plW W r d t) (v := v12) 8
        have es := plW_s ge (c := c) (fun j a b => hv j a (by omega)) (by omega)
        obtain ⟨h2, R2, f2, z2, hf⟩ := E_X8_move_28 Kt hc n 0 (by rw [stW_0]; exact R) hd rfl (Nat.zero_le _) hv hf
        rw [show plW W r d t 8 = nzc W (mvS W r d t) from upd_eq, nzc_s K (by omega) (by omega), ← es] at R2
        have K2 : wOK (plW W r d (t + 1)) := by
          rw [es]
          rw [← stW_all (fun k a b => hv k a (by omega)) 8 (by omega) (Nat.le_refl _)]
          refine wOK_8 (wOK_st Kt r2 (by rw [e0]; exact hr)) ?_
          have nn := nzc_i K (s := mvS W r d t + ncnt (plW W r d t) v12 8) (by omega)
          obtain ⟨-, -, -, -, -, -, -, -, k8, -⟩ := id K
          rw [nn]; split <;> omega
        obtain ⟨f, a1, a2, a3, a4, a5, a6, a7, a8⟩ := E_X8_move_3 K hr hN k (t + 1) R2 K2 hd hx h3 (by rw [h4, nI_1]) (by omega) (fun s hs => by
          by_cases q9 : s = t
          · subst q9; exact gn
          · exact hg s (by omega)) hf
        exact ⟨f, a1, a2, a3, a4, frR_tr f2 a5, a6.trans z2, a7, a8⟩
theorem E_X8_move {W : jWd} {d : Bool} {r : Nat} {N : Nat} {n : Nat} {a0 : Nat} {x1 : Int32} {x2 : Int32} {x3 : Int32} {h : jH} {q : Int32 × jH} (R : rodE (oc h) a0 W) (K : wOK W) (hr : (r : Int) < (W 0).toInt) (hN : N < 500) (hx : x1 = nI r) (hd : x2 = dI d) (h3 : x3 = nI N) (hf : F_X8_move n a0 x1 x2 x3 h = some q) : ∃ f, f ≤ N ∧ q.1 = nI f ∧ rodE (oc q.2) a0 (plW W r d f) ∧ wOK (plW W r d f) ∧ frR a0 (oc h) (oc q.2) ∧ q.2.1 = h.1 ∧ (∀ s, s < f → gv (mvO W r d s) r d ≠ 0) ∧ (f = N ∨ gv (mvO W r d f) r d = 0) := by
  unfold F_X8_move at hf
  -- leaf : F_X8_move_3 n n a0 x1 x2 x3 (0 : Int32) h
  exact E_X8_move_3 K hr hN n 0 (by rw [plW_0 K]; exact R) (by rw [plW_0 K]; exact K) hd hx h3 rfl (Nat.zero_le _) (fun s hs => by omega) hf
end
section
/-! the reference's world: readers -/
def mS (O : jO) (m : Nat) : Prop := O m 1 = .ref (m + 1) ∧ O m 2 = .ref (m + 2) ∧ O m 3 = .ref (m + 3) ∧ O m 4 = .ref (m + 4) ∧ O m 5 = .ref (m + 5) ∧ O m 8 = .ref (m + 6) ∧ O m 15 = .ref (m + 7) ∧ O m 17 = .ref (m + 8) ∧ O m 19 = .ref (m + 9) ∧ O m 20 = .ref (m + 10) ∧ O m 21 = .ref (m + 11)
abbrev wl (O : jO) (m : Nat) : jWd := fun k => oi O (m + 1) k
theorem wl_w {O : jO} {m k : Nat} {x : Int32} : wl (u2 O (m + 1) k (.int x)) m = upd (wl O m) k x := by
  funext j
  by_cases q : j = k
  · subst q; rw [upd_eq]; exact oi_eq
  · rw [upd_ne q]; exact oi_ne (Or.inr q)
theorem wl_n {O : jO} {m a k : Nat} {v : Value} (h : a ≠ m + 1) : wl (u2 O a k v) m = wl O m := by
  funext j
  exact oi_ne (Or.inl (fun q => h q.symm))
theorem nI_mul (a b : Nat) : nI a * nI b = nI (a * b) := (Int32.ofNat_mul a b).symm
/-- changed are the cells m + c, c of cs, and of m the fields of fs alone -/
def frM (m : Nat) (cs fs : List Nat) (O O2 : jO) : Prop := ∀ b k, (∀ c ∈ cs, b ≠ m + c) → (b = m → k ∉ fs) → O2 b k = O b k
theorem frM_rfl {m : Nat} {cs fs : List Nat} {O : jO} : frM m cs fs O O := fun _ _ _ _ => rfl
theorem frM_tr {m : Nat} {cs fs : List Nat} {O O2 O3 : jO} (a : frM m cs fs O O2) (b : frM m cs fs O2 O3) : frM m cs fs O O3 := fun x k h q => (b x k h q).trans (a x k h q)
theorem frM_le {m : Nat} {cs fs cs2 fs2 : List Nat} {O O2 : jO} (a : frM m cs fs O O2) (h1 : ∀ c ∈ cs, c ∈ cs2) (h2 : ∀ c ∈ fs, c ∈ fs2) : frM m cs2 fs2 O O2 := fun x k h q => a x k (fun c hc => h c (h1 c hc)) (fun e z => q e (h2 k z))
theorem frM_c {m c k : Nat} {cs fs : List Nat} {O : jO} {v : Value} (h : c ∈ cs) : frM m cs fs O (u2 O (m + c) k v) := fun b j hb _ => u2_ne (Or.inl (hb c h))
theorem frM_f {m k : Nat} {cs fs : List Nat} {O : jO} {v : Value} (h : k ∈ fs) : frM m cs fs O (u2 O m k v) := fun b j _ hj => u2_ne (by
  by_cases q : b = m
  · exact Or.inr (fun z => hj q (by rw [z]; exact h))
  · exact Or.inl q)
theorem mS_fr {m : Nat} {cs fs : List Nat} {O O2 : jO} (s : mS O m) (f : frM m cs fs O O2) (hc : 0 ∉ cs) (hf : ∀ k ∈ [1, 2, 3, 4, 5, 8, 15, 17, 19, 20, 21], k ∉ fs) : mS O2 m := by
  have e : ∀ k, k ∈ [1, 2, 3, 4, 5, 8, 15, 17, 19, 20, 21] → O2 m k = O m k := fun k hk => f m k (fun c h q => hc ((show c = 0 by omega) ▸ h)) (fun _ => hf k hk)
  obtain ⟨a1, a2, a3, a4, a5, a8, a15, a17, a19, a20, a21⟩ := s
  exact ⟨(e 1 (by decide)).trans a1, (e 2 (by decide)).trans a2, (e 3 (by decide)).trans a3, (e 4 (by decide)).trans a4, (e 5 (by decide)).trans a5, (e 8 (by decide)).trans a8, (e 15 (by decide)).trans a15, (e 17 (by decide)).trans a17, (e 19 (by decide)).trans a19, (e 20 (by decide)).trans a20, (e 21 (by decide)).trans a21⟩
/-- a set that is an interval round ring r, all of which go along -/
def ivl (W : jWd) (r : Nat) (d : Bool) (v : Int32) (a b : Nat) : Prop := (∀ i, i < 32 → (bt v i = true ↔ (a ≤ i ∧ i ≤ b))) ∧ a ≤ r ∧ r ≤ b ∧ (b : Int) < (W 0).toInt ∧ (∀ j, r ≤ j → j < b → tog W j d) ∧ (∀ j, a ≤ j → j < r → tog W j (!d))
def fnB (W : jWd) (d : Bool) (b : Nat) : Prop := (b : Int) + 1 = (W 0).toInt ∨ ¬ tog W b d
def fnA (W : jWd) (d : Bool) (a : Nat) : Prop := a = 0 ∨ ¬ tog W (a - 1) (!d)
theorem ivl_gos {W : jWd} {r : Nat} {d : Bool} {v : Int32} {a b : Nat} (I : ivl W r d v a b) (hb : fnB W d b) (ha : fnA W d a) (i : Nat) : gos W r d i ↔ (a ≤ i ∧ i ≤ b) := by
  obtain ⟨-, i1, i2, i3, i4, i5⟩ := I
  constructor
  · rintro ⟨z0, ⟨z1, z2⟩ | ⟨z1, z2⟩⟩
    · refine ⟨by omega, ?_⟩
      by_cases w : i ≤ b
      · exact w
      · exact absurd (z2 b i2 (by omega)) (hb.resolve_left (by omega))
    · refine ⟨?_, by omega⟩
      by_cases w : a ≤ i
      · exact w
      · exact absurd (z2 (a - 1) (by omega) (by omega)) (ha.resolve_left (by omega))
  · rintro ⟨z1, z2⟩
    refine ⟨by omega, ?_⟩
    rcases Nat.le_total r i with w | w
    · exact Or.inl ⟨w, fun j u v => i4 j u (by omega)⟩
    · exact Or.inr ⟨w, fun j u v => i5 j (by omega) v⟩
theorem E_X12_rings {n : Nat} {a0 : Nat} {h : jH} {q : Int32} (M : mS (oc h) a0) (hf : F_X12_rings n a0 h = some q) : q = wl (oc h) a0 0 := by
  unfold F_X12_rings at hf
  obtain ⟨s1, s2, s3, s4, s5, s8, s15, s17, s19, s20, s21⟩ := id M
  replace hf := jbind hf
  obtain ⟨p1, e1, hf⟩ := hf
  have r1 := oc_gR e1
  rw [s1] at r1
  cases r1
  clear e1
  replace hf := jbind hf
  obtain ⟨v5, e2, hf⟩ := hf
  obtain ⟨r2, y2⟩ := oc_al e2
  rw [show (0 : Int32).toNatClampNeg = 0 from rfl] at r2
  subst r2
  clear e2
  cases hf
  -- leaf : v5
  rfl
theorem E_X12_lastRing {n : Nat} {a0 : Nat} {h : jH} {q : Int32} (M : mS (oc h) a0) (hf : F_X12_lastRing n a0 h = some q) : q = wl (oc h) a0 0 - 1 := by
  unfold F_X12_lastRing at hf
  replace hf := jbind hf
  obtain ⟨v1, e1, hf⟩ := hf
  replace e1 := (jcv_o e1).2
  have r1 := E_X12_rings M e1
  subst r1
  cases hf
  -- leaf : (v1 - (1 : Int32))
  rfl
theorem E_X12_at {i : Nat} {j : Nat} {t : Nat} {n : Nat} {x0 : Int32} {x1 : Int32} {h : jH} {q : Int32} (h0 : x0 = nI i) (h1 : x1 = nI j) (ht : t = 11 + 8 * i + j) (hf : F_X12_at n x0 x1 h = some q) : q = nI t := by
  unfold F_X12_at at hf
  cases hf
  -- leaf : (((11 : Int32) + ((8 : Int32) * x0)) + x1)
  rw [h0, h1, ht]
  show (nI 11 + nI 8 * nI i) + nI j = _
  rw [nI_mul, nI_add, nI_add]
theorem E_X12_of {i : Nat} {j : Nat} {t : Nat} {n : Nat} {a0 : Nat} {x1 : Int32} {x2 : Int32} {h : jH} {q : Int32} (M : mS (oc h) a0) (h1 : x1 = nI i) (h2 : x2 = nI j) (ht : t = 11 + 8 * i + j) (hl : t < 10000) (hf : F_X12_of n a0 x1 x2 h = some q) : q = wl (oc h) a0 t := by
  unfold F_X12_of at hf
  obtain ⟨s1, s2, s3, s4, s5, s8, s15, s17, s19, s20, s21⟩ := id M
  replace hf := jbind hf
  obtain ⟨p1, e1, hf⟩ := hf
  have r1 := oc_gR e1
  rw [s1] at r1
  cases r1
  clear e1
  replace hf := jbind hf
  obtain ⟨v6, e2, hf⟩ := hf
  have r2 := E_X12_at h1 h2 ht e2
  subst r2
  replace hf := jbind hf
  obtain ⟨v9, e3, hf⟩ := hf
  obtain ⟨r3, y3⟩ := oc_al e3
  subst r3
  clear e3
  cases hf
  -- leaf : v9
  rw [nI_cl (by omega)]
theorem E_X12_is {i : Nat} {j : Nat} {t : Nat} {n : Nat} {a0 : Nat} {x1 : Int32} {x2 : Int32} {h : jH} {q : Int32} (M : mS (oc h) a0) (h1 : x1 = nI i) (h2 : x2 = nI j) (ht : t = 11 + 8 * i + j) (hl : t < 10000) (hf : F_X12_is n a0 x1 x2 h = some q) : (q = 0 ∨ q = 1) ∧ (q = 1 ↔ wl (oc h) a0 t = 1) := by
  unfold F_X12_is at hf
  replace hf := jbind hf
  obtain ⟨v3, e1, hf⟩ := hf
  replace e1 := (jcv_o e1).2
  have r1 := E_X12_of M h1 h2 ht hl e1
  subst r1
  replace hf := jite hf
  rcases hf with ⟨c2, hf⟩ | ⟨c2, hf⟩
  · skip
    cases hf
    -- leaf 0: (1 : Int32)
    exact ⟨Or.inr rfl, fun _ => c2, fun _ => rfl⟩
  · skip
    cases hf
    -- leaf 1: (0 : Int32)
    exact ⟨Or.inl rfl, fun z => absurd z (by decide), fun z => absurd z c2⟩
theorem E_X12_gapOf {i : Nat} {n : Nat} {a0 : Nat} {x1 : Int32} {h : jH} {q : Int32} (M : mS (oc h) a0) (K : wOK (wl (oc h) a0)) (h1 : x1 = nI i) (hi : (i : Int) < (wl (oc h) a0 0).toInt) (hf : F_X12_gapOf n a0 x1 h = some q) : q = if (i : Int) + 1 < (wl (oc h) a0 0).toInt then wl (oc h) a0 (11 + 8 * (i + 1)) - wl (oc h) a0 (11 + 8 * i) else 99 := by
  unfold F_X12_gapOf at hf
  have K0 := K.1
  have l1 : (1 : Int32).toInt = 1 := rfl
  replace hf := jbind hf
  obtain ⟨v2, e1, hf⟩ := hf
  replace e1 := (jcv_o e1).2
  have r1 := E_X12_lastRing M e1
  subst r1
  replace hf := jite hf
  rcases hf with ⟨c2, hf⟩ | ⟨c2, hf⟩
  · skip
    cases hf
    -- leaf 0: (99 : Int32)
    rw [h1, i_eq, nI_toInt (by omega), jsub (by omega) (by omega)] at c2
    rw [if_neg (by omega)]
  · skip
    replace hf := jbind hf
    obtain ⟨v18, e3, hf⟩ := hf
    replace e3 := (jcv_o e3).2
    have r3 := E_X12_of M (j := 0) (t := 11 + 8 * (i + 1)) (by rw [h1, nI_1]) rfl (by omega) (by omega) e3
    subst r3
    replace hf := jbind hf
    obtain ⟨v24, e4, hf⟩ := hf
    replace e4 := (jcv_o e4).2
    have r4 := E_X12_of M (j := 0) (t := 11 + 8 * i) h1 rfl (by omega) (by omega) e4
    subst r4
    cases hf
    -- leaf 1: (v18 - v24)
    rw [h1, i_eq, nI_toInt (by omega), jsub (by omega) (by omega)] at c2
    rw [if_pos (by omega)]
theorem E_X12_has {k : Nat} {n : Nat} {x0 : Int32} {x1 : Int32} {h : jH} {q : Int32} (h1 : x1 = nI k) (hk : k < 32) (hf : F_X12_has n x0 x1 h = some q) : (q = 0 ∨ q = 1) ∧ (q = 1 ↔ bt x0 k = true) := by
  unfold F_X12_has at hf
  rw [h1] at hf
  replace hf := jite hf
  rcases hf with ⟨c1, hf⟩ | ⟨c1, hf⟩
  · skip
    cases hf
    -- leaf 0: (1 : Int32)
    rw [b_has hk] at c1
    exact ⟨Or.inr rfl, fun _ => c1, fun _ => rfl⟩
  · skip
    cases hf
    -- leaf 1: (0 : Int32)
    rw [b_has hk] at c1
    exact ⟨Or.inl rfl, fun z => absurd z (by decide), fun z => absurd z c1⟩
theorem E_X12_takesAlong_30 {i : Nat} {d : Bool} {e : Bool} {n : Nat} {a0 : Nat} {x3 : Int32} {x4 : Int32} {s0 : Int32} {h : jH} {q : Int32} (M : mS (oc h) a0) (K : wOK (wl (oc h) a0)) (h4 : x4 = nI i) (hi : (i : Int) + 1 < (wl (oc h) a0 0).toInt) (h3 : x3 = dI d) (h0 : s0 = dI e) (hn : wl (oc h) a0 (18 + 8 * i) ≠ 1) (hf : F_X12_takesAlong_30 n a0 x3 x4 s0 h = some q) : (q = 0 ∨ q = 1) ∧ (q = 1 ↔ tog (wl (oc h) a0) i (d == e)) := by
  unfold F_X12_takesAlong_30 at hf
  have K0 := K.1
  have kc := (K.2.1 i (by omega)).2.1
  have ks := wsub K hi
  have l1 : (1 : Int32).toInt = 1 := rfl
  replace hf := jite hf
  rcases hf with ⟨c1, hf⟩ | ⟨c1, hf⟩
  · skip
    replace hf := jbind hf
    obtain ⟨v37, e2, hf⟩ := hf
    replace e2 := (jcv_o e2).2
    have r2 := E_X12_gapOf M K h4 (by omega) e2
    replace hf := jite hf
    rcases hf with ⟨c3, hf⟩ | ⟨c3, hf⟩
    · skip
      cases hf
      -- leaf 00: (1 : Int32)
      have z : (d == e) = true := by rw [h0, h3] at c1; cases d <;> cases e <;> first | rfl | exact absurd c1 (by decide)
      rw [z]
      rw [r2, if_pos hi, i_eq, ks] at c3
      exact ⟨Or.inr rfl, fun _ => Or.inr (by rw [if_pos rfl]; omega), fun _ => rfl⟩
    · skip
      cases hf
      -- leaf 01: (0 : Int32)
      have z : (d == e) = true := by rw [h0, h3] at c1; cases d <;> cases e <;> first | rfl | exact absurd c1 (by decide)
      rw [z]
      rw [r2, if_pos hi, i_eq, ks] at c3
      refine ⟨Or.inl rfl, fun z => absurd z (by decide), fun z => ?_⟩
      rcases z with z | z
      · exact absurd z hn
      · rw [if_pos rfl] at z; omega
  · skip
    replace hf := jbind hf
    obtain ⟨v55, e4, hf⟩ := hf
    replace e4 := (jcv_o e4).2
    have r4 := E_X12_gapOf M K h4 (by omega) e4
    replace hf := jbind hf
    obtain ⟨v62, e5, hf⟩ := hf
    replace e5 := (jcv_o e5).2
    have r5 := E_X12_of M (j := 1) (t := 12 + 8 * i) h4 rfl (by omega) (by omega) e5
    subst r5
    replace hf := jite hf
    rcases hf with ⟨c6, hf⟩ | ⟨c6, hf⟩
    · skip
      cases hf
      -- leaf 10: (0 : Int32)
      have z : (d == e) = false := by rw [h0, h3] at c1; cases d <;> cases e <;> first | rfl | exact absurd rfl c1
      rw [z]
      rw [r4, if_pos hi, Int32.lt_iff_toInt_lt, ks] at c6
      refine ⟨Or.inl rfl, fun z => absurd z (by decide), fun z => ?_⟩
      rcases z with z | z
      · exact absurd z hn
      · rw [if_neg (by decide)] at z; omega
    · skip
      cases hf
      -- leaf 11: (1 : Int32)
      have z : (d == e) = false := by rw [h0, h3] at c1; cases d <;> cases e <;> first | rfl | exact absurd rfl c1
      rw [z]
      rw [r4, if_pos hi, Int32.lt_iff_toInt_lt, ks] at c6
      exact ⟨Or.inr rfl, fun _ => Or.inr (by rw [if_neg (by decide)]; omega), fun _ => rfl⟩
theorem E_X12_takesAlong {i : Nat} {d : Bool} {e : Bool} {n : Nat} {a0 : Nat} {x1 : Int32} {x2 : Int32} {x3 : Int32} {h : jH} {q : Int32} (M : mS (oc h) a0) (K : wOK (wl (oc h) a0)) (h1 : x1 = nI (if e = true then i else i + 1)) (h2 : x2 = nI (if e = true then i + 1 else i)) (hi : (i : Int) + 1 < (wl (oc h) a0 0).toInt) (h3 : x3 = dI d) (hf : F_X12_takesAlong n a0 x1 x2 x3 h = some q) : (q = 0 ∨ q = 1) ∧ (q = 1 ↔ tog (wl (oc h) a0) i (d == e)) := by
  unfold F_X12_takesAlong at hf
  have K0 := K.1
  have mn : (if x2 < x1 then x2 else x1) = nI i := by
    rw [h1, h2]
    cases e with
    | true => rw [if_neg (nI_nlt (by show i ≤ i + 1; omega) (by show i + 1 < _; omega))]; rfl
    | false => rw [if_pos (nI_lt (by show i < i + 1; omega) (by show i + 1 < _; omega))]; rfl
  have le : x2 ≤ x1 ↔ e = false := by
    rw [h1, h2, Int32.le_iff_toInt_le]
    cases e with
    | true => rw [if_pos rfl, if_pos rfl, nI_toInt (by omega), nI_toInt (by omega)]; exact ⟨fun z => by omega, fun z => absurd z (by decide)⟩
    | false => rw [if_neg (by decide), if_neg (by decide), nI_toInt (by omega), nI_toInt (by omega)]; exact ⟨fun _ => rfl, fun _ => by omega⟩
  replace hf := jbind hf
  obtain ⟨v12, e1, hf⟩ := hf
  replace e1 := (jcv_o e1).2
  have r1 := E_X12_is M (j := 7) (t := 18 + 8 * i) mn rfl (by omega) (by omega) e1
  replace hf := jite hf
  rcases hf with ⟨c2, hf⟩ | ⟨c2, hf⟩
  · skip
    replace hf := jite hf
    rcases hf with ⟨c3, hf⟩ | ⟨c3, hf⟩
    · skip
      -- leaf 00: F_X12_takesAlong_30 n a0 x3 (if x2 < x1 then x2 else x1) (0 : Int32) h
      have e9 := le.mp c3
      subst e9
      exact E_X12_takesAlong_30 (e := false) M K mn hi h3 rfl (fun z => absurd (c2.symm.trans (r1.2.mpr z)) (by decide)) hf
    · skip
      -- leaf 01: F_X12_takesAlong_30 n a0 x3 (if x2 < x1 then x2 else x1) (1 : Int32) h
      have e9 : e = true := by cases e with | true => rfl | false => exact absurd (le.mpr rfl) c3
      subst e9
      exact E_X12_takesAlong_30 (e := true) M K mn hi h3 rfl (fun z => absurd (c2.symm.trans (r1.2.mpr z)) (by decide)) hf
  · skip
    cases hf
    -- leaf 1: (1 : Int32)
    exact ⟨Or.inr rfl, fun _ => Or.inl (r1.2.mp (r1.1.resolve_left c2)), fun _ => rfl⟩
end
section
/-! who goes along, of the reference -/
theorem beq_t {d : Bool} : (d == true) = d := by cases d <;> rfl
theorem beq_f {d : Bool} : (d == false) = !d := by cases d <;> rfl
theorem ivl_step {W : jWd} {r a b x : Nat} {d : Bool} {v t1 t2 : Int32} (K : wOK W) (I : ivl W r d v a b) (hx : a ≤ x ∧ x ≤ b) (s1 : (t1 = 0 ∧ ((x : Int) + 1 = (W 0).toInt ∨ ¬ tog W x d)) ∨ (t1 = (1 : Int32) <<< (nI (x + 1) &&& 31) ∧ (x : Int) + 1 < (W 0).toInt ∧ tog W x d)) (s2 : (t2 = 0 ∧ (x = 0 ∨ ¬ tog W (x - 1) (!d))) ∨ (t2 = (1 : Int32) <<< (nI (x - 1) &&& 31) ∧ 0 < x ∧ tog W (x - 1) (!d))) : ∃ a2 b2, ivl W r d ((v ||| t1) ||| t2) a2 b2 ∧ a2 ≤ a ∧ (x < b2 ∨ fnB W d b2) ∧ (x = a → fnA W d a2 ∨ a2 + 1 ≤ a) ∧ (x ≠ a → a2 = a) := by
  have K0 := K.1
  obtain ⟨i0, i1, i2, i3, i4, i5⟩ := I
  have hb : ∃ b2, b ≤ b2 ∧ b2 ≤ b + 1 ∧ (b2 : Int) < (W 0).toInt ∧ (∀ j, r ≤ j → j < b2 → tog W j d) ∧ (x < b2 ∨ fnB W d b2) ∧ (∀ i, i < 32 → (bt (v ||| t1) i = true ↔ (a ≤ i ∧ i ≤ b2))) := by
    rcases s1 with ⟨rfl, h⟩ | ⟨rfl, h1, h2⟩
    · refine ⟨b, Nat.le_refl _, by omega, i3, i4, ?_, fun i hi => ?_⟩
      · by_cases q : x < b
        · exact Or.inl q
        · have : x = b := by omega
          subst this
          exact Or.inr h
      · rw [b_or, b_0, Bool.or_false]; exact i0 i hi
    · by_cases q : x = b
      · subst q
        refine ⟨x + 1, by omega, by omega, by omega, fun j u w => ?_, Or.inl (by omega), fun i hi => ?_⟩
        · by_cases y : j = x
          · subst y; exact h2
          · exact i4 j u (by omega)
        · rw [b_or, b_one (by omega) hi, Bool.or_eq_true, decide_eq_true_iff, i0 i hi]; omega
      · refine ⟨b, Nat.le_refl _, by omega, i3, i4, Or.inl (by omega), fun i hi => ?_⟩
        rw [b_or, b_one (by omega) hi, Bool.or_eq_true, decide_eq_true_iff, i0 i hi]; omega
  obtain ⟨b2, b3, b4, b5, b6, b7, b8⟩ := hb
  rcases s2 with ⟨rfl, h⟩ | ⟨rfl, h1, h2⟩
  · refine ⟨a, b2, ⟨fun i hi => by rw [b_or, b_0, Bool.or_false]; exact b8 i hi, i1, by omega, b5, b6, i5⟩, Nat.le_refl _, b7, fun z => ?_, fun _ => rfl⟩
    subst z
    exact Or.inl h
  · by_cases q : x = a
    · subst q
      refine ⟨x - 1, b2, ⟨fun i hi => ?_, by omega, by omega, b5, b6, fun j u w => ?_⟩, by omega, b7, fun _ => Or.inr (by omega), fun z => absurd rfl z⟩
      · rw [b_or, b_one (by omega) hi, Bool.or_eq_true, decide_eq_true_iff, b8 i hi]; omega
      · by_cases y : j = x - 1
        · subst y; exact h2
        · exact i5 j (by omega) w
    · refine ⟨a, b2, ⟨fun i hi => ?_, i1, by omega, b5, b6, i5⟩, Nat.le_refl _, b7, fun z => absurd z q, fun _ => rfl⟩
      rw [b_or, b_one (by omega) hi, Bool.or_eq_true, decide_eq_true_iff, b8 i hi]; omega
theorem E_X12_allWith_72 {W : jWd} {x : Nat} {d : Bool} {n : Nat} {rc7 : Nat → Int32 → Int32 → Int32 → jH → Option Int32} {rc17 : Nat → Int32 → Int32 → Int32 → Int32 → jH → Option Int32} {a0 : Nat} {x2 : Int32} {x4 : Int32} {x5 : Int32} {s0 : Int32} {s1 : Int32} {h : jH} {q : Int32} (M : mS (oc h) a0) (hW : wl (oc h) a0 = W) (K : wOK W) (hx : x5 = nI x) (hi : (x : Int) < (W 0).toInt) (hd : x2 = dI d) (hf : F_X12_allWith_72 n rc7 rc17 a0 x2 x4 x5 s0 s1 h = some q) : ∃ t2 : Int32, ((t2 = 0 ∧ (x = 0 ∨ ¬ tog W (x - 1) (!d))) ∨ (t2 = (1 : Int32) <<< (nI (x - 1) &&& 31) ∧ 0 < x ∧ tog W (x - 1) (!d))) ∧ rc17 a0 x2 ((s0 ||| s1) ||| t2) x4 (x5 + (1 : Int32)) h = some q := by
  unfold F_X12_allWith_72 at hf
  have K0 := K.1
  have l0 : (0 : Int32).toInt = 0 := rfl
  have K9 : wOK (wl (oc h) a0) := by rw [hW]; exact K
  replace hf := jite hf
  rcases hf with ⟨c1, hf⟩ | ⟨c1, hf⟩
  · skip
    -- leaf 0: rc17 a0 x2 ((s0 ||| s1) ||| (0 : Int32)) x4 (x5 + (1 : Int32)) h
    rw [hx, Int32.le_iff_toInt_le, nI_toInt (by omega)] at c1
    exact ⟨0, Or.inl ⟨rfl, Or.inl (by omega)⟩, hf⟩
  · skip
    replace hf := jbind hf
    obtain ⟨v88, e2, hf⟩ := hf
    replace e2 := (jcv_o e2).2
    have x0 : 0 < x := by
      rw [hx, Int32.le_iff_toInt_le, nI_toInt (by omega)] at c1
      omega
    have r2 := E_X12_takesAlong (i := x - 1) (d := d) (e := false) M K9 (by rw [hx]; show nI x = nI (x - 1 + 1); congr 1; omega) (by rw [hx]; obtain ⟨y, rfl⟩ : ∃ y, x = y + 1 := ⟨x - 1, by omega⟩; exact nI_pred y) (by rw [hW]; omega) hd e2
    rw [beq_f, hW] at r2
    replace hf := jite hf
    rcases hf with ⟨c3, hf⟩ | ⟨c3, hf⟩
    · skip
      -- leaf 10: rc17 a0 x2 ((s0 ||| s1) ||| (0 : Int32)) x4 (x5 + (1 : Int32)) h
      exact ⟨0, Or.inl ⟨rfl, Or.inr (fun z => absurd (c3.symm.trans (r2.2.mpr z)) (by decide))⟩, hf⟩
    · skip
      -- leaf 11: rc17 a0 x2 ((s0 ||| s1) ||| ((1 : Int32) <<< ((x5 - (1 : Int32)) &&& 31))) x4 (x5 + (1 : Int32)) h
      refine ⟨_, Or.inr ⟨rfl, x0, r2.2.mp (r2.1.resolve_left c3)⟩, ?_⟩
      rw [show nI (x - 1) = x5 - (1 : Int32) by rw [hx]; obtain ⟨y, rfl⟩ : ∃ y, x = y + 1 := ⟨x - 1, by omega⟩; exact (nI_pred y).symm]
      exact hf
theorem E_X12_allWith_17 {n : Nat} {rc7 : Nat → Int32 → Int32 → Int32 → jH → Option Int32} {W : jWd} {r : Nat} {d : Bool} {A : Nat} (K : wOK W) : ∀ (k : Nat) {a0 : Nat} {x2 : Int32} {x3 : Int32} {x4 : Int32} {x5 : Int32} {h : jH} {q : Int32} (x : Nat) (a : Nat) (b : Nat) (M : mS (oc h) a0) (hW : wl (oc h) a0 = W) (hd : x2 = dI d) (hx : x5 = nI x) (hl : x ≤ 8) (I : ivl W r d x3 a b) (aA : a ≤ A) (U : x ≤ b ∨ fnB W d b) (D : (x ≤ a ∧ a = A) ∨ fnA W d a ∨ a + 1 ≤ A), F_X12_allWith_17 n rc7 k a0 x2 x3 x4 x5 h = some q → ∃ (v : Int32) (a2 b2 : Nat), ivl W r d v a2 b2 ∧ fnB W d b2 ∧ (fnA W d a2 ∨ a2 + 1 ≤ A) ∧ rc7 a0 x2 v (x4 + (1 : Int32)) h = some q
  | 0, a0, x2, x3, x4, x5, h, q, x, a, b, M, hW, hd, hx, hl, I, aA, U, D, hf => by cases hf
  | k + 1, a0, x2, x3, x4, x5, h, q, x, a, b, M, hW, hd, hx, hl, I, aA, U, D, hf => by
    replace hf : F_X12_allWith_17_b n rc7 (F_X12_allWith_17 n rc7 k) a0 x2 x3 x4 x5 h = some q := hf
    unfold F_X12_allWith_17_b at hf
    have K0 := K.1
    have I1 := I.2.2.2.1
    have I2 := I.1
    have I3 : a ≤ b := Nat.le_trans I.2.1 I.2.2.1
    have l1 : (1 : Int32).toInt = 1 := rfl
    have K9 : wOK (wl (oc h) a0) := by rw [hW]; exact K
    replace hf := jbind hf
    obtain ⟨v20, e1, hf⟩ := hf
    replace e1 := (jcv_o e1).2
    have r1 := E_X12_rings M e1
    subst r1
    replace hf := jite hf
    rcases hf with ⟨c2, hf⟩ | ⟨c2, hf⟩
    · skip
      -- leaf 0: rc7 a0 x2 x3 (x4 + (1 : Int32)) h
      rw [hW, hx, nI_eI (by omega)] at c2
      exact ⟨x3, a, b, I, U.resolve_left (by omega), D.resolve_left (by omega), hf⟩
    · skip
      replace hf := jbind hf
      obtain ⟨v29, e3, hf⟩ := hf
      have r3 := E_X12_has hx (by omega) e3
      replace hf := jite hf
      rcases hf with ⟨c4, hf⟩ | ⟨c4, hf⟩
      · skip
        -- leaf 10: rc17 a0 x2 x3 x4 (x5 + (1 : Int32)) h
        have nx : ¬ (a ≤ x ∧ x ≤ b) := fun z => absurd (c4.symm.trans (r3.2.mpr ((I2 x (by omega)).mpr z))) (by decide)
        rw [hW, hx, nI_eI (by omega)] at c2
        exact E_X12_allWith_17 (A := A) K k (x + 1) a b M hW hd (by rw [hx, nI_1]) (by omega) I aA (by rcases U with z | z; exact Or.inl (by omega); exact Or.inr z) (by rcases D with z | z; exact Or.inl (by omega); exact Or.inr z) hf
      · skip
        replace hf := jbind hf
        obtain ⟨v42, e5, hf⟩ := hf
        replace e5 := (jcv_o e5).2
        have r5 := E_X12_lastRing M e5
        subst r5
        replace hf := jite hf
        rcases hf with ⟨c6, hf⟩ | ⟨c6, hf⟩
        · skip
          -- leaf 110: F_X12_allWith_72 n rc7 rc17 a0 x2 x4 x5 x3 (0 : Int32) h
          have x8 : (x : Int) < (W 0).toInt := by rw [hW, hx, nI_eI (by omega)] at c2; omega
          have xin : a ≤ x ∧ x ≤ b := (I2 x (by omega)).mp (r3.2.mp (r3.1.resolve_left c4))
          rw [hW, hx, Int32.le_iff_toInt_le, jsub (by omega) (by omega), nI_toInt (by omega)] at c6
          have w1 : ((0 : Int32) = 0 ∧ ((x : Int) + 1 = (W 0).toInt ∨ ¬ tog W x d)) ∨ ((0 : Int32) = (1 : Int32) <<< (nI (x + 1) &&& 31) ∧ (x : Int) + 1 < (W 0).toInt ∧ tog W x d) := Or.inl ⟨rfl, Or.inl (by omega)⟩
          obtain ⟨t2, w2, hf⟩ := E_X12_allWith_72 M hW K hx x8 hd hf
          obtain ⟨a2, b2, I9, z1, z2, z3, z4⟩ := ivl_step K I xin w1 w2
          obtain ⟨v, a3, b3, y1, y2, y3, hf⟩ := E_X12_allWith_17 (A := A) K k (x + 1) a2 b2 M hW hd (by rw [hx, nI_1]) (by omega) I9 (by omega) (by rcases z2 with z | z; exact Or.inl (by omega); exact Or.inr z) (by
            by_cases xa : x = a
            · rcases z3 xa with z | z
              · exact Or.inr (Or.inl z)
              · exact Or.inr (Or.inr (by omega))
            · have ea := z4 xa
              rcases D with z | z | z
              · exact absurd xa (by omega)
              · exact Or.inr (Or.inl (by rw [ea]; exact z))
              · exact Or.inr (Or.inr (by omega))) hf
          exact ⟨v, a3, b3, y1, y2, y3, hf⟩
        · skip
          replace hf := jbind hf
          obtain ⟨v56, e7, hf⟩ := hf
          replace e7 := (jcv_o e7).2
          rw [hW, hx, Int32.le_iff_toInt_le, jsub (by omega) (by omega), nI_toInt (by omega)] at c6
          have r7 := E_X12_takesAlong (i := x) (d := d) (e := true) M K9 hx (by rw [hx, nI_1]; rfl) (by rw [hW]; omega) hd e7
          rw [beq_t, hW] at r7
          replace hf := jite hf
          rcases hf with ⟨c8, hf⟩ | ⟨c8, hf⟩
          · skip
            -- leaf 1110: F_X12_allWith_72 n rc7 rc17 a0 x2 x4 x5 x3 (0 : Int32) h
            have x8 : (x : Int) < (W 0).toInt := by rw [hW, hx, nI_eI (by omega)] at c2; omega
            have xin : a ≤ x ∧ x ≤ b := (I2 x (by omega)).mp (r3.2.mp (r3.1.resolve_left c4))
            have w1 : ((0 : Int32) = 0 ∧ ((x : Int) + 1 = (W 0).toInt ∨ ¬ tog W x d)) ∨ ((0 : Int32) = (1 : Int32) <<< (nI (x + 1) &&& 31) ∧ (x : Int) + 1 < (W 0).toInt ∧ tog W x d) := Or.inl ⟨rfl, Or.inr (fun z => absurd (c8.symm.trans (r7.2.mpr z)) (by decide))⟩
            obtain ⟨t2, w2, hf⟩ := E_X12_allWith_72 M hW K hx x8 hd hf
            obtain ⟨a2, b2, I9, z1, z2, z3, z4⟩ := ivl_step K I xin w1 w2
            obtain ⟨v, a3, b3, y1, y2, y3, hf⟩ := E_X12_allWith_17 (A := A) K k (x + 1) a2 b2 M hW hd (by rw [hx, nI_1]) (by omega) I9 (by omega) (by rcases z2 with z | z; exact Or.inl (by omega); exact Or.inr z) (by
              by_cases xa : x = a
              · rcases z3 xa with z | z
                · exact Or.inr (Or.inl z)
                · exact Or.inr (Or.inr (by omega))
              · have ea := z4 xa
                rcases D with z | z | z
                · exact absurd xa (by omega)
                · exact Or.inr (Or.inl (by rw [ea]; exact z))
                · exact Or.inr (Or.inr (by omega))) hf
            exact ⟨v, a3, b3, y1, y2, y3, hf⟩
          · skip
            -- leaf 1111: F_X12_allWith_72 n rc7 rc17 a0 x2 x4 x5 x3 ((1 : Int32) <<< ((x5 + (1 : Int32)) &&& 31)) h
            have x8 : (x : Int) < (W 0).toInt := by rw [hW, hx, nI_eI (by omega)] at c2; omega
            have xin : a ≤ x ∧ x ≤ b := (I2 x (by omega)).mp (r3.2.mp (r3.1.resolve_left c4))
            have x9 : (x : Int) + 1 < (W 0).toInt := by omega
            rw [hx, nI_1] at hf
            rw [← hx] at hf
            have w1 : ((1 : Int32) <<< (nI (x + 1) &&& 31) = 0 ∧ ((x : Int) + 1 = (W 0).toInt ∨ ¬ tog W x d)) ∨ ((1 : Int32) <<< (nI (x + 1) &&& 31) = (1 : Int32) <<< (nI (x + 1) &&& 31) ∧ (x : Int) + 1 < (W 0).toInt ∧ tog W x d) := Or.inr ⟨rfl, x9, r7.2.mp (r7.1.resolve_left c8)⟩
            obtain ⟨t2, w2, hf⟩ := E_X12_allWith_72 M hW K hx x8 hd hf
            obtain ⟨a2, b2, I9, z1, z2, z3, z4⟩ := ivl_step K I xin w1 w2
            obtain ⟨v, a3, b3, y1, y2, y3, hf⟩ := E_X12_allWith_17 (A := A) K k (x + 1) a2 b2 M hW hd (by rw [hx, nI_1]) (by omega) I9 (by omega) (by rcases z2 with z | z; exact Or.inl (by omega); exact Or.inr z) (by
              by_cases xa : x = a
              · rcases z3 xa with z | z
                · exact Or.inr (Or.inl z)
                · exact Or.inr (Or.inr (by omega))
              · have ea := z4 xa
                rcases D with z | z | z
                · exact absurd xa (by omega)
                · exact Or.inr (Or.inl (by rw [ea]; exact z))
                · exact Or.inr (Or.inr (by omega))) hf
            exact ⟨v, a3, b3, y1, y2, y3, hf⟩
theorem E_X12_allWith_7 {n : Nat} {W : jWd} {r : Nat} {d : Bool} (K : wOK W) : ∀ (k : Nat) {a0 : Nat} {x2 : Int32} {x3 : Int32} {x4 : Int32} {h : jH} {q : Int32} (t : Nat) (a : Nat) (b : Nat) (M : mS (oc h) a0) (hW : wl (oc h) a0 = W) (hd : x2 = dI d) (hx : x4 = nI t) (hl : t ≤ 8) (I : ivl W r d x3 a b) (U : t = 0 ∨ fnB W d b) (D : fnA W d a ∨ a + t ≤ r), F_X12_allWith_7 n k a0 x2 x3 x4 h = some q → ∃ a b : Nat, ivl W r d q a b ∧ fnB W d b ∧ fnA W d a
  | 0, a0, x2, x3, x4, h, q, t, a, b, M, hW, hd, hx, hl, I, U, D, hf => by cases hf
  | k + 1, a0, x2, x3, x4, h, q, t, a, b, M, hW, hd, hx, hl, I, U, D, hf => by
    replace hf : F_X12_allWith_7_b n (F_X12_allWith_7 n k) a0 x2 x3 x4 h = some q := hf
    unfold F_X12_allWith_7_b at hf
    have K0 := K.1
    have I1 := I.2.2.2.1
    have I2 := I.2.2.1
    have l8 : (8 : Int32).toInt = 8 := rfl
    replace hf := jite hf
    rcases hf with ⟨c1, hf⟩ | ⟨c1, hf⟩
    · skip
      cases hf
      -- leaf 0: x3
      rw [hx, Int32.le_iff_toInt_le, nI_toInt (by omega)] at c1
      exact ⟨a, b, I, U.resolve_left (by omega), D.resolve_right (by omega)⟩
    · skip
      -- leaf 1: F_X12_allWith_17 n rc7 n a0 x2 x3 x4 (0 : Int32) h
      rw [hx, Int32.le_iff_toInt_le, nI_toInt (by omega)] at c1
      obtain ⟨v, a2, b2, y1, y2, y3, hf⟩ := E_X12_allWith_17 (A := a) K n 0 a b M hW hd rfl (by omega) I (Nat.le_refl _) (Or.inl (Nat.zero_le _)) (Or.inl ⟨Nat.zero_le _, rfl⟩) hf
      refine E_X12_allWith_7 K k (t + 1) a2 b2 M hW hd (by rw [hx, nI_1]) (by omega) y1 (Or.inr y2) ?_ hf
      rcases y3 with z | z
      · exact Or.inl z
      · rcases D with w | w
        · have := I.2.1
          exact absurd (y1.2.2.2.2.2 (a - 1) (by omega) (by omega)) (w.resolve_left (by omega))
        · exact Or.inr (by omega)
theorem E_X12_allWith {W : jWd} {r : Nat} {d : Bool} {n : Nat} {a0 : Nat} {x1 : Int32} {x2 : Int32} {h : jH} {q : Int32} (M : mS (oc h) a0) (hW : wl (oc h) a0 = W) (K : wOK W) (h1 : x1 = nI r) (hr : (r : Int) < (W 0).toInt) (hd : x2 = dI d) (hf : F_X12_allWith n a0 x1 x2 h = some q) : ∃ a b : Nat, ivl W r d q a b ∧ fnB W d b ∧ fnA W d a := by
  unfold F_X12_allWith at hf
  have K0 := K.1
  -- leaf : F_X12_allWith_7 n n a0 x2 ((1 : Int32) <<< (x1 &&& 31)) (0 : Int32) h
  exact E_X12_allWith_7 K n 0 r r M hW hd rfl (by omega) ⟨fun i hi => by rw [h1, b_one (by omega) hi, decide_eq_true_iff]; omega, Nat.le_refl _, Nat.le_refl _, hr, fun j u w => by omega, fun j u w => by omega⟩ (Or.inl rfl) (Or.inr (by omega)) hf
theorem E_X12_in {n : Nat} {x0 : Int32} {x1 : Int32} {x2 : Int32} {h : jH} {q : Int32} (hf : F_X12_in n x0 x1 x2 h = some q) : (q = 0 ∨ q = 1) ∧ (q = 1 ↔ (x1.toInt ≤ x0.toInt ∧ x0.toInt ≤ x2.toInt)) := by
  unfold F_X12_in at hf
  replace hf := jite hf
  rcases hf with ⟨c1, hf⟩ | ⟨c1, hf⟩
  · skip
    cases hf
    -- leaf 0: (0 : Int32)
    rw [Int32.lt_iff_toInt_lt] at c1
    exact ⟨Or.inl rfl, fun z => absurd z (by decide), fun z => by omega⟩
  · skip
    replace hf := jite hf
    rcases hf with ⟨c2, hf⟩ | ⟨c2, hf⟩
    · skip
      cases hf
      -- leaf 10: (0 : Int32)
      rw [Int32.lt_iff_toInt_lt] at c1 c2
      exact ⟨Or.inl rfl, fun z => absurd z (by decide), fun z => by omega⟩
    · skip
      cases hf
      -- leaf 11: (1 : Int32)
      rw [Int32.lt_iff_toInt_lt] at c1 c2
      exact ⟨Or.inr rfl, fun _ => by omega, fun _ => rfl⟩
theorem E_X12_noPlace {n : Nat} {x0 : Int32} {h : jH} {q : Int32} (hf : F_X12_noPlace n x0 h = some q) : (q = 0 ∨ q = 1) ∧ (q = 1 ↔ ¬ (0 ≤ x0.toInt ∧ x0.toInt ≤ 31)) := by
  unfold F_X12_noPlace at hf
  replace hf := jbind hf
  obtain ⟨v4, e1, hf⟩ := hf
  have r1 := E_X12_in e1
  replace hf := jite hf
  rcases hf with ⟨c2, hf⟩ | ⟨c2, hf⟩
  · skip
    cases hf
    -- leaf 0: (1 : Int32)
    exact ⟨Or.inr rfl, fun _ z => absurd (c2.symm.trans (r1.2.mpr z)) (by decide), fun _ => rfl⟩
  · skip
    cases hf
    -- leaf 1: (0 : Int32)
    exact ⟨Or.inl rfl, fun z => absurd z (by decide), fun z => absurd (r1.2.mp (r1.1.resolve_left c2)) z⟩
theorem E_X12_noSteps {n : Nat} {x0 : Int32} {h : jH} {q : Int32} (hf : F_X12_noSteps n x0 h = some q) : (q = 0 ∨ q = 1) ∧ (q = 1 ↔ ¬ (1 ≤ x0.toInt ∧ x0.toInt ≤ 31)) := by
  unfold F_X12_noSteps at hf
  replace hf := jbind hf
  obtain ⟨v4, e1, hf⟩ := hf
  have r1 := E_X12_in e1
  replace hf := jite hf
  rcases hf with ⟨c2, hf⟩ | ⟨c2, hf⟩
  · skip
    cases hf
    -- leaf 0: (1 : Int32)
    exact ⟨Or.inr rfl, fun _ z => absurd (c2.symm.trans (r1.2.mpr z)) (by decide), fun _ => rfl⟩
  · skip
    cases hf
    -- leaf 1: (0 : Int32)
    exact ⟨Or.inl rfl, fun z => absurd z (by decide), fun z => absurd (r1.2.mp (r1.1.resolve_left c2)) z⟩
theorem E_X12_mayGo_20 {W : jWd} {i : Nat} {d : Bool} {n : Nat} {a0 : Nat} {x1 : Int32} {x2 : Int32} {x3 : Int32} {s0 : Int32} {h : jH} {q : Int32} (M : mS (oc h) a0) (hW : wl (oc h) a0 = W) (K : wOK W) (h1 : x1 = nI i) (hi : (i : Int) < (W 0).toInt) (hd : x2 = dI d) (h3 : x3 = W (11 + 8 * i)) (h0 : s0.toInt = (W (11 + 8 * i)).toInt + (if d = true then 1 else -1)) (hf : F_X12_mayGo_20 n a0 x1 x2 x3 s0 h = some q) : (q = 0 ∨ q = 1) ∧ (q = 1 ↔ ¬ stp W i d) := by
  unfold F_X12_mayGo_20 at hf
  have K0 := K.1
  have kp := (K.2.1 i hi).1
  have l1 : (1 : Int32).toInt = 1 := rfl
  obtain ⟨s1, s2, s3, s4, s5, s8, s15, s17, s19, s20, s21⟩ := id M
  replace hf := jbind hf
  obtain ⟨v20, e1, hf⟩ := hf
  have r1 := E_X12_noPlace e1
  replace hf := jite hf
  rcases hf with ⟨c2, hf⟩ | ⟨c2, hf⟩
  · skip
    replace hf := jbind hf
    obtain ⟨v31, e3, hf⟩ := hf
    replace e3 := (jcv_o e3).2
    have r3 := E_X12_is M (j := 2) (t := 13 + 8 * i) h1 rfl (by omega) (by omega) e3
    replace hf := jite hf
    rcases hf with ⟨c4, hf⟩ | ⟨c4, hf⟩
    · skip
      cases hf
      -- leaf 00: (1 : Int32)
      have nin : 0 ≤ s0.toInt ∧ s0.toInt ≤ 31 := Classical.byContradiction fun z => absurd (c2.symm.trans (r1.2.mpr z)) (by decide)
      have n1 : ¬ (W (11 + 8 * i)).toInt = (if d = true then 31 else 0) := fun z => by
        cases d with
        | true => rw [if_pos rfl] at z h0; omega
        | false => rw [if_neg (by decide)] at z h0; omega
      rw [hW] at r3
      refine ⟨Or.inr rfl, fun _ z => ?_, fun _ => rfl⟩
      rcases z with z | ⟨z, -⟩
      · exact n1 z
      · exact absurd (c4.symm.trans (r3.2.mpr z)) (by decide)
    · skip
      replace hf := jite hf
      rcases hf with ⟨c5, hf⟩ | ⟨c5, hf⟩
      · skip
        replace hf := jbind hf
        obtain ⟨p49, e6, hf⟩ := hf
        have r6 := oc_gR e6
        rw [s1] at r6
        cases r6
        clear e6
        replace hf := jbind hf
        obtain ⟨v53, e7, hf⟩ := hf
        obtain ⟨r7, y7⟩ := oc_al e7
        rw [show (5 : Int32).toNatClampNeg = 5 from rfl] at r7
        subst r7
        clear e7
        replace hf := jite hf
        rcases hf with ⟨c8, hf⟩ | ⟨c8, hf⟩
        · skip
          cases hf
          -- leaf 0100: (0 : Int32)
          have th : W (13 + 8 * i) = 1 := by rw [← hW]; exact r3.2.mp (r3.1.resolve_left c4)
          have w5 : oi (oc h) (a0 + 1) 5 = W 5 := by rw [← hW]
          have kj := K.2.2.2.2.2.2.1
          have dz : d = false := by cases d with | false => rfl | true => exact absurd (hd.symm.trans c5) (by decide)
          subst dz
          rw [w5, h3] at c8
          exact ⟨Or.inl rfl, fun z => absurd z (by decide), fun z => absurd (Or.inr ⟨th, by rw [c8]; rfl⟩) z⟩
        · skip
          cases hf
          -- leaf 0101: (1 : Int32)
          have nin : 0 ≤ s0.toInt ∧ s0.toInt ≤ 31 := Classical.byContradiction fun z => absurd (c2.symm.trans (r1.2.mpr z)) (by decide)
          have n1 : ¬ (W (11 + 8 * i)).toInt = (if d = true then 31 else 0) := fun z => by
            cases d with
            | true => rw [if_pos rfl] at z h0; omega
            | false => rw [if_neg (by decide)] at z h0; omega
          have th : W (13 + 8 * i) = 1 := by rw [← hW]; exact r3.2.mp (r3.1.resolve_left c4)
          have w5 : oi (oc h) (a0 + 1) 5 = W 5 := by rw [← hW]
          have kj := K.2.2.2.2.2.2.1
          have dz : d = false := by cases d with | false => rfl | true => exact absurd (hd.symm.trans c5) (by decide)
          subst dz
          rw [w5, h3] at c8
          refine ⟨Or.inr rfl, fun _ z => ?_, fun _ => rfl⟩
          rcases z with z | ⟨-, z⟩
          · exact n1 z
          · exact c8 (i_eq.mpr z)
      · skip
        replace hf := jbind hf
        obtain ⟨p49, e9, hf⟩ := hf
        have r9 := oc_gR e9
        rw [s1] at r9
        cases r9
        clear e9
        replace hf := jbind hf
        obtain ⟨v53, e10, hf⟩ := hf
        obtain ⟨r10, y10⟩ := oc_al e10
        rw [show (5 : Int32).toNatClampNeg = 5 from rfl] at r10
        subst r10
        clear e10
        replace hf := jite hf
        rcases hf with ⟨c11, hf⟩ | ⟨c11, hf⟩
        · skip
          cases hf
          -- leaf 0110: (0 : Int32)
          have th : W (13 + 8 * i) = 1 := by rw [← hW]; exact r3.2.mp (r3.1.resolve_left c4)
          have w5 : oi (oc h) (a0 + 1) 5 = W 5 := by rw [← hW]
          have kj := K.2.2.2.2.2.2.1
          have dz : d = true := by cases d with | true => rfl | false => exact absurd hd c5
          subst dz
          rw [w5, h3, i_eq, jadd (by omega) (by omega)] at c11
          exact ⟨Or.inl rfl, fun z => absurd z (by decide), fun z => absurd (Or.inr ⟨th, by rw [if_pos rfl]; omega⟩) z⟩
        · skip
          cases hf
          -- leaf 0111: (1 : Int32)
          have nin : 0 ≤ s0.toInt ∧ s0.toInt ≤ 31 := Classical.byContradiction fun z => absurd (c2.symm.trans (r1.2.mpr z)) (by decide)
          have n1 : ¬ (W (11 + 8 * i)).toInt = (if d = true then 31 else 0) := fun z => by
            cases d with
            | true => rw [if_pos rfl] at z h0; omega
            | false => rw [if_neg (by decide)] at z h0; omega
          have th : W (13 + 8 * i) = 1 := by rw [← hW]; exact r3.2.mp (r3.1.resolve_left c4)
          have w5 : oi (oc h) (a0 + 1) 5 = W 5 := by rw [← hW]
          have kj := K.2.2.2.2.2.2.1
          have dz : d = true := by cases d with | true => rfl | false => exact absurd hd c5
          subst dz
          rw [w5, h3, i_eq, jadd (by omega) (by omega)] at c11
          refine ⟨Or.inr rfl, fun _ z => ?_, fun _ => rfl⟩
          rcases z with z | ⟨-, z⟩
          · exact n1 z
          · rw [if_pos rfl] at z; omega
  · skip
    cases hf
    -- leaf 1: (0 : Int32)
    have out : ¬ (0 ≤ s0.toInt ∧ s0.toInt ≤ 31) := r1.2.mp (r1.1.resolve_left c2)
    refine ⟨Or.inl rfl, fun z => absurd z (by decide), fun z => absurd (Or.inl ?_) z⟩
    cases d with
    | true => rw [if_pos rfl] at h0 ⊢; omega
    | false => rw [if_neg (by decide)] at h0 ⊢; omega
theorem E_X12_mayGo {W : jWd} {i : Nat} {d : Bool} {n : Nat} {a0 : Nat} {x1 : Int32} {x2 : Int32} {h : jH} {q : Int32} (M : mS (oc h) a0) (hW : wl (oc h) a0 = W) (K : wOK W) (h1 : x1 = nI i) (hi : (i : Int) < (W 0).toInt) (hd : x2 = dI d) (hf : F_X12_mayGo n a0 x1 x2 h = some q) : (q = 0 ∨ q = 1) ∧ (q = 1 ↔ ¬ stp W i d) := by
  unfold F_X12_mayGo at hf
  have K0 := K.1
  have kp := (K.2.1 i hi).1
  have l1 : (1 : Int32).toInt = 1 := rfl
  have ew : wl (oc h) a0 (11 + 8 * i) = W (11 + 8 * i) := by rw [hW]
  replace hf := jbind hf
  obtain ⟨v3, e1, hf⟩ := hf
  replace e1 := (jcv_o e1).2
  have r1 := E_X12_of M (j := 0) (t := 11 + 8 * i) h1 rfl (by omega) (by omega) e1
  subst r1
  replace hf := jite hf
  rcases hf with ⟨c2, hf⟩ | ⟨c2, hf⟩
  · skip
    -- leaf 0: F_X12_mayGo_20 n a0 x1 x2 v3 (v3 - (1 : Int32)) h
    have dz : d = false := by cases d with | false => rfl | true => exact absurd (hd.symm.trans c2) (by decide)
    subst dz
    exact E_X12_mayGo_20 M hW K h1 hi hd ew (by rw [ew, jsub (by omega) (by omega), if_neg (by decide)]; omega) hf
  · skip
    -- leaf 1: F_X12_mayGo_20 n a0 x1 x2 v3 (v3 + (1 : Int32)) h
    have dz : d = true := by cases d with | true => rfl | false => exact absurd hd c2
    subst dz
    exact E_X12_mayGo_20 M hW K h1 hi hd ew (by rw [ew, jadd (by omega) (by omega), if_pos rfl]; omega) hf
theorem E_X12_goingBy_13 {n : Nat} {W : jWd} {d : Bool} (K : wOK W) : ∀ (k : Nat) {a0 : Nat} {x2 : Int32} {x3 : Int32} {x4 : Int32} {x5 : Int32} {h : jH} {q : Int32} (x : Nat) (M : mS (oc h) a0) (hW : wl (oc h) a0 = W) (hd : x2 = dI d) (hx : x5 = nI x) (hl : (x : Int) ≤ (W 0).toInt) (hv : ∀ j, j < 32 → bt x3 j = true → (j : Int) < (W 0).toInt) (h4 : (x4 = 0 ∨ x4 = 1) ∧ (x4 = 1 ↔ ∀ j, j < x → bt x3 j = true → ¬ stp W j d)), F_X12_goingBy_13 n k a0 x2 x3 x4 x5 h = some q → (q = 0 ∧ ∃ j, j < 32 ∧ bt x3 j = true ∧ stp W j d) ∨ (q = x3 ∧ ∀ j, j < 32 → bt x3 j = true → ¬ stp W j d)
  | 0, a0, x2, x3, x4, x5, h, q, x, M, hW, hd, hx, hl, hv, h4, hf => by cases hf
  | k + 1, a0, x2, x3, x4, x5, h, q, x, M, hW, hd, hx, hl, hv, h4, hf => by
    replace hf : F_X12_goingBy_13_b n (F_X12_goingBy_13 n k) a0 x2 x3 x4 x5 h = some q := hf
    unfold F_X12_goingBy_13_b at hf
    have K0 := K.1
    replace hf := jbind hf
    obtain ⟨v16, e1, hf⟩ := hf
    replace e1 := (jcv_o e1).2
    have r1 := E_X12_rings M e1
    subst r1
    replace hf := jite hf
    rcases hf with ⟨c2, hf⟩ | ⟨c2, hf⟩
    · skip
      replace hf := jite hf
      rcases hf with ⟨c3, hf⟩ | ⟨c3, hf⟩
      · skip
        cases hf
        -- leaf 00: (0 : Int32)
        rw [hW, hx, nI_eI (by omega)] at c2
        refine Or.inl ⟨rfl, ?_⟩
        have nn : ¬ ∀ j, j < x → bt x3 j = true → ¬ stp W j d := fun z => absurd (c3.symm.trans (h4.2.mpr z)) (by decide)
        refine Classical.byContradiction fun z => nn fun j a b y => z ⟨j, by omega, b, y⟩
      · skip
        cases hf
        -- leaf 01: x3
        rw [hW, hx, nI_eI (by omega)] at c2
        refine Or.inr ⟨rfl, fun j a b => h4.2.mp (h4.1.resolve_left c3) j ?_ b⟩
        have := hv j a b
        omega
    · skip
      replace hf := jite hf
      rcases hf with ⟨c4, hf⟩ | ⟨c4, hf⟩
      · skip
        -- leaf 10: rc13 a0 x2 x3 (0 : Int32) (x5 + (1 : Int32)) h
        have x8 : (x : Int) < (W 0).toInt := by rw [hW, hx, nI_eI (by omega)] at c2; omega
        exact E_X12_goingBy_13 K k (x + 1) M hW hd (by rw [hx, nI_1]) (by omega) hv ⟨Or.inl rfl, fun z => absurd z (by decide), fun z => absurd (c4.symm.trans (h4.2.mpr (fun j a b => z j (by omega) b))) (by decide)⟩ hf
      · skip
        replace hf := jbind hf
        obtain ⟨v30, e5, hf⟩ := hf
        have r5 := E_X12_has hx (by omega) e5
        replace hf := jite hf
        rcases hf with ⟨c6, hf⟩ | ⟨c6, hf⟩
        · skip
          -- leaf 110: rc13 a0 x2 x3 (1 : Int32) (x5 + (1 : Int32)) h
          have x8 : (x : Int) < (W 0).toInt := by rw [hW, hx, nI_eI (by omega)] at c2; omega
          exact E_X12_goingBy_13 K k (x + 1) M hW hd (by rw [hx, nI_1]) (by omega) hv ⟨Or.inr rfl, fun _ j a b => by
            by_cases y : j = x
            · subst y; exact absurd (c6.symm.trans (r5.2.mpr b)) (by decide)
            · exact h4.2.mp (h4.1.resolve_left c4) j (by omega) b, fun _ => rfl⟩ hf
        · skip
          replace hf := jbind hf
          obtain ⟨v40, e7, hf⟩ := hf
          replace e7 := (jcv_o e7).2
          have x8 : (x : Int) < (W 0).toInt := by rw [hW, hx, nI_eI (by omega)] at c2; omega
          have r7 := E_X12_mayGo M hW K hx x8 hd e7
          replace hf := jite hf
          rcases hf with ⟨c8, hf⟩ | ⟨c8, hf⟩
          · skip
            -- leaf 1110: rc13 a0 x2 x3 (0 : Int32) (x5 + (1 : Int32)) h
            exact E_X12_goingBy_13 K k (x + 1) M hW hd (by rw [hx, nI_1]) (by omega) hv ⟨Or.inl rfl, fun z => absurd z (by decide), fun z => absurd (c8.symm.trans (r7.2.mpr (z x (by omega) (r5.2.mp (r5.1.resolve_left c6))))) (by decide)⟩ hf
          · skip
            -- leaf 1111: rc13 a0 x2 x3 (1 : Int32) (x5 + (1 : Int32)) h
            exact E_X12_goingBy_13 K k (x + 1) M hW hd (by rw [hx, nI_1]) (by omega) hv ⟨Or.inr rfl, fun _ j a b => by
              by_cases y : j = x
              · subst y; exact r7.2.mp (r7.1.resolve_left c8)
              · exact h4.2.mp (h4.1.resolve_left c4) j (by omega) b, fun _ => rfl⟩ hf
theorem E_X12_goingBy {W : jWd} {r : Nat} {d : Bool} {n : Nat} {a0 : Nat} {x1 : Int32} {x2 : Int32} {h : jH} {q : Int32} (M : mS (oc h) a0) (hW : wl (oc h) a0 = W) (K : wOK W) (h1 : x1 = nI r) (hr : (r : Int) < (W 0).toInt) (hd : x2 = dI d) (hf : F_X12_goingBy n a0 x1 x2 h = some q) : goB W r d q := by
  unfold F_X12_goingBy at hf
  have K0 := K.1
  replace hf := jbind hf
  obtain ⟨v3, e1, hf⟩ := hf
  replace e1 := (jcv_o e1).2
  obtain ⟨a, b, I, fb, fa⟩ := E_X12_allWith M hW K h1 hr hd e1
  -- leaf : F_X12_goingBy_13 n n a0 x2 v3 (1 : Int32) (0 : Int32) h
  have I1 := I.2.2.2.1
  have gi := ivl_gos I fb fa
  have I0 := I.1
  rcases E_X12_goingBy_13 K n 0 M hW hd rfl (by omega) (fun j a9 b9 => by have := (I0 j a9).mp b9; omega) ⟨Or.inr rfl, fun _ j a9 => by omega, fun _ => rfl⟩ hf with ⟨rfl, j, j0, j1, j2⟩ | ⟨rfl, hs⟩
  · intro i h32
    rw [b_0]
    exact ⟨fun z => absurd z (by decide), fun z => absurd j2 (z.2 j ((gi j).mpr ((I0 j j0).mp j1)))⟩
  · intro i h32
    rw [I0 i h32, ← gi i]
    exact ⟨fun z => ⟨z, fun j u => hs j (by have := u.1; omega) ((I0 j (by have := u.1; omega)).mpr ((gi j).mp u))⟩, fun z => z.1⟩
end
