section
/-! the class's rod: what its readers answer -/
theorem nI_lI {i : Nat} {v : Int32} (hi : i < 2147483648) : nI i < v ↔ (i : Int) < v.toInt := by
  rw [Int32.lt_iff_toInt_lt, nI_toInt hi]
theorem nI_eI {i : Nat} {v : Int32} (hi : i < 2147483648) : v ≤ nI i ↔ v.toInt ≤ (i : Int) := by
  rw [Int32.le_iff_toInt_le, nI_toInt hi]
theorem nI_cl {i : Nat} (hi : i < 2147483648) : (nI i).toNatClampNeg = i := nI_clamp hi
theorem i_eq {x y : Int32} : x = y ↔ x.toInt = y.toInt := Int32.toInt_inj.symm
theorem wsub {W : jWd} (K : wOK W) {i : Nat} (hi : (i : Int) + 1 < (W 0).toInt) : (W (11 + 8 * (i + 1)) - W (11 + 8 * i)).toInt = (W (11 + 8 * (i + 1))).toInt - (W (11 + 8 * i)).toInt := by
  have a := (K.2.1 i (by omega)).1
  have b := (K.2.1 (i + 1) (by omega)).1
  exact jsub (by omega) (by omega)
theorem E_X8_gap {W : jWd} {i : Nat} {n : Nat} {a0 : Nat} {x1 : Int32} {x2 : Int32} {h : jH} {q : Int32} (R : rodE (oc h) a0 W) (K : wOK W) (hx : x1 = nI i) (hi : i < 16) (hf : F_X8_gap n a0 x1 x2 h = some q) : q = if (i : Int) + 1 < (W 0).toInt then W (11 + 8 * (i + 1)) - W (11 + 8 * i) else x2 := by
  unfold F_X8_gap at hf
  obtain ⟨⟨s0, s1, s2, s3, s4, s5⟩, ⟨u5, u10, u11, u12, u13, u14, u15, u16, u17⟩, RB, RC, RL⟩ := id R
  subst hx
  have i9 : i < 2147483648 := by omega
  have K0 := K.1
  have l0 : (0 : Int32).toInt = 0 := rfl
  have l1 : (1 : Int32).toInt = 1 := rfl
  replace hf := jite hf
  rcases hf with ⟨c1, hf⟩ | ⟨c1, hf⟩
  · skip
    cases hf
    -- leaf 0: x2
    exact absurd c1 (nI_pos i9)
  · skip
    replace hf := jbind hf
    obtain ⟨v6, e2, hf⟩ := hf
    have r2 := oc_gI e2
    subst r2
    clear e2
    replace hf := jite hf
    rcases hf with ⟨c3, hf⟩ | ⟨c3, hf⟩
    · skip
      replace hf := jbind hf
      obtain ⟨p19, e4, hf⟩ := hf
      have r4 := oc_gR e4
      rw [s0] at r4
      cases r4
      clear e4
      replace hf := jbind hf
      obtain ⟨v25, e5, hf⟩ := hf
      obtain ⟨r5, y5⟩ := oc_al e5
      subst r5
      clear e5
      replace hf := jbind hf
      obtain ⟨p27, e6, hf⟩ := hf
      have r6 := oc_gR e6
      rw [s0] at r6
      cases r6
      clear e6
      replace hf := jbind hf
      obtain ⟨v31, e7, hf⟩ := hf
      obtain ⟨r7, y7⟩ := oc_al e7
      subst r7
      clear e7
      cases hf
      -- leaf 10: (v25 - v31)
      rw [u5, nI_lI i9, jsub (by omega) (by omega)] at c3
      rw [if_pos (by omega), nI_1, nI_cl (by omega), nI_cl i9, (RB (i + 1) (by omega)).1, (RB i (by omega)).1]
    · skip
      cases hf
      -- leaf 11: x2
      rw [u5, nI_lI i9, jsub (by omega) (by omega)] at c3
      rw [if_neg (by omega)]
theorem E_X8_goTogether {W : jWd} {i : Nat} {d : Bool} {n : Nat} {a0 : Nat} {x1 : Int32} {x2 : Int32} {h : jH} {q : Int32} (R : rodE (oc h) a0 W) (K : wOK W) (hx : x1 = nI i) (hi : (i : Int) + 1 < (W 0).toInt) (hd : x2 = dI d) (hf : F_X8_goTogether n a0 x1 x2 h = some q) : (q = 0 ∨ q = 1) ∧ (q = 1 ↔ tog W i d) := by
  unfold F_X8_goTogether at hf
  obtain ⟨⟨s0, s1, s2, s3, s4, s5⟩, ⟨u5, u10, u11, u12, u13, u14, u15, u16, u17⟩, RB, RC, RL⟩ := id R
  subst hx hd
  have K0 := K.1
  have i9 : i < 2147483648 := by omega
  have g1 := (RB (i + 1) (by omega)).1
  obtain ⟨g0, g2, -, -, -, -, -, g8⟩ := RB i (by omega)
  have kc := (K.2.1 i (by omega)).2.1
  have ks := wsub K hi
  have k0 := (K.2.1 i (by omega)).1
  have k1 := (K.2.1 (i + 1) (by omega)).1
  have l0 : (0 : Int32).toInt = 0 := rfl
  have l1 : (1 : Int32).toInt = 1 := rfl
  replace hf := jbind hf
  obtain ⟨p1, e1, hf⟩ := hf
  have r1 := oc_gR e1
  rw [s0] at r1
  cases r1
  clear e1
  replace hf := jbind hf
  obtain ⟨v7, e2, hf⟩ := hf
  obtain ⟨r2, y2⟩ := oc_al e2
  subst r2
  clear e2
  replace hf := jbind hf
  obtain ⟨p9, e3, hf⟩ := hf
  have r3 := oc_gR e3
  rw [s0] at r3
  cases r3
  clear e3
  replace hf := jbind hf
  obtain ⟨v13, e4, hf⟩ := hf
  obtain ⟨r4, y4⟩ := oc_al e4
  subst r4
  clear e4
  replace hf := jbind hf
  obtain ⟨v17, e5, hf⟩ := hf
  have r5 := oc_gI e5
  subst r5
  clear e5
  replace hf := jite hf
  rcases hf with ⟨c6, hf⟩ | ⟨c6, hf⟩
  · skip
    cases hf
    -- leaf 0: (1 : Int32)
    rw [b_ask (by omega), g8] at c6
    exact ⟨Or.inr rfl, fun _ => Or.inl c6, fun _ => rfl⟩
  · skip
    replace hf := jite hf
    rcases hf with ⟨c7, hf⟩ | ⟨c7, hf⟩
    · skip
      replace hf := jbind hf
      obtain ⟨p44, e8, hf⟩ := hf
      have r8 := oc_gR e8
      rw [s1] at r8
      cases r8
      clear e8
      replace hf := jbind hf
      obtain ⟨v48, e9, hf⟩ := hf
      obtain ⟨r9, y9⟩ := oc_al e9
      subst r9
      clear e9
      replace hf := jite hf
      rcases hf with ⟨c10, hf⟩ | ⟨c10, hf⟩
      · skip
        cases hf
        -- leaf 100: (0 : Int32)
        rw [b_ask (by omega), g8] at c6
        cases d with
        | true => exact absurd c7 (by decide)
        | false =>
          rw [nI_1, nI_cl (by omega), nI_cl (by omega), g1, g0, g2, Int32.le_iff_toInt_le, jadd (by omega) (by omega), ks] at c10
          refine ⟨Or.inl rfl, fun z => absurd z (by decide), fun z => ?_⟩
          rcases z with z | z
          · exact absurd z c6
          · rw [if_neg (by decide)] at z; omega
      · skip
        cases hf
        -- leaf 101: (1 : Int32)
        rw [b_ask (by omega), g8] at c6
        cases d with
        | true => exact absurd c7 (by decide)
        | false =>
          rw [nI_1, nI_cl (by omega), nI_cl (by omega), g1, g0, g2, Int32.le_iff_toInt_le, jadd (by omega) (by omega), ks] at c10
          exact ⟨Or.inr rfl, fun _ => Or.inr (by rw [if_neg (by decide)]; omega), fun _ => rfl⟩
    · skip
      replace hf := jite hf
      rcases hf with ⟨c11, hf⟩ | ⟨c11, hf⟩
      · skip
        cases hf
        -- leaf 110: (1 : Int32)
        rw [b_ask (by omega), g8] at c6
        cases d with
        | false => exact absurd rfl c7
        | true =>
          rw [nI_1, nI_cl (by omega), nI_cl (by omega), g1, g0, i_eq, ks] at c11
          exact ⟨Or.inr rfl, fun _ => Or.inr (by rw [if_pos rfl]; omega), fun _ => rfl⟩
      · skip
        cases hf
        -- leaf 111: (0 : Int32)
        rw [b_ask (by omega), g8] at c6
        cases d with
        | false => exact absurd rfl c7
        | true =>
          rw [nI_1, nI_cl (by omega), nI_cl (by omega), g1, g0, i_eq, ks] at c11
          refine ⟨Or.inl rfl, fun z => absurd z (by decide), fun z => ?_⟩
          rcases z with z | z
          · exact absurd z c6
          · rw [if_pos rfl] at z; omega
theorem E_X8_isStopped_16 {W : jWd} {i : Nat} {d : Bool} {n : Nat} {a0 : Nat} {x1 : Int32} {x2 : Int32} {s0 : Int32} {s1 : Int32} {h : jH} {q : Int32} (R : rodE (oc h) a0 W) (K : wOK W) (hx : x1 = nI i) (hi : (i : Int) < (W 0).toInt) (hd : x2 = dI d) (h0 : s0 = W (11 + 8 * i)) (h1 : s1 = if d = true then 31 else 0) (hf : F_X8_isStopped_16 n a0 x1 x2 s0 s1 h = some q) : (q = 0 ∨ q = 1) ∧ (q = 1 ↔ stp W i d) := by
  unfold F_X8_isStopped_16 at hf
  obtain ⟨⟨t0, t1, t2, t3, t4, t5⟩, ⟨u5, u10, u11, u12, u13, u14, u15, u16, u17⟩, RB, RC, RL⟩ := id R
  subst hx hd h0
  have K0 := K.1
  have i9 : i < 2147483648 := by omega
  obtain ⟨g0, -, g3, -⟩ := RB i (by omega)
  have k0 := (K.2.1 i (by omega)).1
  obtain ⟨-, -, -, -, -, -, kj, -⟩ := id K
  have l31 : (31 : Int32).toInt = 31 := rfl
  have l0 : (0 : Int32).toInt = 0 := rfl
  have l1 : (1 : Int32).toInt = 1 := rfl
  replace hf := jite hf
  rcases hf with ⟨c1, hf⟩ | ⟨c1, hf⟩
  · skip
    cases hf
    -- leaf 0: (1 : Int32)
    refine ⟨Or.inr rfl, fun _ => Or.inl ?_, fun _ => rfl⟩
    rw [c1, h1]
    cases d <;> rfl
  · skip
    replace hf := jbind hf
    obtain ⟨v22, e2, hf⟩ := hf
    have r2 := oc_gI e2
    subst r2
    clear e2
    replace hf := jite hf
    rcases hf with ⟨c3, hf⟩ | ⟨c3, hf⟩
    · skip
      replace hf := jbind hf
      obtain ⟨p34, e4, hf⟩ := hf
      have r4 := oc_gR e4
      rw [t0] at r4
      cases r4
      clear e4
      replace hf := jbind hf
      obtain ⟨v38, e5, hf⟩ := hf
      obtain ⟨r5, y5⟩ := oc_al e5
      subst r5
      clear e5
      replace hf := jite hf
      rcases hf with ⟨c6, hf⟩ | ⟨c6, hf⟩
      · skip
        replace hf := jbind hf
        obtain ⟨v53, e7, hf⟩ := hf
        have r7 := oc_gI e7
        subst r7
        clear e7
        replace hf := jite hf
        rcases hf with ⟨c8, hf⟩ | ⟨c8, hf⟩
        · skip
          cases hf
          -- leaf 1000: (1 : Int32)
          rw [b_ask (by omega), g3] at c3
          cases d with
          | true => exact absurd c6 (by decide)
          | false =>
            rw [nI_cl (by omega), g0, u11] at c8
            exact ⟨Or.inr rfl, fun _ => Or.inr ⟨c3, by rw [c8]; rfl⟩, fun _ => rfl⟩
        · skip
          cases hf
          -- leaf 1001: (0 : Int32)
          have z1 : ¬ (W (11 + 8 * i)).toInt = (if d = true then 31 else 0) := fun z => c1 (i_eq.mpr (by rw [z, h1]; cases d <;> rfl))
          rw [b_ask (by omega), g3] at c3
          cases d with
          | true => exact absurd c6 (by decide)
          | false =>
            rw [nI_cl (by omega), g0, u11] at c8
            refine ⟨Or.inl rfl, fun z => absurd z (by decide), fun z => ?_⟩
            rcases z with z | ⟨-, z⟩
            · exact absurd z z1
            · exact absurd (i_eq.mpr z) c8
      · skip
        replace hf := jbind hf
        obtain ⟨v44, e9, hf⟩ := hf
        have r9 := oc_gI e9
        subst r9
        clear e9
        replace hf := jite hf
        rcases hf with ⟨c10, hf⟩ | ⟨c10, hf⟩
        · skip
          cases hf
          -- leaf 1010: (1 : Int32)
          rw [b_ask (by omega), g3] at c3
          cases d with
          | false => exact absurd rfl c6
          | true =>
            rw [nI_cl (by omega), g0, u11, i_eq, jsub (by omega) (by omega)] at c10
            exact ⟨Or.inr rfl, fun _ => Or.inr ⟨c3, by rw [if_pos rfl]; omega⟩, fun _ => rfl⟩
        · skip
          cases hf
          -- leaf 1011: (0 : Int32)
          have z1 : ¬ (W (11 + 8 * i)).toInt = (if d = true then 31 else 0) := fun z => c1 (i_eq.mpr (by rw [z, h1]; cases d <;> rfl))
          rw [b_ask (by omega), g3] at c3
          cases d with
          | false => exact absurd rfl c6
          | true =>
            rw [nI_cl (by omega), g0, u11, i_eq, jsub (by omega) (by omega)] at c10
            refine ⟨Or.inl rfl, fun z => absurd z (by decide), fun z => ?_⟩
            rcases z with z | ⟨-, z⟩
            · exact absurd z z1
            · rw [if_pos rfl] at z; omega
    · skip
      cases hf
      -- leaf 11: (0 : Int32)
      have z1 : ¬ (W (11 + 8 * i)).toInt = (if d = true then 31 else 0) := fun z => c1 (i_eq.mpr (by rw [z, h1]; cases d <;> rfl))
      rw [b_ask (by omega), g3] at c3
      refine ⟨Or.inl rfl, fun z => absurd z (by decide), fun z => ?_⟩
      rcases z with z | ⟨z, -⟩
      · exact absurd z z1
      · exact absurd z c3
theorem E_X8_isStopped {W : jWd} {i : Nat} {d : Bool} {n : Nat} {a0 : Nat} {x1 : Int32} {x2 : Int32} {h : jH} {q : Int32} (R : rodE (oc h) a0 W) (K : wOK W) (hx : x1 = nI i) (hi : (i : Int) < (W 0).toInt) (hd : x2 = dI d) (hf : F_X8_isStopped n a0 x1 x2 h = some q) : (q = 0 ∨ q = 1) ∧ (q = 1 ↔ stp W i d) := by
  unfold F_X8_isStopped at hf
  obtain ⟨⟨s0, s1, s2, s3, s4, s5⟩, ⟨u5, u10, u11, u12, u13, u14, u15, u16, u17⟩, RB, RC, RL⟩ := id R
  subst hx
  have K0 := K.1
  have i9 : i < 2147483648 := by omega
  obtain ⟨g0, -⟩ := RB i (by omega)
  replace hf := jbind hf
  obtain ⟨p1, e1, hf⟩ := hf
  have r1 := oc_gR e1
  rw [s0] at r1
  cases r1
  clear e1
  replace hf := jbind hf
  obtain ⟨v5, e2, hf⟩ := hf
  obtain ⟨r2, y2⟩ := oc_al e2
  subst r2
  clear e2
  replace hf := jite hf
  rcases hf with ⟨c3, hf⟩ | ⟨c3, hf⟩
  · skip
    -- leaf 0: F_X8_isStopped_16 n a0 x1 x2 v5 (0 : Int32) h
    have z : d = false := by cases d with | false => rfl | true => exact absurd (hd.symm.trans c3) (by decide)
    subst z
    rw [nI_cl (by omega), g0] at hf
    exact E_X8_isStopped_16 R K rfl hi hd rfl rfl hf
  · skip
    -- leaf 1: F_X8_isStopped_16 n a0 x1 x2 v5 (31 : Int32) h
    have z : d = true := by cases d with | true => rfl | false => exact absurd hd c3
    subst z
    rw [nI_cl (by omega), g0] at hf
    exact E_X8_isStopped_16 R K rfl hi hd rfl rfl hf
theorem E_X8_goers_64 {n : Nat} {W : jWd} {d : Bool} {lo : Nat} {hi : Nat} (K : wOK W) : ∀ (k : Nat) {a0 : Nat} {x2 : Int32} {x3 : Int32} {x4 : Int32} {x5 : Int32} {h : jH} {q : Int32} (c : Nat) (R : rodE (oc h) a0 W) (hd : x2 = dI d) (h3 : x3 = nI lo) (h4 : x4 = nI hi) (hx : x5 = nI c) (y0 : lo ≤ hi) (y1 : (hi : Int) < (W 0).toInt) (y2 : lo ≤ c) (y3 : c ≤ hi + 1) (y4 : ∀ j, lo ≤ j → j < c → ¬ stp W j d), F_X8_goers_64 n k a0 x2 x3 x4 x5 h = some q → (q = 0 ∧ ∃ j, lo ≤ j ∧ j ≤ hi ∧ stp W j d) ∨ (q = ((1 : Int32) <<< (nI (hi + 1) &&& 31)) - ((1 : Int32) <<< (nI lo &&& 31)) ∧ ∀ j, lo ≤ j → j ≤ hi → ¬ stp W j d)
  | 0, a0, x2, x3, x4, x5, h, q, c, R, hd, h3, h4, hx, y0, y1, y2, y3, y4, hf => by cases hf
  | k + 1, a0, x2, x3, x4, x5, h, q, c, R, hd, h3, h4, hx, y0, y1, y2, y3, y4, hf => by
    replace hf : F_X8_goers_64_b n (F_X8_goers_64 n k) a0 x2 x3 x4 x5 h = some q := hf
    unfold F_X8_goers_64_b at hf
    have K0 := K.1
    replace hf := jite hf
    rcases hf with ⟨c1, hf⟩ | ⟨c1, hf⟩
    · skip
      cases hf
      -- leaf 0: (((1 : Int32) <<< ((x4 + (1 : Int32)) &&& 31)) - ((1 : Int32) <<< (x3 &&& 31)))
      subst h3 h4 hx
      rw [Int32.lt_iff_toInt_lt, nI_toInt (by omega), nI_toInt (by omega)] at c1
      refine Or.inr ⟨by rw [nI_1], fun j a b => y4 j a (by omega)⟩
    · skip
      replace hf := jbind hf
      obtain ⟨v75, e2, hf⟩ := hf
      replace e2 := (jcv_o e2).2
      have r2 := E_X8_isStopped R K hx (by subst h4 hx; rw [Int32.lt_iff_toInt_lt, nI_toInt (by omega), nI_toInt (by omega)] at c1; omega) hd e2
      replace hf := jite hf
      rcases hf with ⟨c3, hf⟩ | ⟨c3, hf⟩
      · skip
        -- leaf 10: rc64 a0 x2 x3 x4 (x5 + (1 : Int32)) h
        have c9 : c ≤ hi := (by subst h4 hx; rw [Int32.lt_iff_toInt_lt, nI_toInt (by omega), nI_toInt (by omega)] at c1; omega)
        have ns : ¬ stp W c d := fun z => absurd (c3.symm.trans (r2.2.mpr z)) (by decide)
        refine E_X8_goers_64 K k (c + 1) R hd h3 h4 (by rw [hx, nI_1]) y0 y1 (by omega) (by omega) (fun j a b => ?_) hf
        by_cases z : j = c
        · subst z; exact ns
        · exact y4 j a (by omega)
      · skip
        cases hf
        -- leaf 11: (0 : Int32)
        have c9 : c ≤ hi := (by subst h4 hx; rw [Int32.lt_iff_toInt_lt, nI_toInt (by omega), nI_toInt (by omega)] at c1; omega)
        have z : stp W c d := r2.2.mp (r2.1.resolve_left c3)
        exact Or.inl ⟨rfl, c, y2, c9, z⟩
theorem E_X8_goers_32 {n : Nat} {W : jWd} {d : Bool} {r : Nat} {hi : Nat} (K : wOK W) : ∀ (k : Nat) {a0 : Nat} {x2 : Int32} {x3 : Int32} {x4 : Int32} {h : jH} {q : Int32} (a : Nat) (R : rodE (oc h) a0 W) (hd : x2 = dI d) (h3 : x3 = nI a) (h4 : x4 = nI hi) (y0 : a ≤ r) (y1 : r ≤ hi) (y2 : (hi : Int) < (W 0).toInt) (y4 : ∀ j, a ≤ j → j < r → tog W j (!d)), F_X8_goers_32 n k a0 x2 x3 x4 h = some q → ∃ lo : Nat, lo ≤ r ∧ (∀ j, lo ≤ j → j < r → tog W j (!d)) ∧ (lo = 0 ∨ ¬ tog W (lo - 1) (!d)) ∧ F_X8_goers_64 n n a0 x2 (nI lo) x4 (nI lo) h = some q
  | 0, a0, x2, x3, x4, h, q, a, R, hd, h3, h4, y0, y1, y2, y4, hf => by cases hf
  | k + 1, a0, x2, x3, x4, h, q, a, R, hd, h3, h4, y0, y1, y2, y4, hf => by
    replace hf : F_X8_goers_32_b n (F_X8_goers_32 n k) a0 x2 x3 x4 h = some q := hf
    unfold F_X8_goers_32_b at hf
    have K0 := K.1
    have fin : ∀ z : a = 0 ∨ ¬ tog W (a - 1) (!d), F_X8_goers_64 n n a0 x2 x3 x4 x3 h = some q → ∃ lo : Nat, lo ≤ r ∧ (∀ j, lo ≤ j → j < r → tog W j (!d)) ∧ (lo = 0 ∨ ¬ tog W (lo - 1) (!d)) ∧ F_X8_goers_64 n n a0 x2 (nI lo) x4 (nI lo) h = some q := fun z e => ⟨a, y0, y4, z, by rw [h3] at e; exact e⟩
    have l0 : (0 : Int32).toInt = 0 := rfl
    have go : ∀ (s2 : Int32), 0 < a → s2 = dI (!d) → F_X8_goers_49 n (F_X8_goers_32 n k) a0 x2 x3 x4 a0 (x3 - (1 : Int32)) s2 h = some q → ∃ lo : Nat, lo ≤ r ∧ (∀ j, lo ≤ j → j < r → tog W j (!d)) ∧ (lo = 0 ∨ ¬ tog W (lo - 1) (!d)) ∧ F_X8_goers_64 n n a0 x2 (nI lo) x4 (nI lo) h = some q := by
      intro s2 ha hq hf
      unfold F_X8_goers_49 at hf
      obtain ⟨v, e, hf⟩ := jbind hf
      obtain ⟨-, e⟩ := jcv_o e
      have r1 := E_X8_goTogether (i := a - 1) R K (by rw [h3]; obtain ⟨b, rfl⟩ : ∃ b, a = b + 1 := ⟨a - 1, by omega⟩; exact nI_pred b) (by omega) hq e
      split at hf
      · rename_i c1
        exact fin (Or.inr (fun z => absurd (c1.symm.trans (r1.2.mpr z)) (by decide))) hf
      · rename_i c1
        have tz : tog W (a - 1) (!d) := r1.2.mp (r1.1.resolve_left c1)
        refine E_X8_goers_32 K k (a - 1) R hd (by rw [h3]; obtain ⟨b, rfl⟩ : ∃ b, a = b + 1 := ⟨a - 1, by omega⟩; exact (by rw [nI_succ, Int32.add_assoc]; exact Int32.add_zero _)) h4 (by omega) y1 y2 (fun j u w => ?_) hf
        by_cases z : j = a - 1
        · subst z; exact tz
        · exact y4 j (by omega) w
    replace hf := jite hf
    rcases hf with ⟨c1, hf⟩ | ⟨c1, hf⟩
    · skip
      -- leaf 0: F_X8_goers_64 n n a0 x2 x3 x4 x3 h
      rw [h3, Int32.le_iff_toInt_le, nI_toInt (by omega)] at c1
      exact fin (Or.inl (by omega)) hf
    · skip
      replace hf := jite hf
      rcases hf with ⟨c2, hf⟩ | ⟨c2, hf⟩
      · skip
        -- leaf 10: F_X8_goers_49 n rc32 a0 x2 x3 x4 a0 (x3 - (1 : Int32)) (1 : Int32) h
        rw [h3, Int32.le_iff_toInt_le, nI_toInt (by omega)] at c1
        refine go _ (by omega) ?_ hf
        cases d with
        | false => rfl
        | true => exact absurd (hd.symm.trans c2) (by decide)
      · skip
        -- leaf 11: F_X8_goers_49 n rc32 a0 x2 x3 x4 a0 (x3 - (1 : Int32)) (0 : Int32) h
        rw [h3, Int32.le_iff_toInt_le, nI_toInt (by omega)] at c1
        refine go _ (by omega) ?_ hf
        cases d with
        | true => rfl
        | false => exact absurd hd c2
theorem E_X8_goers_5 {n : Nat} {W : jWd} {d : Bool} {r : Nat} (K : wOK W) : ∀ (k : Nat) {a0 : Nat} {x2 : Int32} {x3 : Int32} {x4 : Int32} {h : jH} {q : Int32} (b : Nat) (R : rodE (oc h) a0 W) (hd : x2 = dI d) (h4 : x4 = nI b) (y0 : r ≤ b) (y2 : (b : Int) < (W 0).toInt) (y4 : ∀ j, r ≤ j → j < b → tog W j d), F_X8_goers_5 n k a0 x2 x3 x4 h = some q → ∃ hi : Nat, r ≤ hi ∧ (hi : Int) < (W 0).toInt ∧ (∀ j, r ≤ j → j < hi → tog W j d) ∧ ((hi : Int) + 1 = (W 0).toInt ∨ ¬ tog W hi d) ∧ F_X8_goers_32 n n a0 x2 x3 (nI hi) h = some q
  | 0, a0, x2, x3, x4, h, q, b, R, hd, h4, y0, y2, y4, hf => by cases hf
  | k + 1, a0, x2, x3, x4, h, q, b, R, hd, h4, y0, y2, y4, hf => by
    replace hf : F_X8_goers_5_b n (F_X8_goers_5 n k) a0 x2 x3 x4 h = some q := hf
    unfold F_X8_goers_5_b at hf
    obtain ⟨⟨s0, s1, s2, s3, s4, s5⟩, ⟨u5, u10, u11, u12, u13, u14, u15, u16, u17⟩, RB, RC, RL⟩ := id R
    have K0 := K.1
    replace hf := jbind hf
    obtain ⟨v10, e1, hf⟩ := hf
    have r1 := oc_gI e1
    subst r1
    clear e1
    replace hf := jite hf
    rcases hf with ⟨c2, hf⟩ | ⟨c2, hf⟩
    · skip
      -- leaf 0: F_X8_goers_32 n n a0 x2 x3 x4 h
      rw [h4, u5, nI_1, nI_eI (by omega)] at c2
      exact ⟨b, y0, y2, y4, Or.inl (by omega), by rw [h4] at hf; exact hf⟩
    · skip
      replace hf := jbind hf
      obtain ⟨v20, e3, hf⟩ := hf
      replace e3 := (jcv_o e3).2
      have b9 : (b : Int) + 1 < (W 0).toInt := by
        rw [h4, u5, nI_1, nI_eI (by omega)] at c2
        omega
      have r3 := E_X8_goTogether R K h4 b9 hd e3
      replace hf := jite hf
      rcases hf with ⟨c4, hf⟩ | ⟨c4, hf⟩
      · skip
        -- leaf 10: F_X8_goers_32 n n a0 x2 x3 x4 h
        exact ⟨b, y0, y2, y4, Or.inr (fun z => absurd (c4.symm.trans (r3.2.mpr z)) (by decide)), by rw [h4] at hf; exact hf⟩
      · skip
        -- leaf 11: rc5 a0 x2 x3 (x4 + (1 : Int32)) h
        have tz : tog W b d := r3.2.mp (r3.1.resolve_left c4)
        refine E_X8_goers_5 K k (b + 1) R hd (by rw [h4, nI_1]) (by omega) (by omega) (fun j u w => ?_) hf
        by_cases z : j = b
        · subst z; exact tz
        · exact y4 j u (by omega)
theorem E_X8_goers {W : jWd} {d : Bool} {r : Nat} {n : Nat} {a0 : Nat} {x1 : Int32} {x2 : Int32} {h : jH} {q : Int32} (R : rodE (oc h) a0 W) (K : wOK W) (hx : x1 = nI r) (hr : (r : Int) < (W 0).toInt) (hd : x2 = dI d) (hf : F_X8_goers n a0 x1 x2 h = some q) : goB W r d q := by
  unfold F_X8_goers at hf
  have K0 := K.1
  -- leaf : F_X8_goers_5 n n a0 x2 x1 x1 h
  obtain ⟨hi, a1, a2, a3, a4, hf⟩ := E_X8_goers_5 (r := r) K n r R hd hx (Nat.le_refl _) hr (fun j u w => by omega) hf
  obtain ⟨lo, b1, b3, b4, hf⟩ := E_X8_goers_32 (r := r) K n r R hd hx rfl (Nat.le_refl _) a1 a2 (fun j u w => by omega) hf
  have gi : ∀ i, gos W r d i ↔ (lo ≤ i ∧ i ≤ hi) := fun i => by
    constructor
    · rintro ⟨z0, ⟨z1, z2⟩ | ⟨z1, z2⟩⟩
      · refine ⟨by omega, ?_⟩
        by_cases w : i ≤ hi
        · exact w
        · exact absurd (z2 hi a1 (by omega)) (a4.resolve_left (by omega))
      · refine ⟨?_, by omega⟩
        by_cases w : lo ≤ i
        · exact w
        · exact absurd (z2 (lo - 1) (by omega) (by omega)) (b4.resolve_left (by omega))
    · rintro ⟨z1, z2⟩
      refine ⟨by omega, ?_⟩
      rcases Nat.le_total r i with w | w
      · exact Or.inl ⟨w, fun j u v => a3 j u (by omega)⟩
      · exact Or.inr ⟨w, fun j u v => b3 j (by omega) v⟩
  rcases E_X8_goers_64 (d := d) K n lo R hd rfl rfl rfl (by omega) a2 (Nat.le_refl _) (by omega) (fun j u w => by omega) hf with ⟨rfl, j, j1, j2, j3⟩ | ⟨rfl, hs⟩
  · intro i h32
    rw [b_0]
    exact ⟨fun z => absurd z (by decide), fun z => absurd j3 (z.2 j ((gi j).mpr ⟨j1, j2⟩))⟩
  · intro i h32
    rw [b_msk lo (by omega) hi (by omega) (by omega) i h32, decide_eq_true_iff]
    exact ⟨fun z => ⟨(gi i).mpr z, fun j u => hs j ((gi j).mp u).1 ((gi j).mp u).2⟩, fun z => (gi i).mp z.1⟩
end
section
/-! a step of the rod, in the world's places -/
theorem mod_lem {k i : Nat} (h : k = 11 + 8 * i) : (k - 11) % 8 = 0 ∧ (k - 11) / 8 = i ∧ 11 ≤ k := by omega
/-- the first i rings' places behind a step of the set v to the side d -/
def stW (W : jWd) (v : Int32) (d : Bool) (i : Nat) : jWd := fun k => if 11 ≤ k ∧ (k - 11) % 8 = 0 ∧ (k - 11) / 8 < i ∧ bt v ((k - 11) / 8) = true then W k + (if d = true then 1 else -1) else W k
theorem stW_pl {W : jWd} {v : Int32} {d : Bool} {i j : Nat} : stW W v d i (11 + 8 * j) = if j < i ∧ bt v j = true then W (11 + 8 * j) + (if d = true then 1 else -1) else W (11 + 8 * j) := by
  unfold stW
  have a : (11 + 8 * j - 11) % 8 = 0 := by omega
  have b : (11 + 8 * j - 11) / 8 = j := by omega
  rw [a, b]
  by_cases q : j < i ∧ bt v j = true
  · rw [if_pos ⟨by omega, rfl, q⟩, if_pos q]
  · rw [if_neg (fun z => q z.2.2), if_neg q]
theorem stW_ot {W : jWd} {v : Int32} {d : Bool} {i k : Nat} (h : k < 11 ∨ (k - 11) % 8 ≠ 0) : stW W v d i k = W k := by
  unfold stW
  rw [if_neg (fun z => h.elim (fun q => by omega) (fun q => q z.2.1))]
theorem stW_0 {W : jWd} {v : Int32} {d : Bool} : stW W v d 0 = W := by
  funext k
  unfold stW
  rw [if_neg (fun z => by omega)]
theorem stW_s {W : jWd} {v : Int32} {d : Bool} {i : Nat} (h : bt v i = true) : stW W v d (i + 1) = upd (stW W v d i) (11 + 8 * i) (stW W v d i (11 + 8 * i) + (if d = true then 1 else -1)) := by
  funext k
  by_cases q : k = 11 + 8 * i
  · subst q
    rw [upd_eq, stW_pl, stW_pl, if_pos (show i < i + 1 ∧ bt v i = true from ⟨by omega, h⟩), if_neg (show ¬ (i < i ∧ bt v i = true) from fun z => by omega)]
  · rw [upd_ne q]
    unfold stW
    by_cases z : 11 ≤ k ∧ (k - 11) % 8 = 0 ∧ (k - 11) / 8 < i ∧ bt v ((k - 11) / 8) = true
    · rw [if_pos z, if_pos ⟨z.1, z.2.1, by omega, z.2.2.2⟩]
    · rw [if_neg z, if_neg (fun y => z ⟨y.1, y.2.1, by omega, y.2.2.2⟩)]
theorem stW_n {W : jWd} {v : Int32} {d : Bool} {i : Nat} (h : bt v i = false) : stW W v d (i + 1) = stW W v d i := by
  funext k
  unfold stW
  by_cases z : 11 ≤ k ∧ (k - 11) % 8 = 0 ∧ (k - 11) / 8 < i ∧ bt v ((k - 11) / 8) = true
  · rw [if_pos z, if_pos ⟨z.1, z.2.1, by omega, z.2.2.2⟩]
  · rw [if_neg z, if_neg (fun y => ?_)]
    by_cases q : (k - 11) / 8 = i
    · rw [q, h] at y; exact absurd y.2.2.2 (by decide)
    · exact z ⟨y.1, y.2.1, by omega, y.2.2.2⟩
theorem stW_all {W : jWd} {v : Int32} {d : Bool} {i j : Nat} (h : ∀ k, i ≤ k → k < j → bt v k = false) : ∀ m, i ≤ m → m ≤ j → stW W v d m = stW W v d i := by
  intro m
  induction m with
  | zero => intro a b; rw [show i = 0 by omega]
  | succ m ih =>
    intro a b
    by_cases q : i = m + 1
    · rw [q]
    · rw [stW_n (h m (by omega) (by omega)), ih (by omega) (by omega)]
/-- how many of the set that are not of wood -/
def ncnt (W : jWd) (v : Int32) : Nat → Nat
  | 0 => 0
  | i + 1 => ncnt W v i + if bt v i = true ∧ W (14 + 8 * i) ≠ 1 then 1 else 0
noncomputable def gv (W : jWd) (r : Nat) (d : Bool) : Int32 := Classical.epsilon (fun v => goB W r d v)
theorem gv_of {W : jWd} {r : Nat} {d : Bool} {v : Int32} (h : goB W r d v) : gv W r d = v := goB_u (Classical.epsilon_spec (p := fun v => goB W r d v) ⟨v, h⟩) h
noncomputable def mvO (W : jWd) (r : Nat) (d : Bool) : Nat → jWd
  | 0 => W
  | t + 1 => stW (mvO W r d t) (gv (mvO W r d t) r d) d 8
noncomputable def mvS (W : jWd) (r : Nat) (d : Bool) : Nat → Nat
  | 0 => 0
  | t + 1 => mvS W r d t + ncnt (mvO W r d t) (gv (mvO W r d t) r d) 8
noncomputable def nzc (W : jWd) (s : Nat) : Int32 := if (W 8).toInt + (s : Int) < 9999 then W 8 + nI s else 9999
/-- the world behind a pull of f steps -/
noncomputable def plW (W : jWd) (r : Nat) (d : Bool) (f : Nat) : jWd := upd (mvO W r d f) 8 (nzc W (mvS W r d f))
theorem goB_8 {W : jWd} {x : Int32} {r : Nat} {d : Bool} {v : Int32} : goB (upd W 8 x) r d v ↔ goB W r d v := by
  have e0 : upd W 8 x 0 = W 0 := upd_ne (by decide)
  have e5 : upd W 8 x 5 = W 5 := upd_ne (by decide)
  have e1 : ∀ i, upd W 8 x (11 + 8 * i) = W (11 + 8 * i) := fun i => upd_ne (by omega)
  have e2 : ∀ i, upd W 8 x (12 + 8 * i) = W (12 + 8 * i) := fun i => upd_ne (by omega)
  have e3 : ∀ i, upd W 8 x (13 + 8 * i) = W (13 + 8 * i) := fun i => upd_ne (by omega)
  have e4 : ∀ i, upd W 8 x (18 + 8 * i) = W (18 + 8 * i) := fun i => upd_ne (by omega)
  unfold goB gos stp tog
  simp only [e0, e5, e1, e2, e3, e4]
theorem gv_8 {W : jWd} {x : Int32} {r : Nat} {d : Bool} : gv (upd W 8 x) r d = gv W r d := by
  unfold gv
  rw [show (fun v => goB (upd W 8 x) r d v) = (fun v => goB W r d v) from funext fun v => propext goB_8]
theorem stW_8 {W : jWd} {x : Int32} {v : Int32} {d : Bool} {i : Nat} : stW (upd W 8 x) v d i = upd (stW W v d i) 8 x := by
  funext k
  by_cases q : k = 8
  · subst q; rw [upd_eq, stW_ot (Or.inl (by decide)), upd_eq]
  · rw [upd_ne q]
    unfold stW
    rw [upd_ne q]
theorem mvO_ot {W : jWd} {r : Nat} {d : Bool} {k : Nat} (h : k < 11 ∨ (k - 11) % 8 ≠ 0) : ∀ t, mvO W r d t k = W k
  | 0 => rfl
  | t + 1 => (stW_ot h).trans (mvO_ot h t)
theorem plW_0 {W : jWd} {r : Nat} {d : Bool} (K : wOK W) : plW W r d 0 = W := by
  funext k
  unfold plW
  by_cases q : k = 8
  · subst q
    rw [upd_eq]
    obtain ⟨-, -, -, -, -, -, -, -, k8, -⟩ := K
    unfold nzc mvS
    have l9 : (9999 : Int32).toInt = 9999 := rfl
    by_cases z : (W 8).toInt + ((0 : Nat) : Int) < 9999
    · rw [if_pos z]; exact Int32.add_zero _
    · rw [if_neg z]; exact i_eq.mpr (by omega)
  · rw [upd_ne q]; rfl
theorem ncnt_le {W : jWd} {v : Int32} : ∀ i, ncnt W v i ≤ i
  | 0 => Nat.le_refl _
  | i + 1 => by
    have := ncnt_le (W := W) (v := v) i
    unfold ncnt
    split <;> omega
theorem mvS_le {W : jWd} {r : Nat} {d : Bool} : ∀ t, mvS W r d t ≤ 8 * t
  | 0 => Nat.le_refl _
  | t + 1 => by
    have a := mvS_le (W := W) (r := r) (d := d) t
    have b := ncnt_le (W := mvO W r d t) (v := gv (mvO W r d t) r d) 8
    show mvS W r d t + ncnt (mvO W r d t) (gv (mvO W r d t) r d) 8 ≤ 8 * (t + 1)
    omega
theorem nzc_i {W : jWd} (K : wOK W) {s : Nat} (hs : s < 100000) : (nzc W s).toInt = (if (W 8).toInt + (s : Int) < 9999 then (W 8).toInt + (s : Int) else 9999) := by
  obtain ⟨-, -, -, -, -, -, -, -, k8, -⟩ := K
  unfold nzc
  split
  · rw [jadd (by rw [nI_toInt (by omega)]; omega) (by rw [nI_toInt (by omega)]; omega), nI_toInt (by omega)]
  · rfl
/-- noise by one step more -/
theorem nzc_s {W : jWd} (K : wOK W) {s m : Nat} (hs : s < 5000) (hm : m < 100) : (if nzc W s + nI m < (9999 : Int32) then nzc W s + nI m else (9999 : Int32)) = nzc W (s + m) := by
  have a := nzc_i K (s := s) (by omega)
  have b := nzc_i K (s := s + m) (by omega)
  obtain ⟨-, -, -, -, -, -, -, -, k8, -⟩ := K
  have l9 : (9999 : Int32).toInt = 9999 := rfl
  have e : (nzc W s + nI m).toInt = (nzc W s).toInt + (m : Int) := by
    rw [jadd (by rw [nI_toInt (by omega), a]; split <;> omega) (by rw [nI_toInt (by omega), a]; split <;> omega), nI_toInt (by omega)]
  apply i_eq.mpr
  rw [b]
  by_cases q : nzc W s + nI m < (9999 : Int32)
  · rw [if_pos q, e, a]
    rw [Int32.lt_iff_toInt_lt, e, a] at q
    split at q <;> (split <;> first | omega | (split <;> omega))
  · rw [if_neg q, l9]
    rw [Int32.lt_iff_toInt_lt, e, a] at q
    split at q <;> (split <;> omega)
end
section
/-! the class's rod behind one write -/
theorem logE_cg {O O2 : jO} {l : Nat} {W W2 : jWd} (L : logE O l W) (h1 : ∀ k, oi O2 l k = oi O l k) (h2 : ∀ k, oi O2 (l + 1) k = oi O (l + 1) k) (hw : ∀ k, k = 9 ∨ 75 ≤ k → W2 k = W k) : logE O2 l W2 := by
  obtain ⟨a, b, c⟩ := L
  unfold logE
  rw [h1, h1, hw 9 (Or.inl rfl)]
  refine ⟨a, b, fun k hk => ?_⟩
  rw [h2, hw _ (Or.inr (by omega)), hw _ (Or.inr (by omega)), hw _ (Or.inr (by omega)), hw _ (Or.inr (by omega)), hw _ (Or.inr (by omega)), hw _ (Or.inr (by omega))]
  exact c k hk
theorem rodE_pl {O : jO} {r i : Nat} {W : jWd} {x : Int32} (R : rodE O r W) (hi : i < 8) : rodE (u2 O (r + 1) i (.int x)) r (upd W (11 + 8 * i) x) := by
  obtain ⟨⟨s0, s1, s2, s3, s4, s5⟩, ⟨u5, u10, u11, u12, u13, u14, u15, u16, u17⟩, RB, RC, RL⟩ := R
  have e0 : upd W (11 + 8 * i) x 0 = W 0 := upd_ne (by omega)
  refine ⟨⟨?_, ?_, ?_, ?_, ?_, ?_⟩, ⟨?_, ?_, ?_, ?_, ?_, ?_, ?_, ?_, ?_⟩, fun j hj => ?_, fun j hj => ?_, ?_⟩
  · simp (disch := omega) only [u2_ne, oi_ne, upd_ne]; exact s0
  · simp (disch := omega) only [u2_ne, oi_ne, upd_ne]; exact s1
  · simp (disch := omega) only [u2_ne, oi_ne, upd_ne]; exact s2
  · simp (disch := omega) only [u2_ne, oi_ne, upd_ne]; exact s3
  · simp (disch := omega) only [u2_ne, oi_ne, upd_ne]; exact s4
  · simp (disch := omega) only [u2_ne, oi_ne, upd_ne]; exact s5
  · simp (disch := omega) only [u2_ne, oi_ne, upd_ne]; exact u5
  · simp (disch := omega) only [u2_ne, oi_ne, upd_ne]; exact u10
  · simp (disch := omega) only [u2_ne, oi_ne, upd_ne]; exact u11
  · simp (disch := omega) only [u2_ne, oi_ne, upd_ne]; exact u12
  · simp (disch := omega) only [u2_ne, oi_ne, upd_ne]; exact u13
  · simp (disch := omega) only [u2_ne, oi_ne, upd_ne]; exact u14
  · simp (disch := omega) only [u2_ne, oi_ne, upd_ne]; exact u15
  · simp (disch := omega) only [u2_ne, oi_ne, upd_ne]; exact u16
  · simp (disch := omega) only [u2_ne, oi_ne, upd_ne]; exact u17
  · rw [e0] at hj
    obtain ⟨g0, g1, g2, g3, g4, g5, g6, g7⟩ := RB j hj
    refine ⟨?_, ?_, ?_, ?_, ?_, ?_, ?_, ?_⟩
    · by_cases q : j = i
      · subst q; rw [oi_eq, upd_eq]
      · rw [oi_ne (Or.inr q), upd_ne (by omega)]; exact g0
    · simp (disch := omega) only [u2_ne, oi_ne, upd_ne]; exact g1
    · simp (disch := omega) only [u2_ne, oi_ne, upd_ne]; exact g2
    · simp (disch := omega) only [u2_ne, oi_ne, upd_ne]; exact g3
    · simp (disch := omega) only [u2_ne, oi_ne, upd_ne]; exact g4
    · simp (disch := omega) only [u2_ne, oi_ne, upd_ne]; exact g5
    · simp (disch := omega) only [u2_ne, oi_ne, upd_ne]; exact g6
    · simp (disch := omega) only [u2_ne, oi_ne, upd_ne]; exact g7
  · rw [e0] at hj
    rw [oi_ne (Or.inl (by omega)), oi_ne (Or.inl (by omega))]
    exact RC j hj
  · exact logE_cg RL (fun k => oi_ne (Or.inl (by omega))) (fun k => oi_ne (Or.inl (by omega))) (fun k hk => upd_ne (by omega))
theorem rodE_cl {O : jO} {r i : Nat} {W : jWd} {x : Int32} (R : rodE O r W) (hi : i < 8) : rodE (u2 O (r + 2) i (.int x)) r (upd W (12 + 8 * i) x) := by
  obtain ⟨⟨s0, s1, s2, s3, s4, s5⟩, ⟨u5, u10, u11, u12, u13, u14, u15, u16, u17⟩, RB, RC, RL⟩ := R
  have e0 : upd W (12 + 8 * i) x 0 = W 0 := upd_ne (by omega)
  refine ⟨⟨?_, ?_, ?_, ?_, ?_, ?_⟩, ⟨?_, ?_, ?_, ?_, ?_, ?_, ?_, ?_, ?_⟩, fun j hj => ?_, fun j hj => ?_, ?_⟩
  · simp (disch := omega) only [u2_ne, oi_ne, upd_ne]; exact s0
  · simp (disch := omega) only [u2_ne, oi_ne, upd_ne]; exact s1
  · simp (disch := omega) only [u2_ne, oi_ne, upd_ne]; exact s2
  · simp (disch := omega) only [u2_ne, oi_ne, upd_ne]; exact s3
  · simp (disch := omega) only [u2_ne, oi_ne, upd_ne]; exact s4
  · simp (disch := omega) only [u2_ne, oi_ne, upd_ne]; exact s5
  · simp (disch := omega) only [u2_ne, oi_ne, upd_ne]; exact u5
  · simp (disch := omega) only [u2_ne, oi_ne, upd_ne]; exact u10
  · simp (disch := omega) only [u2_ne, oi_ne, upd_ne]; exact u11
  · simp (disch := omega) only [u2_ne, oi_ne, upd_ne]; exact u12
  · simp (disch := omega) only [u2_ne, oi_ne, upd_ne]; exact u13
  · simp (disch := omega) only [u2_ne, oi_ne, upd_ne]; exact u14
  · simp (disch := omega) only [u2_ne, oi_ne, upd_ne]; exact u15
  · simp (disch := omega) only [u2_ne, oi_ne, upd_ne]; exact u16
  · simp (disch := omega) only [u2_ne, oi_ne, upd_ne]; exact u17
  · rw [e0] at hj
    obtain ⟨g0, g1, g2, g3, g4, g5, g6, g7⟩ := RB j hj
    refine ⟨?_, ?_, ?_, ?_, ?_, ?_, ?_, ?_⟩
    · simp (disch := omega) only [u2_ne, oi_ne, upd_ne]; exact g0
    · by_cases q : j = i
      · subst q; rw [oi_eq, upd_eq]
      · rw [oi_ne (Or.inr q), upd_ne (by omega)]; exact g1
    · simp (disch := omega) only [u2_ne, oi_ne, upd_ne]; exact g2
    · simp (disch := omega) only [u2_ne, oi_ne, upd_ne]; exact g3
    · simp (disch := omega) only [u2_ne, oi_ne, upd_ne]; exact g4
    · simp (disch := omega) only [u2_ne, oi_ne, upd_ne]; exact g5
    · simp (disch := omega) only [u2_ne, oi_ne, upd_ne]; exact g6
    · simp (disch := omega) only [u2_ne, oi_ne, upd_ne]; exact g7
  · rw [e0] at hj
    rw [oi_ne (Or.inl (by omega)), oi_ne (Or.inl (by omega))]
    exact RC j hj
  · exact logE_cg RL (fun k => oi_ne (Or.inl (by omega))) (fun k => oi_ne (Or.inl (by omega))) (fun k hk => upd_ne (by omega))
theorem rodE_fd {O : jO} {r i : Nat} {W : jWd} {x : Int32} (R : rodE O r W) (hi : i < 8) : rodE (u2 O (r + 3) i (.int x)) r (upd W (15 + 8 * i) x) := by
  obtain ⟨⟨s0, s1, s2, s3, s4, s5⟩, ⟨u5, u10, u11, u12, u13, u14, u15, u16, u17⟩, RB, RC, RL⟩ := R
  have e0 : upd W (15 + 8 * i) x 0 = W 0 := upd_ne (by omega)
  refine ⟨⟨?_, ?_, ?_, ?_, ?_, ?_⟩, ⟨?_, ?_, ?_, ?_, ?_, ?_, ?_, ?_, ?_⟩, fun j hj => ?_, fun j hj => ?_, ?_⟩
  · simp (disch := omega) only [u2_ne, oi_ne, upd_ne]; exact s0
  · simp (disch := omega) only [u2_ne, oi_ne, upd_ne]; exact s1
  · simp (disch := omega) only [u2_ne, oi_ne, upd_ne]; exact s2
  · simp (disch := omega) only [u2_ne, oi_ne, upd_ne]; exact s3
  · simp (disch := omega) only [u2_ne, oi_ne, upd_ne]; exact s4
  · simp (disch := omega) only [u2_ne, oi_ne, upd_ne]; exact s5
  · simp (disch := omega) only [u2_ne, oi_ne, upd_ne]; exact u5
  · simp (disch := omega) only [u2_ne, oi_ne, upd_ne]; exact u10
  · simp (disch := omega) only [u2_ne, oi_ne, upd_ne]; exact u11
  · simp (disch := omega) only [u2_ne, oi_ne, upd_ne]; exact u12
  · simp (disch := omega) only [u2_ne, oi_ne, upd_ne]; exact u13
  · simp (disch := omega) only [u2_ne, oi_ne, upd_ne]; exact u14
  · simp (disch := omega) only [u2_ne, oi_ne, upd_ne]; exact u15
  · simp (disch := omega) only [u2_ne, oi_ne, upd_ne]; exact u16
  · simp (disch := omega) only [u2_ne, oi_ne, upd_ne]; exact u17
  · rw [e0] at hj
    obtain ⟨g0, g1, g2, g3, g4, g5, g6, g7⟩ := RB j hj
    refine ⟨?_, ?_, ?_, ?_, ?_, ?_, ?_, ?_⟩
    · simp (disch := omega) only [u2_ne, oi_ne, upd_ne]; exact g0
    · simp (disch := omega) only [u2_ne, oi_ne, upd_ne]; exact g1
    · simp (disch := omega) only [u2_ne, oi_ne, upd_ne]; exact g2
    · simp (disch := omega) only [u2_ne, oi_ne, upd_ne]; exact g3
    · by_cases q : j = i
      · subst q; rw [oi_eq, upd_eq]
      · rw [oi_ne (Or.inr q), upd_ne (by omega)]; exact g4
    · simp (disch := omega) only [u2_ne, oi_ne, upd_ne]; exact g5
    · simp (disch := omega) only [u2_ne, oi_ne, upd_ne]; exact g6
    · simp (disch := omega) only [u2_ne, oi_ne, upd_ne]; exact g7
  · rw [e0] at hj
    rw [oi_ne (Or.inl (by omega)), oi_ne (Or.inl (by omega))]
    exact RC j hj
  · exact logE_cg RL (fun k => oi_ne (Or.inl (by omega))) (fun k => oi_ne (Or.inl (by omega))) (fun k hk => upd_ne (by omega))
theorem rodE_ln {O : jO} {r i : Nat} {W : jWd} {x : Int32} (R : rodE O r W) (hi : i < 8) : rodE (u2 O (r + 4) i (.int x)) r (upd W (16 + 8 * i) x) := by
  obtain ⟨⟨s0, s1, s2, s3, s4, s5⟩, ⟨u5, u10, u11, u12, u13, u14, u15, u16, u17⟩, RB, RC, RL⟩ := R
  have e0 : upd W (16 + 8 * i) x 0 = W 0 := upd_ne (by omega)
  refine ⟨⟨?_, ?_, ?_, ?_, ?_, ?_⟩, ⟨?_, ?_, ?_, ?_, ?_, ?_, ?_, ?_, ?_⟩, fun j hj => ?_, fun j hj => ?_, ?_⟩
  · simp (disch := omega) only [u2_ne, oi_ne, upd_ne]; exact s0
  · simp (disch := omega) only [u2_ne, oi_ne, upd_ne]; exact s1
  · simp (disch := omega) only [u2_ne, oi_ne, upd_ne]; exact s2
  · simp (disch := omega) only [u2_ne, oi_ne, upd_ne]; exact s3
  · simp (disch := omega) only [u2_ne, oi_ne, upd_ne]; exact s4
  · simp (disch := omega) only [u2_ne, oi_ne, upd_ne]; exact s5
  · simp (disch := omega) only [u2_ne, oi_ne, upd_ne]; exact u5
  · simp (disch := omega) only [u2_ne, oi_ne, upd_ne]; exact u10
  · simp (disch := omega) only [u2_ne, oi_ne, upd_ne]; exact u11
  · simp (disch := omega) only [u2_ne, oi_ne, upd_ne]; exact u12
  · simp (disch := omega) only [u2_ne, oi_ne, upd_ne]; exact u13
  · simp (disch := omega) only [u2_ne, oi_ne, upd_ne]; exact u14
  · simp (disch := omega) only [u2_ne, oi_ne, upd_ne]; exact u15
  · simp (disch := omega) only [u2_ne, oi_ne, upd_ne]; exact u16
  · simp (disch := omega) only [u2_ne, oi_ne, upd_ne]; exact u17
  · rw [e0] at hj
    obtain ⟨g0, g1, g2, g3, g4, g5, g6, g7⟩ := RB j hj
    refine ⟨?_, ?_, ?_, ?_, ?_, ?_, ?_, ?_⟩
    · simp (disch := omega) only [u2_ne, oi_ne, upd_ne]; exact g0
    · simp (disch := omega) only [u2_ne, oi_ne, upd_ne]; exact g1
    · simp (disch := omega) only [u2_ne, oi_ne, upd_ne]; exact g2
    · simp (disch := omega) only [u2_ne, oi_ne, upd_ne]; exact g3
    · simp (disch := omega) only [u2_ne, oi_ne, upd_ne]; exact g4
    · by_cases q : j = i
      · subst q; rw [oi_eq, upd_eq]
      · rw [oi_ne (Or.inr q), upd_ne (by omega)]; exact g5
    · simp (disch := omega) only [u2_ne, oi_ne, upd_ne]; exact g6
    · simp (disch := omega) only [u2_ne, oi_ne, upd_ne]; exact g7
  · rw [e0] at hj
    rw [oi_ne (Or.inl (by omega)), oi_ne (Or.inl (by omega))]
    exact RC j hj
  · exact logE_cg RL (fun k => oi_ne (Or.inl (by omega))) (fun k => oi_ne (Or.inl (by omega))) (fun k hk => upd_ne (by omega))
theorem rodE_i10 {O : jO} {r : Nat} {W : jWd} {x : Int32} (R : rodE O r W) : rodE (u2 O r 10 (.int x)) r (upd W 7 x) := by
  obtain ⟨⟨s0, s1, s2, s3, s4, s5⟩, ⟨u5, u10, u11, u12, u13, u14, u15, u16, u17⟩, RB, RC, RL⟩ := R
  have e0 : upd W 7 x 0 = W 0 := upd_ne (by omega)
  refine ⟨⟨?_, ?_, ?_, ?_, ?_, ?_⟩, ⟨?_, ?_, ?_, ?_, ?_, ?_, ?_, ?_, ?_⟩, fun j hj => ?_, fun j hj => ?_, ?_⟩
  · simp (disch := omega) only [u2_ne, oi_ne, upd_ne]; exact s0
  · simp (disch := omega) only [u2_ne, oi_ne, upd_ne]; exact s1
  · simp (disch := omega) only [u2_ne, oi_ne, upd_ne]; exact s2
  · simp (disch := omega) only [u2_ne, oi_ne, upd_ne]; exact s3
  · simp (disch := omega) only [u2_ne, oi_ne, upd_ne]; exact s4
  · simp (disch := omega) only [u2_ne, oi_ne, upd_ne]; exact s5
  · simp (disch := omega) only [u2_ne, oi_ne, upd_ne]; exact u5
  · rw [oi_eq, upd_eq]
  · simp (disch := omega) only [u2_ne, oi_ne, upd_ne]; exact u11
  · simp (disch := omega) only [u2_ne, oi_ne, upd_ne]; exact u12
  · simp (disch := omega) only [u2_ne, oi_ne, upd_ne]; exact u13
  · simp (disch := omega) only [u2_ne, oi_ne, upd_ne]; exact u14
  · simp (disch := omega) only [u2_ne, oi_ne, upd_ne]; exact u15
  · simp (disch := omega) only [u2_ne, oi_ne, upd_ne]; exact u16
  · simp (disch := omega) only [u2_ne, oi_ne, upd_ne]; exact u17
  · rw [e0] at hj
    have RB := RB j hj
    simp (disch := omega) only [u2_ne, oi_ne, upd_ne]
    exact RB
  · rw [e0] at hj
    rw [oi_ne (Or.inr (by omega)), oi_ne (Or.inr (by omega))]
    exact RC j hj
  · exact logE_cg RL (fun k => oi_ne (Or.inl (by omega))) (fun k => oi_ne (Or.inl (by omega))) (fun k hk => upd_ne (by omega))
theorem rodE_i11 {O : jO} {r : Nat} {W : jWd} {x : Int32} (R : rodE O r W) : rodE (u2 O r 11 (.int x)) r (upd W 5 x) := by
  obtain ⟨⟨s0, s1, s2, s3, s4, s5⟩, ⟨u5, u10, u11, u12, u13, u14, u15, u16, u17⟩, RB, RC, RL⟩ := R
  have e0 : upd W 5 x 0 = W 0 := upd_ne (by omega)
  refine ⟨⟨?_, ?_, ?_, ?_, ?_, ?_⟩, ⟨?_, ?_, ?_, ?_, ?_, ?_, ?_, ?_, ?_⟩, fun j hj => ?_, fun j hj => ?_, ?_⟩
  · simp (disch := omega) only [u2_ne, oi_ne, upd_ne]; exact s0
  · simp (disch := omega) only [u2_ne, oi_ne, upd_ne]; exact s1
  · simp (disch := omega) only [u2_ne, oi_ne, upd_ne]; exact s2
  · simp (disch := omega) only [u2_ne, oi_ne, upd_ne]; exact s3
  · simp (disch := omega) only [u2_ne, oi_ne, upd_ne]; exact s4
  · simp (disch := omega) only [u2_ne, oi_ne, upd_ne]; exact s5
  · simp (disch := omega) only [u2_ne, oi_ne, upd_ne]; exact u5
  · simp (disch := omega) only [u2_ne, oi_ne, upd_ne]; exact u10
  · rw [oi_eq, upd_eq]
  · simp (disch := omega) only [u2_ne, oi_ne, upd_ne]; exact u12
  · simp (disch := omega) only [u2_ne, oi_ne, upd_ne]; exact u13
  · simp (disch := omega) only [u2_ne, oi_ne, upd_ne]; exact u14
  · simp (disch := omega) only [u2_ne, oi_ne, upd_ne]; exact u15
  · simp (disch := omega) only [u2_ne, oi_ne, upd_ne]; exact u16
  · simp (disch := omega) only [u2_ne, oi_ne, upd_ne]; exact u17
  · rw [e0] at hj
    have RB := RB j hj
    simp (disch := omega) only [u2_ne, oi_ne, upd_ne]
    exact RB
  · rw [e0] at hj
    rw [oi_ne (Or.inr (by omega)), oi_ne (Or.inr (by omega))]
    exact RC j hj
  · exact logE_cg RL (fun k => oi_ne (Or.inl (by omega))) (fun k => oi_ne (Or.inl (by omega))) (fun k hk => upd_ne (by omega))
theorem rodE_i12 {O : jO} {r : Nat} {W : jWd} {x : Int32} (R : rodE O r W) : rodE (u2 O r 12 (.int x)) r (upd W 6 x) := by
  obtain ⟨⟨s0, s1, s2, s3, s4, s5⟩, ⟨u5, u10, u11, u12, u13, u14, u15, u16, u17⟩, RB, RC, RL⟩ := R
  have e0 : upd W 6 x 0 = W 0 := upd_ne (by omega)
  refine ⟨⟨?_, ?_, ?_, ?_, ?_, ?_⟩, ⟨?_, ?_, ?_, ?_, ?_, ?_, ?_, ?_, ?_⟩, fun j hj => ?_, fun j hj => ?_, ?_⟩
  · simp (disch := omega) only [u2_ne, oi_ne, upd_ne]; exact s0
  · simp (disch := omega) only [u2_ne, oi_ne, upd_ne]; exact s1
  · simp (disch := omega) only [u2_ne, oi_ne, upd_ne]; exact s2
  · simp (disch := omega) only [u2_ne, oi_ne, upd_ne]; exact s3
  · simp (disch := omega) only [u2_ne, oi_ne, upd_ne]; exact s4
  · simp (disch := omega) only [u2_ne, oi_ne, upd_ne]; exact s5
  · simp (disch := omega) only [u2_ne, oi_ne, upd_ne]; exact u5
  · simp (disch := omega) only [u2_ne, oi_ne, upd_ne]; exact u10
  · simp (disch := omega) only [u2_ne, oi_ne, upd_ne]; exact u11
  · rw [oi_eq, upd_eq]
  · simp (disch := omega) only [u2_ne, oi_ne, upd_ne]; exact u13
  · simp (disch := omega) only [u2_ne, oi_ne, upd_ne]; exact u14
  · simp (disch := omega) only [u2_ne, oi_ne, upd_ne]; exact u15
  · simp (disch := omega) only [u2_ne, oi_ne, upd_ne]; exact u16
  · simp (disch := omega) only [u2_ne, oi_ne, upd_ne]; exact u17
  · rw [e0] at hj
    have RB := RB j hj
    simp (disch := omega) only [u2_ne, oi_ne, upd_ne]
    exact RB
  · rw [e0] at hj
    rw [oi_ne (Or.inr (by omega)), oi_ne (Or.inr (by omega))]
    exact RC j hj
  · exact logE_cg RL (fun k => oi_ne (Or.inl (by omega))) (fun k => oi_ne (Or.inl (by omega))) (fun k hk => upd_ne (by omega))
theorem rodE_i13 {O : jO} {r : Nat} {W : jWd} {x : Int32} (R : rodE O r W) : rodE (u2 O r 13 (.int x)) r (upd W 3 x) := by
  obtain ⟨⟨s0, s1, s2, s3, s4, s5⟩, ⟨u5, u10, u11, u12, u13, u14, u15, u16, u17⟩, RB, RC, RL⟩ := R
  have e0 : upd W 3 x 0 = W 0 := upd_ne (by omega)
  refine ⟨⟨?_, ?_, ?_, ?_, ?_, ?_⟩, ⟨?_, ?_, ?_, ?_, ?_, ?_, ?_, ?_, ?_⟩, fun j hj => ?_, fun j hj => ?_, ?_⟩
  · simp (disch := omega) only [u2_ne, oi_ne, upd_ne]; exact s0
  · simp (disch := omega) only [u2_ne, oi_ne, upd_ne]; exact s1
  · simp (disch := omega) only [u2_ne, oi_ne, upd_ne]; exact s2
  · simp (disch := omega) only [u2_ne, oi_ne, upd_ne]; exact s3
  · simp (disch := omega) only [u2_ne, oi_ne, upd_ne]; exact s4
  · simp (disch := omega) only [u2_ne, oi_ne, upd_ne]; exact s5
  · simp (disch := omega) only [u2_ne, oi_ne, upd_ne]; exact u5
  · simp (disch := omega) only [u2_ne, oi_ne, upd_ne]; exact u10
  · simp (disch := omega) only [u2_ne, oi_ne, upd_ne]; exact u11
  · simp (disch := omega) only [u2_ne, oi_ne, upd_ne]; exact u12
  · rw [oi_eq, upd_eq]
  · simp (disch := omega) only [u2_ne, oi_ne, upd_ne]; exact u14
  · simp (disch := omega) only [u2_ne, oi_ne, upd_ne]; exact u15
  · simp (disch := omega) only [u2_ne, oi_ne, upd_ne]; exact u16
  · simp (disch := omega) only [u2_ne, oi_ne, upd_ne]; exact u17
  · rw [e0] at hj
    have RB := RB j hj
    simp (disch := omega) only [u2_ne, oi_ne, upd_ne]
    exact RB
  · rw [e0] at hj
    rw [oi_ne (Or.inr (by omega)), oi_ne (Or.inr (by omega))]
    exact RC j hj
  · exact logE_cg RL (fun k => oi_ne (Or.inl (by omega))) (fun k => oi_ne (Or.inl (by omega))) (fun k hk => upd_ne (by omega))
theorem rodE_i14 {O : jO} {r : Nat} {W : jWd} {x : Int32} (R : rodE O r W) : rodE (u2 O r 14 (.int x)) r (upd W 4 x) := by
  obtain ⟨⟨s0, s1, s2, s3, s4, s5⟩, ⟨u5, u10, u11, u12, u13, u14, u15, u16, u17⟩, RB, RC, RL⟩ := R
  have e0 : upd W 4 x 0 = W 0 := upd_ne (by omega)
  refine ⟨⟨?_, ?_, ?_, ?_, ?_, ?_⟩, ⟨?_, ?_, ?_, ?_, ?_, ?_, ?_, ?_, ?_⟩, fun j hj => ?_, fun j hj => ?_, ?_⟩
  · simp (disch := omega) only [u2_ne, oi_ne, upd_ne]; exact s0
  · simp (disch := omega) only [u2_ne, oi_ne, upd_ne]; exact s1
  · simp (disch := omega) only [u2_ne, oi_ne, upd_ne]; exact s2
  · simp (disch := omega) only [u2_ne, oi_ne, upd_ne]; exact s3
  · simp (disch := omega) only [u2_ne, oi_ne, upd_ne]; exact s4
  · simp (disch := omega) only [u2_ne, oi_ne, upd_ne]; exact s5
  · simp (disch := omega) only [u2_ne, oi_ne, upd_ne]; exact u5
  · simp (disch := omega) only [u2_ne, oi_ne, upd_ne]; exact u10
  · simp (disch := omega) only [u2_ne, oi_ne, upd_ne]; exact u11
  · simp (disch := omega) only [u2_ne, oi_ne, upd_ne]; exact u12
  · simp (disch := omega) only [u2_ne, oi_ne, upd_ne]; exact u13
  · rw [oi_eq, upd_eq]
  · simp (disch := omega) only [u2_ne, oi_ne, upd_ne]; exact u15
  · simp (disch := omega) only [u2_ne, oi_ne, upd_ne]; exact u16
  · simp (disch := omega) only [u2_ne, oi_ne, upd_ne]; exact u17
  · rw [e0] at hj
    have RB := RB j hj
    simp (disch := omega) only [u2_ne, oi_ne, upd_ne]
    exact RB
  · rw [e0] at hj
    rw [oi_ne (Or.inr (by omega)), oi_ne (Or.inr (by omega))]
    exact RC j hj
  · exact logE_cg RL (fun k => oi_ne (Or.inl (by omega))) (fun k => oi_ne (Or.inl (by omega))) (fun k hk => upd_ne (by omega))
theorem rodE_i15 {O : jO} {r : Nat} {W : jWd} {x : Int32} (R : rodE O r W) : rodE (u2 O r 15 (.int x)) r (upd W 8 x) := by
  obtain ⟨⟨s0, s1, s2, s3, s4, s5⟩, ⟨u5, u10, u11, u12, u13, u14, u15, u16, u17⟩, RB, RC, RL⟩ := R
  have e0 : upd W 8 x 0 = W 0 := upd_ne (by omega)
  refine ⟨⟨?_, ?_, ?_, ?_, ?_, ?_⟩, ⟨?_, ?_, ?_, ?_, ?_, ?_, ?_, ?_, ?_⟩, fun j hj => ?_, fun j hj => ?_, ?_⟩
  · simp (disch := omega) only [u2_ne, oi_ne, upd_ne]; exact s0
  · simp (disch := omega) only [u2_ne, oi_ne, upd_ne]; exact s1
  · simp (disch := omega) only [u2_ne, oi_ne, upd_ne]; exact s2
  · simp (disch := omega) only [u2_ne, oi_ne, upd_ne]; exact s3
  · simp (disch := omega) only [u2_ne, oi_ne, upd_ne]; exact s4
  · simp (disch := omega) only [u2_ne, oi_ne, upd_ne]; exact s5
  · simp (disch := omega) only [u2_ne, oi_ne, upd_ne]; exact u5
  · simp (disch := omega) only [u2_ne, oi_ne, upd_ne]; exact u10
  · simp (disch := omega) only [u2_ne, oi_ne, upd_ne]; exact u11
  · simp (disch := omega) only [u2_ne, oi_ne, upd_ne]; exact u12
  · simp (disch := omega) only [u2_ne, oi_ne, upd_ne]; exact u13
  · simp (disch := omega) only [u2_ne, oi_ne, upd_ne]; exact u14
  · rw [oi_eq, upd_eq]
  · simp (disch := omega) only [u2_ne, oi_ne, upd_ne]; exact u16
  · simp (disch := omega) only [u2_ne, oi_ne, upd_ne]; exact u17
  · rw [e0] at hj
    have RB := RB j hj
    simp (disch := omega) only [u2_ne, oi_ne, upd_ne]
    exact RB
  · rw [e0] at hj
    rw [oi_ne (Or.inr (by omega)), oi_ne (Or.inr (by omega))]
    exact RC j hj
  · exact logE_cg RL (fun k => oi_ne (Or.inl (by omega))) (fun k => oi_ne (Or.inl (by omega))) (fun k hk => upd_ne (by omega))
theorem rodE_i16 {O : jO} {r : Nat} {W : jWd} {x : Int32} (R : rodE O r W) : rodE (u2 O r 16 (.int x)) r (upd W 10 x) := by
  obtain ⟨⟨s0, s1, s2, s3, s4, s5⟩, ⟨u5, u10, u11, u12, u13, u14, u15, u16, u17⟩, RB, RC, RL⟩ := R
  have e0 : upd W 10 x 0 = W 0 := upd_ne (by omega)
  refine ⟨⟨?_, ?_, ?_, ?_, ?_, ?_⟩, ⟨?_, ?_, ?_, ?_, ?_, ?_, ?_, ?_, ?_⟩, fun j hj => ?_, fun j hj => ?_, ?_⟩
  · simp (disch := omega) only [u2_ne, oi_ne, upd_ne]; exact s0
  · simp (disch := omega) only [u2_ne, oi_ne, upd_ne]; exact s1
  · simp (disch := omega) only [u2_ne, oi_ne, upd_ne]; exact s2
  · simp (disch := omega) only [u2_ne, oi_ne, upd_ne]; exact s3
  · simp (disch := omega) only [u2_ne, oi_ne, upd_ne]; exact s4
  · simp (disch := omega) only [u2_ne, oi_ne, upd_ne]; exact s5
  · simp (disch := omega) only [u2_ne, oi_ne, upd_ne]; exact u5
  · simp (disch := omega) only [u2_ne, oi_ne, upd_ne]; exact u10
  · simp (disch := omega) only [u2_ne, oi_ne, upd_ne]; exact u11
  · simp (disch := omega) only [u2_ne, oi_ne, upd_ne]; exact u12
  · simp (disch := omega) only [u2_ne, oi_ne, upd_ne]; exact u13
  · simp (disch := omega) only [u2_ne, oi_ne, upd_ne]; exact u14
  · simp (disch := omega) only [u2_ne, oi_ne, upd_ne]; exact u15
  · rw [oi_eq, upd_eq]
  · simp (disch := omega) only [u2_ne, oi_ne, upd_ne]; exact u17
  · rw [e0] at hj
    have RB := RB j hj
    simp (disch := omega) only [u2_ne, oi_ne, upd_ne]
    exact RB
  · rw [e0] at hj
    rw [oi_ne (Or.inr (by omega)), oi_ne (Or.inr (by omega))]
    exact RC j hj
  · exact logE_cg RL (fun k => oi_ne (Or.inl (by omega))) (fun k => oi_ne (Or.inl (by omega))) (fun k hk => upd_ne (by omega))
theorem rodE_i17 {O : jO} {r : Nat} {W : jWd} {x : Int32} (R : rodE O r W) : rodE (u2 O r 17 (.int x)) r (upd W 1 x) := by
  obtain ⟨⟨s0, s1, s2, s3, s4, s5⟩, ⟨u5, u10, u11, u12, u13, u14, u15, u16, u17⟩, RB, RC, RL⟩ := R
  have e0 : upd W 1 x 0 = W 0 := upd_ne (by omega)
  refine ⟨⟨?_, ?_, ?_, ?_, ?_, ?_⟩, ⟨?_, ?_, ?_, ?_, ?_, ?_, ?_, ?_, ?_⟩, fun j hj => ?_, fun j hj => ?_, ?_⟩
  · simp (disch := omega) only [u2_ne, oi_ne, upd_ne]; exact s0
  · simp (disch := omega) only [u2_ne, oi_ne, upd_ne]; exact s1
  · simp (disch := omega) only [u2_ne, oi_ne, upd_ne]; exact s2
  · simp (disch := omega) only [u2_ne, oi_ne, upd_ne]; exact s3
  · simp (disch := omega) only [u2_ne, oi_ne, upd_ne]; exact s4
  · simp (disch := omega) only [u2_ne, oi_ne, upd_ne]; exact s5
  · simp (disch := omega) only [u2_ne, oi_ne, upd_ne]; exact u5
  · simp (disch := omega) only [u2_ne, oi_ne, upd_ne]; exact u10
  · simp (disch := omega) only [u2_ne, oi_ne, upd_ne]; exact u11
  · simp (disch := omega) only [u2_ne, oi_ne, upd_ne]; exact u12
  · simp (disch := omega) only [u2_ne, oi_ne, upd_ne]; exact u13
  · simp (disch := omega) only [u2_ne, oi_ne, upd_ne]; exact u14
  · simp (disch := omega) only [u2_ne, oi_ne, upd_ne]; exact u15
  · simp (disch := omega) only [u2_ne, oi_ne, upd_ne]; exact u16
  · rw [oi_eq, upd_eq]
  · rw [e0] at hj
    have RB := RB j hj
    simp (disch := omega) only [u2_ne, oi_ne, upd_ne]
    exact RB
  · rw [e0] at hj
    rw [oi_ne (Or.inr (by omega)), oi_ne (Or.inr (by omega))]
    exact RC j hj
  · exact logE_cg RL (fun k => oi_ne (Or.inl (by omega))) (fun k => oi_ne (Or.inl (by omega))) (fun k hk => upd_ne (by omega))
theorem rodE_th {O : jO} {r i : Nat} {W : jWd} {x y : Int32} (R : rodE O r W) (hi : (i : Int) < (W 0).toInt) (h8 : i < 8) (hy : ∀ j, j < 32 → (bt y j = true ↔ (if j = i then x = 1 else bt (oi O r 6) j = true))) (h0 : 0 ≤ (W 0).toInt ∧ (W 0).toInt ≤ 8) : rodE (u2 O r 6 (.int y)) r (upd W (13 + 8 * i) x) := by
  obtain ⟨⟨s0, s1, s2, s3, s4, s5⟩, ⟨u5, u10, u11, u12, u13, u14, u15, u16, u17⟩, RB, RC, RL⟩ := R
  have e0 : upd W (13 + 8 * i) x 0 = W 0 := upd_ne (by omega)
  refine ⟨⟨?_, ?_, ?_, ?_, ?_, ?_⟩, ⟨?_, ?_, ?_, ?_, ?_, ?_, ?_, ?_, ?_⟩, fun j hj => ?_, fun j hj h32 => ?_, ?_⟩
  · simp (disch := omega) only [u2_ne, oi_ne, upd_ne]; exact s0
  · simp (disch := omega) only [u2_ne, oi_ne, upd_ne]; exact s1
  · simp (disch := omega) only [u2_ne, oi_ne, upd_ne]; exact s2
  · simp (disch := omega) only [u2_ne, oi_ne, upd_ne]; exact s3
  · simp (disch := omega) only [u2_ne, oi_ne, upd_ne]; exact s4
  · simp (disch := omega) only [u2_ne, oi_ne, upd_ne]; exact s5
  · simp (disch := omega) only [u2_ne, oi_ne, upd_ne]; exact u5
  · simp (disch := omega) only [u2_ne, oi_ne, upd_ne]; exact u10
  · simp (disch := omega) only [u2_ne, oi_ne, upd_ne]; exact u11
  · simp (disch := omega) only [u2_ne, oi_ne, upd_ne]; exact u12
  · simp (disch := omega) only [u2_ne, oi_ne, upd_ne]; exact u13
  · simp (disch := omega) only [u2_ne, oi_ne, upd_ne]; exact u14
  · simp (disch := omega) only [u2_ne, oi_ne, upd_ne]; exact u15
  · simp (disch := omega) only [u2_ne, oi_ne, upd_ne]; exact u16
  · simp (disch := omega) only [u2_ne, oi_ne, upd_ne]; exact u17
  · rw [e0] at hj
    obtain ⟨g0, g1, g2, g3, g4, g5, g6, g7⟩ := RB j hj
    refine ⟨?_, ?_, ?_, ?_, ?_, ?_, ?_, ?_⟩
    · simp (disch := omega) only [u2_ne, oi_ne, upd_ne]; exact g0
    · simp (disch := omega) only [u2_ne, oi_ne, upd_ne]; exact g1
    · rw [oi_eq]
      refine (hy j (by omega)).trans ?_
      by_cases q : j = i
      · subst q; rw [if_pos rfl, upd_eq]
      · rw [if_neg q, upd_ne (by omega)]; exact g2
    · simp (disch := omega) only [u2_ne, oi_ne, upd_ne]; exact g3
    · simp (disch := omega) only [u2_ne, oi_ne, upd_ne]; exact g4
    · simp (disch := omega) only [u2_ne, oi_ne, upd_ne]; exact g5
    · simp (disch := omega) only [u2_ne, oi_ne, upd_ne]; exact g6
    · simp (disch := omega) only [u2_ne, oi_ne, upd_ne]; exact g7
  · rw [e0] at hj
    rw [oi_ne (Or.inr (by omega)), oi_ne (Or.inr (by omega))]
    exact RC j hj h32
  · exact logE_cg RL (fun k => oi_ne (Or.inl (by omega))) (fun k => oi_ne (Or.inl (by omega))) (fun k hk => upd_ne (by omega))
theorem rodE_wd {O : jO} {r i : Nat} {W : jWd} {x y : Int32} (R : rodE O r W) (hi : (i : Int) < (W 0).toInt) (h8 : i < 8) (hy : ∀ j, j < 32 → (bt y j = true ↔ (if j = i then x = 1 else bt (oi O r 7) j = true))) (h0 : 0 ≤ (W 0).toInt ∧ (W 0).toInt ≤ 8) : rodE (u2 O r 7 (.int y)) r (upd W (14 + 8 * i) x) := by
  obtain ⟨⟨s0, s1, s2, s3, s4, s5⟩, ⟨u5, u10, u11, u12, u13, u14, u15, u16, u17⟩, RB, RC, RL⟩ := R
  have e0 : upd W (14 + 8 * i) x 0 = W 0 := upd_ne (by omega)
  refine ⟨⟨?_, ?_, ?_, ?_, ?_, ?_⟩, ⟨?_, ?_, ?_, ?_, ?_, ?_, ?_, ?_, ?_⟩, fun j hj => ?_, fun j hj h32 => ?_, ?_⟩
  · simp (disch := omega) only [u2_ne, oi_ne, upd_ne]; exact s0
  · simp (disch := omega) only [u2_ne, oi_ne, upd_ne]; exact s1
  · simp (disch := omega) only [u2_ne, oi_ne, upd_ne]; exact s2
  · simp (disch := omega) only [u2_ne, oi_ne, upd_ne]; exact s3
  · simp (disch := omega) only [u2_ne, oi_ne, upd_ne]; exact s4
  · simp (disch := omega) only [u2_ne, oi_ne, upd_ne]; exact s5
  · simp (disch := omega) only [u2_ne, oi_ne, upd_ne]; exact u5
  · simp (disch := omega) only [u2_ne, oi_ne, upd_ne]; exact u10
  · simp (disch := omega) only [u2_ne, oi_ne, upd_ne]; exact u11
  · simp (disch := omega) only [u2_ne, oi_ne, upd_ne]; exact u12
  · simp (disch := omega) only [u2_ne, oi_ne, upd_ne]; exact u13
  · simp (disch := omega) only [u2_ne, oi_ne, upd_ne]; exact u14
  · simp (disch := omega) only [u2_ne, oi_ne, upd_ne]; exact u15
  · simp (disch := omega) only [u2_ne, oi_ne, upd_ne]; exact u16
  · simp (disch := omega) only [u2_ne, oi_ne, upd_ne]; exact u17
  · rw [e0] at hj
    obtain ⟨g0, g1, g2, g3, g4, g5, g6, g7⟩ := RB j hj
    refine ⟨?_, ?_, ?_, ?_, ?_, ?_, ?_, ?_⟩
    · simp (disch := omega) only [u2_ne, oi_ne, upd_ne]; exact g0
    · simp (disch := omega) only [u2_ne, oi_ne, upd_ne]; exact g1
    · simp (disch := omega) only [u2_ne, oi_ne, upd_ne]; exact g2
    · rw [oi_eq]
      refine (hy j (by omega)).trans ?_
      by_cases q : j = i
      · subst q; rw [if_pos rfl, upd_eq]
      · rw [if_neg q, upd_ne (by omega)]; exact g3
    · simp (disch := omega) only [u2_ne, oi_ne, upd_ne]; exact g4
    · simp (disch := omega) only [u2_ne, oi_ne, upd_ne]; exact g5
    · simp (disch := omega) only [u2_ne, oi_ne, upd_ne]; exact g6
    · simp (disch := omega) only [u2_ne, oi_ne, upd_ne]; exact g7
  · rw [e0] at hj
    have z : bt y j = false := by
      have a := (hy j h32).mp
      rw [if_neg (by omega : ¬ j = i)] at a
      cases q : bt y j with
      | false => rfl
      | true => exact absurd (a q) (by rw [(RC j hj h32).1]; decide)
    refine ⟨by rw [oi_eq]; exact z, by rw [oi_ne (Or.inr (by decide))]; exact (RC j hj h32).2⟩
  · exact logE_cg RL (fun k => oi_ne (Or.inl (by omega))) (fun k => oi_ne (Or.inl (by omega))) (fun k hk => upd_ne (by omega))
theorem rodE_hk {O : jO} {r i : Nat} {W : jWd} {x y : Int32} (R : rodE O r W) (hi : (i : Int) < (W 0).toInt) (h8 : i < 8) (hy : ∀ j, j < 32 → (bt y j = true ↔ (if j = i then x = 1 else bt (oi O r 8) j = true))) (h0 : 0 ≤ (W 0).toInt ∧ (W 0).toInt ≤ 8) : rodE (u2 O r 8 (.int y)) r (upd W (17 + 8 * i) x) := by
  obtain ⟨⟨s0, s1, s2, s3, s4, s5⟩, ⟨u5, u10, u11, u12, u13, u14, u15, u16, u17⟩, RB, RC, RL⟩ := R
  have e0 : upd W (17 + 8 * i) x 0 = W 0 := upd_ne (by omega)
  refine ⟨⟨?_, ?_, ?_, ?_, ?_, ?_⟩, ⟨?_, ?_, ?_, ?_, ?_, ?_, ?_, ?_, ?_⟩, fun j hj => ?_, fun j hj h32 => ?_, ?_⟩
  · simp (disch := omega) only [u2_ne, oi_ne, upd_ne]; exact s0
  · simp (disch := omega) only [u2_ne, oi_ne, upd_ne]; exact s1
  · simp (disch := omega) only [u2_ne, oi_ne, upd_ne]; exact s2
  · simp (disch := omega) only [u2_ne, oi_ne, upd_ne]; exact s3
  · simp (disch := omega) only [u2_ne, oi_ne, upd_ne]; exact s4
  · simp (disch := omega) only [u2_ne, oi_ne, upd_ne]; exact s5
  · simp (disch := omega) only [u2_ne, oi_ne, upd_ne]; exact u5
  · simp (disch := omega) only [u2_ne, oi_ne, upd_ne]; exact u10
  · simp (disch := omega) only [u2_ne, oi_ne, upd_ne]; exact u11
  · simp (disch := omega) only [u2_ne, oi_ne, upd_ne]; exact u12
  · simp (disch := omega) only [u2_ne, oi_ne, upd_ne]; exact u13
  · simp (disch := omega) only [u2_ne, oi_ne, upd_ne]; exact u14
  · simp (disch := omega) only [u2_ne, oi_ne, upd_ne]; exact u15
  · simp (disch := omega) only [u2_ne, oi_ne, upd_ne]; exact u16
  · simp (disch := omega) only [u2_ne, oi_ne, upd_ne]; exact u17
  · rw [e0] at hj
    obtain ⟨g0, g1, g2, g3, g4, g5, g6, g7⟩ := RB j hj
    refine ⟨?_, ?_, ?_, ?_, ?_, ?_, ?_, ?_⟩
    · simp (disch := omega) only [u2_ne, oi_ne, upd_ne]; exact g0
    · simp (disch := omega) only [u2_ne, oi_ne, upd_ne]; exact g1
    · simp (disch := omega) only [u2_ne, oi_ne, upd_ne]; exact g2
    · simp (disch := omega) only [u2_ne, oi_ne, upd_ne]; exact g3
    · simp (disch := omega) only [u2_ne, oi_ne, upd_ne]; exact g4
    · simp (disch := omega) only [u2_ne, oi_ne, upd_ne]; exact g5
    · rw [oi_eq]
      refine (hy j (by omega)).trans ?_
      by_cases q : j = i
      · subst q; rw [if_pos rfl, upd_eq]
      · rw [if_neg q, upd_ne (by omega)]; exact g6
    · simp (disch := omega) only [u2_ne, oi_ne, upd_ne]; exact g7
  · rw [e0] at hj
    rw [oi_ne (Or.inr (by omega)), oi_ne (Or.inr (by omega))]
    exact RC j hj h32
  · exact logE_cg RL (fun k => oi_ne (Or.inl (by omega))) (fun k => oi_ne (Or.inl (by omega))) (fun k hk => upd_ne (by omega))
theorem rodE_ct {O : jO} {r i : Nat} {W : jWd} {x y : Int32} (R : rodE O r W) (hi : (i : Int) < (W 0).toInt) (h8 : i < 8) (hy : ∀ j, j < 32 → (bt y j = true ↔ (if j = i then x = 1 else bt (oi O r 9) j = true))) (h0 : 0 ≤ (W 0).toInt ∧ (W 0).toInt ≤ 8) : rodE (u2 O r 9 (.int y)) r (upd W (18 + 8 * i) x) := by
  obtain ⟨⟨s0, s1, s2, s3, s4, s5⟩, ⟨u5, u10, u11, u12, u13, u14, u15, u16, u17⟩, RB, RC, RL⟩ := R
  have e0 : upd W (18 + 8 * i) x 0 = W 0 := upd_ne (by omega)
  refine ⟨⟨?_, ?_, ?_, ?_, ?_, ?_⟩, ⟨?_, ?_, ?_, ?_, ?_, ?_, ?_, ?_, ?_⟩, fun j hj => ?_, fun j hj h32 => ?_, ?_⟩
  · simp (disch := omega) only [u2_ne, oi_ne, upd_ne]; exact s0
  · simp (disch := omega) only [u2_ne, oi_ne, upd_ne]; exact s1
  · simp (disch := omega) only [u2_ne, oi_ne, upd_ne]; exact s2
  · simp (disch := omega) only [u2_ne, oi_ne, upd_ne]; exact s3
  · simp (disch := omega) only [u2_ne, oi_ne, upd_ne]; exact s4
  · simp (disch := omega) only [u2_ne, oi_ne, upd_ne]; exact s5
  · simp (disch := omega) only [u2_ne, oi_ne, upd_ne]; exact u5
  · simp (disch := omega) only [u2_ne, oi_ne, upd_ne]; exact u10
  · simp (disch := omega) only [u2_ne, oi_ne, upd_ne]; exact u11
  · simp (disch := omega) only [u2_ne, oi_ne, upd_ne]; exact u12
  · simp (disch := omega) only [u2_ne, oi_ne, upd_ne]; exact u13
  · simp (disch := omega) only [u2_ne, oi_ne, upd_ne]; exact u14
  · simp (disch := omega) only [u2_ne, oi_ne, upd_ne]; exact u15
  · simp (disch := omega) only [u2_ne, oi_ne, upd_ne]; exact u16
  · simp (disch := omega) only [u2_ne, oi_ne, upd_ne]; exact u17
  · rw [e0] at hj
    obtain ⟨g0, g1, g2, g3, g4, g5, g6, g7⟩ := RB j hj
    refine ⟨?_, ?_, ?_, ?_, ?_, ?_, ?_, ?_⟩
    · simp (disch := omega) only [u2_ne, oi_ne, upd_ne]; exact g0
    · simp (disch := omega) only [u2_ne, oi_ne, upd_ne]; exact g1
    · simp (disch := omega) only [u2_ne, oi_ne, upd_ne]; exact g2
    · simp (disch := omega) only [u2_ne, oi_ne, upd_ne]; exact g3
    · simp (disch := omega) only [u2_ne, oi_ne, upd_ne]; exact g4
    · simp (disch := omega) only [u2_ne, oi_ne, upd_ne]; exact g5
    · simp (disch := omega) only [u2_ne, oi_ne, upd_ne]; exact g6
    · rw [oi_eq]
      refine (hy j (by omega)).trans ?_
      by_cases q : j = i
      · subst q; rw [if_pos rfl, upd_eq]
      · rw [if_neg q, upd_ne (by omega)]; exact g7
  · rw [e0] at hj
    have z : bt y j = false := by
      have a := (hy j h32).mp
      rw [if_neg (by omega : ¬ j = i)] at a
      cases q : bt y j with
      | false => rfl
      | true => exact absurd (a q) (by rw [(RC j hj h32).2]; decide)
    refine ⟨by rw [oi_ne (Or.inr (by decide))]; exact (RC j hj h32).1, by rw [oi_eq]; exact z⟩
  · exact logE_cg RL (fun k => oi_ne (Or.inl (by omega))) (fun k => oi_ne (Or.inl (by omega))) (fun k hk => upd_ne (by omega))
/-- all but the seven cells of the rod at r is left alone -/
def frR (r : Nat) (O O2 : jO) : Prop := ∀ b k, (b < r ∨ r + 6 < b) → O2 b k = O b k
theorem frR_rfl {r : Nat} {O : jO} : frR r O O := fun _ _ _ => rfl
theorem frR_tr {r : Nat} {O O2 O3 : jO} (a : frR r O O2) (b : frR r O2 O3) : frR r O O3 := fun x k h => (b x k h).trans (a x k h)
theorem frR_u2 {r a i : Nat} {O : jO} {v : Value} (h : r ≤ a ∧ a ≤ r + 6) : frR r O (u2 O a i v) := fun b k q => u2_ne (Or.inl (by omega))
end
section
/-! a pull of the class's rod -/
def bcs (x : Int32) : Nat → Nat
  | 0 => 0
  | i + 1 => bcs x i + if bt x i = true then 1 else 0
theorem b_lt8 {x : Int32} (hb : ∀ j, 8 ≤ j → j < 32 → bt x j = false) : ∃ m, m < 256 ∧ x = nI m := by
  refine ⟨(x &&& 255).toBitVec.toNat, ?_, ?_⟩
  · have : (x &&& 255).toBitVec.toNat = x.toBitVec.toNat &&& 255 := by rw [Int32.toBitVec_and]; rfl
    rw [this]
    exact Nat.lt_succ_of_le Nat.and_le_right
  · have e : x &&& 255 = x := b_ext fun i hi => by
      rw [b_and, b_255]
      by_cases q : i < 8
      · rw [decide_eq_true q, Bool.and_true]
      · rw [hb i (by omega) hi, Bool.false_and]
    rw [e]
    exact Int32.toBitVec_inj.mp (by show _ = BitVec.ofNat 32 _; simp)
set_option maxRecDepth 100000 in
theorem E_bitCount {n : Nat} {x q : Int32} {h : jH} (hb : ∀ j, 8 ≤ j → j < 32 → bt x j = false) (hf : F_J6_bitCount_0f7a4 n x h = some q) : q = nI (bcs x 8) := by
  obtain ⟨m, hm, rfl⟩ := b_lt8 hb
  unfold F_J6_bitCount_0f7a4 at hf
  replace hf := Option.some.inj hf
  rw [← hf]
  clear hf hb
  revert m
  decide +kernel
theorem bcs_n {W : jWd} {v w : Int32} {c : Nat} (h1 : ∀ j, j < c → (bt w j = true ↔ W (14 + 8 * j) = 1)) (h2 : ∀ j, c ≤ j → j < 32 → bt v j = false) : ∀ i, i ≤ 8 → bcs (v &&& (w ^^^ (-1 : Int32))) i = ncnt W v i
  | 0, _ => rfl
  | i + 1, hi => by
    unfold bcs ncnt
    rw [bcs_n h1 h2 i (by omega), b_and, b_xor, b_m1 i (by omega)]
    congr 1
    by_cases z : i < c
    · have a := h1 i z
      cases p : bt v i <;> cases q : bt w i <;> simp_all
    · rw [h2 i (by omega) (by omega)]
      simp
theorem goB_c {W : jWd} {r : Nat} {d : Bool} {v : Int32} (g : goB W r d v) {c : Nat} (hc : (W 0).toInt ≤ (c : Int)) : ∀ j, c ≤ j → j < 32 → bt v j = false := fun j a b => by
  cases q : bt v j with
  | false => rfl
  | true =>
    have := ((g j b).mp q).1.1
    omega
theorem wOK_8 {W : jWd} {x : Int32} (K : wOK W) (hx : 0 ≤ x.toInt ∧ x.toInt ≤ 9999) : wOK (upd W 8 x) := by
  have e : ∀ k, k ≠ 8 → upd W 8 x k = W k := fun k h => upd_ne h
  obtain ⟨k0, k1, k2, k3, k4, k5, k6, k7, k8, k9, k10⟩ := K
  unfold wOK
  rw [e 0 (by decide), e 3 (by decide), e 4 (by decide), e 5 (by decide), e 6 (by decide), e 9 (by decide), e 1 (by decide), upd_eq]
  refine ⟨k0, fun i hi => ?_, fun i hi => ?_, fun i hi => ?_, k4, k5, k6, k7, hx, k9, k10⟩
  · rw [e _ (by omega), e _ (by omega), e _ (by omega), e _ (by omega), e _ (by omega), e _ (by omega), e _ (by omega), e _ (by omega)]
    exact k1 i hi
  · rw [e _ (by omega), e _ (by omega)]
    exact k2 i hi
  · rw [e _ (by omega)]
    exact k3 i hi
theorem wOK_st {W : jWd} {r : Nat} {d : Bool} {v : Int32} (K : wOK W) (g : goB W r d v) (hr : (r : Int) < (W 0).toInt) : wOK (stW W v d 8) := by
  have e : ∀ k, (k < 11 ∨ (k - 11) % 8 ≠ 0) → stW W v d 8 k = W k := fun k h => stW_ot h
  obtain ⟨k0, k1, k2, k3, k4, k5, k6, k7, k8, k9, k10⟩ := id K
  have l1 : (1 : Int32).toInt = 1 := rfl
  have lm : (-1 : Int32).toInt = -1 := rfl
  -- where a ring is behind the step
  have pl : ∀ j : Nat, (j : Int) < (W 0).toInt → (stW W v d 8 (11 + 8 * j)).toInt = (W (11 + 8 * j)).toInt + (if bt v j = true then (if d = true then 1 else -1) else 0) := fun j hj => by
    rw [stW_pl]
    have p := (k1 j hj).1
    by_cases q : bt v j = true
    · rw [if_pos ⟨by omega, q⟩, if_pos q]
      cases d with
      | true => rw [if_pos rfl, if_pos rfl, jadd (by omega) (by omega), l1]
      | false => rw [if_neg (by decide), if_neg (by decide), jadd (by omega) (by omega), lm]
    · rw [if_neg (fun z => q z.2), if_neg q, Int.add_zero]
  have st : ∀ j : Nat, (j : Int) < (W 0).toInt → bt v j = true → (W (11 + 8 * j)).toInt ≠ (if d = true then 31 else 0) := fun j hj q z => by
    have a := (g j (by omega)).mp q
    exact a.2 j a.1 (Or.inl z)
  unfold wOK
  rw [e 0 (by omega), e 3 (by omega), e 4 (by omega), e 5 (by omega), e 6 (by omega), e 8 (by omega), e 9 (by omega), e 1 (by omega)]
  refine ⟨k0, fun i hi => ?_, fun i hi => ?_, fun i hi => ?_, k4, k5, k6, k7, k8, k9, k10⟩
  · rw [e (12 + 8 * i) (by omega), e (13 + 8 * i) (by omega), e (14 + 8 * i) (by omega), e (15 + 8 * i) (by omega), e (16 + 8 * i) (by omega), e (17 + 8 * i) (by omega), e (18 + 8 * i) (by omega), pl i hi]
    obtain ⟨p, rest⟩ := k1 i hi
    refine ⟨?_, rest⟩
    by_cases q : bt v i = true
    · have s := st i hi q
      rw [if_pos q]
      cases d with
      | true => rw [if_pos rfl] at s ⊢; omega
      | false => rw [if_neg (by decide)] at s ⊢; omega
    · rw [if_neg q]; omega
  · have h1 : (i : Int) < (W 0).toInt := by omega
    have h2 : ((i + 1 : Nat) : Int) < (W 0).toInt := by omega
    rw [pl i h1, pl (i + 1) h2]
    have lt := k2 i hi
    -- all that go lie in one row
    by_cases q1 : bt v i = true <;> by_cases q2 : bt v (i + 1) = true
    · rw [if_pos q1, if_pos q2]; omega
    · -- the left one alone goes
      rw [if_pos q1, if_neg q2]
      cases d with
      | false => rw [if_neg (by decide)]; omega
      | true =>
        rw [if_pos rfl]
        obtain ⟨a1, a2⟩ := (g i (by omega)).mp q1
        have ng : ¬ gos W r true (i + 1) := fun z => q2 ((g (i + 1) (by omega)).mpr ⟨z, a2⟩)
        by_cases gap : (W (11 + 8 * (i + 1))).toInt - (W (11 + 8 * i)).toInt = 1
        · exfalso
          refine ng ⟨h2, ?_⟩
          rcases a1.2 with ⟨z1, z2⟩ | ⟨z1, z2⟩
          · refine Or.inl ⟨by omega, fun j u w => ?_⟩
            by_cases y : j = i
            · subst y; exact Or.inr (by rw [if_pos rfl]; exact gap)
            · exact z2 j u (by omega)
          · by_cases y : i = r
            · subst y
              refine Or.inl ⟨by omega, fun j u w => ?_⟩
              have : j = i := by omega
              subst this; exact Or.inr (by rw [if_pos rfl]; exact gap)
            · exact Or.inr ⟨by omega, fun j u w => z2 j (by omega) w⟩
        · omega
    · -- the right one alone goes
      rw [if_neg q1, if_pos q2]
      cases d with
      | true => rw [if_pos rfl]; omega
      | false =>
        rw [if_neg (by decide)]
        obtain ⟨a1, a2⟩ := (g (i + 1) (by omega)).mp q2
        have ng : ¬ gos W r false i := fun z => q1 ((g i (by omega)).mpr ⟨z, a2⟩)
        by_cases gap : (W (11 + 8 * (i + 1))).toInt - (W (11 + 8 * i)).toInt = 1
        · exfalso
          refine ng ⟨h1, ?_⟩
          rcases a1.2 with ⟨z1, z2⟩ | ⟨z1, z2⟩
          · by_cases y : i + 1 = r
            · refine Or.inr ⟨by omega, fun j u w => ?_⟩
              have : j = i := by omega
              subst this; exact Or.inr (by rw [if_pos (by decide)]; exact gap)
            · exact Or.inl ⟨by omega, fun j u w => z2 j u (by omega)⟩
          · refine Or.inr ⟨by omega, fun j u w => ?_⟩
            by_cases y : j = i
            · subst y; exact Or.inr (by rw [if_pos (by decide)]; exact gap)
            · exact z2 j (by omega) w
        · omega
    · rw [if_neg q1, if_neg q2]; omega
  · rw [e (18 + 8 * i) (by omega)]
    exact k3 i hi
theorem upd_upd {W : jWd} {k : Nat} {x y : Int32} : upd (upd W k x) k y = upd W k y := by
  funext j
  by_cases q : j = k
  · subst q; rw [upd_eq, upd_eq]
  · rw [upd_ne q, upd_ne q, upd_ne q]
/-- a step more -/
theorem plW_s {W : jWd} {r : Nat} {d : Bool} {t c : Nat} {v : Int32} (hv : gv (plW W r d t) r d = v) (hc : ∀ j, c ≤ j → j < 8 → bt v j = false) (c8 : c ≤ 8) : plW W r d (t + 1) = upd (stW (plW W r d t) v d c) 8 (nzc W (mvS W r d t + ncnt (plW W r d t) v 8)) := by
  have e1 : gv (mvO W r d t) r d = v := by rw [← hv]; exact (gv_8).symm
  have e2 : ∀ i, ncnt (plW W r d t) v i = ncnt (mvO W r d t) v i := by
    intro i
    induction i with
    | zero => rfl
    | succ i ih => unfold ncnt; rw [ih, show plW W r d t (14 + 8 * i) = mvO W r d t (14 + 8 * i) from upd_ne (by omega)]
  have e3 : stW (mvO W r d t) v d 8 = stW (mvO W r d t) v d c := stW_all (fun k a b => hc k a b) 8 c8 (Nat.le_refl _)
  rw [e2]
  show upd (stW (mvO W r d t) (gv (mvO W r d t) r d) d 8) 8 (nzc W (mvS W r d t + ncnt (mvO W r d t) (gv (mvO W r d t) r d) 8)) = _
  rw [e1, e3]
  unfold plW
  rw [stW_8, upd_upd]
theorem E_X8_move_28 {n : Nat} {rc3 : Nat → Int32 → Int32 → Int32 → Int32 → jH → Option (Int32 × jH)} {W : jWd} {d : Bool} {c : Nat} (K : wOK W) (hc : (W 0).toInt = (c : Int)) : ∀ (k : Nat) {a0 : Nat} {x1 : Int32} {x2 : Int32} {x3 : Int32} {x4 : Int32} {x5 : Int32} {x6 : Int32} {h : jH} {q : Int32 × jH} (i : Nat) (R : rodE (oc h) a0 (stW W x5 d i)) (hd : x2 = dI d) (hx : x6 = nI i) (hi : i ≤ c) (hv : ∀ j, c ≤ j → j < 32 → bt x5 j = false), F_X8_move_28 n rc3 k a0 x1 x2 x3 x4 x5 x6 h = some q → ∃ h2 : jH, rodE (oc h2) a0 (upd (stW W x5 d c) 8 (if W 8 + nI (ncnt W x5 8) < (9999 : Int32) then W 8 + nI (ncnt W x5 8) else (9999 : Int32))) ∧ frR a0 (oc h) (oc h2) ∧ h2.1 = h.1 ∧ rc3 a0 x1 x2 x3 (x4 + (1 : Int32)) h2 = some q
  | 0, a0, x1, x2, x3, x4, x5, x6, h, q, i, R, hd, hx, hi, hv, hf => by cases hf
  | k + 1, a0, x1, x2, x3, x4, x5, x6, h, q, i, R, hd, hx, hi, hv, hf => by
    replace hf : F_X8_move_28_b n rc3 (F_X8_move_28 n rc3 k) a0 x1 x2 x3 x4 x5 x6 h = some q := hf
    unfold F_X8_move_28_b at hf
    obtain ⟨⟨s0, s1, s2, s3, s4, s5⟩, ⟨u5, u10, u11, u12, u13, u14, u15, u16, u17⟩, RB, RC, RL⟩ := id R
    subst hx
    have K0 := K.1
    have ec : stW W x5 d i 0 = W 0 := stW_ot (by omega)
    rw [ec] at RB RC u5
    replace hf := jbind hf
    obtain ⟨v31, e1, hf⟩ := hf
    have r1 := oc_gI e1
    subst r1
    clear e1
    replace hf := jite hf
    rcases hf with ⟨c2, hf⟩ | ⟨c2, hf⟩
    · skip
      replace hf := jbind hf
      obtain ⟨v78, e3, hf⟩ := hf
      have r3 := oc_gI e3
      subst r3
      clear e3
      replace hf := jbind hf
      obtain ⟨v84, e4, hf⟩ := hf
      have r4 := oc_gI e4
      subst r4
      clear e4
      replace hf := jbind hf
      obtain ⟨v90, e5, hf⟩ := hf
      replace hf := jbind hf
      obtain ⟨h97, e6, hf⟩ := hf
      obtain ⟨o6, z6⟩ := oc_pf e6
      clear e6
      -- leaf 0: rc3 a0 x1 x2 x3 (x4 + (1 : Int32)) h97
      have z : i = c := by rw [u5, nI_eI (by omega)] at c2; omega
      subst z
      have rb := E_bitCount (fun j a b => by rw [b_and, hv j (by omega) b, Bool.false_and]) e5
      rw [bcs_n (W := W) (c := i) (fun j hj => by have := (RB j (by omega)).2.2.2.1; rw [stW_ot (by omega)] at this; exact this) hv 8 (Nat.le_refl _)] at rb
      subst rb
      have u15b : oi (oc h) a0 15 = W 8 := by rw [u15]; exact stW_ot (by omega)
      rw [u15b] at o6
      refine ⟨h97, ?_, ?_, z6, hf⟩
      · rw [o6]; exact rodE_i15 R
      · rw [o6]; exact frR_u2 (by omega)
    · skip
      replace hf := jbind hf
      obtain ⟨v41, e7, hf⟩ := hf
      unfold F_X11_bit at e7
      cases e7
      replace hf := jite hf
      rcases hf with ⟨c8, hf⟩ | ⟨c8, hf⟩
      · skip
        replace hf := jbind hf
        obtain ⟨p49, e9, hf⟩ := hf
        have r9 := oc_gR e9
        rw [s0] at r9
        cases r9
        clear e9
        replace hf := jbind hf
        obtain ⟨v55, e10, hf⟩ := hf
        obtain ⟨r10, y10⟩ := oc_al e10
        subst r10
        clear e10
        replace hf := jite hf
        rcases hf with ⟨c11, hf⟩ | ⟨c11, hf⟩
        · skip
          replace hf := jbind hf
          obtain ⟨h66, e12, hf⟩ := hf
          obtain ⟨o12, z12, y12⟩ := oc_as e12
          rw [jnar0] at o12
          clear e12
          -- leaf 100: rc28 a0 x1 x2 x3 x4 x5 (x6 + (1 : Int32)) h66
          have z : i < c := by rw [u5, nI_eI (by omega)] at c2; omega
          rw [b_ask (by omega)] at c8
          rw [nI_cl (by omega), (RB i (by omega)).1] at o12
          have R2 : rodE (oc h66) a0 (stW W x5 d (i + 1)) := by
            rw [stW_s c8, o12]
            cases d with
            | false => exact rodE_pl R (by omega)
            | true => exact absurd (hd.symm.trans c11) (by decide)
          obtain ⟨h2, r2, f2, z2, e2⟩ := E_X8_move_28 K hc k (i + 1) R2 hd (nI_1 i) (by omega) hv hf
          exact ⟨h2, r2, frR_tr (by rw [o12]; exact frR_u2 (by omega)) f2, z2.trans z12, e2⟩
        · skip
          replace hf := jbind hf
          obtain ⟨h66, e13, hf⟩ := hf
          obtain ⟨o13, z13, y13⟩ := oc_as e13
          rw [jnar0] at o13
          clear e13
          -- leaf 101: rc28 a0 x1 x2 x3 x4 x5 (x6 + (1 : Int32)) h66
          have z : i < c := by rw [u5, nI_eI (by omega)] at c2; omega
          rw [b_ask (by omega)] at c8
          rw [nI_cl (by omega), (RB i (by omega)).1] at o13
          have R2 : rodE (oc h66) a0 (stW W x5 d (i + 1)) := by
            rw [stW_s c8, o13]
            cases d with
            | true => exact rodE_pl R (by omega)
            | false => exact absurd hd c11
          obtain ⟨h2, r2, f2, z2, e2⟩ := E_X8_move_28 K hc k (i + 1) R2 hd (nI_1 i) (by omega) hv hf
          exact ⟨h2, r2, frR_tr (by rw [o13]; exact frR_u2 (by omega)) f2, z2.trans z13, e2⟩
      · skip
        -- leaf 11: rc28 a0 x1 x2 x3 x4 x5 (x6 + (1 : Int32)) h
        have z : i < c := by rw [u5, nI_eI (by omega)] at c2; omega
        rw [b_ask (by omega)] at c8
        have n8 : bt x5 i = false := by cases q9 : bt x5 i with | false => rfl | true => exact absurd q9 c8
        exact E_X8_move_28 K hc k (i + 1) (by rw [stW_n n8]; exact R) hd (nI_1 i) (by omega) hv hf
theorem E_X8_move_3 {n : Nat} {W : jWd} {d : Bool} {r : Nat} {N : Nat} (K : wOK W) (hr : (r : Int) < (W 0).toInt) (hN : N < 500) : ∀ (k : Nat) {a0 : Nat} {x1 : Int32} {x2 : Int32} {x3 : Int32} {x4 : Int32} {h : jH} {q : Int32 × jH} (t : Nat) (R : rodE (oc h) a0 (plW W r d t)) (Kt : wOK (plW W r d t)) (hd : x2 = dI d) (hx : x1 = nI r) (h3 : x3 = nI N) (h4 : x4 = nI t) (ht : t ≤ N) (hg : ∀ s, s < t → gv (mvO W r d s) r d ≠ 0), F_X8_move_3 n k a0 x1 x2 x3 x4 h = some q → ∃ f, f ≤ N ∧ q.1 = nI f ∧ rodE (oc q.2) a0 (plW W r d f) ∧ wOK (plW W r d f) ∧ frR a0 (oc h) (oc q.2) ∧ q.2.1 = h.1 ∧ (∀ s, s < f → gv (mvO W r d s) r d ≠ 0) ∧ (f = N ∨ gv (mvO W r d f) r d = 0)
  | 0, a0, x1, x2, x3, x4, h, q, t, R, Kt, hd, hx, h3, h4, ht, hg, hf => by cases hf
  | k + 1, a0, x1, x2, x3, x4, h, q, t, R, Kt, hd, hx, h3, h4, ht, hg, hf => by
    replace hf : F_X8_move_3_b n (F_X8_move_3 n k) a0 x1 x2 x3 x4 h = some q := hf
    unfold F_X8_move_3_b at hf
    have K0 := K.1
    have e0 : plW W r d t 0 = W 0 := (upd_ne (by decide)).trans (mvO_ot (Or.inl (by decide)) t)
    obtain ⟨c, hc⟩ : ∃ c : Nat, (plW W r d t 0).toInt = (c : Int) := ⟨(W 0).toInt.toNat, by rw [e0]; omega⟩
    have hc0 : (W 0).toInt = (c : Int) := by rw [← e0]; exact hc
    have g8 : gv (plW W r d t) r d = gv (mvO W r d t) r d := gv_8
    have ls := mvS_le (W := W) (r := r) (d := d) t
    replace hf := jite hf
    rcases hf with ⟨c1, hf⟩ | ⟨c1, hf⟩
    · skip
      cases hf
      -- leaf 0: (x3, h)
      rw [h3, h4, Int32.le_iff_toInt_le, nI_toInt (by omega), nI_toInt (by omega)] at c1
      have z9 : t = N := by omega
      subst z9
      exact ⟨t, ht, h3, R, Kt, frR_rfl, rfl, hg, Or.inl rfl⟩
    · skip
      replace hf := jbind hf
      obtain ⟨v12, e2, hf⟩ := hf
      replace e2 := (jcv_o e2).2
      have r2 := E_X8_goers R Kt hx (by rw [e0]; exact hr) hd e2
      replace hf := jite hf
      rcases hf with ⟨c3, hf⟩ | ⟨c3, hf⟩
      · skip
        cases hf
        -- leaf 10: (x4, h)
        have gz : gv (mvO W r d t) r d = 0 := g8.symm.trans ((gv_of r2).trans c3)
        exact ⟨t, ht, h4, R, Kt, frR_rfl, rfl, hg, Or.inr gz⟩
      · skip
        -- leaf 11: F_X8_move_28 n rc3 n a0 x1 x2 x3 x4 v12 (0 : Int32) h
        have ge : gv (plW W r d t) r d = v12 := gv_of r2
        have gn : gv (mvO W r d t) r d ≠ 0 := fun z => c3 (ge.symm.trans (g8.trans z))
        rw [h3, h4, Int32.le_iff_toInt_le, nI_toInt (by omega), nI_toInt (by omega)] at c1
        have hv := goB_c r2 (c := c) (by omega)
        have nl := ncnt_le (W := plW W r d t) (v := v12) 8
        have es := plW_s ge (c := c) (fun j a b => hv j a (by omega)) (by omega)
        obtain ⟨h2, R2, f2, z2, hf⟩ := E_X8_move_28 Kt hc n 0 (by rw [stW_0]; exact R) hd rfl (Nat.zero_le _) hv hf
        rw [show plW W r d t 8 = nzc W (mvS W r d t) from upd_eq, nzc_s K (by omega) (by omega), ← es] at R2
        have K2 : wOK (plW W r d (t + 1)) := by
          rw [es]
          rw [← stW_all (fun k a b => hv k a (by omega)) 8 (by omega) (Nat.le_refl _)]
          refine wOK_8 (wOK_st Kt r2 (by rw [e0]; exact hr)) ?_
          have nn := nzc_i K (s := mvS W r d t + ncnt (plW W r d t) v12 8) (by omega)
          obtain ⟨-, -, -, -, -, -, -, -, k8, -⟩ := id K
          rw [nn]; split <;> omega
        obtain ⟨f, a1, a2, a3, a4, a5, a6, a7, a8⟩ := E_X8_move_3 K hr hN k (t + 1) R2 K2 hd hx h3 (by rw [h4, nI_1]) (by omega) (fun s hs => by
          by_cases q9 : s = t
          · subst q9; exact gn
          · exact hg s (by omega)) hf
        exact ⟨f, a1, a2, a3, a4, frR_tr f2 a5, a6.trans z2, a7, a8⟩
theorem E_X8_move {W : jWd} {d : Bool} {r : Nat} {N : Nat} {n : Nat} {a0 : Nat} {x1 : Int32} {x2 : Int32} {x3 : Int32} {h : jH} {q : Int32 × jH} (R : rodE (oc h) a0 W) (K : wOK W) (hr : (r : Int) < (W 0).toInt) (hN : N < 500) (hx : x1 = nI r) (hd : x2 = dI d) (h3 : x3 = nI N) (hf : F_X8_move n a0 x1 x2 x3 h = some q) : ∃ f, f ≤ N ∧ q.1 = nI f ∧ rodE (oc q.2) a0 (plW W r d f) ∧ wOK (plW W r d f) ∧ frR a0 (oc h) (oc q.2) ∧ q.2.1 = h.1 ∧ (∀ s, s < f → gv (mvO W r d s) r d ≠ 0) ∧ (f = N ∨ gv (mvO W r d f) r d = 0) := by
  unfold F_X8_move at hf
  -- leaf : F_X8_move_3 n n a0 x1 x2 x3 (0 : Int32) h
  exact E_X8_move_3 K hr hN n 0 (by rw [plW_0 K]; exact R) (by rw [plW_0 K]; exact K) hd hx h3 rfl (Nat.zero_le _) (fun s hs => by omega) hf
end
section
/-! the reference's world: readers -/
def mS (O : jO) (m : Nat) : Prop := O m 1 = .ref (m + 1) ∧ O m 2 = .ref (m + 2) ∧ O m 3 = .ref (m + 3) ∧ O m 4 = .ref (m + 4) ∧ O m 5 = .ref (m + 5) ∧ O m 8 = .ref (m + 6) ∧ O m 15 = .ref (m + 7) ∧ O m 17 = .ref (m + 8) ∧ O m 19 = .ref (m + 9) ∧ O m 20 = .ref (m + 10) ∧ O m 21 = .ref (m + 11)
abbrev wl (O : jO) (m : Nat) : jWd := fun k => oi O (m + 1) k
theorem wl_w {O : jO} {m k : Nat} {x : Int32} : wl (u2 O (m + 1) k (.int x)) m = upd (wl O m) k x := by
  funext j
  by_cases q : j = k
  · subst q; rw [upd_eq]; exact oi_eq
  · rw [upd_ne q]; exact oi_ne (Or.inr q)
theorem wl_n {O : jO} {m a k : Nat} {v : Value} (h : a ≠ m + 1) : wl (u2 O a k v) m = wl O m := by
  funext j
  exact oi_ne (Or.inl (fun q => h q.symm))
theorem nI_mul (a b : Nat) : nI a * nI b = nI (a * b) := (Int32.ofNat_mul a b).symm
/-- changed are the cells m + c, c of cs, and of m the fields of fs alone -/
def frM (m : Nat) (cs fs : List Nat) (O O2 : jO) : Prop := ∀ b k, (∀ c ∈ cs, b ≠ m + c) → (b = m → k ∉ fs) → O2 b k = O b k
theorem frM_rfl {m : Nat} {cs fs : List Nat} {O : jO} : frM m cs fs O O := fun _ _ _ _ => rfl
theorem frM_tr {m : Nat} {cs fs : List Nat} {O O2 O3 : jO} (a : frM m cs fs O O2) (b : frM m cs fs O2 O3) : frM m cs fs O O3 := fun x k h q => (b x k h q).trans (a x k h q)
theorem frM_le {m : Nat} {cs fs cs2 fs2 : List Nat} {O O2 : jO} (a : frM m cs fs O O2) (h1 : ∀ c ∈ cs, c ∈ cs2) (h2 : ∀ c ∈ fs, c ∈ fs2) : frM m cs2 fs2 O O2 := fun x k h q => a x k (fun c hc => h c (h1 c hc)) (fun e z => q e (h2 k z))
theorem frM_c {m c k : Nat} {cs fs : List Nat} {O : jO} {v : Value} (h : c ∈ cs) : frM m cs fs O (u2 O (m + c) k v) := fun b j hb _ => u2_ne (Or.inl (hb c h))
theorem frM_f {m k : Nat} {cs fs : List Nat} {O : jO} {v : Value} (h : k ∈ fs) : frM m cs fs O (u2 O m k v) := fun b j _ hj => u2_ne (by
  by_cases q : b = m
  · exact Or.inr (fun z => hj q (by rw [z]; exact h))
  · exact Or.inl q)
theorem mS_fr {m : Nat} {cs fs : List Nat} {O O2 : jO} (s : mS O m) (f : frM m cs fs O O2) (hc : 0 ∉ cs) (hf : ∀ k ∈ [1, 2, 3, 4, 5, 8, 15, 17, 19, 20, 21], k ∉ fs) : mS O2 m := by
  have e : ∀ k, k ∈ [1, 2, 3, 4, 5, 8, 15, 17, 19, 20, 21] → O2 m k = O m k := fun k hk => f m k (fun c h q => hc ((show c = 0 by omega) ▸ h)) (fun _ => hf k hk)
  obtain ⟨a1, a2, a3, a4, a5, a8, a15, a17, a19, a20, a21⟩ := s
  exact ⟨(e 1 (by decide)).trans a1, (e 2 (by decide)).trans a2, (e 3 (by decide)).trans a3, (e 4 (by decide)).trans a4, (e 5 (by decide)).trans a5, (e 8 (by decide)).trans a8, (e 15 (by decide)).trans a15, (e 17 (by decide)).trans a17, (e 19 (by decide)).trans a19, (e 20 (by decide)).trans a20, (e 21 (by decide)).trans a21⟩
/-- a set that is an interval round ring r, all of which go along -/
def ivl (W : jWd) (r : Nat) (d : Bool) (v : Int32) (a b : Nat) : Prop := (∀ i, i < 32 → (bt v i = true ↔ (a ≤ i ∧ i ≤ b))) ∧ a ≤ r ∧ r ≤ b ∧ (b : Int) < (W 0).toInt ∧ (∀ j, r ≤ j → j < b → tog W j d) ∧ (∀ j, a ≤ j → j < r → tog W j (!d))
def fnB (W : jWd) (d : Bool) (b : Nat) : Prop := (b : Int) + 1 = (W 0).toInt ∨ ¬ tog W b d
def fnA (W : jWd) (d : Bool) (a : Nat) : Prop := a = 0 ∨ ¬ tog W (a - 1) (!d)
theorem ivl_gos {W : jWd} {r : Nat} {d : Bool} {v : Int32} {a b : Nat} (I : ivl W r d v a b) (hb : fnB W d b) (ha : fnA W d a) (i : Nat) : gos W r d i ↔ (a ≤ i ∧ i ≤ b) := by
  obtain ⟨-, i1, i2, i3, i4, i5⟩ := I
  constructor
  · rintro ⟨z0, ⟨z1, z2⟩ | ⟨z1, z2⟩⟩
    · refine ⟨by omega, ?_⟩
      by_cases w : i ≤ b
      · exact w
      · exact absurd (z2 b i2 (by omega)) (hb.resolve_left (by omega))
    · refine ⟨?_, by omega⟩
      by_cases w : a ≤ i
      · exact w
      · exact absurd (z2 (a - 1) (by omega) (by omega)) (ha.resolve_left (by omega))
  · rintro ⟨z1, z2⟩
    refine ⟨by omega, ?_⟩
    rcases Nat.le_total r i with w | w
    · exact Or.inl ⟨w, fun j u v => i4 j u (by omega)⟩
    · exact Or.inr ⟨w, fun j u v => i5 j (by omega) v⟩
theorem E_X12_rings {n : Nat} {a0 : Nat} {h : jH} {q : Int32} (M : mS (oc h) a0) (hf : F_X12_rings n a0 h = some q) : q = wl (oc h) a0 0 := by
  unfold F_X12_rings at hf
  obtain ⟨s1, s2, s3, s4, s5, s8, s15, s17, s19, s20, s21⟩ := id M
  replace hf := jbind hf
  obtain ⟨p1, e1, hf⟩ := hf
  have r1 := oc_gR e1
  rw [s1] at r1
  cases r1
  clear e1
  replace hf := jbind hf
  obtain ⟨v5, e2, hf⟩ := hf
  obtain ⟨r2, y2⟩ := oc_al e2
  rw [show (0 : Int32).toNatClampNeg = 0 from rfl] at r2
  subst r2
  clear e2
  cases hf
  -- leaf : v5
  rfl
theorem E_X12_lastRing {n : Nat} {a0 : Nat} {h : jH} {q : Int32} (M : mS (oc h) a0) (hf : F_X12_lastRing n a0 h = some q) : q = wl (oc h) a0 0 - 1 := by
  unfold F_X12_lastRing at hf
  replace hf := jbind hf
  obtain ⟨v1, e1, hf⟩ := hf
  replace e1 := (jcv_o e1).2
  have r1 := E_X12_rings M e1
  subst r1
  cases hf
  -- leaf : (v1 - (1 : Int32))
  rfl
theorem E_X12_at {i : Nat} {j : Nat} {t : Nat} {n : Nat} {x0 : Int32} {x1 : Int32} {h : jH} {q : Int32} (h0 : x0 = nI i) (h1 : x1 = nI j) (ht : t = 11 + 8 * i + j) (hf : F_X12_at n x0 x1 h = some q) : q = nI t := by
  unfold F_X12_at at hf
  cases hf
  -- leaf : (((11 : Int32) + ((8 : Int32) * x0)) + x1)
  rw [h0, h1, ht]
  show (nI 11 + nI 8 * nI i) + nI j = _
  rw [nI_mul, nI_add, nI_add]
theorem E_X12_of {i : Nat} {j : Nat} {t : Nat} {n : Nat} {a0 : Nat} {x1 : Int32} {x2 : Int32} {h : jH} {q : Int32} (M : mS (oc h) a0) (h1 : x1 = nI i) (h2 : x2 = nI j) (ht : t = 11 + 8 * i + j) (hl : t < 10000) (hf : F_X12_of n a0 x1 x2 h = some q) : q = wl (oc h) a0 t := by
  unfold F_X12_of at hf
  obtain ⟨s1, s2, s3, s4, s5, s8, s15, s17, s19, s20, s21⟩ := id M
  replace hf := jbind hf
  obtain ⟨p1, e1, hf⟩ := hf
  have r1 := oc_gR e1
  rw [s1] at r1
  cases r1
  clear e1
  replace hf := jbind hf
  obtain ⟨v6, e2, hf⟩ := hf
  have r2 := E_X12_at h1 h2 ht e2
  subst r2
  replace hf := jbind hf
  obtain ⟨v9, e3, hf⟩ := hf
  obtain ⟨r3, y3⟩ := oc_al e3
  subst r3
  clear e3
  cases hf
  -- leaf : v9
  rw [nI_cl (by omega)]
theorem E_X12_is {i : Nat} {j : Nat} {t : Nat} {n : Nat} {a0 : Nat} {x1 : Int32} {x2 : Int32} {h : jH} {q : Int32} (M : mS (oc h) a0) (h1 : x1 = nI i) (h2 : x2 = nI j) (ht : t = 11 + 8 * i + j) (hl : t < 10000) (hf : F_X12_is n a0 x1 x2 h = some q) : (q = 0 ∨ q = 1) ∧ (q = 1 ↔ wl (oc h) a0 t = 1) := by
  unfold F_X12_is at hf
  replace hf := jbind hf
  obtain ⟨v3, e1, hf⟩ := hf
  replace e1 := (jcv_o e1).2
  have r1 := E_X12_of M h1 h2 ht hl e1
  subst r1
  replace hf := jite hf
  rcases hf with ⟨c2, hf⟩ | ⟨c2, hf⟩
  · skip
    cases hf
    -- leaf 0: (1 : Int32)
    exact ⟨Or.inr rfl, fun _ => c2, fun _ => rfl⟩
  · skip
    cases hf
    -- leaf 1: (0 : Int32)
    exact ⟨Or.inl rfl, fun z => absurd z (by decide), fun z => absurd z c2⟩
theorem E_X12_gapOf {i : Nat} {n : Nat} {a0 : Nat} {x1 : Int32} {h : jH} {q : Int32} (M : mS (oc h) a0) (K : wOK (wl (oc h) a0)) (h1 : x1 = nI i) (hi : (i : Int) < (wl (oc h) a0 0).toInt) (hf : F_X12_gapOf n a0 x1 h = some q) : q = if (i : Int) + 1 < (wl (oc h) a0 0).toInt then wl (oc h) a0 (11 + 8 * (i + 1)) - wl (oc h) a0 (11 + 8 * i) else 99 := by
  unfold F_X12_gapOf at hf
  have K0 := K.1
  have l1 : (1 : Int32).toInt = 1 := rfl
  replace hf := jbind hf
  obtain ⟨v2, e1, hf⟩ := hf
  replace e1 := (jcv_o e1).2
  have r1 := E_X12_lastRing M e1
  subst r1
  replace hf := jite hf
  rcases hf with ⟨c2, hf⟩ | ⟨c2, hf⟩
  · skip
    cases hf
    -- leaf 0: (99 : Int32)
    rw [h1, i_eq, nI_toInt (by omega), jsub (by omega) (by omega)] at c2
    rw [if_neg (by omega)]
  · skip
    replace hf := jbind hf
    obtain ⟨v18, e3, hf⟩ := hf
    replace e3 := (jcv_o e3).2
    have r3 := E_X12_of M (j := 0) (t := 11 + 8 * (i + 1)) (by rw [h1, nI_1]) rfl (by omega) (by omega) e3
    subst r3
    replace hf := jbind hf
    obtain ⟨v24, e4, hf⟩ := hf
    replace e4 := (jcv_o e4).2
    have r4 := E_X12_of M (j := 0) (t := 11 + 8 * i) h1 rfl (by omega) (by omega) e4
    subst r4
    cases hf
    -- leaf 1: (v18 - v24)
    rw [h1, i_eq, nI_toInt (by omega), jsub (by omega) (by omega)] at c2
    rw [if_pos (by omega)]
theorem E_X12_has {k : Nat} {n : Nat} {x0 : Int32} {x1 : Int32} {h : jH} {q : Int32} (h1 : x1 = nI k) (hk : k < 32) (hf : F_X12_has n x0 x1 h = some q) : (q = 0 ∨ q = 1) ∧ (q = 1 ↔ bt x0 k = true) := by
  unfold F_X12_has at hf
  rw [h1] at hf
  replace hf := jite hf
  rcases hf with ⟨c1, hf⟩ | ⟨c1, hf⟩
  · skip
    cases hf
    -- leaf 0: (1 : Int32)
    rw [b_has hk] at c1
    exact ⟨Or.inr rfl, fun _ => c1, fun _ => rfl⟩
  · skip
    cases hf
    -- leaf 1: (0 : Int32)
    rw [b_has hk] at c1
    exact ⟨Or.inl rfl, fun z => absurd z (by decide), fun z => absurd z c1⟩
theorem E_X12_takesAlong_30 {i : Nat} {d : Bool} {e : Bool} {n : Nat} {a0 : Nat} {x3 : Int32} {x4 : Int32} {s0 : Int32} {h : jH} {q : Int32} (M : mS (oc h) a0) (K : wOK (wl (oc h) a0)) (h4 : x4 = nI i) (hi : (i : Int) + 1 < (wl (oc h) a0 0).toInt) (h3 : x3 = dI d) (h0 : s0 = dI e) (hn : wl (oc h) a0 (18 + 8 * i) ≠ 1) (hf : F_X12_takesAlong_30 n a0 x3 x4 s0 h = some q) : (q = 0 ∨ q = 1) ∧ (q = 1 ↔ tog (wl (oc h) a0) i (d == e)) := by
  unfold F_X12_takesAlong_30 at hf
  have K0 := K.1
  have kc := (K.2.1 i (by omega)).2.1
  have ks := wsub K hi
  have l1 : (1 : Int32).toInt = 1 := rfl
  replace hf := jite hf
  rcases hf with ⟨c1, hf⟩ | ⟨c1, hf⟩
  · skip
    replace hf := jbind hf
    obtain ⟨v37, e2, hf⟩ := hf
    replace e2 := (jcv_o e2).2
    have r2 := E_X12_gapOf M K h4 (by omega) e2
    replace hf := jite hf
    rcases hf with ⟨c3, hf⟩ | ⟨c3, hf⟩
    · skip
      cases hf
      -- leaf 00: (1 : Int32)
      have z : (d == e) = true := by rw [h0, h3] at c1; cases d <;> cases e <;> first | rfl | exact absurd c1 (by decide)
      rw [z]
      rw [r2, if_pos hi, i_eq, ks] at c3
      exact ⟨Or.inr rfl, fun _ => Or.inr (by rw [if_pos rfl]; omega), fun _ => rfl⟩
    · skip
      cases hf
      -- leaf 01: (0 : Int32)
      have z : (d == e) = true := by rw [h0, h3] at c1; cases d <;> cases e <;> first | rfl | exact absurd c1 (by decide)
      rw [z]
      rw [r2, if_pos hi, i_eq, ks] at c3
      refine ⟨Or.inl rfl, fun z => absurd z (by decide), fun z => ?_⟩
      rcases z with z | z
      · exact absurd z hn
      · rw [if_pos rfl] at z; omega
  · skip
    replace hf := jbind hf
    obtain ⟨v55, e4, hf⟩ := hf
    replace e4 := (jcv_o e4).2
    have r4 := E_X12_gapOf M K h4 (by omega) e4
    replace hf := jbind hf
    obtain ⟨v62, e5, hf⟩ := hf
    replace e5 := (jcv_o e5).2
    have r5 := E_X12_of M (j := 1) (t := 12 + 8 * i) h4 rfl (by omega) (by omega) e5
    subst r5
    replace hf := jite hf
    rcases hf with ⟨c6, hf⟩ | ⟨c6, hf⟩
    · skip
      cases hf
      -- leaf 10: (0 : Int32)
      have z : (d == e) = false := by rw [h0, h3] at c1; cases d <;> cases e <;> first | rfl | exact absurd rfl c1
      rw [z]
      rw [r4, if_pos hi, Int32.lt_iff_toInt_lt, ks] at c6
      refine ⟨Or.inl rfl, fun z => absurd z (by decide), fun z => ?_⟩
      rcases z with z | z
      · exact absurd z hn
      · rw [if_neg (by decide)] at z; omega
    · skip
      cases hf
      -- leaf 11: (1 : Int32)
      have z : (d == e) = false := by rw [h0, h3] at c1; cases d <;> cases e <;> first | rfl | exact absurd rfl c1
      rw [z]
      rw [r4, if_pos hi, Int32.lt_iff_toInt_lt, ks] at c6
      exact ⟨Or.inr rfl, fun _ => Or.inr (by rw [if_neg (by decide)]; omega), fun _ => rfl⟩
theorem E_X12_takesAlong {i : Nat} {d : Bool} {e : Bool} {n : Nat} {a0 : Nat} {x1 : Int32} {x2 : Int32} {x3 : Int32} {h : jH} {q : Int32} (M : mS (oc h) a0) (K : wOK (wl (oc h) a0)) (h1 : x1 = nI (if e = true then i else i + 1)) (h2 : x2 = nI (if e = true then i + 1 else i)) (hi : (i : Int) + 1 < (wl (oc h) a0 0).toInt) (h3 : x3 = dI d) (hf : F_X12_takesAlong n a0 x1 x2 x3 h = some q) : (q = 0 ∨ q = 1) ∧ (q = 1 ↔ tog (wl (oc h) a0) i (d == e)) := by
  unfold F_X12_takesAlong at hf
  have K0 := K.1
  have mn : (if x2 < x1 then x2 else x1) = nI i := by
    rw [h1, h2]
    cases e with
    | true => rw [if_neg (nI_nlt (by show i ≤ i + 1; omega) (by show i + 1 < _; omega))]; rfl
    | false => rw [if_pos (nI_lt (by show i < i + 1; omega) (by show i + 1 < _; omega))]; rfl
  have le : x2 ≤ x1 ↔ e = false := by
    rw [h1, h2, Int32.le_iff_toInt_le]
    cases e with
    | true => rw [if_pos rfl, if_pos rfl, nI_toInt (by omega), nI_toInt (by omega)]; exact ⟨fun z => by omega, fun z => absurd z (by decide)⟩
    | false => rw [if_neg (by decide), if_neg (by decide), nI_toInt (by omega), nI_toInt (by omega)]; exact ⟨fun _ => rfl, fun _ => by omega⟩
  replace hf := jbind hf
  obtain ⟨v12, e1, hf⟩ := hf
  replace e1 := (jcv_o e1).2
  have r1 := E_X12_is M (j := 7) (t := 18 + 8 * i) mn rfl (by omega) (by omega) e1
  replace hf := jite hf
  rcases hf with ⟨c2, hf⟩ | ⟨c2, hf⟩
  · skip
    replace hf := jite hf
    rcases hf with ⟨c3, hf⟩ | ⟨c3, hf⟩
    · skip
      -- leaf 00: F_X12_takesAlong_30 n a0 x3 (if x2 < x1 then x2 else x1) (0 : Int32) h
      have e9 := le.mp c3
      subst e9
      exact E_X12_takesAlong_30 (e := false) M K mn hi h3 rfl (fun z => absurd (c2.symm.trans (r1.2.mpr z)) (by decide)) hf
    · skip
      -- leaf 01: F_X12_takesAlong_30 n a0 x3 (if x2 < x1 then x2 else x1) (1 : Int32) h
      have e9 : e = true := by cases e with | true => rfl | false => exact absurd (le.mpr rfl) c3
      subst e9
      exact E_X12_takesAlong_30 (e := true) M K mn hi h3 rfl (fun z => absurd (c2.symm.trans (r1.2.mpr z)) (by decide)) hf
  · skip
    cases hf
    -- leaf 1: (1 : Int32)
    exact ⟨Or.inr rfl, fun _ => Or.inl (r1.2.mp (r1.1.resolve_left c2)), fun _ => rfl⟩
end
section
/-! who goes along, of the reference -/
theorem beq_t {d : Bool} : (d == true) = d := by cases d <;> rfl
theorem beq_f {d : Bool} : (d == false) = !d := by cases d <;> rfl
theorem ivl_step {W : jWd} {r a b x : Nat} {d : Bool} {v t1 t2 : Int32} (K : wOK W) (I : ivl W r d v a b) (hx : a ≤ x ∧ x ≤ b) (s1 : (t1 = 0 ∧ ((x : Int) + 1 = (W 0).toInt ∨ ¬ tog W x d)) ∨ (t1 = (1 : Int32) <<< (nI (x + 1) &&& 31) ∧ (x : Int) + 1 < (W 0).toInt ∧ tog W x d)) (s2 : (t2 = 0 ∧ (x = 0 ∨ ¬ tog W (x - 1) (!d))) ∨ (t2 = (1 : Int32) <<< (nI (x - 1) &&& 31) ∧ 0 < x ∧ tog W (x - 1) (!d))) : ∃ a2 b2, ivl W r d ((v ||| t1) ||| t2) a2 b2 ∧ a2 ≤ a ∧ (x < b2 ∨ fnB W d b2) ∧ (x = a → fnA W d a2 ∨ a2 + 1 ≤ a) ∧ (x ≠ a → a2 = a) := by
  have K0 := K.1
  obtain ⟨i0, i1, i2, i3, i4, i5⟩ := I
  have hb : ∃ b2, b ≤ b2 ∧ b2 ≤ b + 1 ∧ (b2 : Int) < (W 0).toInt ∧ (∀ j, r ≤ j → j < b2 → tog W j d) ∧ (x < b2 ∨ fnB W d b2) ∧ (∀ i, i < 32 → (bt (v ||| t1) i = true ↔ (a ≤ i ∧ i ≤ b2))) := by
    rcases s1 with ⟨rfl, h⟩ | ⟨rfl, h1, h2⟩
    · refine ⟨b, Nat.le_refl _, by omega, i3, i4, ?_, fun i hi => ?_⟩
      · by_cases q : x < b
        · exact Or.inl q
        · have : x = b := by omega
          subst this
          exact Or.inr h
      · rw [b_or, b_0, Bool.or_false]; exact i0 i hi
    · by_cases q : x = b
      · subst q
        refine ⟨x + 1, by omega, by omega, by omega, fun j u w => ?_, Or.inl (by omega), fun i hi => ?_⟩
        · by_cases y : j = x
          · subst y; exact h2
          · exact i4 j u (by omega)
        · rw [b_or, b_one (by omega) hi, Bool.or_eq_true, decide_eq_true_iff, i0 i hi]; omega
      · refine ⟨b, Nat.le_refl _, by omega, i3, i4, Or.inl (by omega), fun i hi => ?_⟩
        rw [b_or, b_one (by omega) hi, Bool.or_eq_true, decide_eq_true_iff, i0 i hi]; omega
  obtain ⟨b2, b3, b4, b5, b6, b7, b8⟩ := hb
  rcases s2 with ⟨rfl, h⟩ | ⟨rfl, h1, h2⟩
  · refine ⟨a, b2, ⟨fun i hi => by rw [b_or, b_0, Bool.or_false]; exact b8 i hi, i1, by omega, b5, b6, i5⟩, Nat.le_refl _, b7, fun z => ?_, fun _ => rfl⟩
    subst z
    exact Or.inl h
  · by_cases q : x = a
    · subst q
      refine ⟨x - 1, b2, ⟨fun i hi => ?_, by omega, by omega, b5, b6, fun j u w => ?_⟩, by omega, b7, fun _ => Or.inr (by omega), fun z => absurd rfl z⟩
      · rw [b_or, b_one (by omega) hi, Bool.or_eq_true, decide_eq_true_iff, b8 i hi]; omega
      · by_cases y : j = x - 1
        · subst y; exact h2
        · exact i5 j (by omega) w
    · refine ⟨a, b2, ⟨fun i hi => ?_, i1, by omega, b5, b6, i5⟩, Nat.le_refl _, b7, fun z => absurd z q, fun _ => rfl⟩
      rw [b_or, b_one (by omega) hi, Bool.or_eq_true, decide_eq_true_iff, b8 i hi]; omega
theorem E_X12_allWith_72 {W : jWd} {x : Nat} {d : Bool} {n : Nat} {rc7 : Nat → Int32 → Int32 → Int32 → jH → Option Int32} {rc17 : Nat → Int32 → Int32 → Int32 → Int32 → jH → Option Int32} {a0 : Nat} {x2 : Int32} {x4 : Int32} {x5 : Int32} {s0 : Int32} {s1 : Int32} {h : jH} {q : Int32} (M : mS (oc h) a0) (hW : wl (oc h) a0 = W) (K : wOK W) (hx : x5 = nI x) (hi : (x : Int) < (W 0).toInt) (hd : x2 = dI d) (hf : F_X12_allWith_72 n rc7 rc17 a0 x2 x4 x5 s0 s1 h = some q) : ∃ t2 : Int32, ((t2 = 0 ∧ (x = 0 ∨ ¬ tog W (x - 1) (!d))) ∨ (t2 = (1 : Int32) <<< (nI (x - 1) &&& 31) ∧ 0 < x ∧ tog W (x - 1) (!d))) ∧ rc17 a0 x2 ((s0 ||| s1) ||| t2) x4 (x5 + (1 : Int32)) h = some q := by
  unfold F_X12_allWith_72 at hf
  have K0 := K.1
  have l0 : (0 : Int32).toInt = 0 := rfl
  have K9 : wOK (wl (oc h) a0) := by rw [hW]; exact K
  replace hf := jite hf
  rcases hf with ⟨c1, hf⟩ | ⟨c1, hf⟩
  · skip
    -- leaf 0: rc17 a0 x2 ((s0 ||| s1) ||| (0 : Int32)) x4 (x5 + (1 : Int32)) h
    rw [hx, Int32.le_iff_toInt_le, nI_toInt (by omega)] at c1
    exact ⟨0, Or.inl ⟨rfl, Or.inl (by omega)⟩, hf⟩
  · skip
    replace hf := jbind hf
    obtain ⟨v88, e2, hf⟩ := hf
    replace e2 := (jcv_o e2).2
    have x0 : 0 < x := by
      rw [hx, Int32.le_iff_toInt_le, nI_toInt (by omega)] at c1
      omega
    have r2 := E_X12_takesAlong (i := x - 1) (d := d) (e := false) M K9 (by rw [hx]; show nI x = nI (x - 1 + 1); congr 1; omega) (by rw [hx]; obtain ⟨y, rfl⟩ : ∃ y, x = y + 1 := ⟨x - 1, by omega⟩; exact nI_pred y) (by rw [hW]; omega) hd e2
    rw [beq_f, hW] at r2
    replace hf := jite hf
    rcases hf with ⟨c3, hf⟩ | ⟨c3, hf⟩
    · skip
      -- leaf 10: rc17 a0 x2 ((s0 ||| s1) ||| (0 : Int32)) x4 (x5 + (1 : Int32)) h
      exact ⟨0, Or.inl ⟨rfl, Or.inr (fun z => absurd (c3.symm.trans (r2.2.mpr z)) (by decide))⟩, hf⟩
    · skip
      -- leaf 11: rc17 a0 x2 ((s0 ||| s1) ||| ((1 : Int32) <<< ((x5 - (1 : Int32)) &&& 31))) x4 (x5 + (1 : Int32)) h
      refine ⟨_, Or.inr ⟨rfl, x0, r2.2.mp (r2.1.resolve_left c3)⟩, ?_⟩
      rw [show nI (x - 1) = x5 - (1 : Int32) by rw [hx]; obtain ⟨y, rfl⟩ : ∃ y, x = y + 1 := ⟨x - 1, by omega⟩; exact (nI_pred y).symm]
      exact hf
theorem E_X12_allWith_17 {n : Nat} {rc7 : Nat → Int32 → Int32 → Int32 → jH → Option Int32} {W : jWd} {r : Nat} {d : Bool} {A : Nat} (K : wOK W) : ∀ (k : Nat) {a0 : Nat} {x2 : Int32} {x3 : Int32} {x4 : Int32} {x5 : Int32} {h : jH} {q : Int32} (x : Nat) (a : Nat) (b : Nat) (M : mS (oc h) a0) (hW : wl (oc h) a0 = W) (hd : x2 = dI d) (hx : x5 = nI x) (hl : x ≤ 8) (I : ivl W r d x3 a b) (aA : a ≤ A) (U : x ≤ b ∨ fnB W d b) (D : (x ≤ a ∧ a = A) ∨ fnA W d a ∨ a + 1 ≤ A), F_X12_allWith_17 n rc7 k a0 x2 x3 x4 x5 h = some q → ∃ (v : Int32) (a2 b2 : Nat), ivl W r d v a2 b2 ∧ fnB W d b2 ∧ (fnA W d a2 ∨ a2 + 1 ≤ A) ∧ rc7 a0 x2 v (x4 + (1 : Int32)) h = some q
  | 0, a0, x2, x3, x4, x5, h, q, x, a, b, M, hW, hd, hx, hl, I, aA, U, D, hf => by cases hf
  | k + 1, a0, x2, x3, x4, x5, h, q, x, a, b, M, hW, hd, hx, hl, I, aA, U, D, hf => by
    replace hf : F_X12_allWith_17_b n rc7 (F_X12_allWith_17 n rc7 k) a0 x2 x3 x4 x5 h = some q := hf
    unfold F_X12_allWith_17_b at hf
    have K0 := K.1
    have I1 := I.2.2.2.1
    have I2 := I.1
    have I3 : a ≤ b := Nat.le_trans I.2.1 I.2.2.1
    have l1 : (1 : Int32).toInt = 1 := rfl
    have K9 : wOK (wl (oc h) a0) := by rw [hW]; exact K
    replace hf := jbind hf
    obtain ⟨v20, e1, hf⟩ := hf
    replace e1 := (jcv_o e1).2
    have r1 := E_X12_rings M e1
    subst r1
    replace hf := jite hf
    rcases hf with ⟨c2, hf⟩ | ⟨c2, hf⟩
    · skip
      -- leaf 0: rc7 a0 x2 x3 (x4 + (1 : Int32)) h
      rw [hW, hx, nI_eI (by omega)] at c2
      exact ⟨x3, a, b, I, U.resolve_left (by omega), D.resolve_left (by omega), hf⟩
    · skip
      replace hf := jbind hf
      obtain ⟨v29, e3, hf⟩ := hf
      have r3 := E_X12_has hx (by omega) e3
      replace hf := jite hf
      rcases hf with ⟨c4, hf⟩ | ⟨c4, hf⟩
      · skip
        -- leaf 10: rc17 a0 x2 x3 x4 (x5 + (1 : Int32)) h
        have nx : ¬ (a ≤ x ∧ x ≤ b) := fun z => absurd (c4.symm.trans (r3.2.mpr ((I2 x (by omega)).mpr z))) (by decide)
        rw [hW, hx, nI_eI (by omega)] at c2
        exact E_X12_allWith_17 (A := A) K k (x + 1) a b M hW hd (by rw [hx, nI_1]) (by omega) I aA (by rcases U with z | z; exact Or.inl (by omega); exact Or.inr z) (by rcases D with z | z; exact Or.inl (by omega); exact Or.inr z) hf
      · skip
        replace hf := jbind hf
        obtain ⟨v42, e5, hf⟩ := hf
        replace e5 := (jcv_o e5).2
        have r5 := E_X12_lastRing M e5
        subst r5
        replace hf := jite hf
        rcases hf with ⟨c6, hf⟩ | ⟨c6, hf⟩
        · skip
          -- leaf 110: F_X12_allWith_72 n rc7 rc17 a0 x2 x4 x5 x3 (0 : Int32) h
          have x8 : (x : Int) < (W 0).toInt := by rw [hW, hx, nI_eI (by omega)] at c2; omega
          have xin : a ≤ x ∧ x ≤ b := (I2 x (by omega)).mp (r3.2.mp (r3.1.resolve_left c4))
          rw [hW, hx, Int32.le_iff_toInt_le, jsub (by omega) (by omega), nI_toInt (by omega)] at c6
          have w1 : ((0 : Int32) = 0 ∧ ((x : Int) + 1 = (W 0).toInt ∨ ¬ tog W x d)) ∨ ((0 : Int32) = (1 : Int32) <<< (nI (x + 1) &&& 31) ∧ (x : Int) + 1 < (W 0).toInt ∧ tog W x d) := Or.inl ⟨rfl, Or.inl (by omega)⟩
          obtain ⟨t2, w2, hf⟩ := E_X12_allWith_72 M hW K hx x8 hd hf
          obtain ⟨a2, b2, I9, z1, z2, z3, z4⟩ := ivl_step K I xin w1 w2
          obtain ⟨v, a3, b3, y1, y2, y3, hf⟩ := E_X12_allWith_17 (A := A) K k (x + 1) a2 b2 M hW hd (by rw [hx, nI_1]) (by omega) I9 (by omega) (by rcases z2 with z | z; exact Or.inl (by omega); exact Or.inr z) (by
            by_cases xa : x = a
            · rcases z3 xa with z | z
              · exact Or.inr (Or.inl z)
              · exact Or.inr (Or.inr (by omega))
            · have ea := z4 xa
              rcases D with z | z | z
              · exact absurd xa (by omega)
              · exact Or.inr (Or.inl (by rw [ea]; exact z))
              · exact Or.inr (Or.inr (by omega))) hf
          exact ⟨v, a3, b3, y1, y2, y3, hf⟩
        · skip
          replace hf := jbind hf
          obtain ⟨v56, e7, hf⟩ := hf
          replace e7 := (jcv_o e7).2
          rw [hW, hx, Int32.le_iff_toInt_le, jsub (by omega) (by omega), nI_toInt (by omega)] at c6
          have r7 := E_X12_takesAlong (i := x) (d := d) (e := true) M K9 hx (by rw [hx, nI_1]; rfl) (by rw [hW]; omega) hd e7
          rw [beq_t, hW] at r7
          replace hf := jite hf
          rcases hf with ⟨c8, hf⟩ | ⟨c8, hf⟩
          · skip
            -- leaf 1110: F_X12_allWith_72 n rc7 rc17 a0 x2 x4 x5 x3 (0 : Int32) h
            have x8 : (x : Int) < (W 0).toInt := by rw [hW, hx, nI_eI (by omega)] at c2; omega
            have xin : a ≤ x ∧ x ≤ b := (I2 x (by omega)).mp (r3.2.mp (r3.1.resolve_left c4))
            have w1 : ((0 : Int32) = 0 ∧ ((x : Int) + 1 = (W 0).toInt ∨ ¬ tog W x d)) ∨ ((0 : Int32) = (1 : Int32) <<< (nI (x + 1) &&& 31) ∧ (x : Int) + 1 < (W 0).toInt ∧ tog W x d) := Or.inl ⟨rfl, Or.inr (fun z => absurd (c8.symm.trans (r7.2.mpr z)) (by decide))⟩
            obtain ⟨t2, w2, hf⟩ := E_X12_allWith_72 M hW K hx x8 hd hf
            obtain ⟨a2, b2, I9, z1, z2, z3, z4⟩ := ivl_step K I xin w1 w2
            obtain ⟨v, a3, b3, y1, y2, y3, hf⟩ := E_X12_allWith_17 (A := A) K k (x + 1) a2 b2 M hW hd (by rw [hx, nI_1]) (by omega) I9 (by omega) (by rcases z2 with z | z; exact Or.inl (by omega); exact Or.inr z) (by
              by_cases xa : x = a
              · rcases z3 xa with z | z
                · exact Or.inr (Or.inl z)
                · exact Or.inr (Or.inr (by omega))
              · have ea := z4 xa
                rcases D with z | z | z
                · exact absurd xa (by omega)
                · exact Or.inr (Or.inl (by rw [ea]; exact z))
                · exact Or.inr (Or.inr (by omega))) hf
            exact ⟨v, a3, b3, y1, y2, y3, hf⟩
          · skip
            -- leaf 1111: F_X12_allWith_72 n rc7 rc17 a0 x2 x4 x5 x3 ((1 : Int32) <<< ((x5 + (1 : Int32)) &&& 31)) h
            have x8 : (x : Int) < (W 0).toInt := by rw [hW, hx, nI_eI (by omega)] at c2; omega
            have xin : a ≤ x ∧ x ≤ b := (I2 x (by omega)).mp (r3.2.mp (r3.1.resolve_left c4))
            have x9 : (x : Int) + 1 < (W 0).toInt := by omega
            rw [hx, nI_1] at hf
            rw [← hx] at hf
            have w1 : ((1 : Int32) <<< (nI (x + 1) &&& 31) = 0 ∧ ((x : Int) + 1 = (W 0).toInt ∨ ¬ tog W x d)) ∨ ((1 : Int32) <<< (nI (x + 1) &&& 31) = (1 : Int32) <<< (nI (x + 1) &&& 31) ∧ (x : Int) + 1 < (W 0).toInt ∧ tog W x d) := Or.inr ⟨rfl, x9, r7.2.mp (r7.1.resolve_left c8)⟩
            obtain ⟨t2, w2, hf⟩ := E_X12_allWith_72 M hW K hx x8 hd hf
            obtain ⟨a2, b2, I9, z1, z2, z3, z4⟩ := ivl_step K I xin w1 w2
            obtain ⟨v, a3, b3, y1, y2, y3, hf⟩ := E_X12_allWith_17 (A := A) K k (x + 1) a2 b2 M hW hd (by rw [hx, nI_1]) (by omega) I9 (by omega) (by rcases z2 with z | z; exact Or.inl (by omega); exact Or.inr z) (by
              by_cases xa : x = a
              · rcases z3 xa with z | z
                · exact Or.inr (Or.inl z)
                · exact Or.inr (Or.inr (by omega))
              · have ea := z4 xa
                rcases D with z | z | z
                · exact absurd xa (by omega)
                · exact Or.inr (Or.inl (by rw [ea]; exact z))
                · exact Or.inr (Or.inr (by omega))) hf
            exact ⟨v, a3, b3, y1, y2, y3, hf⟩
theorem E_X12_allWith_7 {n : Nat} {W : jWd} {r : Nat} {d : Bool} (K : wOK W) : ∀ (k : Nat) {a0 : Nat} {x2 : Int32} {x3 : Int32} {x4 : Int32} {h : jH} {q : Int32} (t : Nat) (a : Nat) (b : Nat) (M : mS (oc h) a0) (hW : wl (oc h) a0 = W) (hd : x2 = dI d) (hx : x4 = nI t) (hl : t ≤ 8) (I : ivl W r d x3 a b) (U : t = 0 ∨ fnB W d b) (D : fnA W d a ∨ a + t ≤ r), F_X12_allWith_7 n k a0 x2 x3 x4 h = some q → ∃ a b : Nat, ivl W r d q a b ∧ fnB W d b ∧ fnA W d a
  | 0, a0, x2, x3, x4, h, q, t, a, b, M, hW, hd, hx, hl, I, U, D, hf => by cases hf
  | k + 1, a0, x2, x3, x4, h, q, t, a, b, M, hW, hd, hx, hl, I, U, D, hf => by
    replace hf : F_X12_allWith_7_b n (F_X12_allWith_7 n k) a0 x2 x3 x4 h = some q := hf
    unfold F_X12_allWith_7_b at hf
    have K0 := K.1
    have I1 := I.2.2.2.1
    have I2 := I.2.2.1
    have l8 : (8 : Int32).toInt = 8 := rfl
    replace hf := jite hf
    rcases hf with ⟨c1, hf⟩ | ⟨c1, hf⟩
    · skip
      cases hf
      -- leaf 0: x3
      rw [hx, Int32.le_iff_toInt_le, nI_toInt (by omega)] at c1
      exact ⟨a, b, I, U.resolve_left (by omega), D.resolve_right (by omega)⟩
    · skip
      -- leaf 1: F_X12_allWith_17 n rc7 n a0 x2 x3 x4 (0 : Int32) h
      rw [hx, Int32.le_iff_toInt_le, nI_toInt (by omega)] at c1
      obtain ⟨v, a2, b2, y1, y2, y3, hf⟩ := E_X12_allWith_17 (A := a) K n 0 a b M hW hd rfl (by omega) I (Nat.le_refl _) (Or.inl (Nat.zero_le _)) (Or.inl ⟨Nat.zero_le _, rfl⟩) hf
      refine E_X12_allWith_7 K k (t + 1) a2 b2 M hW hd (by rw [hx, nI_1]) (by omega) y1 (Or.inr y2) ?_ hf
      rcases y3 with z | z
      · exact Or.inl z
      · rcases D with w | w
        · have := I.2.1
          exact absurd (y1.2.2.2.2.2 (a - 1) (by omega) (by omega)) (w.resolve_left (by omega))
        · exact Or.inr (by omega)
theorem E_X12_allWith {W : jWd} {r : Nat} {d : Bool} {n : Nat} {a0 : Nat} {x1 : Int32} {x2 : Int32} {h : jH} {q : Int32} (M : mS (oc h) a0) (hW : wl (oc h) a0 = W) (K : wOK W) (h1 : x1 = nI r) (hr : (r : Int) < (W 0).toInt) (hd : x2 = dI d) (hf : F_X12_allWith n a0 x1 x2 h = some q) : ∃ a b : Nat, ivl W r d q a b ∧ fnB W d b ∧ fnA W d a := by
  unfold F_X12_allWith at hf
  have K0 := K.1
  -- leaf : F_X12_allWith_7 n n a0 x2 ((1 : Int32) <<< (x1 &&& 31)) (0 : Int32) h
  exact E_X12_allWith_7 K n 0 r r M hW hd rfl (by omega) ⟨fun i hi => by rw [h1, b_one (by omega) hi, decide_eq_true_iff]; omega, Nat.le_refl _, Nat.le_refl _, hr, fun j u w => by omega, fun j u w => by omega⟩ (Or.inl rfl) (Or.inr (by omega)) hf
theorem E_X12_in {n : Nat} {x0 : Int32} {x1 : Int32} {x2 : Int32} {h : jH} {q : Int32} (hf : F_X12_in n x0 x1 x2 h = some q) : (q = 0 ∨ q = 1) ∧ (q = 1 ↔ (x1.toInt ≤ x0.toInt ∧ x0.toInt ≤ x2.toInt)) := by
  unfold F_X12_in at hf
  replace hf := jite hf
  rcases hf with ⟨c1, hf⟩ | ⟨c1, hf⟩
  · skip
    cases hf
    -- leaf 0: (0 : Int32)
    rw [Int32.lt_iff_toInt_lt] at c1
    exact ⟨Or.inl rfl, fun z => absurd z (by decide), fun z => by omega⟩
  · skip
    replace hf := jite hf
    rcases hf with ⟨c2, hf⟩ | ⟨c2, hf⟩
    · skip
      cases hf
      -- leaf 10: (0 : Int32)
      rw [Int32.lt_iff_toInt_lt] at c1 c2
      exact ⟨Or.inl rfl, fun z => absurd z (by decide), fun z => by omega⟩
    · skip
      cases hf
      -- leaf 11: (1 : Int32)
      rw [Int32.lt_iff_toInt_lt] at c1 c2
      exact ⟨Or.inr rfl, fun _ => by omega, fun _ => rfl⟩
theorem E_X12_noPlace {n : Nat} {x0 : Int32} {h : jH} {q : Int32} (hf : F_X12_noPlace n x0 h = some q) : (q = 0 ∨ q = 1) ∧ (q = 1 ↔ ¬ (0 ≤ x0.toInt ∧ x0.toInt ≤ 31)) := by
  unfold F_X12_noPlace at hf
  replace hf := jbind hf
  obtain ⟨v4, e1, hf⟩ := hf
  have r1 := E_X12_in e1
  replace hf := jite hf
  rcases hf with ⟨c2, hf⟩ | ⟨c2, hf⟩
  · skip
    cases hf
    -- leaf 0: (1 : Int32)
    exact ⟨Or.inr rfl, fun _ z => absurd (c2.symm.trans (r1.2.mpr z)) (by decide), fun _ => rfl⟩
  · skip
    cases hf
    -- leaf 1: (0 : Int32)
    exact ⟨Or.inl rfl, fun z => absurd z (by decide), fun z => absurd (r1.2.mp (r1.1.resolve_left c2)) z⟩
theorem E_X12_noSteps {n : Nat} {x0 : Int32} {h : jH} {q : Int32} (hf : F_X12_noSteps n x0 h = some q) : (q = 0 ∨ q = 1) ∧ (q = 1 ↔ ¬ (1 ≤ x0.toInt ∧ x0.toInt ≤ 31)) := by
  unfold F_X12_noSteps at hf
  replace hf := jbind hf
  obtain ⟨v4, e1, hf⟩ := hf
  have r1 := E_X12_in e1
  replace hf := jite hf
  rcases hf with ⟨c2, hf⟩ | ⟨c2, hf⟩
  · skip
    cases hf
    -- leaf 0: (1 : Int32)
    exact ⟨Or.inr rfl, fun _ z => absurd (c2.symm.trans (r1.2.mpr z)) (by decide), fun _ => rfl⟩
  · skip
    cases hf
    -- leaf 1: (0 : Int32)
    exact ⟨Or.inl rfl, fun z => absurd z (by decide), fun z => absurd (r1.2.mp (r1.1.resolve_left c2)) z⟩
theorem E_X12_mayGo_20 {W : jWd} {i : Nat} {d : Bool} {n : Nat} {a0 : Nat} {x1 : Int32} {x2 : Int32} {x3 : Int32} {s0 : Int32} {h : jH} {q : Int32} (M : mS (oc h) a0) (hW : wl (oc h) a0 = W) (K : wOK W) (h1 : x1 = nI i) (hi : (i : Int) < (W 0).toInt) (hd : x2 = dI d) (h3 : x3 = W (11 + 8 * i)) (h0 : s0.toInt = (W (11 + 8 * i)).toInt + (if d = true then 1 else -1)) (hf : F_X12_mayGo_20 n a0 x1 x2 x3 s0 h = some q) : (q = 0 ∨ q = 1) ∧ (q = 1 ↔ ¬ stp W i d) := by
  unfold F_X12_mayGo_20 at hf
  have K0 := K.1
  have kp := (K.2.1 i hi).1
  have l1 : (1 : Int32).toInt = 1 := rfl
  obtain ⟨s1, s2, s3, s4, s5, s8, s15, s17, s19, s20, s21⟩ := id M
  replace hf := jbind hf
  obtain ⟨v20, e1, hf⟩ := hf
  have r1 := E_X12_noPlace e1
  replace hf := jite hf
  rcases hf with ⟨c2, hf⟩ | ⟨c2, hf⟩
  · skip
    replace hf := jbind hf
    obtain ⟨v31, e3, hf⟩ := hf
    replace e3 := (jcv_o e3).2
    have r3 := E_X12_is M (j := 2) (t := 13 + 8 * i) h1 rfl (by omega) (by omega) e3
    replace hf := jite hf
    rcases hf with ⟨c4, hf⟩ | ⟨c4, hf⟩
    · skip
      cases hf
      -- leaf 00: (1 : Int32)
      have nin : 0 ≤ s0.toInt ∧ s0.toInt ≤ 31 := Classical.byContradiction fun z => absurd (c2.symm.trans (r1.2.mpr z)) (by decide)
      have n1 : ¬ (W (11 + 8 * i)).toInt = (if d = true then 31 else 0) := fun z => by
        cases d with
        | true => rw [if_pos rfl] at z h0; omega
        | false => rw [if_neg (by decide)] at z h0; omega
      rw [hW] at r3
      refine ⟨Or.inr rfl, fun _ z => ?_, fun _ => rfl⟩
      rcases z with z | ⟨z, -⟩
      · exact n1 z
      · exact absurd (c4.symm.trans (r3.2.mpr z)) (by decide)
    · skip
      replace hf := jite hf
      rcases hf with ⟨c5, hf⟩ | ⟨c5, hf⟩
      · skip
        replace hf := jbind hf
        obtain ⟨p49, e6, hf⟩ := hf
        have r6 := oc_gR e6
        rw [s1] at r6
        cases r6
        clear e6
        replace hf := jbind hf
        obtain ⟨v53, e7, hf⟩ := hf
        obtain ⟨r7, y7⟩ := oc_al e7
        rw [show (5 : Int32).toNatClampNeg = 5 from rfl] at r7
        subst r7
        clear e7
        replace hf := jite hf
        rcases hf with ⟨c8, hf⟩ | ⟨c8, hf⟩
        · skip
          cases hf
          -- leaf 0100: (0 : Int32)
          have th : W (13 + 8 * i) = 1 := by rw [← hW]; exact r3.2.mp (r3.1.resolve_left c4)
          have w5 : oi (oc h) (a0 + 1) 5 = W 5 := by rw [← hW]
          have kj := K.2.2.2.2.2.2.1
          have dz : d = false := by cases d with | false => rfl | true => exact absurd (hd.symm.trans c5) (by decide)
          subst dz
          rw [w5, h3] at c8
          exact ⟨Or.inl rfl, fun z => absurd z (by decide), fun z => absurd (Or.inr ⟨th, by rw [c8]; rfl⟩) z⟩
        · skip
          cases hf
          -- leaf 0101: (1 : Int32)
          have nin : 0 ≤ s0.toInt ∧ s0.toInt ≤ 31 := Classical.byContradiction fun z => absurd (c2.symm.trans (r1.2.mpr z)) (by decide)
          have n1 : ¬ (W (11 + 8 * i)).toInt = (if d = true then 31 else 0) := fun z => by
            cases d with
            | true => rw [if_pos rfl] at z h0; omega
            | false => rw [if_neg (by decide)] at z h0; omega
          have th : W (13 + 8 * i) = 1 := by rw [← hW]; exact r3.2.mp (r3.1.resolve_left c4)
          have w5 : oi (oc h) (a0 + 1) 5 = W 5 := by rw [← hW]
          have kj := K.2.2.2.2.2.2.1
          have dz : d = false := by cases d with | false => rfl | true => exact absurd (hd.symm.trans c5) (by decide)
          subst dz
          rw [w5, h3] at c8
          refine ⟨Or.inr rfl, fun _ z => ?_, fun _ => rfl⟩
          rcases z with z | ⟨-, z⟩
          · exact n1 z
          · exact c8 (i_eq.mpr z)
      · skip
        replace hf := jbind hf
        obtain ⟨p49, e9, hf⟩ := hf
        have r9 := oc_gR e9
        rw [s1] at r9
        cases r9
        clear e9
        replace hf := jbind hf
        obtain ⟨v53, e10, hf⟩ := hf
        obtain ⟨r10, y10⟩ := oc_al e10
        rw [show (5 : Int32).toNatClampNeg = 5 from rfl] at r10
        subst r10
        clear e10
        replace hf := jite hf
        rcases hf with ⟨c11, hf⟩ | ⟨c11, hf⟩
        · skip
          cases hf
          -- leaf 0110: (0 : Int32)
          have th : W (13 + 8 * i) = 1 := by rw [← hW]; exact r3.2.mp (r3.1.resolve_left c4)
          have w5 : oi (oc h) (a0 + 1) 5 = W 5 := by rw [← hW]
          have kj := K.2.2.2.2.2.2.1
          have dz : d = true := by cases d with | true => rfl | false => exact absurd hd c5
          subst dz
          rw [w5, h3, i_eq, jadd (by omega) (by omega)] at c11
          exact ⟨Or.inl rfl, fun z => absurd z (by decide), fun z => absurd (Or.inr ⟨th, by rw [if_pos rfl]; omega⟩) z⟩
        · skip
          cases hf
          -- leaf 0111: (1 : Int32)
          have nin : 0 ≤ s0.toInt ∧ s0.toInt ≤ 31 := Classical.byContradiction fun z => absurd (c2.symm.trans (r1.2.mpr z)) (by decide)
          have n1 : ¬ (W (11 + 8 * i)).toInt = (if d = true then 31 else 0) := fun z => by
            cases d with
            | true => rw [if_pos rfl] at z h0; omega
            | false => rw [if_neg (by decide)] at z h0; omega
          have th : W (13 + 8 * i) = 1 := by rw [← hW]; exact r3.2.mp (r3.1.resolve_left c4)
          have w5 : oi (oc h) (a0 + 1) 5 = W 5 := by rw [← hW]
          have kj := K.2.2.2.2.2.2.1
          have dz : d = true := by cases d with | true => rfl | false => exact absurd hd c5
          subst dz
          rw [w5, h3, i_eq, jadd (by omega) (by omega)] at c11
          refine ⟨Or.inr rfl, fun _ z => ?_, fun _ => rfl⟩
          rcases z with z | ⟨-, z⟩
          · exact n1 z
          · rw [if_pos rfl] at z; omega
  · skip
    cases hf
    -- leaf 1: (0 : Int32)
    have out : ¬ (0 ≤ s0.toInt ∧ s0.toInt ≤ 31) := r1.2.mp (r1.1.resolve_left c2)
    refine ⟨Or.inl rfl, fun z => absurd z (by decide), fun z => absurd (Or.inl ?_) z⟩
    cases d with
    | true => rw [if_pos rfl] at h0 ⊢; omega
    | false => rw [if_neg (by decide)] at h0 ⊢; omega
theorem E_X12_mayGo {W : jWd} {i : Nat} {d : Bool} {n : Nat} {a0 : Nat} {x1 : Int32} {x2 : Int32} {h : jH} {q : Int32} (M : mS (oc h) a0) (hW : wl (oc h) a0 = W) (K : wOK W) (h1 : x1 = nI i) (hi : (i : Int) < (W 0).toInt) (hd : x2 = dI d) (hf : F_X12_mayGo n a0 x1 x2 h = some q) : (q = 0 ∨ q = 1) ∧ (q = 1 ↔ ¬ stp W i d) := by
  unfold F_X12_mayGo at hf
  have K0 := K.1
  have kp := (K.2.1 i hi).1
  have l1 : (1 : Int32).toInt = 1 := rfl
  have ew : wl (oc h) a0 (11 + 8 * i) = W (11 + 8 * i) := by rw [hW]
  replace hf := jbind hf
  obtain ⟨v3, e1, hf⟩ := hf
  replace e1 := (jcv_o e1).2
  have r1 := E_X12_of M (j := 0) (t := 11 + 8 * i) h1 rfl (by omega) (by omega) e1
  subst r1
  replace hf := jite hf
  rcases hf with ⟨c2, hf⟩ | ⟨c2, hf⟩
  · skip
    -- leaf 0: F_X12_mayGo_20 n a0 x1 x2 v3 (v3 - (1 : Int32)) h
    have dz : d = false := by cases d with | false => rfl | true => exact absurd (hd.symm.trans c2) (by decide)
    subst dz
    exact E_X12_mayGo_20 M hW K h1 hi hd ew (by rw [ew, jsub (by omega) (by omega), if_neg (by decide)]; omega) hf
  · skip
    -- leaf 1: F_X12_mayGo_20 n a0 x1 x2 v3 (v3 + (1 : Int32)) h
    have dz : d = true := by cases d with | true => rfl | false => exact absurd hd c2
    subst dz
    exact E_X12_mayGo_20 M hW K h1 hi hd ew (by rw [ew, jadd (by omega) (by omega), if_pos rfl]; omega) hf
theorem E_X12_goingBy_13 {n : Nat} {W : jWd} {d : Bool} (K : wOK W) : ∀ (k : Nat) {a0 : Nat} {x2 : Int32} {x3 : Int32} {x4 : Int32} {x5 : Int32} {h : jH} {q : Int32} (x : Nat) (M : mS (oc h) a0) (hW : wl (oc h) a0 = W) (hd : x2 = dI d) (hx : x5 = nI x) (hl : (x : Int) ≤ (W 0).toInt) (hv : ∀ j, j < 32 → bt x3 j = true → (j : Int) < (W 0).toInt) (h4 : (x4 = 0 ∨ x4 = 1) ∧ (x4 = 1 ↔ ∀ j, j < x → bt x3 j = true → ¬ stp W j d)), F_X12_goingBy_13 n k a0 x2 x3 x4 x5 h = some q → (q = 0 ∧ ∃ j, j < 32 ∧ bt x3 j = true ∧ stp W j d) ∨ (q = x3 ∧ ∀ j, j < 32 → bt x3 j = true → ¬ stp W j d)
  | 0, a0, x2, x3, x4, x5, h, q, x, M, hW, hd, hx, hl, hv, h4, hf => by cases hf
  | k + 1, a0, x2, x3, x4, x5, h, q, x, M, hW, hd, hx, hl, hv, h4, hf => by
    replace hf : F_X12_goingBy_13_b n (F_X12_goingBy_13 n k) a0 x2 x3 x4 x5 h = some q := hf
    unfold F_X12_goingBy_13_b at hf
    have K0 := K.1
    replace hf := jbind hf
    obtain ⟨v16, e1, hf⟩ := hf
    replace e1 := (jcv_o e1).2
    have r1 := E_X12_rings M e1
    subst r1
    replace hf := jite hf
    rcases hf with ⟨c2, hf⟩ | ⟨c2, hf⟩
    · skip
      replace hf := jite hf
      rcases hf with ⟨c3, hf⟩ | ⟨c3, hf⟩
      · skip
        cases hf
        -- leaf 00: (0 : Int32)
        rw [hW, hx, nI_eI (by omega)] at c2
        refine Or.inl ⟨rfl, ?_⟩
        have nn : ¬ ∀ j, j < x → bt x3 j = true → ¬ stp W j d := fun z => absurd (c3.symm.trans (h4.2.mpr z)) (by decide)
        refine Classical.byContradiction fun z => nn fun j a b y => z ⟨j, by omega, b, y⟩
      · skip
        cases hf
        -- leaf 01: x3
        rw [hW, hx, nI_eI (by omega)] at c2
        refine Or.inr ⟨rfl, fun j a b => h4.2.mp (h4.1.resolve_left c3) j ?_ b⟩
        have := hv j a b
        omega
    · skip
      replace hf := jite hf
      rcases hf with ⟨c4, hf⟩ | ⟨c4, hf⟩
      · skip
        -- leaf 10: rc13 a0 x2 x3 (0 : Int32) (x5 + (1 : Int32)) h
        have x8 : (x : Int) < (W 0).toInt := by rw [hW, hx, nI_eI (by omega)] at c2; omega
        exact E_X12_goingBy_13 K k (x + 1) M hW hd (by rw [hx, nI_1]) (by omega) hv ⟨Or.inl rfl, fun z => absurd z (by decide), fun z => absurd (c4.symm.trans (h4.2.mpr (fun j a b => z j (by omega) b))) (by decide)⟩ hf
      · skip
        replace hf := jbind hf
        obtain ⟨v30, e5, hf⟩ := hf
        have r5 := E_X12_has hx (by omega) e5
        replace hf := jite hf
        rcases hf with ⟨c6, hf⟩ | ⟨c6, hf⟩
        · skip
          -- leaf 110: rc13 a0 x2 x3 (1 : Int32) (x5 + (1 : Int32)) h
          have x8 : (x : Int) < (W 0).toInt := by rw [hW, hx, nI_eI (by omega)] at c2; omega
          exact E_X12_goingBy_13 K k (x + 1) M hW hd (by rw [hx, nI_1]) (by omega) hv ⟨Or.inr rfl, fun _ j a b => by
            by_cases y : j = x
            · subst y; exact absurd (c6.symm.trans (r5.2.mpr b)) (by decide)
            · exact h4.2.mp (h4.1.resolve_left c4) j (by omega) b, fun _ => rfl⟩ hf
        · skip
          replace hf := jbind hf
          obtain ⟨v40, e7, hf⟩ := hf
          replace e7 := (jcv_o e7).2
          have x8 : (x : Int) < (W 0).toInt := by rw [hW, hx, nI_eI (by omega)] at c2; omega
          have r7 := E_X12_mayGo M hW K hx x8 hd e7
          replace hf := jite hf
          rcases hf with ⟨c8, hf⟩ | ⟨c8, hf⟩
          · skip
            -- leaf 1110: rc13 a0 x2 x3 (0 : Int32) (x5 + (1 : Int32)) h
            exact E_X12_goingBy_13 K k (x + 1) M hW hd (by rw [hx, nI_1]) (by omega) hv ⟨Or.inl rfl, fun z => absurd z (by decide), fun z => absurd (c8.symm.trans (r7.2.mpr (z x (by omega) (r5.2.mp (r5.1.resolve_left c6))))) (by decide)⟩ hf
          · skip
            -- leaf 1111: rc13 a0 x2 x3 (1 : Int32) (x5 + (1 : Int32)) h
            exact E_X12_goingBy_13 K k (x + 1) M hW hd (by rw [hx, nI_1]) (by omega) hv ⟨Or.inr rfl, fun _ j a b => by
              by_cases y : j = x
              · subst y; exact r7.2.mp (r7.1.resolve_left c8)
              · exact h4.2.mp (h4.1.resolve_left c4) j (by omega) b, fun _ => rfl⟩ hf
theorem E_X12_goingBy {W : jWd} {r : Nat} {d : Bool} {n : Nat} {a0 : Nat} {x1 : Int32} {x2 : Int32} {h : jH} {q : Int32} (M : mS (oc h) a0) (hW : wl (oc h) a0 = W) (K : wOK W) (h1 : x1 = nI r) (hr : (r : Int) < (W 0).toInt) (hd : x2 = dI d) (hf : F_X12_goingBy n a0 x1 x2 h = some q) : goB W r d q := by
  unfold F_X12_goingBy at hf
  have K0 := K.1
  replace hf := jbind hf
  obtain ⟨v3, e1, hf⟩ := hf
  replace e1 := (jcv_o e1).2
  obtain ⟨a, b, I, fb, fa⟩ := E_X12_allWith M hW K h1 hr hd e1
  -- leaf : F_X12_goingBy_13 n n a0 x2 v3 (1 : Int32) (0 : Int32) h
  have I1 := I.2.2.2.1
  have gi := ivl_gos I fb fa
  have I0 := I.1
  rcases E_X12_goingBy_13 K n 0 M hW hd rfl (by omega) (fun j a9 b9 => by have := (I0 j a9).mp b9; omega) ⟨Or.inr rfl, fun _ j a9 => by omega, fun _ => rfl⟩ hf with ⟨rfl, j, j0, j1, j2⟩ | ⟨rfl, hs⟩
  · intro i h32
    rw [b_0]
    exact ⟨fun z => absurd z (by decide), fun z => absurd j2 (z.2 j ((gi j).mpr ((I0 j j0).mp j1)))⟩
  · intro i h32
    rw [I0 i h32, ← gi i]
    exact ⟨fun z => ⟨z, fun j u => hs j (by have := u.1; omega) ((I0 j (by have := u.1; omega)).mpr ((gi j).mp u))⟩, fun z => z.1⟩
end
section
/-! a pull of the reference -/
theorem ncnt_s {W : jWd} {v : Int32} {i : Nat} : ncnt W v (i + 1) = ncnt W v i + if bt v i = true ∧ W (14 + 8 * i) ≠ 1 then 1 else 0 := rfl
theorem ncnt_c {W : jWd} {v : Int32} {c : Nat} (h : ∀ k, c ≤ k → k < 8 → bt v k = false) : ∀ m, c ≤ m → m ≤ 8 → ncnt W v c = ncnt W v m := by
  intro m
  induction m with
  | zero => intro a _; rw [show c = 0 by omega]
  | succ m ih =>
    intro a b
    by_cases q : c = m + 1
    · rw [q]
    · rw [ih (by omega) (by omega), ncnt_s, if_neg (fun z => absurd ((h m (by omega) (by omega)).symm.trans z.1) (by decide))]
      rfl
theorem nz_one {W : jWd} (K : wOK W) {s : Nat} (hs : s < 5000) : (if W 8 + nI s < (9999 : Int32) then W 8 + nI s else (9999 : Int32)) = nzc W s := by
  have k8 := K.2.2.2.2.2.2.2.2.1
  have e : (W 8 + nI s).toInt = (W 8).toInt + (s : Int) := by rw [jadd (by rw [nI_toInt (by omega)]; omega) (by rw [nI_toInt (by omega)]; omega), nI_toInt (by omega)]
  unfold nzc
  have l9 : (9999 : Int32).toInt = 9999 := rfl
  by_cases q : W 8 + nI s < (9999 : Int32)
  · rw [if_pos q, if_pos (by rw [Int32.lt_iff_toInt_lt, e, l9] at q; exact q)]
  · rw [if_neg q, if_neg (by rw [Int32.lt_iff_toInt_lt, e, l9] at q; exact q)]
theorem wOK_sg {W : jWd} {r : Nat} {d : Bool} (K : wOK W) (hr : (r : Int) < (W 0).toInt) (h : ∃ v, goB W r d v) : wOK (stW W (gv W r d) d 8) := by
  obtain ⟨v, hv⟩ := h
  rw [gv_of hv]
  exact wOK_st K hv hr
theorem frM_oi {m : Nat} {cs fs : List Nat} {O O2 : jO} (f : frM m cs fs O O2) {k : Nat} (hc : 0 ∉ cs) (hk : k ∉ fs) : oi O2 m k = oi O m k := by
  unfold oi
  rw [f m k (fun c h q => hc ((show c = 0 by omega) ▸ h)) (fun _ => hk)]
theorem E_X12_goesOne_52 {x : Nat} {t : Nat} {n : Nat} {rc10 : Nat → Int32 → Int32 → Int32 → jH → Option (Int32 × jH)} {a0 : Nat} {x2 : Int32} {x3 : Int32} {x4 : Int32} {sa0 : Nat} {s1 : Int32} {s2 : Int32} {s3 : Int32} {h : jH} {q : Int32 × jH} (M : mS (oc h) a0) (hs : sa0 = a0 + 1) (h1 : s1 = nI t) (ht : t = 11 + 8 * x) (x9 : x < 16) (h4 : x4 = nI x) (hf : F_X12_goesOne_52 n rc10 a0 x2 x3 x4 sa0 s1 s2 s3 h = some q) : ∃ h2 : jH, wl (oc h2) a0 = upd (wl (oc h) a0) t (s2 + s3) ∧ oi (oc h2) a0 18 = oi (oc h) a0 18 + (if wl (oc h) a0 (14 + 8 * x) = 1 then 0 else 1) ∧ frM a0 [1] [18] (oc h) (oc h2) ∧ h2.1 = h.1 ∧ rc10 a0 x2 x3 (x4 + (1 : Int32)) h2 = some q := by
  unfold F_X12_goesOne_52 at hf
  subst hs h1
  replace hf := jbind hf
  obtain ⟨h53, e1, hf⟩ := hf
  obtain ⟨o1, z1, y1⟩ := oc_as e1
  rw [jnar0] at o1
  clear e1
  replace hf := jbind hf
  obtain ⟨v56, e2, hf⟩ := hf
  have r2 := oc_gI e2
  rw [o1] at r2
  rw [oi_ne (Or.inl (by omega))] at r2
  subst r2
  clear e2
  replace hf := jbind hf
  obtain ⟨v63, e3, hf⟩ := hf
  replace e3 := (jcv_o e3).2
  rw [nI_cl (by omega)] at o1
  have f1 : frM a0 [1] [18] (oc h) (oc h53) := by rw [o1]; exact frM_c (by decide)
  have M1 : mS (oc h53) a0 := mS_fr M f1 (by decide) (by decide)
  have w1 : wl (oc h53) a0 = upd (wl (oc h) a0) t (s2 + s3) := by rw [o1]; exact wl_w
  have r3 := E_X12_is M1 (j := 3) (t := 14 + 8 * x) h4 rfl (by omega) (by omega) e3
  rw [w1, upd_ne (by omega)] at r3
  replace hf := jite hf
  rcases hf with ⟨c4, hf⟩ | ⟨c4, hf⟩
  · skip
    replace hf := jbind hf
    obtain ⟨h75, e5, hf⟩ := hf
    obtain ⟨o5, z5⟩ := oc_pf e5
    clear e5
    -- leaf 0: rc10 a0 x2 x3 (x4 + (1 : Int32)) h75
    have nw : ¬ wl (oc h) a0 (14 + 8 * x) = 1 := fun z => absurd (c4.symm.trans (r3.2.mpr z)) (by decide)
    refine ⟨h75, ?_, ?_, ?_, z5.trans z1, hf⟩
    · rw [o5, wl_n (by omega)]; exact w1
    · rw [o5, oi_eq, if_neg nw]
    · rw [o5]; exact frM_tr f1 (frM_f (by decide))
  · skip
    replace hf := jbind hf
    obtain ⟨h75, e6, hf⟩ := hf
    obtain ⟨o6, z6⟩ := oc_pf e6
    clear e6
    -- leaf 1: rc10 a0 x2 x3 (x4 + (1 : Int32)) h75
    have nw : wl (oc h) a0 (14 + 8 * x) = 1 := r3.2.mp (r3.1.resolve_left c4)
    refine ⟨h75, ?_, ?_, ?_, z6.trans z1, hf⟩
    · rw [o6, wl_n (by omega)]; exact w1
    · rw [o6, oi_eq, if_pos nw]
    · rw [o6]; exact frM_tr f1 (frM_f (by decide))
theorem E_X12_goesOne_10 {n : Nat} {W : jWd} {d : Bool} {S0 : Nat} (K : wOK W) : ∀ (k : Nat) {a0 : Nat} {x2 : Int32} {x3 : Int32} {x4 : Int32} {h : jH} {q : Int32 × jH} (x : Nat) (M : mS (oc h) a0) (hW : wl (oc h) a0 = stW W x3 d x) (hS : oi (oc h) a0 18 = nI (S0 + ncnt W x3 x)) (hd : x2 = dI d) (hx : x4 = nI x) (hl : (x : Int) ≤ (W 0).toInt), F_X12_goesOne_10 n k a0 x2 x3 x4 h = some q → q.1 = (if x3 = 0 then 0 else 1) ∧ wl (oc q.2) a0 = stW W x3 d (W 0).toInt.toNat ∧ oi (oc q.2) a0 18 = nI (S0 + ncnt W x3 (W 0).toInt.toNat) ∧ frM a0 [1] [18] (oc h) (oc q.2) ∧ q.2.1 = h.1
  | 0, a0, x2, x3, x4, h, q, x, M, hW, hS, hd, hx, hl, hf => by cases hf
  | k + 1, a0, x2, x3, x4, h, q, x, M, hW, hS, hd, hx, hl, hf => by
    replace hf : F_X12_goesOne_10_b n (F_X12_goesOne_10 n k) a0 x2 x3 x4 h = some q := hf
    unfold F_X12_goesOne_10_b at hf
    have K0 := K.1
    have e0 : wl (oc h) a0 0 = W 0 := by rw [hW]; exact stW_ot (by omega)
    obtain ⟨s1, s2, s3, s4, s5, s8, s15, s17, s19, s20, s21⟩ := id M
    replace hf := jbind hf
    obtain ⟨v13, e1, hf⟩ := hf
    replace e1 := (jcv_o e1).2
    have r1 := E_X12_rings M e1
    subst r1
    replace hf := jite hf
    rcases hf with ⟨c2, hf⟩ | ⟨c2, hf⟩
    · skip
      replace hf := jite hf
      rcases hf with ⟨c3, hf⟩ | ⟨c3, hf⟩
      · skip
        cases hf
        -- leaf 00: ((0 : Int32), h)
        rw [e0, hx, nI_eI (by omega)] at c2
        have ex : x = (W 0).toInt.toNat := by omega
        exact ⟨by rw [if_pos c3], by rw [← ex]; exact hW, by rw [← ex]; exact hS, frM_rfl, rfl⟩
      · skip
        cases hf
        -- leaf 01: ((1 : Int32), h)
        rw [e0, hx, nI_eI (by omega)] at c2
        have ex : x = (W 0).toInt.toNat := by omega
        exact ⟨by rw [if_neg c3], by rw [← ex]; exact hW, by rw [← ex]; exact hS, frM_rfl, rfl⟩
    · skip
      replace hf := jbind hf
      obtain ⟨v22, e4, hf⟩ := hf
      have r4 := E_X12_has hx (by omega) e4
      replace hf := jite hf
      rcases hf with ⟨c5, hf⟩ | ⟨c5, hf⟩
      · skip
        -- leaf 10: rc10 a0 x2 x3 (x4 + (1 : Int32)) h
        have x8 : (x : Int) < (W 0).toInt := by rw [e0, hx, nI_eI (by omega)] at c2; omega
        have bx : bt x3 x = false := by
          cases z : bt x3 x with
          | false => rfl
          | true => exact absurd (c5.symm.trans (r4.2.mpr z)) (by decide)
        exact E_X12_goesOne_10 K k (x + 1) M (by rw [hW, stW_n bx]) (by rw [hS]; rw [ncnt_s, if_neg (fun z => absurd (bx.symm.trans z.1) (by decide))]; rfl) hd (by rw [hx, nI_1]) (by omega) hf
      · skip
        replace hf := jbind hf
        obtain ⟨p32, e6, hf⟩ := hf
        have r6 := oc_gR e6
        rw [s1] at r6
        cases r6
        clear e6
        replace hf := jbind hf
        obtain ⟨v38, e7, hf⟩ := hf
        have r7 := E_X12_at (i := x) (j := 0) (t := 11 + 8 * x) hx rfl (by omega) e7
        subst r7
        replace hf := jbind hf
        obtain ⟨v42, e8, hf⟩ := hf
        obtain ⟨r8, y8⟩ := oc_al e8
        subst r8
        clear e8
        replace hf := jite hf
        rcases hf with ⟨c9, hf⟩ | ⟨c9, hf⟩
        · skip
          -- leaf 110: F_X12_goesOne_52 n rc10 a0 x2 x3 x4 p32 v38 v42 (- 1 : Int32) h
          have x8 : (x : Int) < (W 0).toInt := by rw [e0, hx, nI_eI (by omega)] at c2; omega
          have bx : bt x3 x = true := r4.2.mp (r4.1.resolve_left c5)
          obtain ⟨h2, g1, g2, g3, g4, hf⟩ := E_X12_goesOne_52 M rfl rfl rfl (by omega) hx hf
          have e1 : wl (oc h2) a0 = stW W x3 d (x + 1) := by
            rw [g1, stW_s bx, nI_cl (by omega), ← hW]
            cases d with
            | false => rfl
            | true => exact absurd (hd.symm.trans c9) (by decide)
          have e2 : oi (oc h2) a0 18 = nI (S0 + ncnt W x3 (x + 1)) := by
            rw [g2, hS, hW, stW_ot (by omega)]
            rw [ncnt_s]
            by_cases y : W (14 + 8 * x) = 1
            · rw [if_pos y, if_neg (fun z => z.2 y)]; exact Int32.add_zero _
            · rw [if_neg y, if_pos ⟨bx, y⟩, nI_1]; rfl
          obtain ⟨a1, a2, a3, a4, a5⟩ := E_X12_goesOne_10 K k (x + 1) (mS_fr M g3 (by decide) (by decide)) e1 e2 hd (by rw [hx, nI_1]) (by omega) hf
          exact ⟨a1, a2, a3, frM_tr g3 a4, a5.trans g4⟩
        · skip
          -- leaf 111: F_X12_goesOne_52 n rc10 a0 x2 x3 x4 p32 v38 v42 (1 : Int32) h
          have x8 : (x : Int) < (W 0).toInt := by rw [e0, hx, nI_eI (by omega)] at c2; omega
          have bx : bt x3 x = true := r4.2.mp (r4.1.resolve_left c5)
          obtain ⟨h2, g1, g2, g3, g4, hf⟩ := E_X12_goesOne_52 M rfl rfl rfl (by omega) hx hf
          have e1 : wl (oc h2) a0 = stW W x3 d (x + 1) := by
            rw [g1, stW_s bx, nI_cl (by omega), ← hW]
            cases d with
            | true => rfl
            | false => exact absurd hd c9
          have e2 : oi (oc h2) a0 18 = nI (S0 + ncnt W x3 (x + 1)) := by
            rw [g2, hS, hW, stW_ot (by omega)]
            rw [ncnt_s]
            by_cases y : W (14 + 8 * x) = 1
            · rw [if_pos y, if_neg (fun z => z.2 y)]; exact Int32.add_zero _
            · rw [if_neg y, if_pos ⟨bx, y⟩, nI_1]; rfl
          obtain ⟨a1, a2, a3, a4, a5⟩ := E_X12_goesOne_10 K k (x + 1) (mS_fr M g3 (by decide) (by decide)) e1 e2 hd (by rw [hx, nI_1]) (by omega) hf
          exact ⟨a1, a2, a3, frM_tr g3 a4, a5.trans g4⟩
theorem E_X12_goesOne {W : jWd} {r : Nat} {d : Bool} {S0 : Nat} {n : Nat} {a0 : Nat} {x1 : Int32} {x2 : Int32} {h : jH} {q : Int32 × jH} (M : mS (oc h) a0) (hW : wl (oc h) a0 = W) (K : wOK W) (h1 : x1 = nI r) (hr : (r : Int) < (W 0).toInt) (hd : x2 = dI d) (hS : oi (oc h) a0 18 = nI S0) (hf : F_X12_goesOne n a0 x1 x2 h = some q) : q.1 = (if gv W r d = 0 then 0 else 1) ∧ wl (oc q.2) a0 = stW W (gv W r d) d 8 ∧ oi (oc q.2) a0 18 = nI (S0 + ncnt W (gv W r d) 8) ∧ frM a0 [1] [18] (oc h) (oc q.2) ∧ q.2.1 = h.1 ∧ ∃ v, goB W r d v := by
  unfold F_X12_goesOne at hf
  have K0 := K.1
  replace hf := jbind hf
  obtain ⟨v3, e1, hf⟩ := hf
  replace e1 := (jcv_o e1).2
  have r1 := E_X12_goingBy M hW K h1 hr hd e1
  -- leaf : F_X12_goesOne_10 n n a0 x2 v3 (0 : Int32) h
  have ge := gv_of r1
  obtain ⟨c, hc⟩ : ∃ c : Nat, (W 0).toInt = (c : Int) := ⟨(W 0).toInt.toNat, by omega⟩
  have bz := goB_c r1 (c := c) (by omega)
  obtain ⟨a1, a2, a3, a4, a5⟩ := E_X12_goesOne_10 K n 0 M (by rw [hW, stW_0]) (by rw [hS]; rfl) hd rfl (by omega) hf
  have ec : (W 0).toInt.toNat = c := by omega
  rw [ec] at a2 a3
  rw [ge]
  refine ⟨a1, ?_, ?_, a4, a5, v3, r1⟩
  · rw [a2]; exact (stW_all (fun j u w => bz j u (by omega)) 8 (by omega) (Nat.le_refl _)).symm
  · rw [a3, ncnt_c (fun j u w => bz j u (by omega)) 8 (by omega) (Nat.le_refl _)]
theorem E_X12_pulls_29 {N0 : Int32} {n : Nat} {a0 : Nat} {x4 : Int32} {h : jH} {q : Int32 × jH} (M : mS (oc h) a0) (hf : F_X12_pulls_29 n a0 x4 h = some q) : q.1 = x4 ∧ wl (oc q.2) a0 = upd (wl (oc h) a0) 8 (if wl (oc h) a0 8 + oi (oc h) a0 18 < (9999 : Int32) then wl (oc h) a0 8 + oi (oc h) a0 18 else (9999 : Int32)) ∧ frM a0 [1] [] (oc h) (oc q.2) ∧ q.2.1 = h.1 := by
  unfold F_X12_pulls_29 at hf
  obtain ⟨s1, s2, s3, s4, s5, s8, s15, s17, s19, s20, s21⟩ := id M
  replace hf := jbind hf
  obtain ⟨p30, e1, hf⟩ := hf
  have r1 := oc_gR e1
  rw [s1] at r1
  cases r1
  clear e1
  replace hf := jbind hf
  obtain ⟨p39, e2, hf⟩ := hf
  have r2 := oc_gR e2
  rw [s1] at r2
  cases r2
  clear e2
  replace hf := jbind hf
  obtain ⟨v44, e3, hf⟩ := hf
  obtain ⟨r3, y3⟩ := oc_al e3
  rw [show (8 : Int32).toNatClampNeg = 8 from rfl] at r3
  subst r3
  clear e3
  replace hf := jbind hf
  obtain ⟨v46, e4, hf⟩ := hf
  have r4 := oc_gI e4
  subst r4
  clear e4
  replace hf := jbind hf
  obtain ⟨h53, e5, hf⟩ := hf
  obtain ⟨o5, z5, y5⟩ := oc_as e5
  rw [jnar0] at o5
  rw [show (8 : Int32).toNatClampNeg = 8 from rfl] at o5
  clear e5
  cases hf
  -- leaf : (x4, h53)
  refine ⟨rfl, ?_, ?_, z5⟩
  · rw [o5]; exact wl_w
  · rw [o5]; exact frM_c (by decide)
theorem E_X12_pulls_8 {n : Nat} {W : jWd} {r : Nat} {d : Bool} {N : Nat} (K : wOK W) (hr : (r : Int) < (W 0).toInt) (hN : N < 500) : ∀ (k : Nat) {a0 : Nat} {x1 : Int32} {x2 : Int32} {x3 : Int32} {x4 : Int32} {h : jH} {q : Int32 × jH} (t : Nat) (M : mS (oc h) a0) (hW : wl (oc h) a0 = mvO W r d t) (Kt : wOK (mvO W r d t)) (hS : oi (oc h) a0 18 = nI (mvS W r d t)) (h1 : x1 = nI r) (hd : x2 = dI d) (h3 : x3 = nI N) (h4 : x4 = nI t) (ht : t ≤ N) (hg : ∀ s, s < t → gv (mvO W r d s) r d ≠ 0), F_X12_pulls_8 n k a0 x1 x2 x3 x4 h = some q → ∃ f, f ≤ N ∧ q.1 = nI f ∧ wl (oc q.2) a0 = plW W r d f ∧ frM a0 [1] [18] (oc h) (oc q.2) ∧ q.2.1 = h.1 ∧ (∀ s, s < f → gv (mvO W r d s) r d ≠ 0) ∧ (f = N ∨ gv (mvO W r d f) r d = 0)
  | 0, a0, x1, x2, x3, x4, h, q, t, M, hW, Kt, hS, h1, hd, h3, h4, ht, hg, hf => by cases hf
  | k + 1, a0, x1, x2, x3, x4, h, q, t, M, hW, Kt, hS, h1, hd, h3, h4, ht, hg, hf => by
    replace hf : F_X12_pulls_8_b n (F_X12_pulls_8 n k) a0 x1 x2 x3 x4 h = some q := hf
    unfold F_X12_pulls_8_b at hf
    have K0 := K.1
    have e0 : mvO W r d t 0 = W 0 := mvO_ot (Or.inl (by decide)) t
    have e8 : mvO W r d t 8 = W 8 := mvO_ot (Or.inl (by decide)) t
    have ls := mvS_le (W := W) (r := r) (d := d) t
    have k8 := K.2.2.2.2.2.2.2.2.1
    replace hf := jite hf
    rcases hf with ⟨c1, hf⟩ | ⟨c1, hf⟩
    · skip
      -- leaf 0: F_X12_pulls_29 n a0 x4 h
      rw [h3, h4, Int32.le_iff_toInt_le, nI_toInt (by omega), nI_toInt (by omega)] at c1
      have z9 : t = N := by omega
      subst z9
      obtain ⟨a1, a2, a3, a4⟩ := E_X12_pulls_29 (N0 := 0) M hf
      refine ⟨t, ht, a1.trans h4, ?_, frM_le a3 (fun c h => h) (fun c h => by cases h), a4, hg, Or.inl rfl⟩
      rw [a2, hS, hW, e8]
      exact congrArg (upd _ 8) (nz_one K (by omega))
    · skip
      replace hf := jbind hf
      obtain ⟨q17, e2, hf⟩ := hf
      replace e2 := (jcv_o e2).2
      have r2 := E_X12_goesOne M hW Kt h1 (by rw [e0]; exact hr) hd hS e2
      replace hf := jite hf
      rcases hf with ⟨c3, hf⟩ | ⟨c3, hf⟩
      · skip
        -- leaf 10: F_X12_pulls_29 n a0 x4 q17.2
        obtain ⟨b1, b2, b3, b4, b5, b6⟩ := r2
        have gz : gv (mvO W r d t) r d = 0 := Classical.byContradiction fun z => absurd (c3.symm.trans (b1.trans (if_neg z))) (by decide)
        rw [gz] at b2 b3
        have ez : stW (mvO W r d t) 0 d 8 = mvO W r d t := (stW_all (i := 0) (j := 8) (fun k _ _ => b_0 k) 8 (by omega) (Nat.le_refl _)).trans stW_0
        have en : ncnt (mvO W r d t) 0 8 = 0 := (ncnt_c (c := 0) (fun k _ _ => b_0 k) 8 (by omega) (Nat.le_refl _)).symm
        rw [ez] at b2
        rw [en] at b3
        obtain ⟨a1, a2, a3, a4⟩ := E_X12_pulls_29 (N0 := 0) (mS_fr M b4 (by decide) (by decide)) hf
        refine ⟨t, ht, a1.trans h4, ?_, frM_tr b4 (frM_le a3 (fun c h => h) (fun c h => by cases h)), a4.trans b5, hg, Or.inr gz⟩
        rw [a2, b3, b2, e8]
        exact congrArg (upd _ 8) (nz_one K (by omega))
      · skip
        -- leaf 11: rc8 a0 x1 x2 x3 (x4 + (1 : Int32)) q17.2
        obtain ⟨b1, b2, b3, b4, b5, b6⟩ := r2
        have gn : gv (mvO W r d t) r d ≠ 0 := fun z => c3 (b1.trans (if_pos z))
        rw [h3, h4, Int32.le_iff_toInt_le, nI_toInt (by omega), nI_toInt (by omega)] at c1
        obtain ⟨f, a1, a2, a3, a4, a5, a6, a7⟩ := E_X12_pulls_8 K hr hN k (t + 1) (mS_fr M b4 (by decide) (by decide)) b2 (wOK_sg Kt (by rw [e0]; exact hr) b6) b3 h1 hd h3 (by rw [h4, nI_1]) (by omega) (fun s hs => by
          by_cases q9 : s = t
          · subst q9; exact gn
          · exact hg s (by omega)) hf
        exact ⟨f, a1, a2, a3, frM_tr b4 a4, a5.trans b5, a6, a7⟩
theorem E_X12_pulls {W : jWd} {r : Nat} {d : Bool} {N : Nat} {n : Nat} {a0 : Nat} {x1 : Int32} {x2 : Int32} {x3 : Int32} {h : jH} {q : Int32 × jH} (M : mS (oc h) a0) (hW : wl (oc h) a0 = W) (K : wOK W) (hr : (r : Int) < (W 0).toInt) (hN : N < 500) (h1 : x1 = nI r) (hd : x2 = dI d) (h3 : x3 = nI N) (hf : F_X12_pulls n a0 x1 x2 x3 h = some q) : ∃ f, f ≤ N ∧ q.1 = nI f ∧ wl (oc q.2) a0 = plW W r d f ∧ frM a0 [1] [18] (oc h) (oc q.2) ∧ q.2.1 = h.1 ∧ (∀ s, s < f → gv (mvO W r d s) r d ≠ 0) ∧ (f = N ∨ gv (mvO W r d f) r d = 0) := by
  unfold F_X12_pulls at hf
  replace hf := jbind hf
  obtain ⟨h2, e1, hf⟩ := hf
  obtain ⟨o1, z1⟩ := oc_pf e1
  clear e1
  -- leaf : F_X12_pulls_8 n n a0 x1 x2 x3 (0 : Int32) h2
  have f1 : frM a0 [1] [18] (oc h) (oc h2) := by rw [o1]; exact frM_f (by decide)
  obtain ⟨f, a1, a2, a3, a4, a5, a6, a7⟩ := E_X12_pulls_8 K hr hN n 0 (mS_fr M f1 (by decide) (by decide)) (by rw [o1, wl_n (by omega)]; exact hW) K (by rw [o1, oi_eq]; rfl) h1 hd h3 rfl (Nat.zero_le _) (fun s hs => by omega) hf
  exact ⟨f, a1, a2, a3, frM_tr f1 a4, a5.trans z1, a6, a7⟩
end
section
/-! the log's rows -/
theorem nI_bt {a i : Nat} (hi : i < 32) : bt (nI a) i = a.testBit i := by
  show (BitVec.ofNat 32 a).getLsbD i = a.testBit i
  rw [BitVec.getLsbD_ofNat, decide_eq_true hi, Bool.true_and]
/-- the numbers of a row as one -/
def pkN (d q i k f p : Nat) : Nat := ((((d * 8 + q) * 8 + i) * 4 + k) * 32 + f) * 32 + p
theorem tb_low {a j s : Nat} (h : a < 2 ^ s) (hj : s ≤ j) : a.testBit j = false := Nat.testBit_lt_two_pow (Nat.lt_of_lt_of_le h (Nat.pow_le_pow_right (by decide) hj))
theorem tb_cat {a b s j : Nat} (h : b < 2 ^ s) : (a * 2 ^ s + b).testBit j = if j < s then b.testBit j else a.testBit (j - s) := by
  rw [Nat.mul_comm]
  exact Nat.testBit_two_pow_mul_add a h j
theorem pk_row {d q i k f p : Nat} (hq : q < 8) (hi : i < 8) (hk : k < 4) (hf : f < 32) (hp : p < 32) : (((((nI d <<< ((18 : Int32) &&& 31)) ||| (nI q <<< ((15 : Int32) &&& 31))) ||| (nI i <<< ((12 : Int32) &&& 31))) ||| (nI k <<< ((10 : Int32) &&& 31))) ||| (nI f <<< ((5 : Int32) &&& 31))) ||| (nI p <<< ((0 : Int32) &&& 31)) = nI (pkN d q i k f p) := by
  refine b_ext fun j hj => ?_
  rw [b_or, b_or, b_or, b_or, b_or]
  have s18 : bt (nI d <<< ((18 : Int32) &&& 31)) j = (decide (18 ≤ j) && bt (nI d) (j - 18)) := b_shl 18 (by decide) _ hj
  have s15 : bt (nI q <<< ((15 : Int32) &&& 31)) j = (decide (15 ≤ j) && bt (nI q) (j - 15)) := b_shl 15 (by decide) _ hj
  have s12 : bt (nI i <<< ((12 : Int32) &&& 31)) j = (decide (12 ≤ j) && bt (nI i) (j - 12)) := b_shl 12 (by decide) _ hj
  have s10 : bt (nI k <<< ((10 : Int32) &&& 31)) j = (decide (10 ≤ j) && bt (nI k) (j - 10)) := b_shl 10 (by decide) _ hj
  have s5 : bt (nI f <<< ((5 : Int32) &&& 31)) j = (decide (5 ≤ j) && bt (nI f) (j - 5)) := b_shl 5 (by decide) _ hj
  have s0 : bt (nI p <<< ((0 : Int32) &&& 31)) j = (decide (0 ≤ j) && bt (nI p) (j - 0)) := b_shl 0 (by decide) _ hj
  rw [s18, s15, s12, s10, s5, s0, nI_bt (by omega), nI_bt (by omega), nI_bt (by omega), nI_bt (by omega), nI_bt (by omega), nI_bt (by omega), nI_bt hj]
  unfold pkN
  rw [show (32 : Nat) = 2 ^ 5 from rfl, tb_cat hp, tb_cat hf, show (4 : Nat) = 2 ^ 2 from rfl, tb_cat hk, show (8 : Nat) = 2 ^ 3 from rfl, tb_cat hi, tb_cat hq]
  have z0 : j - 0 = j := rfl
  rw [z0]
  by_cases j5 : j < 5
  · simp [j5, decide_eq_false (show ¬ 18 ≤ j by omega), decide_eq_false (show ¬ 15 ≤ j by omega), decide_eq_false (show ¬ 12 ≤ j by omega), decide_eq_false (show ¬ 10 ≤ j by omega), decide_eq_false (show ¬ 5 ≤ j by omega)]
  have p0 : p.testBit j = false := tb_low (s := 5) hp (by omega)
  by_cases j10 : j < 10
  · simp [j5, p0, show j - 5 < 5 by omega, decide_eq_false (show ¬ 18 ≤ j by omega), decide_eq_false (show ¬ 15 ≤ j by omega), decide_eq_false (show ¬ 12 ≤ j by omega), decide_eq_false (show ¬ 10 ≤ j by omega), decide_eq_true (show 5 ≤ j by omega)]
  have f0 : f.testBit (j - 5) = false := tb_low (s := 5) hf (by omega)
  by_cases j12 : j < 12
  · simp [j5, p0, f0, show ¬ j - 5 < 5 by omega, show j - 5 - 5 < 2 by omega, show j - 5 - 5 = j - 10 by omega, decide_eq_false (show ¬ 18 ≤ j by omega), decide_eq_false (show ¬ 15 ≤ j by omega), decide_eq_false (show ¬ 12 ≤ j by omega), decide_eq_true (show 10 ≤ j by omega)]
    intro z; exfalso; omega
  have k0 : k.testBit (j - 10) = false := tb_low (s := 2) hk (by omega)
  by_cases j15 : j < 15
  · simp [j5, p0, f0, k0, show ¬ j - 5 < 5 by omega, show j - 5 - 5 = j - 10 by omega, show ¬ j - 10 < 2 by omega, show j - 10 - 2 = j - 12 by omega, show j - 12 < 3 by omega, decide_eq_false (show ¬ 18 ≤ j by omega), decide_eq_false (show ¬ 15 ≤ j by omega), decide_eq_true (show 12 ≤ j by omega)]
  have i0 : i.testBit (j - 12) = false := tb_low (s := 3) hi (by omega)
  by_cases j18 : j < 18
  · simp [j5, p0, f0, k0, i0, show ¬ j - 5 < 5 by omega, show j - 5 - 5 = j - 10 by omega, show ¬ j - 10 < 2 by omega, show j - 10 - 2 = j - 12 by omega, show ¬ j - 12 < 3 by omega, show j - 12 - 3 = j - 15 by omega, show j - 15 < 3 by omega, decide_eq_false (show ¬ 18 ≤ j by omega), decide_eq_true (show 15 ≤ j by omega)]
  have q0 : q.testBit (j - 15) = false := tb_low (s := 3) hq (by omega)
  simp [j5, p0, f0, k0, i0, q0, show ¬ j - 5 < 5 by omega, show j - 5 - 5 = j - 10 by omega, show ¬ j - 10 < 2 by omega, show j - 10 - 2 = j - 12 by omega, show ¬ j - 12 < 3 by omega, show j - 12 - 3 = j - 15 by omega, show ¬ j - 15 < 3 by omega, show j - 15 - 3 = j - 18 by omega, decide_eq_true (show 18 ≤ j by omega)]
/-- the world behind a row more -/
def tlW (W : jWd) (r : Nat) (x kind far : Int32) : jWd := fun k => if k = 75 then W 4 else if k = 76 then W 3 else if k = 77 then x else if k = 78 then kind else if k = 79 then far else if k = 80 then W (11 + 8 * r) else if 81 ≤ k ∧ k < 435 then W (k - 6) else if k = 9 then (if W 9 + 1 < (60 : Int32) then W 9 + 1 else 60) else W k
theorem tlW_n {W : jWd} {r : Nat} {x kind far : Int32} {k : Nat} (h : k ≠ 9 ∧ k < 75 ∨ 435 ≤ k) : tlW W r x kind far k = W k := by
  unfold tlW
  rw [if_neg (by omega), if_neg (by omega), if_neg (by omega), if_neg (by omega), if_neg (by omega), if_neg (by omega), if_neg (by omega), if_neg (by omega)]
theorem tlW_s {W : jWd} {r : Nat} {x kind far : Int32} {k : Nat} (h : 81 ≤ k ∧ k < 435) : tlW W r x kind far k = W (k - 6) := by
  unfold tlW
  rw [if_neg (by omega), if_neg (by omega), if_neg (by omega), if_neg (by omega), if_neg (by omega), if_neg (by omega), if_pos h]
theorem mod60 {x y : Int} (h0 : 0 ≤ x) (h1 : x ≤ 59) (h2 : 0 ≤ y) (h3 : y ≤ 59) : (x + 59 - y) % 60 = if y + 1 ≤ x then x - y - 1 else x + 59 - y := by
  split <;> omega
/-- the class's rod behind a row more -/
theorem add_fin {W : jWd} {a1 r kind far : Nat} {h h1 q : jH} {s w : Int32} (R : rodE (oc h) a1 W) (K : wOK W) (hr : (r : Int) < (W 0).toInt) (hk : kind < 4) (hf : far < 32) (hs : s.toInt = ((oi (oc h) (a1 + 5) 2).toInt + 1) % 60)
    (o7 : oc h1 = u2 (oc h) (a1 + 6) (oi (oc h) (a1 + 5) 2).toNatClampNeg (.int w)) (z7 : h1.1 = h.1)
    (hw : w = (((((oi (oc h) a1 14 <<< ((18 : Int32) &&& 31)) ||| (oi (oc h) a1 13 <<< ((15 : Int32) &&& 31))) ||| (nI r <<< ((12 : Int32) &&& 31))) ||| (nI kind <<< ((10 : Int32) &&& 31))) ||| (nI far <<< ((5 : Int32) &&& 31))) ||| (oi (oc h) (a1 + 1) (nI r).toNatClampNeg <<< ((0 : Int32) &&& 31)))
    (e : oc q = u2 (u2 (oc h1) (a1 + 5) 2 (.int s)) (a1 + 5) 1 (.int (if oi (oc h1) (a1 + 5) 1 + (1 : Int32) < (60 : Int32) then oi (oc h1) (a1 + 5) 1 + (1 : Int32) else (60 : Int32))) ∧ q.1 = h1.1) : rodE (oc q) a1 (tlW W r (nI r) (nI kind) (nI far)) ∧ frR a1 (oc h) (oc q) ∧ q.1 = h.1 := by
  obtain ⟨e1, e2⟩ := e
  obtain ⟨⟨s0, s1, s2, s3, s4, s5⟩, ⟨u5, u10, u11, u12, u13, u14, u15, u16, u17⟩, RB, RC, RL⟩ := R
  have K0 := K.1
  have kp := (K.2.1 r hr).1
  have k9 := K.2.2.2.2.2.2.2.2.2.1
  obtain ⟨-, -, -, -, k3, k4, -⟩ := id K
  obtain ⟨L1, L2, L3⟩ := RL
  have l60 : (60 : Int32).toInt = 60 := rfl
  have l1 : (1 : Int32).toInt = 1 := rfl
  rw [o7] at e1
  rw [oi_ne (Or.inl (by omega)), L1] at e1
  have hw2 : w = nI (pkN (W 4).toInt.toNat (W 3).toInt.toNat r kind far (W (11 + 8 * r)).toInt.toNat) := by
    rw [← pk_row (by omega) (by omega) hk hf (by omega), hw, u14, u13, nI_cl (by omega), (RB r hr).1, ← nI_on (x := W 4) (by omega), ← nI_on (x := W 3) (by omega), ← nI_on (x := W (11 + 8 * r)) (by omega)]
  have fr : ∀ b k, b ≠ a1 + 5 → b ≠ a1 + 6 → oc q b k = oc h b k := fun b k h5 h6 => by rw [e1, u2_ne (Or.inl h5), u2_ne (Or.inl h5), u2_ne (Or.inl h6)]
  have fi : ∀ b k, b ≠ a1 + 5 → b ≠ a1 + 6 → oi (oc q) b k = oi (oc h) b k := fun b k h5 h6 => by unfold oi; rw [fr b k h5 h6]
  have t0 : tlW W r (nI r) (nI kind) (nI far) 0 = W 0 := tlW_n (Or.inl (by omega))
  have tn : ∀ k, k ≠ 9 ∧ k < 75 → tlW W r (nI r) (nI kind) (nI far) k = W k := fun k h => tlW_n (Or.inl h)
  have t9 : tlW W r (nI r) (nI kind) (nI far) 9 = (if W 9 + 1 < (60 : Int32) then W 9 + 1 else 60) := rfl
  have i9 : (if W 9 + 1 < (60 : Int32) then W 9 + 1 else 60).toInt = if (W 9).toInt < 59 then (W 9).toInt + 1 else 60 := by
    have j1 := jadd (x := W 9) (y := 1) (by omega) (by omega)
    by_cases z : W 9 + 1 < (60 : Int32)
    · rw [if_pos z, j1]; rw [Int32.lt_iff_toInt_lt, j1] at z; rw [if_pos (by omega), l1]
    · rw [if_neg z]; rw [Int32.lt_iff_toInt_lt, j1] at z; rw [if_neg (by omega)]; rfl
  have cl : (oi (oc h) (a1 + 5) 2).toNatClampNeg = (oi (oc h) (a1 + 5) 2).toInt.toNat := rfl
  refine ⟨⟨⟨?_, ?_, ?_, ?_, ?_, ?_⟩, ⟨?_, ?_, ?_, ?_, ?_, ?_, ?_, ?_, ?_⟩, fun j hj => ?_, fun j hj h32 => ?_, ?_⟩, fun b k hb => fr b k (by omega) (by omega), e2.trans z7⟩
  · rw [fr _ _ (by omega) (by omega)]; exact s0
  · rw [fr _ _ (by omega) (by omega)]; exact s1
  · rw [fr _ _ (by omega) (by omega)]; exact s2
  · rw [fr _ _ (by omega) (by omega)]; exact s3
  · rw [fr _ _ (by omega) (by omega)]; exact s4
  · rw [e1, u2_ne (Or.inr (by decide)), u2_ne (Or.inr (by decide)), u2_ne (Or.inl (by omega))]; exact s5
  · rw [fi _ _ (by omega) (by omega), tn _ (by omega)]; exact u5
  · rw [fi _ _ (by omega) (by omega), tn _ (by omega)]; exact u10
  · rw [fi _ _ (by omega) (by omega), tn _ (by omega)]; exact u11
  · rw [fi _ _ (by omega) (by omega), tn _ (by omega)]; exact u12
  · rw [fi _ _ (by omega) (by omega), tn _ (by omega)]; exact u13
  · rw [fi _ _ (by omega) (by omega), tn _ (by omega)]; exact u14
  · rw [fi _ _ (by omega) (by omega), tn _ (by omega)]; exact u15
  · rw [fi _ _ (by omega) (by omega), tn _ (by omega)]; exact u16
  · rw [fi _ _ (by omega) (by omega), tn _ (by omega)]; exact u17
  · rw [t0] at hj
    have B := RB j hj
    rw [fi _ _ (by omega) (by omega), fi _ _ (by omega) (by omega), fi _ _ (by omega) (by omega), fi _ _ (by omega) (by omega), fi _ _ (by omega) (by omega), fi _ _ (by omega) (by omega), fi _ _ (by omega) (by omega), fi _ _ (by omega) (by omega), tn _ (by omega), tn _ (by omega), tn _ (by omega), tn _ (by omega), tn _ (by omega), tn _ (by omega), tn _ (by omega), tn _ (by omega)]
    exact B
  · rw [t0] at hj
    rw [fi _ _ (by omega) (by omega), fi _ _ (by omega) (by omega)]
    exact RC j hj h32
  · have f2 : oi (oc q) (a1 + 5) 2 = s := by rw [e1, oi_ne (Or.inr (by decide)), oi_eq]
    refine ⟨by rw [e1, oi_eq, t9], by rw [f2]; omega, fun a ha => ?_⟩
    rw [t9, i9] at ha
    rw [f2, hs]
    have f6 : ∀ k, oi (oc q) (a1 + 6) k = if k = (oi (oc h) (a1 + 5) 2).toInt.toNat then w else oi (oc h) (a1 + 6) k := fun k => by
      rw [e1, oi_ne (Or.inl (by omega)), oi_ne (Or.inl (by omega)), cl]
      by_cases z : k = (oi (oc h) (a1 + 5) 2).toInt.toNat
      · rw [if_pos z, z, oi_eq]
      · rw [if_neg z, oi_ne (Or.inr z)]
    show ∃ d q1 i k f p : Nat, d < 16384 ∧ q1 < 8 ∧ i < 8 ∧ k < 4 ∧ f < 32 ∧ p < 32 ∧ oi (oc q) (a1 + 6) _ = _ ∧ _
    rw [f6]
    have a60 : (a : Int) ≤ 59 := by split at ha <;> omega
    by_cases z : a = 0
    · subst z
      rw [if_pos (by omega), hw2]
      refine ⟨(W 4).toInt.toNat, (W 3).toInt.toNat, r, kind, far, (W (11 + 8 * r)).toInt.toNat, by omega, by omega, by omega, hk, hf, by omega, rfl, ?_, ?_, rfl, rfl, rfl, ?_⟩
      · show W 4 = nI (W 4).toInt.toNat; exact nI_on (by omega)
      · show W 3 = nI (W 3).toInt.toNat; exact nI_on (by omega)
      · show W (11 + 8 * r) = nI (W (11 + 8 * r)).toInt.toNat; exact nI_on (by omega)
    · obtain ⟨b, rfl⟩ : ∃ b, a = b + 1 := ⟨a - 1, by omega⟩
      have hb : (b : Int) < (W 9).toInt := by split at ha <;> omega
      obtain ⟨d, q1, i, k, f, p, b1, b2, b3, b4, b5, b6, b7, b8⟩ := L3 b hb
      have en : ((((oi (oc h) (a1 + 5) 2).toInt + 1) % 60 + 59 - ((b + 1 : Nat) : Int)) % 60).toNat = (((oi (oc h) (a1 + 5) 2).toInt + 59 - (b : Int)) % 60).toNat := by omega
      rw [en, if_neg (by omega)]
      refine ⟨d, q1, i, k, f, p, b1, b2, b3, b4, b5, b6, b7, ?_⟩
      rw [tlW_s (by omega), tlW_s (by omega), tlW_s (by omega), tlW_s (by omega), tlW_s (by omega), tlW_s (by omega)]
      exact b8
theorem E_X5_add_90 {a1 : Nat} {n : Nat} {a0 : Nat} {sa0 : Nat} {s1 : Int32} {h : jH} {q : jH} (ha : a0 = a1 + 5) (hs : sa0 = a1 + 5) (hf : F_X5_add_90 n a0 sa0 s1 h = some q) : oc q = u2 (u2 (oc h) (a1 + 5) 2 (.int s1)) (a1 + 5) 1 (.int (if oi (oc h) (a1 + 5) 1 + (1 : Int32) < (60 : Int32) then oi (oc h) (a1 + 5) 1 + (1 : Int32) else (60 : Int32))) ∧ q.1 = h.1 := by
  unfold F_X5_add_90 at hf
  subst ha hs
  replace hf := jbind hf
  obtain ⟨h90, e1, hf⟩ := hf
  obtain ⟨o1, z1⟩ := oc_pf e1
  clear e1
  replace hf := jbind hf
  obtain ⟨v97, e2, hf⟩ := hf
  have r2 := oc_gI e2
  rw [o1] at r2
  rw [oi_ne (Or.inr (by decide))] at r2
  subst r2
  clear e2
  replace hf := jbind hf
  obtain ⟨h105, e3, hf⟩ := hf
  obtain ⟨o3, z3⟩ := oc_pf e3
  clear e3
  cases hf
  -- leaf : h105
  exact ⟨by rw [o3, o1], z3.trans z1⟩
theorem E_X5_add {W : jWd} {r : Nat} {kind : Nat} {far : Nat} {n : Nat} {a0 : Nat} {a1 : Nat} {x2 : Int32} {x3 : Int32} {x4 : Int32} {h : jH} {q : jH} (ha : a0 = a1 + 5) (R : rodE (oc h) a1 W) (K : wOK W) (h2 : x2 = nI r) (hr : (r : Int) < (W 0).toInt) (h3 : x3 = nI kind) (hk : kind < 4) (h4 : x4 = nI far) (hf9 : far < 32) (hf : F_X5_add n a0 a1 x2 x3 x4 h = some q) : rodE (oc q) a1 (tlW W r (nI r) (nI kind) (nI far)) ∧ frR a1 (oc h) (oc q) ∧ q.1 = h.1 := by
  unfold F_X5_add at hf
  subst ha h2 h3 h4
  obtain ⟨⟨s0, s1, s2, s3, s4, s5⟩, ⟨u5, u10, u11, u12, u13, u14, u15, u16, u17⟩, RB, RC, RL⟩ := id R
  have K0 := K.1
  obtain ⟨g0, -⟩ := RB r hr
  have kp := (K.2.1 r hr).1
  obtain ⟨-, -, -, -, k3, k4, -⟩ := id K
  obtain ⟨L1, L2, L3⟩ := id RL
  have l60 : (60 : Int32).toInt = 60 := rfl
  have l1 : (1 : Int32).toInt = 1 := rfl
  have l0 : (0 : Int32).toInt = 0 := rfl
  replace hf := jbind hf
  obtain ⟨p1, e1, hf⟩ := hf
  have r1 := oc_gR e1
  rw [s5] at r1
  cases r1
  clear e1
  replace hf := jbind hf
  obtain ⟨v5, e2, hf⟩ := hf
  have r2 := oc_gI e2
  subst r2
  clear e2
  replace hf := jbind hf
  obtain ⟨v9, e3, hf⟩ := hf
  have r3 := oc_gI e3
  subst r3
  clear e3
  replace hf := jbind hf
  obtain ⟨v19, e4, hf⟩ := hf
  have r4 := oc_gI e4
  subst r4
  clear e4
  replace hf := jbind hf
  obtain ⟨p55, e5, hf⟩ := hf
  have r5 := oc_gR e5
  rw [s0] at r5
  cases r5
  clear e5
  replace hf := jbind hf
  obtain ⟨v59, e6, hf⟩ := hf
  obtain ⟨r6, y6⟩ := oc_al e6
  subst r6
  clear e6
  replace hf := jbind hf
  obtain ⟨h67, e7, hf⟩ := hf
  obtain ⟨o7, z7, y7⟩ := oc_as e7
  rw [jnar0] at o7
  clear e7
  replace hf := jbind hf
  obtain ⟨v70, e8, hf⟩ := hf
  have r8 := oc_gI e8
  rw [o7] at r8
  rw [oi_ne (Or.inl (by omega))] at r8
  subst r8
  clear e8
  replace hf := jite hf
  rcases hf with ⟨c9, hf⟩ | ⟨c9, hf⟩
  · skip
    -- leaf 0: F_X5_add_90 n a0 a0 (0 : Int32) h67
    rw [Int32.le_iff_toInt_le, jadd (by omega) (by omega)] at c9
    exact add_fin R K hr hk hf9 (s := 0) (by omega) o7 z7 rfl (E_X5_add_90 (a1 := a1) rfl rfl hf)
  · skip
    replace hf := jbind hf
    obtain ⟨v81, e10, hf⟩ := hf
    have r10 := oc_gI e10
    rw [o7] at r10
    rw [oi_ne (Or.inl (by omega))] at r10
    subst r10
    clear e10
    -- leaf 1: F_X5_add_90 n a0 a0 (v81 + (1 : Int32)) h67
    rw [Int32.le_iff_toInt_le, jadd (by omega) (by omega)] at c9
    exact add_fin R K hr hk hf9 (s := oi (oc h) (a1 + 5) 2 + 1) (by rw [jadd (by omega) (by omega)]; omega) o7 z7 rfl (E_X5_add_90 (a1 := a1) rfl rfl hf)
end
section
/-! the reference's log -/
/-- rows behind place t have been shifted -/
def shW (W : jWd) (t : Nat) : jWd := fun k => if 75 + t < k ∧ k < 435 then W (k - 6) else W k
theorem shW_s {W : jWd} {t : Nat} (h : 6 ≤ t) (h2 : t < 360) : upd (shW W t) (75 + t) (shW W t (75 + t - 6)) = shW W (t - 1) := by
  funext k
  by_cases q : k = 75 + t
  · subst q
    rw [upd_eq]
    unfold shW
    rw [if_neg (by omega), if_pos (by omega)]
  · rw [upd_ne q]
    unfold shW
    by_cases z : 75 + t < k ∧ k < 435
    · rw [if_pos z, if_pos (by omega)]
    · rw [if_neg z, if_neg (by omega)]
theorem shW_0 {W : jWd} : shW W 359 = W := by
  funext k
  unfold shW
  rw [if_neg (by omega)]
theorem nI_sub6 {t : Nat} (h : 6 ≤ t) : nI t - (6 : Int32) = nI (t - 6) := by
  obtain ⟨b, rfl⟩ : ∃ b, t = b + 6 := ⟨t - 6, by omega⟩
  rw [← nI_add b 6, show b + 6 - 6 = b by omega]
  exact Int32.add_sub_cancel _ _
theorem upd_n {f : jWd} {i k : Nat} {x : Int32} (h : k ≠ i) : upd f i x k = f k := upd_ne h
theorem tl_fin {W : jWd} {r : Nat} {x kind far : Int32} : upd (upd (upd (upd (upd (upd (upd (shW W 5) 75 (W 4)) 76 (W 3)) 77 x) 78 kind) 79 far) 80 (W (11 + 8 * r))) 9 (if W 9 + 1 < (60 : Int32) then W 9 + 1 else 60) = tlW W r x kind far := by
  funext k
  unfold tlW
  by_cases q9 : k = 9
  · subst q9; rw [upd_eq]; rfl
  rw [upd_ne q9]
  by_cases q80 : k = 80
  · subst q80; rw [upd_eq]; rfl
  rw [upd_ne q80]
  by_cases q79 : k = 79
  · subst q79; rw [upd_eq]; rfl
  rw [upd_ne q79]
  by_cases q78 : k = 78
  · subst q78; rw [upd_eq]; rfl
  rw [upd_ne q78]
  by_cases q77 : k = 77
  · subst q77; rw [upd_eq]; rfl
  rw [upd_ne q77]
  by_cases q76 : k = 76
  · subst q76; rw [upd_eq]; rfl
  rw [upd_ne q76]
  by_cases q75 : k = 75
  · subst q75; rw [upd_eq]; rfl
  rw [upd_ne q75, if_neg q75, if_neg q76, if_neg q77, if_neg q78, if_neg q79, if_neg q80, if_neg q9]
  unfold shW
  by_cases z : 81 ≤ k ∧ k < 435
  · rw [if_pos z, if_pos (by omega)]
  · rw [if_neg z, if_neg (by omega)]
theorem E_X12_tells_5 {n : Nat} {W : jWd} {r : Nat} (hr : r < 8) : ∀ (k : Nat) {a0 : Nat} {x1 : Int32} {x2 : Int32} {x3 : Int32} {x4 : Int32} {h : jH} {q : jH} (t : Nat) (M : mS (oc h) a0) (hW : wl (oc h) a0 = shW W t) (h1 : x1 = nI r) (hx : x4 = nI t) (h5 : 5 ≤ t) (ht : t ≤ 359), F_X12_tells_5 n k a0 x1 x2 x3 x4 h = some q → wl (oc q) a0 = tlW W r x1 x2 x3 ∧ frM a0 [1] [] (oc h) (oc q) ∧ q.1 = h.1
  | 0, a0, x1, x2, x3, x4, h, q, t, M, hW, h1, hx, h5, ht, hf => by cases hf
  | k + 1, a0, x1, x2, x3, x4, h, q, t, M, hW, h1, hx, h5, ht, hf => by
    replace hf : F_X12_tells_5_b n (F_X12_tells_5 n k) a0 x1 x2 x3 x4 h = some q := hf
    unfold F_X12_tells_5_b at hf
    obtain ⟨s1, s2, s3, s4, s5, s8, s15, s17, s19, s20, s21⟩ := id M
    have l6 : (6 : Int32).toInt = 6 := rfl
    replace hf := jite hf
    rcases hf with ⟨c1, hf⟩ | ⟨c1, hf⟩
    · skip
      replace hf := jbind hf
      obtain ⟨p42, e2, hf⟩ := hf
      have r2 := oc_gR e2
      rw [s1] at r2
      cases r2
      clear e2
      replace hf := jbind hf
      obtain ⟨p48, e3, hf⟩ := hf
      have r3 := oc_gR e3
      rw [s1] at r3
      cases r3
      clear e3
      replace hf := jbind hf
      obtain ⟨v52, e4, hf⟩ := hf
      obtain ⟨r4, y4⟩ := oc_al e4
      rw [show (4 : Int32).toNatClampNeg = 4 from rfl] at r4
      subst r4
      clear e4
      replace hf := jbind hf
      obtain ⟨h53, e5, hf⟩ := hf
      obtain ⟨o5, z5, y5⟩ := oc_as e5
      rw [jnar0] at o5
      rw [show (75 : Int32).toNatClampNeg = 75 from rfl] at o5
      clear e5
      replace hf := jbind hf
      obtain ⟨p55, e6, hf⟩ := hf
      have r6 := oc_gR e6
      rw [o5] at r6
      rw [u2_ne (Or.inl (by omega))] at r6
      rw [s1] at r6
      cases r6
      clear e6
      replace hf := jbind hf
      obtain ⟨p61, e7, hf⟩ := hf
      have r7 := oc_gR e7
      rw [o5] at r7
      rw [u2_ne (Or.inl (by omega))] at r7
      rw [s1] at r7
      cases r7
      clear e7
      replace hf := jbind hf
      obtain ⟨v65, e8, hf⟩ := hf
      obtain ⟨r8, y8⟩ := oc_al e8
      rw [show (3 : Int32).toNatClampNeg = 3 from rfl] at r8
      rw [o5] at r8
      rw [oi_ne (Or.inr (by decide))] at r8
      subst r8
      clear e8
      replace hf := jbind hf
      obtain ⟨h66, e9, hf⟩ := hf
      obtain ⟨o9, z9, y9⟩ := oc_as e9
      rw [jnar0] at o9
      rw [show (76 : Int32).toNatClampNeg = 76 from rfl] at o9
      clear e9
      replace hf := jbind hf
      obtain ⟨p68, e10, hf⟩ := hf
      have r10 := oc_gR e10
      rw [o9] at r10
      rw [u2_ne (Or.inl (by omega))] at r10
      rw [o5] at r10
      rw [u2_ne (Or.inl (by omega))] at r10
      rw [s1] at r10
      cases r10
      clear e10
      replace hf := jbind hf
      obtain ⟨h74, e11, hf⟩ := hf
      obtain ⟨o11, z11, y11⟩ := oc_as e11
      rw [jnar0] at o11
      rw [show (77 : Int32).toNatClampNeg = 77 from rfl] at o11
      clear e11
      replace hf := jbind hf
      obtain ⟨p76, e12, hf⟩ := hf
      have r12 := oc_gR e12
      rw [o11] at r12
      rw [u2_ne (Or.inl (by omega))] at r12
      rw [o9] at r12
      rw [u2_ne (Or.inl (by omega))] at r12
      rw [o5] at r12
      rw [u2_ne (Or.inl (by omega))] at r12
      rw [s1] at r12
      cases r12
      clear e12
      replace hf := jbind hf
      obtain ⟨h82, e13, hf⟩ := hf
      obtain ⟨o13, z13, y13⟩ := oc_as e13
      rw [jnar0] at o13
      rw [show (78 : Int32).toNatClampNeg = 78 from rfl] at o13
      clear e13
      replace hf := jbind hf
      obtain ⟨p84, e14, hf⟩ := hf
      have r14 := oc_gR e14
      rw [o13] at r14
      rw [u2_ne (Or.inl (by omega))] at r14
      rw [o11] at r14
      rw [u2_ne (Or.inl (by omega))] at r14
      rw [o9] at r14
      rw [u2_ne (Or.inl (by omega))] at r14
      rw [o5] at r14
      rw [u2_ne (Or.inl (by omega))] at r14
      rw [s1] at r14
      cases r14
      clear e14
      replace hf := jbind hf
      obtain ⟨h90, e15, hf⟩ := hf
      obtain ⟨o15, z15, y15⟩ := oc_as e15
      rw [jnar0] at o15
      rw [show (79 : Int32).toNatClampNeg = 79 from rfl] at o15
      clear e15
      replace hf := jbind hf
      obtain ⟨p92, e16, hf⟩ := hf
      have r16 := oc_gR e16
      rw [o15] at r16
      rw [u2_ne (Or.inl (by omega))] at r16
      rw [o13] at r16
      rw [u2_ne (Or.inl (by omega))] at r16
      rw [o11] at r16
      rw [u2_ne (Or.inl (by omega))] at r16
      rw [o9] at r16
      rw [u2_ne (Or.inl (by omega))] at r16
      rw [o5] at r16
      rw [u2_ne (Or.inl (by omega))] at r16
      rw [s1] at r16
      cases r16
      clear e16
      replace hf := jbind hf
      obtain ⟨v100, e17, hf⟩ := hf
      replace e17 := (jcv_o e17).2
      have f8 : frM a0 [1] [] (oc h) (oc h90) := by
        rw [o15, o13, o11, o9, o5]
        exact frM_tr (frM_tr (frM_tr (frM_tr (frM_c (by decide)) (frM_c (by decide))) (frM_c (by decide))) (frM_c (by decide))) (frM_c (by decide))
      have M8 : mS (oc h90) a0 := mS_fr M f8 (by decide) (by decide)
      have w8 : wl (oc h90) a0 = upd (upd (upd (upd (upd (wl (oc h) a0) 75 (wl (oc h) a0 4)) 76 (wl (oc h) a0 3)) 77 x1) 78 x2) 79 x3 := by
        rw [o15, wl_w, o13, wl_w, o11, wl_w, o9, wl_w, o5, wl_w]
      have r17 := E_X12_of M8 (j := 0) (t := 11 + 8 * r) h1 rfl (by omega) (by omega) e17
      rw [w8, upd_n (by omega), upd_n (by omega), upd_n (by omega), upd_n (by omega), upd_n (by omega)] at r17
      subst r17
      replace hf := jbind hf
      obtain ⟨h103, e18, hf⟩ := hf
      obtain ⟨o18, z18, y18⟩ := oc_as e18
      rw [jnar0] at o18
      rw [show (80 : Int32).toNatClampNeg = 80 from rfl] at o18
      clear e18
      replace hf := jbind hf
      obtain ⟨p105, e19, hf⟩ := hf
      have r19 := oc_gR e19
      rw [o18] at r19
      rw [u2_ne (Or.inl (by omega))] at r19
      rw [o15] at r19
      rw [u2_ne (Or.inl (by omega))] at r19
      rw [o13] at r19
      rw [u2_ne (Or.inl (by omega))] at r19
      rw [o11] at r19
      rw [u2_ne (Or.inl (by omega))] at r19
      rw [o9] at r19
      rw [u2_ne (Or.inl (by omega))] at r19
      rw [o5] at r19
      rw [u2_ne (Or.inl (by omega))] at r19
      rw [s1] at r19
      cases r19
      clear e19
      replace hf := jbind hf
      obtain ⟨p113, e20, hf⟩ := hf
      have r20 := oc_gR e20
      rw [o18] at r20
      rw [u2_ne (Or.inl (by omega))] at r20
      rw [o15] at r20
      rw [u2_ne (Or.inl (by omega))] at r20
      rw [o13] at r20
      rw [u2_ne (Or.inl (by omega))] at r20
      rw [o11] at r20
      rw [u2_ne (Or.inl (by omega))] at r20
      rw [o9] at r20
      rw [u2_ne (Or.inl (by omega))] at r20
      rw [o5] at r20
      rw [u2_ne (Or.inl (by omega))] at r20
      rw [s1] at r20
      cases r20
      clear e20
      replace hf := jbind hf
      obtain ⟨v118, e21, hf⟩ := hf
      obtain ⟨r21, y21⟩ := oc_al e21
      rw [show (9 : Int32).toNatClampNeg = 9 from rfl] at r21
      rw [o18] at r21
      rw [oi_ne (Or.inr (by decide))] at r21
      rw [o15] at r21
      rw [oi_ne (Or.inr (by decide))] at r21
      rw [o13] at r21
      rw [oi_ne (Or.inr (by decide))] at r21
      rw [o11] at r21
      rw [oi_ne (Or.inr (by decide))] at r21
      rw [o9] at r21
      rw [oi_ne (Or.inr (by decide))] at r21
      rw [o5] at r21
      rw [oi_ne (Or.inr (by decide))] at r21
      subst r21
      clear e21
      replace hf := jbind hf
      obtain ⟨h124, e22, hf⟩ := hf
      obtain ⟨o22, z22, y22⟩ := oc_as e22
      rw [jnar0] at o22
      rw [show (9 : Int32).toNatClampNeg = 9 from rfl] at o22
      clear e22
      cases hf
      -- leaf 0: h124
      have t5 : t = 5 := by rw [hx, Int32.lt_iff_toInt_lt, nI_toInt (by omega)] at c1; omega
      subst t5
      have e3 : wl (oc h) a0 3 = W 3 := by rw [hW]; exact if_neg (by omega)
      have e4 : wl (oc h) a0 4 = W 4 := by rw [hW]; exact if_neg (by omega)
      have e9 : wl (oc h) a0 9 = W 9 := by rw [hW]; exact if_neg (by omega)
      have er : wl (oc h) a0 (11 + 8 * r) = W (11 + 8 * r) := by rw [hW]; exact if_neg (by omega)
      refine ⟨?_, ?_, ?_⟩
      · rw [o22, wl_w, o18, wl_w, w8, er, e3, e4, hW, ← tl_fin (r := r), ← e9]
      · rw [o22, o18]; exact frM_tr (frM_tr f8 (frM_c (by decide))) (frM_c (by decide))
      · exact z22.trans (z18.trans (z15.trans (z13.trans (z11.trans (z9.trans z5)))))
    · skip
      replace hf := jbind hf
      obtain ⟨p13, e23, hf⟩ := hf
      have r23 := oc_gR e23
      rw [s1] at r23
      cases r23
      clear e23
      replace hf := jbind hf
      obtain ⟨p22, e24, hf⟩ := hf
      have r24 := oc_gR e24
      rw [s1] at r24
      cases r24
      clear e24
      replace hf := jbind hf
      obtain ⟨v33, e25, hf⟩ := hf
      obtain ⟨r25, y25⟩ := oc_al e25
      subst r25
      clear e25
      replace hf := jbind hf
      obtain ⟨h34, e26, hf⟩ := hf
      obtain ⟨o26, z26, y26⟩ := oc_as e26
      rw [jnar0] at o26
      clear e26
      -- leaf 1: rc5 a0 x1 x2 x3 (x4 + (- 1 : Int32)) h34
      rw [hx, Int32.lt_iff_toInt_lt, nI_toInt (by omega)] at c1
      have i1 : (75 : Int32) + x4 = nI (75 + t) := by rw [hx]; exact nI_add 75 t
      have i2 : ((75 : Int32) + x4) - (6 : Int32) = nI (75 + t - 6) := by rw [i1]; exact nI_sub6 (by omega)
      rw [i1, nI_sub6 (by omega), nI_cl (by omega), nI_cl (by omega)] at o26
      have f2 : frM a0 [1] [] (oc h) (oc h34) := by rw [o26]; exact frM_c (by decide)
      have w2 : wl (oc h34) a0 = shW W (t - 1) := by
        rw [o26, wl_w, ← shW_s (by omega) (by omega), ← hW]
      obtain ⟨a1, a2, a3⟩ := E_X12_tells_5 hr k (t - 1) (mS_fr M f2 (by decide) (by decide)) w2 h1 (by rw [hx]; obtain ⟨b, rfl⟩ : ∃ b, t = b + 1 := ⟨t - 1, by omega⟩; rw [nI_succ, Int32.add_assoc]; exact Int32.add_zero _) (by omega) (by omega) hf
      exact ⟨a1, frM_tr f2 a2, a3.trans z26⟩
theorem E_X12_tells {W : jWd} {r : Nat} {n : Nat} {a0 : Nat} {x1 : Int32} {x2 : Int32} {x3 : Int32} {h : jH} {q : jH} (M : mS (oc h) a0) (hW : wl (oc h) a0 = W) (hr : r < 8) (h1 : x1 = nI r) (hf : F_X12_tells n a0 x1 x2 x3 h = some q) : wl (oc q) a0 = tlW W r x1 x2 x3 ∧ frM a0 [1] [] (oc h) (oc q) ∧ q.1 = h.1 := by
  unfold F_X12_tells at hf
  -- leaf : F_X12_tells_5 n n a0 x1 x2 x3 (359 : Int32) h
  exact E_X12_tells_5 hr n 359 M (by rw [shW_0]; exact hW) h1 rfl (by omega) (by omega) hf
end
section
/-! copies of rods -/
theorem ucp_ne {O : jO} {a0 s a d n b j : Nat} (h : b ≠ a) : ucp O a0 s a d n b j = O b j := if_neg (fun q => h q.1)
theorem ucp_oi {O : jO} {a0 s a d n b j : Nat} (h : b ≠ a) : oi (ucp O a0 s a d n) b j = oi O b j := by
  unfold oi
  rw [ucp_ne h]
theorem ucp_in {O : jO} {a0 a n j : Nat} (h : j < n) : oi (ucp O a0 0 a 0 n) a j = oi O a0 j := by
  unfold oi ucp
  rw [if_pos ⟨rfl, Nat.zero_le _, by omega⟩]
  rw [show 0 + (j - 0) = j by omega]
theorem logE_cp {O O2 : jO} {l m : Nat} {W : jWd} (L : logE O l W) (K : wOK W) (h1 : ∀ k, k = 1 ∨ k = 2 → oi O2 m k = oi O l k) (h2 : ∀ k, k < 60 → oi O2 (m + 1) k = oi O (l + 1) k) : logE O2 m W := by
  obtain ⟨a, b, c⟩ := L
  unfold logE
  rw [h1 1 (Or.inl rfl), h1 2 (Or.inr rfl)]
  refine ⟨a, b, fun k hk => ?_⟩
  rw [h2 _ (by omega)]
  exact c k hk
theorem E_X5_copyFrom {d : Nat} {r : Nat} {n : Nat} {a0 : Nat} {a1 : Nat} {h : jH} {q : jH} (h0 : a0 = d + 5) (h1 : a1 = r + 5) (hd : d + 6 < r ∨ r + 6 < d) (sd : oc h (d + 5) 0 = .ref (d + 6)) (sr : oc h (r + 5) 0 = .ref (r + 6)) (hf : F_X5_copyFrom n a0 a1 h = some q) : oc q = u2 (u2 (ucp (oc h) (r + 6) 0 (d + 6) 0 60) (d + 5) 1 (.int (oi (oc h) (r + 5) 1))) (d + 5) 2 (.int (oi (oc h) (r + 5) 2)) ∧ q.1 = h.1 := by
  unfold F_X5_copyFrom at hf
  subst h0 h1
  replace hf := jbind hf
  obtain ⟨p1, e1, hf⟩ := hf
  have r1 := oc_gR e1
  rw [sr] at r1
  cases r1
  clear e1
  replace hf := jbind hf
  obtain ⟨p6, e2, hf⟩ := hf
  have r2 := oc_gR e2
  rw [sd] at r2
  cases r2
  clear e2
  replace hf := jbind hf
  obtain ⟨h12, e3, hf⟩ := hf
  obtain ⟨o3, z3⟩ := oc_cp e3
  clear e3
  rw [show (0 : Int32).toNatClampNeg = 0 from rfl, show (60 : Int32).toNatClampNeg = 60 from rfl] at o3
  replace hf := jbind hf
  obtain ⟨v17, e4, hf⟩ := hf
  have r4 := oc_gI e4
  rw [o3] at r4
  rw [ucp_oi (by omega)] at r4
  subst r4
  clear e4
  replace hf := jbind hf
  obtain ⟨h20, e5, hf⟩ := hf
  obtain ⟨o5, z5⟩ := oc_pf e5
  clear e5
  replace hf := jbind hf
  obtain ⟨v25, e6, hf⟩ := hf
  have r6 := oc_gI e6
  rw [o5] at r6
  rw [oi_ne (Or.inl (by omega))] at r6
  rw [o3] at r6
  rw [ucp_oi (by omega)] at r6
  subst r6
  clear e6
  replace hf := jbind hf
  obtain ⟨h28, e7, hf⟩ := hf
  obtain ⟨o7, z7⟩ := oc_pf e7
  clear e7
  cases hf
  -- leaf : h28
  exact ⟨by rw [o7, o5, o3], z7.trans (z5.trans z3)⟩
theorem E_X8_hangAs {d : Nat} {r : Nat} {n : Nat} {a0 : Nat} {a1 : Nat} {h : jH} {q : jH} (h0 : d = a0) (h1 : r = a1) (hd : d + 6 < r ∨ r + 6 < d) (sd : oc h d 0 = .ref (d + 1)) (sr : oc h r 0 = .ref (r + 1)) (hf : F_X8_hangAs n a0 a1 h = some q) : oc q = u2 (u2 (ucp (oc h) (r + 1) 0 (d + 1) 0 8) d 15 (.int (oi (oc h) r 15))) d 9 (.int (oi (oc h) r 9)) ∧ q.1 = h.1 := by
  unfold F_X8_hangAs at hf
  subst h0 h1
  replace hf := jbind hf
  obtain ⟨p1, e1, hf⟩ := hf
  have r1 := oc_gR e1
  rw [sr] at r1
  cases r1
  clear e1
  replace hf := jbind hf
  obtain ⟨p6, e2, hf⟩ := hf
  have r2 := oc_gR e2
  rw [sd] at r2
  cases r2
  clear e2
  replace hf := jbind hf
  obtain ⟨h12, e3, hf⟩ := hf
  obtain ⟨o3, z3⟩ := oc_cp e3
  clear e3
  rw [show (0 : Int32).toNatClampNeg = 0 from rfl, show (8 : Int32).toNatClampNeg = 8 from rfl] at o3
  replace hf := jbind hf
  obtain ⟨v17, e4, hf⟩ := hf
  have r4 := oc_gI e4
  rw [o3] at r4
  rw [ucp_oi (by omega)] at r4
  subst r4
  clear e4
  replace hf := jbind hf
  obtain ⟨h20, e5, hf⟩ := hf
  obtain ⟨o5, z5⟩ := oc_pf e5
  clear e5
  replace hf := jbind hf
  obtain ⟨v25, e6, hf⟩ := hf
  have r6 := oc_gI e6
  rw [o5] at r6
  rw [oi_ne (Or.inl (by omega))] at r6
  rw [o3] at r6
  rw [ucp_oi (by omega)] at r6
  subst r6
  clear e6
  replace hf := jbind hf
  obtain ⟨h28, e7, hf⟩ := hf
  obtain ⟨o7, z7⟩ := oc_pf e7
  clear e7
  cases hf
  -- leaf : h28
  exact ⟨by rw [o7, o5, o3], z7.trans (z5.trans z3)⟩
theorem E_X8_copyFrom {d : Nat} {r : Nat} {W : jWd} {n : Nat} {a0 : Nat} {a1 : Nat} {h : jH} {q : jH} (h0 : d = a0) (h1 : r = a1) (hd : d + 6 < r ∨ r + 6 < d) (sd : rodS (oc h) d) (R : rodE (oc h) r W) (K : wOK W) (hf : F_X8_copyFrom n a0 a1 h = some q) : rodE (oc q) d W ∧ frR d (oc h) (oc q) ∧ q.1 = h.1 := by
  unfold F_X8_copyFrom at hf
  subst h0 h1
  have sr := R.1
  have sd0 := sd.1
  have sd1 := sd.2.1
  have sd2 := sd.2.2.1
  have sd3 := sd.2.2.2.1
  have sd4 := sd.2.2.2.2.1
  have sr0 := sr.1
  have sr1 := sr.2.1
  have sr2 := sr.2.2.1
  have sr3 := sr.2.2.2.1
  have sr4 := sr.2.2.2.2.1
  replace hf := jbind hf
  obtain ⟨p1, e1, hf⟩ := hf
  have r1 := oc_gR e1
  rw [sr1] at r1
  cases r1
  clear e1
  replace hf := jbind hf
  obtain ⟨p6, e2, hf⟩ := hf
  have r2 := oc_gR e2
  rw [sd1] at r2
  cases r2
  clear e2
  replace hf := jbind hf
  obtain ⟨h12, e3, hf⟩ := hf
  obtain ⟨o3, z3⟩ := oc_cp e3
  clear e3
  rw [show (0 : Int32).toNatClampNeg = 0 from rfl, show (8 : Int32).toNatClampNeg = 8 from rfl] at o3
  replace hf := jbind hf
  obtain ⟨p16, e4, hf⟩ := hf
  have r4 := oc_gR e4
  rw [o3] at r4
  rw [ucp_ne (by omega)] at r4
  rw [sr2] at r4
  cases r4
  clear e4
  replace hf := jbind hf
  obtain ⟨p21, e5, hf⟩ := hf
  have r5 := oc_gR e5
  rw [o3] at r5
  rw [ucp_ne (by omega)] at r5
  rw [sd2] at r5
  cases r5
  clear e5
  replace hf := jbind hf
  obtain ⟨h27, e6, hf⟩ := hf
  obtain ⟨o6, z6⟩ := oc_cp e6
  clear e6
  rw [show (0 : Int32).toNatClampNeg = 0 from rfl, show (8 : Int32).toNatClampNeg = 8 from rfl] at o6
  replace hf := jbind hf
  obtain ⟨p31, e7, hf⟩ := hf
  have r7 := oc_gR e7
  rw [o6] at r7
  rw [ucp_ne (by omega)] at r7
  rw [o3] at r7
  rw [ucp_ne (by omega)] at r7
  rw [sr3] at r7
  cases r7
  clear e7
  replace hf := jbind hf
  obtain ⟨p36, e8, hf⟩ := hf
  have r8 := oc_gR e8
  rw [o6] at r8
  rw [ucp_ne (by omega)] at r8
  rw [o3] at r8
  rw [ucp_ne (by omega)] at r8
  rw [sd3] at r8
  cases r8
  clear e8
  replace hf := jbind hf
  obtain ⟨h42, e9, hf⟩ := hf
  obtain ⟨o9, z9⟩ := oc_cp e9
  clear e9
  rw [show (0 : Int32).toNatClampNeg = 0 from rfl, show (8 : Int32).toNatClampNeg = 8 from rfl] at o9
  replace hf := jbind hf
  obtain ⟨p46, e10, hf⟩ := hf
  have r10 := oc_gR e10
  rw [o9] at r10
  rw [ucp_ne (by omega)] at r10
  rw [o6] at r10
  rw [ucp_ne (by omega)] at r10
  rw [o3] at r10
  rw [ucp_ne (by omega)] at r10
  rw [sd4] at r10
  cases r10
  clear e10
  replace hf := jbind hf
  obtain ⟨p50, e11, hf⟩ := hf
  have r11 := oc_gR e11
  rw [o9] at r11
  rw [ucp_ne (by omega)] at r11
  rw [o6] at r11
  rw [ucp_ne (by omega)] at r11
  rw [o3] at r11
  rw [ucp_ne (by omega)] at r11
  rw [sr4] at r11
  cases r11
  clear e11
  replace hf := jbind hf
  obtain ⟨h53, e12, hf⟩ := hf
  replace e12 := (jcv_o e12).2
  have sd9 : oc h42 (d + 5) 0 = .ref (d + 6) := by rw [o9, ucp_ne (by omega), o6, ucp_ne (by omega), o3, ucp_ne (by omega)]; exact sd.2.2.2.2.2
  have sr9 : oc h42 (r + 5) 0 = .ref (r + 6) := by rw [o9, ucp_ne (by omega), o6, ucp_ne (by omega), o3, ucp_ne (by omega)]; exact sr.2.2.2.2.2
  obtain ⟨o12, z12⟩ := E_X5_copyFrom (d := d) (r := r) rfl rfl hd sd9 sr9 e12
  replace hf := jbind hf
  obtain ⟨v58, e13, hf⟩ := hf
  have r13 := oc_gI e13
  rw [o12] at r13
  rw [oi_ne (Or.inl (by omega))] at r13
  rw [oi_ne (Or.inl (by omega))] at r13
  rw [ucp_oi (by omega)] at r13
  rw [o9] at r13
  rw [ucp_oi (by omega)] at r13
  rw [o6] at r13
  rw [ucp_oi (by omega)] at r13
  rw [o3] at r13
  rw [ucp_oi (by omega)] at r13
  subst r13
  clear e13
  replace hf := jbind hf
  obtain ⟨h61, e14, hf⟩ := hf
  obtain ⟨o14, z14⟩ := oc_pf e14
  clear e14
  replace hf := jbind hf
  obtain ⟨v66, e15, hf⟩ := hf
  have r15 := oc_gI e15
  rw [o14] at r15
  rw [oi_ne (Or.inl (by omega))] at r15
  rw [o12] at r15
  rw [oi_ne (Or.inl (by omega))] at r15
  rw [oi_ne (Or.inl (by omega))] at r15
  rw [ucp_oi (by omega)] at r15
  rw [o9] at r15
  rw [ucp_oi (by omega)] at r15
  rw [o6] at r15
  rw [ucp_oi (by omega)] at r15
  rw [o3] at r15
  rw [ucp_oi (by omega)] at r15
  subst r15
  clear e15
  replace hf := jbind hf
  obtain ⟨h69, e16, hf⟩ := hf
  obtain ⟨o16, z16⟩ := oc_pf e16
  clear e16
  replace hf := jbind hf
  obtain ⟨v74, e17, hf⟩ := hf
  have r17 := oc_gI e17
  rw [o16] at r17
  rw [oi_ne (Or.inl (by omega))] at r17
  rw [o14] at r17
  rw [oi_ne (Or.inl (by omega))] at r17
  rw [o12] at r17
  rw [oi_ne (Or.inl (by omega))] at r17
  rw [oi_ne (Or.inl (by omega))] at r17
  rw [ucp_oi (by omega)] at r17
  rw [o9] at r17
  rw [ucp_oi (by omega)] at r17
  rw [o6] at r17
  rw [ucp_oi (by omega)] at r17
  rw [o3] at r17
  rw [ucp_oi (by omega)] at r17
  subst r17
  clear e17
  replace hf := jbind hf
  obtain ⟨h77, e18, hf⟩ := hf
  obtain ⟨o18, z18⟩ := oc_pf e18
  clear e18
  replace hf := jbind hf
  obtain ⟨v82, e19, hf⟩ := hf
  have r19 := oc_gI e19
  rw [o18] at r19
  rw [oi_ne (Or.inl (by omega))] at r19
  rw [o16] at r19
  rw [oi_ne (Or.inl (by omega))] at r19
  rw [o14] at r19
  rw [oi_ne (Or.inl (by omega))] at r19
  rw [o12] at r19
  rw [oi_ne (Or.inl (by omega))] at r19
  rw [oi_ne (Or.inl (by omega))] at r19
  rw [ucp_oi (by omega)] at r19
  rw [o9] at r19
  rw [ucp_oi (by omega)] at r19
  rw [o6] at r19
  rw [ucp_oi (by omega)] at r19
  rw [o3] at r19
  rw [ucp_oi (by omega)] at r19
  subst r19
  clear e19
  replace hf := jbind hf
  obtain ⟨h85, e20, hf⟩ := hf
  obtain ⟨o20, z20⟩ := oc_pf e20
  clear e20
  replace hf := jbind hf
  obtain ⟨v90, e21, hf⟩ := hf
  have r21 := oc_gI e21
  rw [o20] at r21
  rw [oi_ne (Or.inl (by omega))] at r21
  rw [o18] at r21
  rw [oi_ne (Or.inl (by omega))] at r21
  rw [o16] at r21
  rw [oi_ne (Or.inl (by omega))] at r21
  rw [o14] at r21
  rw [oi_ne (Or.inl (by omega))] at r21
  rw [o12] at r21
  rw [oi_ne (Or.inl (by omega))] at r21
  rw [oi_ne (Or.inl (by omega))] at r21
  rw [ucp_oi (by omega)] at r21
  rw [o9] at r21
  rw [ucp_oi (by omega)] at r21
  rw [o6] at r21
  rw [ucp_oi (by omega)] at r21
  rw [o3] at r21
  rw [ucp_oi (by omega)] at r21
  subst r21
  clear e21
  replace hf := jbind hf
  obtain ⟨h93, e22, hf⟩ := hf
  obtain ⟨o22, z22⟩ := oc_pf e22
  clear e22
  replace hf := jbind hf
  obtain ⟨v98, e23, hf⟩ := hf
  have r23 := oc_gI e23
  rw [o22] at r23
  rw [oi_ne (Or.inl (by omega))] at r23
  rw [o20] at r23
  rw [oi_ne (Or.inl (by omega))] at r23
  rw [o18] at r23
  rw [oi_ne (Or.inl (by omega))] at r23
  rw [o16] at r23
  rw [oi_ne (Or.inl (by omega))] at r23
  rw [o14] at r23
  rw [oi_ne (Or.inl (by omega))] at r23
  rw [o12] at r23
  rw [oi_ne (Or.inl (by omega))] at r23
  rw [oi_ne (Or.inl (by omega))] at r23
  rw [ucp_oi (by omega)] at r23
  rw [o9] at r23
  rw [ucp_oi (by omega)] at r23
  rw [o6] at r23
  rw [ucp_oi (by omega)] at r23
  rw [o3] at r23
  rw [ucp_oi (by omega)] at r23
  subst r23
  clear e23
  replace hf := jbind hf
  obtain ⟨h101, e24, hf⟩ := hf
  obtain ⟨o24, z24⟩ := oc_pf e24
  clear e24
  replace hf := jbind hf
  obtain ⟨v106, e25, hf⟩ := hf
  have r25 := oc_gI e25
  rw [o24] at r25
  rw [oi_ne (Or.inl (by omega))] at r25
  rw [o22] at r25
  rw [oi_ne (Or.inl (by omega))] at r25
  rw [o20] at r25
  rw [oi_ne (Or.inl (by omega))] at r25
  rw [o18] at r25
  rw [oi_ne (Or.inl (by omega))] at r25
  rw [o16] at r25
  rw [oi_ne (Or.inl (by omega))] at r25
  rw [o14] at r25
  rw [oi_ne (Or.inl (by omega))] at r25
  rw [o12] at r25
  rw [oi_ne (Or.inl (by omega))] at r25
  rw [oi_ne (Or.inl (by omega))] at r25
  rw [ucp_oi (by omega)] at r25
  rw [o9] at r25
  rw [ucp_oi (by omega)] at r25
  rw [o6] at r25
  rw [ucp_oi (by omega)] at r25
  rw [o3] at r25
  rw [ucp_oi (by omega)] at r25
  subst r25
  clear e25
  replace hf := jbind hf
  obtain ⟨h109, e26, hf⟩ := hf
  obtain ⟨o26, z26⟩ := oc_pf e26
  clear e26
  replace hf := jbind hf
  obtain ⟨v114, e27, hf⟩ := hf
  have r27 := oc_gI e27
  rw [o26] at r27
  rw [oi_ne (Or.inl (by omega))] at r27
  rw [o24] at r27
  rw [oi_ne (Or.inl (by omega))] at r27
  rw [o22] at r27
  rw [oi_ne (Or.inl (by omega))] at r27
  rw [o20] at r27
  rw [oi_ne (Or.inl (by omega))] at r27
  rw [o18] at r27
  rw [oi_ne (Or.inl (by omega))] at r27
  rw [o16] at r27
  rw [oi_ne (Or.inl (by omega))] at r27
  rw [o14] at r27
  rw [oi_ne (Or.inl (by omega))] at r27
  rw [o12] at r27
  rw [oi_ne (Or.inl (by omega))] at r27
  rw [oi_ne (Or.inl (by omega))] at r27
  rw [ucp_oi (by omega)] at r27
  rw [o9] at r27
  rw [ucp_oi (by omega)] at r27
  rw [o6] at r27
  rw [ucp_oi (by omega)] at r27
  rw [o3] at r27
  rw [ucp_oi (by omega)] at r27
  subst r27
  clear e27
  replace hf := jbind hf
  obtain ⟨h117, e28, hf⟩ := hf
  obtain ⟨o28, z28⟩ := oc_pf e28
  clear e28
  replace hf := jbind hf
  obtain ⟨v122, e29, hf⟩ := hf
  have r29 := oc_gI e29
  rw [o28] at r29
  rw [oi_ne (Or.inl (by omega))] at r29
  rw [o26] at r29
  rw [oi_ne (Or.inl (by omega))] at r29
  rw [o24] at r29
  rw [oi_ne (Or.inl (by omega))] at r29
  rw [o22] at r29
  rw [oi_ne (Or.inl (by omega))] at r29
  rw [o20] at r29
  rw [oi_ne (Or.inl (by omega))] at r29
  rw [o18] at r29
  rw [oi_ne (Or.inl (by omega))] at r29
  rw [o16] at r29
  rw [oi_ne (Or.inl (by omega))] at r29
  rw [o14] at r29
  rw [oi_ne (Or.inl (by omega))] at r29
  rw [o12] at r29
  rw [oi_ne (Or.inl (by omega))] at r29
  rw [oi_ne (Or.inl (by omega))] at r29
  rw [ucp_oi (by omega)] at r29
  rw [o9] at r29
  rw [ucp_oi (by omega)] at r29
  rw [o6] at r29
  rw [ucp_oi (by omega)] at r29
  rw [o3] at r29
  rw [ucp_oi (by omega)] at r29
  subst r29
  clear e29
  replace hf := jbind hf
  obtain ⟨h125, e30, hf⟩ := hf
  obtain ⟨o30, z30⟩ := oc_pf e30
  clear e30
  replace hf := jbind hf
  obtain ⟨v130, e31, hf⟩ := hf
  have r31 := oc_gI e31
  rw [o30] at r31
  rw [oi_ne (Or.inl (by omega))] at r31
  rw [o28] at r31
  rw [oi_ne (Or.inl (by omega))] at r31
  rw [o26] at r31
  rw [oi_ne (Or.inl (by omega))] at r31
  rw [o24] at r31
  rw [oi_ne (Or.inl (by omega))] at r31
  rw [o22] at r31
  rw [oi_ne (Or.inl (by omega))] at r31
  rw [o20] at r31
  rw [oi_ne (Or.inl (by omega))] at r31
  rw [o18] at r31
  rw [oi_ne (Or.inl (by omega))] at r31
  rw [o16] at r31
  rw [oi_ne (Or.inl (by omega))] at r31
  rw [o14] at r31
  rw [oi_ne (Or.inl (by omega))] at r31
  rw [o12] at r31
  rw [oi_ne (Or.inl (by omega))] at r31
  rw [oi_ne (Or.inl (by omega))] at r31
  rw [ucp_oi (by omega)] at r31
  rw [o9] at r31
  rw [ucp_oi (by omega)] at r31
  rw [o6] at r31
  rw [ucp_oi (by omega)] at r31
  rw [o3] at r31
  rw [ucp_oi (by omega)] at r31
  subst r31
  clear e31
  replace hf := jbind hf
  obtain ⟨h133, e32, hf⟩ := hf
  obtain ⟨o32, z32⟩ := oc_pf e32
  clear e32
  replace hf := jbind hf
  obtain ⟨v138, e33, hf⟩ := hf
  have r33 := oc_gI e33
  rw [o32] at r33
  rw [oi_ne (Or.inl (by omega))] at r33
  rw [o30] at r33
  rw [oi_ne (Or.inl (by omega))] at r33
  rw [o28] at r33
  rw [oi_ne (Or.inl (by omega))] at r33
  rw [o26] at r33
  rw [oi_ne (Or.inl (by omega))] at r33
  rw [o24] at r33
  rw [oi_ne (Or.inl (by omega))] at r33
  rw [o22] at r33
  rw [oi_ne (Or.inl (by omega))] at r33
  rw [o20] at r33
  rw [oi_ne (Or.inl (by omega))] at r33
  rw [o18] at r33
  rw [oi_ne (Or.inl (by omega))] at r33
  rw [o16] at r33
  rw [oi_ne (Or.inl (by omega))] at r33
  rw [o14] at r33
  rw [oi_ne (Or.inl (by omega))] at r33
  rw [o12] at r33
  rw [oi_ne (Or.inl (by omega))] at r33
  rw [oi_ne (Or.inl (by omega))] at r33
  rw [ucp_oi (by omega)] at r33
  rw [o9] at r33
  rw [ucp_oi (by omega)] at r33
  rw [o6] at r33
  rw [ucp_oi (by omega)] at r33
  rw [o3] at r33
  rw [ucp_oi (by omega)] at r33
  subst r33
  clear e33
  replace hf := jbind hf
  obtain ⟨h141, e34, hf⟩ := hf
  obtain ⟨o34, z34⟩ := oc_pf e34
  clear e34
  replace hf := jbind hf
  obtain ⟨h146, e35, hf⟩ := hf
  replace e35 := (jcv_o e35).2
  have hz : oc h141 d 0 = .ref (d + 1) := by simp (disch := omega) only [o34, o32, o30, o28, o26, o24, o22, o20, o18, o16, o14, o12, o9, o6, o3, u2_ne, ucp_ne]; exact sd0
  have hy : oc h141 r 0 = .ref (r + 1) := by simp (disch := omega) only [o34, o32, o30, o28, o26, o24, o22, o20, o18, o16, o14, o12, o9, o6, o3, u2_ne, ucp_ne]; exact sr0
  obtain ⟨o35, z35⟩ := E_X8_hangAs (d := d) (r := r) rfl rfl hd hz hy e35
  simp only [o34, o32, o30, o28, o26, o24, o22, o20, o18, o16, o14, o12, o9, o6, o3] at o35
  cases hf
  -- leaf : h146
  obtain ⟨⟨s0, s1, s2, s3, s4, s5⟩, ⟨u5, u10, u11, u12, u13, u14, u15, u16, u17⟩, RB, RC, RL⟩ := id R
  have K0 := K.1
  have k9 := K.2.2.2.2.2.2.2.2.2.1
  refine ⟨⟨⟨?_, ?_, ?_, ?_, ?_, ?_⟩, ⟨?_, ?_, ?_, ?_, ?_, ?_, ?_, ?_, ?_⟩, fun i hi => ?_, fun i hi h32 => ?_, ?_⟩, ?_, ?_⟩
  · simp (disch := omega) only [o35, u2_ne, ucp_ne, oi_ne, oi_eq, ucp_oi, ucp_in]; exact sd0
  · simp (disch := omega) only [o35, u2_ne, ucp_ne, oi_ne, oi_eq, ucp_oi, ucp_in]; exact sd1
  · simp (disch := omega) only [o35, u2_ne, ucp_ne, oi_ne, oi_eq, ucp_oi, ucp_in]; exact sd2
  · simp (disch := omega) only [o35, u2_ne, ucp_ne, oi_ne, oi_eq, ucp_oi, ucp_in]; exact sd3
  · simp (disch := omega) only [o35, u2_ne, ucp_ne, oi_ne, oi_eq, ucp_oi, ucp_in]; exact sd4
  · simp (disch := omega) only [o35, u2_ne, ucp_ne, oi_ne, oi_eq, ucp_oi, ucp_in]; exact sd.2.2.2.2.2
  · simp (disch := omega) only [o35, u2_ne, ucp_ne, oi_ne, oi_eq, ucp_oi, ucp_in]; exact u5
  · simp (disch := omega) only [o35, u2_ne, ucp_ne, oi_ne, oi_eq, ucp_oi, ucp_in]; exact u10
  · simp (disch := omega) only [o35, u2_ne, ucp_ne, oi_ne, oi_eq, ucp_oi, ucp_in]; exact u11
  · simp (disch := omega) only [o35, u2_ne, ucp_ne, oi_ne, oi_eq, ucp_oi, ucp_in]; exact u12
  · simp (disch := omega) only [o35, u2_ne, ucp_ne, oi_ne, oi_eq, ucp_oi, ucp_in]; exact u13
  · simp (disch := omega) only [o35, u2_ne, ucp_ne, oi_ne, oi_eq, ucp_oi, ucp_in]; exact u14
  · simp (disch := omega) only [o35, u2_ne, ucp_ne, oi_ne, oi_eq, ucp_oi, ucp_in]; exact u15
  · simp (disch := omega) only [o35, u2_ne, ucp_ne, oi_ne, oi_eq, ucp_oi, ucp_in]; exact u16
  · simp (disch := omega) only [o35, u2_ne, ucp_ne, oi_ne, oi_eq, ucp_oi, ucp_in]; exact u17
  · have i8 : i < 8 := by omega
    have B := RB i hi
    simp (disch := omega) only [o35, u2_ne, ucp_ne, oi_ne, oi_eq, ucp_oi, ucp_in]
    exact B
  · have B := RC i hi h32
    simp (disch := omega) only [o35, u2_ne, ucp_ne, oi_ne, oi_eq, ucp_oi, ucp_in]
    exact B
  · refine logE_cp RL K (fun k hk => ?_) (fun k hk => ?_)
    · rcases hk with rfl | rfl <;> simp (disch := omega) only [o35, u2_ne, ucp_ne, oi_ne, oi_eq, ucp_oi, ucp_in]
    · show oi (oc q) (d + 6) k = oi (oc h) (r + 6) k
      simp (disch := omega) only [o35, u2_ne, ucp_ne, oi_ne, oi_eq, ucp_oi, ucp_in]
  · intro b k hb
    simp (disch := omega) only [o35, u2_ne, ucp_ne, oi_ne, oi_eq, ucp_oi, ucp_in]
  · exact z35.trans (z34.trans (z32.trans (z30.trans (z28.trans (z26.trans (z24.trans (z22.trans (z20.trans (z18.trans (z16.trans (z14.trans (z12.trans (z9.trans (z6.trans z3))))))))))))))
end
section
/-! acts of the class -/
theorem E_rodnew {n : Nat} {h q : jH} (e : F_X8_init n h.1 (jnew h (.inl (6, [.null, .null, .null, .null, .null, .int 0, .int 0, .int 0, .int 0, .int 0, .int 0, .int 0, .int 0, .int 0, .int 0, .int 0, .int 0, .int 0]))) = some q) : rodS (oc q) h.1 ∧ q.1 = h.1 + 7 ∧ ∀ a k, a < h.1 → oc q a k = oc h a k := by
  obtain ⟨v, e2, j⟩ := I_X8_init (n := n) (h := h)
  cases e.symm.trans e2
  obtain ⟨j1, j2, j3⟩ := j
  have o : ∀ i, oc q (h.1 + 0) i = ([.ref (h.1 + 1), .ref (h.1 + 2), .ref (h.1 + 3), .ref (h.1 + 4), .ref (h.1 + 5), .int 0, .int 0, .int 0, .int 0, .int 0, .int 0, .int 16, .int 8, .int 0, .int 0, .int 0, .int 1, .int 0] : List Value).getD i .null := fun i => by
    unfold oc
    rw [j3 0 _ rfl]
  have o5 : ∀ i, oc q (h.1 + 5) i = ([.ref (h.1 + 6), .int 0, .int 0] : List Value).getD i .null := fun i => by
    unfold oc
    rw [j3 5 _ rfl]
  refine ⟨⟨o 0, o 1, o 2, o 3, o 4, o5 0⟩, j1, fun a k ha => ?_⟩
  unfold oc
  rw [j2 a ha]
theorem rodS_fr {O O2 : jO} {b : Nat} (s : rodS O b) (h : ∀ k, O2 b k = O b k) (h5 : O2 (b + 5) 0 = O (b + 5) 0) : rodS O2 b := by
  obtain ⟨s0, s1, s2, s3, s4, s5⟩ := s
  exact ⟨(h 0).trans s0, (h 1).trans s1, (h 2).trans s2, (h 3).trans s3, (h 4).trans s4, h5.trans s5⟩
theorem logE_fr {O O2 : jO} {l : Nat} {W : jWd} (L : logE O l W) (h : ∀ k, O2 l k = O l k) (h2 : ∀ k, O2 (l + 1) k = O (l + 1) k) : logE O2 l W := logE_cg L (fun k => by unfold oi; rw [h]) (fun k => by unfold oi; rw [h2]) (fun _ _ => rfl)
theorem rodE_fr {O O2 : jO} {b : Nat} {W : jWd} (R : rodE O b W) (h : ∀ a k, b ≤ a → a ≤ b + 6 → O2 a k = O a k) : rodE O2 b W := by
  obtain ⟨S, I, RB, RC, RL⟩ := R
  have e : ∀ a k, b ≤ a → a ≤ b + 6 → oi O2 a k = oi O a k := fun a k h1 h2 => by unfold oi; rw [h a k h1 h2]
  refine ⟨rodS_fr S (fun k => h _ _ (by omega) (by omega)) (h _ _ (by omega) (by omega)), ?_, fun i hi => ?_, fun i hi h32 => ?_, logE_fr RL (fun k => h _ _ (by omega) (by omega)) (fun k => h _ _ (by omega) (by omega))⟩
  · rw [e _ _ (by omega) (by omega), e _ _ (by omega) (by omega), e _ _ (by omega) (by omega), e _ _ (by omega) (by omega), e _ _ (by omega) (by omega), e _ _ (by omega) (by omega), e _ _ (by omega) (by omega), e _ _ (by omega) (by omega), e _ _ (by omega) (by omega)]
    exact I
  · rw [e _ _ (by omega) (by omega), e _ _ (by omega) (by omega), e _ _ (by omega) (by omega), e _ _ (by omega) (by omega), e _ _ (by omega) (by omega), e _ _ (by omega) (by omega), e _ _ (by omega) (by omega), e _ _ (by omega) (by omega)]
    exact RB i hi
  · rw [e _ _ (by omega) (by omega), e _ _ (by omega) (by omega)]
    exact RC i hi h32
theorem va_rf_s {o : Option Nat} {b : Nat} (h : va_rf o = .ref b) : o = some b := by
  cases o with
  | none => cases h
  | some c => cases h; rfl
theorem E_X0_remember_28 {n A r b nx : Nat} {W : jWd} {h q : jH} (sA : oc h A 0 = .ref (A + 1)) (hx : oi (oc h) A 1 = nI nx) (hnx : nx ≤ 11) (hb : oc h (A + 1) nx = .ref b) (R : rodE (oc h) r W) (K : wOK W) (sb : rodS (oc h) b) (dj : b + 6 < r ∨ r + 6 < b) (dA : b + 6 < A ∨ A + 1 < b) (sz : 0 ≤ (oi (oc h) A 2).toInt ∧ (oi (oc h) A 2).toInt ≤ 12) (hf : F_X0_remember_28 n A r h = some q) : rodE (oc q) b W ∧ oi (oc q) A 1 = nI ((nx + 1) % 12) ∧ (oi (oc q) A 2).toInt = (if (oi (oc h) A 2).toInt < 12 then (oi (oc h) A 2).toInt + 1 else 12) ∧ q.1 = h.1 ∧ (∀ a k, ¬ (b ≤ a ∧ a ≤ b + 6) → ¬ (a = A ∧ (k = 1 ∨ k = 2)) → oc q a k = oc h a k) := by
  unfold F_X0_remember_28 at hf
  have l12 : (12 : Int32).toInt = 12 := rfl
  have l1 : (1 : Int32).toInt = 1 := rfl
  obtain ⟨p29, e1, hf⟩ := jbind hf
  have r1 := oc_gR e1
  rw [sA] at r1
  cases r1
  obtain ⟨v33, e2, hf⟩ := jbind hf
  have r2 := oc_gI e2
  rw [hx] at r2
  subst r2
  obtain ⟨o36, e3, hf⟩ := jbind hf
  have r3 := oc_alq e3
  rw [nI_cl (by omega), hb] at r3
  have r3 := va_rf_s r3.symm
  subst r3
  replace hf : ((jcv 6 h b (F_X8_copyFrom n b r h)).bind fun h38 => (jgI 0 h38 A 1).bind fun v43 => if (12 : Int32) ≤ (v43 + (1 : Int32)) then (F_X0_remember_63 n A A (0 : Int32) h38) else ((jgI 0 h38 A 1).bind fun v54 => F_X0_remember_63 n A A (v54 + (1 : Int32)) h38)) = some q := hf
  obtain ⟨h38, e4, hf⟩ := jbind hf
  replace e4 := (jcv_o e4).2
  obtain ⟨R2, f2, z2⟩ := E_X8_copyFrom (d := b) (r := r) rfl rfl dj sb R K e4
  have iA : ∀ k, oi (oc h38) A k = oi (oc h) A k := fun k => by unfold oi; rw [f2 A k (by omega)]
  obtain ⟨v43, e5, hf⟩ := jbind hf
  have r5 := oc_gI e5
  rw [iA, hx] at r5
  subst r5
  have fin : ∀ (s : Int32), s = nI ((nx + 1) % 12) → F_X0_remember_63 n A A s h38 = some q → rodE (oc q) b W ∧ oi (oc q) A 1 = nI ((nx + 1) % 12) ∧ (oi (oc q) A 2).toInt = (if (oi (oc h) A 2).toInt < 12 then (oi (oc h) A 2).toInt + 1 else 12) ∧ q.1 = h.1 ∧ (∀ a k, ¬ (b ≤ a ∧ a ≤ b + 6) → ¬ (a = A ∧ (k = 1 ∨ k = 2)) → oc q a k = oc h a k) := by
    intro s hs hf
    unfold F_X0_remember_63 at hf
    obtain ⟨h63, g1, hf⟩ := jbind hf
    obtain ⟨o1, y1⟩ := oc_pf g1
    obtain ⟨v70, g2, hf⟩ := jbind hf
    have t2 := oc_gI g2
    rw [o1, oi_ne (Or.inr (by decide)), iA] at t2
    subst t2
    obtain ⟨h78, g3, hf⟩ := jbind hf
    obtain ⟨o3, y3⟩ := oc_pf g3
    cases hf
    refine ⟨?_, ?_, ?_, y3.trans (y1.trans z2), fun a k ha hk => ?_⟩
    · refine rodE_fr R2 (fun a k u w => ?_)
      rw [o3, u2_ne (Or.inl (by omega)), o1, u2_ne (Or.inl (by omega))]
    · rw [o3, oi_ne (Or.inr (by decide)), o1, oi_eq, hs]
    · rw [o3, oi_eq]
      have j1 := jadd (x := oi (oc h) A 2) (y := 1) (by omega) (by omega)
      by_cases z : oi (oc h) A 2 + 1 < (12 : Int32)
      · rw [if_pos z, j1]
        rw [Int32.lt_iff_toInt_lt, j1] at z
        rw [if_pos (by omega), l1]
      · rw [if_neg z, l12]
        rw [Int32.lt_iff_toInt_lt, j1] at z
        split <;> omega
    · rw [o3, u2_ne (by omega), o1, u2_ne (by omega)]
      exact f2 a k (by omega)
  have j2 := jadd (x := nI nx) (y := 1) (by rw [nI_toInt (by omega)]; omega) (by rw [nI_toInt (by omega)]; omega)
  rw [nI_toInt (by omega)] at j2
  split at hf
  · rename_i c
    rw [Int32.le_iff_toInt_le, j2] at c
    exact fin 0 (by rw [show (nx + 1) % 12 = 0 by omega]; rfl) hf
  · rename_i c
    rw [Int32.le_iff_toInt_le, j2] at c
    obtain ⟨v54, e6, hf⟩ := jbind hf
    have r6 := oc_gI e6
    rw [iA, hx] at r6
    subst r6
    exact fin _ (by rw [nI_1, show (nx + 1) % 12 = nx + 1 by omega]) hf
/-- the rod that remembers: that of its place, or a new one -/
theorem E_X0_remember {n A r nx : Nat} {W : jWd} {h q : jH} (sA : oc h A 0 = .ref (A + 1)) (hx : oi (oc h) A 1 = nI nx) (hnx : nx ≤ 11) (R : rodE (oc h) r W) (K : wOK W) (hb : ∀ b : Nat, oc h (A + 1) nx = .ref b → rodS (oc h) b ∧ (b + 6 < r ∨ r + 6 < b) ∧ (b + 6 < A ∨ A + 1 < b)) (hr : r + 6 < h.1) (hA : A + 1 < h.1) (rA : r + 6 < A ∨ A + 1 < r) (sz : 0 ≤ (oi (oc h) A 2).toInt ∧ (oi (oc h) A 2).toInt ≤ 12) (hf : F_X0_remember n A r h = some q) : ∃ b, ((oc h (A + 1) nx = .ref b ∧ q.1 = h.1) ∨ (oc h (A + 1) nx = .null ∧ b = h.1 ∧ q.1 = h.1 + 7)) ∧ oc q (A + 1) nx = .ref b ∧ rodE (oc q) b W ∧ oi (oc q) A 1 = nI ((nx + 1) % 12) ∧ (oi (oc q) A 2).toInt = (if (oi (oc h) A 2).toInt < 12 then (oi (oc h) A 2).toInt + 1 else 12) ∧ (∀ a k, a < h.1 → ¬ (b ≤ a ∧ a ≤ b + 6) → ¬ (a = A ∧ (k = 1 ∨ k = 2)) → ¬ (a = A + 1 ∧ k = nx) → oc q a k = oc h a k) := by
  unfold F_X0_remember at hf
  obtain ⟨p1, e1, hf⟩ := jbind hf
  have r1 := oc_gR e1
  rw [sA] at r1
  cases r1
  obtain ⟨v5, e2, hf⟩ := jbind hf
  have r2 := oc_gI e2
  rw [hx] at r2
  subst r2
  obtain ⟨o8, e3, hf⟩ := jbind hf
  have r3 := oc_alq e3
  rw [nI_cl (by omega)] at r3
  cases o8 with
  | some b =>
    have r3 : oc h (A + 1) nx = .ref b := r3
    obtain ⟨sb, d1, d2⟩ := hb b r3
    obtain ⟨a1, a2, a3, a4, a5⟩ := E_X0_remember_28 sA hx hnx r3 R K sb d1 d2 sz hf
    exact ⟨b, Or.inl ⟨r3, a4⟩, (a5 (A + 1) nx (by rcases d2 with z | z <;> omega) (by omega)).trans r3, a1, a2, a3, fun a k _ u w _ => a5 a k u w⟩
  | none =>
    have r3 : oc h (A + 1) nx = .null := r3
    replace hf : ((jgR 0 h A 0).bind fun p13 => (jgI 0 h A 1).bind fun v17 => (jnw h (.inl (6, [.null, .null, .null, .null, .null, .int 0, .int 0, .int 0, .int 0, .int 0, .int 0, .int 0, .int 0, .int 0, .int 0, .int 0, .int 0, .int 0]))).bind fun h20 => (F_X8_init n h.1 h20).bind fun h24 => (jasq 6 h24 p13 v17 h.1).bind fun h27 => F_X0_remember_28 n A r h27) = some q := hf
    obtain ⟨p13, e4, hf⟩ := jbind hf
    have r4 := oc_gR e4
    rw [sA] at r4
    cases r4
    obtain ⟨v17, e5, hf⟩ := jbind hf
    have r5 := oc_gI e5
    rw [hx] at r5
    subst r5
    obtain ⟨h20, e6, hf⟩ := jbind hf
    cases e6
    obtain ⟨h24, e7, hf⟩ := jbind hf
    obtain ⟨n1, n2, n3⟩ := E_rodnew e7
    obtain ⟨h27, e8, hf⟩ := jbind hf
    obtain ⟨o8, z8⟩ := oc_asq e8
    rw [nI_cl (by omega)] at o8
    have f9 : ∀ a k, a < h.1 → ¬ (a = A + 1 ∧ k = nx) → oc h27 a k = oc h a k := fun a k u w => by rw [o8, u2_ne (by omega)]; exact n3 a k u
    have i9 : ∀ k, oi (oc h27) A k = oi (oc h) A k := fun k => by unfold oi; rw [f9 A k (by omega) (by omega)]
    have s9 : rodS (oc h27) h.1 := rodS_fr n1 (fun k => by rw [o8, u2_ne (by omega)]) (by rw [o8, u2_ne (by omega)])
    obtain ⟨a1, a2, a3, a4, a5⟩ := E_X0_remember_28 (b := h.1) (W := W) ((f9 A 0 (by omega) (by omega)).trans sA) (by rw [i9]; exact hx) hnx (by rw [o8, u2_eq]) (rodE_fr R (fun a k u w => f9 a k (by omega) (by omega))) K s9 (by omega) (by omega) (by rw [i9]; exact sz) hf
    rw [i9] at a3
    exact ⟨h.1, Or.inr ⟨r3, rfl, a4.trans (z8.trans n2)⟩, by rw [a5 _ _ (by omega) (by omega), o8, u2_eq], a1, a2, a3, fun a k u w y v => (a5 a k w y).trans (f9 a k u v)⟩
end
section
theorem E_X0_takeBack_18 {n A r b s : Nat} {W : jWd} {h : jH} {q : Int32 × jH} (sA : oc h A 0 = .ref (A + 1)) (hs : s ≤ 11) (hb : oc h (A + 1) s = .ref b) (R : rodE (oc h) b W) (K : wOK W) (sr : rodS (oc h) r) (dj : r + 6 < b ∨ b + 6 < r) (dA : r + 6 < A ∨ A + 1 < r) (sz : 0 < (oi (oc h) A 2).toInt ∧ (oi (oc h) A 2).toInt ≤ 12) (hf : F_X0_takeBack_18 n A r (nI s) h = some q) : q.1 = 1 ∧ rodE (oc q.2) r W ∧ oi (oc q.2) A 1 = nI s ∧ (oi (oc q.2) A 2).toInt = (oi (oc h) A 2).toInt - 1 ∧ q.2.1 = h.1 ∧ (∀ a k, ¬ (r ≤ a ∧ a ≤ r + 6) → ¬ (a = A ∧ (k = 1 ∨ k = 2)) → oc q.2 a k = oc h a k) := by
  unfold F_X0_takeBack_18 at hf
  have l0 : (0 : Int32).toInt = 0 := rfl
  have l1 : (1 : Int32).toInt = 1 := rfl
  obtain ⟨v20, e1, hf⟩ := jbind hf
  have r1 := oc_gI e1
  subst r1
  rw [if_neg (fun z => by rw [i_eq] at z; omega)] at hf
  obtain ⟨p27, e2, hf⟩ := jbind hf
  have r2 := oc_gR e2
  rw [sA] at r2
  cases r2
  obtain ⟨o31, e3, hf⟩ := jbind hf
  have r3 := oc_alq e3
  rw [nI_cl (by omega), hb] at r3
  have r3 := va_rf_s r3.symm
  subst r3
  replace hf : ((jgR 0 h A 0).bind fun p39 => (jalq h p39 (nI s)).bind fun o43 => match o43 with | none => none | some p44_0 => ((jcv 6 h r (F_X8_copyFrom n r p44_0 h)).bind fun h44 => (jpf 0 h44 A 1 (.int (nI s))).bind fun h49 => (jgI 0 h49 A 2).bind fun v54 => (jpf 0 h49 A 2 (.int (v54 - (1 : Int32)))).bind fun h59 => some ((1 : Int32), h59))) = some q := hf
  obtain ⟨p39, e4, hf⟩ := jbind hf
  have r4 := oc_gR e4
  rw [sA] at r4
  cases r4
  obtain ⟨o43, e5, hf⟩ := jbind hf
  have r5 := oc_alq e5
  rw [nI_cl (by omega), hb] at r5
  have r5 := va_rf_s r5.symm
  subst r5
  replace hf : ((jcv 6 h r (F_X8_copyFrom n r b h)).bind fun h44 => (jpf 0 h44 A 1 (.int (nI s))).bind fun h49 => (jgI 0 h49 A 2).bind fun v54 => (jpf 0 h49 A 2 (.int (v54 - (1 : Int32)))).bind fun h59 => some ((1 : Int32), h59)) = some q := hf
  obtain ⟨h44, e6, hf⟩ := jbind hf
  replace e6 := (jcv_o e6).2
  obtain ⟨R2, f2, z2⟩ := E_X8_copyFrom (d := r) (r := b) rfl rfl dj sr R K e6
  obtain ⟨h49, e7, hf⟩ := jbind hf
  obtain ⟨o7, z7⟩ := oc_pf e7
  obtain ⟨v54, e8, hf⟩ := jbind hf
  have r8 := oc_gI e8
  rw [o7, oi_ne (Or.inr (by decide)), show oi (oc h44) A 2 = oi (oc h) A 2 by unfold oi; rw [f2 A 2 (by omega)]] at r8
  subst r8
  obtain ⟨h59, e9, hf⟩ := jbind hf
  obtain ⟨o9, z9⟩ := oc_pf e9
  cases hf
  refine ⟨rfl, rodE_fr R2 (fun a k u w => by show oc h59 a k = oc h44 a k; rw [o9, u2_ne (Or.inl (by omega)), o7, u2_ne (Or.inl (by omega))]), ?_, ?_, z9.trans (z7.trans z2), fun a k ha hk => ?_⟩
  · show oi (oc h59) A 1 = nI s
    rw [o9, oi_ne (Or.inr (by decide)), o7, oi_eq]
  · show (oi (oc h59) A 2).toInt = _
    rw [o9, oi_eq, jsub (by omega) (by omega), l1]
  · show oc h59 a k = oc h a k
    rw [o9, u2_ne (by omega), o7, u2_ne (by omega)]
    exact f2 a k (by omega)
theorem E_X0_takeBack {n A r b nx : Nat} {W : jWd} {h : jH} {q : Int32 × jH} (sA : oc h A 0 = .ref (A + 1)) (hx : oi (oc h) A 1 = nI nx) (hnx : nx ≤ 11) (hb : oc h (A + 1) ((nx + 11) % 12) = .ref b) (R : rodE (oc h) b W) (K : wOK W) (sr : rodS (oc h) r) (dj : r + 6 < b ∨ b + 6 < r) (dA : r + 6 < A ∨ A + 1 < r) (sz : 0 < (oi (oc h) A 2).toInt ∧ (oi (oc h) A 2).toInt ≤ 12) (hf : F_X0_takeBack n A r h = some q) : q.1 = 1 ∧ rodE (oc q.2) r W ∧ oi (oc q.2) A 1 = nI ((nx + 11) % 12) ∧ (oi (oc q.2) A 2).toInt = (oi (oc h) A 2).toInt - 1 ∧ q.2.1 = h.1 ∧ (∀ a k, ¬ (r ≤ a ∧ a ≤ r + 6) → ¬ (a = A ∧ (k = 1 ∨ k = 2)) → oc q.2 a k = oc h a k) := by
  unfold F_X0_takeBack at hf
  have l0 : (0 : Int32).toInt = 0 := rfl
  obtain ⟨v1, e1, hf⟩ := jbind hf
  have r1 := oc_gI e1
  rw [hx] at r1
  subst r1
  split at hf
  · rename_i c
    rw [Int32.le_iff_toInt_le, nI_toInt (by omega)] at c
    have : nx = 0 := by omega
    subst this
    exact E_X0_takeBack_18 (s := 11) sA (by omega) hb R K sr dj dA sz hf
  · rename_i c
    rw [Int32.le_iff_toInt_le, nI_toInt (by omega)] at c
    obtain ⟨v8, e2, hf⟩ := jbind hf
    have r2 := oc_gI e2
    rw [hx] at r2
    subst r2
    obtain ⟨y, rfl⟩ : ∃ y, nx = y + 1 := ⟨nx - 1, by omega⟩
    rw [nI_pred y] at hf
    have en : (y + 1 + 11) % 12 = y := by omega
    rw [en] at hb ⊢
    exact E_X0_takeBack_18 sA (by omega) hb R K sr dj dA sz hf
/-- nothing to take back -/
theorem E_X0_takeBack_0 {n A r : Nat} {h : jH} {q : Int32 × jH} (sz : oi (oc h) A 2 = 0) (hf : F_X0_takeBack n A r h = some q) : q = (0, h) := by
  unfold F_X0_takeBack at hf
  obtain ⟨v1, e1, hf⟩ := jbind hf
  have go : ∀ s, F_X0_takeBack_18 n A r s h = some q → q = (0, h) := by
    intro s hf
    unfold F_X0_takeBack_18 at hf
    obtain ⟨v20, e1, hf⟩ := jbind hf
    have r1 := oc_gI e1
    rw [sz] at r1
    subst r1
    rw [if_pos rfl] at hf
    cases hf
    rfl
  split at hf
  · exact go _ hf
  · obtain ⟨v8, e2, hf⟩ := jbind hf
    exact go _ hf
theorem E_X0_forget {n A : Nat} {h q : jH} (hf : F_X0_forget n A h = some q) : oc q = u2 (oc h) A 2 (.int 0) ∧ q.1 = h.1 := by
  unfold F_X0_forget at hf
  obtain ⟨h2, e, hf⟩ := jbind hf
  cases hf
  exact oc_pf e
/-! the reference's copies -/
/-- the number of a place, of a remembered act -/
theorem nI_act {r t : Nat} (h : 1 ≤ r) : ((435 : Int32) * (nI r - (1 : Int32))) + nI t = nI (435 * (r - 1) + t) := by
  obtain ⟨b, rfl⟩ : ∃ b, r = b + 1 := ⟨r - 1, by omega⟩
  rw [nI_pred b]
  show nI 435 * nI b + nI t = _
  rw [nI_mul, nI_add]
  rfl
theorem nI_act2 {r t : Nat} : ((435 : Int32) * nI r) + nI t = nI (435 * r + t) := by
  show nI 435 * nI r + nI t = _
  rw [nI_mul, nI_add]
theorem nI_a435 {t : Nat} : nI t + (435 : Int32) = nI (435 + t) := by
  show nI t + nI 435 = _
  rw [nI_add, Nat.add_comm]
theorem E_X12_keepsAll_2 {n : Nat} : ∀ (k : Nat) {a0 : Nat} {x1 : Int32} {h : jH} {q : jH} (t : Nat) (M : mS (oc h) a0) (hx : x1 = nI t) (ht : t ≤ 435), F_X12_keepsAll_2 n k a0 x1 h = some q → (∀ j, oi (oc q) (a0 + 4) j = if t ≤ j ∧ j < 435 then oi (oc h) (a0 + 1) (j) else oi (oc h) (a0 + 4) j) ∧ frM a0 [4] [] (oc h) (oc q) ∧ q.1 = h.1
  | 0, a0, x1, h, q, t, M, hx, ht, hf => by cases hf
  | k + 1, a0, x1, h, q, t, M, hx, ht, hf => by
    replace hf : F_X12_keepsAll_2_b n (F_X12_keepsAll_2 n k) a0 x1 h = some q := hf
    unfold F_X12_keepsAll_2_b at hf
    obtain ⟨s1, s2, s3, s4, s5, s8, s15, s17, s19, s20, s21⟩ := id M
    subst hx
    have lN : (435 : Int32).toInt = 435 := rfl
    replace hf := jite hf
    rcases hf with ⟨c1, hf⟩ | ⟨c1, hf⟩
    · skip
      cases hf
      -- leaf 0: h
      rw [Int32.le_iff_toInt_le, nI_toInt (by omega)] at c1
      exact ⟨fun j => by rw [if_neg (by omega)], frM_rfl, rfl⟩
    · skip
      replace hf := jbind hf
      obtain ⟨p10, e2, hf⟩ := hf
      have r2 := oc_gR e2
      rw [s4] at r2
      cases r2
      clear e2
      replace hf := jbind hf
      obtain ⟨p15, e3, hf⟩ := hf
      have r3 := oc_gR e3
      rw [s1] at r3
      cases r3
      clear e3
      replace hf := jbind hf
      obtain ⟨v19, e4, hf⟩ := hf
      obtain ⟨r4, y4⟩ := oc_al e4
      subst r4
      clear e4
      replace hf := jbind hf
      obtain ⟨h20, e5, hf⟩ := hf
      obtain ⟨o5, z5, y5⟩ := oc_as e5
      rw [jnar0] at o5
      clear e5
      -- leaf 1: rc2 a0 (x1 + (1 : Int32)) h20
      rw [Int32.le_iff_toInt_le, nI_toInt (by omega)] at c1
      rw [nI_cl (by omega)] at o5
      have f9 : frM a0 [4] [] (oc h) (oc h20) := by rw [o5]; exact frM_c (by decide)
      obtain ⟨a1, a2, a3⟩ := E_X12_keepsAll_2 k (t + 1) (mS_fr M f9 (by decide) (by decide)) (nI_1 t) (by omega)  hf
      refine ⟨?_, frM_tr f9 a2, a3.trans z5⟩
      intro j
      rw [a1 j]
      by_cases q1 : j = t
      · subst q1
        rw [if_neg (by omega), if_pos (by omega), o5, oi_eq]
      · by_cases q2 : t ≤ j ∧ j < 435
        · rw [if_pos (by omega), if_pos q2, o5, oi_ne (Or.inl (by omega))]
        · rw [if_neg (by omega), if_neg q2, o5, oi_ne (Or.inr (by omega))]
theorem E_X12_bringsBack_2 {n : Nat} : ∀ (k : Nat) {a0 : Nat} {x1 : Int32} {h : jH} {q : jH} (t : Nat) (M : mS (oc h) a0) (hx : x1 = nI t) (ht : t ≤ 435), F_X12_bringsBack_2 n k a0 x1 h = some q → (∀ j, oi (oc q) (a0 + 1) j = if t ≤ j ∧ j < 435 then oi (oc h) (a0 + 4) (j) else oi (oc h) (a0 + 1) j) ∧ frM a0 [1] [] (oc h) (oc q) ∧ q.1 = h.1
  | 0, a0, x1, h, q, t, M, hx, ht, hf => by cases hf
  | k + 1, a0, x1, h, q, t, M, hx, ht, hf => by
    replace hf : F_X12_bringsBack_2_b n (F_X12_bringsBack_2 n k) a0 x1 h = some q := hf
    unfold F_X12_bringsBack_2_b at hf
    obtain ⟨s1, s2, s3, s4, s5, s8, s15, s17, s19, s20, s21⟩ := id M
    subst hx
    have lN : (435 : Int32).toInt = 435 := rfl
    replace hf := jite hf
    rcases hf with ⟨c1, hf⟩ | ⟨c1, hf⟩
    · skip
      cases hf
      -- leaf 0: h
      rw [Int32.le_iff_toInt_le, nI_toInt (by omega)] at c1
      exact ⟨fun j => by rw [if_neg (by omega)], frM_rfl, rfl⟩
    · skip
      replace hf := jbind hf
      obtain ⟨p10, e2, hf⟩ := hf
      have r2 := oc_gR e2
      rw [s1] at r2
      cases r2
      clear e2
      replace hf := jbind hf
      obtain ⟨p15, e3, hf⟩ := hf
      have r3 := oc_gR e3
      rw [s4] at r3
      cases r3
      clear e3
      replace hf := jbind hf
      obtain ⟨v19, e4, hf⟩ := hf
      obtain ⟨r4, y4⟩ := oc_al e4
      subst r4
      clear e4
      replace hf := jbind hf
      obtain ⟨h20, e5, hf⟩ := hf
      obtain ⟨o5, z5, y5⟩ := oc_as e5
      rw [jnar0] at o5
      clear e5
      -- leaf 1: rc2 a0 (x1 + (1 : Int32)) h20
      rw [Int32.le_iff_toInt_le, nI_toInt (by omega)] at c1
      rw [nI_cl (by omega)] at o5
      have f9 : frM a0 [1] [] (oc h) (oc h20) := by rw [o5]; exact frM_c (by decide)
      obtain ⟨a1, a2, a3⟩ := E_X12_bringsBack_2 k (t + 1) (mS_fr M f9 (by decide) (by decide)) (nI_1 t) (by omega)  hf
      refine ⟨?_, frM_tr f9 a2, a3.trans z5⟩
      intro j
      rw [a1 j]
      by_cases q1 : j = t
      · subst q1
        rw [if_neg (by omega), if_pos (by omega), o5, oi_eq]
      · by_cases q2 : t ≤ j ∧ j < 435
        · rw [if_pos (by omega), if_pos q2, o5, oi_ne (Or.inl (by omega))]
        · rw [if_neg (by omega), if_neg q2, o5, oi_ne (Or.inr (by omega))]
theorem E_X12_remembers_55 {n : Nat} {r : Nat} : ∀ (k : Nat) {a0 : Nat} {x1 : Int32} {h : jH} {q : jH} (t : Nat) (M : mS (oc h) a0) (hx : x1 = nI t) (ht : t ≤ 435) (h7 : oi (oc h) a0 7 = nI r) (r1 : 1 ≤ r) (r12 : r ≤ 12), F_X12_remembers_55 n k a0 x1 h = some q → (∀ j, oi (oc q) (a0 + 5) j = if 435 * (r - 1) + t ≤ j ∧ j < 435 * (r - 1) + 435 then oi (oc h) (a0 + 1) ((j - 435 * (r - 1))) else oi (oc h) (a0 + 5) j) ∧ frM a0 [5] [] (oc h) (oc q) ∧ q.1 = h.1
  | 0, a0, x1, h, q, t, M, hx, ht, h7, r1, r12, hf => by cases hf
  | k + 1, a0, x1, h, q, t, M, hx, ht, h7, r1, r12, hf => by
    replace hf : F_X12_remembers_55_b n (F_X12_remembers_55 n k) a0 x1 h = some q := hf
    unfold F_X12_remembers_55_b at hf
    obtain ⟨s1, s2, s3, s4, s5, s8, s15, s17, s19, s20, s21⟩ := id M
    subst hx
    have lN : (435 : Int32).toInt = 435 := rfl
    replace hf := jite hf
    rcases hf with ⟨c1, hf⟩ | ⟨c1, hf⟩
    · skip
      cases hf
      -- leaf 0: h
      rw [Int32.le_iff_toInt_le, nI_toInt (by omega)] at c1
      exact ⟨fun j => by rw [if_neg (by omega)], frM_rfl, rfl⟩
    · skip
      replace hf := jbind hf
      obtain ⟨p63, e2, hf⟩ := hf
      have r2 := oc_gR e2
      rw [s5] at r2
      cases r2
      clear e2
      replace hf := jbind hf
      obtain ⟨v70, e3, hf⟩ := hf
      have r3 := oc_gI e3
      subst r3
      clear e3
      replace hf := jbind hf
      obtain ⟨p79, e4, hf⟩ := hf
      have r4 := oc_gR e4
      rw [s1] at r4
      cases r4
      clear e4
      replace hf := jbind hf
      obtain ⟨v83, e5, hf⟩ := hf
      obtain ⟨r5, y5⟩ := oc_al e5
      subst r5
      clear e5
      replace hf := jbind hf
      obtain ⟨h84, e6, hf⟩ := hf
      obtain ⟨o6, z6, y6⟩ := oc_as e6
      rw [jnar0] at o6
      clear e6
      -- leaf 1: rc55 a0 (x1 + (1 : Int32)) h84
      rw [Int32.le_iff_toInt_le, nI_toInt (by omega)] at c1
      rw [h7, nI_act r1, nI_cl (by omega), nI_cl (by omega)] at o6
      have f9 : frM a0 [5] [] (oc h) (oc h84) := by rw [o6]; exact frM_c (by decide)
      obtain ⟨a1, a2, a3⟩ := E_X12_remembers_55 k (t + 1) (mS_fr M f9 (by decide) (by decide)) (nI_1 t) (by omega) (by rw [o6, oi_ne (Or.inl (by omega))]; exact h7) r1 r12 hf
      refine ⟨?_, frM_tr f9 a2, a3.trans z6⟩
      intro j
      rw [a1 j]
      by_cases q1 : j = 435 * (r - 1) + t
      · subst q1
        rw [if_neg (by omega), if_pos (by omega), o6, oi_eq, show (435 * (r - 1) + t - 435 * (r - 1)) = t by omega]
      · by_cases q2 : 435 * (r - 1) + t ≤ j ∧ j < 435 * (r - 1) + 435
        · rw [if_pos (by omega), if_pos q2, o6, oi_ne (Or.inl (by omega))]
        · rw [if_neg (by omega), if_neg q2, o6, oi_ne (Or.inr (by omega))]
theorem E_X12_remembers_11 {n : Nat} : ∀ (k : Nat) {a0 : Nat} {x1 : Int32} {h : jH} {q : jH} (t : Nat) (M : mS (oc h) a0) (hx : x1 = nI t) (ht : t ≤ 4785), F_X12_remembers_11 n k a0 x1 h = some q → ∃ h2 : jH, ((∀ j, oi (oc h2) (a0 + 5) j = if t ≤ j ∧ j < 4785 then oi (oc h) (a0 + 5) (435 + j) else oi (oc h) (a0 + 5) j) ∧ frM a0 [5] [] (oc h) (oc h2) ∧ h2.1 = h.1) ∧ F_X12_remembers_55 n n a0 (0 : Int32) h2 = some q
  | 0, a0, x1, h, q, t, M, hx, ht, hf => by cases hf
  | k + 1, a0, x1, h, q, t, M, hx, ht, hf => by
    replace hf : F_X12_remembers_11_b n (F_X12_remembers_11 n k) a0 x1 h = some q := hf
    unfold F_X12_remembers_11_b at hf
    obtain ⟨s1, s2, s3, s4, s5, s8, s15, s17, s19, s20, s21⟩ := id M
    subst hx
    have lN : (4785 : Int32).toInt = 4785 := rfl
    replace hf := jite hf
    rcases hf with ⟨c1, hf⟩ | ⟨c1, hf⟩
    · skip
      -- leaf 0: F_X12_remembers_55 n n a0 (0 : Int32) h
      rw [Int32.le_iff_toInt_le, nI_toInt (by omega)] at c1
      exact ⟨h, ⟨fun j => by rw [if_neg (by omega)], frM_rfl, rfl⟩, hf⟩
    · skip
      replace hf := jbind hf
      obtain ⟨p19, e2, hf⟩ := hf
      have r2 := oc_gR e2
      rw [s5] at r2
      cases r2
      clear e2
      replace hf := jbind hf
      obtain ⟨p24, e3, hf⟩ := hf
      have r3 := oc_gR e3
      rw [s5] at r3
      cases r3
      clear e3
      replace hf := jbind hf
      obtain ⟨v32, e4, hf⟩ := hf
      obtain ⟨r4, y4⟩ := oc_al e4
      subst r4
      clear e4
      replace hf := jbind hf
      obtain ⟨h33, e5, hf⟩ := hf
      obtain ⟨o5, z5, y5⟩ := oc_as e5
      rw [jnar0] at o5
      clear e5
      -- leaf 1: rc11 a0 (x1 + (1 : Int32)) h33
      rw [Int32.le_iff_toInt_le, nI_toInt (by omega)] at c1
      rw [nI_a435, nI_cl (by omega), nI_cl (by omega)] at o5
      have f9 : frM a0 [5] [] (oc h) (oc h33) := by rw [o5]; exact frM_c (by decide)
      obtain ⟨h2, ⟨a1, a2, a3⟩, a4⟩ := E_X12_remembers_11 k (t + 1) (mS_fr M f9 (by decide) (by decide)) (nI_1 t) (by omega)  hf
      refine ⟨h2, ⟨?_, frM_tr f9 a2, a3.trans z5⟩, a4⟩
      intro j
      rw [a1 j]
      by_cases q1 : j = t
      · subst q1
        rw [if_neg (by omega), if_pos (by omega), o5, oi_eq]
      · by_cases q2 : t ≤ j ∧ j < 4785
        · rw [if_pos (by omega), if_pos q2, o5, oi_ne (Or.inr (by omega))]
        · rw [if_neg (by omega), if_neg q2, o5, oi_ne (Or.inr (by omega))]
theorem E_X12_undo_26 {n : Nat} {r : Nat} : ∀ (k : Nat) {a0 : Nat} {x1 : Int32} {h : jH} {q : Int32 × jH} (t : Nat) (M : mS (oc h) a0) (hx : x1 = nI t) (ht : t ≤ 435) (h7 : oi (oc h) a0 7 = nI r) (r12 : r ≤ 11), F_X12_undo_26 n k a0 x1 h = some q → (∀ j, oi (oc q.2) (a0 + 1) j = if t ≤ j ∧ j < 435 then oi (oc h) (a0 + 5) (435 * r + j) else oi (oc h) (a0 + 1) j) ∧ frM a0 [1] [] (oc h) (oc q.2) ∧ q.2.1 = h.1 ∧ q.1 = 1
  | 0, a0, x1, h, q, t, M, hx, ht, h7, r12, hf => by cases hf
  | k + 1, a0, x1, h, q, t, M, hx, ht, h7, r12, hf => by
    replace hf : F_X12_undo_26_b n (F_X12_undo_26 n k) a0 x1 h = some q := hf
    unfold F_X12_undo_26_b at hf
    obtain ⟨s1, s2, s3, s4, s5, s8, s15, s17, s19, s20, s21⟩ := id M
    subst hx
    have lN : (435 : Int32).toInt = 435 := rfl
    replace hf := jite hf
    rcases hf with ⟨c1, hf⟩ | ⟨c1, hf⟩
    · skip
      cases hf
      -- leaf 0: ((1 : Int32), h)
      rw [Int32.le_iff_toInt_le, nI_toInt (by omega)] at c1
      exact ⟨fun j => by rw [if_neg (by omega)], frM_rfl, rfl, rfl⟩
    · skip
      replace hf := jbind hf
      obtain ⟨p34, e2, hf⟩ := hf
      have r2 := oc_gR e2
      rw [s1] at r2
      cases r2
      clear e2
      replace hf := jbind hf
      obtain ⟨p39, e3, hf⟩ := hf
      have r3 := oc_gR e3
      rw [s5] at r3
      cases r3
      clear e3
      replace hf := jbind hf
      obtain ⟨v46, e4, hf⟩ := hf
      have r4 := oc_gI e4
      subst r4
      clear e4
      replace hf := jbind hf
      obtain ⟨v52, e5, hf⟩ := hf
      obtain ⟨r5, y5⟩ := oc_al e5
      subst r5
      clear e5
      replace hf := jbind hf
      obtain ⟨h53, e6, hf⟩ := hf
      obtain ⟨o6, z6, y6⟩ := oc_as e6
      rw [jnar0] at o6
      clear e6
      -- leaf 1: rc26 a0 (x1 + (1 : Int32)) h53
      rw [Int32.le_iff_toInt_le, nI_toInt (by omega)] at c1
      rw [h7, nI_act2, nI_cl (by omega), nI_cl (by omega)] at o6
      have f9 : frM a0 [1] [] (oc h) (oc h53) := by rw [o6]; exact frM_c (by decide)
      obtain ⟨a1, a2, a3, a4⟩ := E_X12_undo_26 k (t + 1) (mS_fr M f9 (by decide) (by decide)) (nI_1 t) (by omega) (by rw [o6, oi_ne (Or.inl (by omega))]; exact h7) r12 hf
      refine ⟨?_, frM_tr f9 a2, a3.trans z6, a4⟩
      intro j
      rw [a1 j]
      by_cases q1 : j = t
      · subst q1
        rw [if_neg (by omega), if_pos (by omega), o6, oi_eq]
      · by_cases q2 : t ≤ j ∧ j < 435
        · rw [if_pos (by omega), if_pos q2, o6, oi_ne (Or.inl (by omega))]
        · rw [if_neg (by omega), if_neg q2, o6, oi_ne (Or.inr (by omega))]
end
section
/-! acts remembered, of the reference -/
theorem wOK_cg {W W2 : jWd} (K : wOK W) (h : ∀ k, k < 75 → W2 k = W k) : wOK W2 := by
  obtain ⟨k0, k1, k2, k3, k4, k5, k6, k7, k8, k9, k10⟩ := K
  unfold wOK
  rw [h 0 (by omega), h 3 (by omega), h 4 (by omega), h 5 (by omega), h 6 (by omega), h 8 (by omega), h 9 (by omega), h 1 (by omega)]
  refine ⟨k0, fun i hi => ?_, fun i hi => ?_, fun i hi => ?_, k4, k5, k6, k7, k8, k9, k10⟩
  · rw [h _ (by omega), h _ (by omega), h _ (by omega), h _ (by omega), h _ (by omega), h _ (by omega), h _ (by omega), h _ (by omega)]
    exact k1 i hi
  · rw [h _ (by omega), h _ (by omega)]
    exact k2 i hi
  · rw [h _ (by omega)]
    exact k3 i hi
theorem rodE_cg {O : jO} {b : Nat} {W W2 : jWd} (R : rodE O b W) (K : wOK W) (h : ∀ k, k < 435 → W2 k = W k) : rodE O b W2 := by
  have K0 := K.1
  have k9 := K.2.2.2.2.2.2.2.2.2.1
  obtain ⟨S, I, RB, RC, L1, L2, L3⟩ := R
  unfold rodE
  rw [h 0 (by omega), h 7 (by omega), h 5 (by omega), h 6 (by omega), h 3 (by omega), h 4 (by omega), h 8 (by omega), h 10 (by omega), h 1 (by omega)]
  refine ⟨S, I, fun i hi => ?_, RC, ?_⟩
  · rw [h _ (by omega), h _ (by omega), h _ (by omega), h _ (by omega), h _ (by omega), h _ (by omega), h _ (by omega), h _ (by omega)]
    exact RB i hi
  · unfold logE
    rw [h 9 (by omega)]
    refine ⟨L1, L2, fun a ha => ?_⟩
    rw [h _ (by omega), h _ (by omega), h _ (by omega), h _ (by omega), h _ (by omega), h _ (by omega)]
    exact L3 a ha
theorem E_X12_remembers {r : Nat} {n : Nat} {a0 : Nat} {h : jH} {q : jH} (M : mS (oc h) a0) (h7 : oi (oc h) a0 7 = nI r) (hr : r ≤ 12) (hf : F_X12_remembers n a0 h = some q) : oi (oc q) a0 7 = nI (if r < 12 then r + 1 else 12) ∧ (∀ k, k < 435 → oi (oc q) (a0 + 5) (435 * ((if r < 12 then r + 1 else 12) - 1) + k) = wl (oc h) a0 k) ∧ (∀ j, 1 ≤ j → j < (if r < 12 then r + 1 else 12) → ∀ k, k < 435 → oi (oc q) (a0 + 5) (435 * ((if r < 12 then r + 1 else 12) - 1 - j) + k) = oi (oc h) (a0 + 5) (435 * (r - j) + k)) ∧ frM a0 [5] [7] (oc h) (oc q) ∧ q.1 = h.1 := by
  unfold F_X12_remembers at hf
  replace hf := jbind hf
  obtain ⟨v1, e1, hf⟩ := hf
  have r1 := oc_gI e1
  subst r1
  clear e1
  replace hf := jite hf
  rcases hf with ⟨c2, hf⟩ | ⟨c2, hf⟩
  · skip
    -- leaf 0: F_X12_remembers_11 n n a0 (0 : Int32) h
    rw [h7] at c2
    have r9 : r = 12 := by rw [show (12 : Int32) = nI 12 from rfl, nI_eq (by omega) (by omega)] at c2; exact c2
    subst r9
    obtain ⟨h2, ⟨a1, a2, a3⟩, hf⟩ := E_X12_remembers_11 n 0 M rfl (by omega) hf
    have M2 := mS_fr M a2 (by decide) (by decide)
    have g7 : oi (oc h2) a0 7 = nI 12 := (frM_oi a2 (by decide) (by decide)).trans h7
    obtain ⟨b1, b2, b3⟩ := E_X12_remembers_55 (r := 12) n 0 M2 rfl (by omega) g7 (by omega) (by omega) hf
    have w2 : ∀ k, oi (oc h2) (a0 + 1) k = oi (oc h) (a0 + 1) k := fun k => by unfold oi; rw [a2 _ _ (fun c hc q => by simp at hc; omega) (fun q => by omega)]
    rw [if_neg (by omega)]
    refine ⟨(frM_oi b2 (by decide) (by decide)).trans g7, fun k hk => ?_, fun j j1 j2 k hk => ?_, frM_tr (frM_le a2 (fun c h => h) (fun c h => by cases h)) (frM_le b2 (fun c h => h) (fun c h => by cases h)), b3.trans a3⟩
    · rw [b1, if_pos (by omega), w2, show 435 * (12 - 1) + k - 435 * (12 - 1) = k by omega]
    · rw [b1, if_neg (by omega), a1, if_pos (by omega)]; congr 1; omega
  · skip
    replace hf := jbind hf
    obtain ⟨v45, e3, hf⟩ := hf
    have r3 := oc_gI e3
    subst r3
    clear e3
    replace hf := jbind hf
    obtain ⟨h50, e4, hf⟩ := hf
    obtain ⟨o4, z4⟩ := oc_pf e4
    clear e4
    -- leaf 1: F_X12_remembers_55 n n a0 (0 : Int32) h50
    rw [h7] at c2
    have r9 : r < 12 := by have : r ≠ 12 := fun z => c2 (by rw [z]; rfl); omega
    rw [h7, nI_1] at o4
    have f4 : frM a0 [5] [7] (oc h) (oc h50) := by rw [o4]; exact frM_f (by decide)
    have M2 := mS_fr M f4 (by decide) (by decide)
    have g7 : oi (oc h50) a0 7 = nI (r + 1) := by rw [o4, oi_eq]
    obtain ⟨b1, b2, b3⟩ := E_X12_remembers_55 (r := r + 1) n 0 M2 rfl (by omega) g7 (by omega) (by omega) hf
    have w2 : ∀ c k, c ≠ 0 → oi (oc h50) (a0 + c) k = oi (oc h) (a0 + c) k := fun c k hc => by rw [o4, oi_ne (Or.inl (by omega))]
    rw [if_pos r9]
    refine ⟨(frM_oi b2 (by decide) (by decide)).trans g7, fun k hk => ?_, fun j j1 j2 k hk => ?_, frM_tr f4 (frM_le b2 (fun c h => h) (fun c h => by cases h)), b3.trans z4⟩
    · rw [b1, if_pos (by omega), w2 1 _ (by omega)]; congr 1; omega
    · rw [b1, if_neg (by omega), w2 5 _ (by omega), show r + 1 - 1 = r by omega]
theorem E_X12_undo {r : Nat} {n : Nat} {a0 : Nat} {h : jH} {q : Int32 × jH} (M : mS (oc h) a0) (h7 : oi (oc h) a0 7 = nI r) (hr : r ≤ 12) (hf : F_X12_undo n a0 h = some q) : (r = 0 ∧ q.1 = 0 ∧ frM a0 [] [0] (oc h) (oc q.2) ∧ q.2.1 = h.1 ∧ oi (oc q.2) a0 0 = 0) ∨ (1 ≤ r ∧ q.1 = 1 ∧ oi (oc q.2) a0 7 = nI (r - 1) ∧ (∀ k, wl (oc q.2) a0 k = if k < 435 then oi (oc h) (a0 + 5) (435 * (r - 1) + k) else wl (oc h) a0 k) ∧ frM a0 [1] [0, 7] (oc h) (oc q.2) ∧ q.2.1 = h.1 ∧ oi (oc q.2) a0 0 = 0) := by
  unfold F_X12_undo at hf
  replace hf := jbind hf
  obtain ⟨h2, e1, hf⟩ := hf
  obtain ⟨o1, z1⟩ := oc_pf e1
  clear e1
  replace hf := jbind hf
  obtain ⟨v6, e2, hf⟩ := hf
  have r2 := oc_gI e2
  rw [o1] at r2
  rw [oi_ne (Or.inr (by decide))] at r2
  subst r2
  clear e2
  replace hf := jite hf
  rcases hf with ⟨c3, hf⟩ | ⟨c3, hf⟩
  · skip
    cases hf
    -- leaf 0: ((0 : Int32), h2)
    rw [h7] at c3
    have r9 : r = 0 := by rw [show (0 : Int32) = nI 0 from rfl, nI_eq (by omega) (by omega)] at c3; exact c3
    exact Or.inl ⟨r9, rfl, by show frM a0 [] [0] (oc h) (oc h2); rw [o1]; exact frM_f (by decide), z1, by show oi (oc h2) a0 0 = 0; rw [o1, oi_eq]⟩
  · skip
    replace hf := jbind hf
    obtain ⟨v16, e4, hf⟩ := hf
    have r4 := oc_gI e4
    rw [o1] at r4
    rw [oi_ne (Or.inr (by decide))] at r4
    subst r4
    clear e4
    replace hf := jbind hf
    obtain ⟨h21, e5, hf⟩ := hf
    obtain ⟨o5, z5⟩ := oc_pf e5
    clear e5
    -- leaf 1: F_X12_undo_26 n n a0 (0 : Int32) h21
    rw [h7] at c3
    have r9 : 1 ≤ r := by have : r ≠ 0 := fun z => c3 (by rw [z]; rfl); omega
    obtain ⟨r2, rfl⟩ : ∃ r2, r = r2 + 1 := ⟨r - 1, by omega⟩
    rw [h7, nI_pred] at o5
    have f5 : frM a0 [1] [0, 7] (oc h) (oc h21) := by rw [o5, o1]; exact frM_tr (frM_f (by decide)) (frM_f (by decide))
    have M2 := mS_fr M f5 (by decide) (by decide)
    obtain ⟨b1, b2, b3, b4⟩ := E_X12_undo_26 (r := r2) n 0 M2 rfl (by omega) (by rw [o5, oi_eq]) (by omega) hf
    have w2 : ∀ c k, c ≠ 0 → oi (oc h21) (a0 + c) k = oi (oc h) (a0 + c) k := fun c k hc => by rw [o5, oi_ne (Or.inl (by omega)), o1, oi_ne (Or.inl (by omega))]
    refine Or.inr ⟨by omega, b4, ?_, fun k => ?_, frM_tr f5 (frM_le b2 (fun c h => h) (fun c h => by cases h)), b3.trans (z5.trans z1), by rw [frM_oi b2 (by decide) (by decide), o5, oi_ne (Or.inr (by decide)), o1, oi_eq]⟩
    · rw [frM_oi b2 (by decide) (by decide), o5, oi_eq]; rfl
    · show oi (oc q.2) (a0 + 1) k = _
      rw [b1]
      by_cases y : k < 435
      · rw [if_pos (by omega), if_pos y, w2 5 _ (by omega)]; rfl
      · rw [if_neg (by omega), if_neg y, w2 1 _ (by omega)]
end
section
/-! what a ring fades, catches and falls by, of a world -/
def litW (W : jWd) (i : Nat) (hr : Int32) : Int32 := if (4 : Int32) * hr ≤ W (11 + 8 * i) ∧ W (11 + 8 * i) ≤ (4 : Int32) * hr + W 6 then 1 else 0
def gapW (W : jWd) (i : Nat) (last : Int32) : Int32 := if (i : Int) + 1 < (W 0).toInt then W (11 + 8 * (i + 1)) - W (11 + 8 * i) else last
def factW (W : jWd) (i : Nat) (s n : Int32) : Int32 := if s = 0 then nI i else if s = 1 then W (11 + 8 * i) else if s = 2 then gapW W i 99 else if s = 3 then W (15 + 8 * i) else if s = 4 then W (16 + 8 * i) else if s = 5 then W 3 else if s = 6 then W 4 else if s = 7 then W (14 + 8 * i) else if s = 8 then W (13 + 8 * i) else if s = 9 then litW W i (W 3) else if s = 10 then W (17 + 8 * i) else n
def opW (s a b : Int32) : Int32 := if s = 12 then a + b else if (if s = 13 then decide (a < b) else if s = 14 then decide (b < a) else if s = 16 then decide (a + b = 2) else decide (0 < a + b)) = true then 1 else 0
/-- one step of a condition on the values so far, the latest first -/
def stpC (W : jWd) (i : Nat) (s n : Int32) (st : List Int32) : List Int32 := if s.toInt ≤ 11 then factW W i s n :: st else if s = 15 then (match st with | a :: t => (1 - a) :: t | [] => []) else (match st with | b :: a :: t => opW s a b :: t | _ => [])
def runC (W : jWd) (i a : Nat) : Nat → List Int32
  | 0 => []
  | k + 1 => stpC W i (W (484 + 2 * (a + k))) (W (485 + 2 * (a + k))) (runC W i a k)
/-- kinds of the values so far: true of one that is 0 or 1 -/
def tyC (s : Int32) (ty : List Bool) : Option (List Bool) := if s.toInt ≤ 11 then (if ty.length ≤ 22 then some ((decide (7 ≤ s.toInt) && decide (s.toInt ≤ 10)) :: ty) else none) else if s = 15 then (match ty with | true :: t => some (true :: t) | _ => none) else if s = 12 then (match ty with | false :: false :: t => some (false :: t) | _ => none) else if s = 13 ∨ s = 14 then (match ty with | false :: false :: t => some (true :: t) | _ => none) else if s = 16 ∨ s = 17 then (match ty with | true :: true :: t => some (true :: t) | _ => none) else none
def tyR (W : jWd) (a : Nat) : Nat → Option (List Bool)
  | 0 => some []
  | k + 1 => (tyR W a k).bind fun ty => tyC (W (484 + 2 * (a + k))) ty
/-- values of their kinds -/
def tyV : List Bool → List Int32 → Prop
  | [], [] => True
  | b :: t, v :: u => (b = true → v = 0 ∨ v = 1) ∧ tyV t u
  | _, _ => False
theorem tyV_len : ∀ {t : List Bool} {u : List Int32}, tyV t u → t.length = u.length
  | [], [], _ => rfl
  | _ :: _, _ :: _, h => congrArg (· + 1) (tyV_len h.2)
  | [], _ :: _, h => h.elim
  | _ :: _, [], h => h.elim
theorem litW_01 {W : jWd} {i : Nat} {h : Int32} : litW W i h = 0 ∨ litW W i h = 1 := by
  unfold litW
  split
  · exact Or.inr rfl
  · exact Or.inl rfl
theorem opW_01 {s a b : Int32} (h : s ≠ 12) : opW s a b = 0 ∨ opW s a b = 1 := by
  unfold opW
  rw [if_neg h]
  by_cases q : (if s = 13 then decide (a < b) else if s = 14 then decide (b < a) else if s = 16 then decide (a + b = 2) else decide (0 < a + b)) = true
  · rw [if_pos q]; exact Or.inr rfl
  · rw [if_neg q]; exact Or.inl rfl
theorem fact_01 {W : jWd} {i : Nat} {s n : Int32} (K : wOK W) (hi : (i : Int) < (W 0).toInt) (h7 : 7 ≤ s.toInt) (h10 : s.toInt ≤ 10) : factW W i s n = 0 ∨ factW W i s n = 1 := by
  obtain ⟨-, -, f2, f3, -, -, f6, -⟩ := K.2.1 i hi
  have l : ∀ k : Int32, s = k → s.toInt = k.toInt := fun k h => by rw [h]
  have c : s = 7 ∨ s = 8 ∨ s = 9 ∨ s = 10 := by
    have : s.toInt = 7 ∨ s.toInt = 8 ∨ s.toInt = 9 ∨ s.toInt = 10 := by omega
    rcases this with h | h | h | h
    · exact Or.inl (i_eq.mpr h)
    · exact Or.inr (Or.inl (i_eq.mpr h))
    · exact Or.inr (Or.inr (Or.inl (i_eq.mpr h)))
    · exact Or.inr (Or.inr (Or.inr (i_eq.mpr h)))
  rcases c with rfl | rfl | rfl | rfl
  · exact f3
  · exact f2
  · exact litW_01
  · exact f6
/-- a step keeps the kinds -/
theorem tyC_ok {W : jWd} {i : Nat} {s n : Int32} {ty ty2 : List Bool} {st : List Int32} (K : wOK W) (hi : (i : Int) < (W 0).toInt) (h : tyV ty st) (e : tyC s ty = some ty2) : tyV ty2 (stpC W i s n st) := by
  unfold tyC at e
  unfold stpC
  by_cases c : s.toInt ≤ 11
  · rw [if_pos c] at e ⊢
    split at e
    · cases e
      refine ⟨fun z => ?_, h⟩
      rw [Bool.and_eq_true, decide_eq_true_iff, decide_eq_true_iff] at z
      exact fact_01 K hi z.1 z.2
    · cases e
  rw [if_neg c] at e ⊢
  by_cases c15 : s = 15
  · rw [if_pos c15] at e ⊢
    match ty, st, h, e with
    | true :: t, v :: u, h, e =>
      cases e
      refine ⟨fun _ => ?_, h.2⟩
      rcases h.1 rfl with q | q <;> subst q
      · exact Or.inr (by decide)
      · exact Or.inl (by decide)
    | false :: t, v :: u, h, e => cases e
    | [], [], h, e => cases e
  rw [if_neg c15] at e ⊢
  by_cases c12 : s = 12
  · rw [if_pos c12] at e
    match ty, st, h, e with
    | false :: false :: t, b :: a :: u, h, e =>
      cases e
      exact ⟨fun z => (by cases z), h.2.2⟩
    | true :: t, _, h, e => cases e
    | [], _, h, e => cases e
    | [false], _, h, e => cases e
    | false :: true :: t, _, h, e => cases e
  rw [if_neg c12] at e
  by_cases c13 : s = 13 ∨ s = 14
  · rw [if_pos c13] at e
    match ty, st, h, e with
    | false :: false :: t, b :: a :: u, h, e =>
      cases e
      exact ⟨fun _ => opW_01 c12, h.2.2⟩
    | true :: t, _, h, e => cases e
    | [], _, h, e => cases e
    | [false], _, h, e => cases e
    | false :: true :: t, _, h, e => cases e
  rw [if_neg c13] at e
  by_cases c16 : s = 16 ∨ s = 17
  · rw [if_pos c16] at e
    match ty, st, h, e with
    | true :: true :: t, b :: a :: u, h, e =>
      cases e
      exact ⟨fun _ => opW_01 c12, h.2.2⟩
    | false :: t, _, h, e => cases e
    | [], _, h, e => cases e
    | [true], _, h, e => cases e
    | true :: false :: t, _, h, e => cases e
  · rw [if_neg c16] at e
    cases e
theorem tyR_ok {W : jWd} {i a : Nat} (K : wOK W) (hi : (i : Int) < (W 0).toInt) : ∀ (k : Nat) {ty : List Bool}, tyR W a k = some ty → tyV ty (runC W i a k)
  | 0, ty, e => by cases e; trivial
  | k + 1, ty, e => by
    unfold tyR at e
    obtain ⟨t0, e0, e1⟩ := jbind e
    exact tyC_ok K hi (tyR_ok K hi k e0) e1
def holdsW (W : jWd) (i n : Nat) : Prop := (runC W i (W (438 + 4 * n)).toInt.toNat ((W (439 + 4 * n)).toInt.toNat - (W (438 + 4 * n)).toInt.toNat)).headD 1 = 1
noncomputable def sumW (W : jWd) (kind : Int32) (i : Nat) : Nat → Int32
  | 0 => 0
  | n + 1 => @ite _ (W (436 + 4 * n) = kind ∧ holdsW W i n) (Classical.propDecidable _) (sumW W kind i n + W (437 + 4 * n)) (sumW W kind i n)
/-- what ring i fades, catches, falls by -/
noncomputable def byW (W : jWd) (kind : Int32) (i : Nat) : Int32 := if W 2 = 1 then sumW W kind i (W 435).toInt.toNat else if kind = 0 then litW W i (W 3) else if kind = 1 then 10 else 0
/-- a code of the class, and the reference's two numbers -/
def codeR (c s n : Int32) : Prop := (0 ≤ s.toInt ∧ s.toInt ≤ 10 ∧ c = s) ∨ (s = 11 ∧ 0 ≤ n.toInt ∧ n.toInt ≤ 999 ∧ c.toInt = 256 + n.toInt) ∨ (s = 12 ∧ c = 43) ∨ (s = 13 ∧ c = 60) ∨ (s = 14 ∧ c = 62) ∨ (s = 15 ∧ c = 11) ∨ (s = 16 ∧ c = 12) ∨ (s = 17 ∧ c = 13)
def lawS (O : jO) (l : Nat) : Prop := O l 0 = .ref (l + 1) ∧ O l 1 = .ref (l + 2) ∧ O l 2 = .ref (l + 3) ∧ O l 3 = .ref (l + 4) ∧ O l 4 = .ref (l + 5)
/-- the lines of a law, n of them, and their codes -/
def linE (O : jO) (l : Nat) (W : jWd) (n : Nat) : Prop := ∀ i : Nat, i < n → oi O (l + 1) i = W (436 + 4 * i) ∧ oi O (l + 2) i = W (437 + 4 * i) ∧ oi O (l + 3) i = W (439 + 4 * i) ∧ W (438 + 4 * i) = (if i = 0 then 0 else W (439 + 4 * (i - 1))) ∧ 0 ≤ (W (438 + 4 * i)).toInt ∧ (W (438 + 4 * i)).toInt ≤ (W (439 + 4 * i)).toInt ∧ (W (439 + 4 * i)).toInt ≤ 400 ∧ 0 ≤ (W (437 + 4 * i)).toInt ∧ (W (437 + 4 * i)).toInt ≤ 100 ∧
  (∀ j : Nat, (W (438 + 4 * i)).toInt ≤ (j : Int) → (j : Int) < (W (439 + 4 * i)).toInt → codeR (oi O (l + 4) j) (W (484 + 2 * j)) (W (485 + 2 * j))) ∧
  (∃ ty, tyR W (W (438 + 4 * i)).toInt.toNat ((W (439 + 4 * i)).toInt.toNat - (W (438 + 4 * i)).toInt.toNat) = some ty ∧ (ty = [] ∨ ty = [true]))
def lawE (O : jO) (l : Nat) (W : jWd) : Prop := lawS O l ∧ oi O l 7 = W 2 ∧ (W 2 = 0 ∨ W 2 = 1) ∧ (W 2 = 1 → oi O l 8 = W 435 ∧ (0 ≤ (W 435).toInt ∧ (W 435).toInt ≤ 12) ∧ linE O l W (W 435).toInt.toNat)
end
