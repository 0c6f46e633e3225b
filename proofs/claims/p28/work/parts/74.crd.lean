/-! the class's rod: what its readers answer -/
theorem nI_lI {i : Nat} {v : Int32} (hi : i < 2147483648) : nI i < v ↔ (i : Int) < v.toInt := by
  rw [Int32.lt_iff_toInt_lt, nI_toInt hi]
theorem nI_eI {i : Nat} {v : Int32} (hi : i < 2147483648) : v ≤ nI i ↔ v.toInt ≤ (i : Int) := by
  rw [Int32.le_iff_toInt_le, nI_toInt hi]
theorem nI_cl {i : Nat} (hi : i < 2147483648) : (nI i).toNatClampNeg = i := nI_clamp hi
theorem i_eq {x y : Int32} : x = y ↔ x.toInt = y.toInt := Int32.toInt_inj.symm
theorem wsub {W : jWd} (K : wOK W) {i : Nat} (hi : (i : Int) + 1 < (W 0).toInt) : (W (11 + 8 * (i + 1)) - W (11 + 8 * i)).toInt = (W (11 + 8 * (i + 1))).toInt - (W (11 + 8 * i)).toInt := by
  have a := (K.2.1 i (by omega)).1
  have b := (K.2.1 (i + 1) (by omega)).1
  exact jsub (by omega) (by omega)
theorem E_X8_gap {W : jWd} {i : Nat} {n : Nat} {a0 : Nat} {x1 : Int32} {x2 : Int32} {h : jH} {q : Int32} (R : rodE (oc h) a0 W) (K : wOK W) (hx : x1 = nI i) (hi : i < 16) (hf : F_X8_gap n a0 x1 x2 h = some q) : q = if (i : Int) + 1 < (W 0).toInt then W (11 + 8 * (i + 1)) - W (11 + 8 * i) else x2 := by
  unfold F_X8_gap at hf
  obtain ⟨⟨s0, s1, s2, s3, s4, s5⟩, ⟨u5, u10, u11, u12, u13, u14, u15, u16, u17⟩, RB, RC, RL⟩ := id R
  subst hx
  have i9 : i < 2147483648 := by omega
  have K0 := K.1
  have l0 : (0 : Int32).toInt = 0 := rfl
  have l1 : (1 : Int32).toInt = 1 := rfl
  replace hf := jite hf
  rcases hf with ⟨c1, hf⟩ | ⟨c1, hf⟩
  · skip
    cases hf
    -- leaf 0: x2
    exact absurd c1 (nI_pos i9)
  · skip
    replace hf := jbind hf
    obtain ⟨v6, e2, hf⟩ := hf
    have r2 := oc_gI e2
    subst r2
    clear e2
    replace hf := jite hf
    rcases hf with ⟨c3, hf⟩ | ⟨c3, hf⟩
    · skip
      replace hf := jbind hf
      obtain ⟨p19, e4, hf⟩ := hf
      have r4 := oc_gR e4
      rw [s0] at r4
      cases r4
      clear e4
      replace hf := jbind hf
      obtain ⟨v25, e5, hf⟩ := hf
      obtain ⟨r5, y5⟩ := oc_al e5
      subst r5
      clear e5
      replace hf := jbind hf
      obtain ⟨p27, e6, hf⟩ := hf
      have r6 := oc_gR e6
      rw [s0] at r6
      cases r6
      clear e6
      replace hf := jbind hf
      obtain ⟨v31, e7, hf⟩ := hf
      obtain ⟨r7, y7⟩ := oc_al e7
      subst r7
      clear e7
      cases hf
      -- leaf 10: (v25 - v31)
      rw [u5, nI_lI i9, jsub (by omega) (by omega)] at c3
      rw [if_pos (by omega), nI_1, nI_cl (by omega), nI_cl i9, (RB (i + 1) (by omega)).1, (RB i (by omega)).1]
    · skip
      cases hf
      -- leaf 11: x2
      rw [u5, nI_lI i9, jsub (by omega) (by omega)] at c3
      rw [if_neg (by omega)]
theorem E_X8_goTogether {W : jWd} {i : Nat} {d : Bool} {n : Nat} {a0 : Nat} {x1 : Int32} {x2 : Int32} {h : jH} {q : Int32} (R : rodE (oc h) a0 W) (K : wOK W) (hx : x1 = nI i) (hi : (i : Int) + 1 < (W 0).toInt) (hd : x2 = dI d) (hf : F_X8_goTogether n a0 x1 x2 h = some q) : (q = 0 ∨ q = 1) ∧ (q = 1 ↔ tog W i d) := by
  unfold F_X8_goTogether at hf
  obtain ⟨⟨s0, s1, s2, s3, s4, s5⟩, ⟨u5, u10, u11, u12, u13, u14, u15, u16, u17⟩, RB, RC, RL⟩ := id R
  subst hx hd
  have K0 := K.1
  have i9 : i < 2147483648 := by omega
  have g1 := (RB (i + 1) (by omega)).1
  obtain ⟨g0, g2, -, -, -, -, -, g8⟩ := RB i (by omega)
  have kc := (K.2.1 i (by omega)).2.1
  have ks := wsub K hi
  have k0 := (K.2.1 i (by omega)).1
  have k1 := (K.2.1 (i + 1) (by omega)).1
  have l0 : (0 : Int32).toInt = 0 := rfl
  have l1 : (1 : Int32).toInt = 1 := rfl
  replace hf := jbind hf
  obtain ⟨p1, e1, hf⟩ := hf
  have r1 := oc_gR e1
  rw [s0] at r1
  cases r1
  clear e1
  replace hf := jbind hf
  obtain ⟨v7, e2, hf⟩ := hf
  obtain ⟨r2, y2⟩ := oc_al e2
  subst r2
  clear e2
  replace hf := jbind hf
  obtain ⟨p9, e3, hf⟩ := hf
  have r3 := oc_gR e3
  rw [s0] at r3
  cases r3
  clear e3
  replace hf := jbind hf
  obtain ⟨v13, e4, hf⟩ := hf
  obtain ⟨r4, y4⟩ := oc_al e4
  subst r4
  clear e4
  replace hf := jbind hf
  obtain ⟨v17, e5, hf⟩ := hf
  have r5 := oc_gI e5
  subst r5
  clear e5
  replace hf := jite hf
  rcases hf with ⟨c6, hf⟩ | ⟨c6, hf⟩
  · skip
    cases hf
    -- leaf 0: (1 : Int32)
    rw [b_ask (by omega), g8] at c6
    exact ⟨Or.inr rfl, fun _ => Or.inl c6, fun _ => rfl⟩
  · skip
    replace hf := jite hf
    rcases hf with ⟨c7, hf⟩ | ⟨c7, hf⟩
    · skip
      replace hf := jbind hf
      obtain ⟨p44, e8, hf⟩ := hf
      have r8 := oc_gR e8
      rw [s1] at r8
      cases r8
      clear e8
      replace hf := jbind hf
      obtain ⟨v48, e9, hf⟩ := hf
      obtain ⟨r9, y9⟩ := oc_al e9
      subst r9
      clear e9
      replace hf := jite hf
      rcases hf with ⟨c10, hf⟩ | ⟨c10, hf⟩
      · skip
        cases hf
        -- leaf 100: (0 : Int32)
        rw [b_ask (by omega), g8] at c6
        cases d with
        | true => exact absurd c7 (by decide)
        | false =>
          rw [nI_1, nI_cl (by omega), nI_cl (by omega), g1, g0, g2, Int32.le_iff_toInt_le, jadd (by omega) (by omega), ks] at c10
          refine ⟨Or.inl rfl, fun z => absurd z (by decide), fun z => ?_⟩
          rcases z with z | z
          · exact absurd z c6
          · rw [if_neg (by decide)] at z; omega
      · skip
        cases hf
        -- leaf 101: (1 : Int32)
        rw [b_ask (by omega), g8] at c6
        cases d with
        | true => exact absurd c7 (by decide)
        | false =>
          rw [nI_1, nI_cl (by omega), nI_cl (by omega), g1, g0, g2, Int32.le_iff_toInt_le, jadd (by omega) (by omega), ks] at c10
          exact ⟨Or.inr rfl, fun _ => Or.inr (by rw [if_neg (by decide)]; omega), fun _ => rfl⟩
    · skip
      replace hf := jite hf
      rcases hf with ⟨c11, hf⟩ | ⟨c11, hf⟩
      · skip
        cases hf
        -- leaf 110: (1 : Int32)
        rw [b_ask (by omega), g8] at c6
        cases d with
        | false => exact absurd rfl c7
        | true =>
          rw [nI_1, nI_cl (by omega), nI_cl (by omega), g1, g0, i_eq, ks] at c11
          exact ⟨Or.inr rfl, fun _ => Or.inr (by rw [if_pos rfl]; omega), fun _ => rfl⟩
      · skip
        cases hf
        -- leaf 111: (0 : Int32)
        rw [b_ask (by omega), g8] at c6
        cases d with
        | false => exact absurd rfl c7
        | true =>
          rw [nI_1, nI_cl (by omega), nI_cl (by omega), g1, g0, i_eq, ks] at c11
          refine ⟨Or.inl rfl, fun z => absurd z (by decide), fun z => ?_⟩
          rcases z with z | z
          · exact absurd z c6
          · rw [if_pos rfl] at z; omega
theorem E_X8_isStopped_16 {W : jWd} {i : Nat} {d : Bool} {n : Nat} {a0 : Nat} {x1 : Int32} {x2 : Int32} {s0 : Int32} {s1 : Int32} {h : jH} {q : Int32} (R : rodE (oc h) a0 W) (K : wOK W) (hx : x1 = nI i) (hi : (i : Int) < (W 0).toInt) (hd : x2 = dI d) (h0 : s0 = W (11 + 8 * i)) (h1 : s1 = if d = true then 31 else 0) (hf : F_X8_isStopped_16 n a0 x1 x2 s0 s1 h = some q) : (q = 0 ∨ q = 1) ∧ (q = 1 ↔ stp W i d) := by
  unfold F_X8_isStopped_16 at hf
  obtain ⟨⟨t0, t1, t2, t3, t4, t5⟩, ⟨u5, u10, u11, u12, u13, u14, u15, u16, u17⟩, RB, RC, RL⟩ := id R
  subst hx hd h0
  have K0 := K.1
  have i9 : i < 2147483648 := by omega
  obtain ⟨g0, -, g3, -⟩ := RB i (by omega)
  have k0 := (K.2.1 i (by omega)).1
  obtain ⟨-, -, -, -, -, -, kj, -⟩ := id K
  have l31 : (31 : Int32).toInt = 31 := rfl
  have l0 : (0 : Int32).toInt = 0 := rfl
  have l1 : (1 : Int32).toInt = 1 := rfl
  replace hf := jite hf
  rcases hf with ⟨c1, hf⟩ | ⟨c1, hf⟩
  · skip
    cases hf
    -- leaf 0: (1 : Int32)
    refine ⟨Or.inr rfl, fun _ => Or.inl ?_, fun _ => rfl⟩
    rw [c1, h1]
    cases d <;> rfl
  · skip
    replace hf := jbind hf
    obtain ⟨v22, e2, hf⟩ := hf
    have r2 := oc_gI e2
    subst r2
    clear e2
    replace hf := jite hf
    rcases hf with ⟨c3, hf⟩ | ⟨c3, hf⟩
    · skip
      replace hf := jbind hf
      obtain ⟨p34, e4, hf⟩ := hf
      have r4 := oc_gR e4
      rw [t0] at r4
      cases r4
      clear e4
      replace hf := jbind hf
      obtain ⟨v38, e5, hf⟩ := hf
      obtain ⟨r5, y5⟩ := oc_al e5
      subst r5
      clear e5
      replace hf := jite hf
      rcases hf with ⟨c6, hf⟩ | ⟨c6, hf⟩
      · skip
        replace hf := jbind hf
        obtain ⟨v53, e7, hf⟩ := hf
        have r7 := oc_gI e7
        subst r7
        clear e7
        replace hf := jite hf
        rcases hf with ⟨c8, hf⟩ | ⟨c8, hf⟩
        · skip
          cases hf
          -- leaf 1000: (1 : Int32)
          rw [b_ask (by omega), g3] at c3
          cases d with
          | true => exact absurd c6 (by decide)
          | false =>
            rw [nI_cl (by omega), g0, u11] at c8
            exact ⟨Or.inr rfl, fun _ => Or.inr ⟨c3, by rw [c8]; rfl⟩, fun _ => rfl⟩
        · skip
          cases hf
          -- leaf 1001: (0 : Int32)
          have z1 : ¬ (W (11 + 8 * i)).toInt = (if d = true then 31 else 0) := fun z => c1 (i_eq.mpr (by rw [z, h1]; cases d <;> rfl))
          rw [b_ask (by omega), g3] at c3
          cases d with
          | true => exact absurd c6 (by decide)
          | false =>
            rw [nI_cl (by omega), g0, u11] at c8
            refine ⟨Or.inl rfl, fun z => absurd z (by decide), fun z => ?_⟩
            rcases z with z | ⟨-, z⟩
            · exact absurd z z1
            · exact absurd (i_eq.mpr z) c8
      · skip
        replace hf := jbind hf
        obtain ⟨v44, e9, hf⟩ := hf
        have r9 := oc_gI e9
        subst r9
        clear e9
        replace hf := jite hf
        rcases hf with ⟨c10, hf⟩ | ⟨c10, hf⟩
        · skip
          cases hf
          -- leaf 1010: (1 : Int32)
          rw [b_ask (by omega), g3] at c3
          cases d with
          | false => exact absurd rfl c6
          | true =>
            rw [nI_cl (by omega), g0, u11, i_eq, jsub (by omega) (by omega)] at c10
            exact ⟨Or.inr rfl, fun _ => Or.inr ⟨c3, by rw [if_pos rfl]; omega⟩, fun _ => rfl⟩
        · skip
          cases hf
          -- leaf 1011: (0 : Int32)
          have z1 : ¬ (W (11 + 8 * i)).toInt = (if d = true then 31 else 0) := fun z => c1 (i_eq.mpr (by rw [z, h1]; cases d <;> rfl))
          rw [b_ask (by omega), g3] at c3
          cases d with
          | false => exact absurd rfl c6
          | true =>
            rw [nI_cl (by omega), g0, u11, i_eq, jsub (by omega) (by omega)] at c10
            refine ⟨Or.inl rfl, fun z => absurd z (by decide), fun z => ?_⟩
            rcases z with z | ⟨-, z⟩
            · exact absurd z z1
            · rw [if_pos rfl] at z; omega
    · skip
      cases hf
      -- leaf 11: (0 : Int32)
      have z1 : ¬ (W (11 + 8 * i)).toInt = (if d = true then 31 else 0) := fun z => c1 (i_eq.mpr (by rw [z, h1]; cases d <;> rfl))
      rw [b_ask (by omega), g3] at c3
      refine ⟨Or.inl rfl, fun z => absurd z (by decide), fun z => ?_⟩
      rcases z with z | ⟨z, -⟩
      · exact absurd z z1
      · exact absurd z c3
theorem E_X8_isStopped {W : jWd} {i : Nat} {d : Bool} {n : Nat} {a0 : Nat} {x1 : Int32} {x2 : Int32} {h : jH} {q : Int32} (R : rodE (oc h) a0 W) (K : wOK W) (hx : x1 = nI i) (hi : (i : Int) < (W 0).toInt) (hd : x2 = dI d) (hf : F_X8_isStopped n a0 x1 x2 h = some q) : (q = 0 ∨ q = 1) ∧ (q = 1 ↔ stp W i d) := by
  unfold F_X8_isStopped at hf
  obtain ⟨⟨s0, s1, s2, s3, s4, s5⟩, ⟨u5, u10, u11, u12, u13, u14, u15, u16, u17⟩, RB, RC, RL⟩ := id R
  subst hx
  have K0 := K.1
  have i9 : i < 2147483648 := by omega
  obtain ⟨g0, -⟩ := RB i (by omega)
  replace hf := jbind hf
  obtain ⟨p1, e1, hf⟩ := hf
  have r1 := oc_gR e1
  rw [s0] at r1
  cases r1
  clear e1
  replace hf := jbind hf
  obtain ⟨v5, e2, hf⟩ := hf
  obtain ⟨r2, y2⟩ := oc_al e2
  subst r2
  clear e2
  replace hf := jite hf
  rcases hf with ⟨c3, hf⟩ | ⟨c3, hf⟩
  · skip
    -- leaf 0: F_X8_isStopped_16 n a0 x1 x2 v5 (0 : Int32) h
    have z : d = false := by cases d with | false => rfl | true => exact absurd (hd.symm.trans c3) (by decide)
    subst z
    rw [nI_cl (by omega), g0] at hf
    exact E_X8_isStopped_16 R K rfl hi hd rfl rfl hf
  · skip
    -- leaf 1: F_X8_isStopped_16 n a0 x1 x2 v5 (31 : Int32) h
    have z : d = true := by cases d with | true => rfl | false => exact absurd hd c3
    subst z
    rw [nI_cl (by omega), g0] at hf
    exact E_X8_isStopped_16 R K rfl hi hd rfl rfl hf
theorem E_X8_goers_64 {n : Nat} {W : jWd} {d : Bool} {lo : Nat} {hi : Nat} (K : wOK W) : ∀ (k : Nat) {a0 : Nat} {x2 : Int32} {x3 : Int32} {x4 : Int32} {x5 : Int32} {h : jH} {q : Int32} (c : Nat) (R : rodE (oc h) a0 W) (hd : x2 = dI d) (h3 : x3 = nI lo) (h4 : x4 = nI hi) (hx : x5 = nI c) (y0 : lo ≤ hi) (y1 : (hi : Int) < (W 0).toInt) (y2 : lo ≤ c) (y3 : c ≤ hi + 1) (y4 : ∀ j, lo ≤ j → j < c → ¬ stp W j d), F_X8_goers_64 n k a0 x2 x3 x4 x5 h = some q → (q = 0 ∧ ∃ j, lo ≤ j ∧ j ≤ hi ∧ stp W j d) ∨ (q = ((1 : Int32) <<< (nI (hi + 1) &&& 31)) - ((1 : Int32) <<< (nI lo &&& 31)) ∧ ∀ j, lo ≤ j → j ≤ hi → ¬ stp W j d)
  | 0, a0, x2, x3, x4, x5, h, q, c, R, hd, h3, h4, hx, y0, y1, y2, y3, y4, hf => by cases hf
  | k + 1, a0, x2, x3, x4, x5, h, q, c, R, hd, h3, h4, hx, y0, y1, y2, y3, y4, hf => by
    replace hf : F_X8_goers_64_b n (F_X8_goers_64 n k) a0 x2 x3 x4 x5 h = some q := hf
    unfold F_X8_goers_64_b at hf
    have K0 := K.1
    replace hf := jite hf
    rcases hf with ⟨c1, hf⟩ | ⟨c1, hf⟩
    · skip
      cases hf
      -- leaf 0: (((1 : Int32) <<< ((x4 + (1 : Int32)) &&& 31)) - ((1 : Int32) <<< (x3 &&& 31)))
      subst h3 h4 hx
      rw [Int32.lt_iff_toInt_lt, nI_toInt (by omega), nI_toInt (by omega)] at c1
      refine Or.inr ⟨by rw [nI_1], fun j a b => y4 j a (by omega)⟩
    · skip
      replace hf := jbind hf
      obtain ⟨v75, e2, hf⟩ := hf
      replace e2 := (jcv_o e2).2
      have r2 := E_X8_isStopped R K hx (by subst h4 hx; rw [Int32.lt_iff_toInt_lt, nI_toInt (by omega), nI_toInt (by omega)] at c1; omega) hd e2
      replace hf := jite hf
      rcases hf with ⟨c3, hf⟩ | ⟨c3, hf⟩
      · skip
        -- leaf 10: rc64 a0 x2 x3 x4 (x5 + (1 : Int32)) h
        have c9 : c ≤ hi := (by subst h4 hx; rw [Int32.lt_iff_toInt_lt, nI_toInt (by omega), nI_toInt (by omega)] at c1; omega)
        have ns : ¬ stp W c d := fun z => absurd (c3.symm.trans (r2.2.mpr z)) (by decide)
        refine E_X8_goers_64 K k (c + 1) R hd h3 h4 (by rw [hx, nI_1]) y0 y1 (by omega) (by omega) (fun j a b => ?_) hf
        by_cases z : j = c
        · subst z; exact ns
        · exact y4 j a (by omega)
      · skip
        cases hf
        -- leaf 11: (0 : Int32)
        have c9 : c ≤ hi := (by subst h4 hx; rw [Int32.lt_iff_toInt_lt, nI_toInt (by omega), nI_toInt (by omega)] at c1; omega)
        have z : stp W c d := r2.2.mp (r2.1.resolve_left c3)
        exact Or.inl ⟨rfl, c, y2, c9, z⟩
theorem E_X8_goers_32 {n : Nat} {W : jWd} {d : Bool} {r : Nat} {hi : Nat} (K : wOK W) : ∀ (k : Nat) {a0 : Nat} {x2 : Int32} {x3 : Int32} {x4 : Int32} {h : jH} {q : Int32} (a : Nat) (R : rodE (oc h) a0 W) (hd : x2 = dI d) (h3 : x3 = nI a) (h4 : x4 = nI hi) (y0 : a ≤ r) (y1 : r ≤ hi) (y2 : (hi : Int) < (W 0).toInt) (y4 : ∀ j, a ≤ j → j < r → tog W j (!d)), F_X8_goers_32 n k a0 x2 x3 x4 h = some q → ∃ lo : Nat, lo ≤ r ∧ (∀ j, lo ≤ j → j < r → tog W j (!d)) ∧ (lo = 0 ∨ ¬ tog W (lo - 1) (!d)) ∧ F_X8_goers_64 n n a0 x2 (nI lo) x4 (nI lo) h = some q
  | 0, a0, x2, x3, x4, h, q, a, R, hd, h3, h4, y0, y1, y2, y4, hf => by cases hf
  | k + 1, a0, x2, x3, x4, h, q, a, R, hd, h3, h4, y0, y1, y2, y4, hf => by
    replace hf : F_X8_goers_32_b n (F_X8_goers_32 n k) a0 x2 x3 x4 h = some q := hf
    unfold F_X8_goers_32_b at hf
    have K0 := K.1
    have fin : ∀ z : a = 0 ∨ ¬ tog W (a - 1) (!d), F_X8_goers_64 n n a0 x2 x3 x4 x3 h = some q → ∃ lo : Nat, lo ≤ r ∧ (∀ j, lo ≤ j → j < r → tog W j (!d)) ∧ (lo = 0 ∨ ¬ tog W (lo - 1) (!d)) ∧ F_X8_goers_64 n n a0 x2 (nI lo) x4 (nI lo) h = some q := fun z e => ⟨a, y0, y4, z, by rw [h3] at e; exact e⟩
    have l0 : (0 : Int32).toInt = 0 := rfl
    have go : ∀ (s2 : Int32), 0 < a → s2 = dI (!d) → F_X8_goers_49 n (F_X8_goers_32 n k) a0 x2 x3 x4 a0 (x3 - (1 : Int32)) s2 h = some q → ∃ lo : Nat, lo ≤ r ∧ (∀ j, lo ≤ j → j < r → tog W j (!d)) ∧ (lo = 0 ∨ ¬ tog W (lo - 1) (!d)) ∧ F_X8_goers_64 n n a0 x2 (nI lo) x4 (nI lo) h = some q := by
      intro s2 ha hq hf
      unfold F_X8_goers_49 at hf
      obtain ⟨v, e, hf⟩ := jbind hf
      obtain ⟨-, e⟩ := jcv_o e
      have r1 := E_X8_goTogether (i := a - 1) R K (by rw [h3]; obtain ⟨b, rfl⟩ : ∃ b, a = b + 1 := ⟨a - 1, by omega⟩; exact nI_pred b) (by omega) hq e
      split at hf
      · rename_i c1
        exact fin (Or.inr (fun z => absurd (c1.symm.trans (r1.2.mpr z)) (by decide))) hf
      · rename_i c1
        have tz : tog W (a - 1) (!d) := r1.2.mp (r1.1.resolve_left c1)
        refine E_X8_goers_32 K k (a - 1) R hd (by rw [h3]; obtain ⟨b, rfl⟩ : ∃ b, a = b + 1 := ⟨a - 1, by omega⟩; exact (by rw [nI_succ, Int32.add_assoc]; exact Int32.add_zero _)) h4 (by omega) y1 y2 (fun j u w => ?_) hf
        by_cases z : j = a - 1
        · subst z; exact tz
        · exact y4 j (by omega) w
    replace hf := jite hf
    rcases hf with ⟨c1, hf⟩ | ⟨c1, hf⟩
    · skip
      -- leaf 0: F_X8_goers_64 n n a0 x2 x3 x4 x3 h
      rw [h3, Int32.le_iff_toInt_le, nI_toInt (by omega)] at c1
      exact fin (Or.inl (by omega)) hf
    · skip
      replace hf := jite hf
      rcases hf with ⟨c2, hf⟩ | ⟨c2, hf⟩
      · skip
        -- leaf 10: F_X8_goers_49 n rc32 a0 x2 x3 x4 a0 (x3 - (1 : Int32)) (1 : Int32) h
        rw [h3, Int32.le_iff_toInt_le, nI_toInt (by omega)] at c1
        refine go _ (by omega) ?_ hf
        cases d with
        | false => rfl
        | true => exact absurd (hd.symm.trans c2) (by decide)
      · skip
        -- leaf 11: F_X8_goers_49 n rc32 a0 x2 x3 x4 a0 (x3 - (1 : Int32)) (0 : Int32) h
        rw [h3, Int32.le_iff_toInt_le, nI_toInt (by omega)] at c1
        refine go _ (by omega) ?_ hf
        cases d with
        | true => rfl
        | false => exact absurd hd c2
theorem E_X8_goers_5 {n : Nat} {W : jWd} {d : Bool} {r : Nat} (K : wOK W) : ∀ (k : Nat) {a0 : Nat} {x2 : Int32} {x3 : Int32} {x4 : Int32} {h : jH} {q : Int32} (b : Nat) (R : rodE (oc h) a0 W) (hd : x2 = dI d) (h4 : x4 = nI b) (y0 : r ≤ b) (y2 : (b : Int) < (W 0).toInt) (y4 : ∀ j, r ≤ j → j < b → tog W j d), F_X8_goers_5 n k a0 x2 x3 x4 h = some q → ∃ hi : Nat, r ≤ hi ∧ (hi : Int) < (W 0).toInt ∧ (∀ j, r ≤ j → j < hi → tog W j d) ∧ ((hi : Int) + 1 = (W 0).toInt ∨ ¬ tog W hi d) ∧ F_X8_goers_32 n n a0 x2 x3 (nI hi) h = some q
  | 0, a0, x2, x3, x4, h, q, b, R, hd, h4, y0, y2, y4, hf => by cases hf
  | k + 1, a0, x2, x3, x4, h, q, b, R, hd, h4, y0, y2, y4, hf => by
    replace hf : F_X8_goers_5_b n (F_X8_goers_5 n k) a0 x2 x3 x4 h = some q := hf
    unfold F_X8_goers_5_b at hf
    obtain ⟨⟨s0, s1, s2, s3, s4, s5⟩, ⟨u5, u10, u11, u12, u13, u14, u15, u16, u17⟩, RB, RC, RL⟩ := id R
    have K0 := K.1
    replace hf := jbind hf
    obtain ⟨v10, e1, hf⟩ := hf
    have r1 := oc_gI e1
    subst r1
    clear e1
    replace hf := jite hf
    rcases hf with ⟨c2, hf⟩ | ⟨c2, hf⟩
    · skip
      -- leaf 0: F_X8_goers_32 n n a0 x2 x3 x4 h
      rw [h4, u5, nI_1, nI_eI (by omega)] at c2
      exact ⟨b, y0, y2, y4, Or.inl (by omega), by rw [h4] at hf; exact hf⟩
    · skip
      replace hf := jbind hf
      obtain ⟨v20, e3, hf⟩ := hf
      replace e3 := (jcv_o e3).2
      have b9 : (b : Int) + 1 < (W 0).toInt := by
        rw [h4, u5, nI_1, nI_eI (by omega)] at c2
        omega
      have r3 := E_X8_goTogether R K h4 b9 hd e3
      replace hf := jite hf
      rcases hf with ⟨c4, hf⟩ | ⟨c4, hf⟩
      · skip
        -- leaf 10: F_X8_goers_32 n n a0 x2 x3 x4 h
        exact ⟨b, y0, y2, y4, Or.inr (fun z => absurd (c4.symm.trans (r3.2.mpr z)) (by decide)), by rw [h4] at hf; exact hf⟩
      · skip
        -- leaf 11: rc5 a0 x2 x3 (x4 + (1 : Int32)) h
        have tz : tog W b d := r3.2.mp (r3.1.resolve_left c4)
        refine E_X8_goers_5 K k (b + 1) R hd (by rw [h4, nI_1]) (by omega) (by omega) (fun j u w => ?_) hf
        by_cases z : j = b
        · subst z; exact tz
        · exact y4 j u (by omega)
theorem E_X8_goers {W : jWd} {d : Bool} {r : Nat} {n : Nat} {a0 : Nat} {x1 : Int32} {x2 : Int32} {h : jH} {q : Int32} (R : rodE (oc h) a0 W) (K : wOK W) (hx : x1 = nI r) (hr : (r : Int) < (W 0).toInt) (hd : x2 = dI d) (hf : F_X8_goers n a0 x1 x2 h = some q) : goB W r d q := by
  unfold F_X8_goers at hf
  have K0 := K.1
  -- leaf : F_X8_goers_5 n n a0 x2 x1 x1 h
  obtain ⟨hi, a1, a2, a3, a4, hf⟩ := E_X8_goers_5 (r := r) K n r R hd hx (Nat.le_refl _) hr (fun j u w => by omega) hf
  obtain ⟨lo, b1, b3, b4, hf⟩ := E_X8_goers_32 (r := r) K n r R hd hx rfl (Nat.le_refl _) a1 a2 (fun j u w => by omega) hf
  have gi : ∀ i, gos W r d i ↔ (lo ≤ i ∧ i ≤ hi) := fun i => by
    constructor
    · rintro ⟨z0, ⟨z1, z2⟩ | ⟨z1, z2⟩⟩
      · refine ⟨by omega, ?_⟩
        by_cases w : i ≤ hi
        · exact w
        · exact absurd (z2 hi a1 (by omega)) (a4.resolve_left (by omega))
      · refine ⟨?_, by omega⟩
        by_cases w : lo ≤ i
        · exact w
        · exact absurd (z2 (lo - 1) (by omega) (by omega)) (b4.resolve_left (by omega))
    · rintro ⟨z1, z2⟩
      refine ⟨by omega, ?_⟩
      rcases Nat.le_total r i with w | w
      · exact Or.inl ⟨w, fun j u v => a3 j u (by omega)⟩
      · exact Or.inr ⟨w, fun j u v => b3 j (by omega) v⟩
  rcases E_X8_goers_64 (d := d) K n lo R hd rfl rfl rfl (by omega) a2 (Nat.le_refl _) (by omega) (fun j u w => by omega) hf with ⟨rfl, j, j1, j2, j3⟩ | ⟨rfl, hs⟩
  · intro i h32
    rw [b_0]
    exact ⟨fun z => absurd z (by decide), fun z => absurd j3 (z.2 j ((gi j).mpr ⟨j1, j2⟩))⟩
  · intro i h32
    rw [b_msk lo (by omega) hi (by omega) (by omega) i h32, decide_eq_true_iff]
    exact ⟨fun z => ⟨(gi i).mpr z, fun j u => hs j ((gi j).mp u).1 ((gi j).mp u).2⟩, fun z => (gi i).mp z.1⟩
