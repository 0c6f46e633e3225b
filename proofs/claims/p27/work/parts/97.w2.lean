/-! masks and sums over the rings -/
/-- the word of the rings from i on, below c, that P names, beside x -/
def mkE (P : Nat → Bool) (c i : Nat) (x q : Int32) : Prop := ∀ j, j < 32 → bt q j = (bt x j || (decide (i ≤ j) && decide (j < c) && P j))
theorem mk_end {P : Nat → Bool} {c i : Nat} {x : Int32} (h : c ≤ i) : mkE P c i x x := fun j _ => by
  have e : (decide (i ≤ j) && decide (j < c)) = false := by
    by_cases a : i ≤ j
    · rw [decide_eq_false (p := j < c) (by omega)]; simp
    · rw [decide_eq_false a]; simp
  rw [e]; simp
theorem mk_n {P : Nat → Bool} {c i : Nat} {x q : Int32} (hp : P i = false) (h : mkE P c (i + 1) x q) : mkE P c i x q := fun j hj => by
  rw [h j hj]
  by_cases e : j = i
  · subst e; rw [hp]; simp
  · rw [show decide (i ≤ j) = decide (i + 1 ≤ j) from decide_eq_decide.mpr (by omega)]
theorem mk_y {P : Nat → Bool} {c i : Nat} {x q : Int32} (hi : i < c) (hc : i < 32) (hp : P i = true) (h : mkE P c (i + 1) (x ||| ((1 : Int32) <<< (nI i &&& 31))) q) : mkE P c i x q := fun j hj => by
  rw [h j hj, b_set hc hj]
  by_cases e : j = i
  · subst e; rw [hp, decide_eq_true hi]; simp
  · rw [show decide (i ≤ j) = decide (i + 1 ≤ j) from decide_eq_decide.mpr (by omega), decide_eq_false e]; simp
theorem clr_0 {i : Nat} {x : Int32} (hi : i < 32) (hx : bt x i = false) : x &&& (((1 : Int32) <<< (nI i &&& 31)) ^^^ (-1 : Int32)) = x := b_ext fun j hj => by
  rw [b_clr hi hj]
  by_cases e : j = i
  · subst e; rw [hx]; simp
  · rw [decide_eq_false e]; simp
theorem or_0 {x : Int32} : x ||| (0 : Int32) = x := by simp
theorem mk_u {P : Nat → Bool} {c i : Nat} {x q q2 : Int32} (a : mkE P c i x q) (b : mkE P c i x q2) : q = q2 := b_ext fun j hj => (a j hj).trans (b j hj).symm
/-- no bit from i on -/
def lowB (x : Int32) (i : Nat) : Prop := ∀ j, i ≤ j → j < 32 → bt x j = false
theorem low_0 {i : Nat} : lowB 0 i := fun j _ _ => by unfold bt; simp
theorem low_n {x : Int32} {i : Nat} (h : lowB x i) : lowB x (i + 1) := fun j a b => h j (by omega) b
theorem low_y {x : Int32} {i : Nat} (hi : i < 32) (h : lowB x i) : lowB (x ||| ((1 : Int32) <<< (nI i &&& 31))) (i + 1) := fun j a b => by
  rw [b_set hi b, h j (by omega) b, decide_eq_false (by omega)]; rfl
def sumF (f : Nat → Int32) : Nat → Nat → Int32 → Int32
  | 0, _, a => a
  | m + 1, i, a => sumF f m (i + 1) (a + f i)
theorem sum_e {f : Nat → Int32} {c i : Nat} {a : Int32} (h : c ≤ i) : sumF f (c - i) i a = a := by
  rw [show c - i = 0 by omega]; rfl
theorem sum_s {f : Nat → Int32} {c i : Nat} {a : Int32} (h : i < c) : sumF f (c - i) i a = sumF f (c - (i + 1)) (i + 1) (a + f i) := by
  obtain ⟨m, hm⟩ : ∃ m, c - i = m + 1 := ⟨c - i - 1, by omega⟩
  rw [hm, show c - (i + 1) = m by omega]; rfl
theorem E_X6_spareCloth_4 {n : Nat} {W : jWd} : ∀ (k : Nat) {a0 : Nat} {x1 : Int32} {x2 : Int32} {h : jH} {q : Int32} (i : Nat) (R : rodE (oc h) a0 W) (K : wOK W) (hx : x2 = nI i) (hi : i ≤ 8), F_X6_spareCloth_4 n k a0 x1 x2 h = some q → q = sumF (fun i => W (12 + 8 * i) - (W (11 + 8 * (i + 1)) - W (11 + 8 * i))) ((W 0).toInt.toNat - 1 - i) i x1
  | 0, a0, x1, x2, h, q, i, R, K, hx, hi, hf => by cases hf
  | k + 1, a0, x1, x2, h, q, i, R, K, hx, hi, hf => by
    replace hf : F_X6_spareCloth_4_b n (F_X6_spareCloth_4 n k) a0 x1 x2 h = some q := hf
    unfold F_X6_spareCloth_4_b at hf
    obtain ⟨⟨s0, s1, s2, s3, s4, s5⟩, ⟨u5, u10, u11, u12, u13, u14, u15, u16, u17⟩, RB, RC, RL⟩ := id R
    subst hx
    have K0 := K.1
    have l1 : (1 : Int32).toInt = 1 := rfl
    have ew : (W 0 - 1).toInt = (W 0).toInt - 1 := jsub (by omega) (by omega)
    replace hf := jbind hf
    obtain ⟨v8, e1, hf⟩ := hf
    have r1 := oc_gI e1
    subst r1
    clear e1
    replace hf := jite hf
    rcases hf with ⟨c2, hf⟩ | ⟨c2, hf⟩
    · skip
      rw [u5, nI_1, nI_eI (by omega)] at c2
      cases hf
      -- leaf 0: x1
      rw [sum_e (by omega)]
    · skip
      rw [u5, nI_1, nI_eI (by omega)] at c2
      replace hf := jbind hf
      obtain ⟨p16, e3, hf⟩ := hf
      have r3 := oc_gR e3
      rw [s1] at r3
      cases r3
      clear e3
      replace hf := jbind hf
      obtain ⟨v20, e4, hf⟩ := hf
      obtain ⟨r4, y4⟩ := oc_al e4
      subst r4
      clear e4
      replace hf := jbind hf
      obtain ⟨v24, e5, hf⟩ := hf
      replace e5 := (jcv_o e5).2
      have r5 := E_X8_gap (i := i) R K rfl (by omega) e5
      subst r5
      -- leaf 1: rc4 a0 (x1 + (v20 - v24)) (x2 + (1 : Int32)) h
      rw [if_pos (by omega), nI_cl (by omega), (RB i (by omega)).2.1, nI_1] at hf
      rw [sum_s (by omega)]
      exact E_X6_spareCloth_4 k (i + 1) R K rfl (by omega) hf
theorem E_X12_slack_9 {n : Nat} {W : jWd} : ∀ (k : Nat) {a0 : Nat} {x1 : Int32} {x2 : Int32} {h : jH} {q : Int32 × jH} (i : Nat) (M : mS (oc h) a0) (hW : wl (oc h) a0 = W) (K : wOK W) (hx : x2 = nI i) (hi : i ≤ 8), F_X12_slack_9 n k a0 x1 x2 h = some q → q = (sumF (fun i => W (12 + 8 * i) - (W (11 + 8 * (i + 1)) - W (11 + 8 * i))) ((W 0).toInt.toNat - 1 - i) i x1, h)
  | 0, a0, x1, x2, h, q, i, M, hW, K, hx, hi, hf => by cases hf
  | k + 1, a0, x1, x2, h, q, i, M, hW, K, hx, hi, hf => by
    replace hf : F_X12_slack_9_b n (F_X12_slack_9 n k) a0 x1 x2 h = some q := hf
    unfold F_X12_slack_9_b at hf
    subst hx
    have K0 := K.1
    have l1 : (1 : Int32).toInt = 1 := rfl
    have ew : (W 0 - 1).toInt = (W 0).toInt - 1 := jsub (by omega) (by omega)
    replace hf := jbind hf
    obtain ⟨v11, e1, hf⟩ := hf
    replace e1 := (jcv_o e1).2
    have r1 := E_X12_lastRing M e1
    rw [hW] at r1
    subst r1
    replace hf := jite hf
    rcases hf with ⟨c2, hf⟩ | ⟨c2, hf⟩
    · skip
      rw [nI_eI (by omega), ew] at c2
      cases hf
      -- leaf 0: (x1, h)
      rw [sum_e (by omega)]
    · skip
      rw [nI_eI (by omega), ew] at c2
      replace hf := jbind hf
      obtain ⟨v21, e3, hf⟩ := hf
      replace e3 := (jcv_o e3).2
      have r3 := E_X12_of (i := i) (j := 1) (t := 12 + 8 * i) M rfl rfl (by omega) (by omega) e3
      rw [hW] at r3
      subst r3
      replace hf := jbind hf
      obtain ⟨v26, e4, hf⟩ := hf
      replace e4 := (jcv_o e4).2
      have r4 := E_X12_gapOf (i := i) M (by rw [hW]; exact K) rfl (by rw [hW]; omega) e4
      rw [hW] at r4
      subst r4
      -- leaf 1: rc9 a0 (x1 + (v21 - v26)) (x2 + (1 : Int32)) h
      rw [if_pos (by omega), nI_1] at hf
      rw [sum_s (by omega)]
      exact E_X12_slack_9 k (i + 1) M hW K rfl (by omega) hf
theorem E_X12_ringsThat_4 {n : Nat} {W : jWd} {j : Nat} (hj : j < 8) : ∀ (k : Nat) {a0 : Nat} {x1 : Int32} {x2 : Int32} {x3 : Int32} {h : jH} {q : Int32} (i : Nat) (M : mS (oc h) a0) (hW : wl (oc h) a0 = W) (K : wOK W) (hx : x3 = nI i) (hi : i ≤ 8) (h4 : x1 = nI j), F_X12_ringsThat_4 n k a0 x1 x2 x3 h = some q → mkE (fun i => decide (W (11 + 8 * i + j) = 1)) (W 0).toInt.toNat i x2 q
  | 0, a0, x1, x2, x3, h, q, i, M, hW, K, hx, hi, h4, hf => by cases hf
  | k + 1, a0, x1, x2, x3, h, q, i, M, hW, K, hx, hi, h4, hf => by
    replace hf : F_X12_ringsThat_4_b n (F_X12_ringsThat_4 n k) a0 x1 x2 x3 h = some q := hf
    unfold F_X12_ringsThat_4_b at hf
    subst hx
    have K0 := K.1
    have l1 : (1 : Int32).toInt = 1 := rfl
    have ew : (W 0 - 1).toInt = (W 0).toInt - 1 := jsub (by omega) (by omega)
    replace hf := jbind hf
    obtain ⟨v6, e1, hf⟩ := hf
    replace e1 := (jcv_o e1).2
    have r1 := E_X12_rings M e1
    rw [hW] at r1
    subst r1
    replace hf := jite hf
    rcases hf with ⟨c2, hf⟩ | ⟨c2, hf⟩
    · skip
      rw [nI_eI (by omega)] at c2
      cases hf
      -- leaf 0: x2
      exact mk_end (by omega)
    · skip
      rw [nI_eI (by omega)] at c2
      replace hf := jbind hf
      obtain ⟨v16, e3, hf⟩ := hf
      replace e3 := (jcv_o e3).2
      have r3 := E_X12_is (i := i) (j := j) (t := 11 + 8 * i + j) M rfl h4 (by omega) (by omega) e3
      rw [hW] at r3
      replace hf := jite hf
      rcases hf with ⟨c4, hf⟩ | ⟨c4, hf⟩
      · skip
        -- leaf 10: rc4 a0 x1 (x2 ||| (0 : Int32)) (x3 + (1 : Int32)) h
        rw [or_0, nI_1] at hf
        refine mk_n (decide_eq_false fun z => ?_) (E_X12_ringsThat_4 hj k (i + 1) M hW K rfl (by omega) h4 hf)
        have := r3.2.mpr z
        rw [c4] at this
        exact absurd this (by decide)
      · skip
        -- leaf 11: rc4 a0 x1 (x2 ||| ((1 : Int32) <<< (x3 &&& 31))) (x3 + (1 : Int32)) h
        rw [nI_1] at hf
        exact mk_y (by omega) (by omega) (decide_eq_true (r3.2.mp (r3.1.resolve_left c4))) (E_X12_ringsThat_4 hj k (i + 1) M hW K rfl (by omega) h4 hf)
theorem E_X11_wb {n : Nat} {x y z : Int32} {h : jH} {q : Int32} (hf : F_X11_withBit n x y z h = some q) : (z = 0 ∧ q = x &&& (((1 : Int32) <<< (y &&& 31)) ^^^ (-1 : Int32))) ∨ (z ≠ 0 ∧ q = x ||| ((1 : Int32) <<< (y &&& 31))) := by
  unfold F_X11_withBit at hf
  replace hf := jite hf
  rcases hf with ⟨c, hf⟩ | ⟨c, hf⟩
  · cases hf; exact Or.inl ⟨c, rfl⟩
  · cases hf; exact Or.inr ⟨c, rfl⟩
/-- the class's word with a bit put or taken -/
theorem wb_y {x v : Int32} {i : Nat} (r : ((1 : Int32) = 0 ∧ v = x &&& (((1 : Int32) <<< (nI i &&& 31)) ^^^ (-1 : Int32))) ∨ ((1 : Int32) ≠ 0 ∧ v = x ||| ((1 : Int32) <<< (nI i &&& 31)))) : v = x ||| ((1 : Int32) <<< (nI i &&& 31)) := by
  rcases r with ⟨z, -⟩ | ⟨-, r⟩
  · exact absurd z (by decide)
  · exact r
theorem wb_n {x v : Int32} {i : Nat} (hi : i < 32) (hb : lowB x i) (r : ((0 : Int32) = 0 ∧ v = x &&& (((1 : Int32) <<< (nI i &&& 31)) ^^^ (-1 : Int32))) ∨ ((0 : Int32) ≠ 0 ∧ v = x ||| ((1 : Int32) <<< (nI i &&& 31)))) : v = x := by
  rcases r with ⟨-, r⟩ | ⟨z, -⟩
  · rw [r]; exact clr_0 hi (hb i (Nat.le_refl _) hi)
  · exact absurd rfl z
theorem E_X6_tautRings_4 {n : Nat} {W : jWd} : ∀ (k : Nat) {a0 : Nat} {x1 : Int32} {x2 : Int32} {h : jH} {q : Int32} (i : Nat) (R : rodE (oc h) a0 W) (K : wOK W) (hx : x2 = nI i) (hi : i ≤ 8) (hb : lowB x1 i), F_X6_tautRings_4 n k a0 x1 x2 h = some q → mkE (fun i => decide (W (11 + 8 * (i + 1)) - W (11 + 8 * i) = W (12 + 8 * i))) ((W 0).toInt.toNat - 1) i x1 q
  | 0, a0, x1, x2, h, q, i, R, K, hx, hi, hb, hf => by cases hf
  | k + 1, a0, x1, x2, h, q, i, R, K, hx, hi, hb, hf => by
    replace hf : F_X6_tautRings_4_b n (F_X6_tautRings_4 n k) a0 x1 x2 h = some q := hf
    unfold F_X6_tautRings_4_b at hf
    obtain ⟨⟨s0, s1, s2, s3, s4, s5⟩, ⟨u5, u10, u11, u12, u13, u14, u15, u16, u17⟩, RB, RC, RL⟩ := id R
    subst hx
    have K0 := K.1
    have l1 : (1 : Int32).toInt = 1 := rfl
    have ew : (W 0 - 1).toInt = (W 0).toInt - 1 := jsub (by omega) (by omega)
    replace hf := jbind hf
    obtain ⟨v8, e1, hf⟩ := hf
    have r1 := oc_gI e1
    subst r1
    clear e1
    replace hf := jite hf
    rcases hf with ⟨c2, hf⟩ | ⟨c2, hf⟩
    · skip
      rw [u5, nI_1, nI_eI (by omega)] at c2
      cases hf
      -- leaf 0: x1
      exact mk_end (by omega)
    · skip
      rw [u5, nI_1, nI_eI (by omega)] at c2
      replace hf := jbind hf
      obtain ⟨v19, e3, hf⟩ := hf
      replace e3 := (jcv_o e3).2
      have r3 := E_X8_gap (i := i) R K rfl (by omega) e3
      subst r3
      replace hf := jbind hf
      obtain ⟨p23, e4, hf⟩ := hf
      have r4 := oc_gR e4
      rw [s1] at r4
      cases r4
      clear e4
      replace hf := jbind hf
      obtain ⟨v27, e5, hf⟩ := hf
      obtain ⟨r5, y5⟩ := oc_al e5
      subst r5
      clear e5
      replace hf := jite hf
      rcases hf with ⟨c6, hf⟩ | ⟨c6, hf⟩
      · skip
        -- leaf 10: F_X6_tautRings_36 n rc4 a0 x2 x1 x2 (1 : Int32) h
        unfold F_X6_tautRings_36 at hf
        obtain ⟨v9, e9, hf⟩ := jbind hf
        have r9 := E_X11_wb e9
        rw [if_pos (by omega), nI_cl (by omega), (RB i (by omega)).2.1] at c6
        rw [wb_y r9, nI_1] at hf
        exact mk_y (by omega) (by omega) (decide_eq_true c6) (E_X6_tautRings_4 k (i + 1) R K rfl (by omega) (low_y (by omega) hb) hf)
      · skip
        -- leaf 11: F_X6_tautRings_36 n rc4 a0 x2 x1 x2 (0 : Int32) h
        unfold F_X6_tautRings_36 at hf
        obtain ⟨v9, e9, hf⟩ := jbind hf
        have r9 := E_X11_wb e9
        rw [if_pos (by omega), nI_cl (by omega), (RB i (by omega)).2.1] at c6
        rw [wb_n (by omega) hb r9, nI_1] at hf
        exact mk_n (decide_eq_false c6) (E_X6_tautRings_4 k (i + 1) R K rfl (by omega) (low_n hb) hf)
theorem E_X12_taut_9 {n : Nat} {W : jWd} : ∀ (k : Nat) {a0 : Nat} {x1 : Int32} {x2 : Int32} {h : jH} {q : Int32 × jH} (i : Nat) (M : mS (oc h) a0) (hW : wl (oc h) a0 = W) (K : wOK W) (hx : x2 = nI i) (hi : i ≤ 8), F_X12_taut_9 n k a0 x1 x2 h = some q → mkE (fun i => decide (W (11 + 8 * (i + 1)) - W (11 + 8 * i) = W (12 + 8 * i))) ((W 0).toInt.toNat - 1) i x1 q.1 ∧ q.2 = h
  | 0, a0, x1, x2, h, q, i, M, hW, K, hx, hi, hf => by cases hf
  | k + 1, a0, x1, x2, h, q, i, M, hW, K, hx, hi, hf => by
    replace hf : F_X12_taut_9_b n (F_X12_taut_9 n k) a0 x1 x2 h = some q := hf
    unfold F_X12_taut_9_b at hf
    subst hx
    have K0 := K.1
    have l1 : (1 : Int32).toInt = 1 := rfl
    have ew : (W 0 - 1).toInt = (W 0).toInt - 1 := jsub (by omega) (by omega)
    replace hf := jbind hf
    obtain ⟨v11, e1, hf⟩ := hf
    replace e1 := (jcv_o e1).2
    have r1 := E_X12_lastRing M e1
    rw [hW] at r1
    subst r1
    replace hf := jite hf
    rcases hf with ⟨c2, hf⟩ | ⟨c2, hf⟩
    · skip
      rw [nI_eI (by omega), ew] at c2
      cases hf
      -- leaf 0: (x1, h)
      exact ⟨mk_end (by omega), rfl⟩
    · skip
      rw [nI_eI (by omega), ew] at c2
      replace hf := jbind hf
      obtain ⟨v20, e3, hf⟩ := hf
      replace e3 := (jcv_o e3).2
      have r3 := E_X12_gapOf (i := i) M (by rw [hW]; exact K) rfl (by rw [hW]; omega) e3
      rw [hW] at r3
      subst r3
      replace hf := jbind hf
      obtain ⟨v26, e4, hf⟩ := hf
      replace e4 := (jcv_o e4).2
      have r4 := E_X12_of (i := i) (j := 1) (t := 12 + 8 * i) M rfl rfl (by omega) (by omega) e4
      rw [hW] at r4
      subst r4
      replace hf := jite hf
      rcases hf with ⟨c5, hf⟩ | ⟨c5, hf⟩
      · skip
        -- leaf 10: rc9 a0 (x1 ||| ((1 : Int32) <<< (x2 &&& 31))) (x2 + (1 : Int32)) h
        rw [if_pos (by omega)] at c5
        rw [nI_1] at hf
        obtain ⟨a1, a2⟩ := E_X12_taut_9 k (i + 1) M hW K rfl (by omega) hf
        exact ⟨mk_y (by omega) (by omega) (decide_eq_true c5) a1, a2⟩
      · skip
        -- leaf 11: rc9 a0 (x1 ||| (0 : Int32)) (x2 + (1 : Int32)) h
        rw [if_pos (by omega)] at c5
        rw [or_0, nI_1] at hf
        obtain ⟨a1, a2⟩ := E_X12_taut_9 k (i + 1) M hW K rfl (by omega) hf
        exact ⟨mk_n (decide_eq_false c5) a1, a2⟩
theorem E_X6_thickBeyondJoin_4 {n : Nat} {W : jWd} : ∀ (k : Nat) {a0 : Nat} {x1 : Int32} {x2 : Int32} {h : jH} {q : Int32} (i : Nat) (R : rodE (oc h) a0 W) (K : wOK W) (hx : x2 = nI i) (hi : i ≤ 8) (hb : lowB x1 i), F_X6_thickBeyondJoin_4 n k a0 x1 x2 h = some q → mkE (fun i => decide (W (13 + 8 * i) = 1) && !decide (W (11 + 8 * i) < W 5)) ((W 0).toInt.toNat) i x1 q
  | 0, a0, x1, x2, h, q, i, R, K, hx, hi, hb, hf => by cases hf
  | k + 1, a0, x1, x2, h, q, i, R, K, hx, hi, hb, hf => by
    replace hf : F_X6_thickBeyondJoin_4_b n (F_X6_thickBeyondJoin_4 n k) a0 x1 x2 h = some q := hf
    unfold F_X6_thickBeyondJoin_4_b at hf
    obtain ⟨⟨s0, s1, s2, s3, s4, s5⟩, ⟨u5, u10, u11, u12, u13, u14, u15, u16, u17⟩, RB, RC, RL⟩ := id R
    subst hx
    have K0 := K.1
    have l1 : (1 : Int32).toInt = 1 := rfl
    have ew : (W 0 - 1).toInt = (W 0).toInt - 1 := jsub (by omega) (by omega)
    replace hf := jbind hf
    obtain ⟨v6, e1, hf⟩ := hf
    have r1 := oc_gI e1
    subst r1
    clear e1
    replace hf := jite hf
    rcases hf with ⟨c2, hf⟩ | ⟨c2, hf⟩
    · skip
      rw [u5, nI_eI (by omega)] at c2
      cases hf
      -- leaf 0: x1
      exact mk_end (by omega)
    · skip
      rw [u5, nI_eI (by omega)] at c2
      replace hf := jbind hf
      obtain ⟨v15, e3, hf⟩ := hf
      have r3 := oc_gI e3
      subst r3
      clear e3
      replace hf := jbind hf
      obtain ⟨v19, e4, hf⟩ := hf
      unfold F_X11_bit at e4
      cases e4
      replace hf := jite hf
      rcases hf with ⟨c5, hf⟩ | ⟨c5, hf⟩
      · skip
        replace hf := jbind hf
        obtain ⟨p27, e6, hf⟩ := hf
        have r6 := oc_gR e6
        rw [s0] at r6
        cases r6
        clear e6
        replace hf := jbind hf
        obtain ⟨v31, e7, hf⟩ := hf
        obtain ⟨r7, y7⟩ := oc_al e7
        subst r7
        clear e7
        replace hf := jbind hf
        obtain ⟨v33, e8, hf⟩ := hf
        have r8 := oc_gI e8
        subst r8
        clear e8
        replace hf := jite hf
        rcases hf with ⟨c9, hf⟩ | ⟨c9, hf⟩
        · skip
          -- leaf 100: F_X6_thickBeyondJoin_44 n rc4 a0 x2 x1 x2 (0 : Int32) h
          rw [b_ask (by omega), (RB i (by omega)).2.2.1] at c5
          rw [nI_cl (by omega), (RB i (by omega)).1, u11] at c9
          unfold F_X6_thickBeyondJoin_44 at hf
          obtain ⟨v9, e9, hf⟩ := jbind hf
          have r9 := E_X11_wb e9
          rw [wb_n (by omega) hb r9, nI_1] at hf
          have hp : (fun i => decide (W (13 + 8 * i) = 1) && !decide (W (11 + 8 * i) < W 5)) i = false := by
            show (decide _ && !decide _) = false
            rw [decide_eq_true c9]; simp
          exact mk_n hp (E_X6_thickBeyondJoin_4 k (i + 1) R K rfl (by omega) (low_n hb) hf)
        · skip
          -- leaf 101: F_X6_thickBeyondJoin_44 n rc4 a0 x2 x1 x2 (1 : Int32) h
          rw [b_ask (by omega), (RB i (by omega)).2.2.1] at c5
          rw [nI_cl (by omega), (RB i (by omega)).1, u11] at c9
          unfold F_X6_thickBeyondJoin_44 at hf
          obtain ⟨v9, e9, hf⟩ := jbind hf
          have r9 := E_X11_wb e9
          rw [wb_y r9, nI_1] at hf
          have hp : (fun i => decide (W (13 + 8 * i) = 1) && !decide (W (11 + 8 * i) < W 5)) i = true := by
            show (decide _ && !decide _) = true
            rw [decide_eq_true c5, decide_eq_false c9]; rfl
          exact mk_y (by omega) (by omega) hp (E_X6_thickBeyondJoin_4 k (i + 1) R K rfl (by omega) (low_y (by omega) hb) hf)
      · skip
        -- leaf 11: F_X6_thickBeyondJoin_44 n rc4 a0 x2 x1 x2 (0 : Int32) h
        rw [b_ask (by omega), (RB i (by omega)).2.2.1] at c5
        unfold F_X6_thickBeyondJoin_44 at hf
        obtain ⟨v9, e9, hf⟩ := jbind hf
        have r9 := E_X11_wb e9
        rw [wb_n (by omega) hb r9, nI_1] at hf
        have hp : (fun i => decide (W (13 + 8 * i) = 1) && !decide (W (11 + 8 * i) < W 5)) i = false := by
          show (decide _ && !decide _) = false
          rw [decide_eq_false c5]; rfl
        exact mk_n hp (E_X6_thickBeyondJoin_4 k (i + 1) R K rfl (by omega) (low_n hb) hf)
theorem E_X12_beyond_9 {n : Nat} {W : jWd} : ∀ (k : Nat) {a0 : Nat} {x1 : Int32} {x2 : Int32} {h : jH} {q : Int32 × jH} (i : Nat) (M : mS (oc h) a0) (hW : wl (oc h) a0 = W) (K : wOK W) (hx : x2 = nI i) (hi : i ≤ 8), F_X12_beyond_9 n k a0 x1 x2 h = some q → mkE (fun i => decide (W (13 + 8 * i) = 1) && !decide (W (11 + 8 * i) < W 5)) ((W 0).toInt.toNat) i x1 q.1 ∧ q.2 = h
  | 0, a0, x1, x2, h, q, i, M, hW, K, hx, hi, hf => by cases hf
  | k + 1, a0, x1, x2, h, q, i, M, hW, K, hx, hi, hf => by
    replace hf : F_X12_beyond_9_b n (F_X12_beyond_9 n k) a0 x1 x2 h = some q := hf
    unfold F_X12_beyond_9_b at hf
    obtain ⟨s1, s2, s3, s4, s5, s8, s15, s17, s19, s20, s21⟩ := id M
    have w5 : oi (oc h) (a0 + 1) 5 = W 5 := congrFun hW 5
    subst hx
    have K0 := K.1
    have l1 : (1 : Int32).toInt = 1 := rfl
    have ew : (W 0 - 1).toInt = (W 0).toInt - 1 := jsub (by omega) (by omega)
    replace hf := jbind hf
    obtain ⟨v11, e1, hf⟩ := hf
    replace e1 := (jcv_o e1).2
    have r1 := E_X12_rings M e1
    rw [hW] at r1
    subst r1
    replace hf := jite hf
    rcases hf with ⟨c2, hf⟩ | ⟨c2, hf⟩
    · skip
      rw [nI_eI (by omega)] at c2
      cases hf
      -- leaf 0: (x1, h)
      exact ⟨mk_end (by omega), rfl⟩
    · skip
      rw [nI_eI (by omega)] at c2
      replace hf := jbind hf
      obtain ⟨v21, e3, hf⟩ := hf
      replace e3 := (jcv_o e3).2
      have r3 := E_X12_is (i := i) (j := 2) (t := 13 + 8 * i) M rfl rfl (by omega) (by omega) e3
      rw [hW] at r3
      replace hf := jite hf
      rcases hf with ⟨c4, hf⟩ | ⟨c4, hf⟩
      · skip
        -- leaf 10: rc9 a0 (x1 ||| (0 : Int32)) (x2 + (1 : Int32)) h
        have c9 : ¬ W (13 + 8 * i) = 1 := fun z => by have := r3.2.mpr z; rw [c4] at this; exact absurd this (by decide)
        rw [or_0, nI_1] at hf
        obtain ⟨a1, a2⟩ := E_X12_beyond_9 k (i + 1) M hW K rfl (by omega) hf
        have hp : (fun i => decide (W (13 + 8 * i) = 1) && !decide (W (11 + 8 * i) < W 5)) i = false := by
          show (decide _ && !decide _) = false
          rw [decide_eq_false c9]; rfl
        exact ⟨mk_n hp a1, a2⟩
      · skip
        replace hf := jbind hf
        obtain ⟨v30, e5, hf⟩ := hf
        replace e5 := (jcv_o e5).2
        have r5 := E_X12_of (i := i) (j := 0) (t := 11 + 8 * i) M rfl rfl (by omega) (by omega) e5
        rw [hW] at r5
        subst r5
        replace hf := jbind hf
        obtain ⟨p34, e6, hf⟩ := hf
        have r6 := oc_gR e6
        rw [s1] at r6
        cases r6
        clear e6
        replace hf := jbind hf
        obtain ⟨v38, e7, hf⟩ := hf
        obtain ⟨r7, y7⟩ := oc_al e7
        rw [show (5 : Int32).toNatClampNeg = 5 from rfl] at r7
        subst r7
        clear e7
        replace hf := jite hf
        rcases hf with ⟨c8, hf⟩ | ⟨c8, hf⟩
        · skip
          -- leaf 110: rc9 a0 (x1 ||| (0 : Int32)) (x2 + (1 : Int32)) h
          rw [w5] at c8
          rw [or_0, nI_1] at hf
          obtain ⟨a1, a2⟩ := E_X12_beyond_9 k (i + 1) M hW K rfl (by omega) hf
          have hp : (fun i => decide (W (13 + 8 * i) = 1) && !decide (W (11 + 8 * i) < W 5)) i = false := by
            show (decide _ && !decide _) = false
            rw [decide_eq_true c8]; simp
          exact ⟨mk_n hp a1, a2⟩
        · skip
          -- leaf 111: rc9 a0 (x1 ||| ((1 : Int32) <<< (x2 &&& 31))) (x2 + (1 : Int32)) h
          rw [w5] at c8
          have c9 := r3.2.mp (r3.1.resolve_left c4)
          rw [nI_1] at hf
          obtain ⟨a1, a2⟩ := E_X12_beyond_9 k (i + 1) M hW K rfl (by omega) hf
          have hp : (fun i => decide (W (13 + 8 * i) = 1) && !decide (W (11 + 8 * i) < W 5)) i = true := by
            show (decide _ && !decide _) = true
            rw [decide_eq_true c9, decide_eq_false c8]; rfl
          exact ⟨mk_y (by omega) (by omega) hp a1, a2⟩
/-! shade and bunches -/
/-- pleat p lies in the shade of cloth j -/
def skyW (W : jWd) (j p : Nat) : Bool := decide (W (17 + 8 * j) = 1) && (decide (W (17 + 8 * (j + 1)) = 1) && decide ((W (11 + 8 * j)).toInt ≤ (p : Int) ∧ (p : Int) ≤ (W (11 + 8 * (j + 1))).toInt))
def anyF (f : Nat → Bool) : Nat → Nat → Bool
  | 0, _ => false
  | m + 1, i => f i || anyF f m (i + 1)
theorem any_e {f : Nat → Bool} {c i : Nat} (h : c ≤ i) : anyF f (c - i) i = false := by
  rw [show c - i = 0 by omega]; rfl
theorem any_s {f : Nat → Bool} {c i : Nat} (h : i < c) : anyF f (c - i) i = (f i || anyF f (c - (i + 1)) (i + 1)) := by
  obtain ⟨m, hm⟩ : ∃ m, c - i = m + 1 := ⟨c - i - 1, by omega⟩
  rw [hm, show c - (i + 1) = m by omega]; rfl
def skyE (W : jWd) (c i : Nat) (x q : Int32) : Prop := ∀ p, p < 32 → bt q p = (bt x p || anyF (fun j => skyW W j p) (c - i) i)
theorem sky_end {W : jWd} {c i : Nat} {x : Int32} (h : c ≤ i) : skyE W c i x x := fun p _ => by rw [any_e h]; simp
theorem sky_n {W : jWd} {c i : Nat} {x q : Int32} (hi : i < c) (hn : ¬ W (17 + 8 * i) = 1 ∨ ¬ W (17 + 8 * (i + 1)) = 1) (h : skyE W c (i + 1) x q) : skyE W c i x q := fun p hp => by
  rw [h p hp, any_s hi]
  have e : skyW W i p = false := by
    unfold skyW
    rcases hn with z | z
    · rw [decide_eq_false z]; rfl
    · rw [decide_eq_false z]; simp
  rw [e]; simp
theorem sky_y {W : jWd} {c i : Nat} {x v q : Int32} (hi : i < c) (h1 : W (17 + 8 * i) = 1) (h2 : W (17 + 8 * (i + 1)) = 1) (hv : ∀ p, p < 32 → bt v p = (bt x p || decide ((W (11 + 8 * i)).toInt ≤ (p : Int) ∧ (p : Int) ≤ (W (11 + 8 * (i + 1))).toInt))) (h : skyE W c (i + 1) v q) : skyE W c i x q := fun p hp => by
  rw [h p hp, any_s hi, hv p hp]
  have e : skyW W i p = decide ((W (11 + 8 * i)).toInt ≤ (p : Int) ∧ (p : Int) ≤ (W (11 + 8 * (i + 1))).toInt) := by
    unfold skyW
    rw [decide_eq_true h1, decide_eq_true h2]; rfl
  rw [e, Bool.or_assoc]
theorem sky_u {W : jWd} {c i : Nat} {x q q2 : Int32} (a : skyE W c i x q) (b : skyE W c i x q2) : q = q2 := b_ext fun j hj => (a j hj).trans (b j hj).symm
theorem bt_m1 {i : Nat} (hi : i < 32) : bt (-1 : Int32) i = true := by
  have h : ∀ i, i < 32 → bt (-1 : Int32) i = true := by decide
  exact h i hi
theorem jushr_bt {x : Int32} {k i : Nat} (hk : k < 32) : bt (jushr x (nI k)) i = bt x (k + i) := by
  unfold jushr
  exact b_ushr k hk x i
/-- the class's span of pleats -/
theorem span_bt {a b : Int32} (ha : 0 ≤ a.toInt ∧ a.toInt ≤ 31) (hb : 0 ≤ b.toInt ∧ b.toInt ≤ 31) {p : Nat} (hp : p < 32) : bt (((-1 : Int32) <<< (a &&& 31)) &&& (jushr (-1 : Int32) ((31 : Int32) - b))) p = decide (a.toInt ≤ (p : Int) ∧ (p : Int) ≤ b.toInt) := by
  obtain ⟨m, hm⟩ : ∃ m : Nat, a = nI m ∧ m < 32 ∧ a.toInt = m := ⟨a.toInt.toNat, nI_on ha.1, by omega, by omega⟩
  obtain ⟨k, hk⟩ : ∃ k : Nat, b = nI k ∧ k < 32 ∧ b.toInt = k := ⟨b.toInt.toNat, nI_on hb.1, by omega, by omega⟩
  obtain ⟨hm1, hm2, hm3⟩ := hm
  obtain ⟨hk1, hk2, hk3⟩ := hk
  have l31 : (31 : Int32).toInt = 31 := rfl
  have e : (31 : Int32) - b = nI (31 - k) := Int32.toInt_inj.mp (by rw [jsub (by omega) (by omega), nI_toInt (by omega)]; omega)
  rw [b_and, e, jushr_bt (by omega), hm1, b_shl m hm2 _ hp]
  rw [← hm1, hm3, hk3]
  by_cases q1 : m ≤ p
  · rw [decide_eq_true q1, bt_m1 (by omega)]
    by_cases q2 : p ≤ k
    · rw [bt_m1 (by omega), decide_eq_true (by omega)]; rfl
    · rw [b_big (by omega), decide_eq_false (by omega)]; rfl
  · rw [decide_eq_false q1, decide_eq_false (by omega)]; rfl
theorem E_X8_shadow_4 {n : Nat} {W : jWd} : ∀ (k : Nat) {a0 : Nat} {x1 : Int32} {x2 : Int32} {h : jH} {q : Int32} (i : Nat) (R : rodE (oc h) a0 W) (K : wOK W) (hx : x2 = nI i) (hi : i ≤ 8), F_X8_shadow_4 n k a0 x1 x2 h = some q → skyE W ((W 0).toInt.toNat - 1) i x1 q
  | 0, a0, x1, x2, h, q, i, R, K, hx, hi, hf => by cases hf
  | k + 1, a0, x1, x2, h, q, i, R, K, hx, hi, hf => by
    replace hf : F_X8_shadow_4_b n (F_X8_shadow_4 n k) a0 x1 x2 h = some q := hf
    unfold F_X8_shadow_4_b at hf
    obtain ⟨⟨s0, s1, s2, s3, s4, s5⟩, ⟨u5, u10, u11, u12, u13, u14, u15, u16, u17⟩, RB, RC, RL⟩ := id R
    subst hx
    have K0 := K.1
    have l1 : (1 : Int32).toInt = 1 := rfl
    have ew : (W 0 - 1).toInt = (W 0).toInt - 1 := jsub (by omega) (by omega)
    replace hf := jbind hf
    obtain ⟨v8, e1, hf⟩ := hf
    have r1 := oc_gI e1
    subst r1
    clear e1
    replace hf := jite hf
    rcases hf with ⟨c2, hf⟩ | ⟨c2, hf⟩
    · skip
      rw [u5, nI_1, nI_eI (by omega)] at c2
      cases hf
      -- leaf 0: x1
      exact sky_end (by omega)
    · skip
      rw [u5, nI_1, nI_eI (by omega)] at c2
      replace hf := jbind hf
      obtain ⟨v15, e3, hf⟩ := hf
      have r3 := oc_gI e3
      subst r3
      clear e3
      replace hf := jbind hf
      obtain ⟨v19, e4, hf⟩ := hf
      unfold F_X11_bit at e4
      cases e4
      replace hf := jite hf
      rcases hf with ⟨c5, hf⟩ | ⟨c5, hf⟩
      · skip
        replace hf := jbind hf
        obtain ⟨v27, e6, hf⟩ := hf
        have r6 := oc_gI e6
        subst r6
        clear e6
        replace hf := jbind hf
        obtain ⟨v33, e7, hf⟩ := hf
        unfold F_X11_bit at e7
        cases e7
        replace hf := jite hf
        rcases hf with ⟨c8, hf⟩ | ⟨c8, hf⟩
        · skip
          replace hf := jbind hf
          obtain ⟨p43, e9, hf⟩ := hf
          have r9 := oc_gR e9
          rw [s0] at r9
          cases r9
          clear e9
          replace hf := jbind hf
          obtain ⟨v47, e10, hf⟩ := hf
          obtain ⟨r10, y10⟩ := oc_al e10
          subst r10
          clear e10
          replace hf := jbind hf
          obtain ⟨p53, e11, hf⟩ := hf
          have r11 := oc_gR e11
          rw [s0] at r11
          cases r11
          clear e11
          replace hf := jbind hf
          obtain ⟨v59, e12, hf⟩ := hf
          obtain ⟨r12, y12⟩ := oc_al e12
          subst r12
          clear e12
          -- leaf 100: rc4 a0 (x1 ||| (((- 1 : Int32) <<< (v47 &&& 31)) &&& (jushr (- 1 : Int32) ((31 : Int32) - v59)))) (x
          rw [b_ask (by omega), (RB i (by omega)).2.2.2.2.2.2.1] at c5
          rw [nI_1, b_ask (by omega), (RB (i + 1) (by omega)).2.2.2.2.2.2.1] at c8
          rw [nI_1, nI_cl (by omega), nI_cl (by omega), (RB i (by omega)).1, (RB (i + 1) (by omega)).1] at hf
          exact sky_y (by omega) c5 c8 (fun p hp => by rw [b_or, span_bt (K.2.1 i (by omega)).1 (K.2.1 (i + 1) (by omega)).1 hp]) (E_X8_shadow_4 k (i + 1) R K rfl (by omega) hf)
        · skip
          -- leaf 101: rc4 a0 x1 (x2 + (1 : Int32)) h
          rw [nI_1, b_ask (by omega), (RB (i + 1) (by omega)).2.2.2.2.2.2.1] at c8
          rw [nI_1] at hf
          exact sky_n (by omega) (Or.inr c8) (E_X8_shadow_4 k (i + 1) R K rfl (by omega) hf)
      · skip
        -- leaf 11: rc4 a0 x1 (x2 + (1 : Int32)) h
        rw [b_ask (by omega), (RB i (by omega)).2.2.2.2.2.2.1] at c5
        rw [nI_1] at hf
        exact sky_n (by omega) (Or.inl c5) (E_X8_shadow_4 k (i + 1) R K rfl (by omega) hf)
theorem E_X12_shadeNow_44 {n : Nat} {rc4 : Nat → Int32 → Int32 → jH → Option Int32} {W : jWd} {z0 : Int32} {t0 : Nat} : ∀ (k : Nat) {a0 : Nat} {x1 : Int32} {x2 : Int32} {x3 : Int32} {h : jH} {q : Int32} (i : Nat) (M : mS (oc h) a0) (hW : wl (oc h) a0 = W) (K : wOK W) (hx : x2 = nI i) (hi : i ≤ 8) (t : Nat) (hi9 : (i : Int) + 1 < (W 0).toInt) (h3 : x3 = nI t) (ht : t ≤ 32) (h0 : ∀ p, p < 32 → bt x1 p = (bt z0 p || decide ((t0 : Nat) ≤ p ∧ p < t))) (h9 : t0 ≤ t ∧ ((t : Int) ≤ (W (11 + 8 * (i + 1))).toInt + 1)), F_X12_shadeNow_44 n rc4 k a0 x1 x2 x3 h = some q → ∃ v, (∀ p, p < 32 → bt v p = (bt z0 p || decide ((t0 : Int) ≤ (p : Int) ∧ (p : Int) ≤ (W (11 + 8 * (i + 1))).toInt))) ∧ rc4 a0 v (x2 + (1 : Int32)) h = some q
  | 0, a0, x1, x2, x3, h, q, i, M, hW, K, hx, hi, t, hi9, h3, ht, h0, h9, hf => by cases hf
  | k + 1, a0, x1, x2, x3, h, q, i, M, hW, K, hx, hi, t, hi9, h3, ht, h0, h9, hf => by
    replace hf : F_X12_shadeNow_44_b n rc4 (F_X12_shadeNow_44 n rc4 k) a0 x1 x2 x3 h = some q := hf
    unfold F_X12_shadeNow_44_b at hf
    subst hx
    have K0 := K.1
    have l1 : (1 : Int32).toInt = 1 := rfl
    have ew : (W 0 - 1).toInt = (W 0).toInt - 1 := jsub (by omega) (by omega)
    subst h3
    have kp := (K.2.1 (i + 1) (by omega)).1
    replace hf := jbind hf
    obtain ⟨v50, e1, hf⟩ := hf
    replace e1 := (jcv_o e1).2
    have r1 := E_X12_of (i := (i + 1)) (j := 0) (t := 11 + 8 * (i + 1)) M (nI_1 i) rfl (by omega) (by omega) e1
    rw [hW] at r1
    subst r1
    replace hf := jite hf
    rcases hf with ⟨c2, hf⟩ | ⟨c2, hf⟩
    · skip
      -- leaf 0: rc4 a0 x1 (x2 + (1 : Int32)) h
      rw [Int32.lt_iff_toInt_lt, nI_toInt (by omega)] at c2
      refine ⟨x1, fun p hp => ?_, hf⟩
      rw [h0 p hp, show decide (t0 ≤ p ∧ p < t) = decide ((t0 : Int) ≤ (p : Int) ∧ (p : Int) ≤ (W (11 + 8 * (i + 1))).toInt) from decide_eq_decide.mpr (by omega)]
    · skip
      -- leaf 1: rc44 a0 (x1 ||| ((1 : Int32) <<< (x3 &&& 31))) x2 (x3 + (1 : Int32)) h
      rw [Int32.lt_iff_toInt_lt, nI_toInt (by omega)] at c2
      rw [nI_1] at hf
      refine E_X12_shadeNow_44 k i M hW K rfl hi (t + 1) hi9 rfl (by omega) (fun p hp => ?_) (by omega) hf
      rw [b_set (by omega) hp, h0 p hp]
      by_cases e : p = t
      · subst e; rw [decide_eq_true (p := p = p) rfl, decide_eq_true (p := t0 ≤ p ∧ p < p + 1) (by omega)]; simp
      · rw [decide_eq_false e, show decide (t0 ≤ p ∧ p < t + 1) = decide (t0 ≤ p ∧ p < t) from decide_eq_decide.mpr (by omega)]; simp
theorem E_X12_shadeNow_4 {n : Nat} {W : jWd} : ∀ (k : Nat) {a0 : Nat} {x1 : Int32} {x2 : Int32} {h : jH} {q : Int32} (i : Nat) (M : mS (oc h) a0) (hW : wl (oc h) a0 = W) (K : wOK W) (hx : x2 = nI i) (hi : i ≤ 8), F_X12_shadeNow_4 n k a0 x1 x2 h = some q → skyE W ((W 0).toInt.toNat - 1) i x1 q
  | 0, a0, x1, x2, h, q, i, M, hW, K, hx, hi, hf => by cases hf
  | k + 1, a0, x1, x2, h, q, i, M, hW, K, hx, hi, hf => by
    replace hf : F_X12_shadeNow_4_b n (F_X12_shadeNow_4 n k) a0 x1 x2 h = some q := hf
    unfold F_X12_shadeNow_4_b at hf
    subst hx
    have K0 := K.1
    have l1 : (1 : Int32).toInt = 1 := rfl
    have ew : (W 0 - 1).toInt = (W 0).toInt - 1 := jsub (by omega) (by omega)
    replace hf := jbind hf
    obtain ⟨v6, e1, hf⟩ := hf
    replace e1 := (jcv_o e1).2
    have r1 := E_X12_lastRing M e1
    rw [hW] at r1
    subst r1
    replace hf := jite hf
    rcases hf with ⟨c2, hf⟩ | ⟨c2, hf⟩
    · skip
      rw [nI_eI (by omega), ew] at c2
      cases hf
      -- leaf 0: x1
      exact sky_end (by omega)
    · skip
      rw [nI_eI (by omega), ew] at c2
      replace hf := jbind hf
      obtain ⟨v16, e3, hf⟩ := hf
      replace e3 := (jcv_o e3).2
      have r3 := E_X12_is (i := i) (j := 6) (t := 17 + 8 * i) M rfl rfl (by omega) (by omega) e3
      rw [hW] at r3
      replace hf := jite hf
      rcases hf with ⟨c4, hf⟩ | ⟨c4, hf⟩
      · skip
        -- leaf 10: rc4 a0 x1 (x2 + (1 : Int32)) h
        rw [nI_1] at hf
        exact sky_n (by omega) (Or.inl fun z => by have := r3.2.mpr z; rw [c4] at this; exact absurd this (by decide)) (E_X12_shadeNow_4 k (i + 1) M hW K rfl (by omega) hf)
      · skip
        replace hf := jbind hf
        obtain ⟨v28, e5, hf⟩ := hf
        replace e5 := (jcv_o e5).2
        have r5 := E_X12_is (i := (i + 1)) (j := 6) (t := 17 + 8 * (i + 1)) M (nI_1 i) rfl (by omega) (by omega) e5
        rw [hW] at r5
        replace hf := jite hf
        rcases hf with ⟨c6, hf⟩ | ⟨c6, hf⟩
        · skip
          -- leaf 110: rc4 a0 x1 (x2 + (1 : Int32)) h
          rw [nI_1] at hf
          exact sky_n (by omega) (Or.inr fun z => by have := r5.2.mpr z; rw [c6] at this; exact absurd this (by decide)) (E_X12_shadeNow_4 k (i + 1) M hW K rfl (by omega) hf)
        · skip
          replace hf := jbind hf
          obtain ⟨v40, e7, hf⟩ := hf
          replace e7 := (jcv_o e7).2
          have r7 := E_X12_of (i := i) (j := 0) (t := 11 + 8 * i) M rfl rfl (by omega) (by omega) e7
          rw [hW] at r7
          subst r7
          -- leaf 111: F_X12_shadeNow_44 n rc4 n a0 x1 x2 v40 h
          have kp := (K.2.1 i (by omega)).1
          have kq := K.2.2.1 i (by omega)
          have en : W (11 + 8 * i) = nI (W (11 + 8 * i)).toInt.toNat := nI_on kp.1
          obtain ⟨v, hv, h2⟩ := E_X12_shadeNow_44 (z0 := x1) (t0 := (W (11 + 8 * i)).toInt.toNat) n i M hW K rfl hi (W (11 + 8 * i)).toInt.toNat (by omega) en (by omega) (fun p hp => by rw [decide_eq_false (by omega)]; simp) ⟨Nat.le_refl _, by omega⟩ hf
          rw [nI_1] at h2
          rw [show (((W (11 + 8 * i)).toInt.toNat : Nat) : Int) = (W (11 + 8 * i)).toInt by omega] at hv
          exact sky_y (by omega) (r3.2.mp (r3.1.resolve_left c4)) (r5.2.mp (r5.1.resolve_left c6)) hv (E_X12_shadeNow_4 k (i + 1) M hW K rfl (by omega) h2)
theorem gap_m1 {n a : Nat} {h : jH} {v : Int32} (e : F_X8_gap n a (nI 0 - (1 : Int32)) (-1 : Int32) h = some v) : v = -1 := by
  unfold F_X8_gap at e
  rw [if_pos (by decide)] at e
  cases e
  rfl
def bnW (W : jWd) (i : Nat) (b : Int32) : Int32 := if 0 < i ∧ W (11 + 8 * i) - W (11 + 8 * (i - 1)) = 1 then b + 1 else 1
def bnF (W : jWd) : Nat → Nat → Int32 → Int32 → Int32
  | 0, _, a, _ => a
  | m + 1, i, a, b => bnF W m (i + 1) (if a < bnW W i b then bnW W i b else a) (bnW W i b)
theorem bn_e {W : jWd} {c i : Nat} {a b : Int32} (h : c ≤ i) : bnF W (c - i) i a b = a := by
  rw [show c - i = 0 by omega]; rfl
theorem bn_s {W : jWd} {c i : Nat} {a b s : Int32} (h : i < c) (hs : s = bnW W i b) : bnF W (c - i) i a b = bnF W (c - (i + 1)) (i + 1) (if a < s then s else a) s := by
  obtain ⟨m, hm⟩ : ∃ m, c - i = m + 1 := ⟨c - i - 1, by omega⟩
  rw [hm, show c - (i + 1) = m by omega, hs]; rfl
theorem nI_p {i : Nat} (h : 0 < i) : nI i - (1 : Int32) = nI (i - 1) := by
  have := nI_1 (i - 1)
  rw [show i - 1 + 1 = i by omega] at this
  rw [← this]; simp
theorem E_X6_largestBunch_6 {n : Nat} {W : jWd} : ∀ (k : Nat) {a0 : Nat} {x1 : Int32} {x2 : Int32} {x3 : Int32} {h : jH} {q : Int32} (i : Nat) (R : rodE (oc h) a0 W) (K : wOK W) (hx : x3 = nI i) (hi : i ≤ 8), F_X6_largestBunch_6 n k a0 x1 x2 x3 h = some q → q = bnF W ((W 0).toInt.toNat - i) i x1 x2
  | 0, a0, x1, x2, x3, h, q, i, R, K, hx, hi, hf => by cases hf
  | k + 1, a0, x1, x2, x3, h, q, i, R, K, hx, hi, hf => by
    replace hf : F_X6_largestBunch_6_b n (F_X6_largestBunch_6 n k) a0 x1 x2 x3 h = some q := hf
    unfold F_X6_largestBunch_6_b at hf
    obtain ⟨⟨s0, s1, s2, s3, s4, s5⟩, ⟨u5, u10, u11, u12, u13, u14, u15, u16, u17⟩, RB, RC, RL⟩ := id R
    subst hx
    have K0 := K.1
    have l1 : (1 : Int32).toInt = 1 := rfl
    have ew : (W 0 - 1).toInt = (W 0).toInt - 1 := jsub (by omega) (by omega)
    replace hf := jbind hf
    obtain ⟨v8, e1, hf⟩ := hf
    have r1 := oc_gI e1
    subst r1
    clear e1
    replace hf := jite hf
    rcases hf with ⟨c2, hf⟩ | ⟨c2, hf⟩
    · skip
      rw [u5, nI_eI (by omega)] at c2
      cases hf
      -- leaf 0: x1
      rw [bn_e (by omega)]
    · skip
      rw [u5, nI_eI (by omega)] at c2
      replace hf := jbind hf
      obtain ⟨v19, e3, hf⟩ := hf
      replace e3 := (jcv_o e3).2
      replace hf := jite hf
      rcases hf with ⟨c4, hf⟩ | ⟨c4, hf⟩
      · skip
        -- leaf 10: F_X6_largestBunch_33 n rc6 a0 x1 x3 (x2 + (1 : Int32)) h
        unfold F_X6_largestBunch_33 at hf
        rw [nI_1] at hf
        rw [bn_s (by omega) (s := x2 + 1) ?_]
        · exact E_X6_largestBunch_6 k (i + 1) R K rfl (by omega) hf
        unfold bnW
        have i0 : 0 < i := Nat.pos_of_ne_zero fun z => by
          subst z
          have := gap_m1 e3
          rw [this] at c4
          exact absurd c4 (by decide)
        have g := E_X8_gap (i := i - 1) R K (nI_p i0) (by omega) e3
        rw [if_pos (by omega), show i - 1 + 1 = i by omega] at g
        rw [if_pos ⟨i0, g.symm.trans c4⟩]
      · skip
        -- leaf 11: F_X6_largestBunch_33 n rc6 a0 x1 x3 (1 : Int32) h
        unfold F_X6_largestBunch_33 at hf
        rw [nI_1] at hf
        rw [bn_s (by omega) (s := 1) ?_]
        · exact E_X6_largestBunch_6 k (i + 1) R K rfl (by omega) hf
        unfold bnW
        rw [if_neg]
        intro z
        have g := E_X8_gap (i := i - 1) R K (nI_p z.1) (by omega) e3
        rw [if_pos (by omega), show i - 1 + 1 = i by omega] at g
        exact c4 (g.trans z.2)
theorem E_X12_bunch_11 {n : Nat} {W : jWd} : ∀ (k : Nat) {a0 : Nat} {x1 : Int32} {x2 : Int32} {x3 : Int32} {h : jH} {q : Int32 × jH} (i : Nat) (M : mS (oc h) a0) (hW : wl (oc h) a0 = W) (K : wOK W) (hx : x3 = nI i) (hi : i ≤ 8), F_X12_bunch_11 n k a0 x1 x2 x3 h = some q → q = (bnF W ((W 0).toInt.toNat - i) i x1 x2, h)
  | 0, a0, x1, x2, x3, h, q, i, M, hW, K, hx, hi, hf => by cases hf
  | k + 1, a0, x1, x2, x3, h, q, i, M, hW, K, hx, hi, hf => by
    replace hf : F_X12_bunch_11_b n (F_X12_bunch_11 n k) a0 x1 x2 x3 h = some q := hf
    unfold F_X12_bunch_11_b at hf
    subst hx
    have K0 := K.1
    have l1 : (1 : Int32).toInt = 1 := rfl
    have ew : (W 0 - 1).toInt = (W 0).toInt - 1 := jsub (by omega) (by omega)
    replace hf := jbind hf
    obtain ⟨v13, e1, hf⟩ := hf
    replace e1 := (jcv_o e1).2
    have r1 := E_X12_rings M e1
    rw [hW] at r1
    subst r1
    replace hf := jite hf
    rcases hf with ⟨c2, hf⟩ | ⟨c2, hf⟩
    · skip
      rw [nI_eI (by omega)] at c2
      cases hf
      -- leaf 0: (x1, h)
      rw [bn_e (by omega)]
    · skip
      rw [nI_eI (by omega)] at c2
      replace hf := jite hf
      rcases hf with ⟨c3, hf⟩ | ⟨c3, hf⟩
      · skip
        -- leaf 10: F_X12_bunch_41 n rc11 a0 x1 x3 (1 : Int32) h
        rw [Int32.le_iff_toInt_le, nI_toInt (by omega)] at c3
        have l0 : (0 : Int32).toInt = 0 := rfl
        unfold F_X12_bunch_41 at hf
        rw [nI_1] at hf
        rw [bn_s (by omega) (s := 1) ?_]
        · exact E_X12_bunch_11 k (i + 1) M hW K rfl (by omega) hf
        unfold bnW
        rw [if_neg (by omega)]
      · skip
        replace hf := jbind hf
        obtain ⟨v27, e4, hf⟩ := hf
        replace e4 := (jcv_o e4).2
        have i0 : 0 < i := by rw [Int32.le_iff_toInt_le, nI_toInt (by omega)] at c3; have l0 : (0 : Int32).toInt = 0 := rfl; omega
        have g := E_X12_gapOf (i := i - 1) M (by rw [hW]; exact K) (nI_p i0) (by rw [hW]; omega) e4
        rw [hW, if_pos (by omega), show i - 1 + 1 = i by omega] at g
        replace hf := jite hf
        rcases hf with ⟨c5, hf⟩ | ⟨c5, hf⟩
        · skip
          -- leaf 110: F_X12_bunch_41 n rc11 a0 x1 x3 (x2 + (1 : Int32)) h
          unfold F_X12_bunch_41 at hf
          rw [nI_1] at hf
          rw [bn_s (by omega) (s := x2 + 1) ?_]
          · exact E_X12_bunch_11 k (i + 1) M hW K rfl (by omega) hf
          unfold bnW
          rw [if_pos ⟨i0, g.symm.trans c5⟩]
        · skip
          -- leaf 111: F_X12_bunch_41 n rc11 a0 x1 x3 (1 : Int32) h
          unfold F_X12_bunch_41 at hf
          rw [nI_1] at hf
          rw [bn_s (by omega) (s := 1) ?_]
          · exact E_X12_bunch_11 k (i + 1) M hW K rfl (by omega) hf
          unfold bnW
          rw [if_neg (fun z => c5 (g.trans z.2))]
/-! questions: what both sides have at hand -/
theorem q_cl {x nx r L : Nat} {W : jWd} {h : jH} (E : eqS x nx r L W h) : oc h x 1 = .ref (x + 6) ∧ rodE (oc h) (x + 6) W ∧ wOK W ∧ wl (oc h) (x + 40) = W ∧ mS (oc h) (x + 40) :=
  ⟨E.1.2.1, E.2.2.1.1, E.2.2.1.2.2.1, E.2.2.1.2.1, E.1.2.2.2.2.2.2.2⟩
theorem q_pf {x nx r L : Nat} {W : jWd} {h h2 : jH} (E : eqS x nx r L W h) (e : jpf 10 h (x + 40) 0 (.int (0 : Int32)) = some h2) : mS (oc h2) (x + 40) ∧ wl (oc h2) (x + 40) = W := by
  obtain ⟨-, -, -, hW, M⟩ := q_cl E
  have f : frM (x + 40) [] [0] (oc h) (oc h2) := by rw [(oc_pf e).1]; exact frM_f (by decide)
  exact ⟨mS_fr M f (by decide) (by decide), (wl_f f (by decide)).trans hW⟩
theorem bt_z {i : Nat} : bt (0 : Int32) i = false := by unfold bt; simp
/-- the word of the first c rings -/
theorem low_m {c i : Nat} (hc : c ≤ 8) (hi : i < 32) : bt (((1 : Int32) <<< (nI c &&& 31)) - (1 : Int32)) i = decide (i < c) := by
  have h : ∀ c, c < 9 → ∀ i, i < 32 → bt (((1 : Int32) <<< (nI c &&& 31)) - (1 : Int32)) i = decide (i < c) := by decide +kernel
  exact h c (by omega) i hi
theorem bc_h {n : Nat} {x : Int32} {h h2 : jH} {a b : Int32} (e : F_J6_bitCount_0f7a4 n x h = some a) (f : F_J6_bitCount_0f7a4 n x h2 = some b) : a = b := by
  unfold F_J6_bitCount_0f7a4 at e f
  exact Option.some.inj (e.symm.trans f)
/-! form B: what was thrown, and the answer -/
theorem hd_thr {m n : Nat} {h : jH} {v8 c : Int32} {q12 : Int32 × jH} {P : Prop} (r8 : (v8 = 0 ∨ v8 = 1) ∧ (v8 = 1 ↔ ¬ P)) (e12 : jcv 10 h m (F_X12_throwsIf n m v8 c h) = some q12) : (P ∧ q12.1 = 0 ∧ q12.2 = h) ∨ (¬ P ∧ q12.1 = 1 ∧ oi (oc q12.2) m 0 = c) := by
  rcases E_X12_throwsIf r8.1 (jcv_o e12).2 with ⟨a, b, d⟩ | ⟨a, b, T⟩
  · exact Or.inl ⟨Classical.byContradiction fun z => by have := r8.2.mpr z; rw [a] at this; exact absurd this (by decide), b, d⟩
  · exact Or.inr ⟨r8.2.mp a, b, T.1⟩
/-- a number that must lie between two others -/
theorem hd_in {x lo hi v : Int32} {n : Nat} {h : jH} (e : F_X12_in n x lo hi h = some v) : (v = 0 → ((1 : Int32) = 0 ∨ (1 : Int32) = 1) ∧ ((1 : Int32) = 1 ↔ ¬ (lo.toInt ≤ x.toInt ∧ x.toInt ≤ hi.toInt))) ∧ (¬ v = 0 → ((0 : Int32) = 0 ∨ (0 : Int32) = 1) ∧ ((0 : Int32) = 1 ↔ ¬ (lo.toInt ≤ x.toInt ∧ x.toInt ≤ hi.toInt))) := by
  obtain ⟨a, b⟩ := E_X12_in e
  refine ⟨fun z => ⟨Or.inr rfl, fun _ y => ?_, fun _ => rfl⟩, fun z => ⟨Or.inl rfl, fun y => absurd y (by decide), fun y => absurd (b.mp (a.resolve_left z)) y⟩⟩
  have := b.mpr y
  rw [z] at this
  exact absurd this (by decide)
theorem q_t0 {m : Nat} {h h2 : jH} (e : jpf 10 h m 0 (.int (0 : Int32)) = some h2) : oi (oc h2) m 0 = 0 := by rw [(oc_pf e).1, oi_eq]
/-- the reference's thrown code is left alone -/
theorem tz_fr {m : Nat} {cs fs : List Nat} {h h2 : jH} (f : frM m cs fs (oc h) (oc h2)) (hc : 0 ∉ cs) (hf : 0 ∉ fs) {v : Int32} (t : oi (oc h) m 0 = v) : oi (oc h2) m 0 = v := by
  have e : oi (oc h2) m 0 = oi (oc h) m 0 := oi_M f (fun c h q => hc ((show c = 0 by omega) ▸ h)) (fun _ => hf)
  exact e.trans t
/-- how far a ring goes is one number -/
theorem far_u {N f g : Nat} {G : Nat → Int32} (f1 : f ≤ N) (f2 : ∀ s, s < f → G s ≠ 0) (f3 : f = N ∨ G f = 0) (g1 : g ≤ N) (g2 : ∀ s, s < g → G s ≠ 0) (g3 : g = N ∨ G g = 0) : f = g := by
  rcases Nat.lt_trichotomy f g with q | q | q
  · exact absurd (f3.resolve_left (by omega)) (g2 f q)
  · exact q
  · exact absurd (g3.resolve_left (by omega)) (f2 g q)
/-! hours in the sun, rows of the shortest cloth, neighbours, rings alike -/
theorem nI_ad (a b : Nat) : nI a + nI b = nI (a + b) := (Int32.ofNat_add a b).symm
theorem i_le {x y : Int32} : ¬ x ≤ y ↔ y < x := by
  rw [Int32.le_iff_toInt_le, Int32.lt_iff_toInt_lt]; omega
noncomputable def lhF (W : jWd) (i t : Nat) : Int32 := if litW W i (nI t) = 0 then 0 else 1
noncomputable def lhW (W : jWd) (i : Nat) : Int32 := sumF (lhF W i) 8 0 0
noncomputable def snF (W : jWd) : Nat → Nat → Int32 → Int32 → Int32
  | 0, _, b, _ => b
  | m + 1, i, b, l => if lhW W i ≤ l then snF W m (i + 1) b l else snF W m (i + 1) (nI i) (lhW W i)
theorem sn_e {W : jWd} {c i : Nat} {b l : Int32} (h : c ≤ i) : snF W (c - i) i b l = b := by
  rw [show c - i = 0 by omega]; rfl
theorem sn_s {W : jWd} {c i : Nat} {b l : Int32} (h : i < c) : snF W (c - i) i b l = if lhW W i ≤ l then snF W (c - (i + 1)) (i + 1) b l else snF W (c - (i + 1)) (i + 1) (nI i) (lhW W i) := by
  obtain ⟨m, hm⟩ : ∃ m, c - i = m + 1 := ⟨c - i - 1, by omega⟩
  rw [hm, show c - (i + 1) = m by omega]; rfl
def spW (W : jWd) (k i : Nat) : Int32 := W (11 + 8 * (i + k - 1)) - W (11 + 8 * i)
def tgF (W : jWd) (k : Nat) : Nat → Nat → Int32 → Int32 → Int32
  | 0, _, b, _ => b
  | m + 1, i, b, l => if l ≤ spW W k i then tgF W k m (i + 1) b l else tgF W k m (i + 1) (nI i) (spW W k i)
theorem tg_e {W : jWd} {k c i : Nat} {b l : Int32} (h : c ≤ i) : tgF W k (c - i) i b l = b := by
  rw [show c - i = 0 by omega]; rfl
theorem tg_s {W : jWd} {k c i : Nat} {b l : Int32} (h : i < c) : tgF W k (c - i) i b l = if l ≤ spW W k i then tgF W k (c - (i + 1)) (i + 1) b l else tgF W k (c - (i + 1)) (i + 1) (nI i) (spW W k i) := by
  obtain ⟨m, hm⟩ : ∃ m, c - i = m + 1 := ⟨c - i - 1, by omega⟩
  rw [hm, show c - (i + 1) = m by omega]; rfl
theorem tg_32 {W : jWd} (K : wOK W) {k : Nat} (h2 : 2 ≤ k) (m : Nat) (hm : m = 0 ∨ (k : Int) ≤ (W 0).toInt) {b : Int32} : tgF W k m 0 b 32 = tgF W k m 0 b 1000000 := by
  cases m with
  | zero => rfl
  | succ m =>
    have hk := hm.resolve_left (by omega)
    have a := (K.2.1 0 (by omega)).1
    have c := (K.2.1 (0 + k - 1) (by omega)).1
    have e : (spW W k 0).toInt = (W (11 + 8 * (0 + k - 1))).toInt - (W (11 + 8 * 0)).toInt := jsub (by omega) (by omega)
    have l32 : (32 : Int32).toInt = 32 := rfl
    have lM : (1000000 : Int32).toInt = 1000000 := rfl
    have n1 : ¬ (32 : Int32) ≤ spW W k 0 := by rw [Int32.le_iff_toInt_le, e]; omega
    have n2 : ¬ (1000000 : Int32) ≤ spW W k 0 := by rw [Int32.le_iff_toInt_le, e]; omega
    show (if (32 : Int32) ≤ spW W k 0 then _ else _) = (if (1000000 : Int32) ≤ spW W k 0 then _ else _)
    rw [if_neg n1, if_neg n2]
def abI (d : Int32) : Int32 := if 0 ≤ d then d else 0 - d
def evF (W : jWd) (i : Nat) : Int32 := if abI (W (16 + 8 * i) - W (16 + 8 * (i + 1))) ≤ (1 : Int32) then 0 else 1
def evG (W : jWd) (i : Nat) : Int32 := if abI (W (15 + 8 * i) - W (15 + 8 * (i + 1))) ≤ (1 : Int32) then 0 else 1
theorem lt_2 {x : Int32} : x < 2 ↔ x ≤ 1 := by
  have l2 : (2 : Int32).toInt = 2 := rfl
  have l1 : (1 : Int32).toInt = 1 := rfl
  rw [Int32.le_iff_toInt_le, Int32.lt_iff_toInt_lt]; omega
theorem a_0 {x : Int32} : x + (0 : Int32) = x := by simp
/-- rings i and j alike -/
def twW (W : jWd) (i j : Nat) : Int32 := if W (12 + 8 * i) = W (12 + 8 * j) then (if W (16 + 8 * i) = W (16 + 8 * j) then (if W (15 + 8 * i) = W (15 + 8 * j) then 1 else 0) else 0) else 0
theorem tw_c (W : jWd) (i j : Nat) : twW W i j = twW W j i := by
  unfold twW
  simp only [eq_comm (a := W (12 + 8 * i)), eq_comm (a := W (16 + 8 * i)), eq_comm (a := W (15 + 8 * i))]
def twC (W : jWd) (c : Nat) : Nat → Nat → Int32 → Int32
  | 0, _, a => a
  | m + 1, i, a => twC W c m (i + 1) (sumF (twW W i) (c - (i + 1)) (i + 1) a)
def twR (W : jWd) : Nat → Nat → Int32 → Int32
  | 0, _, a => a
  | m + 1, i, a => twR W m (i + 1) (sumF (twW W i) i 0 a)
theorem twC_e {W : jWd} {c i : Nat} {a : Int32} (h : c ≤ i) : twC W c (c - i) i a = a := by
  rw [show c - i = 0 by omega]; rfl
theorem twC_s {W : jWd} {c i : Nat} {a : Int32} (h : i < c) : twC W c (c - i) i a = twC W c (c - (i + 1)) (i + 1) (sumF (twW W i) (c - (i + 1)) (i + 1) a) := by
  obtain ⟨m, hm⟩ : ∃ m, c - i = m + 1 := ⟨c - i - 1, by omega⟩
  rw [hm, show c - (i + 1) = m by omega]
  show twC W c m (i + 1) (sumF (twW W i) (c - (i + 1)) (i + 1) a) = _
  rw [show c - (i + 1) = m by omega]
theorem twR_e {W : jWd} {c i : Nat} {a : Int32} (h : c ≤ i) : twR W (c - i) i a = a := by
  rw [show c - i = 0 by omega]; rfl
theorem twR_s {W : jWd} {c i : Nat} {a : Int32} (h : i < c) : twR W (c - i) i a = twR W (c - (i + 1)) (i + 1) (sumF (twW W i) i 0 a) := by
  obtain ⟨m, hm⟩ : ∃ m, c - i = m + 1 := ⟨c - i - 1, by omega⟩
  rw [hm, show c - (i + 1) = m by omega]; rfl
/-- pairs counted from either side -/
theorem sum_a {f : Nat → Int32} : ∀ (m i : Nat) (a b : Int32), sumF f m i (a + b) = sumF f m i a + b
  | 0, _, _, _ => rfl
  | m + 1, i, a, b => by
    show sumF f m (i + 1) (a + b + f i) = sumF f m (i + 1) (a + f i) + b
    rw [show a + b + f i = (a + f i) + b by ac_rfl]
    exact sum_a m (i + 1) (a + f i) b
theorem sum_l {f : Nat → Int32} : ∀ (m i : Nat) (a : Int32), sumF f (m + 1) i a = sumF f m i a + f (i + m)
  | 0, _, _ => rfl
  | m + 1, i, a => by
    show sumF f (m + 1) (i + 1) (a + f i) = sumF f m (i + 1) (a + f i) + f (i + (m + 1))
    rw [sum_l m (i + 1) (a + f i), show i + 1 + m = i + (m + 1) by omega]
/-- one ring more: its pairs with those before it -/
theorem twC_a {W : jWd} {c : Nat} : ∀ (m i : Nat) (a b : Int32), twC W c m i (a + b) = twC W c m i a + b
  | 0, _, _, _ => rfl
  | m + 1, i, a, b => by
    show twC W c m (i + 1) (sumF (twW W i) (c - (i + 1)) (i + 1) (a + b)) = twC W c m (i + 1) (sumF (twW W i) (c - (i + 1)) (i + 1) a) + b
    rw [sum_a, twC_a m]
theorem twC_l {W : jWd} {c : Nat} : ∀ (m i : Nat) (a : Int32), i + m = c → twC W (c + 1) m i a = twC W c m i a + sumF (fun j => twW W j c) m i 0
  | 0, _, a, _ => (a_0 (x := a)).symm
  | m + 1, i, a, h => by
    show twC W (c + 1) m (i + 1) (sumF (twW W i) (c + 1 - (i + 1)) (i + 1) a) = twC W c m (i + 1) (sumF (twW W i) (c - (i + 1)) (i + 1) a) + sumF (fun j => twW W j c) m (i + 1) (0 + twW W i c)
    rw [twC_l m (i + 1) _ (by omega), show c + 1 - (i + 1) = (c - (i + 1)) + 1 by omega, sum_l, show i + 1 + (c - (i + 1)) = c by omega, twC_a, sum_a]
    ac_rfl
theorem twC_z {W : jWd} {c : Nat} : ∀ (m i : Nat) (a : Int32), i + m = c → twC W (c + 1) (m + 1) i a = twC W (c + 1) m i a
  | 0, i, a, h => by
    show sumF (twW W i) (c + 1 - (i + 1)) (i + 1) a = a
    rw [show c + 1 - (i + 1) = 0 by omega]; rfl
  | m + 1, i, a, h => twC_z m (i + 1) _ (by omega)
theorem twR_l {W : jWd} : ∀ (m i : Nat) (a : Int32), twR W (m + 1) i a = sumF (twW W (i + m)) (i + m) 0 (twR W m i a)
  | 0, _, _ => rfl
  | m + 1, i, a => by
    show twR W (m + 1) (i + 1) (sumF (twW W i) i 0 a) = sumF (twW W (i + (m + 1))) (i + (m + 1)) 0 (twR W m (i + 1) (sumF (twW W i) i 0 a))
    rw [twR_l m (i + 1), show i + 1 + m = i + (m + 1) by omega]
theorem tw_eq (W : jWd) : ∀ c, twC W c c 0 0 = twR W c 0 0
  | 0 => rfl
  | c + 1 => by
    have e : twR W c 0 0 = 0 + twR W c 0 0 := by simp
    rw [twC_z c 0 0 (by omega), twC_l c 0 0 (by omega), tw_eq W c, twR_l, Nat.zero_add]
    rw [e, sum_a, show (fun j => twW W j c) = twW W c from funext fun j => tw_c W j c]
    simp only [Int32.zero_add]
    ac_rfl
theorem E_X6_litHours_4 {n : Nat} {W : jWd} {i : Nat} : ∀ (k : Nat) {a0 : Nat} {x1 : Int32} {x2 : Int32} {x3 : Int32} {h : jH} {q : Int32} (t : Nat) (R : rodE (oc h) a0 W) (K : wOK W) (h1 : x1 = nI i) (hi : (i : Int) < (W 0).toInt) (hx : x3 = nI t) (ht : t ≤ 8), F_X6_litHours_4 n k a0 x1 x2 x3 h = some q → q = sumF (lhF W i) (8 - t) t x2
  | 0, a0, x1, x2, x3, h, q, t, R, K, h1, hi, hx, ht, hf => by cases hf
  | k + 1, a0, x1, x2, x3, h, q, t, R, K, h1, hi, hx, ht, hf => by
    replace hf : F_X6_litHours_4_b n (F_X6_litHours_4 n k) a0 x1 x2 x3 h = some q := hf
    unfold F_X6_litHours_4_b at hf
    subst hx
    have l8 : (8 : Int32).toInt = 8 := rfl
    replace hf := jite hf
    rcases hf with ⟨c1, hf⟩ | ⟨c1, hf⟩
    · skip
      rw [Int32.le_iff_toInt_le, nI_toInt (by omega), l8] at c1
      cases hf
      -- leaf 0: x2
      rw [sum_e (by omega)]
    · skip
      rw [Int32.le_iff_toInt_le, nI_toInt (by omega), l8] at c1
      replace hf := jbind hf
      obtain ⟨v13, e2, hf⟩ := hf
      replace e2 := (jcv_o e2).2
      have r2 := E_X8_isLit (i := i) R K h1 hi e2
      replace hf := jite hf
      rcases hf with ⟨c3, hf⟩ | ⟨c3, hf⟩
      · skip
        -- leaf 10: rc4 a0 x1 x2 (x3 + (1 : Int32)) h
        rw [nI_1] at hf
        rw [sum_s (by omega), show lhF W i t = 0 from if_pos (r2.symm.trans c3), a_0]
        exact E_X6_litHours_4 k (t + 1) R K h1 hi rfl (by omega) hf
      · skip
        -- leaf 11: rc4 a0 x1 (x2 + (1 : Int32)) (x3 + (1 : Int32)) h
        rw [nI_1] at hf
        rw [sum_s (by omega), show lhF W i t = 1 from if_neg (fun z => c3 (r2.trans z))]
        exact E_X6_litHours_4 k (t + 1) R K h1 hi rfl (by omega) hf
theorem E_X6_sunniest_6 {n : Nat} {W : jWd} : ∀ (k : Nat) {a0 : Nat} {x1 : Int32} {x2 : Int32} {x3 : Int32} {h : jH} {q : Int32} (i : Nat) (R : rodE (oc h) a0 W) (K : wOK W) (hx : x3 = nI i) (hi : i ≤ 8), F_X6_sunniest_6 n k a0 x1 x2 x3 h = some q → q = snF W ((W 0).toInt.toNat - i) i x1 x2
  | 0, a0, x1, x2, x3, h, q, i, R, K, hx, hi, hf => by cases hf
  | k + 1, a0, x1, x2, x3, h, q, i, R, K, hx, hi, hf => by
    replace hf : F_X6_sunniest_6_b n (F_X6_sunniest_6 n k) a0 x1 x2 x3 h = some q := hf
    unfold F_X6_sunniest_6_b at hf
    obtain ⟨⟨s0, s1, s2, s3, s4, s5⟩, ⟨u5, u10, u11, u12, u13, u14, u15, u16, u17⟩, RB, RC, RL⟩ := id R
    subst hx
    have K0 := K.1
    have l1 : (1 : Int32).toInt = 1 := rfl
    have ew : (W 0 - 1).toInt = (W 0).toInt - 1 := jsub (by omega) (by omega)
    replace hf := jbind hf
    obtain ⟨v8, e1, hf⟩ := hf
    have r1 := oc_gI e1
    subst r1
    clear e1
    replace hf := jite hf
    rcases hf with ⟨c2, hf⟩ | ⟨c2, hf⟩
    · skip
      rw [u5, nI_eI (by omega)] at c2
      cases hf
      -- leaf 0: x1
      rw [sn_e (by omega)]
    · skip
      rw [u5, nI_eI (by omega)] at c2
      replace hf := jbind hf
      obtain ⟨v16, e3, hf⟩ := hf
      have r3 : v16 = lhW W i := E_X6_litHours_4 (i := i) n 0 R K rfl (by omega) rfl (by omega) e3
      replace hf := jite hf
      rcases hf with ⟨c4, hf⟩ | ⟨c4, hf⟩
      · skip
        -- leaf 10: rc6 a0 x1 x2 (x3 + (1 : Int32)) h
        rw [nI_1] at hf
        rw [sn_s (by omega), if_pos (r3 ▸ c4)]
        exact E_X6_sunniest_6 k (i + 1) R K rfl (by omega) hf
      · skip
        -- leaf 11: rc6 a0 x3 v16 (x3 + (1 : Int32)) h
        rw [nI_1, r3] at hf
        rw [sn_s (by omega), if_neg (r3 ▸ c4)]
        exact E_X6_sunniest_6 k (i + 1) R K rfl (by omega) hf
theorem E_X12_sunny_25 {n : Nat} {rc11 : Nat → Int32 → Int32 → Int32 → jH → Option (Int32 × jH)} {W : jWd} {i : Nat} : ∀ (k : Nat) {a0 : Nat} {x1 : Int32} {x2 : Int32} {x3 : Int32} {x4 : Int32} {x5 : Int32} {h : jH} {q : Int32 × jH} (t : Nat) (M : mS (oc h) a0) (hW : wl (oc h) a0 = W) (K : wOK W) (h1 : x3 = nI i) (hi : (i : Int) < (W 0).toInt) (hx : x5 = nI t) (ht : t ≤ 8), F_X12_sunny_25 n rc11 k a0 x1 x2 x3 x4 x5 h = some q → rc11 a0 (if sumF (lhF W i) (8 - t) t x4 ≤ x2 then x1 else x3) (if x2 < sumF (lhF W i) (8 - t) t x4 then sumF (lhF W i) (8 - t) t x4 else x2) (x3 + (1 : Int32)) h = some q
  | 0, a0, x1, x2, x3, x4, x5, h, q, t, M, hW, K, h1, hi, hx, ht, hf => by cases hf
  | k + 1, a0, x1, x2, x3, x4, x5, h, q, t, M, hW, K, h1, hi, hx, ht, hf => by
    replace hf : F_X12_sunny_25_b n rc11 (F_X12_sunny_25 n rc11 k) a0 x1 x2 x3 x4 x5 h = some q := hf
    unfold F_X12_sunny_25_b at hf
    subst hx
    have l8 : (8 : Int32).toInt = 8 := rfl
    replace hf := jite hf
    rcases hf with ⟨c1, hf⟩ | ⟨c1, hf⟩
    · skip
      rw [Int32.le_iff_toInt_le, nI_toInt (by omega), l8] at c1
      replace hf := jite hf
      rcases hf with ⟨c2, hf⟩ | ⟨c2, hf⟩
      · skip
        -- leaf 00: F_X12_sunny_69 n rc11 a0 x2 x3 x4 x1 h
        rw [sum_e (by omega), if_pos c2]
        exact hf
      · skip
        -- leaf 01: F_X12_sunny_69 n rc11 a0 x2 x3 x4 x3 h
        rw [sum_e (by omega), if_neg c2]
        exact hf
    · skip
      rw [Int32.le_iff_toInt_le, nI_toInt (by omega), l8] at c1
      replace hf := jbind hf
      obtain ⟨v38, e3, hf⟩ := hf
      replace e3 := (jcv_o e3).2
      have r3 := E_X12_isLit (i := i) M hW K h1 hi e3
      replace hf := jite hf
      rcases hf with ⟨c4, hf⟩ | ⟨c4, hf⟩
      · skip
        -- leaf 10: rc25 a0 x1 x2 x3 (x4 + (0 : Int32)) (x5 + (1 : Int32)) h
        rw [nI_1, a_0] at hf
        rw [sum_s (by omega), show lhF W i t = 0 from if_pos (r3.symm.trans c4), a_0]
        exact E_X12_sunny_25 k (t + 1) M hW K h1 hi rfl (by omega) hf
      · skip
        -- leaf 11: rc25 a0 x1 x2 x3 (x4 + (1 : Int32)) (x5 + (1 : Int32)) h
        rw [nI_1] at hf
        rw [sum_s (by omega), show lhF W i t = 1 from if_neg (fun z => c4 (r3.trans z))]
        exact E_X12_sunny_25 k (t + 1) M hW K h1 hi rfl (by omega) hf
theorem E_X12_sunny_11 {n : Nat} {W : jWd} : ∀ (k : Nat) {a0 : Nat} {x1 : Int32} {x2 : Int32} {x3 : Int32} {h : jH} {q : Int32 × jH} (i : Nat) (M : mS (oc h) a0) (hW : wl (oc h) a0 = W) (K : wOK W) (hx : x3 = nI i) (hi : i ≤ 8), F_X12_sunny_11 n k a0 x1 x2 x3 h = some q → q = (snF W ((W 0).toInt.toNat - i) i x1 x2, h)
  | 0, a0, x1, x2, x3, h, q, i, M, hW, K, hx, hi, hf => by cases hf
  | k + 1, a0, x1, x2, x3, h, q, i, M, hW, K, hx, hi, hf => by
    replace hf : F_X12_sunny_11_b n (F_X12_sunny_11 n k) a0 x1 x2 x3 h = some q := hf
    unfold F_X12_sunny_11_b at hf
    subst hx
    have K0 := K.1
    have l1 : (1 : Int32).toInt = 1 := rfl
    have ew : (W 0 - 1).toInt = (W 0).toInt - 1 := jsub (by omega) (by omega)
    replace hf := jbind hf
    obtain ⟨v13, e1, hf⟩ := hf
    replace e1 := (jcv_o e1).2
    have r1 := E_X12_rings M e1
    rw [hW] at r1
    subst r1
    replace hf := jite hf
    rcases hf with ⟨c2, hf⟩ | ⟨c2, hf⟩
    · skip
      rw [nI_eI (by omega)] at c2
      cases hf
      -- leaf 0: (x1, h)
      rw [sn_e (by omega)]
    · skip
      rw [nI_eI (by omega)] at c2
      -- leaf 1: F_X12_sunny_25 n rc11 n a0 x1 x2 x3 (0 : Int32) (0 : Int32) h
      have z := E_X12_sunny_25 (i := i) n 0 M hW K rfl (by omega) rfl (by omega) hf
      rw [nI_1] at z
      rw [sn_s (by omega)]
      have ez : sumF (lhF W i) (8 - 0) 0 0 = lhW W i := rfl
      rw [ez] at z
      by_cases q9 : lhW W i ≤ x2
      · rw [if_pos q9, if_neg (by rw [← i_le]; exact fun y => y q9)] at z
        rw [if_pos q9]
        exact E_X12_sunny_11 k (i + 1) M hW K rfl (by omega) z
      · rw [if_neg q9, if_pos (i_le.mp q9)] at z
        rw [if_neg q9]
        exact E_X12_sunny_11 k (i + 1) M hW K rfl (by omega) z
theorem E_X6_litRings_4 {n : Nat} {W : jWd} : ∀ (k : Nat) {a0 : Nat} {x1 : Int32} {x2 : Int32} {x3 : Int32} {h : jH} {q : Int32} (i : Nat) (R : rodE (oc h) a0 W) (K : wOK W) (hx : x3 = nI i) (hi : i ≤ 8) (hb : lowB x2 i), F_X6_litRings_4 n k a0 x1 x2 x3 h = some q → mkE (fun i => decide (¬ litW W i x1 = 0)) ((W 0).toInt.toNat) i x2 q
  | 0, a0, x1, x2, x3, h, q, i, R, K, hx, hi, hb, hf => by cases hf
  | k + 1, a0, x1, x2, x3, h, q, i, R, K, hx, hi, hb, hf => by
    replace hf : F_X6_litRings_4_b n (F_X6_litRings_4 n k) a0 x1 x2 x3 h = some q := hf
    unfold F_X6_litRings_4_b at hf
    obtain ⟨⟨s0, s1, s2, s3, s4, s5⟩, ⟨u5, u10, u11, u12, u13, u14, u15, u16, u17⟩, RB, RC, RL⟩ := id R
    subst hx
    have K0 := K.1
    have l1 : (1 : Int32).toInt = 1 := rfl
    have ew : (W 0 - 1).toInt = (W 0).toInt - 1 := jsub (by omega) (by omega)
    replace hf := jbind hf
    obtain ⟨v6, e1, hf⟩ := hf
    have r1 := oc_gI e1
    subst r1
    clear e1
    replace hf := jite hf
    rcases hf with ⟨c2, hf⟩ | ⟨c2, hf⟩
    · skip
      rw [u5, nI_eI (by omega)] at c2
      cases hf
      -- leaf 0: x2
      exact mk_end (by omega)
    · skip
      rw [u5, nI_eI (by omega)] at c2
      replace hf := jbind hf
      obtain ⟨v17, e3, hf⟩ := hf
      replace e3 := (jcv_o e3).2
      have r3 := E_X8_isLit (i := i) R K rfl (by omega) e3
      replace hf := jbind hf
      obtain ⟨v20, e4, hf⟩ := hf
      have r4 := E_X11_wb e4
      -- leaf 1: rc4 a0 x1 v20 (x3 + (1 : Int32)) h
      rw [r3] at r4
      rw [nI_1] at hf
      rcases r4 with ⟨y, z⟩ | ⟨y, z⟩
      · rw [clr_0 (by omega) (hb i (Nat.le_refl _) (by omega))] at z
        rw [z] at hf
        exact mk_n (decide_eq_false (fun w => w y)) (E_X6_litRings_4 k (i + 1) R K rfl (by omega) (low_n hb) hf)
      · rw [z] at hf
        exact mk_y (by omega) (by omega) (decide_eq_true y) (E_X6_litRings_4 k (i + 1) R K rfl (by omega) (low_y (by omega) hb) hf)
theorem E_X12_litIn_4 {n : Nat} {W : jWd} : ∀ (k : Nat) {a0 : Nat} {x1 : Int32} {x2 : Int32} {x3 : Int32} {h : jH} {q : Int32} (i : Nat) (M : mS (oc h) a0) (hW : wl (oc h) a0 = W) (K : wOK W) (hx : x3 = nI i) (hi : i ≤ 8), F_X12_litIn_4 n k a0 x1 x2 x3 h = some q → mkE (fun i => decide (¬ litW W i x1 = 0)) ((W 0).toInt.toNat) i x2 q
  | 0, a0, x1, x2, x3, h, q, i, M, hW, K, hx, hi, hf => by cases hf
  | k + 1, a0, x1, x2, x3, h, q, i, M, hW, K, hx, hi, hf => by
    replace hf : F_X12_litIn_4_b n (F_X12_litIn_4 n k) a0 x1 x2 x3 h = some q := hf
    unfold F_X12_litIn_4_b at hf
    subst hx
    have K0 := K.1
    have l1 : (1 : Int32).toInt = 1 := rfl
    have ew : (W 0 - 1).toInt = (W 0).toInt - 1 := jsub (by omega) (by omega)
    replace hf := jbind hf
    obtain ⟨v6, e1, hf⟩ := hf
    replace e1 := (jcv_o e1).2
    have r1 := E_X12_rings M e1
    rw [hW] at r1
    subst r1
    replace hf := jite hf
    rcases hf with ⟨c2, hf⟩ | ⟨c2, hf⟩
    · skip
      rw [nI_eI (by omega)] at c2
      cases hf
      -- leaf 0: x2
      exact mk_end (by omega)
    · skip
      rw [nI_eI (by omega)] at c2
      replace hf := jbind hf
      obtain ⟨v16, e3, hf⟩ := hf
      replace e3 := (jcv_o e3).2
      have r3 := E_X12_isLit (i := i) M hW K rfl (by omega) e3
      replace hf := jite hf
      rcases hf with ⟨c4, hf⟩ | ⟨c4, hf⟩
      · skip
        -- leaf 10: rc4 a0 x1 (x2 ||| (0 : Int32)) (x3 + (1 : Int32)) h
        rw [or_0, nI_1] at hf
        exact mk_n (decide_eq_false (fun w => w (r3.symm.trans c4))) (E_X12_litIn_4 k (i + 1) M hW K rfl (by omega) hf)
      · skip
        -- leaf 11: rc4 a0 x1 (x2 ||| ((1 : Int32) <<< (x3 &&& 31))) (x3 + (1 : Int32)) h
        rw [nI_1] at hf
        exact mk_y (by omega) (by omega) (decide_eq_true (fun w => c4 (r3.trans w))) (E_X12_litIn_4 k (i + 1) M hW K rfl (by omega) hf)
theorem E_X6_tightest_8 {n : Nat} {W : jWd} {w : Nat} : ∀ (k : Nat) {a0 : Nat} {x1 : Int32} {x2 : Int32} {x3 : Int32} {x4 : Int32} {h : jH} {q : Int32} (i : Nat) (R : rodE (oc h) a0 W) (K : wOK W) (hx : x4 = nI i) (hi : i ≤ 8) (w2 : 2 ≤ w ∧ w ≤ 8) (h1 : x1 = nI w), F_X6_tightest_8 n k a0 x1 x2 x3 x4 h = some q → q = tgF W w ((W 0).toInt.toNat + 1 - w - i) i x2 x3
  | 0, a0, x1, x2, x3, x4, h, q, i, R, K, hx, hi, w2, h1, hf => by cases hf
  | k + 1, a0, x1, x2, x3, x4, h, q, i, R, K, hx, hi, w2, h1, hf => by
    replace hf : F_X6_tightest_8_b n (F_X6_tightest_8 n k) a0 x1 x2 x3 x4 h = some q := hf
    unfold F_X6_tightest_8_b at hf
    obtain ⟨⟨s0, s1, s2, s3, s4, s5⟩, ⟨u5, u10, u11, u12, u13, u14, u15, u16, u17⟩, RB, RC, RL⟩ := id R
    subst h1
    subst hx
    have K0 := K.1
    have l1 : (1 : Int32).toInt = 1 := rfl
    have ew : (W 0 - 1).toInt = (W 0).toInt - 1 := jsub (by omega) (by omega)
    replace hf := jbind hf
    obtain ⟨v13, e1, hf⟩ := hf
    have r1 := oc_gI e1
    subst r1
    clear e1
    replace hf := jite hf
    rcases hf with ⟨c2, hf⟩ | ⟨c2, hf⟩
    · skip
      rw [u5, nI_ad, Int32.lt_iff_toInt_lt, nI_toInt (by omega)] at c2
      cases hf
      -- leaf 0: x2
      rw [tg_e (by omega)]
    · skip
      rw [u5, nI_ad, Int32.lt_iff_toInt_lt, nI_toInt (by omega)] at c2
      replace hf := jbind hf
      obtain ⟨p20, e3, hf⟩ := hf
      have r3 := oc_gR e3
      rw [s0] at r3
      cases r3
      clear e3
      replace hf := jbind hf
      obtain ⟨v29, e4, hf⟩ := hf
      obtain ⟨r4, y4⟩ := oc_al e4
      subst r4
      clear e4
      replace hf := jbind hf
      obtain ⟨p31, e5, hf⟩ := hf
      have r5 := oc_gR e5
      rw [s0] at r5
      cases r5
      clear e5
      replace hf := jbind hf
      obtain ⟨v36, e6, hf⟩ := hf
      obtain ⟨r6, y6⟩ := oc_al e6
      subst r6
      clear e6
      replace hf := jite hf
      rcases hf with ⟨c7, hf⟩ | ⟨c7, hf⟩
      · skip
        -- leaf 10: rc8 a0 x1 x2 x3 (x4 + (1 : Int32)) h
        rw [nI_ad, nI_p (by omega), nI_cl (by omega), nI_cl (by omega), (RB i (by omega)).1, (RB (i + w - 1) (by omega)).1] at c7
        rw [nI_1] at hf
        rw [tg_s (by omega), if_pos (show x3 ≤ spW W w i from c7)]
        exact E_X6_tightest_8 k (i + 1) R K rfl (by omega) w2 rfl hf
      · skip
        -- leaf 11: rc8 a0 x1 x4 (v29 - v36) (x4 + (1 : Int32)) h
        rw [nI_ad, nI_p (by omega), nI_cl (by omega), nI_cl (by omega), (RB i (by omega)).1, (RB (i + w - 1) (by omega)).1] at c7
        rw [nI_ad, nI_p (by omega), nI_cl (by omega), nI_cl (by omega), (RB i (by omega)).1, (RB (i + w - 1) (by omega)).1, nI_1] at hf
        rw [tg_s (by omega), if_neg (show ¬ x3 ≤ spW W w i from c7)]
        exact E_X6_tightest_8 k (i + 1) R K rfl (by omega) w2 rfl hf
theorem E_X12_tight_39 {n : Nat} {W : jWd} {w : Nat} : ∀ (k : Nat) {a0 : Nat} {x1 : Int32} {x2 : Int32} {x3 : Int32} {x4 : Int32} {h : jH} {q : Int32 × jH} (i : Nat) (M : mS (oc h) a0) (hW : wl (oc h) a0 = W) (K : wOK W) (hx : x4 = nI i) (hi : i ≤ 8) (w2 : 2 ≤ w ∧ w ≤ 8) (h1 : x1 = nI w), F_X12_tight_39 n k a0 x1 x2 x3 x4 h = some q → q = (tgF W w ((W 0).toInt.toNat + 1 - w - i) i x2 x3, h)
  | 0, a0, x1, x2, x3, x4, h, q, i, M, hW, K, hx, hi, w2, h1, hf => by cases hf
  | k + 1, a0, x1, x2, x3, x4, h, q, i, M, hW, K, hx, hi, w2, h1, hf => by
    replace hf : F_X12_tight_39_b n (F_X12_tight_39 n k) a0 x1 x2 x3 x4 h = some q := hf
    unfold F_X12_tight_39_b at hf
    subst h1
    subst hx
    have K0 := K.1
    have l1 : (1 : Int32).toInt = 1 := rfl
    have ew : (W 0 - 1).toInt = (W 0).toInt - 1 := jsub (by omega) (by omega)
    replace hf := jbind hf
    obtain ⟨v44, e1, hf⟩ := hf
    replace e1 := (jcv_o e1).2
    have r1 := E_X12_rings M e1
    rw [hW] at r1
    subst r1
    replace hf := jite hf
    rcases hf with ⟨c2, hf⟩ | ⟨c2, hf⟩
    · skip
      rw [nI_ad, Int32.lt_iff_toInt_lt, nI_toInt (by omega)] at c2
      cases hf
      -- leaf 0: (x2, h)
      rw [tg_e (by omega)]
    · skip
      rw [nI_ad, Int32.lt_iff_toInt_lt, nI_toInt (by omega)] at c2
      replace hf := jbind hf
      obtain ⟨v58, e3, hf⟩ := hf
      replace e3 := (jcv_o e3).2
      have r3 := E_X12_of (i := (i + w - 1)) (j := 0) (t := 11 + 8 * (i + w - 1)) M (by rw [nI_ad, nI_p (by omega)]) rfl (by omega) (by omega) e3
      rw [hW] at r3
      subst r3
      replace hf := jbind hf
      obtain ⟨v65, e4, hf⟩ := hf
      replace e4 := (jcv_o e4).2
      have r4 := E_X12_of (i := i) (j := 0) (t := 11 + 8 * i) M rfl rfl (by omega) (by omega) e4
      rw [hW] at r4
      subst r4
      replace hf := jite hf
      rcases hf with ⟨c5, hf⟩ | ⟨c5, hf⟩
      · skip
        -- leaf 10: F_X12_tight_83 n rc39 a0 x1 x3 x4 (v58 - v65) x2 h
        unfold F_X12_tight_83 at hf
        rw [nI_1, if_neg (by rw [← i_le]; exact fun y => y c5)] at hf
        rw [tg_s (by omega), if_pos (show x3 ≤ spW W w i from c5)]
        exact E_X12_tight_39 k (i + 1) M hW K rfl (by omega) w2 rfl hf
      · skip
        -- leaf 11: F_X12_tight_83 n rc39 a0 x1 x3 x4 (v58 - v65) x4 h
        unfold F_X12_tight_83 at hf
        rw [nI_1, if_pos (i_le.mp c5)] at hf
        rw [tg_s (by omega), if_neg (show ¬ x3 ≤ spW W w i from c5)]
        exact E_X12_tight_39 k (i + 1) M hW K rfl (by omega) w2 rfl hf
theorem E_X6_enviousPairs_4 {n : Nat} {W : jWd} : ∀ (k : Nat) {a0 : Nat} {x1 : Int32} {x2 : Int32} {h : jH} {q : Int32} (i : Nat) (R : rodE (oc h) a0 W) (K : wOK W) (hx : x2 = nI i) (hi : i ≤ 8), F_X6_enviousPairs_4 n k a0 x1 x2 h = some q → q = sumF (evF W) ((W 0).toInt.toNat - 1 - i) i x1
  | 0, a0, x1, x2, h, q, i, R, K, hx, hi, hf => by cases hf
  | k + 1, a0, x1, x2, h, q, i, R, K, hx, hi, hf => by
    replace hf : F_X6_enviousPairs_4_b n (F_X6_enviousPairs_4 n k) a0 x1 x2 h = some q := hf
    unfold F_X6_enviousPairs_4_b at hf
    obtain ⟨⟨s0, s1, s2, s3, s4, s5⟩, ⟨u5, u10, u11, u12, u13, u14, u15, u16, u17⟩, RB, RC, RL⟩ := id R
    subst hx
    have K0 := K.1
    have l1 : (1 : Int32).toInt = 1 := rfl
    have ew : (W 0 - 1).toInt = (W 0).toInt - 1 := jsub (by omega) (by omega)
    replace hf := jbind hf
    obtain ⟨v8, e1, hf⟩ := hf
    have r1 := oc_gI e1
    subst r1
    clear e1
    replace hf := jite hf
    rcases hf with ⟨c2, hf⟩ | ⟨c2, hf⟩
    · skip
      rw [u5, nI_1, nI_eI (by omega)] at c2
      cases hf
      -- leaf 0: x1
      rw [sum_e (by omega)]
    · skip
      rw [u5, nI_1, nI_eI (by omega)] at c2
      replace hf := jbind hf
      obtain ⟨p15, e3, hf⟩ := hf
      have r3 := oc_gR e3
      rw [s3] at r3
      cases r3
      clear e3
      replace hf := jbind hf
      obtain ⟨v19, e4, hf⟩ := hf
      obtain ⟨r4, y4⟩ := oc_al e4
      subst r4
      clear e4
      replace hf := jbind hf
      obtain ⟨p21, e5, hf⟩ := hf
      have r5 := oc_gR e5
      rw [s3] at r5
      cases r5
      clear e5
      replace hf := jbind hf
      obtain ⟨v27, e6, hf⟩ := hf
      obtain ⟨r6, y6⟩ := oc_al e6
      subst r6
      clear e6
      replace hf := jite hf
      rcases hf with ⟨c7, hf⟩ | ⟨c7, hf⟩
      · skip
        -- leaf 10: rc4 a0 x1 (x2 + (1 : Int32)) h
        rw [nI_1, nI_cl (by omega), nI_cl (by omega), (RB i (by omega)).2.2.2.2.2.1, (RB (i + 1) (by omega)).2.2.2.2.2.1] at c7
        rw [nI_1] at hf
        rw [sum_s (by omega), show evF W i = 0 from if_pos (lt_2.mp c7), a_0]
        exact E_X6_enviousPairs_4 k (i + 1) R K rfl (by omega) hf
      · skip
        -- leaf 11: rc4 a0 (x1 + (1 : Int32)) (x2 + (1 : Int32)) h
        rw [nI_1, nI_cl (by omega), nI_cl (by omega), (RB i (by omega)).2.2.2.2.2.1, (RB (i + 1) (by omega)).2.2.2.2.2.1] at c7
        rw [nI_1] at hf
        rw [sum_s (by omega), show evF W i = 1 from if_neg (fun z => c7 (lt_2.mpr z))]
        exact E_X6_enviousPairs_4 k (i + 1) R K rfl (by omega) hf
theorem E_X12_envy_9 {n : Nat} {W : jWd} : ∀ (k : Nat) {a0 : Nat} {x1 : Int32} {x2 : Int32} {h : jH} {q : Int32 × jH} (i : Nat) (M : mS (oc h) a0) (hW : wl (oc h) a0 = W) (K : wOK W) (hx : x2 = nI i) (hi : i ≤ 8), F_X12_envy_9 n k a0 x1 x2 h = some q → q = (sumF (evF W) ((W 0).toInt.toNat - 1 - i) i x1, h)
  | 0, a0, x1, x2, h, q, i, M, hW, K, hx, hi, hf => by cases hf
  | k + 1, a0, x1, x2, h, q, i, M, hW, K, hx, hi, hf => by
    replace hf : F_X12_envy_9_b n (F_X12_envy_9 n k) a0 x1 x2 h = some q := hf
    unfold F_X12_envy_9_b at hf
    subst hx
    have K0 := K.1
    have l1 : (1 : Int32).toInt = 1 := rfl
    have ew : (W 0 - 1).toInt = (W 0).toInt - 1 := jsub (by omega) (by omega)
    replace hf := jbind hf
    obtain ⟨v11, e1, hf⟩ := hf
    replace e1 := (jcv_o e1).2
    have r1 := E_X12_lastRing M e1
    rw [hW] at r1
    subst r1
    replace hf := jite hf
    rcases hf with ⟨c2, hf⟩ | ⟨c2, hf⟩
    · skip
      rw [nI_eI (by omega), ew] at c2
      cases hf
      -- leaf 0: (x1, h)
      rw [sum_e (by omega)]
    · skip
      rw [nI_eI (by omega), ew] at c2
      replace hf := jbind hf
      obtain ⟨v21, e3, hf⟩ := hf
      replace e3 := (jcv_o e3).2
      have r3 := E_X12_of (i := i) (j := 5) (t := 16 + 8 * i) M rfl rfl (by omega) (by omega) e3
      rw [hW] at r3
      subst r3
      replace hf := jbind hf
      obtain ⟨v29, e4, hf⟩ := hf
      replace e4 := (jcv_o e4).2
      have r4 := E_X12_of (i := (i + 1)) (j := 5) (t := 16 + 8 * (i + 1)) M (nI_1 i) rfl (by omega) (by omega) e4
      rw [hW] at r4
      subst r4
      replace hf := jite hf
      rcases hf with ⟨c5, hf⟩ | ⟨c5, hf⟩
      · skip
        -- leaf 10: rc9 a0 (x1 + (0 : Int32)) (x2 + (1 : Int32)) h
        rw [nI_1, a_0] at hf
        rw [sum_s (by omega), show evF W i = 0 from if_pos c5, a_0]
        exact E_X12_envy_9 k (i + 1) M hW K rfl (by omega) hf
      · skip
        -- leaf 11: rc9 a0 (x1 + (1 : Int32)) (x2 + (1 : Int32)) h
        rw [nI_1] at hf
        rw [sum_s (by omega), show evF W i = 1 from if_neg c5]
        exact E_X12_envy_9 k (i + 1) M hW K rfl (by omega) hf
theorem E_X6_likePairs_16 {n : Nat} {rc4 : Nat → Int32 → Int32 → jH → Option Int32} {W : jWd} {i : Nat} : ∀ (k : Nat) {a0 : Nat} {x1 : Int32} {x2 : Int32} {x3 : Int32} {h : jH} {q : Int32} (t : Nat) (R : rodE (oc h) a0 W) (K : wOK W) (h1 : x2 = nI i) (hi : (i : Int) < (W 0).toInt) (hx : x3 = nI t) (ht : t ≤ 8), F_X6_likePairs_16 n rc4 k a0 x1 x2 x3 h = some q → rc4 a0 (sumF (twW W i) ((W 0).toInt.toNat - t) t x1) (x2 + (1 : Int32)) h = some q
  | 0, a0, x1, x2, x3, h, q, t, R, K, h1, hi, hx, ht, hf => by cases hf
  | k + 1, a0, x1, x2, x3, h, q, t, R, K, h1, hi, hx, ht, hf => by
    replace hf : F_X6_likePairs_16_b n rc4 (F_X6_likePairs_16 n rc4 k) a0 x1 x2 x3 h = some q := hf
    unfold F_X6_likePairs_16_b at hf
    obtain ⟨⟨s0, s1, s2, s3, s4, s5⟩, ⟨u5, u10, u11, u12, u13, u14, u15, u16, u17⟩, RB, RC, RL⟩ := id R
    subst hx h1
    have K0 := K.1
    replace hf := jbind hf
    obtain ⟨v18, e1, hf⟩ := hf
    have r1 := oc_gI e1
    subst r1
    clear e1
    replace hf := jite hf
    rcases hf with ⟨c2, hf⟩ | ⟨c2, hf⟩
    · skip
      rw [u5, nI_eI (by omega)] at c2
      -- leaf 0: rc4 a0 x1 (x2 + (1 : Int32)) h
      rw [sum_e (by omega)]
      exact hf
    · skip
      rw [u5, nI_eI (by omega)] at c2
      replace hf := jbind hf
      obtain ⟨p25, e3, hf⟩ := hf
      have r3 := oc_gR e3
      rw [s1] at r3
      cases r3
      clear e3
      replace hf := jbind hf
      obtain ⟨v29, e4, hf⟩ := hf
      obtain ⟨r4, y4⟩ := oc_al e4
      subst r4
      clear e4
      replace hf := jbind hf
      obtain ⟨p31, e5, hf⟩ := hf
      have r5 := oc_gR e5
      rw [s1] at r5
      cases r5
      clear e5
      replace hf := jbind hf
      obtain ⟨v35, e6, hf⟩ := hf
      obtain ⟨r6, y6⟩ := oc_al e6
      subst r6
      clear e6
      replace hf := jite hf
      rcases hf with ⟨c7, hf⟩ | ⟨c7, hf⟩
      · skip
        replace hf := jbind hf
        obtain ⟨p40, e8, hf⟩ := hf
        have r8 := oc_gR e8
        rw [s3] at r8
        cases r8
        clear e8
        replace hf := jbind hf
        obtain ⟨v44, e9, hf⟩ := hf
        obtain ⟨r9, y9⟩ := oc_al e9
        subst r9
        clear e9
        replace hf := jbind hf
        obtain ⟨p46, e10, hf⟩ := hf
        have r10 := oc_gR e10
        rw [s3] at r10
        cases r10
        clear e10
        replace hf := jbind hf
        obtain ⟨v50, e11, hf⟩ := hf
        obtain ⟨r11, y11⟩ := oc_al e11
        subst r11
        clear e11
        replace hf := jite hf
        rcases hf with ⟨c12, hf⟩ | ⟨c12, hf⟩
        · skip
          replace hf := jbind hf
          obtain ⟨p55, e13, hf⟩ := hf
          have r13 := oc_gR e13
          rw [s2] at r13
          cases r13
          clear e13
          replace hf := jbind hf
          obtain ⟨v59, e14, hf⟩ := hf
          obtain ⟨r14, y14⟩ := oc_al e14
          subst r14
          clear e14
          replace hf := jbind hf
          obtain ⟨p61, e15, hf⟩ := hf
          have r15 := oc_gR e15
          rw [s2] at r15
          cases r15
          clear e15
          replace hf := jbind hf
          obtain ⟨v65, e16, hf⟩ := hf
          obtain ⟨r16, y16⟩ := oc_al e16
          subst r16
          clear e16
          replace hf := jite hf
          rcases hf with ⟨c17, hf⟩ | ⟨c17, hf⟩
          · skip
            -- leaf 1000: rc16 a0 (x1 + (1 : Int32)) x2 (x3 + (1 : Int32)) h
            rw [nI_cl (by omega), nI_cl (by omega), (RB i (by omega)).2.1, (RB t (by omega)).2.1] at c7
            rw [nI_cl (by omega), nI_cl (by omega), (RB i (by omega)).2.2.2.2.2.1, (RB t (by omega)).2.2.2.2.2.1] at c12
            rw [nI_cl (by omega), nI_cl (by omega), (RB i (by omega)).2.2.2.2.1, (RB t (by omega)).2.2.2.2.1] at c17
            rw [nI_1] at hf
            have ev : twW W i t = 1 := by unfold twW; rw [if_pos c7, if_pos c12, if_pos c17]
            rw [sum_s (by omega), ev]
            exact E_X6_likePairs_16 k (t + 1) R K rfl hi rfl (by omega) hf
          · skip
            -- leaf 1001: rc16 a0 x1 x2 (x3 + (1 : Int32)) h
            rw [nI_cl (by omega), nI_cl (by omega), (RB i (by omega)).2.1, (RB t (by omega)).2.1] at c7
            rw [nI_cl (by omega), nI_cl (by omega), (RB i (by omega)).2.2.2.2.2.1, (RB t (by omega)).2.2.2.2.2.1] at c12
            rw [nI_cl (by omega), nI_cl (by omega), (RB i (by omega)).2.2.2.2.1, (RB t (by omega)).2.2.2.2.1] at c17
            rw [nI_1] at hf
            have ev : twW W i t = 0 := by unfold twW; rw [if_pos c7, if_pos c12, if_neg c17]
            rw [sum_s (by omega), ev, a_0]
            exact E_X6_likePairs_16 k (t + 1) R K rfl hi rfl (by omega) hf
        · skip
          -- leaf 101: rc16 a0 x1 x2 (x3 + (1 : Int32)) h
          rw [nI_cl (by omega), nI_cl (by omega), (RB i (by omega)).2.1, (RB t (by omega)).2.1] at c7
          rw [nI_cl (by omega), nI_cl (by omega), (RB i (by omega)).2.2.2.2.2.1, (RB t (by omega)).2.2.2.2.2.1] at c12
          rw [nI_1] at hf
          have ev : twW W i t = 0 := by unfold twW; rw [if_pos c7, if_neg c12]
          rw [sum_s (by omega), ev, a_0]
          exact E_X6_likePairs_16 k (t + 1) R K rfl hi rfl (by omega) hf
      · skip
        -- leaf 11: rc16 a0 x1 x2 (x3 + (1 : Int32)) h
        rw [nI_cl (by omega), nI_cl (by omega), (RB i (by omega)).2.1, (RB t (by omega)).2.1] at c7
        rw [nI_1] at hf
        have ev : twW W i t = 0 := by unfold twW; rw [if_neg c7]
        rw [sum_s (by omega), ev, a_0]
        exact E_X6_likePairs_16 k (t + 1) R K rfl hi rfl (by omega) hf
theorem E_X6_likePairs_4 {n : Nat} {W : jWd} : ∀ (k : Nat) {a0 : Nat} {x1 : Int32} {x2 : Int32} {h : jH} {q : Int32} (i : Nat) (R : rodE (oc h) a0 W) (K : wOK W) (hx : x2 = nI i) (hi : i ≤ 8), F_X6_likePairs_4 n k a0 x1 x2 h = some q → q = twC W ((W 0).toInt.toNat) ((W 0).toInt.toNat - i) i x1
  | 0, a0, x1, x2, h, q, i, R, K, hx, hi, hf => by cases hf
  | k + 1, a0, x1, x2, h, q, i, R, K, hx, hi, hf => by
    replace hf : F_X6_likePairs_4_b n (F_X6_likePairs_4 n k) a0 x1 x2 h = some q := hf
    unfold F_X6_likePairs_4_b at hf
    obtain ⟨⟨s0, s1, s2, s3, s4, s5⟩, ⟨u5, u10, u11, u12, u13, u14, u15, u16, u17⟩, RB, RC, RL⟩ := id R
    subst hx
    have K0 := K.1
    have l1 : (1 : Int32).toInt = 1 := rfl
    have ew : (W 0 - 1).toInt = (W 0).toInt - 1 := jsub (by omega) (by omega)
    replace hf := jbind hf
    obtain ⟨v6, e1, hf⟩ := hf
    have r1 := oc_gI e1
    subst r1
    clear e1
    replace hf := jite hf
    rcases hf with ⟨c2, hf⟩ | ⟨c2, hf⟩
    · skip
      rw [u5, nI_eI (by omega)] at c2
      cases hf
      -- leaf 0: x1
      rw [twC_e (by omega)]
    · skip
      rw [u5, nI_eI (by omega)] at c2
      -- leaf 1: F_X6_likePairs_16 n rc4 n a0 x1 x2 (x2 + (1 : Int32)) h
      rw [nI_1] at hf
      have z := E_X6_likePairs_16 (i := i) n (i + 1) R K rfl (by omega) rfl (by omega) hf
      rw [nI_1] at z
      rw [twC_s (by omega)]
      exact E_X6_likePairs_4 k (i + 1) R K rfl (by omega) z
theorem tw_1 {W : jWd} {i j : Nat} (h : ¬ twW W i j = 0) : twW W i j = 1 := by
  unfold twW at h ⊢
  split at h
  · split at h
    · split at h
      · rename_i a b c; rw [if_pos a, if_pos b, if_pos c]
      · exact absurd rfl h
    · exact absurd rfl h
  · exact absurd rfl h
theorem E_X12_likens {W : jWd} {i : Nat} {t : Nat} {n : Nat} {a0 : Nat} {x1 : Int32} {x2 : Int32} {h : jH} {q : Int32} (M : mS (oc h) a0) (hW : wl (oc h) a0 = W) (hi : i < 16 ∧ t < 16) (h1 : x1 = nI i) (h2 : x2 = nI t) (hf : F_X12_likens n a0 x1 x2 h = some q) : q = twW W i t := by
  unfold F_X12_likens at hf
  replace hf := jbind hf
  obtain ⟨v3, e1, hf⟩ := hf
  replace e1 := (jcv_o e1).2
  have r1 := E_X12_of (i := i) (j := 1) (t := 12 + 8 * i) M h1 rfl (by omega) (by omega) e1
  rw [hW] at r1
  subst r1
  replace hf := jbind hf
  obtain ⟨v9, e2, hf⟩ := hf
  replace e2 := (jcv_o e2).2
  have r2 := E_X12_of (i := t) (j := 1) (t := 12 + 8 * t) M h2 rfl (by omega) (by omega) e2
  rw [hW] at r2
  subst r2
  replace hf := jite hf
  rcases hf with ⟨c3, hf⟩ | ⟨c3, hf⟩
  · skip
    replace hf := jbind hf
    obtain ⟨v18, e4, hf⟩ := hf
    replace e4 := (jcv_o e4).2
    have r4 := E_X12_of (i := i) (j := 5) (t := 16 + 8 * i) M h1 rfl (by omega) (by omega) e4
    rw [hW] at r4
    subst r4
    replace hf := jbind hf
    obtain ⟨v24, e5, hf⟩ := hf
    replace e5 := (jcv_o e5).2
    have r5 := E_X12_of (i := t) (j := 5) (t := 16 + 8 * t) M h2 rfl (by omega) (by omega) e5
    rw [hW] at r5
    subst r5
    replace hf := jite hf
    rcases hf with ⟨c6, hf⟩ | ⟨c6, hf⟩
    · skip
      replace hf := jbind hf
      obtain ⟨v33, e7, hf⟩ := hf
      replace e7 := (jcv_o e7).2
      have r7 := E_X12_of (i := i) (j := 4) (t := 15 + 8 * i) M h1 rfl (by omega) (by omega) e7
      rw [hW] at r7
      subst r7
      replace hf := jbind hf
      obtain ⟨v39, e8, hf⟩ := hf
      replace e8 := (jcv_o e8).2
      have r8 := E_X12_of (i := t) (j := 4) (t := 15 + 8 * t) M h2 rfl (by omega) (by omega) e8
      rw [hW] at r8
      subst r8
      replace hf := jite hf
      rcases hf with ⟨c9, hf⟩ | ⟨c9, hf⟩
      · skip
        cases hf
        -- leaf 000: (1 : Int32)
        unfold twW; rw [if_pos c3, if_pos c6, if_pos c9]
      · skip
        cases hf
        -- leaf 001: (0 : Int32)
        unfold twW; rw [if_pos c3, if_pos c6, if_neg c9]
    · skip
      cases hf
      -- leaf 01: (0 : Int32)
      unfold twW; rw [if_pos c3, if_neg c6]
  · skip
    cases hf
    -- leaf 1: (0 : Int32)
    unfold twW; rw [if_neg c3]
theorem E_X12_twins_19 {n : Nat} {rc9 : Nat → Int32 → Int32 → jH → Option (Int32 × jH)} {W : jWd} {i : Nat} : ∀ (k : Nat) {a0 : Nat} {x1 : Int32} {x2 : Int32} {x3 : Int32} {h : jH} {q : Int32 × jH} (t : Nat) (M : mS (oc h) a0) (hW : wl (oc h) a0 = W) (K : wOK W) (h1 : x2 = nI i) (hi : i ≤ 8) (hx : x3 = nI t) (ht : t ≤ i), F_X12_twins_19 n rc9 k a0 x1 x2 x3 h = some q → rc9 a0 (sumF (twW W i) (i - t) t x1) (x2 + (1 : Int32)) h = some q
  | 0, a0, x1, x2, x3, h, q, t, M, hW, K, h1, hi, hx, ht, hf => by cases hf
  | k + 1, a0, x1, x2, x3, h, q, t, M, hW, K, h1, hi, hx, ht, hf => by
    replace hf : F_X12_twins_19_b n rc9 (F_X12_twins_19 n rc9 k) a0 x1 x2 x3 h = some q := hf
    unfold F_X12_twins_19_b at hf
    subst hx h1
    have K0 := K.1
    replace hf := jite hf
    rcases hf with ⟨c1, hf⟩ | ⟨c1, hf⟩
    · skip
      rw [nI_eI (by omega), nI_toInt (by omega)] at c1
      -- leaf 0: rc9 a0 x1 (x2 + (1 : Int32)) h
      rw [sum_e (by omega)]
      exact hf
    · skip
      rw [nI_eI (by omega), nI_toInt (by omega)] at c1
      replace hf := jbind hf
      obtain ⟨v28, e2, hf⟩ := hf
      replace e2 := (jcv_o e2).2
      have r2 := E_X12_likens (i := i) (t := t) M hW (by omega) rfl rfl e2
      replace hf := jite hf
      rcases hf with ⟨c3, hf⟩ | ⟨c3, hf⟩
      · skip
        -- leaf 10: rc19 a0 (x1 + (0 : Int32)) x2 (x3 + (1 : Int32)) h
        rw [nI_1, a_0] at hf
        rw [sum_s (by omega), show twW W i t = 0 from r2.symm.trans c3, a_0]
        exact E_X12_twins_19 k (t + 1) M hW K rfl hi rfl (by omega) hf
      · skip
        -- leaf 11: rc19 a0 (x1 + (1 : Int32)) x2 (x3 + (1 : Int32)) h
        have e9 : twW W i t = 1 := tw_1 (fun z => c3 (r2.trans z))
        rw [nI_1] at hf
        rw [sum_s (by omega), e9]
        exact E_X12_twins_19 k (t + 1) M hW K rfl hi rfl (by omega) hf
theorem E_X12_twins_9 {n : Nat} {W : jWd} : ∀ (k : Nat) {a0 : Nat} {x1 : Int32} {x2 : Int32} {h : jH} {q : Int32 × jH} (i : Nat) (M : mS (oc h) a0) (hW : wl (oc h) a0 = W) (K : wOK W) (hx : x2 = nI i) (hi : i ≤ 8), F_X12_twins_9 n k a0 x1 x2 h = some q → q = (twR W ((W 0).toInt.toNat - i) i x1, h)
  | 0, a0, x1, x2, h, q, i, M, hW, K, hx, hi, hf => by cases hf
  | k + 1, a0, x1, x2, h, q, i, M, hW, K, hx, hi, hf => by
    replace hf : F_X12_twins_9_b n (F_X12_twins_9 n k) a0 x1 x2 h = some q := hf
    unfold F_X12_twins_9_b at hf
    subst hx
    have K0 := K.1
    have l1 : (1 : Int32).toInt = 1 := rfl
    have ew : (W 0 - 1).toInt = (W 0).toInt - 1 := jsub (by omega) (by omega)
    replace hf := jbind hf
    obtain ⟨v11, e1, hf⟩ := hf
    replace e1 := (jcv_o e1).2
    have r1 := E_X12_rings M e1
    rw [hW] at r1
    subst r1
    replace hf := jite hf
    rcases hf with ⟨c2, hf⟩ | ⟨c2, hf⟩
    · skip
      rw [nI_eI (by omega)] at c2
      cases hf
      -- leaf 0: (x1, h)
      rw [twR_e (by omega)]
    · skip
      rw [nI_eI (by omega)] at c2
      -- leaf 1: F_X12_twins_19 n rc9 n a0 x1 x2 (0 : Int32) h
      have z := E_X12_twins_19 (i := i) n 0 M hW K rfl hi rfl (Nat.zero_le _) hf
      rw [nI_1] at z
      rw [twR_s (by omega)]
      exact E_X12_twins_9 k (i + 1) M hW K rfl (by omega) z
/-! the log's rows, read; odds -/
theorem ex_bits {N s w : Nat} (hN : N < 2 ^ 32) (hs : s < 32) : (jushr (nI N) (nI s)) &&& nI (2 ^ w - 1) = nI (N / 2 ^ s % 2 ^ w) := b_ext fun j hj => by
  rw [b_and, jushr_bt hs, nI_bt hj, nI_bt hj, Nat.testBit_two_pow_sub_one, Nat.testBit_mod_two_pow, Nat.testBit_div_two_pow]
  by_cases q : s + j < 32
  · rw [nI_bt q, Nat.add_comm s j, Bool.and_comm]
  · rw [b_big (by omega), Nat.add_comm j s, tb_low (s := 32) hN (by omega)]; simp
theorem pkr_lt {d q i k f p : Nat} (hd : d < 16384) (hq : q < 8) (hi : i < 8) (hk : k < 4) (hf : f < 32) (hp : p < 32) : pkN d q i k f p < 2 ^ 32 := by unfold pkN; omega
theorem pk_0 {d q i k f p : Nat} (hd : d < 16384) (hq : q < 8) (hi : i < 8) (hk : k < 4) (hf : f < 32) (hp : p < 32) : (jushr (nI (pkN d q i k f p)) (18 : Int32)) &&& (16383 : Int32) = nI d := by
  have e : pkN d q i k f p / 2 ^ 18 % 2 ^ 14 = d := by unfold pkN; omega
  have h := ex_bits (w := 14) (pkr_lt hd hq hi hk hf hp) (show 18 < 32 by decide)
  rw [e] at h; exact h
theorem pk_1 {d q i k f p : Nat} (hd : d < 16384) (hq : q < 8) (hi : i < 8) (hk : k < 4) (hf : f < 32) (hp : p < 32) : (jushr (nI (pkN d q i k f p)) (15 : Int32)) &&& (7 : Int32) = nI q := by
  have e : pkN d q i k f p / 2 ^ 15 % 2 ^ 3 = q := by unfold pkN; omega
  have h := ex_bits (w := 3) (pkr_lt hd hq hi hk hf hp) (show 15 < 32 by decide)
  rw [e] at h; exact h
theorem pk_2 {d q i k f p : Nat} (hd : d < 16384) (hq : q < 8) (hi : i < 8) (hk : k < 4) (hf : f < 32) (hp : p < 32) : (jushr (nI (pkN d q i k f p)) (12 : Int32)) &&& (7 : Int32) = nI i := by
  have e : pkN d q i k f p / 2 ^ 12 % 2 ^ 3 = i := by unfold pkN; omega
  have h := ex_bits (w := 3) (pkr_lt hd hq hi hk hf hp) (show 12 < 32 by decide)
  rw [e] at h; exact h
theorem pk_3 {d q i k f p : Nat} (hd : d < 16384) (hq : q < 8) (hi : i < 8) (hk : k < 4) (hf : f < 32) (hp : p < 32) : (jushr (nI (pkN d q i k f p)) (10 : Int32)) &&& (3 : Int32) = nI k := by
  have e : pkN d q i k f p / 2 ^ 10 % 2 ^ 2 = k := by unfold pkN; omega
  have h := ex_bits (w := 2) (pkr_lt hd hq hi hk hf hp) (show 10 < 32 by decide)
  rw [e] at h; exact h
theorem pk_4 {d q i k f p : Nat} (hd : d < 16384) (hq : q < 8) (hi : i < 8) (hk : k < 4) (hf : f < 32) (hp : p < 32) : (jushr (nI (pkN d q i k f p)) (5 : Int32)) &&& (31 : Int32) = nI f := by
  have e : pkN d q i k f p / 2 ^ 5 % 2 ^ 5 = f := by unfold pkN; omega
  have h := ex_bits (w := 5) (pkr_lt hd hq hi hk hf hp) (show 5 < 32 by decide)
  rw [e] at h; exact h
theorem pk_5 {d q i k f p : Nat} (hd : d < 16384) (hq : q < 8) (hi : i < 8) (hk : k < 4) (hf : f < 32) (hp : p < 32) : (jushr (nI (pkN d q i k f p)) (0 : Int32)) &&& (31 : Int32) = nI p := by
  have e : pkN d q i k f p / 2 ^ 0 % 2 ^ 5 = p := by unfold pkN; omega
  have h := ex_bits (w := 5) (pkr_lt hd hq hi hk hf hp) (show 0 < 32 by decide)
  rw [e] at h; exact h
theorem fm_60 : ∀ t : Nat, t < 119 → (if 0 ≤ (Int32.ofInt ((t : Int) - 60) ^^^ (60 : Int32)) then Int32.ofInt ((t : Int) - 60) - Int32.ofInt ((t : Int) - 60) / 60 * 60 else if Int32.ofInt ((t : Int) - 60) - Int32.ofInt ((t : Int) - 60) / 60 * 60 = 0 then Int32.ofInt ((t : Int) - 60) - Int32.ofInt ((t : Int) - 60) / 60 * 60 else Int32.ofInt ((t : Int) - 60) - Int32.ofInt ((t : Int) - 60) / 60 * 60 + 60) = Int32.ofInt (((t : Int) - 60) % 60) := by decide +kernel
theorem E_floorMod {n : Nat} {x v : Int32} {h : jH} (h0 : -60 ≤ x.toInt) (h1 : x.toInt ≤ 58) (hf : F_J9_floorMod_7cf53 n x (60 : Int32) h = some v) : v.toInt = x.toInt % 60 := by
  have ex : x = Int32.ofInt (((x.toInt + 60).toNat : Int) - 60) := by
    rw [show (((x.toInt + 60).toNat : Int) - 60) = x.toInt by omega]
    exact (Int32.ofInt_toInt x).symm
  have f := fm_60 (x.toInt + 60).toNat (by omega)
  rw [← ex, show (((x.toInt + 60).toNat : Int) - 60) = x.toInt by omega] at f
  have g : (Int32.ofInt (x.toInt % 60)).toInt = x.toInt % 60 := Int32.toInt_ofInt_of_le (by omega) (by omega)
  unfold F_J9_floorMod_7cf53 at hf
  rw [if_neg (by decide)] at hf
  rw [← g, ← f]
  rcases jite hf with ⟨c, hf⟩ | ⟨c, hf⟩
  · cases hf; rw [if_pos c]
  · rw [if_neg c]
    rcases jite hf with ⟨d, hf⟩ | ⟨d, hf⟩
    · cases hf; rw [if_pos d]
    · cases hf; rw [if_neg d]
/-- what a row's number is -/
def lgW (W : jWd) (x y : Int32) : Int32 := if (0 ≤ x.toInt ∧ x.toInt < (W 9).toInt) ∧ 0 ≤ y.toInt ∧ y.toInt < 6 then W (75 + 6 * x.toInt.toNat + y.toInt.toNat) else -1
theorem lg_n {W : jWd} {x y : Int32} (h : ¬ ((0 ≤ x.toInt ∧ x.toInt < (W 9).toInt) ∧ 0 ≤ y.toInt ∧ y.toInt < 6)) : lgW W x y = -1 := if_neg h
theorem lg_row {W : jWd} {O : jO} {l a : Nat} {y : Int32} (RL : logE O l W) (ha : (a : Int) < (W 9).toInt) (h0 : 0 ≤ y.toInt) (h6 : y.toInt < 6) : (jushr (oi O (l + 1) (((oi O l 2).toInt + 59 - (a : Int)) % 60).toNat) (jshf.getD y.toNatClampNeg 0)) &&& (jmsk.getD y.toNatClampNeg 0) = W (75 + 6 * a + y.toInt.toNat) := by
  obtain ⟨-, -, r3⟩ := RL
  obtain ⟨d, q, i, k, f, p, hd, hq, hi, hk, hf, hp, e, w0, w1, w2, w3, w4, w5⟩ := r3 a ha
  have e2 : oi O (l + 1) (((oi O l 2).toInt + 59 - (a : Int)) % 60).toNat = nI (pkN d q i k f p) := e
  rw [e2]
  have hy : y = nI y.toInt.toNat := nI_on h0
  have hc : y.toNatClampNeg = y.toInt.toNat := by
    have := nI_cl (i := y.toInt.toNat) (by omega)
    rw [← hy] at this; exact this
  rw [hc]
  have : y.toInt.toNat = 0 ∨ y.toInt.toNat = 1 ∨ y.toInt.toNat = 2 ∨ y.toInt.toNat = 3 ∨ y.toInt.toNat = 4 ∨ y.toInt.toNat = 5 := by omega
  rcases this with z | z | z | z | z | z <;> rw [z]
  · exact (pk_0 hd hq hi hk hf hp).trans w0.symm
  · rw [show 75 + 6 * a + 1 = 76 + 6 * a by omega]; exact (pk_1 hd hq hi hk hf hp).trans w1.symm
  · rw [show 75 + 6 * a + 2 = 77 + 6 * a by omega]; exact (pk_2 hd hq hi hk hf hp).trans w2.symm
  · rw [show 75 + 6 * a + 3 = 78 + 6 * a by omega]; exact (pk_3 hd hq hi hk hf hp).trans w3.symm
  · rw [show 75 + 6 * a + 4 = 79 + 6 * a by omega]; exact (pk_4 hd hq hi hk hf hp).trans w4.symm
  · rw [show 75 + 6 * a + 5 = 80 + 6 * a by omega]; exact (pk_5 hd hq hi hk hf hp).trans w5.symm
theorem E_X5_read {W : jWd} {r n a0 : Nat} {x1 x2 : Int32} {h : jH} {q : Int32} (ha : a0 = r + 5) (s5 : oc h (r + 5) 0 = .ref (r + 6)) (RL : logE (oc h) (r + 5) W) (K9 : 0 ≤ (W 9).toInt ∧ (W 9).toInt ≤ 60) (hf : F_X5_read n a0 x1 x2 h = some q) : q = lgW W x1 x2 := by
  subst ha
  have l0 : (0 : Int32).toInt = 0 := rfl
  have l1 : (1 : Int32).toInt = 1 := rfl
  have l6 : (6 : Int32).toInt = 6 := rfl
  obtain ⟨r1, r2, -⟩ := id RL
  unfold F_X5_read at hf
  rcases jite hf with ⟨c, hf⟩ | ⟨c, hf⟩
  · rw [Int32.lt_iff_toInt_lt] at c
    cases hf
    rw [lg_n (by omega)]
  rw [Int32.lt_iff_toInt_lt] at c
  obtain ⟨v6, e6, hf⟩ := jbind hf
  have e6 := oc_gI e6
  rw [r1] at e6
  subst e6
  rcases jite hf with ⟨d, hf⟩ | ⟨d, hf⟩
  · rw [Int32.le_iff_toInt_le] at d
    cases hf
    rw [lg_n (by omega)]
  rw [Int32.le_iff_toInt_le] at d
  rcases jite hf with ⟨f, hf⟩ | ⟨f, hf⟩
  · rw [Int32.lt_iff_toInt_lt] at f
    cases hf
    rw [lg_n (by omega)]
  rw [Int32.lt_iff_toInt_lt] at f
  rcases jite hf with ⟨g, hf⟩ | ⟨g, hf⟩
  · rw [Int32.lt_iff_toInt_lt] at g
    obtain ⟨p25, e25, hf⟩ := jbind hf
    have e25 := oc_gR e25
    rw [s5] at e25
    cases e25
    obtain ⟨v29, e29, hf⟩ := jbind hf
    have e29 := oc_gI e29
    obtain ⟨v38, e38, hf⟩ := jbind hf
    obtain ⟨v41, e41, hf⟩ := jbind hf
    have e41 := (oc_al e41).1
    rw [e29] at r2
    have s1 : (v29 - (1 : Int32)).toInt = v29.toInt - 1 := jsub (by omega) (by omega)
    have s2 : (v29 - (1 : Int32) - x1).toInt = v29.toInt - 1 - x1.toInt := by
      rw [jsub (by omega) (by omega), s1]
    have m := E_floorMod (by omega) (by omega) e38
    rw [s2] at m
    have hv : v38.toNatClampNeg = ((v29.toInt + 59 - (x1.toInt.toNat : Int)) % 60).toNat := by
      have h38 : v38 = nI v38.toInt.toNat := nI_on (by omega)
      rw [h38, nI_cl (by omega)]
      omega
    rw [hv, ← e29] at e41
    rcases jite hf with ⟨-, hf⟩ | ⟨-, hf⟩
    · cases hf
    rcases jite hf with ⟨-, hf⟩ | ⟨-, hf⟩
    · cases hf
    cases hf
    unfold lgW
    rw [if_pos ⟨by omega, by omega⟩, ← e41]
    exact lg_row RL (by omega) (by omega) (by omega)
  · rw [Int32.lt_iff_toInt_lt] at g
    cases hf
    rw [lg_n (by omega)]
theorem E_X12_ofLog {W : jWd} {n a0 a c : Nat} {x1 x2 : Int32} {h : jH} {q : Int32} (M : mS (oc h) a0) (hW : wl (oc h) a0 = W) (h1 : x1 = nI a) (h2 : x2 = nI c) (hl : a < 100 ∧ c < 10) (hf : F_X12_ofLog n a0 x1 x2 h = some q) : q = W (75 + 6 * a + c) := by
  unfold F_X12_ofLog at hf
  obtain ⟨p1, e1, hf⟩ := jbind hf
  have r1 := oc_gR e1
  rw [M.1] at r1
  cases r1
  obtain ⟨v13, e13, hf⟩ := jbind hf
  cases hf
  have r := (oc_al e13).1
  rw [h1, h2, show (75 : Int32) = nI 75 from rfl, show (6 : Int32) = nI 6 from rfl, nI_mul, nI_ad, nI_ad, nI_cl (by omega)] at r
  exact r.symm.trans (congrFun hW (75 + 6 * a + c))
theorem lg_p {W : jWd} {a c : Nat} (ha : (a : Int) < (W 9).toInt) (hc : c < 6) (h9 : (W 9).toInt ≤ 60) : lgW W (nI a) (nI c) = W (75 + 6 * a + c) := by
  unfold lgW
  rw [nI_toInt (by omega), nI_toInt (by omega), if_pos ⟨⟨by omega, ha⟩, by omega, by omega⟩]
  rfl
/-- rows of ring v, from either end -/
def dnF (f : Nat → Int32) : Nat → Int32 → Int32
  | 0, a => a
  | m + 1, a => dnF f m (a + f m)
theorem dn_eq {f : Nat → Int32} : ∀ (m : Nat) (a : Int32), dnF f m a = sumF f m 0 a
  | 0, _ => rfl
  | m + 1, a => by
    show dnF f m (a + f m) = _
    rw [dn_eq m, sum_a, sum_l, Nat.zero_add]
def fiF (p : Nat → Bool) (g : Nat → Int32) : Nat → Nat → Int32 → Int32
  | 0, _, d => d
  | m + 1, i, d => if p i = true then g i else fiF p g m (i + 1) d
def laF (p : Nat → Bool) (g : Nat → Int32) : Nat → Int32 → Int32
  | 0, d => d
  | m + 1, d => laF p g m (if p m = true then g m else d)
theorem fi_l {p : Nat → Bool} {g : Nat → Int32} : ∀ (m i : Nat) (d : Int32), fiF p g (m + 1) i d = fiF p g m i (if p (i + m) = true then g (i + m) else d)
  | 0, _, _ => rfl
  | m + 1, i, d => by
    show (if p i = true then g i else fiF p g (m + 1) (i + 1) d) = (if p i = true then g i else fiF p g m (i + 1) (if p (i + (m + 1)) = true then g (i + (m + 1)) else d))
    rw [fi_l m (i + 1) d, show i + 1 + m = i + (m + 1) by omega]
theorem la_eq {p : Nat → Bool} {g : Nat → Int32} : ∀ (m : Nat) (d : Int32), laF p g m d = fiF p g m 0 d
  | 0, _ => rfl
  | m + 1, d => by
    show laF p g m (if p m = true then g m else d) = _
    rw [la_eq m, fi_l, Nat.zero_add]
theorem fi_e {p : Nat → Bool} {g : Nat → Int32} {c i : Nat} {d : Int32} (h : c ≤ i) : fiF p g (c - i) i d = d := by
  rw [show c - i = 0 by omega]; rfl
theorem fi_s {p : Nat → Bool} {g : Nat → Int32} {c i : Nat} {d : Int32} (h : i < c) : fiF p g (c - i) i d = if p i = true then g i else fiF p g (c - (i + 1)) (i + 1) d := by
  obtain ⟨m, hm⟩ : ∃ m, c - i = m + 1 := ⟨c - i - 1, by omega⟩
  rw [hm, show c - (i + 1) = m by omega]; rfl
def ldP (W : jWd) (v : Int32) (t : Nat) : Bool := decide (W (75 + 6 * t + 2) = v)
def ldN (W : jWd) (v : Int32) (t : Nat) : Int32 := if W (75 + 6 * t + 2) = v then 1 else 0
def ldG (W : jWd) (t : Nat) : Int32 := W (75 + 6 * t + 5)
theorem ldP_y {W : jWd} {v : Int32} {t : Nat} (h : W (75 + 6 * t + 2) = v) : ldP W v t = true := decide_eq_true h
theorem ldP_n {W : jWd} {v : Int32} {t : Nat} (h : ¬ W (75 + 6 * t + 2) = v) : ¬ ldP W v t = true := by
  unfold ldP; rw [decide_eq_false h]; decide
def odF (z : Int32) : Nat → Int32 → Int32
  | 0, a => a
  | m + 1, a => odF z m (a * z / (100 : Int32))
theorem od_e {z : Int32} {c i : Nat} {a : Int32} (h : c ≤ i) : odF z (c - i) a = a := by
  rw [show c - i = 0 by omega]; rfl
theorem od_s {z : Int32} {c i : Nat} {a : Int32} (h : i < c) : odF z (c - i) a = odF z (c - (i + 1)) (a * z / (100 : Int32)) := by
  obtain ⟨m, hm⟩ : ∃ m, c - i = m + 1 := ⟨c - i - 1, by omega⟩
  rw [hm, show c - (i + 1) = m by omega]; rfl
theorem E_X5_latestPlace_2 {n : Nat} {r : Nat} {W : jWd} : ∀ (k : Nat) {a0 : Nat} {x1 : Int32} {x2 : Int32} {h : jH} {q : Int32} (t : Nat) (s5 : oc h (r + 5) 0 = .ref (r + 6)) (RL : logE (oc h) (r + 5) W) (K9 : 0 ≤ (W 9).toInt ∧ (W 9).toInt ≤ 60) (ha : a0 = r + 5) (hx : x2 = nI t) (ht : t ≤ 60), F_X5_latestPlace_2 n k a0 x1 x2 h = some q → q = fiF (ldP W x1) (ldG W) ((W 9).toInt.toNat - t) t (-1)
  | 0, a0, x1, x2, h, q, t, s5, RL, K9, ha, hx, ht, hf => by cases hf
  | k + 1, a0, x1, x2, h, q, t, s5, RL, K9, ha, hx, ht, hf => by
    replace hf : F_X5_latestPlace_2_b n (F_X5_latestPlace_2 n k) a0 x1 x2 h = some q := hf
    unfold F_X5_latestPlace_2_b at hf
    subst ha hx
    have u1 : oi (oc h) (r + 5) 1 = W 9 := RL.1
    replace hf := jbind hf
    obtain ⟨v4, e1, hf⟩ := hf
    have r1 := oc_gI e1
    subst r1
    clear e1
    replace hf := jite hf
    rcases hf with ⟨c2, hf⟩ | ⟨c2, hf⟩
    · skip
      rw [u1, nI_eI (by omega)] at c2
      cases hf
      -- leaf 0: (- 1 : Int32)
      rw [fi_e (by omega)]
    · skip
      rw [u1, nI_eI (by omega)] at c2
      replace hf := jbind hf
      obtain ⟨v13, e3, hf⟩ := hf
      replace e3 := (jcv_o e3).2
      have r3 := E_X5_read rfl s5 RL K9 e3
      rw [show (2 : Int32) = nI 2 from rfl, lg_p (by omega) (by omega) (by omega)] at r3
      subst r3
      replace hf := jite hf
      rcases hf with ⟨c4, hf⟩ | ⟨c4, hf⟩
      · skip
        replace hf := jbind hf
        obtain ⟨v23, e5, hf⟩ := hf
        replace e5 := (jcv_o e5).2
        have r5 := E_X5_read rfl s5 RL K9 e5
        rw [show (5 : Int32) = nI 5 from rfl, lg_p (by omega) (by omega) (by omega)] at r5
        subst r5
        cases hf
        -- leaf 10: v23
        rw [fi_s (by omega), if_pos (ldP_y c4)]
        rfl
      · skip
        -- leaf 11: rc2 a0 x1 (x2 + (1 : Int32)) h
        rw [nI_1] at hf
        rw [fi_s (by omega), if_neg (ldP_n c4)]
        exact E_X5_latestPlace_2 k (t + 1) s5 RL K9 rfl rfl (by omega) hf
theorem E_X5_rowsOf_4 {n : Nat} {r : Nat} {W : jWd} : ∀ (k : Nat) {a0 : Nat} {x1 : Int32} {x2 : Int32} {x3 : Int32} {h : jH} {q : Int32} (t : Nat) (s5 : oc h (r + 5) 0 = .ref (r + 6)) (RL : logE (oc h) (r + 5) W) (K9 : 0 ≤ (W 9).toInt ∧ (W 9).toInt ≤ 60) (ha : a0 = r + 5) (hx : x3 = nI t) (ht : t ≤ 60), F_X5_rowsOf_4 n k a0 x1 x2 x3 h = some q → q = sumF (ldN W x1) ((W 9).toInt.toNat - t) t x2
  | 0, a0, x1, x2, x3, h, q, t, s5, RL, K9, ha, hx, ht, hf => by cases hf
  | k + 1, a0, x1, x2, x3, h, q, t, s5, RL, K9, ha, hx, ht, hf => by
    replace hf : F_X5_rowsOf_4_b n (F_X5_rowsOf_4 n k) a0 x1 x2 x3 h = some q := hf
    unfold F_X5_rowsOf_4_b at hf
    subst ha hx
    have u1 : oi (oc h) (r + 5) 1 = W 9 := RL.1
    replace hf := jbind hf
    obtain ⟨v6, e1, hf⟩ := hf
    have r1 := oc_gI e1
    subst r1
    clear e1
    replace hf := jite hf
    rcases hf with ⟨c2, hf⟩ | ⟨c2, hf⟩
    · skip
      rw [u1, nI_eI (by omega)] at c2
      cases hf
      -- leaf 0: x2
      rw [sum_e (by omega)]
    · skip
      rw [u1, nI_eI (by omega)] at c2
      replace hf := jbind hf
      obtain ⟨v15, e3, hf⟩ := hf
      replace e3 := (jcv_o e3).2
      have r3 := E_X5_read rfl s5 RL K9 e3
      rw [show (2 : Int32) = nI 2 from rfl, lg_p (by omega) (by omega) (by omega)] at r3
      subst r3
      replace hf := jite hf
      rcases hf with ⟨c4, hf⟩ | ⟨c4, hf⟩
      · skip
        -- leaf 10: rc4 a0 x1 (x2 + (1 : Int32)) (x3 + (1 : Int32)) h
        rw [nI_1] at hf
        rw [sum_s (by omega), show ldN W x1 t = 1 from if_pos c4]
        exact E_X5_rowsOf_4 k (t + 1) s5 RL K9 rfl rfl (by omega) hf
      · skip
        -- leaf 11: rc4 a0 x1 x2 (x3 + (1 : Int32)) h
        rw [nI_1] at hf
        rw [sum_s (by omega), show ldN W x1 t = 0 from if_neg c4, a_0]
        exact E_X5_rowsOf_4 k (t + 1) s5 RL K9 rfl rfl (by omega) hf
theorem E_X12_led_36 {n : Nat} {W : jWd} : ∀ (k : Nat) {a0 : Nat} {x1 : Int32} {x2 : Int32} {x3 : Int32} {x4 : Int32} {x5 : Int32} {h : jH} {q : Int32 × jH} (m : Nat) (M : mS (oc h) a0) (hW : wl (oc h) a0 = W) (hx : x5 = nI m - 1) (ht : m ≤ 60), F_X12_led_36 n k a0 x1 x2 x3 x4 x5 h = some q → q = (if x2 = 0 then dnF (ldN W x1) m x3 else laF (ldP W x1) (ldG W) m x4, h)
  | 0, a0, x1, x2, x3, x4, x5, h, q, m, M, hW, hx, ht, hf => by cases hf
  | k + 1, a0, x1, x2, x3, x4, x5, h, q, m, M, hW, hx, ht, hf => by
    replace hf : F_X12_led_36_b n (F_X12_led_36 n k) a0 x1 x2 x3 x4 x5 h = some q := hf
    unfold F_X12_led_36_b at hf
    have l1 : (1 : Int32).toInt = 1 := rfl
    have l0 : (0 : Int32).toInt = 0 := rfl
    have em : x5.toInt = (m : Int) - 1 := by rw [hx, jsub (by rw [nI_toInt (by omega)]; omega) (by rw [nI_toInt (by omega)]; omega), nI_toInt (by omega)]; rfl
    replace hf := jite hf
    rcases hf with ⟨c1, hf⟩ | ⟨c1, hf⟩
    · skip
      rw [Int32.lt_iff_toInt_lt, em] at c1
      replace hf := jite hf
      rcases hf with ⟨c2, hf⟩ | ⟨c2, hf⟩
      · skip
        cases hf
        -- leaf 00: (x3, h)
        obtain rfl : m = 0 := by omega
        rw [if_pos c2]
        rfl
      · skip
        cases hf
        -- leaf 01: (x4, h)
        obtain rfl : m = 0 := by omega
        rw [if_neg c2]
        rfl
    · skip
      rw [Int32.lt_iff_toInt_lt, em] at c1
      replace hf := jbind hf
      obtain ⟨v45, e3, hf⟩ := hf
      replace e3 := (jcv_o e3).2
      obtain ⟨t, rfl⟩ : ∃ t, m = t + 1 := ⟨m - 1, by omega⟩
      have hx5 : x5 = nI t := by rw [hx, nI_p (by omega)]; rfl
      subst hx5
      have r3 := E_X12_ofLog (a := t) (c := 2) M hW rfl rfl (by omega) e3
      subst r3
      replace hf := jite hf
      rcases hf with ⟨c4, hf⟩ | ⟨c4, hf⟩
      · skip
        replace hf := jbind hf
        obtain ⟨v62, e5, hf⟩ := hf
        replace e5 := (jcv_o e5).2
        have r5 := E_X12_ofLog (a := t) (c := 5) M hW rfl rfl (by omega) e5
        subst r5
        -- leaf 10: rc36 a0 x1 x2 (x3 + (1 : Int32)) v62 (x5 + (- 1 : Int32)) h
        have hs : nI t + (-1 : Int32) = nI t - 1 := by rw [Int32.sub_eq_add_neg]
        have z := E_X12_led_36 k t M hW hs (by omega) hf
        rw [z]
        show (if x2 = 0 then _ else _, h) = (if x2 = 0 then dnF (ldN W _) t (x3 + ldN W _ t) else laF (ldP W _) (ldG W) t (if ldP W _ t = true then ldG W t else x4), h)
        rw [show ldN W x1 t = 1 from if_pos c4, if_pos (ldP_y c4)]
        rfl
      · skip
        -- leaf 11: rc36 a0 x1 x2 x3 x4 (x5 + (- 1 : Int32)) h
        have hs : nI t + (-1 : Int32) = nI t - 1 := by rw [Int32.sub_eq_add_neg]
        have z := E_X12_led_36 k t M hW hs (by omega) hf
        rw [z]
        show (if x2 = 0 then _ else _, h) = (if x2 = 0 then dnF (ldN W _) t (x3 + ldN W _ t) else laF (ldP W _) (ldG W) t (if ldP W _ t = true then ldG W t else x4), h)
        rw [show ldN W x1 t = 0 from if_neg c4, if_neg (ldP_n c4), a_0]
theorem E_X1_oddsToStay_25 {n : Nat} {N : Nat} (hN : N < 1000) : ∀ (k : Nat) {x3 : Int32} {x4 : Int32} {x5 : Int32} {x6 : Int32} {h : jH} {q : Int32 × jH} (t : Nat) (h3 : x3 = nI N) (hx : x6 = nI t) (ht : t ≤ N), F_X1_oddsToStay_25 n k x3 x4 x5 x6 h = some q → q = (odF ((100 : Int32) - x4) (N - t) x5, h)
  | 0, x3, x4, x5, x6, h, q, t, h3, hx, ht, hf => by cases hf
  | k + 1, x3, x4, x5, x6, h, q, t, h3, hx, ht, hf => by
    replace hf : F_X1_oddsToStay_25_b n (F_X1_oddsToStay_25 n k) x3 x4 x5 x6 h = some q := hf
    unfold F_X1_oddsToStay_25_b at hf
    subst h3 hx
    replace hf := jite hf
    rcases hf with ⟨c1, hf⟩ | ⟨c1, hf⟩
    · skip
      rw [nI_eI (by omega), nI_toInt (by omega)] at c1
      cases hf
      -- leaf 0: (x5, h)
      rw [od_e (by omega)]
    · skip
      rw [nI_eI (by omega), nI_toInt (by omega)] at c1
      -- leaf 1: rc25 x3 x4 ((x5 * ((100 : Int32) - x4)) / (100 : Int32)) (x6 + (1 : Int32)) h
      rw [nI_1] at hf
      rw [od_s (by omega)]
      exact E_X1_oddsToStay_25 hN k (t + 1) rfl rfl (by omega) hf
theorem E_X12_odds_65 {n : Nat} {N : Nat} (hN : N < 1000) : ∀ (k : Nat) {x2 : Int32} {x3 : Int32} {x4 : Int32} {x5 : Int32} {h : jH} {q : Int32 × jH} (t : Nat) (h3 : x2 = nI N) (hx : x5 = nI t) (ht : t ≤ N), F_X12_odds_65 n k x2 x3 x4 x5 h = some q → q = (odF x3 (N - t) x4, h)
  | 0, x2, x3, x4, x5, h, q, t, h3, hx, ht, hf => by cases hf
  | k + 1, x2, x3, x4, x5, h, q, t, h3, hx, ht, hf => by
    replace hf : F_X12_odds_65_b n (F_X12_odds_65 n k) x2 x3 x4 x5 h = some q := hf
    unfold F_X12_odds_65_b at hf
    subst h3 hx
    replace hf := jite hf
    rcases hf with ⟨c1, hf⟩ | ⟨c1, hf⟩
    · skip
      rw [nI_eI (by omega), nI_toInt (by omega)] at c1
      cases hf
      -- leaf 0: (x4, h)
      rw [od_e (by omega)]
    · skip
      rw [nI_eI (by omega), nI_toInt (by omega)] at c1
      -- leaf 1: rc65 x2 x3 ((x4 * x3) / (100 : Int32)) (x5 + (1 : Int32)) h
      rw [nI_1] at hf
      rw [od_s (by omega)]
      exact E_X12_odds_65 hN k (t + 1) rfl rfl (by omega) hf
/-! shares in the cloth, choices of two that have caught -/
def evnW (c x1 x2 s : Int32) : Int32 := if s - s / c * c ≤ 0 then (if s / c ≤ x2 then (if s - s / c * c ≤ x1 then s / c else s / c + 1) else -1) else (if s / c + 1 ≤ x2 then (if s - s / c * c ≤ x1 then s / c else s / c + 1) else -1)
def gnW (W : jWd) (i : Nat) (x : Int32) : Int32 := if x = 1 then (if W (18 + 8 * i) = 1 then -2 else 1) else if x = 2 then W (11 + 8 * (i + 1)) - W (11 + 8 * i) - 1 else 2
def reP (W : jWd) (i t : Nat) : Bool := !decide (gnW W i (nI t) < gnW W i (nI t ^^^ 2)) && !decide (gnW W i (nI t) < gnW W i (nI t ^^^ 1))
theorem re_0 {W : jWd} {i t : Nat} (h : gnW W i (nI t) < gnW W i (nI t ^^^ 2)) : reP W i t = false := by unfold reP; rw [decide_eq_true h]; rfl
theorem re_1 {W : jWd} {i t : Nat} (h : gnW W i (nI t) < gnW W i (nI t ^^^ 1)) : reP W i t = false := by unfold reP; rw [decide_eq_true h]; simp
theorem re_2 {W : jWd} {i t : Nat} (h : ¬ gnW W i (nI t) < gnW W i (nI t ^^^ 2)) (h2 : ¬ gnW W i (nI t) < gnW W i (nI t ^^^ 1)) : reP W i t = true := by unfold reP; rw [decide_eq_false h, decide_eq_false h2]; rfl
theorem mk_tr {P : Nat → Bool} {c d i : Nat} {x v q : Int32} (h1 : i ≤ c) (h2 : c ≤ d) (a : mkE P c i x v) (b : mkE P d c v q) : mkE P d i x q := fun j hj => by
  rw [b j hj, a j hj]
  by_cases e : j < c
  · rw [decide_eq_true e, decide_eq_false (p := c ≤ j) (by omega), decide_eq_true (p := j < d) (by omega)]; simp
  · rw [decide_eq_false e, decide_eq_true (p := c ≤ j) (by omega)]
    rw [decide_eq_true (p := i ≤ j) (by omega)]; simp
theorem re_ab : ∀ a, a < 2 → ∀ b, b < 2 → 2 * nI a + nI b = nI (2 * a + b) ∧ 2 * ((1 : Int32) - nI a) + nI b = nI (2 * a + b) ^^^ 2 ∧ 2 * nI a + ((1 : Int32) - nI b) = nI (2 * a + b) ^^^ 1 ∧ ((1 : Int32) - nI a = 0 ∨ (1 : Int32) - nI a = 1) ∧ ((1 : Int32) - nI b = 0 ∨ (1 : Int32) - nI b = 1) ∧ (nI a = 0 ∨ nI a = 1) ∧ (nI b = 0 ∨ nI b = 1) := by decide
theorem gn_2 {W : jWd} {i : Nat} {a b : Int32} (ha : a = 0 ∨ a = 1) (hb : b = 0 ∨ b = 1) (e : a = b) : gnW W i (2 * a + b) = 2 := by
  subst e
  rcases ha with rfl | rfl <;> rfl
theorem E_X6_gain {W : jWd} {i : Nat} {n : Nat} {a0 : Nat} {x1 : Int32} {x2 : Int32} {h : jH} {q : Int32} (R : rodE (oc h) a0 W) (K : wOK W) (hx : x1 = nI i) (hi : (i : Int) + 1 < (W 0).toInt) (hf : F_X6_gain n a0 x1 x2 h = some q) : q = gnW W i x2 := by
  unfold F_X6_gain at hf
  obtain ⟨⟨s0, s1, s2, s3, s4, s5⟩, ⟨u5, u10, u11, u12, u13, u14, u15, u16, u17⟩, RB, RC, RL⟩ := id R
  subst hx
  have K0 := K.1
  replace hf := jite hf
  rcases hf with ⟨c1, hf⟩ | ⟨c1, hf⟩
  · skip
    replace hf := jbind hf
    obtain ⟨v29, e2, hf⟩ := hf
    have r2 := oc_gI e2
    subst r2
    clear e2
    replace hf := jbind hf
    obtain ⟨v33, e3, hf⟩ := hf
    unfold F_X11_bit at e3
    cases e3
    replace hf := jite hf
    rcases hf with ⟨c4, hf⟩ | ⟨c4, hf⟩
    · skip
      cases hf
      -- leaf 00: (- 2 : Int32)
      rw [b_ask (by omega), (RB i (by omega)).2.2.2.2.2.2.2] at c4
      unfold gnW; rw [if_pos c1, if_pos c4]
    · skip
      cases hf
      -- leaf 01: (1 : Int32)
      rw [b_ask (by omega), (RB i (by omega)).2.2.2.2.2.2.2] at c4
      unfold gnW; rw [if_pos c1, if_neg c4]
  · skip
    replace hf := jite hf
    rcases hf with ⟨c5, hf⟩ | ⟨c5, hf⟩
    · skip
      replace hf := jbind hf
      obtain ⟨v50, e6, hf⟩ := hf
      replace e6 := (jcv_o e6).2
      have r6 := E_X8_gap (i := i) R K rfl (by omega) e6
      subst r6
      cases hf
      -- leaf 10: (v50 - (1 : Int32))
      unfold gnW; rw [if_neg c1, if_pos c5, if_pos (by omega)]
    · skip
      cases hf
      -- leaf 11: (2 : Int32)
      unfold gnW; rw [if_neg c1, if_neg c5]
theorem E_X6_restingChoices_16 {n : Nat} {W : jWd} {i : Nat} : ∀ (k : Nat) {a0 : Nat} {x1 : Int32} {x2 : Int32} {x3 : Int32} {h : jH} {q : Int32} (t : Nat) (R : rodE (oc h) a0 W) (K : wOK W) (h1 : x1 = nI i) (hi : (i : Int) + 1 < (W 0).toInt) (hx : x3 = nI t) (ht : t ≤ 4) (hb : lowB x2 t), F_X6_restingChoices_16 n k a0 x1 x2 x3 h = some q → mkE (reP W i) 4 t x2 q
  | 0, a0, x1, x2, x3, h, q, t, R, K, h1, hi, hx, ht, hb, hf => by cases hf
  | k + 1, a0, x1, x2, x3, h, q, t, R, K, h1, hi, hx, ht, hb, hf => by
    replace hf : F_X6_restingChoices_16_b n (F_X6_restingChoices_16 n k) a0 x1 x2 x3 h = some q := hf
    unfold F_X6_restingChoices_16_b at hf
    subst hx
    have l4 : (4 : Int32).toInt = 4 := rfl
    replace hf := jite hf
    rcases hf with ⟨c1, hf⟩ | ⟨c1, hf⟩
    · skip
      rw [Int32.le_iff_toInt_le, nI_toInt (by omega), l4] at c1
      cases hf
      -- leaf 0: x2
      exact mk_end (by omega)
    · skip
      rw [Int32.le_iff_toInt_le, nI_toInt (by omega), l4] at c1
      replace hf := jbind hf
      obtain ⟨v24, e2, hf⟩ := hf
      have r2 := E_X6_gain (i := i) R K h1 hi e2
      subst r2
      replace hf := jbind hf
      obtain ⟨v38, e3, hf⟩ := hf
      have r3 := E_X6_gain (i := i) R K h1 hi e3
      subst r3
      replace hf := jite hf
      rcases hf with ⟨c4, hf⟩ | ⟨c4, hf⟩
      · skip
        -- leaf 10: F_X6_restingChoices_62 n rc16 a0 x1 x3 x2 x3 (0 : Int32) h
        unfold F_X6_restingChoices_62 at hf
        obtain ⟨v9, e9, hf⟩ := jbind hf
        have r9 := E_X11_wb e9
        rw [wb_n (by omega) hb r9, nI_1] at hf
        exact mk_n (re_0 c4) (E_X6_restingChoices_16 k (t + 1) R K h1 hi rfl (by omega) (low_n hb) hf)
      · skip
        replace hf := jbind hf
        obtain ⟨v51, e5, hf⟩ := hf
        have r5 := E_X6_gain (i := i) R K h1 hi e5
        subst r5
        replace hf := jite hf
        rcases hf with ⟨c6, hf⟩ | ⟨c6, hf⟩
        · skip
          -- leaf 110: F_X6_restingChoices_62 n rc16 a0 x1 x3 x2 x3 (0 : Int32) h
          unfold F_X6_restingChoices_62 at hf
          obtain ⟨v9, e9, hf⟩ := jbind hf
          have r9 := E_X11_wb e9
          rw [wb_n (by omega) hb r9, nI_1] at hf
          exact mk_n (re_1 c6) (E_X6_restingChoices_16 k (t + 1) R K h1 hi rfl (by omega) (low_n hb) hf)
        · skip
          -- leaf 111: F_X6_restingChoices_62 n rc16 a0 x1 x3 x2 x3 (1 : Int32) h
          unfold F_X6_restingChoices_62 at hf
          obtain ⟨v9, e9, hf⟩ := jbind hf
          have r9 := E_X11_wb e9
          rw [wb_y r9, nI_1] at hf
          exact mk_y (by omega) (by omega) (re_2 c4 c6) (E_X6_restingChoices_16 k (t + 1) R K h1 hi rfl (by omega) (low_y (by omega) hb) hf)
theorem E_X12_eachHas {W : jWd} {i : Nat} {n : Nat} {a0 : Nat} {x1 : Int32} {x2 : Int32} {x3 : Int32} {h : jH} {q : Int32} (M : mS (oc h) a0) (hW : wl (oc h) a0 = W) (K : wOK W) (hx : x1 = nI i) (hi : (i : Int) + 1 < (W 0).toInt) (h2 : x2 = 0 ∨ x2 = 1) (h3 : x3 = 0 ∨ x3 = 1) (hf : F_X12_eachHas n a0 x1 x2 x3 h = some q) : q = gnW W i (2 * x2 + x3) := by
  unfold F_X12_eachHas at hf
  subst hx
  have K0 := K.1
  replace hf := jite hf
  rcases hf with ⟨c1, hf⟩ | ⟨c1, hf⟩
  · skip
    cases hf
    -- leaf 0: (2 : Int32)
    exact (gn_2 h2 h3 c1).symm
  · skip
    replace hf := jite hf
    rcases hf with ⟨c2, hf⟩ | ⟨c2, hf⟩
    · skip
      replace hf := jbind hf
      obtain ⟨v14, e3, hf⟩ := hf
      replace e3 := (jcv_o e3).2
      have r3 := E_X12_gapOf (i := i) M (by rw [hW]; exact K) rfl (by rw [hW]; omega) e3
      rw [hW] at r3
      subst r3
      cases hf
      -- leaf 10: (v14 - (1 : Int32))
      have e3 : x3 = 0 := h3.resolve_right (fun z => c1 (c2.trans z.symm))
      rw [c2, e3, if_pos (by omega)]
      rfl
    · skip
      replace hf := jbind hf
      obtain ⟨v26, e4, hf⟩ := hf
      replace e4 := (jcv_o e4).2
      have r4 := E_X12_is (i := i) (j := 7) (t := 18 + 8 * i) M rfl rfl (by omega) (by omega) e4
      rw [hW] at r4
      replace hf := jite hf
      rcases hf with ⟨c5, hf⟩ | ⟨c5, hf⟩
      · skip
        cases hf
        -- leaf 110: (1 : Int32)
        have e2 : x2 = 0 := h2.resolve_right c2
        have e3 : x3 = 1 := h3.resolve_left (fun z => c1 (e2.trans z.symm))
        rw [e2, e3]
        show (1 : Int32) = if W (18 + 8 * i) = 1 then -2 else 1
        rw [if_neg (fun z => by have := r4.2.mpr z; rw [c5] at this; exact absurd this (by decide))]
      · skip
        cases hf
        -- leaf 111: (- 2 : Int32)
        have e2 : x2 = 0 := h2.resolve_right c2
        have e3 : x3 = 1 := h3.resolve_left (fun z => c1 (e2.trans z.symm))
        rw [e2, e3]
        show (-2 : Int32) = if W (18 + 8 * i) = 1 then -2 else 1
        rw [if_pos (r4.2.mp (r4.1.resolve_left c5))]
theorem E_X12_rests_42 {n : Nat} {rc34 : Nat → Int32 → Int32 → Int32 → jH → Option (Int32 × jH)} {W : jWd} {i : Nat} {a : Nat} : ∀ (k : Nat) {a0 : Nat} {x1 : Int32} {x2 : Int32} {x3 : Int32} {x4 : Int32} {h : jH} {q : Int32 × jH} (b : Nat) (M : mS (oc h) a0) (hW : wl (oc h) a0 = W) (K : wOK W) (h1 : x1 = nI i) (hi : (i : Int) + 1 < (W 0).toInt) (ha : x3 = nI a) (ha2 : a < 2) (hx : x4 = nI b) (hb : b ≤ 2), F_X12_rests_42 n rc34 k a0 x1 x2 x3 x4 h = some q → ∃ v, mkE (reP W i) (2 * a + 2) (2 * a + b) x2 v ∧ rc34 a0 x1 v (x3 + (1 : Int32)) h = some q
  | 0, a0, x1, x2, x3, x4, h, q, b, M, hW, K, h1, hi, ha, ha2, hx, hb, hf => by cases hf
  | k + 1, a0, x1, x2, x3, x4, h, q, b, M, hW, K, h1, hi, ha, ha2, hx, hb, hf => by
    replace hf : F_X12_rests_42_b n rc34 (F_X12_rests_42 n rc34 k) a0 x1 x2 x3 x4 h = some q := hf
    unfold F_X12_rests_42_b at hf
    subst hx ha
    have l2 : (2 : Int32).toInt = 2 := rfl
    replace hf := jite hf
    rcases hf with ⟨c1, hf⟩ | ⟨c1, hf⟩
    · skip
      rw [Int32.le_iff_toInt_le, nI_toInt (by omega), l2] at c1
      -- leaf 0: rc34 a0 x1 x2 (x3 + (1 : Int32)) h
      exact ⟨x2, mk_end (by omega), hf⟩
    · skip
      rw [Int32.le_iff_toInt_le, nI_toInt (by omega), l2] at c1
      replace hf := jbind hf
      obtain ⟨v54, e2, hf⟩ := hf
      replace e2 := (jcv_o e2).2
      have z := re_ab a (by omega) b (by omega)
      have r2 := E_X12_eachHas (i := i) M hW K h1 hi z.2.2.2.2.2.1 z.2.2.2.2.2.2 e2
      rw [z.1] at r2
      subst r2
      replace hf := jbind hf
      obtain ⟨v64, e3, hf⟩ := hf
      replace e3 := (jcv_o e3).2
      have z := re_ab a (by omega) b (by omega)
      have r3 := E_X12_eachHas (i := i) M hW K h1 hi z.2.2.2.1 z.2.2.2.2.2.2 e3
      rw [z.2.1] at r3
      subst r3
      replace hf := jite hf
      rcases hf with ⟨c4, hf⟩ | ⟨c4, hf⟩
      · skip
        -- leaf 10: rc42 a0 x1 (x2 ||| (0 : Int32)) x3 (x4 + (1 : Int32)) h
        rw [or_0, nI_1] at hf
        obtain ⟨v, v1, v2⟩ := E_X12_rests_42 k (b + 1) M hW K h1 hi rfl ha2 rfl (by omega) hf
        exact ⟨v, mk_n (re_0 c4) v1, v2⟩
      · skip
        replace hf := jbind hf
        obtain ⟨v75, e5, hf⟩ := hf
        replace e5 := (jcv_o e5).2
        have z := re_ab a (by omega) b (by omega)
        have r5 := E_X12_eachHas (i := i) M hW K h1 hi z.2.2.2.2.2.1 z.2.2.2.2.2.2 e5
        rw [z.1] at r5
        subst r5
        replace hf := jbind hf
        obtain ⟨v85, e6, hf⟩ := hf
        replace e6 := (jcv_o e6).2
        have z := re_ab a (by omega) b (by omega)
        have r6 := E_X12_eachHas (i := i) M hW K h1 hi z.2.2.2.2.2.1 z.2.2.2.2.1 e6
        rw [z.2.2.1] at r6
        subst r6
        replace hf := jite hf
        rcases hf with ⟨c7, hf⟩ | ⟨c7, hf⟩
        · skip
          -- leaf 110: rc42 a0 x1 (x2 ||| (0 : Int32)) x3 (x4 + (1 : Int32)) h
          rw [or_0, nI_1] at hf
          obtain ⟨v, v1, v2⟩ := E_X12_rests_42 k (b + 1) M hW K h1 hi rfl ha2 rfl (by omega) hf
          exact ⟨v, mk_n (re_1 c7) v1, v2⟩
        · skip
          -- leaf 111: rc42 a0 x1 (x2 ||| ((1 : Int32) <<< ((((2 : Int32) * x3) + x4) &&& 31))) x3 (x4 + (1 : Int32)) h
          have z9 := (re_ab a (by omega) b (by omega)).1
          rw [z9, nI_1] at hf
          obtain ⟨v, v1, v2⟩ := E_X12_rests_42 k (b + 1) M hW K h1 hi rfl ha2 rfl (by omega) hf
          exact ⟨v, mk_y (by omega) (by omega) (re_2 c4 c7) v1, v2⟩
theorem E_X12_rests_34 {n : Nat} {W : jWd} {i : Nat} : ∀ (k : Nat) {a0 : Nat} {x1 : Int32} {x2 : Int32} {x3 : Int32} {h : jH} {q : Int32 × jH} (a : Nat) (M : mS (oc h) a0) (hW : wl (oc h) a0 = W) (K : wOK W) (h1 : x1 = nI i) (hi : (i : Int) + 1 < (W 0).toInt) (hx : x3 = nI a) (ha : a ≤ 2), F_X12_rests_34 n k a0 x1 x2 x3 h = some q → mkE (reP W i) 4 (2 * a) x2 q.1 ∧ q.2 = h
  | 0, a0, x1, x2, x3, h, q, a, M, hW, K, h1, hi, hx, ha, hf => by cases hf
  | k + 1, a0, x1, x2, x3, h, q, a, M, hW, K, h1, hi, hx, ha, hf => by
    replace hf : F_X12_rests_34_b n (F_X12_rests_34 n k) a0 x1 x2 x3 h = some q := hf
    unfold F_X12_rests_34_b at hf
    subst hx
    have l2 : (2 : Int32).toInt = 2 := rfl
    replace hf := jite hf
    rcases hf with ⟨c1, hf⟩ | ⟨c1, hf⟩
    · skip
      rw [Int32.le_iff_toInt_le, nI_toInt (by omega), l2] at c1
      cases hf
      -- leaf 0: (x2, h)
      exact ⟨mk_end (by omega), rfl⟩
    · skip
      rw [Int32.le_iff_toInt_le, nI_toInt (by omega), l2] at c1
      -- leaf 1: F_X12_rests_42 n rc34 n a0 x1 x2 x3 (0 : Int32) h
      obtain ⟨v, v1, v2⟩ := E_X12_rests_42 (i := i) (a := a) n 0 M hW K h1 hi rfl (by omega) rfl (by omega) hf
      rw [nI_1] at v2
      obtain ⟨b1, b2⟩ := E_X12_rests_34 k (a + 1) M hW K h1 hi rfl (by omega) v2
      exact ⟨mk_tr (by omega) (by omega) v1 b1, b2⟩
theorem E_X6_evenLength_14 {n : Nat} {W : jWd} : ∀ (k : Nat) {a0 : Nat} {x1 : Int32} {x2 : Int32} {x3 : Int32} {x4 : Int32} {h : jH} {q : Int32} (i : Nat) (R : rodE (oc h) a0 W) (K : wOK W) (hx : x4 = nI i) (hi : i ≤ 8) (h0 : ¬ W 0 = 0), F_X6_evenLength_14 n k a0 x1 x2 x3 x4 h = some q → q = evnW (W 0) x1 x2 (sumF (fun t => W (16 + 8 * t)) ((W 0).toInt.toNat - i) i x3)
  | 0, a0, x1, x2, x3, x4, h, q, i, R, K, hx, hi, h0, hf => by cases hf
  | k + 1, a0, x1, x2, x3, x4, h, q, i, R, K, hx, hi, h0, hf => by
    replace hf : F_X6_evenLength_14_b n (F_X6_evenLength_14 n k) a0 x1 x2 x3 x4 h = some q := hf
    unfold F_X6_evenLength_14_b at hf
    obtain ⟨⟨s0, s1, s2, s3, s4, s5⟩, ⟨u5, u10, u11, u12, u13, u14, u15, u16, u17⟩, RB, RC, RL⟩ := id R
    subst hx
    have K0 := K.1
    have l1 : (1 : Int32).toInt = 1 := rfl
    have ew : (W 0 - 1).toInt = (W 0).toInt - 1 := jsub (by omega) (by omega)
    replace hf := jbind hf
    obtain ⟨v17, e1, hf⟩ := hf
    have r1 := oc_gI e1
    subst r1
    clear e1
    replace hf := jite hf
    rcases hf with ⟨c2, hf⟩ | ⟨c2, hf⟩
    · skip
      rw [u5, nI_eI (by omega)] at c2
      replace hf := jbind hf
      obtain ⟨v41, e3, hf⟩ := hf
      have r3 := oc_gI e3
      subst r3
      clear e3
      replace hf := jite hf
      rcases hf with ⟨c4, hf⟩ | ⟨c4, hf⟩
      · skip
        cases hf
      · skip
        replace hf := jbind hf
        obtain ⟨v49, e5, hf⟩ := hf
        have r5 := oc_gI e5
        subst r5
        clear e5
        replace hf := jite hf
        rcases hf with ⟨c6, hf⟩ | ⟨c6, hf⟩
        · skip
          cases hf
        · skip
          replace hf := jite hf
          rcases hf with ⟨c7, hf⟩ | ⟨c7, hf⟩
          · skip
            -- leaf 0110: F_X6_evenLength_67 n x1 x2 (x3 / v41) (x3 - x3 / v49 * v49) (x3 / v41) (0 : Int32) h
            unfold F_X6_evenLength_67 at hf
            rw [sum_e (by omega)]
            unfold evnW
            rw [u5] at hf c7
            rw [a_0] at hf
            rw [if_pos c7]
            rcases jite hf with ⟨d, hf⟩ | ⟨d, hf⟩
            · rw [if_pos d]
              rcases jite hf with ⟨f, hf⟩ | ⟨f, hf⟩
              · cases hf; rw [if_pos f]
              · cases hf; rw [if_neg f]
            · cases hf; rw [if_neg d]
          · skip
            -- leaf 0111: F_X6_evenLength_67 n x1 x2 (x3 / v41) (x3 - x3 / v49 * v49) (x3 / v41) (1 : Int32) h
            unfold F_X6_evenLength_67 at hf
            rw [sum_e (by omega)]
            unfold evnW
            rw [u5] at hf c7
            rw [if_neg c7]
            rcases jite hf with ⟨d, hf⟩ | ⟨d, hf⟩
            · rw [if_pos d]
              rcases jite hf with ⟨f, hf⟩ | ⟨f, hf⟩
              · cases hf; rw [if_pos f]
              · cases hf; rw [if_neg f]
            · cases hf; rw [if_neg d]
    · skip
      rw [u5, nI_eI (by omega)] at c2
      replace hf := jbind hf
      obtain ⟨p25, e8, hf⟩ := hf
      have r8 := oc_gR e8
      rw [s3] at r8
      cases r8
      clear e8
      replace hf := jbind hf
      obtain ⟨v30, e9, hf⟩ := hf
      obtain ⟨r9, y9⟩ := oc_al e9
      subst r9
      clear e9
      -- leaf 1: rc14 a0 x1 x2 (x3 + v30) (x4 + (1 : Int32)) h
      rw [nI_cl (by omega), (RB i (by omega)).2.2.2.2.2.1, nI_1] at hf
      rw [sum_s (by omega)]
      exact E_X6_evenLength_14 k (i + 1) R K rfl (by omega) h0 hf
theorem E_X12_lets_48 {n : Nat} {W : jWd} : ∀ (k : Nat) {a0 : Nat} {x1 : Int32} {x2 : Int32} {x3 : Int32} {x4 : Int32} {h : jH} {q : Int32 × jH} (i : Nat) (M : mS (oc h) a0) (hW : wl (oc h) a0 = W) (K : wOK W) (hx : x4 = nI i) (hi : i ≤ 8) (h0 : ¬ W 0 = 0), F_X12_lets_48 n k a0 x1 x2 x3 x4 h = some q → q = (evnW (W 0) x1 x2 (sumF (fun t => W (16 + 8 * t)) ((W 0).toInt.toNat - i) i x3), h)
  | 0, a0, x1, x2, x3, x4, h, q, i, M, hW, K, hx, hi, h0, hf => by cases hf
  | k + 1, a0, x1, x2, x3, x4, h, q, i, M, hW, K, hx, hi, h0, hf => by
    replace hf : F_X12_lets_48_b n (F_X12_lets_48 n k) a0 x1 x2 x3 x4 h = some q := hf
    unfold F_X12_lets_48_b at hf
    subst hx
    have K0 := K.1
    have l1 : (1 : Int32).toInt = 1 := rfl
    have ew : (W 0 - 1).toInt = (W 0).toInt - 1 := jsub (by omega) (by omega)
    replace hf := jbind hf
    obtain ⟨v51, e1, hf⟩ := hf
    replace e1 := (jcv_o e1).2
    have r1 := E_X12_rings M e1
    rw [hW] at r1
    subst r1
    replace hf := jite hf
    rcases hf with ⟨c2, hf⟩ | ⟨c2, hf⟩
    · skip
      rw [nI_eI (by omega)] at c2
      replace hf := jbind hf
      obtain ⟨v75, e3, hf⟩ := hf
      replace e3 := (jcv_o e3).2
      have r3 := E_X12_rings M e3
      rw [hW] at r3
      subst r3
      replace hf := jite hf
      rcases hf with ⟨c4, hf⟩ | ⟨c4, hf⟩
      · skip
        cases hf
      · skip
        replace hf := jbind hf
        obtain ⟨v83, e5, hf⟩ := hf
        replace e5 := (jcv_o e5).2
        have r5 := E_X12_rings M e5
        rw [hW] at r5
        subst r5
        replace hf := jite hf
        rcases hf with ⟨c6, hf⟩ | ⟨c6, hf⟩
        · skip
          cases hf
        · skip
          replace hf := jite hf
          rcases hf with ⟨c7, hf⟩ | ⟨c7, hf⟩
          · skip
            -- leaf 0110: F_X12_lets_103 n x1 x2 (x3 / v75) (x3 - x3 / v83 * v83) (x3 / v75) h
            unfold F_X12_lets_103 at hf
            rw [sum_e (by omega)]
            unfold evnW
            rw [if_pos c7]
            rcases jite hf with ⟨d, hf⟩ | ⟨d, hf⟩
            · rw [if_pos d]
              rcases jite hf with ⟨f, hf⟩ | ⟨f, hf⟩
              · cases hf; rw [if_pos f]
              · cases hf; rw [if_neg f]
            · cases hf; rw [if_neg d]
          · skip
            -- leaf 0111: F_X12_lets_103 n x1 x2 (x3 / v75) (x3 - x3 / v83 * v83) ((x3 / v75) + (1 : Int32)) h
            unfold F_X12_lets_103 at hf
            rw [sum_e (by omega)]
            unfold evnW
            rw [if_neg c7]
            rcases jite hf with ⟨d, hf⟩ | ⟨d, hf⟩
            · rw [if_pos d]
              rcases jite hf with ⟨f, hf⟩ | ⟨f, hf⟩
              · cases hf; rw [if_pos f]
              · cases hf; rw [if_neg f]
            · cases hf; rw [if_neg d]
    · skip
      rw [nI_eI (by omega)] at c2
      replace hf := jbind hf
      obtain ⟨v62, e8, hf⟩ := hf
      replace e8 := (jcv_o e8).2
      have r8 := E_X12_of (i := i) (j := 5) (t := 16 + 8 * i) M rfl rfl (by omega) (by omega) e8
      rw [hW] at r8
      subst r8
      -- leaf 1: rc48 a0 x1 x2 (x3 + v62) (x4 + (1 : Int32)) h
      rw [nI_1] at hf
      rw [sum_s (by omega)]
      exact E_X12_lets_48 k (i + 1) M hW K rfl (by omega) h0 hf
/-! ring's answers -/
theorem bit_w {x w : Int32} {k : Nat} (hk : k < 32) (b : bt x k = true ↔ w = 1) (hw : w = 0 ∨ w = 1) : (jushr x (nI k)) &&& (1 : Int32) = w := b_ext fun j hj => by
  rw [b_and, jushr_bt hk, b_1]
  by_cases q : j = 0
  · subst q
    rw [Nat.add_zero, decide_eq_true rfl, Bool.and_true]
    rcases hw with rfl | rfl
    · rw [bt_z]
      exact Bool.eq_false_iff.mpr (fun y => absurd (b.mp y) (by decide))
    · rw [b.mpr rfl, b_1]; rfl
  · rw [decide_eq_false q, Bool.and_false]
    rcases hw with rfl | rfl
    · exact bt_z.symm
    · rw [b_1, decide_eq_false q]
def dsW (W : jWd) (w i : Nat) : Int32 := abI (W (11 + 8 * i) - W (11 + 8 * w))
def hngF (W : jWd) (w : Nat) : Nat → Nat → Int32 → Int32 → Int32
  | 0, _, b, _ => b
  | m + 1, i, b, l => if W (17 + 8 * i) = 1 then (if l ≤ dsW W w i then hngF W w m (i + 1) b l else hngF W w m (i + 1) (nI i) (dsW W w i)) else hngF W w m (i + 1) b l
theorem hng_e {W : jWd} {w c i : Nat} {b l : Int32} (h : c ≤ i) : hngF W w (c - i) i b l = b := by
  rw [show c - i = 0 by omega]; rfl
theorem hng_s {W : jWd} {w c i : Nat} {b l : Int32} (h : i < c) : hngF W w (c - i) i b l = if W (17 + 8 * i) = 1 then (if l ≤ dsW W w i then hngF W w (c - (i + 1)) (i + 1) b l else hngF W w (c - (i + 1)) (i + 1) (nI i) (dsW W w i)) else hngF W w (c - (i + 1)) (i + 1) b l := by
  obtain ⟨m, hm⟩ : ∃ m, c - i = m + 1 := ⟨c - i - 1, by omega⟩
  rw [hm, show c - (i + 1) = m by omega]; rfl
theorem ds_31 {W : jWd} {w i : Nat} (K : wOK W) (hw : (w : Int) < (W 0).toInt) (hi : (i : Int) < (W 0).toInt) : (dsW W w i).toInt ≤ 31 := by
  have a := (K.2.1 i hi).1
  have b := (K.2.1 w hw).1
  have e : (W (11 + 8 * i) - W (11 + 8 * w)).toInt = (W (11 + 8 * i)).toInt - (W (11 + 8 * w)).toInt := jsub (by omega) (by omega)
  have l0 : (0 : Int32).toInt = 0 := rfl
  unfold dsW abI
  by_cases c : (0 : Int32) ≤ W (11 + 8 * i) - W (11 + 8 * w)
  · rw [if_pos c, e]; omega
  · rw [if_neg c, jsub (by omega) (by omega), e]; omega
theorem hng_32 {W : jWd} {w : Nat} (K : wOK W) (hw : (w : Int) < (W 0).toInt) : ∀ (m i : Nat) (b : Int32), (i : Int) + m ≤ (W 0).toInt → hngF W w m i b 32 = hngF W w m i b 1000000
  | 0, _, _, _ => rfl
  | m + 1, i, b, h => by
    have d := ds_31 (i := i) K hw (by omega)
    have l32 : (32 : Int32).toInt = 32 := rfl
    have lM : (1000000 : Int32).toInt = 1000000 := rfl
    have n1 : ¬ (32 : Int32) ≤ dsW W w i := by rw [Int32.le_iff_toInt_le]; omega
    have n2 : ¬ (1000000 : Int32) ≤ dsW W w i := by rw [Int32.le_iff_toInt_le]; omega
    show (if W (17 + 8 * i) = 1 then (if (32 : Int32) ≤ dsW W w i then _ else _) else _) = (if W (17 + 8 * i) = 1 then (if (1000000 : Int32) ≤ dsW W w i then _ else _) else _)
    rw [if_neg n1, if_neg n2, hng_32 K hw m (i + 1) b (by omega)]
def hngW (W : jWd) (w : Nat) : Int32 := if W (17 + 8 * w) = 1 then nI w else hngF W w (W 0).toInt.toNat 0 (-1) 32
def afW (W : jWd) : Int32 := sumF (fun t => W (15 + 8 * t)) (W 0).toInt.toNat 0 0
def shrW (W : jWd) (i : Nat) : Int32 := if afW W = 0 then 0 else ((100 : Int32) * W (15 + 8 * i)) / afW W
noncomputable def rngW (W : jWd) (i : Nat) (s : Int32) : Int32 := if s.toInt < 8 then W (11 + 8 * i + s.toInt.toNat) else if s = 8 then (if (i : Int) + 1 < (W 0).toInt then W (11 + 8 * (i + 1)) - W (11 + 8 * i) else -1) else if s = 9 then byW W 0 i else if s = 10 then byW W 1 i else if s = 11 then byW W 2 i else if s = 12 then hngW W i else shrW W i
theorem rng_lo {W : jWd} {i t : Nat} {s : Int32} (k : Nat) (hk : k < 8) (hs : s = nI k) (ht : t = 11 + 8 * i + k) : rngW W i s = W t := by
  subst hs
  unfold rngW
  rw [nI_toInt (by omega), if_pos (by omega), ht]
  rfl
theorem rng_8 {W : jWd} {i : Nat} : rngW W i 8 = if (i : Int) + 1 < (W 0).toInt then W (11 + 8 * (i + 1)) - W (11 + 8 * i) else -1 := by
  unfold rngW
  rw [if_neg (by decide), if_pos (by decide)]
theorem rng_9 {W : jWd} {i : Nat} : rngW W i 9 = byW W 0 i := by
  unfold rngW
  rw [if_neg (by decide), if_neg (by decide), if_pos (by decide)]
theorem rng_10 {W : jWd} {i : Nat} : rngW W i 10 = byW W 1 i := by
  unfold rngW
  rw [if_neg (by decide), if_neg (by decide), if_neg (by decide), if_pos (by decide)]
theorem rng_11 {W : jWd} {i : Nat} : rngW W i 11 = byW W 2 i := by
  unfold rngW
  rw [if_neg (by decide), if_neg (by decide), if_neg (by decide), if_neg (by decide), if_pos (by decide)]
theorem rng_12 {W : jWd} {i : Nat} : rngW W i 12 = hngW W i := by
  unfold rngW
  rw [if_neg (by decide), if_neg (by decide), if_neg (by decide), if_neg (by decide), if_neg (by decide), if_pos (by decide)]
theorem rng_13 {W : jWd} {i : Nat} : rngW W i 13 = shrW W i := by
  unfold rngW
  rw [if_neg (by decide), if_neg (by decide), if_neg (by decide), if_neg (by decide), if_neg (by decide), if_neg (by decide)]
theorem E_X8_allFades_4 {n : Nat} {W : jWd} : ∀ (k : Nat) {a0 : Nat} {x1 : Int32} {x2 : Int32} {h : jH} {q : Int32} (i : Nat) (R : rodE (oc h) a0 W) (K : wOK W) (hx : x2 = nI i) (hi : i ≤ 8), F_X8_allFades_4 n k a0 x1 x2 h = some q → q = sumF (fun t => W (15 + 8 * t)) ((W 0).toInt.toNat - i) i x1
  | 0, a0, x1, x2, h, q, i, R, K, hx, hi, hf => by cases hf
  | k + 1, a0, x1, x2, h, q, i, R, K, hx, hi, hf => by
    replace hf : F_X8_allFades_4_b n (F_X8_allFades_4 n k) a0 x1 x2 h = some q := hf
    unfold F_X8_allFades_4_b at hf
    obtain ⟨⟨s0, s1, s2, s3, s4, s5⟩, ⟨u5, u10, u11, u12, u13, u14, u15, u16, u17⟩, RB, RC, RL⟩ := id R
    subst hx
    have K0 := K.1
    have l1 : (1 : Int32).toInt = 1 := rfl
    have ew : (W 0 - 1).toInt = (W 0).toInt - 1 := jsub (by omega) (by omega)
    replace hf := jbind hf
    obtain ⟨v6, e1, hf⟩ := hf
    have r1 := oc_gI e1
    subst r1
    clear e1
    replace hf := jite hf
    rcases hf with ⟨c2, hf⟩ | ⟨c2, hf⟩
    · skip
      rw [u5, nI_eI (by omega)] at c2
      cases hf
      -- leaf 0: x1
      rw [sum_e (by omega)]
    · skip
      rw [u5, nI_eI (by omega)] at c2
      replace hf := jbind hf
      obtain ⟨p14, e3, hf⟩ := hf
      have r3 := oc_gR e3
      rw [s2] at r3
      cases r3
      clear e3
      replace hf := jbind hf
      obtain ⟨v18, e4, hf⟩ := hf
      obtain ⟨r4, y4⟩ := oc_al e4
      subst r4
      clear e4
      -- leaf 1: rc4 a0 (x1 + v18) (x2 + (1 : Int32)) h
      rw [nI_cl (by omega), (RB i (by omega)).2.2.2.2.1, nI_1] at hf
      rw [sum_s (by omega)]
      exact E_X8_allFades_4 k (i + 1) R K rfl (by omega) hf
theorem E_X12_fadesOfAll_4 {n : Nat} {W : jWd} : ∀ (k : Nat) {a0 : Nat} {x1 : Int32} {x2 : Int32} {h : jH} {q : Int32} (i : Nat) (M : mS (oc h) a0) (hW : wl (oc h) a0 = W) (K : wOK W) (hx : x2 = nI i) (hi : i ≤ 8), F_X12_fadesOfAll_4 n k a0 x1 x2 h = some q → q = sumF (fun t => W (15 + 8 * t)) ((W 0).toInt.toNat - i) i x1
  | 0, a0, x1, x2, h, q, i, M, hW, K, hx, hi, hf => by cases hf
  | k + 1, a0, x1, x2, h, q, i, M, hW, K, hx, hi, hf => by
    replace hf : F_X12_fadesOfAll_4_b n (F_X12_fadesOfAll_4 n k) a0 x1 x2 h = some q := hf
    unfold F_X12_fadesOfAll_4_b at hf
    subst hx
    have K0 := K.1
    have l1 : (1 : Int32).toInt = 1 := rfl
    have ew : (W 0 - 1).toInt = (W 0).toInt - 1 := jsub (by omega) (by omega)
    replace hf := jbind hf
    obtain ⟨v6, e1, hf⟩ := hf
    replace e1 := (jcv_o e1).2
    have r1 := E_X12_rings M e1
    rw [hW] at r1
    subst r1
    replace hf := jite hf
    rcases hf with ⟨c2, hf⟩ | ⟨c2, hf⟩
    · skip
      rw [nI_eI (by omega)] at c2
      cases hf
      -- leaf 0: x1
      rw [sum_e (by omega)]
    · skip
      rw [nI_eI (by omega)] at c2
      replace hf := jbind hf
      obtain ⟨v16, e3, hf⟩ := hf
      replace e3 := (jcv_o e3).2
      have r3 := E_X12_of (i := i) (j := 4) (t := 15 + 8 * i) M rfl rfl (by omega) (by omega) e3
      rw [hW] at r3
      subst r3
      -- leaf 1: rc4 a0 (x1 + v16) (x2 + (1 : Int32)) h
      rw [nI_1] at hf
      rw [sum_s (by omega)]
      exact E_X12_fadesOfAll_4 k (i + 1) M hW K rfl (by omega) hf
theorem E_X6_hangsBy_22 {n : Nat} {W : jWd} {w : Nat} : ∀ (k : Nat) {a0 : Nat} {x1 : Int32} {x2 : Int32} {x3 : Int32} {x4 : Int32} {h : jH} {q : Int32} (i : Nat) (R : rodE (oc h) a0 W) (K : wOK W) (hx : x4 = nI i) (hi : i ≤ 8) (h1 : x1 = nI w) (w8 : (w : Int) < (W 0).toInt), F_X6_hangsBy_22 n k a0 x1 x2 x3 x4 h = some q → q = hngF W w ((W 0).toInt.toNat - i) i x2 x3
  | 0, a0, x1, x2, x3, x4, h, q, i, R, K, hx, hi, h1, w8, hf => by cases hf
  | k + 1, a0, x1, x2, x3, x4, h, q, i, R, K, hx, hi, h1, w8, hf => by
    replace hf : F_X6_hangsBy_22_b n (F_X6_hangsBy_22 n k) a0 x1 x2 x3 x4 h = some q := hf
    unfold F_X6_hangsBy_22_b at hf
    obtain ⟨⟨s0, s1, s2, s3, s4, s5⟩, ⟨u5, u10, u11, u12, u13, u14, u15, u16, u17⟩, RB, RC, RL⟩ := id R
    subst h1
    subst hx
    have K0 := K.1
    have l1 : (1 : Int32).toInt = 1 := rfl
    have ew : (W 0 - 1).toInt = (W 0).toInt - 1 := jsub (by omega) (by omega)
    replace hf := jbind hf
    obtain ⟨v25, e1, hf⟩ := hf
    have r1 := oc_gI e1
    subst r1
    clear e1
    replace hf := jite hf
    rcases hf with ⟨c2, hf⟩ | ⟨c2, hf⟩
    · skip
      rw [u5, nI_eI (by omega)] at c2
      cases hf
      -- leaf 0: x2
      rw [hng_e (by omega)]
    · skip
      rw [u5, nI_eI (by omega)] at c2
      replace hf := jbind hf
      obtain ⟨p32, e3, hf⟩ := hf
      have r3 := oc_gR e3
      rw [s0] at r3
      cases r3
      clear e3
      replace hf := jbind hf
      obtain ⟨v37, e4, hf⟩ := hf
      obtain ⟨r4, y4⟩ := oc_al e4
      subst r4
      clear e4
      replace hf := jbind hf
      obtain ⟨p39, e5, hf⟩ := hf
      have r5 := oc_gR e5
      rw [s0] at r5
      cases r5
      clear e5
      replace hf := jbind hf
      obtain ⟨v43, e6, hf⟩ := hf
      obtain ⟨r6, y6⟩ := oc_al e6
      subst r6
      clear e6
      replace hf := jbind hf
      obtain ⟨v51, e7, hf⟩ := hf
      have r7 := oc_gI e7
      subst r7
      clear e7
      replace hf := jbind hf
      obtain ⟨v56, e8, hf⟩ := hf
      unfold F_X11_bit at e8
      cases e8
      replace hf := jite hf
      rcases hf with ⟨c9, hf⟩ | ⟨c9, hf⟩
      · skip
        replace hf := jite hf
        rcases hf with ⟨c10, hf⟩ | ⟨c10, hf⟩
        · skip
          -- leaf 100: rc22 a0 x1 x2 x3 (x4 + (1 : Int32)) h
          rw [b_ask (by omega), (RB i (by omega)).2.2.2.2.2.2.1] at c9
          rw [nI_cl (i := i) (by omega), nI_cl (i := w) (by omega), (RB i (by omega)).1, (RB w (by omega)).1] at c10
          rw [nI_1] at hf
          rw [hng_s (by omega), if_pos c9, if_pos (show x3 ≤ dsW W w i from c10)]
          exact E_X6_hangsBy_22 k (i + 1) R K rfl (by omega) rfl w8 hf
        · skip
          -- leaf 101: rc22 a0 x1 x4 (if 0 ≤ v37 - v43 then v37 - v43 else 0 - (v37 - v43)) (x4 + (1 : Int32)) h
          rw [b_ask (by omega), (RB i (by omega)).2.2.2.2.2.2.1] at c9
          rw [nI_cl (i := i) (by omega), nI_cl (i := w) (by omega), (RB i (by omega)).1, (RB w (by omega)).1] at c10
          rw [nI_cl (i := i) (by omega), nI_cl (i := w) (by omega), (RB i (by omega)).1, (RB w (by omega)).1, nI_1] at hf
          rw [hng_s (by omega), if_pos c9, if_neg (show ¬ x3 ≤ dsW W w i from c10)]
          exact E_X6_hangsBy_22 k (i + 1) R K rfl (by omega) rfl w8 hf
      · skip
        -- leaf 11: rc22 a0 x1 x2 x3 (x4 + (1 : Int32)) h
        rw [b_ask (by omega), (RB i (by omega)).2.2.2.2.2.2.1] at c9
        rw [nI_1] at hf
        rw [hng_s (by omega), if_neg c9]
        exact E_X6_hangsBy_22 k (i + 1) R K rfl (by omega) rfl w8 hf
theorem E_X12_hangsOn_21 {n : Nat} {W : jWd} {w : Nat} : ∀ (k : Nat) {a0 : Nat} {x1 : Int32} {x2 : Int32} {x3 : Int32} {x4 : Int32} {h : jH} {q : Int32} (i : Nat) (M : mS (oc h) a0) (hW : wl (oc h) a0 = W) (K : wOK W) (hx : x4 = nI i) (hi : i ≤ 8) (h1 : x1 = nI w) (w8 : (w : Int) < (W 0).toInt) (hl : x3 ≤ (1000000 : Int32)), F_X12_hangsOn_21 n k a0 x1 x2 x3 x4 h = some q → q = hngF W w ((W 0).toInt.toNat - i) i x2 x3
  | 0, a0, x1, x2, x3, x4, h, q, i, M, hW, K, hx, hi, h1, w8, hl, hf => by cases hf
  | k + 1, a0, x1, x2, x3, x4, h, q, i, M, hW, K, hx, hi, h1, w8, hl, hf => by
    replace hf : F_X12_hangsOn_21_b n (F_X12_hangsOn_21 n k) a0 x1 x2 x3 x4 h = some q := hf
    unfold F_X12_hangsOn_21_b at hf
    subst h1
    subst hx
    have K0 := K.1
    have l1 : (1 : Int32).toInt = 1 := rfl
    have ew : (W 0 - 1).toInt = (W 0).toInt - 1 := jsub (by omega) (by omega)
    replace hf := jbind hf
    obtain ⟨v24, e1, hf⟩ := hf
    replace e1 := (jcv_o e1).2
    have r1 := E_X12_rings M e1
    rw [hW] at r1
    subst r1
    replace hf := jite hf
    rcases hf with ⟨c2, hf⟩ | ⟨c2, hf⟩
    · skip
      rw [nI_eI (by omega)] at c2
      cases hf
      -- leaf 0: x2
      rw [hng_e (by omega)]
    · skip
      rw [nI_eI (by omega)] at c2
      replace hf := jbind hf
      obtain ⟨v35, e3, hf⟩ := hf
      replace e3 := (jcv_o e3).2
      have r3 := E_X12_is (i := i) (j := 6) (t := 17 + 8 * i) M rfl rfl (by omega) (by omega) e3
      rw [hW] at r3
      replace hf := jite hf
      rcases hf with ⟨c4, hf⟩ | ⟨c4, hf⟩
      · skip
        replace hf := jite hf
        rcases hf with ⟨c5, hf⟩ | ⟨c5, hf⟩
        · skip
          -- leaf 100: F_X12_hangsOn_78 n rc21 a0 x1 x3 x4 (1000000 : Int32) x2 h
          unfold F_X12_hangsOn_78 at hf
          rw [nI_1, if_neg (by rw [← i_le]; exact fun y => y c5)] at hf
          rw [hng_s (by omega), if_neg (fun z => by have := r3.2.mpr z; rw [c4] at this; exact absurd this (by decide))]
          exact E_X12_hangsOn_21 k (i + 1) M hW K rfl (by omega) rfl w8 hl hf
        · skip
          -- leaf 101: F_X12_hangsOn_78 n rc21 a0 x1 x3 x4 (1000000 : Int32) x4 h
          exact absurd hl c5
      · skip
        replace hf := jbind hf
        obtain ⟨v45, e6, hf⟩ := hf
        replace e6 := (jcv_o e6).2
        have r6 := E_X12_of (i := i) (j := 0) (t := 11 + 8 * i) M rfl rfl (by omega) (by omega) e6
        rw [hW] at r6
        subst r6
        replace hf := jbind hf
        obtain ⟨v51, e7, hf⟩ := hf
        replace e7 := (jcv_o e7).2
        have r7 := E_X12_of (i := w) (j := 0) (t := 11 + 8 * w) M rfl rfl (by omega) (by omega) e7
        rw [hW] at r7
        subst r7
        replace hf := jite hf
        rcases hf with ⟨c8, hf⟩ | ⟨c8, hf⟩
        · skip
          -- leaf 110: F_X12_hangsOn_78 n rc21 a0 x1 x3 x4 (if 0 ≤ v45 - v51 then v45 - v51 else 0 - (v45 - v51)) x2 h
          unfold F_X12_hangsOn_78 at hf
          rw [nI_1, if_neg (by rw [← i_le]; exact fun y => y c8)] at hf
          rw [hng_s (by omega), if_pos (r3.2.mp (r3.1.resolve_left c4)), if_pos (show x3 ≤ dsW W w i from c8)]
          exact E_X12_hangsOn_21 k (i + 1) M hW K rfl (by omega) rfl w8 hl hf
        · skip
          -- leaf 111: F_X12_hangsOn_78 n rc21 a0 x1 x3 x4 (if 0 ≤ v45 - v51 then v45 - v51 else 0 - (v45 - v51)) x4 h
          unfold F_X12_hangsOn_78 at hf
          have c9 := i_le.mp c8
          have c10 : dsW W w i < x3 := c9
          rw [nI_1, if_pos c9] at hf
          rw [hng_s (by omega), if_pos (r3.2.mp (r3.1.resolve_left c4)), if_neg (show ¬ x3 ≤ dsW W w i from c8)]
          exact E_X12_hangsOn_21 k (i + 1) M hW K rfl (by omega) rfl w8 (by rw [Int32.le_iff_toInt_le] at hl ⊢; rw [Int32.lt_iff_toInt_lt] at c10; omega) hf
theorem E_X6_hangsBy {W : jWd} {i n r : Nat} {v : Int32} {h : jH} {q : Int32} (R : rodE (oc h) r W) (K : wOK W) (hi : v = nI i) (hi2 : (i : Int) < (W 0).toInt) (hf : F_X6_hangsBy n r v h = some q) : q = hngW W i := by
  have K0 := K.1
  unfold F_X6_hangsBy at hf
  obtain ⟨v1, e1, hf⟩ := jbind hf
  have e1 := oc_gI e1
  obtain ⟨v5, e5, hf⟩ := jbind hf
  unfold F_X11_bit at e5
  cases e5
  obtain ⟨-, -, RB, -⟩ := id R
  have b := (RB i hi2).2.2.2.2.2.2.1
  rw [e1] at b
  rw [hi] at hf
  unfold hngW
  rcases jite hf with ⟨c, hf⟩ | ⟨c, hf⟩
  · rw [b_ask (by omega), b] at c
    cases hf
    rw [if_pos c]
  · rw [b_ask (by omega), b] at c
    rw [if_neg c]
    exact E_X6_hangsBy_22 (w := i) n 0 R K rfl (by omega) rfl hi2 hf
theorem E_X12_hangsOn {W : jWd} {i n m : Nat} {v : Int32} {h : jH} {q : Int32} (M : mS (oc h) m) (hW : wl (oc h) m = W) (K : wOK W) (hi : v = nI i) (hi2 : (i : Int) < (W 0).toInt) (hf : F_X12_hangsOn n m v h = some q) : q = hngW W i := by
  have K0 := K.1
  unfold F_X12_hangsOn at hf
  obtain ⟨v4, e4, hf⟩ := jbind hf
  have b := E_X12_is (i := i) (j := 6) (t := 17 + 8 * i) M hi rfl (by omega) (by omega) (jcv_o e4).2
  rw [hW] at b
  unfold hngW
  rcases jite hf with ⟨c, hf⟩ | ⟨c, hf⟩
  · rw [if_neg (fun z => by have := b.2.mpr z; rw [c] at this; exact absurd this (by decide)), hng_32 K hi2 _ _ _ (by omega)]
    rw [hi] at hf
    exact E_X12_hangsOn_21 (w := i) n 0 M hW K rfl (by omega) rfl hi2 (by decide) hf
  · rw [if_pos (b.2.mp (b.1.resolve_left c)), ← hi]
    cases hf
    rfl
theorem E_X6_share {W : jWd} {i n r : Nat} {v : Int32} {h : jH} {q : Int32} (R : rodE (oc h) r W) (K : wOK W) (hi : v = nI i) (hi2 : (i : Int) < (W 0).toInt) (hf : F_X6_share n r v h = some q) : q = shrW W i := by
  have K0 := K.1
  unfold F_X6_share at hf
  obtain ⟨v1, e1, hf⟩ := jbind hf
  have a : v1 = afW W := E_X8_allFades_4 n 0 R K rfl (by omega) (jcv_o e1).2
  obtain ⟨⟨-, -, s2, -⟩, -, RB, -⟩ := id R
  rw [a] at hf
  unfold shrW
  rcases jite hf with ⟨c, hf⟩ | ⟨c, hf⟩
  · cases hf
    rw [if_pos c]
  · rw [if_neg c]
    obtain ⟨p, e2, hf⟩ := jbind hf
    have e2 := oc_gR e2
    rw [s2] at e2
    cases e2
    obtain ⟨v20, e20, hf⟩ := jbind hf
    have e20 := (oc_al e20).1
    rw [hi, nI_cl (by omega), (RB i hi2).2.2.2.2.1] at e20
    rcases jite hf with ⟨d, hf⟩ | ⟨-, hf⟩
    · exact absurd d c
    · cases hf
      rw [e20]
theorem E_X12_shareOf {W : jWd} {i n m : Nat} {v : Int32} {h : jH} {q : Int32} (M : mS (oc h) m) (hW : wl (oc h) m = W) (K : wOK W) (hi : v = nI i) (hi2 : (i : Int) < (W 0).toInt) (hf : F_X12_shareOf n m v h = some q) : q = shrW W i := by
  have K0 := K.1
  unfold F_X12_shareOf at hf
  obtain ⟨v1, e1, hf⟩ := jbind hf
  have a : v1 = afW W := E_X12_fadesOfAll_4 n 0 M hW K rfl (by omega) (jcv_o e1).2
  rw [a] at hf
  unfold shrW
  rcases jite hf with ⟨c, hf⟩ | ⟨c, hf⟩
  · cases hf
    rw [if_pos c]
  · rw [if_neg c]
    obtain ⟨v18, e18, hf⟩ := jbind hf
    have b := E_X12_of (i := i) (j := 4) (t := 15 + 8 * i) M hi rfl (by omega) (by omega) (jcv_o e18).2
    rw [hW] at b
    rcases jite hf with ⟨d, hf⟩ | ⟨-, hf⟩
    · exact absurd d c
    · cases hf
      rw [b]
theorem E_X11_ring_b {x nx r L n i : Nat} {W : jWd} {h : jH} {v s : Int32} {q : jR × jH} (E : eqS x nx r L W h) (hi : v = nI i) (hi2 : (i : Int) < (W 0).toInt) (e1 : F_X11_ring n x v s h = some q) : ((0 ≤ s.toInt ∧ s.toInt ≤ 13) ∧ q.1 = .inl (rngW W i s)) ∨ (¬ (0 ≤ s.toInt ∧ s.toInt ≤ 13) ∧ q.1 = .inr 4) := by
  have C := eq_pre E
  obtain ⟨x1, R, K, -, -⟩ := q_cl E
  have K0 := K.1
  have KB := K.2.1 i hi2
  obtain ⟨⟨s0, s1, s2, s3, s4, s5⟩, -, RB, -, -⟩ := id R
  have RI := RB i hi2
  have x2 : oc h x 2 = .ref (x + 13) := E.2.2.2.2.2.2.2.1.1.1
  unfold F_X11_ring at e1
  obtain ⟨q2, g2, e1⟩ := jbind e1
  have r2 := E_X11_requireRing C (jcv_o g2).2
  have c : 0 ≤ v.toInt ∧ v.toInt < (W 0).toInt := by rw [hi, nI_toInt (by omega)]; omega
  rcases r2 with ⟨-, a1, a2⟩ | ⟨y, -, -⟩
  · have e1 := (jthen_l a1).symm.trans e1
    rw [a2] at e1
    try dsimp only at e1
    rcases jite e1 with ⟨c0, e1⟩ | ⟨c0, e1⟩
    · subst c0
      refine Or.inl ⟨by decide, ?_⟩
      obtain ⟨p1, g1, e1⟩ := jbind e1
      have t1 := oc_gR g1
      rw [x1] at t1
      cases t1
      obtain ⟨p2, g3, e1⟩ := jbind e1
      have t3 := oc_gR g3
      rw [s0] at t3
      cases t3
      obtain ⟨u, g4, e1⟩ := jbind e1
      have r4 := (oc_al g4).1
      rw [hi, nI_cl (by omega), RI.1] at r4
      cases e1
      rw [rng_lo (s := (0 : Int32)) 0 (by decide) rfl (show 11 + 8 * i = 11 + 8 * i + 0 by omega), r4]
    rcases jite e1 with ⟨c1, e1⟩ | ⟨c1, e1⟩
    · subst c1
      refine Or.inl ⟨by decide, ?_⟩
      obtain ⟨p1, g1, e1⟩ := jbind e1
      have t1 := oc_gR g1
      rw [x1] at t1
      cases t1
      obtain ⟨p2, g3, e1⟩ := jbind e1
      have t3 := oc_gR g3
      rw [s1] at t3
      cases t3
      obtain ⟨u, g4, e1⟩ := jbind e1
      have r4 := (oc_al g4).1
      rw [hi, nI_cl (by omega), RI.2.1] at r4
      cases e1
      rw [rng_lo (s := (1 : Int32)) 1 (by decide) rfl (show 12 + 8 * i = 11 + 8 * i + 1 by omega), r4]
    rcases jite e1 with ⟨c2, e1⟩ | ⟨c2, e1⟩
    · subst c2
      refine Or.inl ⟨by decide, ?_⟩
      obtain ⟨p1, g1, e1⟩ := jbind e1
      have t1 := oc_gR g1
      rw [x1] at t1
      cases t1
      obtain ⟨u, g4, e1⟩ := jbind e1
      have r4 := oc_gI g4
      obtain ⟨u2, g5, e1⟩ := jbind e1
      unfold F_X11_bit at g5
      cases g5
      cases e1
      have b := RI.2.2.1
      rw [r4] at b
      rw [rng_lo (s := (2 : Int32)) 2 (by decide) rfl (show 13 + 8 * i = 11 + 8 * i + 2 by omega), hi, bit_w (by omega) b KB.2.2.1]
    rcases jite e1 with ⟨c3, e1⟩ | ⟨c3, e1⟩
    · subst c3
      refine Or.inl ⟨by decide, ?_⟩
      obtain ⟨p1, g1, e1⟩ := jbind e1
      have t1 := oc_gR g1
      rw [x1] at t1
      cases t1
      obtain ⟨u, g4, e1⟩ := jbind e1
      have r4 := oc_gI g4
      obtain ⟨u2, g5, e1⟩ := jbind e1
      unfold F_X11_bit at g5
      cases g5
      cases e1
      have b := RI.2.2.2.1
      rw [r4] at b
      rw [rng_lo (s := (3 : Int32)) 3 (by decide) rfl (show 14 + 8 * i = 11 + 8 * i + 3 by omega), hi, bit_w (by omega) b KB.2.2.2.1]
    rcases jite e1 with ⟨c4, e1⟩ | ⟨c4, e1⟩
    · subst c4
      refine Or.inl ⟨by decide, ?_⟩
      obtain ⟨p1, g1, e1⟩ := jbind e1
      have t1 := oc_gR g1
      rw [x1] at t1
      cases t1
      obtain ⟨p2, g3, e1⟩ := jbind e1
      have t3 := oc_gR g3
      rw [s2] at t3
      cases t3
      obtain ⟨u, g4, e1⟩ := jbind e1
      have r4 := (oc_al g4).1
      rw [hi, nI_cl (by omega), RI.2.2.2.2.1] at r4
      cases e1
      rw [rng_lo (s := (4 : Int32)) 4 (by decide) rfl (show 15 + 8 * i = 11 + 8 * i + 4 by omega), r4]
    rcases jite e1 with ⟨c5, e1⟩ | ⟨c5, e1⟩
    · subst c5
      refine Or.inl ⟨by decide, ?_⟩
      obtain ⟨p1, g1, e1⟩ := jbind e1
      have t1 := oc_gR g1
      rw [x1] at t1
      cases t1
      obtain ⟨p2, g3, e1⟩ := jbind e1
      have t3 := oc_gR g3
      rw [s3] at t3
      cases t3
      obtain ⟨u, g4, e1⟩ := jbind e1
      have r4 := (oc_al g4).1
      rw [hi, nI_cl (by omega), RI.2.2.2.2.2.1] at r4
      cases e1
      rw [rng_lo (s := (5 : Int32)) 5 (by decide) rfl (show 16 + 8 * i = 11 + 8 * i + 5 by omega), r4]
    rcases jite e1 with ⟨c6, e1⟩ | ⟨c6, e1⟩
    · subst c6
      refine Or.inl ⟨by decide, ?_⟩
      obtain ⟨p1, g1, e1⟩ := jbind e1
      have t1 := oc_gR g1
      rw [x1] at t1
      cases t1
      obtain ⟨u, g4, e1⟩ := jbind e1
      have r4 := oc_gI g4
      obtain ⟨u2, g5, e1⟩ := jbind e1
      unfold F_X11_bit at g5
      cases g5
      cases e1
      have b := RI.2.2.2.2.2.2.1
      rw [r4] at b
      rw [rng_lo (s := (6 : Int32)) 6 (by decide) rfl (show 17 + 8 * i = 11 + 8 * i + 6 by omega), hi, bit_w (by omega) b KB.2.2.2.2.2.2.1]
    rcases jite e1 with ⟨c7, e1⟩ | ⟨c7, e1⟩
    · subst c7
      refine Or.inl ⟨by decide, ?_⟩
      obtain ⟨p1, g1, e1⟩ := jbind e1
      have t1 := oc_gR g1
      rw [x1] at t1
      cases t1
      obtain ⟨u, g4, e1⟩ := jbind e1
      have r4 := oc_gI g4
      obtain ⟨u2, g5, e1⟩ := jbind e1
      unfold F_X11_bit at g5
      cases g5
      cases e1
      have b := RI.2.2.2.2.2.2.2
      rw [r4] at b
      rw [rng_lo (s := (7 : Int32)) 7 (by decide) rfl (show 18 + 8 * i = 11 + 8 * i + 7 by omega), hi, bit_w (by omega) b KB.2.2.2.2.2.2.2]
    rcases jite e1 with ⟨c8, e1⟩ | ⟨c8, e1⟩
    · subst c8
      refine Or.inl ⟨by decide, ?_⟩
      obtain ⟨p1, g1, e1⟩ := jbind e1
      have t1 := oc_gR g1
      rw [x1] at t1
      cases t1
      obtain ⟨u, g4, e1⟩ := jbind e1
      have a := E_X8_gap (i := i) R K hi (by omega) (jcv_o g4).2
      cases e1
      rw [rng_8, a]
    rcases jite e1 with ⟨c9, e1⟩ | ⟨c9, e1⟩
    · subst c9
      refine Or.inl ⟨by decide, ?_⟩
      obtain ⟨p1, g1, e1⟩ := jbind e1
      have t1 := oc_gR g1
      rw [x2] at t1
      cases t1
      obtain ⟨p2, g3, e1⟩ := jbind e1
      have t3 := oc_gR g3
      rw [x1] at t3
      cases t3
      obtain ⟨q9, m9, e1⟩ := jbind e1
      obtain ⟨y1, -, -⟩ := E_X2_amount R K hi2 E.2.2.1.2.2.2.1 (Or.inl (by omega)) hi (jcv_o m9).2
      cases e1
      rw [rng_9, y1]
    rcases jite e1 with ⟨c10, e1⟩ | ⟨c10, e1⟩
    · subst c10
      refine Or.inl ⟨by decide, ?_⟩
      obtain ⟨p1, g1, e1⟩ := jbind e1
      have t1 := oc_gR g1
      rw [x2] at t1
      cases t1
      obtain ⟨p2, g3, e1⟩ := jbind e1
      have t3 := oc_gR g3
      rw [x1] at t3
      cases t3
      obtain ⟨q9, m9, e1⟩ := jbind e1
      obtain ⟨y1, -, -⟩ := E_X2_amount R K hi2 E.2.2.1.2.2.2.1 (Or.inl (by omega)) hi (jcv_o m9).2
      cases e1
      rw [rng_10, y1]
    rcases jite e1 with ⟨c11, e1⟩ | ⟨c11, e1⟩
    · subst c11
      refine Or.inl ⟨by decide, ?_⟩
      obtain ⟨p1, g1, e1⟩ := jbind e1
      have t1 := oc_gR g1
      rw [x2] at t1
      cases t1
      obtain ⟨p2, g3, e1⟩ := jbind e1
      have t3 := oc_gR g3
      rw [x1] at t3
      cases t3
      obtain ⟨q9, m9, e1⟩ := jbind e1
      obtain ⟨y1, -, -⟩ := E_X2_amount R K hi2 E.2.2.1.2.2.2.1 (Or.inl (by omega)) hi (jcv_o m9).2
      cases e1
      rw [rng_11, y1]
    rcases jite e1 with ⟨c12, e1⟩ | ⟨c12, e1⟩
    · subst c12
      refine Or.inl ⟨by decide, ?_⟩
      obtain ⟨p1, g1, e1⟩ := jbind e1
      have t1 := oc_gR g1
      rw [x1] at t1
      cases t1
      obtain ⟨u, g4, e1⟩ := jbind e1
      have a := E_X6_hangsBy R K hi hi2 g4
      cases e1
      rw [rng_12, a]
    rcases jite e1 with ⟨c13, e1⟩ | ⟨c13, e1⟩
    · subst c13
      refine Or.inl ⟨by decide, ?_⟩
      obtain ⟨p1, g1, e1⟩ := jbind e1
      have t1 := oc_gR g1
      rw [x1] at t1
      cases t1
      obtain ⟨u, g4, e1⟩ := jbind e1
      have a := E_X6_share R K hi hi2 g4
      cases e1
      rw [rng_13, a]
    cases e1
    refine Or.inr ⟨fun z => ?_, rfl⟩
    obtain ⟨k, hk, hk2⟩ : ∃ k : Nat, s = nI k ∧ k < 14 := ⟨s.toInt.toNat, nI_on z.1, by omega⟩
    have : k = 0 ∨ k = 1 ∨ k = 2 ∨ k = 3 ∨ k = 4 ∨ k = 5 ∨ k = 6 ∨ k = 7 ∨ k = 8 ∨ k = 9 ∨ k = 10 ∨ k = 11 ∨ k = 12 ∨ k = 13 := by omega
    rcases this with y | y | y | y | y | y | y | y | y | y | y | y | y | y <;> subst y
    · exact c0 hk
    · exact c1 hk
    · exact c2 hk
    · exact c3 hk
    · exact c4 hk
    · exact c5 hk
    · exact c6 hk
    · exact c7 hk
    · exact c8 hk
    · exact c9 hk
    · exact c10 hk
    · exact c11 hk
    · exact c12 hk
    · exact c13 hk
  · exact absurd c y
theorem E_X12_ring_b {m n i : Nat} {W : jWd} {h : jH} {v s : Int32} {p : Int32 × jH} (M : mS (oc h) m) (hW : wl (oc h) m = W) (K : wOK W) (LK : lawK W) (T0 : oi (oc h) m 0 = 0) (hi : v = nI i) (hi2 : (i : Int) < (W 0).toInt) (d : 0 ≤ s.toInt ∧ s.toInt ≤ 13) (e2 : (if s = (8 : Int32) then ((jcv 10 h m (F_X12_lastRing n m h)).bind fun v86 => if v = v86 then (some ((-1 : Int32), h)) else ((jcv 10 h m (F_X12_gapOf n m v h)).bind fun v98 => some (v98, h))) else if s = (9 : Int32) then ((jcv 10 h m (F_X12_byLaw n m (0 : Int32) v h)).bind fun q105 => some (q105.1, q105.2)) else if s = (10 : Int32) then ((jcv 10 h m (F_X12_byLaw n m (1 : Int32) v h)).bind fun q112 => some (q112.1, q112.2)) else if s = (11 : Int32) then ((jcv 10 h m (F_X12_byLaw n m (2 : Int32) v h)).bind fun q119 => some (q119.1, q119.2)) else if s = (12 : Int32) then ((jcv 10 h m (F_X12_hangsOn n m v h)).bind fun v125 => some (v125, h)) else if s = (13 : Int32) then ((jcv 10 h m (F_X12_shareOf n m v h)).bind fun v131 => some (v131, h)) else ((jcv 10 h m (F_X12_of n m v s h)).bind fun v138 => some (v138, h))) = some p) : p.1 = rngW W i s ∧ oi (oc p.2) m 0 = 0 := by
  have K0 := K.1
  have l1 : (1 : Int32).toInt = 1 := rfl
  have ew : (W 0 - 1).toInt = (W 0).toInt - 1 := jsub (by omega) (by omega)
  have ni : (nI i).toInt = (i : Int) := nI_toInt (by omega)
  rcases jite e2 with ⟨c8, e2⟩ | ⟨c8, e2⟩
  · subst c8
    obtain ⟨v86, k86, e2⟩ := jbind e2
    have w86 := E_X12_lastRing M (jcv_o k86).2
    rw [hW] at w86
    subst w86
    rw [rng_8]
    rcases jite e2 with ⟨f, e2⟩ | ⟨f, e2⟩
    · have := congrArg Int32.toInt f
      rw [hi, ew, ni] at this
      cases e2
      rw [if_neg (by omega)]
      exact ⟨rfl, T0⟩
    · obtain ⟨v98, k98, e2⟩ := jbind e2
      have a := E_X12_gapOf (i := i) M (by rw [hW]; exact K) hi (by rw [hW]; exact hi2) (jcv_o k98).2
      rw [hW] at a
      have : (i : Int) + 1 < (W 0).toInt := Int.not_le.mp fun z => f (Int32.toInt_inj.mp (by rw [hi, ew, ni]; omega))
      rw [if_pos this] at a ⊢
      cases e2
      exact ⟨a, T0⟩
  rcases jite e2 with ⟨c9, e2⟩ | ⟨c9, e2⟩
  · subst c9
    obtain ⟨q49, m49, e2⟩ := jbind e2
    obtain ⟨y2, f2, -⟩ := E_X12_byLaw M hW K hi2 LK hi (jcv_o m49).2
    cases e2
    rw [rng_9]
    exact ⟨y2, tz_fr f2 (by decide) (by decide) T0⟩
  rcases jite e2 with ⟨c10, e2⟩ | ⟨c10, e2⟩
  · subst c10
    obtain ⟨q49, m49, e2⟩ := jbind e2
    obtain ⟨y2, f2, -⟩ := E_X12_byLaw M hW K hi2 LK hi (jcv_o m49).2
    cases e2
    rw [rng_10]
    exact ⟨y2, tz_fr f2 (by decide) (by decide) T0⟩
  rcases jite e2 with ⟨c11, e2⟩ | ⟨c11, e2⟩
  · subst c11
    obtain ⟨q49, m49, e2⟩ := jbind e2
    obtain ⟨y2, f2, -⟩ := E_X12_byLaw M hW K hi2 LK hi (jcv_o m49).2
    cases e2
    rw [rng_11]
    exact ⟨y2, tz_fr f2 (by decide) (by decide) T0⟩
  rcases jite e2 with ⟨c12, e2⟩ | ⟨c12, e2⟩
  · subst c12
    obtain ⟨u, g4, e2⟩ := jbind e2
    have a := E_X12_hangsOn M hW K hi hi2 (jcv_o g4).2
    cases e2
    rw [rng_12]
    exact ⟨a, T0⟩
  rcases jite e2 with ⟨c13, e2⟩ | ⟨c13, e2⟩
  · subst c13
    obtain ⟨u, g4, e2⟩ := jbind e2
    have a := E_X12_shareOf M hW K hi hi2 (jcv_o g4).2
    cases e2
    rw [rng_13]
    exact ⟨a, T0⟩
  obtain ⟨k, hk, hk2⟩ : ∃ k : Nat, s = nI k ∧ k < 14 := ⟨s.toInt.toNat, nI_on d.1, by omega⟩
  have k8 : k < 8 := by
    have : k < 8 ∨ k = 8 ∨ k = 9 ∨ k = 10 ∨ k = 11 ∨ k = 12 ∨ k = 13 := by omega
    rcases this with y | y | y | y | y | y | y
    · exact y
    · subst y; exact absurd hk c8
    · subst y; exact absurd hk c9
    · subst y; exact absurd hk c10
    · subst y; exact absurd hk c11
    · subst y; exact absurd hk c12
    · subst y; exact absurd hk c13
  obtain ⟨u, g4, e2⟩ := jbind e2
  have a := E_X12_of (i := i) (j := k) (t := 11 + 8 * i + k) M hi hk rfl (by omega) (jcv_o g4).2
  rw [hW] at a
  cases e2
  rw [rng_lo k k8 hk rfl]
  exact ⟨a, T0⟩
/-! hours ahead and trials -/
theorem E_X12_noAhead {n : Nat} {x v : Int32} {h : jH} (hf : F_X12_noAhead n x h = some v) : (v = 0 ∨ v = 1) ∧ (v = 1 ↔ ¬ ((0 : Int32).toInt ≤ x.toInt ∧ x.toInt ≤ (80 : Int32).toInt)) := by
  unfold F_X12_noAhead at hf
  obtain ⟨v4, e4, hf⟩ := jbind hf
  have ⟨d1, d2⟩ := hd_in e4
  rcases jite hf with ⟨z, hf⟩ | ⟨z, hf⟩
  · cases hf; exact d1 z
  · cases hf; exact d2 z
theorem it_kp {f : jWd → Nat → jWd × Int32} {k : Nat} (hf : ∀ (W : jWd) (i : Nat), i < 50 → (f W i).1 k = W k) : ∀ (m i : Nat) (W : jWd) (a : Int32), i + m ≤ 50 → (itW f i m W a).1 k = W k
  | 0, _, _, _, _ => rfl
  | m + 1, i, W, a, h => (it_kp hf m (i + 1) (f W i).1 (a + (f W i).2) (by omega)).trans (hf W i (by omega))
theorem fd1_kp {k : Nat} (hk : k = 0 ∨ 435 ≤ k) (W : jWd) (i : Nat) (hi : i < 50) : (fd1 W i).1 k = W k := upd_ne (by omega)
theorem ct1_kp {k : Nat} (hk : k = 0 ∨ 435 ≤ k) (W : jWd) (i : Nat) (hi : i < 50) : (ct1 W i).1 k = W k := by
  unfold ct1
  split
  · split
    · exact (tlW_n (by omega)).trans ((upd_ne (by omega)).trans (upd_ne (by omega)))
    · exact upd_ne (by omega)
  · rfl
theorem fl1_kp {k : Nat} (hk : k = 0 ∨ 435 ≤ k) (W : jWd) (i : Nat) (hi : i < 50) : (fl1 W i).1 k = W k := by
  unfold fl1
  split
  · split
    · exact (tlW_n (by omega)).trans ((upd_ne (by omega)).trans (upd_ne (by omega)))
    · exact upd_ne (by omega)
  · rfl
theorem cN_8 {W V : jWd} (h8 : (W 0).toInt ≤ 8) (h : V 0 = W 0) : 0 + cN V ≤ 50 := by
  unfold cN
  rw [h]
  omega
theorem hr_kp {calm : Bool} {W : jWd} {k : Nat} (hk : k = 0 ∨ 435 ≤ k) (h8 : (W 0).toInt ≤ 8) : (hrW calm W).1 k = W k := by
  cases calm
  · rw [hr_f]
    obtain ⟨W1, hW1⟩ : ∃ p, p = (itW fd1 0 (cN W) W 0).1 := ⟨_, rfl⟩
    have a0 : W1 0 = W 0 := by rw [hW1]; exact it_kp (fd1_kp (Or.inl rfl)) _ _ _ _ (cN_8 h8 rfl)
    have ak : W1 k = W k := by rw [hW1]; exact it_kp (fd1_kp hk) _ _ _ _ (cN_8 h8 rfl)
    rw [← hW1]
    obtain ⟨W2, hW2⟩ : ∃ p, p = (itW ct1 0 (cN W1) W1 0).1 := ⟨_, rfl⟩
    have b0 : W2 0 = W 0 := by rw [hW2]; exact (it_kp (ct1_kp (Or.inl rfl)) _ _ _ _ (cN_8 h8 a0)).trans a0
    have bk : W2 k = W k := by rw [hW2]; exact (it_kp (ct1_kp hk) _ _ _ _ (cN_8 h8 a0)).trans ak
    rw [← hW2]
    show tuW (itW fl1 0 (cN W2) W2 0).1 k = W k
    rw [tuW_n (by omega) (by omega)]
    exact (it_kp (fl1_kp hk) _ _ _ _ (cN_8 h8 b0)).trans bk
  · rw [hr_t]
    show tuW (itW fd1 0 (cN W) W 0).1 k = W k
    rw [tuW_n (by omega) (by omega)]
    exact it_kp (fd1_kp hk) _ _ _ _ (cN_8 h8 rfl)
theorem hrs_kp {calm : Bool} {k : Nat} (hk : k = 0 ∨ 435 ≤ k) : ∀ (m : Nat) (W : jWd) (a : Int32), (W 0).toInt ≤ 8 → (hrs calm m W a).1 k = W k
  | 0, _, _, _ => rfl
  | m + 1, W, a, h8 => (hrs_kp hk m (hrW calm W).1 (a + (hrW calm W).2) (by rw [hr_kp (Or.inl rfl) h8]; exact h8)).trans (hr_kp hk h8)
theorem hrs_0 {calm : Bool} {m : Nat} {W : jWd} {a : Int32} (K : wOK W) : (hrs calm m W a).1 0 = W 0 := hrs_kp (Or.inl rfl) m W a K.1.2
theorem hrs_ab {calm : Bool} : ∀ (m : Nat) (W : jWd) (a b : Int32), (hrs calm m W a).1 = (hrs calm m W b).1
  | 0, _, _, _ => rfl
  | m + 1, W, a, b => hrs_ab m (hrW calm W).1 (a + (hrW calm W).2) (b + (hrW calm W).2)
theorem E_X1_goAhead_10 {n c l r : Nat} : ∀ (k : Nat) {x2 x3 : Int32} {h q : jH} (W : jWd) (t m : Nat) (C : clkE (oc h) c l r W) (D : clkD c l r) (sr : oc h c 1 = .ref r) (hn : t + m < 1000) (h2 : x2 = nI (t + m)) (h3 : x3 = nI t), F_X1_goAhead_10 n k c x2 x3 h = some q → clkE (oc q) c l r (hrs true m W 0).1 ∧ frRL r l (oc h) (oc q) ∧ q.1 = h.1
  | 0, x2, x3, h, q, W, t, m, C, D, sr, hn, h2, h3, hf => by cases hf
  | k + 1, x2, x3, h, q, W, t, m, C, D, sr, hn, h2, h3, hf => by
    replace hf : F_X1_goAhead_10_b n (F_X1_goAhead_10 n k) c x2 x3 h = some q := hf
    unfold F_X1_goAhead_10_b at hf
    rcases jite hf with ⟨c1, hf⟩ | ⟨c1, hf⟩
    · rw [h2, h3, Int32.le_iff_toInt_le, nI_toInt (by omega), nI_toInt (by omega)] at c1
      cases hf
      obtain rfl : m = 0 := by omega
      exact ⟨C, frRL_rfl, rfl⟩
    · rw [h2, h3, Int32.le_iff_toInt_le, nI_toInt (by omega), nI_toInt (by omega)] at c1
      obtain ⟨m, rfl⟩ : ∃ p, m = p + 1 := ⟨m - 1, by omega⟩
      obtain ⟨p17, g17, hf⟩ := jbind hf
      have t17 := oc_gR g17
      rw [sr] at t17
      cases t17
      obtain ⟨h20, g20, hf⟩ := jbind hf
      obtain ⟨A1, A2, A3⟩ := E_X1_fadeAll C D (jcv_o g20).2
      have sr2 : oc h20 c 1 = .ref r := (A2 c 1 (by obtain ⟨d1, d2, d3⟩ := D; omega) (by obtain ⟨d1, d2, d3⟩ := D; omega) (by obtain ⟨d1, d2, d3⟩ := D; omega)).trans sr
      obtain ⟨p24, g24, hf⟩ := jbind hf
      have t24 := oc_gR g24
      rw [sr2] at t24
      cases t24
      obtain ⟨h27, g27, hf⟩ := jbind hf
      obtain ⟨T1, T2, T3⟩ := E_X1_turn A1.2.1 A1.2.2.2 g27
      have sr3 : oc h27 c 1 = .ref r := (T2 c 1 D.2.1).trans sr2
      have C5 : clkE (oc h27) c l r (hrW true W).1 := by rw [hr_t]; exact clk_R A1 D T2 T1 (wOK_tu A1.2.2.2) (fun k hk => tuW_n (by omega) (by omega))
      obtain ⟨g1, g2, g3⟩ := E_X1_goAhead_10 k (hrW true W).1 (t + 1) m C5 D sr3 (by omega) (by rw [h2]; congr 1; omega) (by rw [h3, nI_1]) hf
      refine ⟨?_, frRL_tr (frRL_tr A2 (frRL_R T2)) g2, g3.trans (T3.trans A3)⟩
      show clkE (oc q) c l r (hrs true m (hrW true W).1 (0 + (hrW true W).2)).1
      rw [hrs_ab m _ _ 0]
      exact g1
/-- the draft: where it stands, and the rod in it -/
theorem clk_dr {x nx r L n : Nat} {W : jWd} {h h5 : jH} (E : eqS x nx r L W h) (e : F_X8_copyFrom n (x + 21) (x + 6) h = some h5) : clkE (oc h5) (x + 36) (x + 13) (x + 21) W ∧ clkD (x + 36) (x + 13) (x + 21) ∧ oc h5 (x + 36) 1 = .ref (x + 21) ∧ frRL (x + 21) (x + 13) (oc h) (oc h5) ∧ h5.1 = h.1 := by
  obtain ⟨x1, R, K, -, -⟩ := q_cl E
  have S := E.2.2.2.2.2.2.2.1
  obtain ⟨R5, f5, z5⟩ := E_X8_copyFrom (d := x + 21) (r := x + 6) rfl rfl (Or.inr (by omega)) S.2.2.2.2.1 R K e
  exact ⟨⟨(f5 _ _ (by omega)).trans E.1.2.2.2.2.1, R5, lawE_R E.2.2.1.2.2.2.1 f5 (by omega), K⟩, ⟨by omega, by omega, by omega⟩, (f5 _ _ (by omega)).trans S.2.2.2.1.1, frRL_R f5, z5⟩
theorem E_X1_goAhead {x nx r L N n : Nat} {W : jWd} {h q : jH} {v : Int32} (E : eqS x nx r L W h) (hN : N < 1000) (hv : v = nI N) (hf : F_X1_goAhead n (x + 36) (x + 6) v h = some q) : clkE (oc q) (x + 36) (x + 13) (x + 21) (hrs true N W 0).1 ∧ frRL (x + 21) (x + 13) (oc h) (oc q) ∧ q.1 = h.1 := by
  have S := E.2.2.2.2.2.2.2.1
  unfold F_X1_goAhead at hf
  obtain ⟨p1, g1, hf⟩ := jbind hf
  have t1 := oc_gR g1
  rw [S.2.2.2.1.1] at t1
  cases t1
  obtain ⟨h5, g5, hf⟩ := jbind hf
  obtain ⟨C5, D, s5, f5, z5⟩ := clk_dr E (jcv_o g5).2
  obtain ⟨a, b, c⟩ := E_X1_goAhead_10 n W 0 N C5 D s5 (by omega) (by rw [hv]; congr 1; omega) rfl hf
  exact ⟨a, frRL_tr f5 b, c.trans z5⟩
theorem E_X1_tryHours {x nx r L N n : Nat} {W : jWd} {h q : jH} {v w : Int32} (E : eqS x nx r L W h) (hN : N < 1000) (hv : v = nI N) (hf : F_X1_tryHours n (x + 36) (x + 6) v w h = some q) : clkE (oc q) (x + 36) (x + 13) (x + 21) (hrs false N (upd W 10 w) 0).1 ∧ frRL (x + 21) (x + 13) (oc h) (oc q) ∧ q.1 = h.1 := by
  have S := E.2.2.2.2.2.2.2.1
  unfold F_X1_tryHours at hf
  obtain ⟨p1, g1, hf⟩ := jbind hf
  have t1 := oc_gR g1
  rw [S.2.2.2.1.1] at t1
  cases t1
  obtain ⟨h5, g5, hf⟩ := jbind hf
  obtain ⟨C5, D, s5, f5, z5⟩ := clk_dr E (jcv_o g5).2
  obtain ⟨p9, g9, hf⟩ := jbind hf
  have t9 := oc_gR g9
  rw [s5] at t9
  cases t9
  obtain ⟨h13, g13, hf⟩ := jbind hf
  obtain ⟨o13, z13⟩ := oc_pf g13
  have f13 : frR (x + 21) (oc h5) (oc h13) := by rw [o13]; exact frR_u2 (by omega)
  have C13 : clkE (oc h13) (x + 36) (x + 13) (x + 21) (upd W 10 w) := clk_R C5 D f13 (by rw [o13]; exact rodE_i16 C5.2.1) (wOK_10 C5.2.2.2) (fun k hk => upd_ne (by omega))
  obtain ⟨p18, g18, hf⟩ := jbind hf
  have t18 := oc_gR g18
  rw [f13 _ _ (by omega), s5] at t18
  cases t18
  obtain ⟨q22, g22, hf⟩ := jbind hf
  cases hf
  obtain ⟨a, -, b, c⟩ := E_X1_run C13 D hN hv (jcv_o g22).2
  exact ⟨a, frRL_tr (frRL_tr f5 (frRL_R f13)) b, c.trans (z13.trans z5)⟩
/-- the class's word of caught rings, of rings off their hooks -/
theorem msk_c {r m n : Nat} {W : jWd} {h h2 : jH} {v : Int32} (R : rodE (oc h) r W) (K : wOK W) (M : mS (oc h2) m) (hW : wl (oc h2) m = W) (k7 : F_X12_ringsThat n m (7 : Int32) h2 = some v) : oi (oc h) r 9 = v := by
  refine b_ext fun j hj => ?_
  have a := E_X12_ringsThat_4 (j := 7) (by decide) n 0 M hW K rfl (by omega) rfl k7 j hj
  rw [a]
  rw [show bt (0 : Int32) j = false from bt_z, decide_eq_true (Nat.zero_le j)]
  have K0 := K.1
  obtain ⟨-, -, RB, RC, -⟩ := R
  by_cases q : (j : Int) < (W 0).toInt
  · have b := (RB j q).2.2.2.2.2.2.2
    rw [decide_eq_true (p := j < (W 0).toInt.toNat) (by omega)]
    by_cases z : W (18 + 8 * j) = 1
    · rw [b.mpr z]
      show true = (false || (true && true && decide (W (11 + 8 * j + 7) = 1)))
      rw [show 11 + 8 * j + 7 = 18 + 8 * j by omega, decide_eq_true z]; rfl
    · rw [Bool.eq_false_iff.mpr (fun y => z (b.mp y))]
      show false = (false || (true && true && decide (W (11 + 8 * j + 7) = 1)))
      rw [show 11 + 8 * j + 7 = 18 + 8 * j by omega, decide_eq_false z]; rfl
  · rw [decide_eq_false (p := j < (W 0).toInt.toNat) (by omega), (RC j (by omega) hj).2]
    rfl
theorem msk_l {r m n n2 : Nat} {W : jWd} {h h2 : jH} {v w : Int32} (R : rodE (oc h) r W) (K : wOK W) (M : mS (oc h2) m) (hW : wl (oc h2) m = W) (g4 : F_X8_unhooked n2 r h = some v) (k7 : F_X12_looseOnes n m h2 = some w) : v = w := by
  refine b_ext fun j hj => ?_
  unfold F_X8_unhooked at g4
  obtain ⟨a2, d2, g4⟩ := jbind g4
  obtain ⟨a9, d9, g4⟩ := jbind g4
  cases g4
  unfold F_X12_looseOnes at k7
  obtain ⟨b2, f2, k7⟩ := jbind k7
  obtain ⟨b11, f11, k7⟩ := jbind k7
  cases k7
  have f2 := E_X12_rings M (jcv_o f2).2
  rw [hW] at f2
  have f11 := E_X12_ringsThat_4 (j := 6) (by decide) n 0 M hW K rfl (by omega) rfl (jcv_o f11).2 j hj
  have d2 := oc_gI d2
  have d9 := oc_gI d9
  have K0 := K.1
  obtain ⟨-, ⟨u5, -⟩, RB, -, -⟩ := R
  rw [u5] at d2
  obtain ⟨c, hc, hc8⟩ : ∃ c : Nat, W 0 = nI c ∧ c ≤ 8 := ⟨(W 0).toInt.toNat, nI_on (by omega), by omega⟩
  have hc2 : (W 0).toInt = c := by rw [hc, nI_toInt (by omega)]
  rw [← d2, ← d9, f2, b_and, b_and, b_xor, b_xor, f11, hc, low_m (by omega) hj, bt_m1 hj]
  rw [← hc, hc2]
  by_cases q : j < c
  · have b := (RB j (by omega)).2.2.2.2.2.2.1
    rw [decide_eq_true q, show bt (0 : Int32) j = false from bt_z, decide_eq_true (Nat.zero_le j), decide_eq_true (p := j < (c : Int).toNat) (by omega)]
    by_cases z : W (17 + 8 * j) = 1
    · rw [b.mpr z]
      show _ = (true && ((false || (true && true && decide (W (11 + 8 * j + 6) = 1))) ^^ true))
      rw [show 11 + 8 * j + 6 = 17 + 8 * j by omega, decide_eq_true z]; rfl
    · rw [Bool.eq_false_iff.mpr (fun y => z (b.mp y))]
      show _ = (true && ((false || (true && true && decide (W (11 + 8 * j + 6) = 1))) ^^ true))
      rw [show 11 + 8 * j + 6 = 17 + 8 * j by omega, decide_eq_false z]; rfl
  · rw [decide_eq_false q]; rfl
/-! the first hour with a ring wholly faded -/
theorem bl_ty {b : Bool} (h : ¬ b = false) : b = true := by
  cases b
  · exact absurd rfl h
  · rfl
def palP (W : jWd) (t : Nat) : Bool := decide (W (15 + 8 * t) = 99)
theorem palP_y {W : jWd} {t : Nat} (h : W (15 + 8 * t) = 99) : palP W t = true := decide_eq_true h
theorem palP_n {W : jWd} {t : Nat} (h : ¬ W (15 + 8 * t) = 99) : palP W t = false := decide_eq_false h
def palW (W : jWd) : Bool := anyF (palP W) (W 0).toInt.toNat 0
noncomputable def paF : Nat → Nat → jWd → Int32
  | 0, _, _ => -1
  | m + 1, t, W => if palW W = true then nI t else paF m (t + 1) (hrW true W).1
theorem paF_y {m t : Nat} {W : jWd} (h : palW W = true) : paF (m + 1) t W = nI t := if_pos h
theorem paF_n {m t : Nat} {W : jWd} (h : palW W = false) : paF (m + 1) t W = paF m (t + 1) (hrW true W).1 := if_neg (by rw [h]; decide)
theorem E_X1_isSomePale_2 {n : Nat} {W : jWd} : ∀ (k : Nat) {a0 : Nat} {x1 : Int32} {h : jH} {q : Int32} (i : Nat) (R : rodE (oc h) a0 W) (K : wOK W) (hx : x1 = nI i) (hi : i ≤ 8), F_X1_isSomePale_2 n k a0 x1 h = some q → (q = 0 ∨ q = 1) ∧ (q = 0 ↔ anyF (palP W) ((W 0).toInt.toNat - i) i = false)
  | 0, a0, x1, h, q, i, R, K, hx, hi, hf => by cases hf
  | k + 1, a0, x1, h, q, i, R, K, hx, hi, hf => by
    replace hf : F_X1_isSomePale_2_b n (F_X1_isSomePale_2 n k) a0 x1 h = some q := hf
    unfold F_X1_isSomePale_2_b at hf
    obtain ⟨⟨s0, s1, s2, s3, s4, s5⟩, ⟨u5, u10, u11, u12, u13, u14, u15, u16, u17⟩, RB, RC, RL⟩ := id R
    subst hx
    have K0 := K.1
    have l1 : (1 : Int32).toInt = 1 := rfl
    have ew : (W 0 - 1).toInt = (W 0).toInt - 1 := jsub (by omega) (by omega)
    replace hf := jbind hf
    obtain ⟨v4, e1, hf⟩ := hf
    have r1 := oc_gI e1
    subst r1
    clear e1
    replace hf := jite hf
    rcases hf with ⟨c2, hf⟩ | ⟨c2, hf⟩
    · skip
      rw [u5, nI_eI (by omega)] at c2
      cases hf
      -- leaf 0: (0 : Int32)
      rw [any_e (by omega)]
      exact ⟨Or.inl rfl, ⟨fun _ => rfl, fun _ => rfl⟩⟩
    · skip
      rw [u5, nI_eI (by omega)] at c2
      replace hf := jbind hf
      obtain ⟨p11, e3, hf⟩ := hf
      have r3 := oc_gR e3
      rw [s2] at r3
      cases r3
      clear e3
      replace hf := jbind hf
      obtain ⟨v15, e4, hf⟩ := hf
      obtain ⟨r4, y4⟩ := oc_al e4
      subst r4
      clear e4
      replace hf := jite hf
      rcases hf with ⟨c5, hf⟩ | ⟨c5, hf⟩
      · skip
        cases hf
        -- leaf 10: (1 : Int32)
        rw [nI_cl (by omega), (RB i (by omega)).2.2.2.2.1] at c5
        rw [any_s (by omega), palP_y c5]
        exact ⟨Or.inr rfl, ⟨fun z => absurd z (by decide), fun z => absurd z (by simp)⟩⟩
      · skip
        -- leaf 11: rc2 a0 (x1 + (1 : Int32)) h
        rw [nI_cl (by omega), (RB i (by omega)).2.2.2.2.1] at c5
        rw [nI_1] at hf
        rw [any_s (by omega), palP_n c5, Bool.false_or]
        exact E_X1_isSomePale_2 k (i + 1) R K rfl (by omega) hf
theorem E_X12_somePale_4 {n : Nat} {W : jWd} : ∀ (k : Nat) {a0 : Nat} {x1 : Int32} {x2 : Int32} {h : jH} {q : Int32} (i : Nat) (M : mS (oc h) a0) (hW : wl (oc h) a0 = W) (K : wOK W) (hx : x2 = nI i) (hi : i ≤ 8) (hb : x1 = 0 ∨ x1 = 1), F_X12_somePale_4 n k a0 x1 x2 h = some q → (q = 0 ∨ q = 1) ∧ (q = 0 ↔ (x1 = 0 ∧ anyF (palP W) ((W 0).toInt.toNat - i) i = false))
  | 0, a0, x1, x2, h, q, i, M, hW, K, hx, hi, hb, hf => by cases hf
  | k + 1, a0, x1, x2, h, q, i, M, hW, K, hx, hi, hb, hf => by
    replace hf : F_X12_somePale_4_b n (F_X12_somePale_4 n k) a0 x1 x2 h = some q := hf
    unfold F_X12_somePale_4_b at hf
    subst hx
    have K0 := K.1
    have l1 : (1 : Int32).toInt = 1 := rfl
    have ew : (W 0 - 1).toInt = (W 0).toInt - 1 := jsub (by omega) (by omega)
    replace hf := jbind hf
    obtain ⟨v6, e1, hf⟩ := hf
    replace e1 := (jcv_o e1).2
    have r1 := E_X12_rings M e1
    rw [hW] at r1
    subst r1
    replace hf := jite hf
    rcases hf with ⟨c2, hf⟩ | ⟨c2, hf⟩
    · skip
      rw [nI_eI (by omega)] at c2
      replace hf := jite hf
      rcases hf with ⟨c3, hf⟩ | ⟨c3, hf⟩
      · skip
        cases hf
        -- leaf 00: x1
        rw [any_e (by omega)]
        exact ⟨hb, ⟨fun z => ⟨z, rfl⟩, fun z => z.1⟩⟩
      · skip
        cases hf
    · skip
      rw [nI_eI (by omega)] at c2
      replace hf := jite hf
      rcases hf with ⟨c4, hf⟩ | ⟨c4, hf⟩
      · skip
        replace hf := jbind hf
        obtain ⟨v19, e5, hf⟩ := hf
        replace e5 := (jcv_o e5).2
        have r5 := E_X12_of (i := i) (j := 4) (t := 15 + 8 * i) M rfl rfl (by omega) (by omega) e5
        rw [hW] at r5
        subst r5
        replace hf := jite hf
        rcases hf with ⟨c6, hf⟩ | ⟨c6, hf⟩
        · skip
          -- leaf 100: rc4 a0 (1 : Int32) (x2 + (1 : Int32)) h
          rw [nI_1] at hf
          obtain ⟨a, b⟩ := E_X12_somePale_4 k (i + 1) M hW K rfl (by omega) (Or.inr rfl) hf
          refine ⟨a, b.trans ⟨fun z => absurd z.1 (by decide), fun z => ?_⟩⟩
          have z2 := z.2
          rw [any_s (by omega), palP_y c6] at z2
          exact absurd z2 (by simp)
        · skip
          -- leaf 101: rc4 a0 (0 : Int32) (x2 + (1 : Int32)) h
          rw [nI_1] at hf
          obtain ⟨a, b⟩ := E_X12_somePale_4 k (i + 1) M hW K rfl (by omega) (Or.inl rfl) hf
          rw [any_s (by omega), palP_n c6, Bool.false_or]
          exact ⟨a, b.trans ⟨fun z => ⟨c4, z.2⟩, fun z => ⟨rfl, z.2⟩⟩⟩
      · skip
        -- leaf 11: rc4 a0 (1 : Int32) (x2 + (1 : Int32)) h
        rw [nI_1] at hf
        obtain ⟨a, b⟩ := E_X12_somePale_4 k (i + 1) M hW K rfl (by omega) (Or.inr rfl) hf
        exact ⟨a, b.trans ⟨fun z => absurd z.1 (by decide), fun z => absurd z.1 c4⟩⟩
theorem E_X1_isSomePale {n r : Nat} {W : jWd} {h : jH} {q : Int32} (R : rodE (oc h) r W) (K : wOK W) (hf : F_X1_isSomePale n r h = some q) : (q = 0 ∨ q = 1) ∧ (q = 0 ↔ palW W = false) :=
  E_X1_isSomePale_2 n 0 R K rfl (by omega) hf
theorem E_X12_somePale {n m : Nat} {W : jWd} {h : jH} {q : Int32} (M : mS (oc h) m) (hW : wl (oc h) m = W) (K : wOK W) (hf : F_X12_somePale n m h = some q) : (q = 0 ∨ q = 1) ∧ (q = 0 ↔ palW W = false) := by
  obtain ⟨a, b⟩ := E_X12_somePale_4 n 0 M hW K rfl (by omega) (Or.inl rfl) hf
  exact ⟨a, b.trans ⟨fun z => z.2, fun z => ⟨rfl, z⟩⟩⟩
theorem E_X1_firstPale_10 {n c l r : Nat} : ∀ (k : Nat) {x2 : Int32} {h : jH} {q : Int32 × jH} (W : jWd) (t m : Nat) (C : clkE (oc h) c l r W) (D : clkD c l r) (sr : oc h c 1 = .ref r) (ht : t + m = 81) (h2 : x2 = nI t), F_X1_firstPale_10 n k c x2 h = some q → q.1 = paF m t W
  | 0, x2, h, q, W, t, m, C, D, sr, ht, h2, hf => by cases hf
  | k + 1, x2, h, q, W, t, m, C, D, sr, ht, h2, hf => by
    replace hf : F_X1_firstPale_10_b n (F_X1_firstPale_10 n k) c x2 h = some q := hf
    unfold F_X1_firstPale_10_b at hf
    have l80 : (80 : Int32).toInt = 80 := rfl
    rcases jite hf with ⟨c1, hf⟩ | ⟨c1, hf⟩
    · rw [h2, Int32.lt_iff_toInt_lt, nI_toInt (by omega), l80] at c1
      cases hf
      obtain rfl : m = 0 := by omega
      rfl
    · rw [h2, Int32.lt_iff_toInt_lt, nI_toInt (by omega), l80] at c1
      obtain ⟨m, rfl⟩ : ∃ p, m = p + 1 := ⟨m - 1, by omega⟩
      obtain ⟨p17, g17, hf⟩ := jbind hf
      have t17 := oc_gR g17
      rw [sr] at t17
      cases t17
      obtain ⟨v20, g20, hf⟩ := jbind hf
      have pl := E_X1_isSomePale C.2.1 C.2.2.2 g20
      rcases jite hf with ⟨z, hf⟩ | ⟨z, hf⟩
      · rw [paF_n (pl.2.mp z)]
        obtain ⟨p30, g30, hf⟩ := jbind hf
        have t30 := oc_gR g30
        rw [sr] at t30
        cases t30
        obtain ⟨h33, g33, hf⟩ := jbind hf
        obtain ⟨A1, A2, A3⟩ := E_X1_fadeAll C D (jcv_o g33).2
        have sr2 : oc h33 c 1 = .ref r := (A2 c 1 (by obtain ⟨d1, d2, d3⟩ := D; omega) (by obtain ⟨d1, d2, d3⟩ := D; omega) (by obtain ⟨d1, d2, d3⟩ := D; omega)).trans sr
        obtain ⟨p37, g37, hf⟩ := jbind hf
        have t37 := oc_gR g37
        rw [sr2] at t37
        cases t37
        obtain ⟨h40, g40, hf⟩ := jbind hf
        obtain ⟨T1, T2, T3⟩ := E_X1_turn A1.2.1 A1.2.2.2 g40
        have sr3 : oc h40 c 1 = .ref r := (T2 c 1 D.2.1).trans sr2
        have C5 : clkE (oc h40) c l r (hrW true W).1 := by rw [hr_t]; exact clk_R A1 D T2 T1 (wOK_tu A1.2.2.2) (fun k hk => tuW_n (by omega) (by omega))
        exact E_X1_firstPale_10 k (hrW true W).1 (t + 1) m C5 D sr3 (by omega) (by rw [h2, nI_1]) hf
      · rw [paF_y (bl_ty fun y => z (pl.2.mpr y))]
        cases hf
        exact h2
theorem E_X12_pale_49 {n m : Nat} {v : Int32} {h : jH} {q : Int32 × jH} (hf : F_X12_pale_49 n m v h = some q) : q.1 = v := by
  unfold F_X12_pale_49 at hf
  obtain ⟨h50, g50, hf⟩ := jbind hf
  cases hf
  rfl
theorem E_X12_pale_13 {n a0 : Nat} : ∀ (k : Nat) {x1 x2 : Int32} {h : jH} {q : Int32 × jH} (W : jWd) (t m : Nat) (C : rkE (oc h) a0 W) (ht : t + m = 81) (h2 : x2 = nI t), F_X12_pale_13 n k a0 x1 x2 h = some q → (x1 = -1 → q.1 = paF m t W) ∧ (¬ x1 = -1 → q.1 = x1)
  | 0, x1, x2, h, q, W, t, m, C, ht, h2, hf => by cases hf
  | k + 1, x1, x2, h, q, W, t, m, C, ht, h2, hf => by
    replace hf : F_X12_pale_13_b n (F_X12_pale_13 n k) a0 x1 x2 h = some q := hf
    unfold F_X12_pale_13_b at hf
    have l80 : (80 : Int32).toInt = 80 := rfl
    rcases jite hf with ⟨c1, hf⟩ | ⟨c1, hf⟩
    · rw [h2, Int32.lt_iff_toInt_lt, nI_toInt (by omega), l80] at c1
      obtain rfl : m = 0 := by omega
      have a := E_X12_pale_49 hf
      exact ⟨fun y => a.trans y, fun _ => a⟩
    · rw [h2, Int32.lt_iff_toInt_lt, nI_toInt (by omega), l80] at c1
      obtain ⟨m, rfl⟩ : ∃ p, m = p + 1 := ⟨m - 1, by omega⟩
      rcases jite hf with ⟨c, hf⟩ | ⟨c, hf⟩
      · refine ⟨fun _ => ?_, fun y => absurd c y⟩
        obtain ⟨v25, g25, hf⟩ := jbind hf
        have pl := E_X12_somePale C.1 C.2.1 C.2.2.1 (jcv_o g25).2
        rcases jite hf with ⟨z, hf⟩ | ⟨z, hf⟩
        · rw [paF_n (pl.2.mp z)]
          unfold F_X12_pale_36 at hf
          obtain ⟨q39, g39, hf⟩ := jbind hf
          obtain ⟨H1, -, -, -⟩ := E_X12_oneHour (calm := true) C rfl (jcv_o g39).2
          exact (E_X12_pale_13 k (hrW true W).1 (t + 1) m H1 (by omega) (by rw [h2, nI_1]) hf).1 rfl
        · rw [paF_y (bl_ty fun y => z (pl.2.mpr y))]
          unfold F_X12_pale_36 at hf
          obtain ⟨q39, g39, hf⟩ := jbind hf
          obtain ⟨H1, -, -, -⟩ := E_X12_oneHour (calm := true) C rfl (jcv_o g39).2
          have ne : ¬ x2 = -1 := fun y => by
            have := congrArg Int32.toInt y
            rw [h2, nI_toInt (by omega)] at this
            have lm : (-1 : Int32).toInt = -1 := rfl
            omega
          exact ((E_X12_pale_13 k (hrW true W).1 (t + 1) m H1 (by omega) (by rw [h2, nI_1]) hf).2 ne).trans h2
      · exact ⟨fun y => absurd y c, fun _ => E_X12_pale_49 hf⟩
/-! trials one behind another -/
theorem bc_pos {n : Nat} {x v : Int32} {h : jH} (e : F_J6_bitCount_0f7a4 n x h = some v) : 0 ≤ v.toInt ∧ v.toInt ≤ 63 := by
  unfold F_J6_bitCount_0f7a4 at e
  cases e
  exact jandR rfl (by decide)
theorem E_bB {n a0 : Nat} {W : jWd} {h q : jH} (M : mS (oc h) a0) (lo : ∀ j, j < 435 → oi (oc h) (a0 + 4) j = W j) (hi : ∀ j, 435 ≤ j → oi (oc h) (a0 + 1) j = W j) (hf : F_X12_bringsBack n a0 h = some q) : wl (oc q) a0 = W := by
  unfold F_X12_bringsBack at hf
  obtain ⟨b1, -, -⟩ := E_X12_bringsBack_2 n 0 M rfl (by omega) hf
  funext j
  show oi (oc q) (a0 + 1) j = W j
  rw [b1 j]
  by_cases c : j < 435
  · rw [if_pos ⟨Nat.zero_le _, c⟩]; exact lo j c
  · rw [if_neg (fun z => c z.2)]; exact hi j (by omega)
theorem E_kA {n a0 : Nat} {W : jWd} {h q : jH} (M : mS (oc h) a0) (hW : wl (oc h) a0 = W) (hf : F_X12_keepsAll n a0 h = some q) : ∀ j, j < 435 → oi (oc q) (a0 + 4) j = W j := by
  unfold F_X12_keepsAll at hf
  obtain ⟨b1, -, -⟩ := E_X12_keepsAll_2 n 0 M rfl (by omega) hf
  intro j c
  rw [b1 j, if_pos ⟨Nat.zero_le _, c⟩]
  exact congrFun hW j
theorem span_eq {x nx r L n N : Nat} {W : jWd} {v s : Int32} (hN : N < 1000) (hv : v = nI N) : ∀ (k kk : Nat) {x3 x4 : Int32} {h h1 : jH} {q : jR × jH} {p : Int32 × jH} (E : eqS x nx r L W h) (C : rkE (oc h1) (x + 40) W) (tr : ∀ j, j < 435 → oi (oc h1) (x + 44) j = W j) (T : oi (oc h1) (x + 40) 0 = 0) (h3 : x3 = -1 ∨ 0 ≤ x3.toInt), F_X11_span_13 n k x v s x3 x4 h = some q → F_X12_span_28 n kk (x + 40) v s x3 x4 h1 = some p → q.1 = .inl p.1 ∧ oi (oc p.2) (x + 40) 0 = 0
  | 0, _, x3, x4, h, h1, q, p, E, C, tr, T, h3, e1, e2 => by cases e1
  | _ + 1, 0, x3, x4, h, h1, q, p, E, C, tr, T, h3, e1, e2 => by cases e2
  | k + 1, kk + 1, x3, x4, h, h1, q, p, E, C, tr, T, h3, e1, e2 => by
    replace e1 : F_X11_span_13_b n (F_X11_span_13 n k) x v s x3 x4 h = some q := e1
    replace e2 : F_X12_span_28_b n (F_X12_span_28 n kk) (x + 40) v s x3 x4 h1 = some p := e2
    unfold F_X11_span_13_b at e1
    unfold F_X12_span_28_b at e2
    rcases jite e1 with ⟨c, e1⟩ | ⟨c, e1⟩
    · rcases jite e2 with ⟨-, e2⟩ | ⟨d, -⟩
      · cases e1
        cases e2
        exact ⟨rfl, T⟩
      · exact absurd c d
    rcases jite e2 with ⟨d, -⟩ | ⟨-, e2⟩
    · exact absurd d c
    obtain ⟨p21, g21, e1⟩ := jbind e1
    have t21 := oc_gR g21
    rw [E.1.2.2.2.1] at t21
    cases t21
    obtain ⟨p25, g25, e1⟩ := jbind e1
    have t25 := oc_gR g25
    rw [E.1.2.1] at t25
    cases t25
    obtain ⟨h31, g31, e1⟩ := jbind e1
    have E31 := eqc E (FC_X1_tryHours_36_6 (cls_of E).1 (jcv_o g31).2)
    obtain ⟨G1, f1, -⟩ := E_X1_tryHours E hN hv (jcv_o g31).2
    have sd : oc h31 x 4 = .ref (x + 21) := E31.2.2.2.2.2.2.2.1.1.2.1
    obtain ⟨p35, g35, e1⟩ := jbind e1
    have t35 := oc_gR g35
    rw [sd] at t35
    cases t35
    obtain ⟨v38, g38, e1⟩ := jbind e1
    have r38 := oc_gI g38
    obtain ⟨v41, g41, e1⟩ := jbind e1
    obtain ⟨p45, g45, e1⟩ := jbind e1
    have t45 := oc_gR g45
    rw [sd] at t45
    cases t45
    obtain ⟨v48, g48, e1⟩ := jbind e1
    obtain ⟨v51, g51, e1⟩ := jbind e1
    obtain ⟨p36, k36, e2⟩ := jbind e2
    have t36 := oc_gR k36
    rw [C.1.1] at t36
    cases t36
    obtain ⟨h43, k43, e2⟩ := jbind e2
    obtain ⟨o43, -, -⟩ := oc_as k43
    rw [jnar0, show (10 : Int32).toNatClampNeg = 10 from rfl] at o43
    have f43 : frM (x + 40) [1] [] (oc h1) (oc h43) := by rw [o43]; exact frM_c (by decide)
    have w43 : wl (oc h43) (x + 40) = upd W 10 x4 := by rw [o43, wl_w, C.2.1]
    have C43 : rkE (oc h43) (x + 40) (upd W 10 x4) := rk_w C (frM_le f43 (fun c h => by simp at h ⊢; omega) (fun c h => by cases h)) w43 (wOK_10 C.2.2.1) (fun k hk => upd_ne (by omega))
    obtain ⟨q47, k47, e2⟩ := jbind e2
    obtain ⟨H1, -, fg, -⟩ := E_X12_goesOn (calm := false) (m := N) C43 rfl hN hv (jcv_o k47).2
    obtain ⟨v54, k54, e2⟩ := jbind e2
    obtain ⟨v57, k57, e2⟩ := jbind e2
    obtain ⟨v61, k61, e2⟩ := jbind e2
    obtain ⟨v64, k64, e2⟩ := jbind e2
    obtain ⟨h71, k71, e2⟩ := jbind e2
    have m1 : v38 = v54 := r38.symm.trans (msk_c G1.2.1 G1.2.2.2 H1.1 H1.2.1 (jcv_o k54).2)
    have m2 : v48 = v61 := msk_l G1.2.1 G1.2.2.2 H1.1 H1.2.1 (jcv_o g48).2 (jcv_o k61).2
    subst m1 m2
    have b1 := bc_h g41 k57
    have b2 := bc_h g51 k64
    subst b1 b2
    have fb := FQ_X12_bringsBack H1.1 (jcv_o k71).2
    have tr47 : ∀ j, j < 435 → oi (oc q47.2) (x + 44) j = W j := fun j hj =>
      ((oi_M fg (fun c h => by simp at h; omega) (fun z => absurd z (by omega))).trans (oi_M f43 (fun c h => by simp at h; omega) (fun z => absurd z (by omega)))).trans (tr j hj)
    have hi47 : ∀ j, 435 ≤ j → oi (oc q47.2) (x + 41) j = W j := fun j hj =>
      ((congrFun H1.2.1 j).trans (hrs_kp (Or.inr hj) N (upd W 10 x4) 0 (by rw [upd_ne (by omega)]; exact C.2.2.1.1.2))).trans (upd_ne (by omega))
    have w71 : wl (oc h71) (x + 40) = W := E_bB H1.1 tr47 hi47 (jcv_o k71).2
    have C71 : rkE (oc h71) (x + 40) W := ⟨mS_fr H1.1 fb (by decide) (by decide), w71, C.2.2⟩
    have tr71 : ∀ j, j < 435 → oi (oc h71) (x + 44) j = W j := fun j hj => (oi_M fb (fun c h => by simp at h; omega) (fun z => absurd z (by omega))).trans (tr47 j hj)
    have T71 := tz_fr fb (by decide) (by decide) (tz_fr fg (by decide) (by decide) (tz_fr f43 (by decide) (by decide) T))
    have p1 := bc_pos g41
    have p2 := bc_pos g51
    have hc : (v41 + v51).toInt = v41.toInt + v51.toInt := jadd (by omega) (by omega)
    generalize v41 + v51 = u at e1 e2 hc
    have e3 : ∃ y : Int32, (y = -1 ∨ 0 ≤ y.toInt) ∧ F_X11_span_13 n k x v s y (x4 + (1 : Int32)) h31 = some q ∧ F_X12_span_28 n kk (x + 40) v s y (x4 + (1 : Int32)) h71 = some p := by
      rcases h3 with rfl | h3
      · rw [if_pos rfl] at e1
        rw [if_neg (by decide)] at e2
        exact ⟨u, Or.inr (by omega), e1, e2⟩
      · have l0 : (0 : Int32).toInt = 0 := rfl
        rw [if_neg (fun y => by rw [y] at h3; exact absurd h3 (by decide))] at e1
        rw [if_pos (by rw [Int32.le_iff_toInt_le, l0]; exact h3)] at e2
        by_cases z : s = 0
        · rw [if_pos z] at e1 e2
          by_cases y : x3 ≤ u
          · rw [if_pos y] at e1
            rw [if_neg (by rw [← i_le]; exact fun z => z y)] at e2
            exact ⟨x3, Or.inr h3, e1, e2⟩
          · rw [if_neg y] at e1
            rw [if_pos (i_le.mp y)] at e2
            exact ⟨u, Or.inr (by omega), e1, e2⟩
        · rw [if_neg z] at e1 e2
          by_cases y : u ≤ x3
          · rw [if_pos y] at e1
            rw [if_neg (by rw [← i_le]; exact fun z => z y)] at e2
            exact ⟨x3, Or.inr h3, e1, e2⟩
          · rw [if_neg y] at e1
            rw [if_pos (i_le.mp y)] at e2
            exact ⟨u, Or.inr (by omega), e1, e2⟩
    obtain ⟨y, y3, e1, e2⟩ := e3
    exact span_eq hN hv k kk E31 C71 tr71 T71 y3 e1 e2
/-! rings in order of how faded they are: the longest row -/
def pcB (u k : Nat) : Nat := if u.testBit k = true then 1 else 0
def pcN (u : Nat) : Nat := pcB u 0 + pcB u 1 + pcB u 2 + pcB u 3 + pcB u 4 + pcB u 5 + pcB u 6 + pcB u 7
theorem pcB_1 (u k : Nat) : pcB u k ≤ 1 := by unfold pcB; split <;> omega
theorem pcN_8 (u : Nat) : pcN u ≤ 8 := by
  have a0 := pcB_1 u 0; have a1 := pcB_1 u 1; have a2 := pcB_1 u 2; have a3 := pcB_1 u 3; have a4 := pcB_1 u 4; have a5 := pcB_1 u 5; have a6 := pcB_1 u 6; have a7 := pcB_1 u 7
  unfold pcN; omega
theorem pcN_0 : pcN 0 = 0 := by decide
theorem pcN_add {u i : Nat} (hi : i < 8) (hu : u < 2 ^ i) : pcN (u + 2 ^ i) = pcN u + 1 := by
  have h : ∀ i, i < 8 → ∀ u, u < 128 → u < 2 ^ i → pcN (u + 2 ^ i) = pcN u + 1 := by decide +kernel
  exact h i hi u (Nat.lt_of_lt_of_le hu (Nat.pow_le_pow_right (by decide) (show i ≤ 7 by omega))) hu
theorem bc_pc {n u : Nat} {v : Int32} {h : jH} (hu : u < 256) (e : F_J6_bitCount_0f7a4 n (nI u) h = some v) : v = nI (pcN u) := by
  have a : ∀ u, u < 256 → F_J6_bitCount_0f7a4 0 (nI u) (0, fun _ => none) = some (nI (pcN u)) := by decide +kernel
  have b : F_J6_bitCount_0f7a4 n (nI u) h = F_J6_bitCount_0f7a4 0 (nI u) (0, fun _ => none) := rfl
  rw [b, a u hu] at e
  cases e
  rfl
theorem tb_add {u i : Nat} (hu : u < 2 ^ i) (k : Nat) : (u + 2 ^ i).testBit k = (decide (k = i) || u.testBit k) := by
  rw [Nat.add_comm]
  rcases Nat.lt_trichotomy k i with q | q | q
  · rw [Nat.testBit_two_pow_add_gt q, decide_eq_false (by omega), Bool.false_or]
  · subst q
    rw [Nat.testBit_two_pow_add_eq, Nat.testBit_lt_two_pow hu, decide_eq_true rfl]; rfl
  · have l1 : 2 ^ i + u < 2 ^ k := Nat.lt_of_lt_of_le (show 2 ^ i + u < 2 ^ (i + 1) by rw [Nat.pow_succ]; omega) (Nat.pow_le_pow_right (by decide) (show i + 1 ≤ k by omega))
    have l2 : u < 2 ^ k := by omega
    rw [Nat.testBit_lt_two_pow l1, Nat.testBit_lt_two_pow l2, decide_eq_false (by omega)]; rfl
def moN (F : Nat → Int) (u : Nat) : Prop := ∀ j k, j < k → u.testBit j = true → u.testBit k = true → F j ≤ F k
theorem mo_0 {F : Nat → Int} : moN F 0 := fun j k _ h => by simp at h
theorem mo_add {F : Nat → Int} {u i : Nat} (hu : u < 2 ^ i) : moN F (u + 2 ^ i) ↔ moN F u ∧ ∀ k, u.testBit k = true → F k ≤ F i := by
  have hk : ∀ k, u.testBit k = true → k < i := fun k h => by
    refine Nat.lt_of_not_le fun z => ?_
    rw [Nat.testBit_lt_two_pow (Nat.lt_of_lt_of_le hu (Nat.pow_le_pow_right (by decide) z))] at h
    exact absurd h (by decide)
  constructor
  · intro m
    refine ⟨fun j k h a b => m j k h (by rw [tb_add hu, a]; simp) (by rw [tb_add hu, b]; simp), fun k h => m k i (hk k h) (by rw [tb_add hu, h]; simp) (by rw [tb_add hu, decide_eq_true rfl]; rfl)⟩
  · rintro ⟨m, g⟩ j k h a b
    rw [tb_add hu] at a b
    by_cases ki : k = i
    · subst ki
      rw [decide_eq_false (by omega), Bool.false_or] at a
      exact g j a
    · rw [decide_eq_false ki, Bool.false_or] at b
      have := hk k b
      rw [decide_eq_false (by omega), Bool.false_or] at a
      exact m j k h a b
theorem mo_top {F : Nat → Int} {u i j : Nat} (h1 : 2 ^ j ≤ u) (h2 : u < 2 ^ (j + 1)) (m : moN F u) : (∀ k, u.testBit k = true → F k ≤ F i) ↔ F j ≤ F i := by
  have hp : 2 ^ (j + 1) = 2 ^ j + 2 ^ j := by rw [Nat.pow_succ]; omega
  have e : u = (u - 2 ^ j) + 2 ^ j := by omega
  have tj : u.testBit j = true := by rw [e, tb_add (by omega), decide_eq_true rfl]; rfl
  refine ⟨fun g => g j tj, fun g k hk => ?_⟩
  rcases Nat.lt_trichotomy k j with q | q | q
  · have := m k j q hk tj
    omega
  · subst q; exact g
  · rw [Nat.testBit_lt_two_pow (Nat.lt_of_lt_of_le h2 (Nat.pow_le_pow_right (by decide) q))] at hk
    exact absurd hk (by decide)
def fiS (F : Nat → Int) (j v : Nat) : Prop := (∃ u, 2 ^ j ≤ u ∧ u < 2 ^ (j + 1) ∧ moN F u ∧ pcN u = v) ∧ ∀ u, 2 ^ j ≤ u → u < 2 ^ (j + 1) → moN F u → pcN u ≤ v
def vaS (F : Nat → Int) (i j v : Nat) : Prop := (∃ u, u < 2 ^ j ∧ moN F (u + 2 ^ i) ∧ pcN u + 1 = v) ∧ ∀ u, u < 2 ^ j → moN F (u + 2 ^ i) → pcN u + 1 ≤ v
theorem fi_8 {F : Nat → Int} {j v : Nat} (h : fiS F j v) : v ≤ 8 := by
  obtain ⟨⟨u, -, -, -, e⟩, -⟩ := h
  have := pcN_8 u
  omega
theorem vas_9 {F : Nat → Int} {i j v : Nat} (h : vaS F i j v) : v ≤ 9 := by
  obtain ⟨⟨u, -, -, e⟩, -⟩ := h
  have := pcN_8 u
  omega
theorem vas_0 {F : Nat → Int} {i : Nat} : vaS F i 0 1 := by
  have p : 0 < 2 ^ i := Nat.two_pow_pos i
  refine ⟨⟨0, by decide, (mo_add p).mpr ⟨mo_0, fun k h => by simp at h⟩, by rw [pcN_0]⟩, fun u hu _ => ?_⟩
  have : u = 0 := by omega
  subst this
  rw [pcN_0]; omega
theorem vas_n {F : Nat → Int} {i j v : Nat} (hj : j < i) (hF : ¬ F j ≤ F i) (h : vaS F i j v) : vaS F i (j + 1) v := by
  have hp : 2 ^ (j + 1) = 2 ^ j + 2 ^ j := by rw [Nat.pow_succ]; omega
  have hi : 2 ^ (j + 1) ≤ 2 ^ i := Nat.pow_le_pow_right (by decide) hj
  obtain ⟨⟨u, u1, u2, u3⟩, g⟩ := h
  refine ⟨⟨u, by omega, u2, u3⟩, fun w hw m => ?_⟩
  by_cases q : w < 2 ^ j
  · exact g w q m
  · obtain ⟨m1, m2⟩ := (mo_add (by omega)).mp m
    exact absurd ((mo_top (by omega) hw m1).mp m2) hF
theorem vas_s {F : Nat → Int} {i j v f : Nat} (hj : j < i) (hF : F j ≤ F i) (fs : fiS F j f) (h : vaS F i j v) : vaS F i (j + 1) (if v < f + 1 then f + 1 else v) := by
  have hp : 2 ^ (j + 1) = 2 ^ j + 2 ^ j := by rw [Nat.pow_succ]; omega
  have hi : 2 ^ (j + 1) ≤ 2 ^ i := Nat.pow_le_pow_right (by decide) hj
  obtain ⟨⟨u, u1, u2, u3⟩, g⟩ := h
  obtain ⟨⟨w, w1, w2, w3, w4⟩, g2⟩ := fs
  constructor
  · by_cases q : v < f + 1
    · rw [if_pos q]
      exact ⟨w, w2, (mo_add (by omega)).mpr ⟨w3, (mo_top w1 w2 w3).mpr hF⟩, by omega⟩
    · rw [if_neg q]
      exact ⟨u, by omega, u2, u3⟩
  · intro y hy m
    by_cases z : y < 2 ^ j
    · have := g y z m
      split <;> omega
    · obtain ⟨m1, m2⟩ := (mo_add (by omega)).mp m
      have := g2 y (by omega) hy m1
      split <;> omega
theorem vas_f {F : Nat → Int} {i v : Nat} (h8 : i < 8) (h : vaS F i i v) : fiS F i v := by
  have hp : 2 ^ (i + 1) = 2 ^ i + 2 ^ i := by rw [Nat.pow_succ]; omega
  obtain ⟨⟨u, u1, u2, u3⟩, g⟩ := h
  refine ⟨⟨u + 2 ^ i, by omega, by omega, u2, by rw [pcN_add h8 u1]; exact u3⟩, fun w w1 w2 m => ?_⟩
  have e : w = (w - 2 ^ i) + 2 ^ i := by omega
  rw [e] at m ⊢
  have := g (w - 2 ^ i) (by omega) m
  rw [pcN_add h8 (by omega)]
  exact this
def ovS (f : Nat → Nat) (i b : Nat) : Prop := ((b = 0 ∧ i = 0) ∨ ∃ j, j < i ∧ f j = b) ∧ ∀ j, j < i → f j ≤ b
/-- the most rings in order: b or more, those from t on -/
def moM (F : Nat → Int) (c t b M : Nat) : Prop := b ≤ M ∧ (M = b ∨ ∃ u, t ≤ u ∧ u < 2 ^ c ∧ moN F u ∧ pcN u = M) ∧ ∀ u, t ≤ u → u < 2 ^ c → moN F u → pcN u ≤ M
theorem mo_end {F : Nat → Int} {c t b : Nat} (h : 2 ^ c ≤ t) : moM F c t b b := ⟨Nat.le_refl _, Or.inl rfl, fun u a d _ => absurd d (by omega)⟩
theorem mo_n {F : Nat → Int} {c t b M : Nat} (hn : ¬ moN F t) (h : moM F c (t + 1) b M) : moM F c t b M := by
  obtain ⟨a, d, g⟩ := h
  refine ⟨a, ?_, fun u u1 u2 u3 => ?_⟩
  · rcases d with d | ⟨u, u1, u2⟩
    · exact Or.inl d
    · exact Or.inr ⟨u, by omega, u2⟩
  · by_cases q : u = t
    · subst q; exact absurd u3 hn
    · exact g u (by omega) u2 u3
theorem mo_y {F : Nat → Int} {c t b M : Nat} (ht : t < 2 ^ c) (hn : moN F t) (h : moM F c (t + 1) (if b < pcN t then pcN t else b) M) : moM F c t b M := by
  obtain ⟨a, d, g⟩ := h
  refine ⟨by split at a <;> omega, ?_, fun u u1 u2 u3 => ?_⟩
  · rcases d with d | ⟨u, u1, u2⟩
    · by_cases q : b < pcN t
      · rw [if_pos q] at d
        exact Or.inr ⟨t, Nat.le_refl _, ht, hn, d.symm⟩
      · rw [if_neg q] at d
        exact Or.inl d
    · exact Or.inr ⟨u, by omega, u2⟩
  · by_cases q : u = t
    · subst q; split at a <;> omega
    · exact g u (by omega) u2 u3
theorem mo_eq {F : Nat → Int} {c M L : Nat} {f : Nat → Nat} (hM : moM F c 0 0 M) (fs : ∀ j, j < c → fiS F j (f j)) (os : ovS f c L) : M = L := by
  obtain ⟨-, d, g⟩ := hM
  obtain ⟨o1, o2⟩ := os
  have a : M ≤ L := by
    rcases d with d | ⟨u, -, u2, u3, u4⟩
    · omega
    · by_cases z : u = 0
      · subst z; rw [pcN_0] at u4; omega
      · have l1 := Nat.log2_self_le z
        have l2 : u < 2 ^ (u.log2 + 1) := Nat.lt_log2_self
        have hj : u.log2 < c := by
          refine Nat.lt_of_not_le fun y => ?_
          have := Nat.pow_le_pow_right (show 0 < 2 by decide) y
          omega
        have := (fs _ hj).2 u l1 l2 u3
        have := o2 _ hj
        omega
  have b : L ≤ M := by
    rcases o1 with ⟨o1, -⟩ | ⟨j, hj, o1⟩
    · omega
    · obtain ⟨⟨u, u1, u2, u3, u4⟩, -⟩ := fs j hj
      have := Nat.pow_le_pow_right (show 0 < 2 by decide) (show j + 1 ≤ c by omega)
      have := g u (Nat.zero_le _) (by omega) u3
      omega
  omega
/-- rings named by x, from i on, in order, none less faded than l -/
def ioS (W : jWd) (c : Nat) (x : Int32) (i : Nat) (l : Int32) : Prop := (∀ j, i ≤ j → j < c → bt x j = true → l.toInt ≤ (W (15 + 8 * j)).toInt) ∧ ∀ j k, i ≤ j → j < k → k < c → bt x j = true → bt x k = true → (W (15 + 8 * j)).toInt ≤ (W (15 + 8 * k)).toInt
theorem io_e {W : jWd} {c i : Nat} {x l : Int32} (h : c ≤ i) : ioS W c x i l := ⟨fun j a b _ => absurd b (by omega), fun j k a b d _ _ => absurd d (by omega)⟩
theorem io_n {W : jWd} {c i : Nat} {x l : Int32} (h : ¬ bt x i = true) : ioS W c x i l ↔ ioS W c x (i + 1) l := by
  constructor
  · rintro ⟨a, b⟩
    exact ⟨fun j j1 => a j (by omega), fun j k j1 => b j k (by omega)⟩
  · rintro ⟨a, b⟩
    refine ⟨fun j j1 j2 j3 => ?_, fun j k j1 j2 j3 j4 j5 => ?_⟩
    · by_cases q : j = i
      · subst q; exact absurd j3 h
      · exact a j (by omega) j2 j3
    · by_cases q : j = i
      · subst q; exact absurd j4 h
      · exact b j k (by omega) j2 j3 j4 j5
theorem io_y {W : jWd} {c i : Nat} {x l : Int32} (hi : i < c) (h : bt x i = true) (hl : l.toInt ≤ (W (15 + 8 * i)).toInt) : ioS W c x i l ↔ ioS W c x (i + 1) (W (15 + 8 * i)) := by
  constructor
  · rintro ⟨a, b⟩
    exact ⟨fun j j1 j2 j3 => b i j (Nat.le_refl _) (by omega) j2 h j3, fun j k j1 => b j k (by omega)⟩
  · rintro ⟨a, b⟩
    refine ⟨fun j j1 j2 j3 => ?_, fun j k j1 j2 j3 j4 j5 => ?_⟩
    · by_cases q : j = i
      · subst q; exact hl
      · have := a j (by omega) j2 j3
        omega
    · by_cases q : j = i
      · subst q; exact a k (by omega) j3 j5
      · exact b j k (by omega) j2 j3 j4 j5
theorem io_f {W : jWd} {c i : Nat} {x l : Int32} (hi : i < c) (h : bt x i = true) (hl : ¬ l.toInt ≤ (W (15 + 8 * i)).toInt) : ¬ ioS W c x i l := fun z => hl (z.1 i (Nat.le_refl _) hi h)
theorem io_mo {W : jWd} {c u : Nat} (K : wOK W) (hc : (c : Int) = (W 0).toInt) (hu : u < 2 ^ c) : ioS W c (nI u) 0 0 ↔ moN (fun j => (W (15 + 8 * j)).toInt) u := by
  have K0 := K.1
  have l0 : (0 : Int32).toInt = 0 := rfl
  have hk : ∀ k, u.testBit k = true → k < c := fun k h => by
    refine Nat.lt_of_not_le fun z => ?_
    rw [Nat.testBit_lt_two_pow (Nat.lt_of_lt_of_le hu (Nat.pow_le_pow_right (by decide) z))] at h
    exact absurd h (by decide)
  constructor
  · rintro ⟨-, b⟩ j k h x y
    have := hk k y
    exact b j k (Nat.zero_le _) h this (by rw [nI_bt (by omega)]; exact x) (by rw [nI_bt (by omega)]; exact y)
  · intro m
    refine ⟨fun j _ h _ => ?_, fun j k _ h hk x y => m j k h (by rw [nI_bt (by omega)] at x; exact x) (by rw [nI_bt (by omega)] at y; exact y)⟩
    rw [l0]
    exact (K.2.1 j (by omega)).2.2.2.2.1.1
theorem shl_c {c : Nat} (h : c < 9) : ((1 : Int32) <<< (nI c &&& 31)).toInt = ((2 ^ c : Nat) : Int) := by
  have a : ∀ c, c < 9 → ((1 : Int32) <<< (nI c &&& 31)).toInt = ((2 ^ c : Nat) : Int) := by decide +kernel
  exact a c h
theorem nI_mx {a b : Nat} (ha : a < 1000) (hb : b < 1000) : (if nI a < nI b then nI b else nI a) = nI (if a < b then b else a) := by
  by_cases q : a < b
  · rw [if_pos q, if_pos (by rw [Int32.lt_iff_toInt_lt, nI_toInt (by omega), nI_toInt (by omega)]; omega)]
  · rw [if_neg q, if_neg (by rw [Int32.lt_iff_toInt_lt, nI_toInt (by omega), nI_toInt (by omega)]; omega)]
theorem E_X6_isInOrder_4 {n : Nat} {W : jWd} : ∀ (k : Nat) {a0 : Nat} {x1 : Int32} {x2 : Int32} {x3 : Int32} {h : jH} {q : Int32} (i : Nat) (R : rodE (oc h) a0 W) (K : wOK W) (hx : x3 = nI i) (hi : i ≤ 8), F_X6_isInOrder_4 n k a0 x1 x2 x3 h = some q → (q = 0 ∨ q = 1) ∧ (q = 1 ↔ ioS W ((W 0).toInt.toNat) x1 i x2)
  | 0, a0, x1, x2, x3, h, q, i, R, K, hx, hi, hf => by cases hf
  | k + 1, a0, x1, x2, x3, h, q, i, R, K, hx, hi, hf => by
    replace hf : F_X6_isInOrder_4_b n (F_X6_isInOrder_4 n k) a0 x1 x2 x3 h = some q := hf
    unfold F_X6_isInOrder_4_b at hf
    obtain ⟨⟨s0, s1, s2, s3, s4, s5⟩, ⟨u5, u10, u11, u12, u13, u14, u15, u16, u17⟩, RB, RC, RL⟩ := id R
    subst hx
    have K0 := K.1
    have l1 : (1 : Int32).toInt = 1 := rfl
    have ew : (W 0 - 1).toInt = (W 0).toInt - 1 := jsub (by omega) (by omega)
    replace hf := jbind hf
    obtain ⟨v6, e1, hf⟩ := hf
    have r1 := oc_gI e1
    subst r1
    clear e1
    replace hf := jite hf
    rcases hf with ⟨c2, hf⟩ | ⟨c2, hf⟩
    · skip
      rw [u5, nI_eI (by omega)] at c2
      cases hf
      -- leaf 0: (1 : Int32)
      exact ⟨Or.inr rfl, ⟨fun _ => io_e (by omega), fun _ => rfl⟩⟩
    · skip
      rw [u5, nI_eI (by omega)] at c2
      replace hf := jbind hf
      obtain ⟨v14, e3, hf⟩ := hf
      unfold F_X11_bit at e3
      cases e3
      replace hf := jite hf
      rcases hf with ⟨c4, hf⟩ | ⟨c4, hf⟩
      · skip
        replace hf := jbind hf
        obtain ⟨p22, e5, hf⟩ := hf
        have r5 := oc_gR e5
        rw [s2] at r5
        cases r5
        clear e5
        replace hf := jbind hf
        obtain ⟨v26, e6, hf⟩ := hf
        obtain ⟨r6, y6⟩ := oc_al e6
        subst r6
        clear e6
        replace hf := jite hf
        rcases hf with ⟨c7, hf⟩ | ⟨c7, hf⟩
        · skip
          replace hf := jbind hf
          obtain ⟨p34, e8, hf⟩ := hf
          have r8 := oc_gR e8
          rw [s2] at r8
          cases r8
          clear e8
          replace hf := jbind hf
          obtain ⟨v38, e9, hf⟩ := hf
          obtain ⟨r9, y9⟩ := oc_al e9
          subst r9
          clear e9
          -- leaf 100: rc4 a0 x1 v38 (x3 + (1 : Int32)) h
          rw [b_ask (by omega)] at c4
          rw [Int32.le_iff_toInt_le, nI_cl (by omega), (RB i (by omega)).2.2.2.2.1] at c7
          rw [nI_cl (by omega), (RB i (by omega)).2.2.2.2.1, nI_1] at hf
          rw [io_y (by omega) c4 c7]
          exact E_X6_isInOrder_4 k (i + 1) R K rfl (by omega) hf
        · skip
          cases hf
          -- leaf 101: (0 : Int32)
          rw [b_ask (by omega)] at c4
          rw [Int32.le_iff_toInt_le, nI_cl (by omega), (RB i (by omega)).2.2.2.2.1] at c7
          exact ⟨Or.inl rfl, ⟨fun z => absurd z (by decide), fun z => absurd z (io_f (by omega) c4 c7)⟩⟩
      · skip
        -- leaf 11: rc4 a0 x1 x2 (x3 + (1 : Int32)) h
        rw [b_ask (by omega)] at c4
        rw [nI_1] at hf
        rw [io_n c4]
        exact E_X6_isInOrder_4 k (i + 1) R K rfl (by omega) hf
theorem E_X6_isInOrder {n r u : Nat} {W : jWd} {h : jH} {q x : Int32} (R : rodE (oc h) r W) (K : wOK W) (hf : F_X6_isInOrder n r x h = some q) : (q = 0 ∨ q = 1) ∧ (q = 1 ↔ ioS W (W 0).toInt.toNat x 0 0) :=
  E_X6_isInOrder_4 n 0 R K rfl (by omega) hf
theorem E_X6_outOfOrder_4 {n r c : Nat} {W : jWd} (K : wOK W) (hc : (c : Int) = (W 0).toInt) : ∀ (k : Nat) {x1 x2 : Int32} {h : jH} {q : Int32} (t b : Nat) (R : rodE (oc h) r W) (h1 : x1 = nI b) (h2 : x2 = nI t) (ht : t ≤ 2 ^ c) (hb : b ≤ 8), F_X6_outOfOrder_4 n k r x1 x2 h = some q → ∃ M : Nat, q = W 0 - nI M ∧ moM (fun j => (W (15 + 8 * j)).toInt) c t b M
  | 0, x1, x2, h, q, t, b, R, h1, h2, ht, hb, hf => by cases hf
  | k + 1, x1, x2, h, q, t, b, R, h1, h2, ht, hb, hf => by
    replace hf : F_X6_outOfOrder_4_b n (F_X6_outOfOrder_4 n k) r x1 x2 h = some q := hf
    unfold F_X6_outOfOrder_4_b at hf
    have K0 := K.1
    have c8 : c ≤ 8 := by omega
    have p8 : 2 ^ c ≤ 256 := Nat.pow_le_pow_right (show 0 < 2 by decide) c8
    have hW0 : W 0 = nI c := nI_k (by omega)
    subst h1 h2
    obtain ⟨v7, e7, hf⟩ := jbind hf
    have e7 := oc_gI e7
    rw [R.2.1.1] at e7
    subst e7
    rcases jite hf with ⟨d, hf⟩ | ⟨d, hf⟩
    · rw [hW0, Int32.le_iff_toInt_le, shl_c (by omega), nI_toInt (by omega)] at d
      obtain ⟨v38, e38, hf⟩ := jbind hf
      have e38 := oc_gI e38
      rw [R.2.1.1] at e38
      subst e38
      cases hf
      exact ⟨b, rfl, mo_end (by omega)⟩
    · rw [hW0, Int32.le_iff_toInt_le, shl_c (by omega), nI_toInt (by omega)] at d
      have ht2 : t < 2 ^ c := by omega
      obtain ⟨v16, e16, hf⟩ := jbind hf
      obtain ⟨a1, a2⟩ := E_X6_isInOrder (u := 0) R K e16
      rw [show (W 0).toInt.toNat = c by omega, io_mo K hc ht2] at a2
      rcases jite hf with ⟨z, hf⟩ | ⟨z, hf⟩
      · rw [nI_1] at hf
        obtain ⟨M, m1, m2⟩ := E_X6_outOfOrder_4 K hc k (t + 1) b R rfl rfl (by omega) hb hf
        exact ⟨M, m1, mo_n (fun y => by have := a2.mpr y; rw [z] at this; exact absurd this (by decide)) m2⟩
      · obtain ⟨v24, e24, hf⟩ := jbind hf
        have b1 := bc_pc (by omega) e24
        subst b1
        have p9 := pcN_8 t
        rw [nI_1, nI_mx (by omega) (by omega)] at hf
        obtain ⟨M, m1, m2⟩ := E_X6_outOfOrder_4 K hc k (t + 1) (if b < pcN t then pcN t else b) R rfl rfl (by omega) (by split <;> omega) hf
        exact ⟨M, m1, mo_y ht2 (a2.mp (a1.resolve_left z)) m2⟩
def puF (f : Nat → Nat) (i v j : Nat) : Nat := if j = i then v else f j
theorem puF_y {f : Nat → Nat} {i v : Nat} : puF f i v i = v := if_pos rfl
theorem puF_n {f : Nat → Nat} {i v j : Nat} (h : ¬ j = i) : puF f i v j = f j := if_neg h
/-- what the reference's row of lengths holds -/
def lnsC (O : jO) (a0 : Nat) (f : Nat → Nat) (i : Nat) : Prop := ∀ j, j < i → oi O (a0 + 11) j = nI (f j)
theorem E_X12_order_26 {n a0 i c : Nat} {W : jWd} {f : Nat → Nat} {rc9 : Nat → Int32 → Int32 → jH → Option (Int32 × jH)} (K : wOK W) (hc : (c : Int) = (W 0).toInt) (hi : i < c) (fs : ∀ j, j < i → fiS (fun j => (W (15 + 8 * j)).toInt) j (f j)) : ∀ (k : Nat) {x1 x2 x3 : Int32} {h : jH} {q : Int32 × jH} (j v : Nat) (M : mS (oc h) a0) (hW : wl (oc h) a0 = W) (h2 : x2 = nI i) (h3 : x3 = nI j) (hj : j ≤ i) (fc : lnsC (oc h) a0 f i) (cv : oi (oc h) (a0 + 11) i = nI v) (vs : vaS (fun j => (W (15 + 8 * j)).toInt) i j v), F_X12_order_26 n rc9 k a0 x1 x2 x3 h = some q → ∃ (h2 : jH) (v2 : Nat), mS (oc h2) a0 ∧ wl (oc h2) a0 = W ∧ lnsC (oc h2) a0 f i ∧ oi (oc h2) (a0 + 11) i = nI v2 ∧ vaS (fun j => (W (15 + 8 * j)).toInt) i i v2 ∧ rc9 a0 (if x1 < nI v2 then nI v2 else x1) (x2 + (1 : Int32)) h2 = some q
  | 0, x1, x2, x3, h, q, j, v, M, hW, h2, h3, hj, fc, cv, vs, hf => by cases hf
  | k + 1, x1, x2, x3, h, q, j, v, M, hW, h2, h3, hj, fc, cv, vs, hf => by
    replace hf : F_X12_order_26_b n rc9 (F_X12_order_26 n rc9 k) a0 x1 x2 x3 h = some q := hf
    unfold F_X12_order_26_b at hf
    have K0 := K.1
    have s21 : oc h a0 21 = .ref (a0 + 11) := M.2.2.2.2.2.2.2.2.2.2
    rcases jite hf with ⟨d, hf⟩ | ⟨d, hf⟩
    · rw [h2, h3, Int32.le_iff_toInt_le, nI_toInt (by omega), nI_toInt (by omega)] at d
      obtain rfl : j = i := by omega
      obtain ⟨p86, e86, hf⟩ := jbind hf
      have e86 := oc_gR e86
      rw [s21] at e86
      cases e86
      obtain ⟨v90, e90, hf⟩ := jbind hf
      have e90 := (oc_al e90).1
      rw [h2, nI_cl (by omega), cv] at e90
      subst e90
      exact ⟨h, v, M, hW, fc, cv, vs, hf⟩
    · rw [h2, h3, Int32.le_iff_toInt_le, nI_toInt (by omega), nI_toInt (by omega)] at d
      have ji : j < i := by omega
      obtain ⟨p32, e32, hf⟩ := jbind hf
      have e32 := oc_gR e32
      rw [s21] at e32
      cases e32
      obtain ⟨v39, e39, hf⟩ := jbind hf
      have w39 := E_X12_of (i := j) (j := 4) (t := 15 + 8 * j) M h3 rfl (by omega) (by omega) (jcv_o e39).2
      rw [hW] at w39
      obtain ⟨v45, e45, hf⟩ := jbind hf
      have w45 := E_X12_of (i := i) (j := 4) (t := 15 + 8 * i) M h2 rfl (by omega) (by omega) (jcv_o e45).2
      rw [hW] at w45
      have fr : ∀ (g : jH) (y : Int32), oc g = u2 (oc h) (a0 + 11) i (.int y) → mS (oc g) a0 ∧ wl (oc g) a0 = W ∧ lnsC (oc g) a0 f i ∧ oi (oc g) (a0 + 11) i = y := fun g y o => by
        have fr1 : frM a0 [11] [] (oc h) (oc g) := by rw [o]; exact frM_c (by decide)
        refine ⟨mS_fr M fr1 (by decide) (by decide), (wl_f fr1 (by decide)).trans hW, fun s hs => ?_, by rw [o]; exact oi_eq⟩
        rw [o, oi_ne (Or.inr (by omega))]
        exact fc s hs
      rcases jite hf with ⟨z, hf⟩ | ⟨z, hf⟩
      · rw [w39, w45, Int32.lt_iff_toInt_lt] at z
        obtain ⟨p72, e72, hf⟩ := jbind hf
        have e72 := oc_gR e72
        rw [s21] at e72
        cases e72
        obtain ⟨v76, e76, hf⟩ := jbind hf
        have e76 := (oc_al e76).1
        rw [h2, nI_cl (by omega), cv] at e76
        subst e76
        obtain ⟨h77, e77, hf⟩ := jbind hf
        obtain ⟨o77, -, -⟩ := oc_as e77
        rw [jnar0, h2, nI_cl (by omega)] at o77
        obtain ⟨M7, W7, f7, c7⟩ := fr h77 _ o77
        rw [h3, nI_1] at hf
        exact E_X12_order_26 K hc hi fs k (j + 1) v M7 W7 h2 rfl (by omega) f7 c7 (vas_n ji (show ¬ (W (15 + 8 * j)).toInt ≤ (W (15 + 8 * i)).toInt by omega) vs) hf
      · rw [w39, w45, Int32.lt_iff_toInt_lt] at z
        obtain ⟨p52, e52, hf⟩ := jbind hf
        have e52 := oc_gR e52
        rw [s21] at e52
        cases e52
        obtain ⟨v56, e56, hf⟩ := jbind hf
        have e56 := (oc_al e56).1
        rw [h2, nI_cl (by omega), cv] at e56
        subst e56
        obtain ⟨p58, e58, hf⟩ := jbind hf
        have e58 := oc_gR e58
        rw [s21] at e58
        cases e58
        obtain ⟨v62, e62, hf⟩ := jbind hf
        have e62 := (oc_al e62).1
        rw [h3, nI_cl (by omega), fc j ji] at e62
        subst e62
        have f8 := fi_8 (fs j ji)
        have v9 := vas_9 vs
        obtain ⟨h77, e77, hf⟩ := jbind hf
        obtain ⟨o77, -, -⟩ := oc_as e77
        rw [jnar0, h2, nI_cl (by omega), nI_1, nI_mx (by omega) (by omega)] at o77
        obtain ⟨M7, W7, f7, c7⟩ := fr h77 _ o77
        rw [h3, nI_1] at hf
        exact E_X12_order_26 K hc hi fs k (j + 1) _ M7 W7 h2 rfl (by omega) f7 c7 (vas_s ji (show (W (15 + 8 * j)).toInt ≤ (W (15 + 8 * i)).toInt by omega) (fs j ji) vs) hf
theorem E_X12_order_9 {n a0 c : Nat} {W : jWd} (K : wOK W) (hc : (c : Int) = (W 0).toInt) : ∀ (k : Nat) {x1 x2 : Int32} {h : jH} {q : Int32 × jH} (i b : Nat) (f : Nat → Nat) (M : mS (oc h) a0) (hW : wl (oc h) a0 = W) (h1 : x1 = nI b) (h2 : x2 = nI i) (hi : i ≤ c) (fc : lnsC (oc h) a0 f i) (fs : ∀ j, j < i → fiS (fun j => (W (15 + 8 * j)).toInt) j (f j)) (os : ovS f i b) (hb : b ≤ 8), F_X12_order_9 n k a0 x1 x2 h = some q → ∃ (L : Nat) (g : Nat → Nat), q.1 = W 0 - nI L ∧ (∀ j, j < c → fiS (fun j => (W (15 + 8 * j)).toInt) j (g j)) ∧ ovS g c L
  | 0, x1, x2, h, q, i, b, f, M, hW, h1, h2, hi, fc, fs, os, hb, hf => by cases hf
  | k + 1, x1, x2, h, q, i, b, f, M, hW, h1, h2, hi, fc, fs, os, hb, hf => by
    replace hf : F_X12_order_9_b n (F_X12_order_9 n k) a0 x1 x2 h = some q := hf
    unfold F_X12_order_9_b at hf
    have K0 := K.1
    have s21 : oc h a0 21 = .ref (a0 + 11) := M.2.2.2.2.2.2.2.2.2.2
    obtain ⟨v11, e11, hf⟩ := jbind hf
    have w11 := E_X12_rings M (jcv_o e11).2
    rw [hW] at w11
    subst w11
    rcases jite hf with ⟨d, hf⟩ | ⟨d, hf⟩
    · rw [h2, nI_eI (by omega)] at d
      obtain ⟨v102, e102, hf⟩ := jbind hf
      have w102 := E_X12_rings M (jcv_o e102).2
      rw [hW] at w102
      subst w102
      cases hf
      obtain rfl : i = c := by omega
      rw [h1]
      exact ⟨b, f, rfl, fs, os⟩
    · rw [h2, nI_eI (by omega)] at d
      have ic : i < c := by omega
      obtain ⟨p18, e18, hf⟩ := jbind hf
      have e18 := oc_gR e18
      rw [s21] at e18
      cases e18
      obtain ⟨h23, e23, hf⟩ := jbind hf
      obtain ⟨o23, -, -⟩ := oc_as e23
      rw [jnar0, h2, nI_cl (by omega)] at o23
      have fr1 : frM a0 [11] [] (oc h) (oc h23) := by rw [o23]; exact frM_c (by decide)
      have fc3 : lnsC (oc h23) a0 f i := fun s hs => by
        rw [o23, oi_ne (Or.inr (by omega))]
        exact fc s hs
      obtain ⟨h4, v2, M4, W4, f4, c4, vs, hf⟩ := E_X12_order_26 K hc ic fs n 0 1 (mS_fr M fr1 (by decide) (by decide)) ((wl_f fr1 (by decide)).trans hW) h2 rfl (Nat.zero_le _) fc3 (by rw [o23]; exact oi_eq) vas_0 hf
      have fi := vas_f (by omega) vs
      have f8 := fi_8 fi
      rw [h1, h2, nI_1, nI_mx (by omega) (by omega)] at hf
      refine E_X12_order_9 K hc k (i + 1) (if b < v2 then v2 else b) (puF f i v2) M4 W4 rfl rfl (by omega) (fun s hs => ?_) (fun s hs => ?_) ⟨?_, fun s hs => ?_⟩ (by split <;> omega) hf
      · by_cases q : s = i
        · subst q; rw [c4, puF_y]
        · rw [puF_n q]; exact f4 s (by omega)
      · by_cases q : s = i
        · subst q; rw [puF_y]; exact fi
        · rw [puF_n q]; exact fs s (by omega)
      · refine Or.inr ?_
        by_cases q : b < v2
        · exact ⟨i, by omega, by rw [puF_y, if_pos q]⟩
        · rw [if_neg q]
          rcases os.1 with ⟨o1, o2⟩ | ⟨j, j1, j2⟩
          · refine ⟨i, by omega, ?_⟩
            rw [puF_y]
            omega
          · exact ⟨j, by omega, by rw [puF_n (by omega)]; exact j2⟩
      · by_cases q : s = i
        · subst q; rw [puF_y]; split <;> omega
        · rw [puF_n q]
          have := os.2 s (by omega)
          split <;> omega
/-! how far a ring can go where some that have caught are freed -/
def cgW (W : jWd) (c : Nat) (m : Int32) : jWd := fun k => if 18 ≤ k ∧ (k - 18) % 8 = 0 ∧ (k - 18) / 8 < c then (if bt m ((k - 18) / 8) = true then 1 else 0) else W k
theorem cgW_n {W : jWd} {c k : Nat} {m : Int32} (h : ¬ (18 ≤ k ∧ (k - 18) % 8 = 0 ∧ (k - 18) / 8 < c)) : cgW W c m k = W k := if_neg h
theorem cgW_y {W : jWd} {c i : Nat} {m : Int32} (h : i < c) : cgW W c m (18 + 8 * i) = if bt m i = true then 1 else 0 := by
  unfold cgW
  rw [if_pos (by omega), show (18 + 8 * i - 18) / 8 = i by omega]
theorem wOK_cw {W : jWd} {c : Nat} {m : Int32} (K : wOK W) (hc : (c : Int) = (W 0).toInt) (hm : ∀ i, i < c → bt m i = true → W (18 + 8 * i) = 1) : wOK (cgW W c m) := by
  have e : ∀ k, ¬ (18 ≤ k ∧ (k - 18) % 8 = 0 ∧ (k - 18) / 8 < c) → cgW W c m k = W k := fun k h => if_neg h
  have e0 := e 0 (by omega)
  obtain ⟨k0, k1, k2, k3, k4⟩ := K
  refine ⟨by rw [e0]; exact k0, fun i hi => ?_, fun i hi => ?_, fun i hi => ?_, ?_⟩
  · rw [e0] at hi
    obtain ⟨a1, a2, a3, a4, a5, a6, a7, a8⟩ := k1 i hi
    rw [e (11 + 8 * i) (by omega), e (12 + 8 * i) (by omega), e (13 + 8 * i) (by omega), e (14 + 8 * i) (by omega), e (15 + 8 * i) (by omega), e (16 + 8 * i) (by omega), e (17 + 8 * i) (by omega), cgW_y (by omega)]
    refine ⟨a1, a2, a3, a4, a5, a6, a7, ?_⟩
    by_cases q : bt m i = true
    · rw [if_pos q]; exact Or.inr rfl
    · rw [if_neg q]; exact Or.inl rfl
  · rw [e0] at hi
    rw [e (11 + 8 * i) (by omega), e (11 + 8 * (i + 1)) (by omega)]
    exact k2 i hi
  · rw [e0] at hi
    rw [cgW_y (by omega)]
    by_cases q : bt m i = true
    · have a := hm i (by omega) q
      rw [k3 i hi] at a
      exact absurd a (by decide)
    · rw [if_neg q]
  · rw [e 3 (by omega), e 4 (by omega), e 5 (by omega), e 6 (by omega), e 8 (by omega), e 9 (by omega), e 1 (by omega)]
    exact k4
/-- V is W but for what a pull moves and for who has caught -/
def dfE (W V : jWd) : Prop := ∀ k, k ≠ 8 → (k < 11 ∨ 75 ≤ k ∨ ((k - 11) % 8 ≠ 0 ∧ (k - 11) % 8 ≠ 7)) → V k = W k
theorem df_r {W : jWd} : dfE W W := fun _ _ _ => rfl
theorem df_m {W : jWd} {c r f : Nat} {d : Bool} {m : Int32} (h8 : c ≤ 7 + 1) : dfE W (plW (cgW W c m) r d f) := fun k h1 h2 => by
  have a : plW (cgW W c m) r d f k = mvO (cgW W c m) r d f k := upd_ne h1
  have b : mvO (cgW W c m) r d f k = cgW W c m k := by
    rcases h2 with h2 | h2 | h2
    · exact mvO_ot (Or.inl h2) f
    · exact mvO_hi h2 f
    · exact mvO_ot (Or.inr h2.1) f
  rw [a, b, cgW_n (by omega)]
theorem rodE_hang {O O2 : jO} {r d c : Nat} {W V : jWd} {m : Int32} (R : rodE O r W) (D : rodE O d V) (df : dfE W V) (K : wOK W) (hd : d + 6 < r ∨ r + 6 < d) (hc : (c : Int) = (W 0).toInt) (hm : ∀ i, c ≤ i → i < 32 → bt m i = false) (o : O2 = u2 (u2 (u2 (ucp O (r + 1) 0 (d + 1) 0 8) d 15 (.int (oi O r 15))) d 9 (.int (oi O r 9))) d 9 (.int m)) : rodE O2 d (cgW W c m) := by
  have K0 := K.1
  have f : ∀ a k, a ≠ d + 1 → ¬ (a = d ∧ (k = 15 ∨ k = 9)) → O2 a k = O a k := fun a k h1 h2 => by
    rw [o, u2_ne (by omega), u2_ne (by omega), u2_ne (by omega), ucp_ne h1]
  have fi : ∀ a k, a ≠ d + 1 → ¬ (a = d ∧ (k = 15 ∨ k = 9)) → oi O2 a k = oi O a k := fun a k h1 h2 => by
    unfold oi; rw [f a k h1 h2]
  have w : ∀ k, k ≠ 8 → (k < 11 ∨ 75 ≤ k ∨ ((k - 11) % 8 ≠ 0 ∧ (k - 11) % 8 ≠ 7)) → V k = cgW W c m k := fun k h1 h2 => by
    rw [df k h1 h2, cgW_n (by omega)]
  obtain ⟨-, ⟨-, -, -, -, -, -, v15, -, -⟩, RR, -, -⟩ := R
  obtain ⟨⟨s0, s1, s2, s3, s4, s5⟩, ⟨u5, u10, u11, u12, u13, u14, u15, u16, u17⟩, RB, RC, RL⟩ := D
  have e0 : V 0 = W 0 := df 0 (by omega) (by omega)
  have c0 : cgW W c m 0 = W 0 := cgW_n (by omega)
  have g : ∀ i j, j < 16 → oi O d i = V j → j ≠ 8 → j < 11 → i ≠ 15 → i ≠ 9 → oi O2 d i = cgW W c m j := fun i j _ h h8 h11 h15 h9 => by
    rw [fi d i (by omega) (by omega), h]; exact w j h8 (by omega)
  refine ⟨⟨(f _ _ (by omega) (by omega)).trans s0, (f _ _ (by omega) (by omega)).trans s1, (f _ _ (by omega) (by omega)).trans s2, (f _ _ (by omega) (by omega)).trans s3, (f _ _ (by omega) (by omega)).trans s4, (f _ _ (by omega) (by omega)).trans s5⟩, ⟨g 5 0 (by omega) u5 (by omega) (by omega) (by omega) (by omega), g 10 7 (by omega) u10 (by omega) (by omega) (by omega) (by omega), g 11 5 (by omega) u11 (by omega) (by omega) (by omega) (by omega), g 12 6 (by omega) u12 (by omega) (by omega) (by omega) (by omega), g 13 3 (by omega) u13 (by omega) (by omega) (by omega) (by omega), g 14 4 (by omega) u14 (by omega) (by omega) (by omega) (by omega), ?_, g 16 10 (by omega) u16 (by omega) (by omega) (by omega) (by omega), g 17 1 (by omega) u17 (by omega) (by omega) (by omega) (by omega)⟩, fun i hi => ?_, fun i h1 h2 => ?_, ?_⟩
  · rw [cgW_n (by omega), ← v15, o, oi_ne (by omega), oi_ne (by omega), oi_eq]
  · rw [c0] at hi
    obtain ⟨b1, b2, b3, b4, b5, b6, b7, -⟩ := RB i (by rw [e0]; exact hi)
    refine ⟨?_, ?_, ?_, ?_, ?_, ?_, ?_, ?_⟩
    · rw [cgW_n (by omega), ← (RR i hi).1, o, oi_ne (by omega), oi_ne (by omega), oi_ne (by omega), ucp_in (by omega)]
    · rw [fi _ _ (by omega) (by omega), b2]; exact w _ (by omega) (by omega)
    · rw [fi _ _ (by omega) (by omega), ← w (13 + 8 * i) (by omega) (by omega)]; exact b3
    · rw [fi _ _ (by omega) (by omega), ← w (14 + 8 * i) (by omega) (by omega)]; exact b4
    · rw [fi _ _ (by omega) (by omega), b5]; exact w _ (by omega) (by omega)
    · rw [fi _ _ (by omega) (by omega), b6]; exact w _ (by omega) (by omega)
    · rw [fi _ _ (by omega) (by omega), ← w (17 + 8 * i) (by omega) (by omega)]; exact b7
    · rw [cgW_y (by omega), o, oi_eq]
      by_cases q : bt m i = true
      · rw [if_pos q]; exact ⟨fun _ => rfl, fun _ => q⟩
      · rw [if_neg q]; exact ⟨fun z => absurd z q, fun z => absurd z (by decide)⟩
  · rw [c0] at h1
    refine ⟨?_, ?_⟩
    · rw [fi _ _ (by omega) (by omega)]; exact (RC i (by rw [e0]; exact h1) h2).1
    · rw [o, oi_eq]; exact hm i (by omega) h2
  · exact logE_cg RL (fun k => fi _ _ (by omega) (by omega)) (fun k => fi _ _ (by omega) (by omega)) (fun k hk => (w k (by omega) (by omega)).symm)
theorem E_X7_farWith {n a0 r d N c i : Nat} {W V : jWd} {dd : Bool} {m x3 x4 x5 : Int32} {h : jH} {q : Int32 × jH} (R : rodE (oc h) r W) (D : rodE (oc h) d V) (df : dfE W V) (K : wOK W) (hd : d + 6 < r ∨ r + 6 < d) (ha : a0 < d ∨ d + 6 < a0) (sr : oc h a0 1 = .ref d) (hc : (c : Int) = (W 0).toInt) (hm1 : ∀ i, i < c → bt m i = true → W (18 + 8 * i) = 1) (hm2 : ∀ i, c ≤ i → i < 32 → bt m i = false) (hi : x3 = nI i) (hi2 : (i : Int) < (W 0).toInt) (hs : x4 = dI dd) (hN : x5 = nI N) (N5 : N < 500) (hf : F_X7_farWith n a0 r m x3 x4 x5 h = some q) : ∃ f, f ≤ N ∧ q.1 = nI f ∧ rodE (oc q.2) d (plW (cgW W c m) i dd f) ∧ frR d (oc h) (oc q.2) ∧ (∀ s, s < f → gv (mvO (cgW W c m) i dd s) i dd ≠ 0) ∧ (f = N ∨ gv (mvO (cgW W c m) i dd f) i dd = 0) := by
  unfold F_X7_farWith at hf
  obtain ⟨p1, e1, hf⟩ := jbind hf
  have t1 := oc_gR e1
  rw [sr] at t1
  cases t1
  obtain ⟨h5, e5, hf⟩ := jbind hf
  obtain ⟨o5, -⟩ := E_X8_hangAs (d := d) (r := r) rfl rfl hd D.1.1 R.1.1 (jcv_o e5).2
  have f5 : frR d (oc h) (oc h5) := by
    rw [o5]
    exact frR_tr (frR_tr (fun b k q => ucp_ne (by omega)) (frR_u2 (by omega))) (frR_u2 (by omega))
  obtain ⟨p9, e9, hf⟩ := jbind hf
  have t9 := oc_gR e9
  rw [f5 _ _ (by omega), sr] at t9
  cases t9
  obtain ⟨h13, e13, hf⟩ := jbind hf
  obtain ⟨o13, -⟩ := oc_pf e13
  have f13 : frR d (oc h5) (oc h13) := by rw [o13]; exact frR_u2 (by omega)
  have D13 : rodE (oc h13) d (cgW W c m) := rodE_hang R D df K hd hc hm2 (by rw [o13, o5])
  obtain ⟨p17, e17, hf⟩ := jbind hf
  have t17 := oc_gR e17
  rw [f13 _ _ (by omega), f5 _ _ (by omega), sr] at t17
  cases t17
  obtain ⟨q25, e25, hf⟩ := jbind hf
  cases hf
  have c0 : cgW W c m 0 = W 0 := cgW_n (by omega)
  obtain ⟨f, f1, f2, f3, -, f5b, -, f7, f8⟩ := E_X8_move D13 (wOK_cw K hc hm1) (by rw [c0]; exact hi2) N5 hi hs hN (jcv_o e25).2
  exact ⟨f, f1, f2, f3, frR_tr (frR_tr f5 f13) f5b, f7, f8⟩
theorem cgW_0 {W : jWd} {m : Int32} : cgW W 0 m = W := by
  funext k
  exact cgW_n (by omega)
theorem cgW_s {W : jWd} {t : Nat} {m x : Int32} (hx : x = if bt m t = true then 1 else 0) : upd (cgW W t m) (18 + 8 * t) x = cgW W (t + 1) m := by
  funext k
  by_cases q : k = 18 + 8 * t
  · subst q
    rw [upd_eq, cgW_y (by omega), hx]
  · rw [upd_ne q]
    unfold cgW
    by_cases z : 18 ≤ k ∧ (k - 18) % 8 = 0 ∧ (k - 18) / 8 < t
    · rw [if_pos z, if_pos (show 18 ≤ k ∧ (k - 18) % 8 = 0 ∧ (k - 18) / 8 < t + 1 by omega)]
    · rw [if_neg z, if_neg (show ¬ (18 ≤ k ∧ (k - 18) % 8 = 0 ∧ (k - 18) / 8 < t + 1) by omega)]
theorem E_X12_areCaught_2 {n a0 c : Nat} {W : jWd} {m : Int32} (K : wOK W) (hc : (c : Int) = (W 0).toInt) : ∀ (k : Nat) {x2 : Int32} {h q : jH} (t : Nat) (M : mS (oc h) a0) (hW : wl (oc h) a0 = cgW W t m) (h2 : x2 = nI t) (ht : t ≤ c), F_X12_areCaught_2 n k a0 m x2 h = some q → wl (oc q) a0 = cgW W c m ∧ frM a0 [1] [] (oc h) (oc q)
  | 0, x2, h, q, t, M, hW, h2, ht, hf => by cases hf
  | k + 1, x2, h, q, t, M, hW, h2, ht, hf => by
    replace hf : F_X12_areCaught_2_b n (F_X12_areCaught_2 n k) a0 m x2 h = some q := hf
    unfold F_X12_areCaught_2_b at hf
    have K0 := K.1
    obtain ⟨v4, e4, hf⟩ := jbind hf
    have w4 := E_X12_rings M (jcv_o e4).2
    rw [hW, cgW_n (by omega)] at w4
    subst w4
    rcases jite hf with ⟨d, hf⟩ | ⟨d, hf⟩
    · rw [h2, nI_eI (by omega)] at d
      cases hf
      obtain rfl : t = c := by omega
      exact ⟨hW, frM_rfl⟩
    · rw [h2, nI_eI (by omega)] at d
      obtain ⟨p11, e11, hf⟩ := jbind hf
      have t11 := oc_gR e11
      rw [M.1] at t11
      cases t11
      obtain ⟨v17, e17, hf⟩ := jbind hf
      have w17 := E_X12_at (i := t) (j := 7) (t := 18 + 8 * t) h2 rfl (by omega) e17
      subst w17
      obtain ⟨v22, e22, hf⟩ := jbind hf
      have w22 := E_X12_has h2 (by omega) e22
      have go : ∀ (g : jH) (x : Int32), x = (if bt m t = true then 1 else 0) → jas 0 h (a0 + 1) (nI (18 + 8 * t)) x = some g → F_X12_areCaught_2 n k a0 m (x2 + (1 : Int32)) g = some q → wl (oc q) a0 = cgW W c m ∧ frM a0 [1] [] (oc h) (oc q) := fun g x hx e hf => by
        obtain ⟨o, -, -⟩ := oc_as e
        rw [jnar0, nI_cl (by omega)] at o
        have fr : frM a0 [1] [] (oc h) (oc g) := by rw [o]; exact frM_c (by decide)
        rw [h2, nI_1] at hf
        obtain ⟨a, b⟩ := E_X12_areCaught_2 K hc k (t + 1) (mS_fr M fr (by decide) (by decide)) (by rw [o, wl_w, hW]; exact cgW_s hx) rfl (by omega) hf
        exact ⟨a, frM_tr fr b⟩
      rcases jite hf with ⟨z, hf⟩ | ⟨z, hf⟩
      · obtain ⟨h33, e33, hf⟩ := jbind hf
        exact go h33 0 (by rw [if_neg (fun y => by have := w22.2.mpr y; rw [z] at this; exact absurd this (by decide))]) e33 hf
      · obtain ⟨h33, e33, hf⟩ := jbind hf
        exact go h33 1 (by rw [if_pos (w22.2.mp (w22.1.resolve_left z))]) e33 hf
theorem E_X12_wentWith {n a0 N c i : Nat} {W : jWd} {dd : Bool} {m x3 x4 x5 : Int32} {h : jH} {q : Int32 × jH} (M : mS (oc h) a0) (hW : wl (oc h) a0 = W) (K : wOK W) (hc : (c : Int) = (W 0).toInt) (hm1 : ∀ i, i < c → bt m i = true → W (18 + 8 * i) = 1) (hi : x3 = nI i) (hi2 : (i : Int) < (W 0).toInt) (hs : x4 = dI dd) (hN : x5 = nI N) (N5 : N < 500) (hf : F_X12_wentWith n a0 m x3 x4 x5 h = some q) : ∃ f, f ≤ N ∧ q.1 = nI f ∧ wl (oc q.2) a0 = W ∧ frM a0 [1, 4] [18] (oc h) (oc q.2) ∧ (∀ s, s < f → gv (mvO (cgW W c m) i dd s) i dd ≠ 0) ∧ (f = N ∨ gv (mvO (cgW W c m) i dd f) i dd = 0) := by
  have K0 := K.1
  unfold F_X12_wentWith at hf
  obtain ⟨h1, e1, hf⟩ := jbind hf
  have f1 := FQ_X12_keepsAll M (jcv_o e1).2
  have k1 := E_kA M hW (jcv_o e1).2
  have M1 := mS_fr M f1 (by decide) (by decide)
  have w1 : wl (oc h1) a0 = W := (wl_f f1 (by decide)).trans hW
  obtain ⟨h6, e6, hf⟩ := jbind hf
  have e6 := (jcv_o e6).2
  unfold F_X12_areCaught at e6
  obtain ⟨w6, f6⟩ := E_X12_areCaught_2 K hc n 0 M1 (by rw [cgW_0]; exact w1) rfl (Nat.zero_le _) e6
  have M6 := mS_fr M1 f6 (by decide) (by decide)
  obtain ⟨q14, e14, hf⟩ := jbind hf
  have c0 : cgW W c m 0 = W 0 := cgW_n (by omega)
  obtain ⟨f, g1, g2, g3, g4, -, g7, g8⟩ := E_X12_pulls M6 w6 (wOK_cw K hc hm1) (by rw [c0]; exact hi2) N5 hi hs hN (jcv_o e14).2
  have M14 := mS_fr M6 g4 (by decide) (by decide)
  obtain ⟨h20, e20, hf⟩ := jbind hf
  cases hf
  have f20 := FQ_X12_bringsBack M14 (jcv_o e20).2
  have lo : ∀ j, j < 435 → oi (oc q14.2) (a0 + 4) j = W j := fun j hj =>
    ((oi_M g4 (fun c h => by simp at h; omega) (fun z => absurd z (by omega))).trans (oi_M f6 (fun c h => by simp at h; omega) (fun z => absurd z (by omega)))).trans (k1 j hj)
  have hi9 : ∀ j, 435 ≤ j → oi (oc q14.2) (a0 + 1) j = W j := fun j hj => by
    have a := congrFun g3 j
    have b : plW (cgW W c m) i dd f j = W j := df_m (c := c) (by omega) j (by omega) (by omega)
    exact a.trans b
  have w20 := E_bB M14 lo hi9 (jcv_o e20).2
  refine ⟨f, g1, g2, w20, ?_, g7, g8⟩
  exact frM_tr (frM_tr (frM_tr (frM_le f1 (fun c h => by simp at h ⊢; omega) (fun c h => by cases h)) (frM_le f6 (fun c h => by simp at h ⊢; omega) (fun c h => by cases h))) (frM_le g4 (fun c h => by simp at h ⊢; omega) (fun c h => by simpa using h))) (frM_le f20 (fun c h => by simp at h ⊢; omega) (fun c h => by cases h))
theorem sub_ne {s t : Nat} (h : s < t) (ht : t < 128) : ¬ (nI t &&& (nI s ^^^ (-1 : Int32))) = 0 := by
  have a : ∀ t, t < 128 → ∀ s, s < t → ¬ (nI t &&& (nI s ^^^ (-1 : Int32))) = 0 := by decide +kernel
  exact a t ht s h
theorem lo_tail {n a0 r s : Nat} : ∀ (k : Nat) {x2 x3 x4 x5 x6 : Int32} {h : jH} {q : Int32 × jH} (t : Nat) (h9 : oi (oc h) r 9 = nI s) (h6 : x6 = nI t) (hs : s < t) (ht : t ≤ 128), F_X7_fewestFreed_14 n k a0 r x2 x3 x4 x5 x6 h = some q → q.1 = x5
  | 0, x2, x3, x4, x5, x6, h, q, t, h9, h6, hs, ht, hf => by cases hf
  | k + 1, x2, x3, x4, x5, x6, h, q, t, h9, h6, hs, ht, hf => by
    replace hf : F_X7_fewestFreed_14_b n (F_X7_fewestFreed_14 n k) a0 r x2 x3 x4 x5 x6 h = some q := hf
    unfold F_X7_fewestFreed_14_b at hf
    have l128 : (128 : Int32).toInt = 128 := rfl
    rcases jite hf with ⟨c, hf⟩ | ⟨c, hf⟩
    · cases hf; rfl
    · rw [h6, Int32.le_iff_toInt_le, nI_toInt (by omega), l128] at c
      have go : ∀ s0, F_X7_fewestFreed_46 n (F_X7_fewestFreed_14 n k) a0 r x2 x3 x4 x5 x6 s0 h = some q → q.1 = x5 := fun s0 hf => by
        unfold F_X7_fewestFreed_46 at hf
        obtain ⟨v51, e51, hf⟩ := jbind hf
        have e51 := oc_gI e51
        rw [h9] at e51
        subst e51
        rcases jite hf with ⟨z, -⟩ | ⟨-, hf⟩
        · rw [h6] at z
          exact absurd z (sub_ne hs (by omega))
        · rw [h6, nI_1] at hf
          exact lo_tail k (t + 1) h9 rfl (by omega) (by omega) hf
      rcases jite hf with ⟨-, hf⟩ | ⟨-, hf⟩
      · exact go _ hf
      · obtain ⟨v30, e30, hf⟩ := jbind hf
        obtain ⟨v35, e35, hf⟩ := jbind hf
        rcases jite hf with ⟨-, hf⟩ | ⟨-, hf⟩
        · exact go _ hf
        · exact go _ hf
theorem lo_eq {n a0 r d m c i N s : Nat} {W : jWd} {dd : Bool} {x2 x3 x4 : Int32} (K : wOK W) (hd : d + 6 < r ∨ r + 6 < d) (ha : a0 < d ∨ d + 6 < a0) (hc : (c : Int) = (W 0).toInt) (hm1 : ∀ i, i < c → bt (nI s) i = true → W (18 + 8 * i) = 1) (hm2 : ∀ i, c ≤ i → i < 32 → bt (nI s) i = false) (s128 : s < 128) (hi : x2 = nI i) (hi2 : (i : Int) < (W 0).toInt) (hs : x3 = dI dd) (hN : x4 = nI N) (N5 : N < 500) : ∀ (k kk : Nat) {x5 x6 y6 y7 : Int32} {h h1 : jH} {q p : Int32 × jH} (V : jWd) (t : Nat) (R : rodE (oc h) r W) (D : rodE (oc h) d V) (df : dfE W V) (sr : oc h a0 1 = .ref d) (h9 : oi (oc h) r 9 = nI s) (M : mS (oc h1) m) (hW : wl (oc h1) m = W) (T : oi (oc h1) m 0 = 0) (h6 : x6 = nI t) (h7 : y7 = nI t) (ht : t ≤ s + 1) (h5 : (x5 = -1 ∧ y6 = 1000000) ∨ ∃ b, b < 128 ∧ x5 = nI b ∧ y6 = nI (pcN b)), F_X7_fewestFreed_14 n k a0 r x2 x3 x4 x5 x6 h = some q → F_X12_loosen_51 n kk m x2 x3 x4 (nI s) x5 y6 y7 h1 = some p → q.1 = p.1 ∧ oi (oc p.2) m 0 = 0
  | 0, _, x5, x6, y6, y7, h, h1, q, p, V, t, R, D, df, sr, h9, M, hW, T, h6, h7, ht, h5, e1, e2 => by cases e1
  | _ + 1, 0, x5, x6, y6, y7, h, h1, q, p, V, t, R, D, df, sr, h9, M, hW, T, h6, h7, ht, h5, e1, e2 => by cases e2
  | k + 1, kk + 1, x5, x6, y6, y7, h, h1, q, p, V, t, R, D, df, sr, h9, M, hW, T, h6, h7, ht, h5, e1, e2 => by
    by_cases ts : t = s + 1
    · have a := lo_tail (k + 1) t h9 h6 (by omega) (by omega) e1
      replace e2 : F_X12_loosen_51_b n (F_X12_loosen_51 n kk) m x2 x3 x4 (nI s) x5 y6 y7 h1 = some p := e2
      unfold F_X12_loosen_51_b at e2
      rw [if_pos (by rw [h7, Int32.lt_iff_toInt_lt, nI_toInt (by omega), nI_toInt (by omega)]; omega)] at e2
      cases e2
      exact ⟨a, T⟩
    replace e1 : F_X7_fewestFreed_14_b n (F_X7_fewestFreed_14 n k) a0 r x2 x3 x4 x5 x6 h = some q := e1
    replace e2 : F_X12_loosen_51_b n (F_X12_loosen_51 n kk) m x2 x3 x4 (nI s) x5 y6 y7 h1 = some p := e2
    unfold F_X7_fewestFreed_14_b at e1
    unfold F_X12_loosen_51_b at e2
    have l128 : (128 : Int32).toInt = 128 := rfl
    have lM : (1000000 : Int32).toInt = 1000000 := rfl
    subst h6 h7
    have p9 := pcN_8 t
    rw [if_neg (by rw [Int32.le_iff_toInt_le, nI_toInt (by omega), l128]; omega)] at e1
    rw [if_neg (by rw [Int32.lt_iff_toInt_lt, nI_toInt (by omega), nI_toInt (by omega)]; omega)] at e2
    have e3 : ∃ s0 : Int32, ((s0 = 0 ∧ y6 ≤ nI (pcN t)) ∨ (s0 = 1 ∧ ¬ y6 ≤ nI (pcN t))) ∧ F_X7_fewestFreed_46 n (F_X7_fewestFreed_14 n k) a0 r x2 x3 x4 x5 (nI t) s0 h = some q := by
      rcases h5 with ⟨b1, b2⟩ | ⟨b, b0, b1, b2⟩
      · rw [if_pos b1] at e1
        exact ⟨1, Or.inr ⟨rfl, by rw [b2, Int32.le_iff_toInt_le, nI_toInt (by omega), lM]; omega⟩, e1⟩
      · rw [if_neg (fun y => by
          have := congrArg Int32.toInt y
          rw [b1, nI_toInt (by omega)] at this
          have lm : (-1 : Int32).toInt = -1 := rfl
          omega)] at e1
        obtain ⟨v30, e30, e1⟩ := jbind e1
        have w30 := bc_pc (by omega) e30
        obtain ⟨v35, e35, e1⟩ := jbind e1
        rw [b1] at e35
        have w35 := bc_pc (by omega) e35
        rw [w30, w35] at e1
        rcases jite e1 with ⟨z, e1⟩ | ⟨z, e1⟩
        · exact ⟨0, Or.inl ⟨rfl, by rw [b2]; exact z⟩, e1⟩
        · exact ⟨1, Or.inr ⟨rfl, by rw [b2]; exact z⟩, e1⟩
    obtain ⟨s0, hs0, e1⟩ := e3
    unfold F_X7_fewestFreed_46 at e1
    obtain ⟨v51, e51, e1⟩ := jbind e1
    have e51 := oc_gI e51
    rw [h9] at e51
    subst e51
    rcases jite e2 with ⟨z, e2⟩ | ⟨z, e2⟩
    · rw [if_pos z] at e1
      obtain ⟨v70, e70, e2⟩ := jbind e2
      have w70 := bc_pc (by omega) e70
      subst w70
      rcases hs0 with ⟨y0, y1⟩ | ⟨y0, y1⟩
      · rw [if_pos y0, nI_1] at e1
        rw [if_pos y1, nI_1] at e2
        exact lo_eq K hd ha hc hm1 hm2 s128 hi hi2 hs hN N5 k kk V (t + 1) R D df sr h9 M hW T rfl rfl (by omega) h5 e1 e2
      · rw [if_neg (by rw [y0]; decide)] at e1
        rw [if_neg y1] at e2
        obtain ⟨v68, e68, e1⟩ := jbind e1
        have e68 := oc_gI e68
        rw [h9] at e68
        subst e68
        obtain ⟨q80, e80, e1⟩ := jbind e1
        have bm : ∀ i, bt (nI s &&& (nI t ^^^ (-1 : Int32))) i = true → bt (nI s) i = true := fun i h => by
          rw [b_and] at h
          exact (Bool.and_eq_true_iff.mp h).1
        have hn2 : ∀ i, c ≤ i → i < 32 → bt (nI s &&& (nI t ^^^ (-1 : Int32))) i = false := fun i h1 h2 => by
          rw [b_and, hm2 i h1 h2]; rfl
        obtain ⟨f, f1, f2, f3, f4, f7, f8⟩ := E_X7_farWith R D df K hd ha sr hc (fun i h b => hm1 i h (bm i b)) hn2 hi hi2 hs hN N5 (jcv_o e80).2
        obtain ⟨q89, e89, e2⟩ := jbind e2
        obtain ⟨g, g1, g2, g3, g4, g7, g8⟩ := E_X12_wentWith M hW K hc (fun i h b => hm1 i h (bm i b)) hi hi2 hs hN N5 (jcv_o e89).2
        have fg : f = g := far_u f1 f7 f8 g1 g7 g8
        subst fg
        have K0 := K.1
        have R2 : rodE (oc q80.2) r W := rodE_fr R (fun a k h1 h2 => f4 a k (by omega))
        have df2 := df_m (W := W) (c := c) (r := i) (f := f) (d := dd) (m := nI s &&& (nI t ^^^ (-1 : Int32))) (by omega)
        have sr2 : oc q80.2 a0 1 = .ref d := (f4 _ _ ha).trans sr
        have h92 : oi (oc q80.2) r 9 = nI s := by
          have : oi (oc q80.2) r 9 = oi (oc h) r 9 := by unfold oi; rw [f4 _ _ (by omega)]
          rw [this]; exact h9
        have M2 := mS_fr M g4 (by decide) (by decide)
        have T2 : oi (oc q89.2) m 0 = 0 := tz_fr g4 (by decide) (by decide) T
        by_cases fN : f = N
        · rw [if_pos (by rw [f2, hN, fN]), nI_1] at e1
          rw [if_pos (by rw [g2, hN, fN]; exact Int32.le_iff_toInt_le.mpr (Int.le_refl _))] at e2
          obtain ⟨v105, e105, e2⟩ := jbind e2
          have w105 := bc_pc (by omega) e105
          subst w105
          rw [nI_1] at e2
          exact lo_eq K hd ha hc hm1 hm2 s128 hi hi2 hs hN N5 k kk _ (t + 1) R2 f3 df2 sr2 h92 M2 g3 T2 rfl rfl (by omega) (Or.inr ⟨t, by omega, rfl, rfl⟩) e1 e2
        · rw [if_neg (fun y => by
            rw [f2, hN] at y
            have := congrArg Int32.toInt y
            rw [nI_toInt (by omega), nI_toInt (by omega)] at this
            omega), nI_1] at e1
          rw [if_neg (by rw [g2, hN, Int32.le_iff_toInt_le, nI_toInt (by omega), nI_toInt (by omega)]; omega), nI_1] at e2
          exact lo_eq K hd ha hc hm1 hm2 s128 hi hi2 hs hN N5 k kk _ (t + 1) R2 f3 df2 sr2 h92 M2 g3 T2 rfl rfl (by omega) h5 e1 e2
    · rw [if_neg z, nI_1] at e1
      rw [nI_1] at e2
      exact lo_eq K hd ha hc hm1 hm2 s128 hi hi2 hs hN N5 k kk V (t + 1) R D df sr h9 M hW T rfl rfl (by omega) h5 e1 e2
/-- a word without a bit from 7 on is below 128 -/
theorem lo_128 {v : Int32} (h : ∀ i, 7 ≤ i → i < 32 → bt v i = false) : ∃ s : Nat, v = nI s ∧ s < 128 := by
  have e : v = v &&& (127 : Int32) := b_ext fun j hj => by
    have a : ∀ j, j < 32 → bt (127 : Int32) j = decide (j < 7) := by decide
    rw [b_and, a j hj]
    by_cases q : j < 7
    · rw [decide_eq_true q, Bool.and_true]
    · rw [h j (by omega) hj]; rfl
  have b := jandR (x := v) (y := (127 : Int32)) (c := 127) rfl (by decide)
  rw [← e] at b
  exact ⟨v.toInt.toNat, nI_on b.1, by omega⟩
/-! loosen: what was thrown and the answer are the reference's -/
theorem ansB_loosen {x nx r L n : Nat} {W : jWd} {h h1 : jH} {v s w : Int32} {q : jR × jH} {p : Int32 × jH} {dd : Bool} (hs : s = dI dd) (E : eqS x nx r L W h) (e1 : F_X11_loosen n x v s w h = some q) (E1 : eqS x nx r L W h1) (e2 : F_X12_loosen n (x + 40) v s w h1 = some p) : ansE [(2, 1), (0, 2)] q.1 p.1 (oi (oc p.2) (x + 40) 0) := by
  have C := eq_pre E
  obtain ⟨x1, R, K, -, -⟩ := q_cl E
  have S := E.2.2.2.2.2.2.2.1
  have K0 := K.1
  unfold F_X11_loosen at e1
  obtain ⟨q2, g2, e1⟩ := jbind e1
  have r2 := E_X11_requireRing C (jcv_o g2).2
  unfold F_X12_loosen at e2
  obtain ⟨h2, k2, e2⟩ := jbind e2
  obtain ⟨M, hW⟩ := q_pf E1 k2
  have T0 := q_t0 k2
  obtain ⟨v8, k8, e2⟩ := jbind e2
  obtain ⟨q12, k12, e2⟩ := jbind e2
  have hr := hd_thr (E_X12_noRing M hW K (jcv_o k8).2) k12
  rcases r2 with ⟨c, a1, a2⟩ | ⟨c, a1, a2⟩
  · obtain ⟨-, b1, b2⟩ := hr.resolve_right (fun z => z.1 c)
    have e1 := (jthen_l a1).symm.trans e1
    rw [a2] at e1
    try dsimp only at e1
    obtain ⟨i, i8, hi, hi2⟩ := i_ring K c
    rcases jite e2 with ⟨-, e2⟩ | ⟨y, -⟩
    · rw [b2] at e2
      obtain ⟨q9, g9, e1⟩ := jbind e1
      have r9 := E_X11_requireNumber (jcv_o g9).2
      obtain ⟨v20, k20, e2⟩ := jbind e2
      obtain ⟨q24, k24, e2⟩ := jbind e2
      have hr := hd_thr (E_X12_noSteps k20) k24
      have l1 : (1 : Int32).toInt = 1 := rfl
      have l31 : (31 : Int32).toInt = 31 := rfl
      rw [l1, l31] at r9
      rcases r9 with ⟨d, a3, a4⟩ | ⟨d, a3, a4⟩
      · obtain ⟨-, b3, b4⟩ := hr.resolve_right (fun z => z.1 d)
        have e1 := (jthen_l a3).symm.trans e1
        rw [a4] at e1
        try dsimp only at e1
        obtain ⟨N, hN, hN8⟩ : ∃ N : Nat, w = nI N ∧ N ≤ 31 := ⟨w.toInt.toNat, nI_on (by omega), by omega⟩
        rcases jite e2 with ⟨-, e2⟩ | ⟨y, -⟩
        · rw [b4] at e2
          obtain ⟨p14, g14, e1⟩ := jbind e1
          have t14 := oc_gR g14
          rw [S.1.2.2.2.2.2] at t14
          cases t14
          obtain ⟨p18, g18, e1⟩ := jbind e1
          have t18 := oc_gR g18
          rw [x1] at t18
          cases t18
          obtain ⟨q24b, g24, e1⟩ := jbind e1
          cases e1
          replace g24 := (jcv_o g24).2
          unfold F_X7_fewestFreed at g24
          obtain ⟨p1, g1, g24⟩ := jbind g24
          have t1 := oc_gR g1
          rw [S.2.2.2.1.2.2.1] at t1
          cases t1
          obtain ⟨h5, g5, g24⟩ := jbind g24
          obtain ⟨R5, f5, -⟩ := E_X8_copyFrom (d := x + 21) (r := x + 6) rfl rfl (Or.inr (by omega)) S.2.2.2.2.1 R K (jcv_o g5).2
          have R6 : rodE (oc h5) (x + 6) W := rodE_fr R (fun a k y1 y2 => f5 a k (by omega))
          obtain ⟨v35, k35, e2⟩ := jbind e2
          have m9 := msk_c R6 K M hW (jcv_o k35).2
          obtain ⟨cc, hc, hc8⟩ : ∃ cc : Nat, (cc : Int) = (W 0).toInt ∧ cc ≤ 8 := ⟨(W 0).toInt.toNat, by omega, by omega⟩
          have hm1 : ∀ i, i < cc → bt v35 i = true → W (18 + 8 * i) = 1 := fun i h b => by
            rw [← m9] at b
            exact (R6.2.2.1 i (by omega)).2.2.2.2.2.2.2.mp b
          have hm2 : ∀ i, cc ≤ i → i < 32 → bt v35 i = false := fun i h h2 => by
            rw [← m9]
            exact (R6.2.2.2.1 i (by omega) h2).2
          obtain ⟨s9, hs9, s128⟩ : ∃ s9 : Nat, v35 = nI s9 ∧ s9 < 128 := lo_128 (fun i h h2 => by
            by_cases z : i < cc
            · refine Bool.eq_false_iff.mpr fun b => ?_
              have a := hm1 i z b
              rw [K.2.2.2.1 i (by omega)] at a
              exact absurd a (by decide)
            · exact hm2 i (by omega) h2)
          rw [hs9] at e2 hm1 hm2 m9
          obtain ⟨y1, y2⟩ := lo_eq K (Or.inr (by omega)) (Or.inr (by omega)) hc hm1 hm2 s128 hi hi2 hs hN (by omega) n n W 0 R6 R5 df_r ((f5 _ _ (by omega)).trans S.2.2.2.1.2.2.1) m9 M hW T0 rfl rfl (by omega) (Or.inl ⟨rfl, rfl⟩) g24 e2
          rw [y1]
          exact Or.inl ⟨rfl, y2⟩
        · exact absurd b3 y
      · obtain ⟨-, b3, b4⟩ := hr.resolve_left (fun z => d z.1)
        have e1 := (jthen_r a3).symm.trans e1
        cases e1
        rcases jite e2 with ⟨y, -⟩ | ⟨-, e2⟩
        · rw [b3] at y
          exact absurd y (by decide)
        · cases e2
          exact Or.inr ⟨(0, 2), by simp, rfl, rfl, b4⟩
    · exact absurd b1 y
  · obtain ⟨-, b1, b2⟩ := hr.resolve_left (fun z => c z.1)
    have e1 := (jthen_r a1).symm.trans e1
    cases e1
    rcases jite e2 with ⟨y, -⟩ | ⟨-, e2⟩
    · rw [b1] at y
      exact absurd y (by decide)
    · cases e2
      exact Or.inr ⟨(2, 1), by simp, rfl, rfl, b2⟩
/-! what the reference says of throws -/
theorem thr_v {n x m out : Nat} {h : jH} (v : jInv x m out h) : jcv 10 h m (F_X12_thrown n m h) = some (oi (oc h) m 0) := by
  obtain ⟨g, Γ, hg, w, tx, tm, -⟩ := v
  rw [t_cv w tm rfl]
  obtain ⟨u, e, -⟩ := t_gI (k := 0) w tm rfl rfl
  unfold F_X12_thrown
  rw [e, oc_gI e]
  rfl
theorem Sq_25 {x m out : Nat} {a : Nat → Int32} {h : jH} (v : jInE x m out h) : SL_25 6000 x m out a h (jInE x m out) := by
  obtain ⟨v, rfl, nx, r, L, W, E⟩ := v
  obtain ⟨r0, e0, t0⟩ := St_25 (a := a) v
  refine ⟨r0, e0, fun z0 hz0 => ?_⟩
  obtain ⟨r1, e1, ok, p⟩ := t0 z0 hz0
  obtain ⟨q, y, ho, hz⟩ := FLo_loosen e0
  have sz : q.2.1 ≤ (z0, r0.2.2).1 := by rw [← hz]; exact hz0
  have ho2 : oc (z0, r0.2.2) = oc q.2 := ho
  obtain ⟨g, Γ, hg, w, tx, tm, to, hu, -⟩ := id v
  obtain ⟨q9, y9, wq⟩ := FLw_loosen e0
  have w1 := wq (jok_v (S_X11_loosen (Nat.le_refl _) hg w tx) y9).1 to
  have wz := t_z4 w1 hz0
  have w2 := (jok_v (S_X12_loosen (Nat.le_refl _) hg wz tm) (jcv_o e1).2).1
  have E1 := eq_oc (eqc E (FC_X11_loosen_0 (cls_of E).1 y)) ho2 sz
  have A := ansB_loosen idI E y E1 (jcv_o e1).2
  obtain ⟨q8, y8, B⟩ := FLa_loosen e0
  cases (y.symm.trans y8)
  obtain ⟨c1, c2⟩ := ans_B A B (by unfold FK_loosen; decide) ok
  exact ⟨r1, e1, _, thr_v p, c1, c2, p, rfl, _, _, _, _, eqr_loosen E1 (jcv_o e1).2 wz w2 (t_w w tm (cls_of E).2)⟩
