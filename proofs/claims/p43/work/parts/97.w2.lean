/-! masks and sums over the rings -/
/-- the word of the rings from i on, below c, that P names, beside x -/
def mkE (P : Nat → Bool) (c i : Nat) (x q : Int32) : Prop := ∀ j, j < 32 → bt q j = (bt x j || (decide (i ≤ j) && decide (j < c) && P j))
theorem mk_end {P : Nat → Bool} {c i : Nat} {x : Int32} (h : c ≤ i) : mkE P c i x x := fun j _ => by
  have e : (decide (i ≤ j) && decide (j < c)) = false := by
    by_cases a : i ≤ j
    · rw [decide_eq_false (p := j < c) (by omega)]; simp
    · rw [decide_eq_false a]; simp
  rw [e]; simp
theorem mk_n {P : Nat → Bool} {c i : Nat} {x q : Int32} (hp : P i = false) (h : mkE P c (i + 1) x q) : mkE P c i x q := fun j hj => by
  rw [h j hj]
  by_cases e : j = i
  · subst e; rw [hp]; simp
  · rw [show decide (i ≤ j) = decide (i + 1 ≤ j) from decide_eq_decide.mpr (by omega)]
theorem mk_y {P : Nat → Bool} {c i : Nat} {x q : Int32} (hi : i < c) (hc : i < 32) (hp : P i = true) (h : mkE P c (i + 1) (x ||| ((1 : Int32) <<< (nI i &&& 31))) q) : mkE P c i x q := fun j hj => by
  rw [h j hj, b_set hc hj]
  by_cases e : j = i
  · subst e; rw [hp, decide_eq_true hi]; simp
  · rw [show decide (i ≤ j) = decide (i + 1 ≤ j) from decide_eq_decide.mpr (by omega), decide_eq_false e]; simp
theorem clr_0 {i : Nat} {x : Int32} (hi : i < 32) (hx : bt x i = false) : x &&& (((1 : Int32) <<< (nI i &&& 31)) ^^^ (-1 : Int32)) = x := b_ext fun j hj => by
  rw [b_clr hi hj]
  by_cases e : j = i
  · subst e; rw [hx]; simp
  · rw [decide_eq_false e]; simp
theorem or_0 {x : Int32} : x ||| (0 : Int32) = x := by simp
theorem mk_u {P : Nat → Bool} {c i : Nat} {x q q2 : Int32} (a : mkE P c i x q) (b : mkE P c i x q2) : q = q2 := b_ext fun j hj => (a j hj).trans (b j hj).symm
/-- no bit from i on -/
def lowB (x : Int32) (i : Nat) : Prop := ∀ j, i ≤ j → j < 32 → bt x j = false
theorem low_0 {i : Nat} : lowB 0 i := fun j _ _ => by unfold bt; simp
theorem low_n {x : Int32} {i : Nat} (h : lowB x i) : lowB x (i + 1) := fun j a b => h j (by omega) b
theorem low_y {x : Int32} {i : Nat} (hi : i < 32) (h : lowB x i) : lowB (x ||| ((1 : Int32) <<< (nI i &&& 31))) (i + 1) := fun j a b => by
  rw [b_set hi b, h j (by omega) b, decide_eq_false (by omega)]; rfl
def sumF (f : Nat → Int32) : Nat → Nat → Int32 → Int32
  | 0, _, a => a
  | m + 1, i, a => sumF f m (i + 1) (a + f i)
theorem sum_e {f : Nat → Int32} {c i : Nat} {a : Int32} (h : c ≤ i) : sumF f (c - i) i a = a := by
  rw [show c - i = 0 by omega]; rfl
theorem sum_s {f : Nat → Int32} {c i : Nat} {a : Int32} (h : i < c) : sumF f (c - i) i a = sumF f (c - (i + 1)) (i + 1) (a + f i) := by
  obtain ⟨m, hm⟩ : ∃ m, c - i = m + 1 := ⟨c - i - 1, by omega⟩
  rw [hm, show c - (i + 1) = m by omega]; rfl
theorem E_X6_spareCloth_4 {n : Nat} {W : jWd} : ∀ (k : Nat) {a0 : Nat} {x1 : Int32} {x2 : Int32} {h : jH} {q : Int32} (i : Nat) (R : rodE (oc h) a0 W) (K : wOK W) (hx : x2 = nI i) (hi : i ≤ 8), F_X6_spareCloth_4 n k a0 x1 x2 h = some q → q = sumF (fun i => W (12 + 8 * i) - (W (11 + 8 * (i + 1)) - W (11 + 8 * i))) ((W 0).toInt.toNat - 1 - i) i x1
  | 0, a0, x1, x2, h, q, i, R, K, hx, hi, hf => by cases hf
  | k + 1, a0, x1, x2, h, q, i, R, K, hx, hi, hf => by
    replace hf : F_X6_spareCloth_4_b n (F_X6_spareCloth_4 n k) a0 x1 x2 h = some q := hf
    unfold F_X6_spareCloth_4_b at hf
    obtain ⟨⟨s0, s1, s2, s3, s4, s5⟩, ⟨u5, u10, u11, u12, u13, u14, u15, u16, u17⟩, RB, RC, RL⟩ := id R
    subst hx
    have K0 := K.1
    have l1 : (1 : Int32).toInt = 1 := rfl
    have ew : (W 0 - 1).toInt = (W 0).toInt - 1 := jsub (by omega) (by omega)
    replace hf := jbind hf
    obtain ⟨v8, e1, hf⟩ := hf
    have r1 := oc_gI e1
    subst r1
    clear e1
    replace hf := jite hf
    rcases hf with ⟨c2, hf⟩ | ⟨c2, hf⟩
    · skip
      rw [u5, nI_1, nI_eI (by omega)] at c2
      cases hf
      -- leaf 0: x1
      rw [sum_e (by omega)]
    · skip
      rw [u5, nI_1, nI_eI (by omega)] at c2
      replace hf := jbind hf
      obtain ⟨p16, e3, hf⟩ := hf
      have r3 := oc_gR e3
      rw [s1] at r3
      cases r3
      clear e3
      replace hf := jbind hf
      obtain ⟨v20, e4, hf⟩ := hf
      obtain ⟨r4, y4⟩ := oc_al e4
      subst r4
      clear e4
      replace hf := jbind hf
      obtain ⟨v24, e5, hf⟩ := hf
      replace e5 := (jcv_o e5).2
      have r5 := E_X8_gap (i := i) R K rfl (by omega) e5
      subst r5
      -- leaf 1: rc4 a0 (x1 + (v20 - v24)) (x2 + (1 : Int32)) h
      rw [if_pos (by omega), nI_cl (by omega), (RB i (by omega)).2.1, nI_1] at hf
      rw [sum_s (by omega)]
      exact E_X6_spareCloth_4 k (i + 1) R K rfl (by omega) hf
theorem E_X12_slack_9 {n : Nat} {W : jWd} : ∀ (k : Nat) {a0 : Nat} {x1 : Int32} {x2 : Int32} {h : jH} {q : Int32 × jH} (i : Nat) (M : mS (oc h) a0) (hW : wl (oc h) a0 = W) (K : wOK W) (hx : x2 = nI i) (hi : i ≤ 8), F_X12_slack_9 n k a0 x1 x2 h = some q → q = (sumF (fun i => W (12 + 8 * i) - (W (11 + 8 * (i + 1)) - W (11 + 8 * i))) ((W 0).toInt.toNat - 1 - i) i x1, h)
  | 0, a0, x1, x2, h, q, i, M, hW, K, hx, hi, hf => by cases hf
  | k + 1, a0, x1, x2, h, q, i, M, hW, K, hx, hi, hf => by
    replace hf : F_X12_slack_9_b n (F_X12_slack_9 n k) a0 x1 x2 h = some q := hf
    unfold F_X12_slack_9_b at hf
    subst hx
    have K0 := K.1
    have l1 : (1 : Int32).toInt = 1 := rfl
    have ew : (W 0 - 1).toInt = (W 0).toInt - 1 := jsub (by omega) (by omega)
    replace hf := jbind hf
    obtain ⟨v11, e1, hf⟩ := hf
    replace e1 := (jcv_o e1).2
    have r1 := E_X12_lastRing M e1
    rw [hW] at r1
    subst r1
    replace hf := jite hf
    rcases hf with ⟨c2, hf⟩ | ⟨c2, hf⟩
    · skip
      rw [nI_eI (by omega), ew] at c2
      cases hf
      -- leaf 0: (x1, h)
      rw [sum_e (by omega)]
    · skip
      rw [nI_eI (by omega), ew] at c2
      replace hf := jbind hf
      obtain ⟨v21, e3, hf⟩ := hf
      replace e3 := (jcv_o e3).2
      have r3 := E_X12_of (i := i) (j := 1) (t := 12 + 8 * i) M rfl rfl (by omega) (by omega) e3
      rw [hW] at r3
      subst r3
      replace hf := jbind hf
      obtain ⟨v26, e4, hf⟩ := hf
      replace e4 := (jcv_o e4).2
      have r4 := E_X12_gapOf (i := i) M (by rw [hW]; exact K) rfl (by rw [hW]; omega) e4
      rw [hW] at r4
      subst r4
      -- leaf 1: rc9 a0 (x1 + (v21 - v26)) (x2 + (1 : Int32)) h
      rw [if_pos (by omega), nI_1] at hf
      rw [sum_s (by omega)]
      exact E_X12_slack_9 k (i + 1) M hW K rfl (by omega) hf
theorem E_X12_ringsThat_4 {n : Nat} {W : jWd} {j : Nat} (hj : j < 8) : ∀ (k : Nat) {a0 : Nat} {x1 : Int32} {x2 : Int32} {x3 : Int32} {h : jH} {q : Int32} (i : Nat) (M : mS (oc h) a0) (hW : wl (oc h) a0 = W) (K : wOK W) (hx : x3 = nI i) (hi : i ≤ 8) (h4 : x1 = nI j), F_X12_ringsThat_4 n k a0 x1 x2 x3 h = some q → mkE (fun i => decide (W (11 + 8 * i + j) = 1)) (W 0).toInt.toNat i x2 q
  | 0, a0, x1, x2, x3, h, q, i, M, hW, K, hx, hi, h4, hf => by cases hf
  | k + 1, a0, x1, x2, x3, h, q, i, M, hW, K, hx, hi, h4, hf => by
    replace hf : F_X12_ringsThat_4_b n (F_X12_ringsThat_4 n k) a0 x1 x2 x3 h = some q := hf
    unfold F_X12_ringsThat_4_b at hf
    subst hx
    have K0 := K.1
    have l1 : (1 : Int32).toInt = 1 := rfl
    have ew : (W 0 - 1).toInt = (W 0).toInt - 1 := jsub (by omega) (by omega)
    replace hf := jbind hf
    obtain ⟨v6, e1, hf⟩ := hf
    replace e1 := (jcv_o e1).2
    have r1 := E_X12_rings M e1
    rw [hW] at r1
    subst r1
    replace hf := jite hf
    rcases hf with ⟨c2, hf⟩ | ⟨c2, hf⟩
    · skip
      rw [nI_eI (by omega)] at c2
      cases hf
      -- leaf 0: x2
      exact mk_end (by omega)
    · skip
      rw [nI_eI (by omega)] at c2
      replace hf := jbind hf
      obtain ⟨v16, e3, hf⟩ := hf
      replace e3 := (jcv_o e3).2
      have r3 := E_X12_is (i := i) (j := j) (t := 11 + 8 * i + j) M rfl h4 (by omega) (by omega) e3
      rw [hW] at r3
      replace hf := jite hf
      rcases hf with ⟨c4, hf⟩ | ⟨c4, hf⟩
      · skip
        -- leaf 10: rc4 a0 x1 (x2 ||| (0 : Int32)) (x3 + (1 : Int32)) h
        rw [or_0, nI_1] at hf
        refine mk_n (decide_eq_false fun z => ?_) (E_X12_ringsThat_4 hj k (i + 1) M hW K rfl (by omega) h4 hf)
        have := r3.2.mpr z
        rw [c4] at this
        exact absurd this (by decide)
      · skip
        -- leaf 11: rc4 a0 x1 (x2 ||| ((1 : Int32) <<< (x3 &&& 31))) (x3 + (1 : Int32)) h
        rw [nI_1] at hf
        exact mk_y (by omega) (by omega) (decide_eq_true (r3.2.mp (r3.1.resolve_left c4))) (E_X12_ringsThat_4 hj k (i + 1) M hW K rfl (by omega) h4 hf)
theorem E_X11_wb {n : Nat} {x y z : Int32} {h : jH} {q : Int32} (hf : F_X11_withBit n x y z h = some q) : (z = 0 ∧ q = x &&& (((1 : Int32) <<< (y &&& 31)) ^^^ (-1 : Int32))) ∨ (z ≠ 0 ∧ q = x ||| ((1 : Int32) <<< (y &&& 31))) := by
  unfold F_X11_withBit at hf
  replace hf := jite hf
  rcases hf with ⟨c, hf⟩ | ⟨c, hf⟩
  · cases hf; exact Or.inl ⟨c, rfl⟩
  · cases hf; exact Or.inr ⟨c, rfl⟩
/-- the class's word with a bit put or taken -/
theorem wb_y {x v : Int32} {i : Nat} (r : ((1 : Int32) = 0 ∧ v = x &&& (((1 : Int32) <<< (nI i &&& 31)) ^^^ (-1 : Int32))) ∨ ((1 : Int32) ≠ 0 ∧ v = x ||| ((1 : Int32) <<< (nI i &&& 31)))) : v = x ||| ((1 : Int32) <<< (nI i &&& 31)) := by
  rcases r with ⟨z, -⟩ | ⟨-, r⟩
  · exact absurd z (by decide)
  · exact r
theorem wb_n {x v : Int32} {i : Nat} (hi : i < 32) (hb : lowB x i) (r : ((0 : Int32) = 0 ∧ v = x &&& (((1 : Int32) <<< (nI i &&& 31)) ^^^ (-1 : Int32))) ∨ ((0 : Int32) ≠ 0 ∧ v = x ||| ((1 : Int32) <<< (nI i &&& 31)))) : v = x := by
  rcases r with ⟨-, r⟩ | ⟨z, -⟩
  · rw [r]; exact clr_0 hi (hb i (Nat.le_refl _) hi)
  · exact absurd rfl z
theorem E_X6_tautRings_4 {n : Nat} {W : jWd} : ∀ (k : Nat) {a0 : Nat} {x1 : Int32} {x2 : Int32} {h : jH} {q : Int32} (i : Nat) (R : rodE (oc h) a0 W) (K : wOK W) (hx : x2 = nI i) (hi : i ≤ 8) (hb : lowB x1 i), F_X6_tautRings_4 n k a0 x1 x2 h = some q → mkE (fun i => decide (W (11 + 8 * (i + 1)) - W (11 + 8 * i) = W (12 + 8 * i))) ((W 0).toInt.toNat - 1) i x1 q
  | 0, a0, x1, x2, h, q, i, R, K, hx, hi, hb, hf => by cases hf
  | k + 1, a0, x1, x2, h, q, i, R, K, hx, hi, hb, hf => by
    replace hf : F_X6_tautRings_4_b n (F_X6_tautRings_4 n k) a0 x1 x2 h = some q := hf
    unfold F_X6_tautRings_4_b at hf
    obtain ⟨⟨s0, s1, s2, s3, s4, s5⟩, ⟨u5, u10, u11, u12, u13, u14, u15, u16, u17⟩, RB, RC, RL⟩ := id R
    subst hx
    have K0 := K.1
    have l1 : (1 : Int32).toInt = 1 := rfl
    have ew : (W 0 - 1).toInt = (W 0).toInt - 1 := jsub (by omega) (by omega)
    replace hf := jbind hf
    obtain ⟨v8, e1, hf⟩ := hf
    have r1 := oc_gI e1
    subst r1
    clear e1
    replace hf := jite hf
    rcases hf with ⟨c2, hf⟩ | ⟨c2, hf⟩
    · skip
      rw [u5, nI_1, nI_eI (by omega)] at c2
      cases hf
      -- leaf 0: x1
      exact mk_end (by omega)
    · skip
      rw [u5, nI_1, nI_eI (by omega)] at c2
      replace hf := jbind hf
      obtain ⟨v19, e3, hf⟩ := hf
      replace e3 := (jcv_o e3).2
      have r3 := E_X8_gap (i := i) R K rfl (by omega) e3
      subst r3
      replace hf := jbind hf
      obtain ⟨p23, e4, hf⟩ := hf
      have r4 := oc_gR e4
      rw [s1] at r4
      cases r4
      clear e4
      replace hf := jbind hf
      obtain ⟨v27, e5, hf⟩ := hf
      obtain ⟨r5, y5⟩ := oc_al e5
      subst r5
      clear e5
      replace hf := jite hf
      rcases hf with ⟨c6, hf⟩ | ⟨c6, hf⟩
      · skip
        -- leaf 10: F_X6_tautRings_36 n rc4 a0 x2 x1 x2 (1 : Int32) h
        unfold F_X6_tautRings_36 at hf
        obtain ⟨v9, e9, hf⟩ := jbind hf
        have r9 := E_X11_wb e9
        rw [if_pos (by omega), nI_cl (by omega), (RB i (by omega)).2.1] at c6
        rw [wb_y r9, nI_1] at hf
        exact mk_y (by omega) (by omega) (decide_eq_true c6) (E_X6_tautRings_4 k (i + 1) R K rfl (by omega) (low_y (by omega) hb) hf)
      · skip
        -- leaf 11: F_X6_tautRings_36 n rc4 a0 x2 x1 x2 (0 : Int32) h
        unfold F_X6_tautRings_36 at hf
        obtain ⟨v9, e9, hf⟩ := jbind hf
        have r9 := E_X11_wb e9
        rw [if_pos (by omega), nI_cl (by omega), (RB i (by omega)).2.1] at c6
        rw [wb_n (by omega) hb r9, nI_1] at hf
        exact mk_n (decide_eq_false c6) (E_X6_tautRings_4 k (i + 1) R K rfl (by omega) (low_n hb) hf)
theorem E_X12_taut_9 {n : Nat} {W : jWd} : ∀ (k : Nat) {a0 : Nat} {x1 : Int32} {x2 : Int32} {h : jH} {q : Int32 × jH} (i : Nat) (M : mS (oc h) a0) (hW : wl (oc h) a0 = W) (K : wOK W) (hx : x2 = nI i) (hi : i ≤ 8), F_X12_taut_9 n k a0 x1 x2 h = some q → mkE (fun i => decide (W (11 + 8 * (i + 1)) - W (11 + 8 * i) = W (12 + 8 * i))) ((W 0).toInt.toNat - 1) i x1 q.1 ∧ q.2 = h
  | 0, a0, x1, x2, h, q, i, M, hW, K, hx, hi, hf => by cases hf
  | k + 1, a0, x1, x2, h, q, i, M, hW, K, hx, hi, hf => by
    replace hf : F_X12_taut_9_b n (F_X12_taut_9 n k) a0 x1 x2 h = some q := hf
    unfold F_X12_taut_9_b at hf
    subst hx
    have K0 := K.1
    have l1 : (1 : Int32).toInt = 1 := rfl
    have ew : (W 0 - 1).toInt = (W 0).toInt - 1 := jsub (by omega) (by omega)
    replace hf := jbind hf
    obtain ⟨v11, e1, hf⟩ := hf
    replace e1 := (jcv_o e1).2
    have r1 := E_X12_lastRing M e1
    rw [hW] at r1
    subst r1
    replace hf := jite hf
    rcases hf with ⟨c2, hf⟩ | ⟨c2, hf⟩
    · skip
      rw [nI_eI (by omega), ew] at c2
      cases hf
      -- leaf 0: (x1, h)
      exact ⟨mk_end (by omega), rfl⟩
    · skip
      rw [nI_eI (by omega), ew] at c2
      replace hf := jbind hf
      obtain ⟨v20, e3, hf⟩ := hf
      replace e3 := (jcv_o e3).2
      have r3 := E_X12_gapOf (i := i) M (by rw [hW]; exact K) rfl (by rw [hW]; omega) e3
      rw [hW] at r3
      subst r3
      replace hf := jbind hf
      obtain ⟨v26, e4, hf⟩ := hf
      replace e4 := (jcv_o e4).2
      have r4 := E_X12_of (i := i) (j := 1) (t := 12 + 8 * i) M rfl rfl (by omega) (by omega) e4
      rw [hW] at r4
      subst r4
      replace hf := jite hf
      rcases hf with ⟨c5, hf⟩ | ⟨c5, hf⟩
      · skip
        -- leaf 10: rc9 a0 (x1 ||| ((1 : Int32) <<< (x2 &&& 31))) (x2 + (1 : Int32)) h
        rw [if_pos (by omega)] at c5
        rw [nI_1] at hf
        obtain ⟨a1, a2⟩ := E_X12_taut_9 k (i + 1) M hW K rfl (by omega) hf
        exact ⟨mk_y (by omega) (by omega) (decide_eq_true c5) a1, a2⟩
      · skip
        -- leaf 11: rc9 a0 (x1 ||| (0 : Int32)) (x2 + (1 : Int32)) h
        rw [if_pos (by omega)] at c5
        rw [or_0, nI_1] at hf
        obtain ⟨a1, a2⟩ := E_X12_taut_9 k (i + 1) M hW K rfl (by omega) hf
        exact ⟨mk_n (decide_eq_false c5) a1, a2⟩
theorem E_X6_thickBeyondJoin_4 {n : Nat} {W : jWd} : ∀ (k : Nat) {a0 : Nat} {x1 : Int32} {x2 : Int32} {h : jH} {q : Int32} (i : Nat) (R : rodE (oc h) a0 W) (K : wOK W) (hx : x2 = nI i) (hi : i ≤ 8) (hb : lowB x1 i), F_X6_thickBeyondJoin_4 n k a0 x1 x2 h = some q → mkE (fun i => decide (W (13 + 8 * i) = 1) && !decide (W (11 + 8 * i) < W 5)) ((W 0).toInt.toNat) i x1 q
  | 0, a0, x1, x2, h, q, i, R, K, hx, hi, hb, hf => by cases hf
  | k + 1, a0, x1, x2, h, q, i, R, K, hx, hi, hb, hf => by
    replace hf : F_X6_thickBeyondJoin_4_b n (F_X6_thickBeyondJoin_4 n k) a0 x1 x2 h = some q := hf
    unfold F_X6_thickBeyondJoin_4_b at hf
    obtain ⟨⟨s0, s1, s2, s3, s4, s5⟩, ⟨u5, u10, u11, u12, u13, u14, u15, u16, u17⟩, RB, RC, RL⟩ := id R
    subst hx
    have K0 := K.1
    have l1 : (1 : Int32).toInt = 1 := rfl
    have ew : (W 0 - 1).toInt = (W 0).toInt - 1 := jsub (by omega) (by omega)
    replace hf := jbind hf
    obtain ⟨v6, e1, hf⟩ := hf
    have r1 := oc_gI e1
    subst r1
    clear e1
    replace hf := jite hf
    rcases hf with ⟨c2, hf⟩ | ⟨c2, hf⟩
    · skip
      rw [u5, nI_eI (by omega)] at c2
      cases hf
      -- leaf 0: x1
      exact mk_end (by omega)
    · skip
      rw [u5, nI_eI (by omega)] at c2
      replace hf := jbind hf
      obtain ⟨v15, e3, hf⟩ := hf
      have r3 := oc_gI e3
      subst r3
      clear e3
      replace hf := jbind hf
      obtain ⟨v19, e4, hf⟩ := hf
      unfold F_X11_bit at e4
      cases e4
      replace hf := jite hf
      rcases hf with ⟨c5, hf⟩ | ⟨c5, hf⟩
      · skip
        replace hf := jbind hf
        obtain ⟨p27, e6, hf⟩ := hf
        have r6 := oc_gR e6
        rw [s0] at r6
        cases r6
        clear e6
        replace hf := jbind hf
        obtain ⟨v31, e7, hf⟩ := hf
        obtain ⟨r7, y7⟩ := oc_al e7
        subst r7
        clear e7
        replace hf := jbind hf
        obtain ⟨v33, e8, hf⟩ := hf
        have r8 := oc_gI e8
        subst r8
        clear e8
        replace hf := jite hf
        rcases hf with ⟨c9, hf⟩ | ⟨c9, hf⟩
        · skip
          -- leaf 100: F_X6_thickBeyondJoin_44 n rc4 a0 x2 x1 x2 (0 : Int32) h
          rw [b_ask (by omega), (RB i (by omega)).2.2.1] at c5
          rw [nI_cl (by omega), (RB i (by omega)).1, u11] at c9
          unfold F_X6_thickBeyondJoin_44 at hf
          obtain ⟨v9, e9, hf⟩ := jbind hf
          have r9 := E_X11_wb e9
          rw [wb_n (by omega) hb r9, nI_1] at hf
          have hp : (fun i => decide (W (13 + 8 * i) = 1) && !decide (W (11 + 8 * i) < W 5)) i = false := by
            show (decide _ && !decide _) = false
            rw [decide_eq_true c9]; simp
          exact mk_n hp (E_X6_thickBeyondJoin_4 k (i + 1) R K rfl (by omega) (low_n hb) hf)
        · skip
          -- leaf 101: F_X6_thickBeyondJoin_44 n rc4 a0 x2 x1 x2 (1 : Int32) h
          rw [b_ask (by omega), (RB i (by omega)).2.2.1] at c5
          rw [nI_cl (by omega), (RB i (by omega)).1, u11] at c9
          unfold F_X6_thickBeyondJoin_44 at hf
          obtain ⟨v9, e9, hf⟩ := jbind hf
          have r9 := E_X11_wb e9
          rw [wb_y r9, nI_1] at hf
          have hp : (fun i => decide (W (13 + 8 * i) = 1) && !decide (W (11 + 8 * i) < W 5)) i = true := by
            show (decide _ && !decide _) = true
            rw [decide_eq_true c5, decide_eq_false c9]; rfl
          exact mk_y (by omega) (by omega) hp (E_X6_thickBeyondJoin_4 k (i + 1) R K rfl (by omega) (low_y (by omega) hb) hf)
      · skip
        -- leaf 11: F_X6_thickBeyondJoin_44 n rc4 a0 x2 x1 x2 (0 : Int32) h
        rw [b_ask (by omega), (RB i (by omega)).2.2.1] at c5
        unfold F_X6_thickBeyondJoin_44 at hf
        obtain ⟨v9, e9, hf⟩ := jbind hf
        have r9 := E_X11_wb e9
        rw [wb_n (by omega) hb r9, nI_1] at hf
        have hp : (fun i => decide (W (13 + 8 * i) = 1) && !decide (W (11 + 8 * i) < W 5)) i = false := by
          show (decide _ && !decide _) = false
          rw [decide_eq_false c5]; rfl
        exact mk_n hp (E_X6_thickBeyondJoin_4 k (i + 1) R K rfl (by omega) (low_n hb) hf)
theorem E_X12_beyond_9 {n : Nat} {W : jWd} : ∀ (k : Nat) {a0 : Nat} {x1 : Int32} {x2 : Int32} {h : jH} {q : Int32 × jH} (i : Nat) (M : mS (oc h) a0) (hW : wl (oc h) a0 = W) (K : wOK W) (hx : x2 = nI i) (hi : i ≤ 8), F_X12_beyond_9 n k a0 x1 x2 h = some q → mkE (fun i => decide (W (13 + 8 * i) = 1) && !decide (W (11 + 8 * i) < W 5)) ((W 0).toInt.toNat) i x1 q.1 ∧ q.2 = h
  | 0, a0, x1, x2, h, q, i, M, hW, K, hx, hi, hf => by cases hf
  | k + 1, a0, x1, x2, h, q, i, M, hW, K, hx, hi, hf => by
    replace hf : F_X12_beyond_9_b n (F_X12_beyond_9 n k) a0 x1 x2 h = some q := hf
    unfold F_X12_beyond_9_b at hf
    obtain ⟨s1, s2, s3, s4, s5, s8, s15, s17, s19, s20, s21⟩ := id M
    have w5 : oi (oc h) (a0 + 1) 5 = W 5 := congrFun hW 5
    subst hx
    have K0 := K.1
    have l1 : (1 : Int32).toInt = 1 := rfl
    have ew : (W 0 - 1).toInt = (W 0).toInt - 1 := jsub (by omega) (by omega)
    replace hf := jbind hf
    obtain ⟨v11, e1, hf⟩ := hf
    replace e1 := (jcv_o e1).2
    have r1 := E_X12_rings M e1
    rw [hW] at r1
    subst r1
    replace hf := jite hf
    rcases hf with ⟨c2, hf⟩ | ⟨c2, hf⟩
    · skip
      rw [nI_eI (by omega)] at c2
      cases hf
      -- leaf 0: (x1, h)
      exact ⟨mk_end (by omega), rfl⟩
    · skip
      rw [nI_eI (by omega)] at c2
      replace hf := jbind hf
      obtain ⟨v21, e3, hf⟩ := hf
      replace e3 := (jcv_o e3).2
      have r3 := E_X12_is (i := i) (j := 2) (t := 13 + 8 * i) M rfl rfl (by omega) (by omega) e3
      rw [hW] at r3
      replace hf := jite hf
      rcases hf with ⟨c4, hf⟩ | ⟨c4, hf⟩
      · skip
        -- leaf 10: rc9 a0 (x1 ||| (0 : Int32)) (x2 + (1 : Int32)) h
        have c9 : ¬ W (13 + 8 * i) = 1 := fun z => by have := r3.2.mpr z; rw [c4] at this; exact absurd this (by decide)
        rw [or_0, nI_1] at hf
        obtain ⟨a1, a2⟩ := E_X12_beyond_9 k (i + 1) M hW K rfl (by omega) hf
        have hp : (fun i => decide (W (13 + 8 * i) = 1) && !decide (W (11 + 8 * i) < W 5)) i = false := by
          show (decide _ && !decide _) = false
          rw [decide_eq_false c9]; rfl
        exact ⟨mk_n hp a1, a2⟩
      · skip
        replace hf := jbind hf
        obtain ⟨v30, e5, hf⟩ := hf
        replace e5 := (jcv_o e5).2
        have r5 := E_X12_of (i := i) (j := 0) (t := 11 + 8 * i) M rfl rfl (by omega) (by omega) e5
        rw [hW] at r5
        subst r5
        replace hf := jbind hf
        obtain ⟨p34, e6, hf⟩ := hf
        have r6 := oc_gR e6
        rw [s1] at r6
        cases r6
        clear e6
        replace hf := jbind hf
        obtain ⟨v38, e7, hf⟩ := hf
        obtain ⟨r7, y7⟩ := oc_al e7
        rw [show (5 : Int32).toNatClampNeg = 5 from rfl] at r7
        subst r7
        clear e7
        replace hf := jite hf
        rcases hf with ⟨c8, hf⟩ | ⟨c8, hf⟩
        · skip
          -- leaf 110: rc9 a0 (x1 ||| (0 : Int32)) (x2 + (1 : Int32)) h
          rw [w5] at c8
          rw [or_0, nI_1] at hf
          obtain ⟨a1, a2⟩ := E_X12_beyond_9 k (i + 1) M hW K rfl (by omega) hf
          have hp : (fun i => decide (W (13 + 8 * i) = 1) && !decide (W (11 + 8 * i) < W 5)) i = false := by
            show (decide _ && !decide _) = false
            rw [decide_eq_true c8]; simp
          exact ⟨mk_n hp a1, a2⟩
        · skip
          -- leaf 111: rc9 a0 (x1 ||| ((1 : Int32) <<< (x2 &&& 31))) (x2 + (1 : Int32)) h
          rw [w5] at c8
          have c9 := r3.2.mp (r3.1.resolve_left c4)
          rw [nI_1] at hf
          obtain ⟨a1, a2⟩ := E_X12_beyond_9 k (i + 1) M hW K rfl (by omega) hf
          have hp : (fun i => decide (W (13 + 8 * i) = 1) && !decide (W (11 + 8 * i) < W 5)) i = true := by
            show (decide _ && !decide _) = true
            rw [decide_eq_true c9, decide_eq_false c8]; rfl
          exact ⟨mk_y (by omega) (by omega) hp a1, a2⟩
/-! questions: what both sides have at hand -/
theorem q_cl {x nx r L : Nat} {W : jWd} {h : jH} (E : eqS x nx r L W h) : oc h x 1 = .ref (x + 6) ∧ rodE (oc h) (x + 6) W ∧ wOK W ∧ wl (oc h) (x + 40) = W ∧ mS (oc h) (x + 40) :=
  ⟨E.1.2.1, E.2.2.1.1, E.2.2.1.2.2.1, E.2.2.1.2.1, E.1.2.2.2.2.2.2.2⟩
theorem q_pf {x nx r L : Nat} {W : jWd} {h h2 : jH} (E : eqS x nx r L W h) (e : jpf 10 h (x + 40) 0 (.int (0 : Int32)) = some h2) : mS (oc h2) (x + 40) ∧ wl (oc h2) (x + 40) = W := by
  obtain ⟨-, -, -, hW, M⟩ := q_cl E
  have f : frM (x + 40) [] [0] (oc h) (oc h2) := by rw [(oc_pf e).1]; exact frM_f (by decide)
  exact ⟨mS_fr M f (by decide) (by decide), (wl_f f (by decide)).trans hW⟩
theorem bt_z {i : Nat} : bt (0 : Int32) i = false := by unfold bt; simp
/-- the word of the first c rings -/
theorem low_m {c i : Nat} (hc : c ≤ 8) (hi : i < 32) : bt (((1 : Int32) <<< (nI c &&& 31)) - (1 : Int32)) i = decide (i < c) := by
  have h : ∀ c, c < 9 → ∀ i, i < 32 → bt (((1 : Int32) <<< (nI c &&& 31)) - (1 : Int32)) i = decide (i < c) := by decide +kernel
  exact h c (by omega) i hi
theorem bc_h {n : Nat} {x : Int32} {h h2 : jH} {a b : Int32} (e : F_J6_bitCount_0f7a4 n x h = some a) (f : F_J6_bitCount_0f7a4 n x h2 = some b) : a = b := by
  unfold F_J6_bitCount_0f7a4 at e f
  exact Option.some.inj (e.symm.trans f)
/-! beyond: the class's answer is the reference's -/
theorem ans_beyond {x nx r L n : Nat} {W : jWd} {h : jH} {v : Int32} {p : Int32 × jH} (E : eqS x nx r L W h) (e1 : F_X11_beyond n x h = some v) (e2 : F_X12_beyond n (x + 40) h = some p) : v = p.1 := by
  obtain ⟨x1, R, K, hw, M0⟩ := q_cl E
  unfold F_X11_beyond at e1
  obtain ⟨p1, g1, e1⟩ := jbind e1
  have r1 := oc_gR g1
  rw [x1] at r1
  cases r1
  obtain ⟨v4, g4, e1⟩ := jbind e1
  cases e1
  unfold F_X12_beyond at e2
  obtain ⟨h2, k2, e2⟩ := jbind e2
  obtain ⟨M, hW⟩ := q_pf E k2
  exact mk_u (E_X6_thickBeyondJoin_4 n 0 R K rfl (by omega) low_0 g4) (E_X12_beyond_9 n 0 M hW K rfl (by omega) e2).1
theorem Sq_41 {x m out : Nat} {a : Nat → Int32} {h : jH} (v : jInE x m out h) : SL_41 6000 x m out a h (jInE x m out) := by
  obtain ⟨v, rfl, nx, r, L, W, E⟩ := v
  obtain ⟨r0, e0, r1, e1, p⟩ := St_41 (a := a) v
  exact ⟨r0, e0, r1, e1, ans_beyond E (jcv_o e0).2 (jcv_o e1).2, p, rfl, _, _, _, _, eqq_beyond E (jcv_o e1).2⟩
