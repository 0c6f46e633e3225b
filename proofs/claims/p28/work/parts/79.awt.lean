/-! who goes along, of the reference -/
theorem beq_t {d : Bool} : (d == true) = d := by cases d <;> rfl
theorem beq_f {d : Bool} : (d == false) = !d := by cases d <;> rfl
theorem ivl_step {W : jWd} {r a b x : Nat} {d : Bool} {v t1 t2 : Int32} (K : wOK W) (I : ivl W r d v a b) (hx : a ≤ x ∧ x ≤ b) (s1 : (t1 = 0 ∧ ((x : Int) + 1 = (W 0).toInt ∨ ¬ tog W x d)) ∨ (t1 = (1 : Int32) <<< (nI (x + 1) &&& 31) ∧ (x : Int) + 1 < (W 0).toInt ∧ tog W x d)) (s2 : (t2 = 0 ∧ (x = 0 ∨ ¬ tog W (x - 1) (!d))) ∨ (t2 = (1 : Int32) <<< (nI (x - 1) &&& 31) ∧ 0 < x ∧ tog W (x - 1) (!d))) : ∃ a2 b2, ivl W r d ((v ||| t1) ||| t2) a2 b2 ∧ a2 ≤ a ∧ (x < b2 ∨ fnB W d b2) ∧ (x = a → fnA W d a2 ∨ a2 + 1 ≤ a) ∧ (x ≠ a → a2 = a) := by
  have K0 := K.1
  obtain ⟨i0, i1, i2, i3, i4, i5⟩ := I
  have hb : ∃ b2, b ≤ b2 ∧ b2 ≤ b + 1 ∧ (b2 : Int) < (W 0).toInt ∧ (∀ j, r ≤ j → j < b2 → tog W j d) ∧ (x < b2 ∨ fnB W d b2) ∧ (∀ i, i < 32 → (bt (v ||| t1) i = true ↔ (a ≤ i ∧ i ≤ b2))) := by
    rcases s1 with ⟨rfl, h⟩ | ⟨rfl, h1, h2⟩
    · refine ⟨b, Nat.le_refl _, by omega, i3, i4, ?_, fun i hi => ?_⟩
      · by_cases q : x < b
        · exact Or.inl q
        · have : x = b := by omega
          subst this
          exact Or.inr h
      · rw [b_or, b_0, Bool.or_false]; exact i0 i hi
    · by_cases q : x = b
      · subst q
        refine ⟨x + 1, by omega, by omega, by omega, fun j u w => ?_, Or.inl (by omega), fun i hi => ?_⟩
        · by_cases y : j = x
          · subst y; exact h2
          · exact i4 j u (by omega)
        · rw [b_or, b_one (by omega) hi, Bool.or_eq_true, decide_eq_true_iff, i0 i hi]; omega
      · refine ⟨b, Nat.le_refl _, by omega, i3, i4, Or.inl (by omega), fun i hi => ?_⟩
        rw [b_or, b_one (by omega) hi, Bool.or_eq_true, decide_eq_true_iff, i0 i hi]; omega
  obtain ⟨b2, b3, b4, b5, b6, b7, b8⟩ := hb
  rcases s2 with ⟨rfl, h⟩ | ⟨rfl, h1, h2⟩
  · refine ⟨a, b2, ⟨fun i hi => by rw [b_or, b_0, Bool.or_false]; exact b8 i hi, i1, by omega, b5, b6, i5⟩, Nat.le_refl _, b7, fun z => ?_, fun _ => rfl⟩
    subst z
    exact Or.inl h
  · by_cases q : x = a
    · subst q
      refine ⟨x - 1, b2, ⟨fun i hi => ?_, by omega, by omega, b5, b6, fun j u w => ?_⟩, by omega, b7, fun _ => Or.inr (by omega), fun z => absurd rfl z⟩
      · rw [b_or, b_one (by omega) hi, Bool.or_eq_true, decide_eq_true_iff, b8 i hi]; omega
      · by_cases y : j = x - 1
        · subst y; exact h2
        · exact i5 j (by omega) w
    · refine ⟨a, b2, ⟨fun i hi => ?_, i1, by omega, b5, b6, i5⟩, Nat.le_refl _, b7, fun z => absurd z q, fun _ => rfl⟩
      rw [b_or, b_one (by omega) hi, Bool.or_eq_true, decide_eq_true_iff, b8 i hi]; omega
theorem E_X12_allWith_72 {W : jWd} {x : Nat} {d : Bool} {n : Nat} {rc7 : Nat → Int32 → Int32 → Int32 → jH → Option Int32} {rc17 : Nat → Int32 → Int32 → Int32 → Int32 → jH → Option Int32} {a0 : Nat} {x2 : Int32} {x4 : Int32} {x5 : Int32} {s0 : Int32} {s1 : Int32} {h : jH} {q : Int32} (M : mS (oc h) a0) (hW : wl (oc h) a0 = W) (K : wOK W) (hx : x5 = nI x) (hi : (x : Int) < (W 0).toInt) (hd : x2 = dI d) (hf : F_X12_allWith_72 n rc7 rc17 a0 x2 x4 x5 s0 s1 h = some q) : ∃ t2 : Int32, ((t2 = 0 ∧ (x = 0 ∨ ¬ tog W (x - 1) (!d))) ∨ (t2 = (1 : Int32) <<< (nI (x - 1) &&& 31) ∧ 0 < x ∧ tog W (x - 1) (!d))) ∧ rc17 a0 x2 ((s0 ||| s1) ||| t2) x4 (x5 + (1 : Int32)) h = some q := by
  unfold F_X12_allWith_72 at hf
  have K0 := K.1
  have l0 : (0 : Int32).toInt = 0 := rfl
  have K9 : wOK (wl (oc h) a0) := by rw [hW]; exact K
  replace hf := jite hf
  rcases hf with ⟨c1, hf⟩ | ⟨c1, hf⟩
  · skip
    -- leaf 0: rc17 a0 x2 ((s0 ||| s1) ||| (0 : Int32)) x4 (x5 + (1 : Int32)) h
    rw [hx, Int32.le_iff_toInt_le, nI_toInt (by omega)] at c1
    exact ⟨0, Or.inl ⟨rfl, Or.inl (by omega)⟩, hf⟩
  · skip
    replace hf := jbind hf
    obtain ⟨v88, e2, hf⟩ := hf
    replace e2 := (jcv_o e2).2
    have x0 : 0 < x := by
      rw [hx, Int32.le_iff_toInt_le, nI_toInt (by omega)] at c1
      omega
    have r2 := E_X12_takesAlong (i := x - 1) (d := d) (e := false) M K9 (by rw [hx]; show nI x = nI (x - 1 + 1); congr 1; omega) (by rw [hx]; obtain ⟨y, rfl⟩ : ∃ y, x = y + 1 := ⟨x - 1, by omega⟩; exact nI_pred y) (by rw [hW]; omega) hd e2
    rw [beq_f, hW] at r2
    replace hf := jite hf
    rcases hf with ⟨c3, hf⟩ | ⟨c3, hf⟩
    · skip
      -- leaf 10: rc17 a0 x2 ((s0 ||| s1) ||| (0 : Int32)) x4 (x5 + (1 : Int32)) h
      exact ⟨0, Or.inl ⟨rfl, Or.inr (fun z => absurd (c3.symm.trans (r2.2.mpr z)) (by decide))⟩, hf⟩
    · skip
      -- leaf 11: rc17 a0 x2 ((s0 ||| s1) ||| ((1 : Int32) <<< ((x5 - (1 : Int32)) &&& 31))) x4 (x5 + (1 : Int32)) h
      refine ⟨_, Or.inr ⟨rfl, x0, r2.2.mp (r2.1.resolve_left c3)⟩, ?_⟩
      rw [show nI (x - 1) = x5 - (1 : Int32) by rw [hx]; obtain ⟨y, rfl⟩ : ∃ y, x = y + 1 := ⟨x - 1, by omega⟩; exact (nI_pred y).symm]
      exact hf
theorem E_X12_allWith_17 {n : Nat} {rc7 : Nat → Int32 → Int32 → Int32 → jH → Option Int32} {W : jWd} {r : Nat} {d : Bool} {A : Nat} (K : wOK W) : ∀ (k : Nat) {a0 : Nat} {x2 : Int32} {x3 : Int32} {x4 : Int32} {x5 : Int32} {h : jH} {q : Int32} (x : Nat) (a : Nat) (b : Nat) (M : mS (oc h) a0) (hW : wl (oc h) a0 = W) (hd : x2 = dI d) (hx : x5 = nI x) (hl : x ≤ 8) (I : ivl W r d x3 a b) (aA : a ≤ A) (U : x ≤ b ∨ fnB W d b) (D : (x ≤ a ∧ a = A) ∨ fnA W d a ∨ a + 1 ≤ A), F_X12_allWith_17 n rc7 k a0 x2 x3 x4 x5 h = some q → ∃ (v : Int32) (a2 b2 : Nat), ivl W r d v a2 b2 ∧ fnB W d b2 ∧ (fnA W d a2 ∨ a2 + 1 ≤ A) ∧ rc7 a0 x2 v (x4 + (1 : Int32)) h = some q
  | 0, a0, x2, x3, x4, x5, h, q, x, a, b, M, hW, hd, hx, hl, I, aA, U, D, hf => by cases hf
  | k + 1, a0, x2, x3, x4, x5, h, q, x, a, b, M, hW, hd, hx, hl, I, aA, U, D, hf => by
    replace hf : F_X12_allWith_17_b n rc7 (F_X12_allWith_17 n rc7 k) a0 x2 x3 x4 x5 h = some q := hf
    unfold F_X12_allWith_17_b at hf
    have K0 := K.1
    have I1 := I.2.2.2.1
    have I2 := I.1
    have I3 : a ≤ b := Nat.le_trans I.2.1 I.2.2.1
    have l1 : (1 : Int32).toInt = 1 := rfl
    have K9 : wOK (wl (oc h) a0) := by rw [hW]; exact K
    replace hf := jbind hf
    obtain ⟨v20, e1, hf⟩ := hf
    replace e1 := (jcv_o e1).2
    have r1 := E_X12_rings M e1
    subst r1
    replace hf := jite hf
    rcases hf with ⟨c2, hf⟩ | ⟨c2, hf⟩
    · skip
      -- leaf 0: rc7 a0 x2 x3 (x4 + (1 : Int32)) h
      rw [hW, hx, nI_eI (by omega)] at c2
      exact ⟨x3, a, b, I, U.resolve_left (by omega), D.resolve_left (by omega), hf⟩
    · skip
      replace hf := jbind hf
      obtain ⟨v29, e3, hf⟩ := hf
      have r3 := E_X12_has hx (by omega) e3
      replace hf := jite hf
      rcases hf with ⟨c4, hf⟩ | ⟨c4, hf⟩
      · skip
        -- leaf 10: rc17 a0 x2 x3 x4 (x5 + (1 : Int32)) h
        have nx : ¬ (a ≤ x ∧ x ≤ b) := fun z => absurd (c4.symm.trans (r3.2.mpr ((I2 x (by omega)).mpr z))) (by decide)
        rw [hW, hx, nI_eI (by omega)] at c2
        exact E_X12_allWith_17 (A := A) K k (x + 1) a b M hW hd (by rw [hx, nI_1]) (by omega) I aA (by rcases U with z | z; exact Or.inl (by omega); exact Or.inr z) (by rcases D with z | z; exact Or.inl (by omega); exact Or.inr z) hf
      · skip
        replace hf := jbind hf
        obtain ⟨v42, e5, hf⟩ := hf
        replace e5 := (jcv_o e5).2
        have r5 := E_X12_lastRing M e5
        subst r5
        replace hf := jite hf
        rcases hf with ⟨c6, hf⟩ | ⟨c6, hf⟩
        · skip
          -- leaf 110: F_X12_allWith_72 n rc7 rc17 a0 x2 x4 x5 x3 (0 : Int32) h
          have x8 : (x : Int) < (W 0).toInt := by rw [hW, hx, nI_eI (by omega)] at c2; omega
          have xin : a ≤ x ∧ x ≤ b := (I2 x (by omega)).mp (r3.2.mp (r3.1.resolve_left c4))
          rw [hW, hx, Int32.le_iff_toInt_le, jsub (by omega) (by omega), nI_toInt (by omega)] at c6
          have w1 : ((0 : Int32) = 0 ∧ ((x : Int) + 1 = (W 0).toInt ∨ ¬ tog W x d)) ∨ ((0 : Int32) = (1 : Int32) <<< (nI (x + 1) &&& 31) ∧ (x : Int) + 1 < (W 0).toInt ∧ tog W x d) := Or.inl ⟨rfl, Or.inl (by omega)⟩
          obtain ⟨t2, w2, hf⟩ := E_X12_allWith_72 M hW K hx x8 hd hf
          obtain ⟨a2, b2, I9, z1, z2, z3, z4⟩ := ivl_step K I xin w1 w2
          obtain ⟨v, a3, b3, y1, y2, y3, hf⟩ := E_X12_allWith_17 (A := A) K k (x + 1) a2 b2 M hW hd (by rw [hx, nI_1]) (by omega) I9 (by omega) (by rcases z2 with z | z; exact Or.inl (by omega); exact Or.inr z) (by
            by_cases xa : x = a
            · rcases z3 xa with z | z
              · exact Or.inr (Or.inl z)
              · exact Or.inr (Or.inr (by omega))
            · have ea := z4 xa
              rcases D with z | z | z
              · exact absurd xa (by omega)
              · exact Or.inr (Or.inl (by rw [ea]; exact z))
              · exact Or.inr (Or.inr (by omega))) hf
          exact ⟨v, a3, b3, y1, y2, y3, hf⟩
        · skip
          replace hf := jbind hf
          obtain ⟨v56, e7, hf⟩ := hf
          replace e7 := (jcv_o e7).2
          rw [hW, hx, Int32.le_iff_toInt_le, jsub (by omega) (by omega), nI_toInt (by omega)] at c6
          have r7 := E_X12_takesAlong (i := x) (d := d) (e := true) M K9 hx (by rw [hx, nI_1]; rfl) (by rw [hW]; omega) hd e7
          rw [beq_t, hW] at r7
          replace hf := jite hf
          rcases hf with ⟨c8, hf⟩ | ⟨c8, hf⟩
          · skip
            -- leaf 1110: F_X12_allWith_72 n rc7 rc17 a0 x2 x4 x5 x3 (0 : Int32) h
            have x8 : (x : Int) < (W 0).toInt := by rw [hW, hx, nI_eI (by omega)] at c2; omega
            have xin : a ≤ x ∧ x ≤ b := (I2 x (by omega)).mp (r3.2.mp (r3.1.resolve_left c4))
            have w1 : ((0 : Int32) = 0 ∧ ((x : Int) + 1 = (W 0).toInt ∨ ¬ tog W x d)) ∨ ((0 : Int32) = (1 : Int32) <<< (nI (x + 1) &&& 31) ∧ (x : Int) + 1 < (W 0).toInt ∧ tog W x d) := Or.inl ⟨rfl, Or.inr (fun z => absurd (c8.symm.trans (r7.2.mpr z)) (by decide))⟩
            obtain ⟨t2, w2, hf⟩ := E_X12_allWith_72 M hW K hx x8 hd hf
            obtain ⟨a2, b2, I9, z1, z2, z3, z4⟩ := ivl_step K I xin w1 w2
            obtain ⟨v, a3, b3, y1, y2, y3, hf⟩ := E_X12_allWith_17 (A := A) K k (x + 1) a2 b2 M hW hd (by rw [hx, nI_1]) (by omega) I9 (by omega) (by rcases z2 with z | z; exact Or.inl (by omega); exact Or.inr z) (by
              by_cases xa : x = a
              · rcases z3 xa with z | z
                · exact Or.inr (Or.inl z)
                · exact Or.inr (Or.inr (by omega))
              · have ea := z4 xa
                rcases D with z | z | z
                · exact absurd xa (by omega)
                · exact Or.inr (Or.inl (by rw [ea]; exact z))
                · exact Or.inr (Or.inr (by omega))) hf
            exact ⟨v, a3, b3, y1, y2, y3, hf⟩
          · skip
            -- leaf 1111: F_X12_allWith_72 n rc7 rc17 a0 x2 x4 x5 x3 ((1 : Int32) <<< ((x5 + (1 : Int32)) &&& 31)) h
            have x8 : (x : Int) < (W 0).toInt := by rw [hW, hx, nI_eI (by omega)] at c2; omega
            have xin : a ≤ x ∧ x ≤ b := (I2 x (by omega)).mp (r3.2.mp (r3.1.resolve_left c4))
            have x9 : (x : Int) + 1 < (W 0).toInt := by omega
            rw [hx, nI_1] at hf
            rw [← hx] at hf
            have w1 : ((1 : Int32) <<< (nI (x + 1) &&& 31) = 0 ∧ ((x : Int) + 1 = (W 0).toInt ∨ ¬ tog W x d)) ∨ ((1 : Int32) <<< (nI (x + 1) &&& 31) = (1 : Int32) <<< (nI (x + 1) &&& 31) ∧ (x : Int) + 1 < (W 0).toInt ∧ tog W x d) := Or.inr ⟨rfl, x9, r7.2.mp (r7.1.resolve_left c8)⟩
            obtain ⟨t2, w2, hf⟩ := E_X12_allWith_72 M hW K hx x8 hd hf
            obtain ⟨a2, b2, I9, z1, z2, z3, z4⟩ := ivl_step K I xin w1 w2
            obtain ⟨v, a3, b3, y1, y2, y3, hf⟩ := E_X12_allWith_17 (A := A) K k (x + 1) a2 b2 M hW hd (by rw [hx, nI_1]) (by omega) I9 (by omega) (by rcases z2 with z | z; exact Or.inl (by omega); exact Or.inr z) (by
              by_cases xa : x = a
              · rcases z3 xa with z | z
                · exact Or.inr (Or.inl z)
                · exact Or.inr (Or.inr (by omega))
              · have ea := z4 xa
                rcases D with z | z | z
                · exact absurd xa (by omega)
                · exact Or.inr (Or.inl (by rw [ea]; exact z))
                · exact Or.inr (Or.inr (by omega))) hf
            exact ⟨v, a3, b3, y1, y2, y3, hf⟩
theorem E_X12_allWith_7 {n : Nat} {W : jWd} {r : Nat} {d : Bool} (K : wOK W) : ∀ (k : Nat) {a0 : Nat} {x2 : Int32} {x3 : Int32} {x4 : Int32} {h : jH} {q : Int32} (t : Nat) (a : Nat) (b : Nat) (M : mS (oc h) a0) (hW : wl (oc h) a0 = W) (hd : x2 = dI d) (hx : x4 = nI t) (hl : t ≤ 8) (I : ivl W r d x3 a b) (U : t = 0 ∨ fnB W d b) (D : fnA W d a ∨ a + t ≤ r), F_X12_allWith_7 n k a0 x2 x3 x4 h = some q → ∃ a b : Nat, ivl W r d q a b ∧ fnB W d b ∧ fnA W d a
  | 0, a0, x2, x3, x4, h, q, t, a, b, M, hW, hd, hx, hl, I, U, D, hf => by cases hf
  | k + 1, a0, x2, x3, x4, h, q, t, a, b, M, hW, hd, hx, hl, I, U, D, hf => by
    replace hf : F_X12_allWith_7_b n (F_X12_allWith_7 n k) a0 x2 x3 x4 h = some q := hf
    unfold F_X12_allWith_7_b at hf
    have K0 := K.1
    have I1 := I.2.2.2.1
    have I2 := I.2.2.1
    have l8 : (8 : Int32).toInt = 8 := rfl
    replace hf := jite hf
    rcases hf with ⟨c1, hf⟩ | ⟨c1, hf⟩
    · skip
      cases hf
      -- leaf 0: x3
      rw [hx, Int32.le_iff_toInt_le, nI_toInt (by omega)] at c1
      exact ⟨a, b, I, U.resolve_left (by omega), D.resolve_right (by omega)⟩
    · skip
      -- leaf 1: F_X12_allWith_17 n rc7 n a0 x2 x3 x4 (0 : Int32) h
      rw [hx, Int32.le_iff_toInt_le, nI_toInt (by omega)] at c1
      obtain ⟨v, a2, b2, y1, y2, y3, hf⟩ := E_X12_allWith_17 (A := a) K n 0 a b M hW hd rfl (by omega) I (Nat.le_refl _) (Or.inl (Nat.zero_le _)) (Or.inl ⟨Nat.zero_le _, rfl⟩) hf
      refine E_X12_allWith_7 K k (t + 1) a2 b2 M hW hd (by rw [hx, nI_1]) (by omega) y1 (Or.inr y2) ?_ hf
      rcases y3 with z | z
      · exact Or.inl z
      · rcases D with w | w
        · have := I.2.1
          exact absurd (y1.2.2.2.2.2 (a - 1) (by omega) (by omega)) (w.resolve_left (by omega))
        · exact Or.inr (by omega)
theorem E_X12_allWith {W : jWd} {r : Nat} {d : Bool} {n : Nat} {a0 : Nat} {x1 : Int32} {x2 : Int32} {h : jH} {q : Int32} (M : mS (oc h) a0) (hW : wl (oc h) a0 = W) (K : wOK W) (h1 : x1 = nI r) (hr : (r : Int) < (W 0).toInt) (hd : x2 = dI d) (hf : F_X12_allWith n a0 x1 x2 h = some q) : ∃ a b : Nat, ivl W r d q a b ∧ fnB W d b ∧ fnA W d a := by
  unfold F_X12_allWith at hf
  have K0 := K.1
  -- leaf : F_X12_allWith_7 n n a0 x2 ((1 : Int32) <<< (x1 &&& 31)) (0 : Int32) h
  exact E_X12_allWith_7 K n 0 r r M hW hd rfl (by omega) ⟨fun i hi => by rw [h1, b_one (by omega) hi, decide_eq_true_iff]; omega, Nat.le_refl _, Nat.le_refl _, hr, fun j u w => by omega, fun j u w => by omega⟩ (Or.inl rfl) (Or.inr (by omega)) hf
theorem E_X12_in {n : Nat} {x0 : Int32} {x1 : Int32} {x2 : Int32} {h : jH} {q : Int32} (hf : F_X12_in n x0 x1 x2 h = some q) : (q = 0 ∨ q = 1) ∧ (q = 1 ↔ (x1.toInt ≤ x0.toInt ∧ x0.toInt ≤ x2.toInt)) := by
  unfold F_X12_in at hf
  replace hf := jite hf
  rcases hf with ⟨c1, hf⟩ | ⟨c1, hf⟩
  · skip
    cases hf
    -- leaf 0: (0 : Int32)
    rw [Int32.lt_iff_toInt_lt] at c1
    exact ⟨Or.inl rfl, fun z => absurd z (by decide), fun z => by omega⟩
  · skip
    replace hf := jite hf
    rcases hf with ⟨c2, hf⟩ | ⟨c2, hf⟩
    · skip
      cases hf
      -- leaf 10: (0 : Int32)
      rw [Int32.lt_iff_toInt_lt] at c1 c2
      exact ⟨Or.inl rfl, fun z => absurd z (by decide), fun z => by omega⟩
    · skip
      cases hf
      -- leaf 11: (1 : Int32)
      rw [Int32.lt_iff_toInt_lt] at c1 c2
      exact ⟨Or.inr rfl, fun _ => by omega, fun _ => rfl⟩
theorem E_X12_noPlace {n : Nat} {x0 : Int32} {h : jH} {q : Int32} (hf : F_X12_noPlace n x0 h = some q) : (q = 0 ∨ q = 1) ∧ (q = 1 ↔ ¬ (0 ≤ x0.toInt ∧ x0.toInt ≤ 31)) := by
  unfold F_X12_noPlace at hf
  replace hf := jbind hf
  obtain ⟨v4, e1, hf⟩ := hf
  have r1 := E_X12_in e1
  replace hf := jite hf
  rcases hf with ⟨c2, hf⟩ | ⟨c2, hf⟩
  · skip
    cases hf
    -- leaf 0: (1 : Int32)
    exact ⟨Or.inr rfl, fun _ z => absurd (c2.symm.trans (r1.2.mpr z)) (by decide), fun _ => rfl⟩
  · skip
    cases hf
    -- leaf 1: (0 : Int32)
    exact ⟨Or.inl rfl, fun z => absurd z (by decide), fun z => absurd (r1.2.mp (r1.1.resolve_left c2)) z⟩
theorem E_X12_noSteps {n : Nat} {x0 : Int32} {h : jH} {q : Int32} (hf : F_X12_noSteps n x0 h = some q) : (q = 0 ∨ q = 1) ∧ (q = 1 ↔ ¬ (1 ≤ x0.toInt ∧ x0.toInt ≤ 31)) := by
  unfold F_X12_noSteps at hf
  replace hf := jbind hf
  obtain ⟨v4, e1, hf⟩ := hf
  have r1 := E_X12_in e1
  replace hf := jite hf
  rcases hf with ⟨c2, hf⟩ | ⟨c2, hf⟩
  · skip
    cases hf
    -- leaf 0: (1 : Int32)
    exact ⟨Or.inr rfl, fun _ z => absurd (c2.symm.trans (r1.2.mpr z)) (by decide), fun _ => rfl⟩
  · skip
    cases hf
    -- leaf 1: (0 : Int32)
    exact ⟨Or.inl rfl, fun z => absurd z (by decide), fun z => absurd (r1.2.mp (r1.1.resolve_left c2)) z⟩
theorem E_X12_mayGo_20 {W : jWd} {i : Nat} {d : Bool} {n : Nat} {a0 : Nat} {x1 : Int32} {x2 : Int32} {x3 : Int32} {s0 : Int32} {h : jH} {q : Int32} (M : mS (oc h) a0) (hW : wl (oc h) a0 = W) (K : wOK W) (h1 : x1 = nI i) (hi : (i : Int) < (W 0).toInt) (hd : x2 = dI d) (h3 : x3 = W (11 + 8 * i)) (h0 : s0.toInt = (W (11 + 8 * i)).toInt + (if d = true then 1 else -1)) (hf : F_X12_mayGo_20 n a0 x1 x2 x3 s0 h = some q) : (q = 0 ∨ q = 1) ∧ (q = 1 ↔ ¬ stp W i d) := by
  unfold F_X12_mayGo_20 at hf
  have K0 := K.1
  have kp := (K.2.1 i hi).1
  have l1 : (1 : Int32).toInt = 1 := rfl
  obtain ⟨s1, s2, s3, s4, s5, s8, s15, s17, s19, s20, s21⟩ := id M
  replace hf := jbind hf
  obtain ⟨v20, e1, hf⟩ := hf
  have r1 := E_X12_noPlace e1
  replace hf := jite hf
  rcases hf with ⟨c2, hf⟩ | ⟨c2, hf⟩
  · skip
    replace hf := jbind hf
    obtain ⟨v31, e3, hf⟩ := hf
    replace e3 := (jcv_o e3).2
    have r3 := E_X12_is M (j := 2) (t := 13 + 8 * i) h1 rfl (by omega) (by omega) e3
    replace hf := jite hf
    rcases hf with ⟨c4, hf⟩ | ⟨c4, hf⟩
    · skip
      cases hf
      -- leaf 00: (1 : Int32)
      have nin : 0 ≤ s0.toInt ∧ s0.toInt ≤ 31 := Classical.byContradiction fun z => absurd (c2.symm.trans (r1.2.mpr z)) (by decide)
      have n1 : ¬ (W (11 + 8 * i)).toInt = (if d = true then 31 else 0) := fun z => by
        cases d with
        | true => rw [if_pos rfl] at z h0; omega
        | false => rw [if_neg (by decide)] at z h0; omega
      rw [hW] at r3
      refine ⟨Or.inr rfl, fun _ z => ?_, fun _ => rfl⟩
      rcases z with z | ⟨z, -⟩
      · exact n1 z
      · exact absurd (c4.symm.trans (r3.2.mpr z)) (by decide)
    · skip
      replace hf := jite hf
      rcases hf with ⟨c5, hf⟩ | ⟨c5, hf⟩
      · skip
        replace hf := jbind hf
        obtain ⟨p49, e6, hf⟩ := hf
        have r6 := oc_gR e6
        rw [s1] at r6
        cases r6
        clear e6
        replace hf := jbind hf
        obtain ⟨v53, e7, hf⟩ := hf
        obtain ⟨r7, y7⟩ := oc_al e7
        rw [show (5 : Int32).toNatClampNeg = 5 from rfl] at r7
        subst r7
        clear e7
        replace hf := jite hf
        rcases hf with ⟨c8, hf⟩ | ⟨c8, hf⟩
        · skip
          cases hf
          -- leaf 0100: (0 : Int32)
          have th : W (13 + 8 * i) = 1 := by rw [← hW]; exact r3.2.mp (r3.1.resolve_left c4)
          have w5 : oi (oc h) (a0 + 1) 5 = W 5 := by rw [← hW]
          have kj := K.2.2.2.2.2.2.1
          have dz : d = false := by cases d with | false => rfl | true => exact absurd (hd.symm.trans c5) (by decide)
          subst dz
          rw [w5, h3] at c8
          exact ⟨Or.inl rfl, fun z => absurd z (by decide), fun z => absurd (Or.inr ⟨th, by rw [c8]; rfl⟩) z⟩
        · skip
          cases hf
          -- leaf 0101: (1 : Int32)
          have nin : 0 ≤ s0.toInt ∧ s0.toInt ≤ 31 := Classical.byContradiction fun z => absurd (c2.symm.trans (r1.2.mpr z)) (by decide)
          have n1 : ¬ (W (11 + 8 * i)).toInt = (if d = true then 31 else 0) := fun z => by
            cases d with
            | true => rw [if_pos rfl] at z h0; omega
            | false => rw [if_neg (by decide)] at z h0; omega
          have th : W (13 + 8 * i) = 1 := by rw [← hW]; exact r3.2.mp (r3.1.resolve_left c4)
          have w5 : oi (oc h) (a0 + 1) 5 = W 5 := by rw [← hW]
          have kj := K.2.2.2.2.2.2.1
          have dz : d = false := by cases d with | false => rfl | true => exact absurd (hd.symm.trans c5) (by decide)
          subst dz
          rw [w5, h3] at c8
          refine ⟨Or.inr rfl, fun _ z => ?_, fun _ => rfl⟩
          rcases z with z | ⟨-, z⟩
          · exact n1 z
          · exact c8 (i_eq.mpr z)
      · skip
        replace hf := jbind hf
        obtain ⟨p49, e9, hf⟩ := hf
        have r9 := oc_gR e9
        rw [s1] at r9
        cases r9
        clear e9
        replace hf := jbind hf
        obtain ⟨v53, e10, hf⟩ := hf
        obtain ⟨r10, y10⟩ := oc_al e10
        rw [show (5 : Int32).toNatClampNeg = 5 from rfl] at r10
        subst r10
        clear e10
        replace hf := jite hf
        rcases hf with ⟨c11, hf⟩ | ⟨c11, hf⟩
        · skip
          cases hf
          -- leaf 0110: (0 : Int32)
          have th : W (13 + 8 * i) = 1 := by rw [← hW]; exact r3.2.mp (r3.1.resolve_left c4)
          have w5 : oi (oc h) (a0 + 1) 5 = W 5 := by rw [← hW]
          have kj := K.2.2.2.2.2.2.1
          have dz : d = true := by cases d with | true => rfl | false => exact absurd hd c5
          subst dz
          rw [w5, h3, i_eq, jadd (by omega) (by omega)] at c11
          exact ⟨Or.inl rfl, fun z => absurd z (by decide), fun z => absurd (Or.inr ⟨th, by rw [if_pos rfl]; omega⟩) z⟩
        · skip
          cases hf
          -- leaf 0111: (1 : Int32)
          have nin : 0 ≤ s0.toInt ∧ s0.toInt ≤ 31 := Classical.byContradiction fun z => absurd (c2.symm.trans (r1.2.mpr z)) (by decide)
          have n1 : ¬ (W (11 + 8 * i)).toInt = (if d = true then 31 else 0) := fun z => by
            cases d with
            | true => rw [if_pos rfl] at z h0; omega
            | false => rw [if_neg (by decide)] at z h0; omega
          have th : W (13 + 8 * i) = 1 := by rw [← hW]; exact r3.2.mp (r3.1.resolve_left c4)
          have w5 : oi (oc h) (a0 + 1) 5 = W 5 := by rw [← hW]
          have kj := K.2.2.2.2.2.2.1
          have dz : d = true := by cases d with | true => rfl | false => exact absurd hd c5
          subst dz
          rw [w5, h3, i_eq, jadd (by omega) (by omega)] at c11
          refine ⟨Or.inr rfl, fun _ z => ?_, fun _ => rfl⟩
          rcases z with z | ⟨-, z⟩
          · exact n1 z
          · rw [if_pos rfl] at z; omega
  · skip
    cases hf
    -- leaf 1: (0 : Int32)
    have out : ¬ (0 ≤ s0.toInt ∧ s0.toInt ≤ 31) := r1.2.mp (r1.1.resolve_left c2)
    refine ⟨Or.inl rfl, fun z => absurd z (by decide), fun z => absurd (Or.inl ?_) z⟩
    cases d with
    | true => rw [if_pos rfl] at h0 ⊢; omega
    | false => rw [if_neg (by decide)] at h0 ⊢; omega
theorem E_X12_mayGo {W : jWd} {i : Nat} {d : Bool} {n : Nat} {a0 : Nat} {x1 : Int32} {x2 : Int32} {h : jH} {q : Int32} (M : mS (oc h) a0) (hW : wl (oc h) a0 = W) (K : wOK W) (h1 : x1 = nI i) (hi : (i : Int) < (W 0).toInt) (hd : x2 = dI d) (hf : F_X12_mayGo n a0 x1 x2 h = some q) : (q = 0 ∨ q = 1) ∧ (q = 1 ↔ ¬ stp W i d) := by
  unfold F_X12_mayGo at hf
  have K0 := K.1
  have kp := (K.2.1 i hi).1
  have l1 : (1 : Int32).toInt = 1 := rfl
  have ew : wl (oc h) a0 (11 + 8 * i) = W (11 + 8 * i) := by rw [hW]
  replace hf := jbind hf
  obtain ⟨v3, e1, hf⟩ := hf
  replace e1 := (jcv_o e1).2
  have r1 := E_X12_of M (j := 0) (t := 11 + 8 * i) h1 rfl (by omega) (by omega) e1
  subst r1
  replace hf := jite hf
  rcases hf with ⟨c2, hf⟩ | ⟨c2, hf⟩
  · skip
    -- leaf 0: F_X12_mayGo_20 n a0 x1 x2 v3 (v3 - (1 : Int32)) h
    have dz : d = false := by cases d with | false => rfl | true => exact absurd (hd.symm.trans c2) (by decide)
    subst dz
    exact E_X12_mayGo_20 M hW K h1 hi hd ew (by rw [ew, jsub (by omega) (by omega), if_neg (by decide)]; omega) hf
  · skip
    -- leaf 1: F_X12_mayGo_20 n a0 x1 x2 v3 (v3 + (1 : Int32)) h
    have dz : d = true := by cases d with | true => rfl | false => exact absurd hd c2
    subst dz
    exact E_X12_mayGo_20 M hW K h1 hi hd ew (by rw [ew, jadd (by omega) (by omega), if_pos rfl]; omega) hf
theorem E_X12_goingBy_13 {n : Nat} {W : jWd} {d : Bool} (K : wOK W) : ∀ (k : Nat) {a0 : Nat} {x2 : Int32} {x3 : Int32} {x4 : Int32} {x5 : Int32} {h : jH} {q : Int32} (x : Nat) (M : mS (oc h) a0) (hW : wl (oc h) a0 = W) (hd : x2 = dI d) (hx : x5 = nI x) (hl : (x : Int) ≤ (W 0).toInt) (hv : ∀ j, j < 32 → bt x3 j = true → (j : Int) < (W 0).toInt) (h4 : (x4 = 0 ∨ x4 = 1) ∧ (x4 = 1 ↔ ∀ j, j < x → bt x3 j = true → ¬ stp W j d)), F_X12_goingBy_13 n k a0 x2 x3 x4 x5 h = some q → (q = 0 ∧ ∃ j, j < 32 ∧ bt x3 j = true ∧ stp W j d) ∨ (q = x3 ∧ ∀ j, j < 32 → bt x3 j = true → ¬ stp W j d)
  | 0, a0, x2, x3, x4, x5, h, q, x, M, hW, hd, hx, hl, hv, h4, hf => by cases hf
  | k + 1, a0, x2, x3, x4, x5, h, q, x, M, hW, hd, hx, hl, hv, h4, hf => by
    replace hf : F_X12_goingBy_13_b n (F_X12_goingBy_13 n k) a0 x2 x3 x4 x5 h = some q := hf
    unfold F_X12_goingBy_13_b at hf
    have K0 := K.1
    replace hf := jbind hf
    obtain ⟨v16, e1, hf⟩ := hf
    replace e1 := (jcv_o e1).2
    have r1 := E_X12_rings M e1
    subst r1
    replace hf := jite hf
    rcases hf with ⟨c2, hf⟩ | ⟨c2, hf⟩
    · skip
      replace hf := jite hf
      rcases hf with ⟨c3, hf⟩ | ⟨c3, hf⟩
      · skip
        cases hf
        -- leaf 00: (0 : Int32)
        rw [hW, hx, nI_eI (by omega)] at c2
        refine Or.inl ⟨rfl, ?_⟩
        have nn : ¬ ∀ j, j < x → bt x3 j = true → ¬ stp W j d := fun z => absurd (c3.symm.trans (h4.2.mpr z)) (by decide)
        refine Classical.byContradiction fun z => nn fun j a b y => z ⟨j, by omega, b, y⟩
      · skip
        cases hf
        -- leaf 01: x3
        rw [hW, hx, nI_eI (by omega)] at c2
        refine Or.inr ⟨rfl, fun j a b => h4.2.mp (h4.1.resolve_left c3) j ?_ b⟩
        have := hv j a b
        omega
    · skip
      replace hf := jite hf
      rcases hf with ⟨c4, hf⟩ | ⟨c4, hf⟩
      · skip
        -- leaf 10: rc13 a0 x2 x3 (0 : Int32) (x5 + (1 : Int32)) h
        have x8 : (x : Int) < (W 0).toInt := by rw [hW, hx, nI_eI (by omega)] at c2; omega
        exact E_X12_goingBy_13 K k (x + 1) M hW hd (by rw [hx, nI_1]) (by omega) hv ⟨Or.inl rfl, fun z => absurd z (by decide), fun z => absurd (c4.symm.trans (h4.2.mpr (fun j a b => z j (by omega) b))) (by decide)⟩ hf
      · skip
        replace hf := jbind hf
        obtain ⟨v30, e5, hf⟩ := hf
        have r5 := E_X12_has hx (by omega) e5
        replace hf := jite hf
        rcases hf with ⟨c6, hf⟩ | ⟨c6, hf⟩
        · skip
          -- leaf 110: rc13 a0 x2 x3 (1 : Int32) (x5 + (1 : Int32)) h
          have x8 : (x : Int) < (W 0).toInt := by rw [hW, hx, nI_eI (by omega)] at c2; omega
          exact E_X12_goingBy_13 K k (x + 1) M hW hd (by rw [hx, nI_1]) (by omega) hv ⟨Or.inr rfl, fun _ j a b => by
            by_cases y : j = x
            · subst y; exact absurd (c6.symm.trans (r5.2.mpr b)) (by decide)
            · exact h4.2.mp (h4.1.resolve_left c4) j (by omega) b, fun _ => rfl⟩ hf
        · skip
          replace hf := jbind hf
          obtain ⟨v40, e7, hf⟩ := hf
          replace e7 := (jcv_o e7).2
          have x8 : (x : Int) < (W 0).toInt := by rw [hW, hx, nI_eI (by omega)] at c2; omega
          have r7 := E_X12_mayGo M hW K hx x8 hd e7
          replace hf := jite hf
          rcases hf with ⟨c8, hf⟩ | ⟨c8, hf⟩
          · skip
            -- leaf 1110: rc13 a0 x2 x3 (0 : Int32) (x5 + (1 : Int32)) h
            exact E_X12_goingBy_13 K k (x + 1) M hW hd (by rw [hx, nI_1]) (by omega) hv ⟨Or.inl rfl, fun z => absurd z (by decide), fun z => absurd (c8.symm.trans (r7.2.mpr (z x (by omega) (r5.2.mp (r5.1.resolve_left c6))))) (by decide)⟩ hf
          · skip
            -- leaf 1111: rc13 a0 x2 x3 (1 : Int32) (x5 + (1 : Int32)) h
            exact E_X12_goingBy_13 K k (x + 1) M hW hd (by rw [hx, nI_1]) (by omega) hv ⟨Or.inr rfl, fun _ j a b => by
              by_cases y : j = x
              · subst y; exact r7.2.mp (r7.1.resolve_left c8)
              · exact h4.2.mp (h4.1.resolve_left c4) j (by omega) b, fun _ => rfl⟩ hf
theorem E_X12_goingBy {W : jWd} {r : Nat} {d : Bool} {n : Nat} {a0 : Nat} {x1 : Int32} {x2 : Int32} {h : jH} {q : Int32} (M : mS (oc h) a0) (hW : wl (oc h) a0 = W) (K : wOK W) (h1 : x1 = nI r) (hr : (r : Int) < (W 0).toInt) (hd : x2 = dI d) (hf : F_X12_goingBy n a0 x1 x2 h = some q) : goB W r d q := by
  unfold F_X12_goingBy at hf
  have K0 := K.1
  replace hf := jbind hf
  obtain ⟨v3, e1, hf⟩ := hf
  replace e1 := (jcv_o e1).2
  obtain ⟨a, b, I, fb, fa⟩ := E_X12_allWith M hW K h1 hr hd e1
  -- leaf : F_X12_goingBy_13 n n a0 x2 v3 (1 : Int32) (0 : Int32) h
  have I1 := I.2.2.2.1
  have gi := ivl_gos I fb fa
  have I0 := I.1
  rcases E_X12_goingBy_13 K n 0 M hW hd rfl (by omega) (fun j a9 b9 => by have := (I0 j a9).mp b9; omega) ⟨Or.inr rfl, fun _ j a9 => by omega, fun _ => rfl⟩ hf with ⟨rfl, j, j0, j1, j2⟩ | ⟨rfl, hs⟩
  · intro i h32
    rw [b_0]
    exact ⟨fun z => absurd z (by decide), fun z => absurd j2 (z.2 j ((gi j).mpr ((I0 j j0).mp j1)))⟩
  · intro i h32
    rw [I0 i h32, ← gi i]
    exact ⟨fun z => ⟨z, fun j u => hs j (by have := u.1; omega) ((I0 j (by have := u.1; omega)).mpr ((gi j).mp u))⟩, fun z => z.1⟩
