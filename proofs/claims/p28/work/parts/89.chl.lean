/-! lines of the class's law -/
def frL (l : Nat) (O O2 : jO) : Prop := ∀ a k, a ≠ l + 5 → ¬ (a = l ∧ k = 5) → O2 a k = O a k
theorem frL_rfl {l : Nat} {O : jO} : frL l O O := fun _ _ _ _ => rfl
theorem frL_tr {l : Nat} {O O2 O3 : jO} (a : frL l O O2) (b : frL l O2 O3) : frL l O O3 := fun x k h q => (b x k h q).trans (a x k h q)
theorem lawS_L {l : Nat} {O O2 : jO} (s : lawS O l) (f : frL l O O2) : lawS O2 l := by
  obtain ⟨s0, s1, s2, s3, s4⟩ := s
  exact ⟨(f _ _ (by omega) (by omega)).trans s0, (f _ _ (by omega) (by omega)).trans s1, (f _ _ (by omega) (by omega)).trans s2, (f _ _ (by omega) (by omega)).trans s3, (f _ _ (by omega) (by omega)).trans s4⟩
theorem oi_L {l a k : Nat} {O O2 : jO} (f : frL l O O2) (h : a ≠ l + 5) (h2 : ¬ (a = l ∧ k = 5)) : oi O2 a k = oi O a k := by
  unfold oi
  rw [f a k h h2]
theorem linE_L {l n : Nat} {O O2 : jO} {W : jWd} (s : linE O l W n) (f : frL l O O2) : linE O2 l W n := by
  intro i hi
  obtain ⟨a1, a2, a3, a4, a5, a6, a7, a8, a9, a10, a11⟩ := s i hi
  refine ⟨(oi_L f (by omega) (by omega)).trans a1, (oi_L f (by omega) (by omega)).trans a2, (oi_L f (by omega) (by omega)).trans a3, a4, a5, a6, a7, a8, a9, fun j h1 h2 => ?_, a11⟩
  rw [oi_L f (by omega) (by omega)]
  exact a10 j h1 h2
theorem rodE_L {l b : Nat} {O O2 : jO} {W : jWd} (R : rodE O b W) (f : frL l O O2) (d : b + 6 < l ∨ l + 5 < b) : rodE O2 b W := rodE_fr R (fun a k h1 h2 => f a k (by omega) (by omega))
theorem tyR_pre {W : jWd} {a : Nat} : ∀ (m k : Nat) {ty : List Bool}, tyR W a (k + m) = some ty → ∃ t, tyR W a k = some t
  | 0, k, ty, e => ⟨ty, e⟩
  | m + 1, k, ty, e => by
    have e : tyR W a (k + m + 1) = some ty := e
    unfold tyR at e
    obtain ⟨t0, e0, -⟩ := jbind e
    exact tyR_pre m k e0
theorem tyC_len {s : Int32} {t u : List Bool} (ht : t.length ≤ 23) (e : tyC s t = some u) : u.length ≤ 23 := by
  unfold tyC at e
  by_cases c : s.toInt ≤ 11
  · rw [if_pos c] at e
    split at e
    · cases e; show t.length + 1 ≤ 23; omega
    · cases e
  rw [if_neg c] at e
  by_cases c15 : s = 15
  · rw [if_pos c15] at e
    match t, e, ht with
    | true :: t, e, ht => cases e; exact ht
    | false :: t, e, ht => cases e
    | [], e, ht => cases e
  rw [if_neg c15] at e
  by_cases c12 : s = 12
  · rw [if_pos c12] at e
    match t, e, ht with
    | false :: false :: t, e, ht => cases e; exact Nat.le_trans (Nat.le_succ _) ht
    | true :: t, e, ht => cases e
    | [], e, ht => cases e
    | [false], e, ht => cases e
    | false :: true :: t, e, ht => cases e
  rw [if_neg c12] at e
  by_cases c13 : s = 13 ∨ s = 14
  · rw [if_pos c13] at e
    match t, e, ht with
    | false :: false :: t, e, ht => cases e; exact Nat.le_trans (Nat.le_succ _) ht
    | true :: t, e, ht => cases e
    | [], e, ht => cases e
    | [false], e, ht => cases e
    | false :: true :: t, e, ht => cases e
  rw [if_neg c13] at e
  by_cases c16 : s = 16 ∨ s = 17
  · rw [if_pos c16] at e
    match t, e, ht with
    | true :: true :: t, e, ht => cases e; exact Nat.le_trans (Nat.le_succ _) ht
    | false :: t, e, ht => cases e
    | [], e, ht => cases e
    | [true], e, ht => cases e
    | true :: false :: t, e, ht => cases e
  · rw [if_neg c16] at e
    cases e
theorem tyR_len {W : jWd} {a : Nat} : ∀ (k : Nat) {ty : List Bool}, tyR W a k = some ty → ty.length ≤ 23
  | 0, ty, e => by cases e; exact Nat.zero_le _
  | k + 1, ty, e => by
    unfold tyR at e
    obtain ⟨t0, e0, e1⟩ := jbind e
    exact tyC_len (tyR_len k e0) e1
theorem E_X2_joined {n : Nat} {c s m a b q : Int32} {h : jH} (hc : codeR c s m) (h11 : 11 < s.toInt) (h15 : s ≠ 15) (h01 : s = 16 ∨ s = 17 → (a = 0 ∨ a = 1) ∧ (b = 0 ∨ b = 1)) (hf : F_X2_joined n c a b h = some q) : q = opW s a b := by
  unfold F_X2_joined at hf
  rcases hc with ⟨-, z, -⟩ | ⟨z, -⟩ | ⟨rfl, rfl⟩ | ⟨rfl, rfl⟩ | ⟨rfl, rfl⟩ | ⟨z, -⟩ | ⟨rfl, rfl⟩ | ⟨rfl, rfl⟩
  · omega
  · rw [z] at h11; exact absurd h11 (by decide)
  · replace hf : some (a + b) = some q := hf
    cases hf
    rfl
  · replace hf : (if b ≤ a then some (0 : Int32) else some 1) = some q := hf
    show q = if decide (a < b) = true then 1 else 0
    rcases jite hf with ⟨z, hf⟩ | ⟨z, hf⟩ <;> cases hf
    · rw [if_neg (by rw [decide_eq_true_iff, Int32.lt_iff_toInt_lt]; rw [Int32.le_iff_toInt_le] at z; omega)]
    · rw [if_pos (by rw [decide_eq_true_iff, Int32.lt_iff_toInt_lt]; rw [Int32.le_iff_toInt_le] at z; omega)]
  · replace hf : (if a ≤ b then some (0 : Int32) else some 1) = some q := hf
    show q = if decide (b < a) = true then 1 else 0
    rcases jite hf with ⟨z, hf⟩ | ⟨z, hf⟩ <;> cases hf
    · rw [if_neg (by rw [decide_eq_true_iff, Int32.lt_iff_toInt_lt]; rw [Int32.le_iff_toInt_le] at z; omega)]
    · rw [if_pos (by rw [decide_eq_true_iff, Int32.lt_iff_toInt_lt]; rw [Int32.le_iff_toInt_le] at z; omega)]
  · exact absurd z h15
  · replace hf : some (a &&& b) = some q := hf
    cases hf
    obtain ⟨ha, hb⟩ := h01 (Or.inl rfl)
    rcases ha with rfl | rfl <;> rcases hb with rfl | rfl <;> decide
  · replace hf : some (a ||| b) = some q := hf
    cases hf
    obtain ⟨ha, hb⟩ := h01 (Or.inr rfl)
    rcases ha with rfl | rfl <;> rcases hb with rfl | rfl <;> decide
theorem E_X2_isValue {n : Nat} {c s m q : Int32} {h : jH} (hc : codeR c s m) (hf : F_X2_isValue n c h = some q) : (q = 0 ∨ q = 1) ∧ (q = 1 ↔ s.toInt ≤ 11) := by
  unfold F_X2_isValue at hf
  rcases hc with ⟨z0, z1, rfl⟩ | ⟨rfl, z0, z1, z2⟩ | ⟨rfl, rfl⟩ | ⟨rfl, rfl⟩ | ⟨rfl, rfl⟩ | ⟨rfl, rfl⟩ | ⟨rfl, rfl⟩ | ⟨rfl, rfl⟩
  · rcases jite hf with ⟨z, hf⟩ | ⟨z, hf⟩
    · rw [Int32.le_iff_toInt_le, show (256 : Int32).toInt = 256 from rfl] at z; omega
    · rcases jite hf with ⟨y, hf⟩ | ⟨y, hf⟩
      · rw [Int32.lt_iff_toInt_lt, show (10 : Int32).toInt = 10 from rfl] at y; omega
      · cases hf; exact ⟨Or.inr rfl, fun _ => by omega, fun _ => rfl⟩
  · rcases jite hf with ⟨z, hf⟩ | ⟨z, hf⟩
    · cases hf; exact ⟨Or.inr rfl, fun _ => by decide, fun _ => rfl⟩
    · rw [Int32.le_iff_toInt_le, show (256 : Int32).toInt = 256 from rfl] at z; omega
  all_goals
    replace hf := hf.symm.trans (show _ = some (0 : Int32) from rfl)
    cases hf
    exact ⟨Or.inl rfl, fun z => absurd z (by decide), fun z => absurd z (by decide)⟩
theorem tyC_not {t u : List Bool} (e : tyC 15 t = some u) : ∃ r, t = true :: r := by
  unfold tyC at e
  rw [if_neg (by decide), if_pos rfl] at e
  match t, e with
  | true :: r, e => exact ⟨r, rfl⟩
  | false :: r, e => cases e
  | [], e => cases e
theorem tyC_bin {s : Int32} {t u : List Bool} (h11 : 11 < s.toInt) (h15 : s ≠ 15) (e : tyC s t = some u) : ∃ x y r, t = x :: y :: r ∧ (s = 16 ∨ s = 17 → x = true ∧ y = true) := by
  unfold tyC at e
  rw [if_neg (by omega), if_neg h15] at e
  by_cases c12 : s = 12
  · rw [if_pos c12] at e
    match t, e with
    | false :: false :: r, e => exact ⟨_, _, r, rfl, fun z => by rw [c12] at z; exact absurd z (by decide)⟩
    | true :: t, e => cases e
    | [], e => cases e
    | [false], e => cases e
    | false :: true :: t, e => cases e
  rw [if_neg c12] at e
  by_cases c13 : s = 13 ∨ s = 14
  · rw [if_pos c13] at e
    match t, e with
    | false :: false :: r, e => exact ⟨_, _, r, rfl, fun z => by rcases c13 with y | y <;> (rw [y] at z; exact absurd z (by decide))⟩
    | true :: t, e => cases e
    | [], e => cases e
    | [false], e => cases e
    | false :: true :: t, e => cases e
  rw [if_neg c13] at e
  by_cases c16 : s = 16 ∨ s = 17
  · rw [if_pos c16] at e
    match t, e with
    | true :: true :: r, e => exact ⟨_, _, r, rfl, fun _ => ⟨rfl, rfl⟩⟩
    | false :: t, e => cases e
    | [], e => cases e
    | [true], e => cases e
    | true :: false :: t, e => cases e
  · rw [if_neg c16] at e
    cases e
theorem tyR_nx {W : jWd} {a t len : Nat} {ty tk : List Bool} (e : tyR W a len = some ty) (h : t < len) (tk1 : tyR W a t = some tk) : ∃ tk2, tyC (W (484 + 2 * (a + t))) tk = some tk2 := by
  obtain ⟨t2, e2⟩ := tyR_pre (len - (t + 1)) (t + 1) (show tyR W a (t + 1 + (len - (t + 1))) = some ty by rw [show t + 1 + (len - (t + 1)) = len by omega]; exact e)
  unfold tyR at e2
  rw [tk1] at e2
  exact ⟨t2, e2⟩
theorem tyV_1 {st : List Int32} {b : Bool} {t : List Bool} (h : tyV (b :: t) st) : ∃ v u, st = v :: u ∧ (b = true → v = 0 ∨ v = 1) ∧ tyV t u := by
  cases st with
  | nil => exact h.elim
  | cons v u => exact ⟨v, u, rfl, h.1, h.2⟩
theorem sumW_p {W : jWd} {kind : Int32} {i n : Nat} (h : W (436 + 4 * n) = kind ∧ holdsW W i n) : sumW W kind i (n + 1) = sumW W kind i n + W (437 + 4 * n) := by
  unfold sumW
  rw [if_pos h]
  cases n <;> rfl
theorem sumW_n {W : jWd} {kind : Int32} {i n : Nat} (h : ¬ (W (436 + 4 * n) = kind ∧ holdsW W i n)) : sumW W kind i (n + 1) = sumW W kind i n := by
  unfold sumW
  rw [if_neg h]
  cases n <;> rfl
theorem stk0 {O : jO} {l : Nat} : stkE (u2 O l 5 (.int 0)) l [] := ⟨oi_eq, fun k hk => absurd hk (Nat.not_lt_zero k)⟩
theorem E_X2_holds_23 {n : Nat} {W : jWd} {i : Nat} {a : Nat} {len : Nat} {nl : Nat} {ln : Nat} (K : wOK W) (hi : (i : Int) < (W 0).toInt) (hl : (W (438 + 4 * ln)).toInt = (a : Int) ∧ (W (439 + 4 * ln)).toInt = ((a + len : Nat) : Int)) (hT : ∃ ty, tyR W a len = some ty ∧ (ty = [] ∨ ty = [true])) : ∀ (k : Nat) {a0 : Nat} {x1 : Int32} {a2 : Nat} {x3 : Int32} {x4 : Int32} {h : jH} {q : Int32 × jH} (t : Nat) (R : rodE (oc h) a2 W) (LS : lawS (oc h) a0) (LN : linE (oc h) a0 W nl) (T : stkE (oc h) a0 (runC W i a t)) (dj : a2 + 6 < a0 ∨ a0 + 5 < a2) (hn : ln < nl ∧ nl ≤ 12) (hx : x1 = nI ln) (hx3 : x3 = nI i) (h4 : x4 = nI (a + t)) (ht : t ≤ len), F_X2_holds_23 n k a0 x1 a2 x3 x4 h = some q → (q.1 = 0 ∨ q.1 = 1) ∧ (q.1 = 1 ↔ (runC W i a len).headD 1 = 1) ∧ frL a0 (oc h) (oc q.2) ∧ q.2.1 = h.1
  | 0, a0, x1, a2, x3, x4, h, q, t, R, LS, LN, T, dj, hn, hx, hx3, h4, ht, hf => by cases hf
  | k + 1, a0, x1, a2, x3, x4, h, q, t, R, LS, LN, T, dj, hn, hx, hx3, h4, ht, hf => by
    replace hf : F_X2_holds_23_b n (F_X2_holds_23 n k) a0 x1 a2 x3 x4 h = some q := hf
    unfold F_X2_holds_23_b at hf
    have K0 := K.1
    obtain ⟨w0, w1, w2, w3, w4⟩ := id LS
    obtain ⟨n1, n2, n3, n4, n5, n6, n7, n8, n9, n10, n11⟩ := LN ln hn.1
    obtain ⟨ty9, ty1, ty2⟩ := hT
    obtain ⟨tk, tk1⟩ := tyR_pre (len - t) t (show tyR W a (t + (len - t)) = some ty9 by rw [show t + (len - t) = len by omega]; exact ty1)
    have tv := tyR_ok K hi t tk1
    have tl := tyV_len tv
    have t23 := tyR_len t tk1
    have hl1 := hl.1
    have hl2 := hl.2
    replace hf := jbind hf
    obtain ⟨p26, e1, hf⟩ := hf
    have r1 := oc_gR e1
    rw [w2] at r1
    cases r1
    clear e1
    replace hf := jbind hf
    obtain ⟨v30, e2, hf⟩ := hf
    obtain ⟨r2, y2⟩ := oc_al e2
    subst r2
    clear e2
    replace hf := jite hf
    rcases hf with ⟨c3, hf⟩ | ⟨c3, hf⟩
    · skip
      replace hf := jbind hf
      obtain ⟨v113, e4, hf⟩ := hf
      have r4 := oc_gI e4
      subst r4
      clear e4
      replace hf := jite hf
      rcases hf with ⟨c5, hf⟩ | ⟨c5, hf⟩
      · skip
        cases hf
        -- leaf 00: ((1 : Int32), h)
        rw [hx, nI_cl (by omega), n3, h4, Int32.le_iff_toInt_le, nI_toInt (by omega), hl2] at c3
        have et : t = len := by omega
        subst et
        rw [T.1] at c5
        have e0 : (runC W i a t).length = 0 := by rw [show (0 : Int32) = nI 0 from rfl, nI_eq (by omega) (by omega)] at c5; exact c5
        rw [List.eq_nil_of_length_eq_zero e0]
        exact ⟨Or.inr rfl, ⟨fun _ => rfl, fun _ => rfl⟩, frL_rfl, rfl⟩
      · skip
        replace hf := jbind hf
        obtain ⟨q120, e6, hf⟩ := hf
        replace e6 := (jcv_o e6).2
        replace hf := jite hf
        rcases hf with ⟨c7, hf⟩ | ⟨c7, hf⟩
        · skip
          cases hf
          -- leaf 010: ((0 : Int32), q120.2)
          rw [hx, nI_cl (by omega), n3, h4, Int32.le_iff_toInt_le, nI_toInt (by omega), hl2] at c3
          have et : t = len := by omega
          subst et
          have ek : tk = ty9 := Option.some.inj (tk1.symm.trans ty1)
          subst ek
          rcases ty2 with rfl | rfl
          · exfalso
            have e0 : runC W i a t = [] := List.eq_nil_of_length_eq_zero tl.symm
            rw [e0] at T
            exact c5 T.1
          obtain ⟨v, u, ev, v01, tu⟩ := tyV_1 tv
          have eu : u = [] := List.eq_nil_of_length_eq_zero (tyV_len tu).symm
          subst eu
          rw [ev] at T ⊢
          obtain ⟨p1, p2, p3, p4⟩ := E_X2_pop LS T (by show 0 ≤ 24; omega) e6
          rw [p1] at c7
          subst c7
          exact ⟨Or.inl rfl, ⟨fun z => absurd (show (0 : Int32) = 1 from z) (by decide), fun z => absurd (show (0 : Int32) = 1 from z) (by decide)⟩, fun a k _ h => p4 a k h, p3⟩
        · skip
          cases hf
          -- leaf 011: ((1 : Int32), q120.2)
          rw [hx, nI_cl (by omega), n3, h4, Int32.le_iff_toInt_le, nI_toInt (by omega), hl2] at c3
          have et : t = len := by omega
          subst et
          have ek : tk = ty9 := Option.some.inj (tk1.symm.trans ty1)
          subst ek
          rcases ty2 with rfl | rfl
          · exfalso
            have e0 : runC W i a t = [] := List.eq_nil_of_length_eq_zero tl.symm
            rw [e0] at T
            exact c5 T.1
          obtain ⟨v, u, ev, v01, tu⟩ := tyV_1 tv
          have eu : u = [] := List.eq_nil_of_length_eq_zero (tyV_len tu).symm
          subst eu
          rw [ev] at T ⊢
          obtain ⟨p1, p2, p3, p4⟩ := E_X2_pop LS T (by show 0 ≤ 24; omega) e6
          rw [p1] at c7
          have v1 := (v01 rfl).resolve_left c7
          subst v1
          exact ⟨Or.inr rfl, ⟨fun _ => rfl, fun _ => rfl⟩, fun a k _ h => p4 a k h, p3⟩
    · skip
      replace hf := jbind hf
      obtain ⟨p35, e8, hf⟩ := hf
      have r8 := oc_gR e8
      rw [w3] at r8
      cases r8
      clear e8
      replace hf := jbind hf
      obtain ⟨v40, e9, hf⟩ := hf
      obtain ⟨r9, y9⟩ := oc_al e9
      subst r9
      clear e9
      replace hf := jbind hf
      obtain ⟨v45, e10, hf⟩ := hf
      replace hf := jite hf
      rcases hf with ⟨c11, hf⟩ | ⟨c11, hf⟩
      · skip
        replace hf := jite hf
        rcases hf with ⟨c12, hf⟩ | ⟨c12, hf⟩
        · skip
          replace hf := jbind hf
          obtain ⟨q75, e13, hf⟩ := hf
          replace e13 := (jcv_o e13).2
          replace hf := jbind hf
          obtain ⟨h79, e14, hf⟩ := hf
          replace e14 := (jcv_o e14).2
          -- leaf 100: rc23 a0 x1 a2 x3 (x4 + (1 : Int32)) h79
          rw [hx, nI_cl (by omega), n3, h4, Int32.le_iff_toInt_le, nI_toInt (by omega), hl2] at c3
          have tl9 : t < len := by omega
          have hc := n10 (a + t) (by omega) (by omega)
          obtain ⟨tk2, tk3⟩ := tyR_nx ty1 tl9 tk1
          rw [h4, nI_cl (by omega)] at e10
          have iv := E_X2_isValue hc e10
          rw [h4, nI_cl (by omega)] at c12
          have n11 : ¬ (W (484 + 2 * (a + t))).toInt ≤ 11 := fun z => absurd (c11.symm.trans (iv.2.mpr z)) (by decide)
          have s15 : W (484 + 2 * (a + t)) = 15 := by
            rcases hc with ⟨_, z, _⟩ | ⟨z, _⟩ | ⟨_, z⟩ | ⟨_, z⟩ | ⟨_, z⟩ | ⟨z, _⟩ | ⟨_, z⟩ | ⟨_, z⟩
            · exact absurd (by omega) n11
            · exact absurd (by rw [z]; decide) n11
            · exact absurd (z.symm.trans c12) (by decide)
            · exact absurd (z.symm.trans c12) (by decide)
            · exact absurd (z.symm.trans c12) (by decide)
            · exact z
            · exact absurd (z.symm.trans c12) (by decide)
            · exact absurd (z.symm.trans c12) (by decide)
          rw [s15] at tk3
          obtain ⟨r9, er⟩ := tyC_not tk3
          subst er
          obtain ⟨v, u, ev, v01, tu⟩ := tyV_1 tv
          have T2 := T
          rw [ev] at T2
          have ul := tyV_len tu
          have ul2 : r9.length + 1 ≤ 23 := t23
          obtain ⟨p1, p2, p3, p4⟩ := E_X2_pop LS T2 (by omega) e13
          have f1 : frL a0 (oc h) (oc q75.2) := fun a k _ h => p4 a k h
          obtain ⟨u1, u2, u3⟩ := E_X2_push (lawS_L LS f1) p2 (by omega) e14
          have fz : frL a0 (oc h) (oc h79) := frL_tr f1 u3
          have Tz : stkE (oc h79) a0 (runC W i a (t + 1)) := by
            rw [show runC W i a (t + 1) = stpC W i (W (484 + 2 * (a + t))) (W (485 + 2 * (a + t))) (runC W i a t) from rfl, ev]
            unfold stpC
            rw [if_neg n11, if_pos s15, ← p1]
            exact u1
          have zz := u2.trans p3
          obtain ⟨b1, b2, b3, b4⟩ := E_X2_holds_23 K hi hl ⟨ty9, ty1, ty2⟩ k (t + 1) (rodE_L R fz dj) (lawS_L LS fz) (linE_L LN fz) Tz dj hn hx hx3 (by rw [h4, nI_1]; rfl) (by omega) hf
          exact ⟨b1, b2, frL_tr fz b3, b4.trans zz⟩
        · skip
          replace hf := jbind hf
          obtain ⟨q86, e15, hf⟩ := hf
          replace e15 := (jcv_o e15).2
          replace hf := jbind hf
          obtain ⟨q95, e16, hf⟩ := hf
          replace e16 := (jcv_o e16).2
          replace hf := jbind hf
          obtain ⟨v100, e17, hf⟩ := hf
          replace hf := jbind hf
          obtain ⟨h103, e18, hf⟩ := hf
          replace e18 := (jcv_o e18).2
          -- leaf 101: rc23 a0 x1 a2 x3 (x4 + (1 : Int32)) h103
          rw [hx, nI_cl (by omega), n3, h4, Int32.le_iff_toInt_le, nI_toInt (by omega), hl2] at c3
          have tl9 : t < len := by omega
          have hc := n10 (a + t) (by omega) (by omega)
          obtain ⟨tk2, tk3⟩ := tyR_nx ty1 tl9 tk1
          rw [h4, nI_cl (by omega)] at e10
          have iv := E_X2_isValue hc e10
          rw [h4, nI_cl (by omega)] at c12
          have n11 : ¬ (W (484 + 2 * (a + t))).toInt ≤ 11 := fun z => absurd (c11.symm.trans (iv.2.mpr z)) (by decide)
          have s15 : W (484 + 2 * (a + t)) ≠ 15 := by
            intro y
            rcases hc with ⟨_, z, _⟩ | ⟨z, _⟩ | ⟨z, _⟩ | ⟨z, _⟩ | ⟨z, _⟩ | ⟨_, z⟩ | ⟨z, _⟩ | ⟨z, _⟩
            · exact absurd (by omega) n11
            · exact absurd (by rw [z]; decide) n11
            · exact absurd (z.symm.trans y) (by decide)
            · exact absurd (z.symm.trans y) (by decide)
            · exact absurd (z.symm.trans y) (by decide)
            · exact c12 z
            · exact absurd (z.symm.trans y) (by decide)
            · exact absurd (z.symm.trans y) (by decide)
          obtain ⟨x9, y9, r9, er, xy⟩ := tyC_bin (by omega) s15 tk3
          subst er
          obtain ⟨vb, u0, ev0, b01, tu0⟩ := tyV_1 tv
          obtain ⟨va, u, ev, a01, tu⟩ := tyV_1 tu0
          subst ev
          have T2 := T
          rw [ev0] at T2
          have ul := tyV_len tu
          have ul2 : r9.length + 1 + 1 ≤ 23 := t23
          obtain ⟨p1, p2, p3, p4⟩ := E_X2_pop LS T2 (by show u.length + 1 ≤ 24; omega) e15
          have f1 : frL a0 (oc h) (oc q86.2) := fun a k _ h => p4 a k h
          obtain ⟨g1, g2, g3, g4⟩ := E_X2_pop (lawS_L LS f1) p2 (by omega) e16
          have f2 : frL a0 (oc q86.2) (oc q95.2) := fun a k _ h => g4 a k h
          rw [h4, nI_cl (by omega)] at e17
          have jn := E_X2_joined hc (by omega) s15 (fun z => ⟨by rw [g1]; exact a01 (xy z).2, by rw [p1]; exact b01 (xy z).1⟩) e17
          subst jn
          obtain ⟨u1, u2, u3⟩ := E_X2_push (lawS_L LS (frL_tr f1 f2)) g2 (by omega) e18
          have fz : frL a0 (oc h) (oc h103) := frL_tr (frL_tr f1 f2) u3
          have Tz : stkE (oc h103) a0 (runC W i a (t + 1)) := by
            rw [show runC W i a (t + 1) = stpC W i (W (484 + 2 * (a + t))) (W (485 + 2 * (a + t))) (runC W i a t) from rfl, ev0]
            unfold stpC
            rw [if_neg n11, if_neg s15, ← p1, ← g1]
            exact u1
          have zz := u2.trans (g3.trans p3)
          obtain ⟨b1, b2, b3, b4⟩ := E_X2_holds_23 K hi hl ⟨ty9, ty1, ty2⟩ k (t + 1) (rodE_L R fz dj) (lawS_L LS fz) (linE_L LN fz) Tz dj hn hx hx3 (by rw [h4, nI_1]; rfl) (by omega) hf
          exact ⟨b1, b2, frL_tr fz b3, b4.trans zz⟩
      · skip
        replace hf := jbind hf
        obtain ⟨v56, e19, hf⟩ := hf
        replace hf := jbind hf
        obtain ⟨h59, e20, hf⟩ := hf
        replace e20 := (jcv_o e20).2
        -- leaf 11: rc23 a0 x1 a2 x3 (x4 + (1 : Int32)) h59
        rw [hx, nI_cl (by omega), n3, h4, Int32.le_iff_toInt_le, nI_toInt (by omega), hl2] at c3
        have tl9 : t < len := by omega
        have hc := n10 (a + t) (by omega) (by omega)
        obtain ⟨tk2, tk3⟩ := tyR_nx ty1 tl9 tk1
        rw [h4, nI_cl (by omega)] at e10
        have iv := E_X2_isValue hc e10
        have s11 := iv.2.mp (iv.1.resolve_left c11)
        rw [h4, nI_cl (by omega)] at e19
        have hv : (0 ≤ (W (484 + 2 * (a + t))).toInt ∧ (W (484 + 2 * (a + t))).toInt ≤ 10 ∧ oi (oc h) (a0 + 4) (a + t) = W (484 + 2 * (a + t))) ∨ (W (484 + 2 * (a + t)) = 11 ∧ 0 ≤ (W (485 + 2 * (a + t))).toInt ∧ (oi (oc h) (a0 + 4) (a + t)).toInt = 256 + (W (485 + 2 * (a + t))).toInt) := by
          rcases hc with z | ⟨z1, z2, z3, z4⟩ | ⟨z, -⟩ | ⟨z, -⟩ | ⟨z, -⟩ | ⟨z, -⟩ | ⟨z, -⟩ | ⟨z, -⟩
          · exact Or.inl z
          · exact Or.inr ⟨z1, z2, z4⟩
          all_goals (rw [z] at s11; exact absurd s11 (by decide))
        have vv := E_X2_value R K hx3 hi hv e19
        subst vv
        obtain ⟨u1, u2, fz⟩ := E_X2_push LS T (by omega) e20
        have Tz : stkE (oc h59) a0 (runC W i a (t + 1)) := by
          rw [show runC W i a (t + 1) = factW W i (W (484 + 2 * (a + t))) (W (485 + 2 * (a + t))) :: runC W i a t from if_pos s11]
          exact u1
        have zz := u2
        obtain ⟨b1, b2, b3, b4⟩ := E_X2_holds_23 K hi hl ⟨ty9, ty1, ty2⟩ k (t + 1) (rodE_L R fz dj) (lawS_L LS fz) (linE_L LN fz) Tz dj hn hx hx3 (by rw [h4, nI_1]; rfl) (by omega) hf
        exact ⟨b1, b2, frL_tr fz b3, b4.trans zz⟩
theorem E_X2_holds {W : jWd} {i : Nat} {nl : Nat} {ln : Nat} {n : Nat} {a0 : Nat} {x1 : Int32} {a2 : Nat} {x3 : Int32} {h : jH} {q : Int32 × jH} (R : rodE (oc h) a2 W) (K : wOK W) (hi : (i : Int) < (W 0).toInt) (LS : lawS (oc h) a0) (LN : linE (oc h) a0 W nl) (dj : a2 + 6 < a0 ∨ a0 + 5 < a2) (hn : ln < nl ∧ nl ≤ 12) (hx : x1 = nI ln) (hx3 : x3 = nI i) (hf : F_X2_holds n a0 x1 a2 x3 h = some q) : (q.1 = 0 ∨ q.1 = 1) ∧ (q.1 = 1 ↔ holdsW W i ln) ∧ frL a0 (oc h) (oc q.2) ∧ q.2.1 = h.1 := by
  unfold F_X2_holds at hf
  obtain ⟨w0, w1, w2, w3, w4⟩ := id LS
  obtain ⟨n1, n2, n3, n4, n5, n6, n7, n8, n9, n10, n11⟩ := LN ln hn.1
  obtain ⟨a, ha⟩ : ∃ a : Nat, (W (438 + 4 * ln)).toInt = (a : Int) := ⟨(W (438 + 4 * ln)).toInt.toNat, by omega⟩
  obtain ⟨len, hlen⟩ : ∃ len : Nat, (W (439 + 4 * ln)).toInt = ((a + len : Nat) : Int) := ⟨((W (439 + 4 * ln)).toInt - a).toNat, by omega⟩
  have hT : ∃ ty, tyR W a len = some ty ∧ (ty = [] ∨ ty = [true]) := by
    rw [show (W (439 + 4 * ln)).toInt.toNat - (W (438 + 4 * ln)).toInt.toNat = len by omega, show (W (438 + 4 * ln)).toInt.toNat = a by omega] at n11
    exact n11
  replace hf := jbind hf
  obtain ⟨h2, e1, hf⟩ := hf
  obtain ⟨o1, z1⟩ := oc_pf e1
  clear e1
  replace hf := jite hf
  rcases hf with ⟨c2, hf⟩ | ⟨c2, hf⟩
  · skip
    -- leaf 0: F_X2_holds_23 n n a0 x1 a2 x3 (0 : Int32) h2
    have f1 : frL a0 (oc h) (oc h2) := fun a k _ h => by rw [o1]; exact u2_ne (by omega)
    rw [hx, show (0 : Int32) = nI 0 from rfl, nI_eq (by omega) (by omega)] at c2
    rw [if_pos c2] at n4
    have a9 : a = 0 := by rw [n4] at ha; have : (0 : Int32).toInt = 0 := rfl; omega
    obtain ⟨b1, b2, b3, b4⟩ := E_X2_holds_23 K hi ⟨ha, hlen⟩ hT n 0 (rodE_L R f1 dj) (lawS_L LS f1) (linE_L LN f1) (by rw [o1]; exact stk0) dj hn hx hx3 (by rw [a9]; rfl) (Nat.zero_le _) hf
    refine ⟨b1, b2.trans ?_, frL_tr f1 b3, b4.trans z1⟩
    unfold holdsW
    rw [show (W (439 + 4 * ln)).toInt.toNat - (W (438 + 4 * ln)).toInt.toNat = len by omega, show (W (438 + 4 * ln)).toInt.toNat = a by omega]
  · skip
    replace hf := jbind hf
    obtain ⟨p14, e3, hf⟩ := hf
    have r3 := oc_gR e3
    rw [o1] at r3
    rw [u2_ne (Or.inr (by decide))] at r3
    rw [w2] at r3
    cases r3
    clear e3
    replace hf := jbind hf
    obtain ⟨v20, e4, hf⟩ := hf
    obtain ⟨r4, y4⟩ := oc_al e4
    rw [o1] at r4
    rw [oi_ne (Or.inl (by omega))] at r4
    subst r4
    clear e4
    -- leaf 1: F_X2_holds_23 n n a0 x1 a2 x3 v20 h2
    have f1 : frL a0 (oc h) (oc h2) := fun a k _ h => by rw [o1]; exact u2_ne (by omega)
    rw [hx, show (0 : Int32) = nI 0 from rfl, nI_eq (by omega) (by omega)] at c2
    rw [if_neg c2] at n4
    obtain ⟨n1b, n2b, n3b, -⟩ := LN (ln - 1) (by omega)
    have xp : x1 - (1 : Int32) = nI (ln - 1) := by rw [hx]; obtain ⟨y, rfl⟩ : ∃ y, ln = y + 1 := ⟨ln - 1, by omega⟩; exact nI_pred y
    rw [xp, nI_cl (by omega), n3b, ← n4] at hf
    obtain ⟨b1, b2, b3, b4⟩ := E_X2_holds_23 K hi ⟨ha, hlen⟩ hT n 0 (rodE_L R f1 dj) (lawS_L LS f1) (linE_L LN f1) (by rw [o1]; exact stk0) dj hn hx hx3 (nI_k ha) (Nat.zero_le _) hf
    refine ⟨b1, b2.trans ?_, frL_tr f1 b3, b4.trans z1⟩
    unfold holdsW
    rw [show (W (439 + 4 * ln)).toInt.toNat - (W (438 + 4 * ln)).toInt.toNat = len by omega, show (W (438 + 4 * ln)).toInt.toNat = a by omega]
theorem E_X2_amount_20 {n : Nat} {W : jWd} {i : Nat} {nl : Nat} (K : wOK W) (hi : (i : Int) < (W 0).toInt) (hn : nl ≤ 12) (N9 : (W 435).toInt = (nl : Int)) : ∀ (k : Nat) {a0 : Nat} {x1 : Int32} {a2 : Nat} {x3 : Int32} {x4 : Int32} {x5 : Int32} {h : jH} {q : Int32 × jH} (m : Nat) (R : rodE (oc h) a2 W) (LS : lawS (oc h) a0) (LN : linE (oc h) a0 W nl) (N8 : oi (oc h) a0 8 = W 435) (dj : a2 + 6 < a0 ∨ a0 + 5 < a2) (hx3 : x3 = nI i) (hm : x5 = nI m) (ml : m ≤ nl) (hacc : x4 = sumW W x1 i m), F_X2_amount_20 n k a0 x1 a2 x3 x4 x5 h = some q → q.1 = sumW W x1 i nl ∧ frL a0 (oc h) (oc q.2) ∧ q.2.1 = h.1
  | 0, a0, x1, a2, x3, x4, x5, h, q, m, R, LS, LN, N8, dj, hx3, hm, ml, hacc, hf => by cases hf
  | k + 1, a0, x1, a2, x3, x4, x5, h, q, m, R, LS, LN, N8, dj, hx3, hm, ml, hacc, hf => by
    replace hf : F_X2_amount_20_b n (F_X2_amount_20 n k) a0 x1 a2 x3 x4 x5 h = some q := hf
    unfold F_X2_amount_20_b at hf
    obtain ⟨w0, w1, w2, w3, w4⟩ := id LS
    replace hf := jbind hf
    obtain ⟨v23, e1, hf⟩ := hf
    have r1 := oc_gI e1
    subst r1
    clear e1
    replace hf := jite hf
    rcases hf with ⟨c2, hf⟩ | ⟨c2, hf⟩
    · skip
      cases hf
      -- leaf 0: (x4, h)
      rw [hm, N8, Int32.le_iff_toInt_le, nI_toInt (by omega)] at c2
      have : m = nl := by omega
      subst this
      exact ⟨hacc, frL_rfl, rfl⟩
    · skip
      replace hf := jbind hf
      obtain ⟨p30, e3, hf⟩ := hf
      have r3 := oc_gR e3
      rw [w0] at r3
      cases r3
      clear e3
      replace hf := jbind hf
      obtain ⟨v35, e4, hf⟩ := hf
      obtain ⟨r4, y4⟩ := oc_al e4
      subst r4
      clear e4
      replace hf := jite hf
      rcases hf with ⟨c5, hf⟩ | ⟨c5, hf⟩
      · skip
        replace hf := jbind hf
        obtain ⟨q45, e6, hf⟩ := hf
        replace e6 := (jcv_o e6).2
        have m9 : m < nl := by rw [hm, N8, Int32.le_iff_toInt_le, nI_toInt (by omega)] at c2; omega
        obtain ⟨r1, r2, r3, r4⟩ := E_X2_holds (ln := m) R K hi LS LN dj ⟨m9, hn⟩ hm hx3 e6
        replace hf := jite hf
        rcases hf with ⟨c7, hf⟩ | ⟨c7, hf⟩
        · skip
          -- leaf 100: rc20 a0 x1 a2 x3 x4 (x5 + (1 : Int32)) q45.2
          rw [hm, nI_cl (by omega), (LN m m9).1] at c5
          have nh : ¬ holdsW W i m := fun z => absurd (c7.symm.trans (r2.mpr z)) (by decide)
          obtain ⟨b1, b2, b3⟩ := E_X2_amount_20 K hi hn N9 k (m + 1) (rodE_L R r3 dj) (lawS_L LS r3) (linE_L LN r3) ((oi_L r3 (by omega) (by omega)).trans N8) dj hx3 (by rw [hm, nI_1]) (by omega) (by rw [hacc, sumW_n (fun z => nh z.2)]) hf
          exact ⟨b1, frL_tr r3 b2, b3.trans r4⟩
        · skip
          replace hf := jbind hf
          obtain ⟨p54, e8, hf⟩ := hf
          have r8 := oc_gR e8
          rw [r3 (a0) 1 (by omega) (by omega)] at r8
          rw [w1] at r8
          cases r8
          clear e8
          replace hf := jbind hf
          obtain ⟨v59, e9, hf⟩ := hf
          obtain ⟨r9, y9⟩ := oc_al e9
          rw [oi_L r3 (by omega) (by omega)] at r9
          subst r9
          clear e9
          -- leaf 101: rc20 a0 x1 a2 x3 (x4 + v59) (x5 + (1 : Int32)) q45.2
          rw [hm, nI_cl (by omega), (LN m m9).1] at c5
          have yh : holdsW W i m := r2.mp (r1.resolve_left c7)
          rw [hm, nI_cl (by omega), (LN m m9).2.1, ← hm] at hf
          obtain ⟨b1, b2, b3⟩ := E_X2_amount_20 K hi hn N9 k (m + 1) (rodE_L R r3 dj) (lawS_L LS r3) (linE_L LN r3) ((oi_L r3 (by omega) (by omega)).trans N8) dj hx3 (by rw [hm, nI_1]) (by omega) (by rw [hacc, sumW_p ⟨c5, yh⟩]) hf
          exact ⟨b1, frL_tr r3 b2, b3.trans r4⟩
      · skip
        -- leaf 11: rc20 a0 x1 a2 x3 x4 (x5 + (1 : Int32)) h
        have m9 : m < nl := by rw [hm, N8, Int32.le_iff_toInt_le, nI_toInt (by omega)] at c2; omega
        rw [hm, nI_cl (by omega), (LN m m9).1] at c5
        obtain ⟨b1, b2, b3⟩ := E_X2_amount_20 K hi hn N9 k (m + 1) R LS LN N8 dj hx3 (by rw [hm, nI_1]) (by omega) (by rw [hacc, sumW_n (fun z => c5 z.1)]) hf
        exact ⟨b1, b2, b3⟩
theorem E_X2_untoldAmount {W : jWd} {i : Nat} {n : Nat} {x0 : Int32} {a1 : Nat} {x2 : Int32} {h : jH} {q : Int32} (R : rodE (oc h) a1 W) (K : wOK W) (hi : (i : Int) < (W 0).toInt) (hx : x2 = nI i) (hf : F_X2_untoldAmount n x0 a1 x2 h = some q) : q = if x0 = 0 then litW W i (W 3) else if x0 = 1 then 10 else 0 := by
  unfold F_X2_untoldAmount at hf
  obtain ⟨⟨s0, s1, s2, s3, s4, s5⟩, ⟨u5, u10, u11, u12, u13, u14, u15, u16, u17⟩, RB, RC, RL⟩ := id R
  replace hf := jite hf
  rcases hf with ⟨c1, hf⟩ | ⟨c1, hf⟩
  · skip
    replace hf := jbind hf
    obtain ⟨v7, e2, hf⟩ := hf
    have r2 := oc_gI e2
    subst r2
    clear e2
    replace hf := jbind hf
    obtain ⟨v10, e3, hf⟩ := hf
    replace e3 := (jcv_o e3).2
    have r3 := E_X8_isLit (i := i) R K hx hi e3
    replace hf := jite hf
    rcases hf with ⟨c4, hf⟩ | ⟨c4, hf⟩
    · skip
      cases hf
      -- leaf 00: (0 : Int32)
      rw [if_pos c1, ← u13, ← r3]
      exact c4.symm
    · skip
      cases hf
      -- leaf 01: (1 : Int32)
      rw [u13] at r3
      rw [if_pos c1]
      have l9 := litW_01 (W := W) (i := i) (h := W 3)
      rw [← r3] at l9 ⊢
      exact (l9.resolve_left c4).symm
  · skip
    replace hf := jite hf
    rcases hf with ⟨c5, hf⟩ | ⟨c5, hf⟩
    · skip
      cases hf
      -- leaf 10: (10 : Int32)
      rw [if_neg c1, if_pos c5]
    · skip
      cases hf
      -- leaf 11: (0 : Int32)
      rw [if_neg c1, if_neg c5]
theorem E_X2_amount {W : jWd} {i : Nat} {n : Nat} {a0 : Nat} {x1 : Int32} {a2 : Nat} {x3 : Int32} {h : jH} {q : Int32 × jH} (R : rodE (oc h) a2 W) (K : wOK W) (hi : (i : Int) < (W 0).toInt) (LE : lawE (oc h) a0 W) (dj : a2 + 6 < a0 ∨ a0 + 5 < a2) (hx3 : x3 = nI i) (hf : F_X2_amount n a0 x1 a2 x3 h = some q) : q.1 = byW W x1 i ∧ frL a0 (oc h) (oc q.2) ∧ q.2.1 = h.1 := by
  unfold F_X2_amount at hf
  obtain ⟨LS, L7, L2, L8⟩ := LE
  replace hf := jbind hf
  obtain ⟨v1, e1, hf⟩ := hf
  have r1 := oc_gI e1
  subst r1
  clear e1
  replace hf := jite hf
  rcases hf with ⟨c2, hf⟩ | ⟨c2, hf⟩
  · skip
    replace hf := jbind hf
    obtain ⟨v10, e3, hf⟩ := hf
    cases hf
    -- leaf 0: (v10, h)
    rw [L7] at c2
    have u9 := E_X2_untoldAmount R K hi hx3 e3
    refine ⟨?_, frL_rfl, rfl⟩
    unfold byW
    rw [if_neg (fun z => absurd (c2.symm.trans z) (by decide))]
    exact u9
  · skip
    -- leaf 1: F_X2_amount_20 n n a0 x1 a2 x3 (0 : Int32) (0 : Int32) h
    rw [L7] at c2
    have w2 := L2.resolve_left c2
    obtain ⟨N8, N9, LN⟩ := L8 w2
    obtain ⟨b1, b2, b3⟩ := E_X2_amount_20 K hi (by omega) (by omega : (W 435).toInt = ((W 435).toInt.toNat : Int)) n 0 R LS LN N8 dj hx3 rfl (Nat.zero_le _) rfl hf
    refine ⟨?_, b2, b3⟩
    unfold byW
    rw [if_pos w2]
    exact b1
