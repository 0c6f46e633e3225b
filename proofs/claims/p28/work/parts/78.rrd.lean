/-! the reference's world: readers -/
def mS (O : jO) (m : Nat) : Prop := O m 1 = .ref (m + 1) ∧ O m 2 = .ref (m + 2) ∧ O m 3 = .ref (m + 3) ∧ O m 4 = .ref (m + 4) ∧ O m 5 = .ref (m + 5) ∧ O m 8 = .ref (m + 6) ∧ O m 15 = .ref (m + 7) ∧ O m 17 = .ref (m + 8) ∧ O m 19 = .ref (m + 9) ∧ O m 20 = .ref (m + 10) ∧ O m 21 = .ref (m + 11)
abbrev wl (O : jO) (m : Nat) : jWd := fun k => oi O (m + 1) k
theorem wl_w {O : jO} {m k : Nat} {x : Int32} : wl (u2 O (m + 1) k (.int x)) m = upd (wl O m) k x := by
  funext j
  by_cases q : j = k
  · subst q; rw [upd_eq]; exact oi_eq
  · rw [upd_ne q]; exact oi_ne (Or.inr q)
theorem wl_n {O : jO} {m a k : Nat} {v : Value} (h : a ≠ m + 1) : wl (u2 O a k v) m = wl O m := by
  funext j
  exact oi_ne (Or.inl (fun q => h q.symm))
theorem nI_mul (a b : Nat) : nI a * nI b = nI (a * b) := (Int32.ofNat_mul a b).symm
/-- changed are the cells m + c, c of cs, and of m the fields of fs alone -/
def frM (m : Nat) (cs fs : List Nat) (O O2 : jO) : Prop := ∀ b k, (∀ c ∈ cs, b ≠ m + c) → (b = m → k ∉ fs) → O2 b k = O b k
theorem frM_rfl {m : Nat} {cs fs : List Nat} {O : jO} : frM m cs fs O O := fun _ _ _ _ => rfl
theorem frM_tr {m : Nat} {cs fs : List Nat} {O O2 O3 : jO} (a : frM m cs fs O O2) (b : frM m cs fs O2 O3) : frM m cs fs O O3 := fun x k h q => (b x k h q).trans (a x k h q)
theorem frM_le {m : Nat} {cs fs cs2 fs2 : List Nat} {O O2 : jO} (a : frM m cs fs O O2) (h1 : ∀ c ∈ cs, c ∈ cs2) (h2 : ∀ c ∈ fs, c ∈ fs2) : frM m cs2 fs2 O O2 := fun x k h q => a x k (fun c hc => h c (h1 c hc)) (fun e z => q e (h2 k z))
theorem frM_c {m c k : Nat} {cs fs : List Nat} {O : jO} {v : Value} (h : c ∈ cs) : frM m cs fs O (u2 O (m + c) k v) := fun b j hb _ => u2_ne (Or.inl (hb c h))
theorem frM_f {m k : Nat} {cs fs : List Nat} {O : jO} {v : Value} (h : k ∈ fs) : frM m cs fs O (u2 O m k v) := fun b j _ hj => u2_ne (by
  by_cases q : b = m
  · exact Or.inr (fun z => hj q (by rw [z]; exact h))
  · exact Or.inl q)
theorem mS_fr {m : Nat} {cs fs : List Nat} {O O2 : jO} (s : mS O m) (f : frM m cs fs O O2) (hc : 0 ∉ cs) (hf : ∀ k ∈ [1, 2, 3, 4, 5, 8, 15, 17, 19, 20, 21], k ∉ fs) : mS O2 m := by
  have e : ∀ k, k ∈ [1, 2, 3, 4, 5, 8, 15, 17, 19, 20, 21] → O2 m k = O m k := fun k hk => f m k (fun c h q => hc ((show c = 0 by omega) ▸ h)) (fun _ => hf k hk)
  obtain ⟨a1, a2, a3, a4, a5, a8, a15, a17, a19, a20, a21⟩ := s
  exact ⟨(e 1 (by decide)).trans a1, (e 2 (by decide)).trans a2, (e 3 (by decide)).trans a3, (e 4 (by decide)).trans a4, (e 5 (by decide)).trans a5, (e 8 (by decide)).trans a8, (e 15 (by decide)).trans a15, (e 17 (by decide)).trans a17, (e 19 (by decide)).trans a19, (e 20 (by decide)).trans a20, (e 21 (by decide)).trans a21⟩
/-- a set that is an interval round ring r, all of which go along -/
def ivl (W : jWd) (r : Nat) (d : Bool) (v : Int32) (a b : Nat) : Prop := (∀ i, i < 32 → (bt v i = true ↔ (a ≤ i ∧ i ≤ b))) ∧ a ≤ r ∧ r ≤ b ∧ (b : Int) < (W 0).toInt ∧ (∀ j, r ≤ j → j < b → tog W j d) ∧ (∀ j, a ≤ j → j < r → tog W j (!d))
def fnB (W : jWd) (d : Bool) (b : Nat) : Prop := (b : Int) + 1 = (W 0).toInt ∨ ¬ tog W b d
def fnA (W : jWd) (d : Bool) (a : Nat) : Prop := a = 0 ∨ ¬ tog W (a - 1) (!d)
theorem ivl_gos {W : jWd} {r : Nat} {d : Bool} {v : Int32} {a b : Nat} (I : ivl W r d v a b) (hb : fnB W d b) (ha : fnA W d a) (i : Nat) : gos W r d i ↔ (a ≤ i ∧ i ≤ b) := by
  obtain ⟨-, i1, i2, i3, i4, i5⟩ := I
  constructor
  · rintro ⟨z0, ⟨z1, z2⟩ | ⟨z1, z2⟩⟩
    · refine ⟨by omega, ?_⟩
      by_cases w : i ≤ b
      · exact w
      · exact absurd (z2 b i2 (by omega)) (hb.resolve_left (by omega))
    · refine ⟨?_, by omega⟩
      by_cases w : a ≤ i
      · exact w
      · exact absurd (z2 (a - 1) (by omega) (by omega)) (ha.resolve_left (by omega))
  · rintro ⟨z1, z2⟩
    refine ⟨by omega, ?_⟩
    rcases Nat.le_total r i with w | w
    · exact Or.inl ⟨w, fun j u v => i4 j u (by omega)⟩
    · exact Or.inr ⟨w, fun j u v => i5 j (by omega) v⟩
theorem E_X12_rings {n : Nat} {a0 : Nat} {h : jH} {q : Int32} (M : mS (oc h) a0) (hf : F_X12_rings n a0 h = some q) : q = wl (oc h) a0 0 := by
  unfold F_X12_rings at hf
  obtain ⟨s1, s2, s3, s4, s5, s8, s15, s17, s19, s20, s21⟩ := id M
  replace hf := jbind hf
  obtain ⟨p1, e1, hf⟩ := hf
  have r1 := oc_gR e1
  rw [s1] at r1
  cases r1
  clear e1
  replace hf := jbind hf
  obtain ⟨v5, e2, hf⟩ := hf
  obtain ⟨r2, y2⟩ := oc_al e2
  rw [show (0 : Int32).toNatClampNeg = 0 from rfl] at r2
  subst r2
  clear e2
  cases hf
  -- leaf : v5
  rfl
theorem E_X12_lastRing {n : Nat} {a0 : Nat} {h : jH} {q : Int32} (M : mS (oc h) a0) (hf : F_X12_lastRing n a0 h = some q) : q = wl (oc h) a0 0 - 1 := by
  unfold F_X12_lastRing at hf
  replace hf := jbind hf
  obtain ⟨v1, e1, hf⟩ := hf
  replace e1 := (jcv_o e1).2
  have r1 := E_X12_rings M e1
  subst r1
  cases hf
  -- leaf : (v1 - (1 : Int32))
  rfl
theorem E_X12_at {i : Nat} {j : Nat} {t : Nat} {n : Nat} {x0 : Int32} {x1 : Int32} {h : jH} {q : Int32} (h0 : x0 = nI i) (h1 : x1 = nI j) (ht : t = 11 + 8 * i + j) (hf : F_X12_at n x0 x1 h = some q) : q = nI t := by
  unfold F_X12_at at hf
  cases hf
  -- leaf : (((11 : Int32) + ((8 : Int32) * x0)) + x1)
  rw [h0, h1, ht]
  show (nI 11 + nI 8 * nI i) + nI j = _
  rw [nI_mul, nI_add, nI_add]
theorem E_X12_of {i : Nat} {j : Nat} {t : Nat} {n : Nat} {a0 : Nat} {x1 : Int32} {x2 : Int32} {h : jH} {q : Int32} (M : mS (oc h) a0) (h1 : x1 = nI i) (h2 : x2 = nI j) (ht : t = 11 + 8 * i + j) (hl : t < 10000) (hf : F_X12_of n a0 x1 x2 h = some q) : q = wl (oc h) a0 t := by
  unfold F_X12_of at hf
  obtain ⟨s1, s2, s3, s4, s5, s8, s15, s17, s19, s20, s21⟩ := id M
  replace hf := jbind hf
  obtain ⟨p1, e1, hf⟩ := hf
  have r1 := oc_gR e1
  rw [s1] at r1
  cases r1
  clear e1
  replace hf := jbind hf
  obtain ⟨v6, e2, hf⟩ := hf
  have r2 := E_X12_at h1 h2 ht e2
  subst r2
  replace hf := jbind hf
  obtain ⟨v9, e3, hf⟩ := hf
  obtain ⟨r3, y3⟩ := oc_al e3
  subst r3
  clear e3
  cases hf
  -- leaf : v9
  rw [nI_cl (by omega)]
theorem E_X12_is {i : Nat} {j : Nat} {t : Nat} {n : Nat} {a0 : Nat} {x1 : Int32} {x2 : Int32} {h : jH} {q : Int32} (M : mS (oc h) a0) (h1 : x1 = nI i) (h2 : x2 = nI j) (ht : t = 11 + 8 * i + j) (hl : t < 10000) (hf : F_X12_is n a0 x1 x2 h = some q) : (q = 0 ∨ q = 1) ∧ (q = 1 ↔ wl (oc h) a0 t = 1) := by
  unfold F_X12_is at hf
  replace hf := jbind hf
  obtain ⟨v3, e1, hf⟩ := hf
  replace e1 := (jcv_o e1).2
  have r1 := E_X12_of M h1 h2 ht hl e1
  subst r1
  replace hf := jite hf
  rcases hf with ⟨c2, hf⟩ | ⟨c2, hf⟩
  · skip
    cases hf
    -- leaf 0: (1 : Int32)
    exact ⟨Or.inr rfl, fun _ => c2, fun _ => rfl⟩
  · skip
    cases hf
    -- leaf 1: (0 : Int32)
    exact ⟨Or.inl rfl, fun z => absurd z (by decide), fun z => absurd z c2⟩
theorem E_X12_gapOf {i : Nat} {n : Nat} {a0 : Nat} {x1 : Int32} {h : jH} {q : Int32} (M : mS (oc h) a0) (K : wOK (wl (oc h) a0)) (h1 : x1 = nI i) (hi : (i : Int) < (wl (oc h) a0 0).toInt) (hf : F_X12_gapOf n a0 x1 h = some q) : q = if (i : Int) + 1 < (wl (oc h) a0 0).toInt then wl (oc h) a0 (11 + 8 * (i + 1)) - wl (oc h) a0 (11 + 8 * i) else 99 := by
  unfold F_X12_gapOf at hf
  have K0 := K.1
  have l1 : (1 : Int32).toInt = 1 := rfl
  replace hf := jbind hf
  obtain ⟨v2, e1, hf⟩ := hf
  replace e1 := (jcv_o e1).2
  have r1 := E_X12_lastRing M e1
  subst r1
  replace hf := jite hf
  rcases hf with ⟨c2, hf⟩ | ⟨c2, hf⟩
  · skip
    cases hf
    -- leaf 0: (99 : Int32)
    rw [h1, i_eq, nI_toInt (by omega), jsub (by omega) (by omega)] at c2
    rw [if_neg (by omega)]
  · skip
    replace hf := jbind hf
    obtain ⟨v18, e3, hf⟩ := hf
    replace e3 := (jcv_o e3).2
    have r3 := E_X12_of M (j := 0) (t := 11 + 8 * (i + 1)) (by rw [h1, nI_1]) rfl (by omega) (by omega) e3
    subst r3
    replace hf := jbind hf
    obtain ⟨v24, e4, hf⟩ := hf
    replace e4 := (jcv_o e4).2
    have r4 := E_X12_of M (j := 0) (t := 11 + 8 * i) h1 rfl (by omega) (by omega) e4
    subst r4
    cases hf
    -- leaf 1: (v18 - v24)
    rw [h1, i_eq, nI_toInt (by omega), jsub (by omega) (by omega)] at c2
    rw [if_pos (by omega)]
theorem E_X12_has {k : Nat} {n : Nat} {x0 : Int32} {x1 : Int32} {h : jH} {q : Int32} (h1 : x1 = nI k) (hk : k < 32) (hf : F_X12_has n x0 x1 h = some q) : (q = 0 ∨ q = 1) ∧ (q = 1 ↔ bt x0 k = true) := by
  unfold F_X12_has at hf
  rw [h1] at hf
  replace hf := jite hf
  rcases hf with ⟨c1, hf⟩ | ⟨c1, hf⟩
  · skip
    cases hf
    -- leaf 0: (1 : Int32)
    rw [b_has hk] at c1
    exact ⟨Or.inr rfl, fun _ => c1, fun _ => rfl⟩
  · skip
    cases hf
    -- leaf 1: (0 : Int32)
    rw [b_has hk] at c1
    exact ⟨Or.inl rfl, fun z => absurd z (by decide), fun z => absurd z c1⟩
theorem E_X12_takesAlong_30 {i : Nat} {d : Bool} {e : Bool} {n : Nat} {a0 : Nat} {x3 : Int32} {x4 : Int32} {s0 : Int32} {h : jH} {q : Int32} (M : mS (oc h) a0) (K : wOK (wl (oc h) a0)) (h4 : x4 = nI i) (hi : (i : Int) + 1 < (wl (oc h) a0 0).toInt) (h3 : x3 = dI d) (h0 : s0 = dI e) (hn : wl (oc h) a0 (18 + 8 * i) ≠ 1) (hf : F_X12_takesAlong_30 n a0 x3 x4 s0 h = some q) : (q = 0 ∨ q = 1) ∧ (q = 1 ↔ tog (wl (oc h) a0) i (d == e)) := by
  unfold F_X12_takesAlong_30 at hf
  have K0 := K.1
  have kc := (K.2.1 i (by omega)).2.1
  have ks := wsub K hi
  have l1 : (1 : Int32).toInt = 1 := rfl
  replace hf := jite hf
  rcases hf with ⟨c1, hf⟩ | ⟨c1, hf⟩
  · skip
    replace hf := jbind hf
    obtain ⟨v37, e2, hf⟩ := hf
    replace e2 := (jcv_o e2).2
    have r2 := E_X12_gapOf M K h4 (by omega) e2
    replace hf := jite hf
    rcases hf with ⟨c3, hf⟩ | ⟨c3, hf⟩
    · skip
      cases hf
      -- leaf 00: (1 : Int32)
      have z : (d == e) = true := by rw [h0, h3] at c1; cases d <;> cases e <;> first | rfl | exact absurd c1 (by decide)
      rw [z]
      rw [r2, if_pos hi, i_eq, ks] at c3
      exact ⟨Or.inr rfl, fun _ => Or.inr (by rw [if_pos rfl]; omega), fun _ => rfl⟩
    · skip
      cases hf
      -- leaf 01: (0 : Int32)
      have z : (d == e) = true := by rw [h0, h3] at c1; cases d <;> cases e <;> first | rfl | exact absurd c1 (by decide)
      rw [z]
      rw [r2, if_pos hi, i_eq, ks] at c3
      refine ⟨Or.inl rfl, fun z => absurd z (by decide), fun z => ?_⟩
      rcases z with z | z
      · exact absurd z hn
      · rw [if_pos rfl] at z; omega
  · skip
    replace hf := jbind hf
    obtain ⟨v55, e4, hf⟩ := hf
    replace e4 := (jcv_o e4).2
    have r4 := E_X12_gapOf M K h4 (by omega) e4
    replace hf := jbind hf
    obtain ⟨v62, e5, hf⟩ := hf
    replace e5 := (jcv_o e5).2
    have r5 := E_X12_of M (j := 1) (t := 12 + 8 * i) h4 rfl (by omega) (by omega) e5
    subst r5
    replace hf := jite hf
    rcases hf with ⟨c6, hf⟩ | ⟨c6, hf⟩
    · skip
      cases hf
      -- leaf 10: (0 : Int32)
      have z : (d == e) = false := by rw [h0, h3] at c1; cases d <;> cases e <;> first | rfl | exact absurd rfl c1
      rw [z]
      rw [r4, if_pos hi, Int32.lt_iff_toInt_lt, ks] at c6
      refine ⟨Or.inl rfl, fun z => absurd z (by decide), fun z => ?_⟩
      rcases z with z | z
      · exact absurd z hn
      · rw [if_neg (by decide)] at z; omega
    · skip
      cases hf
      -- leaf 11: (1 : Int32)
      have z : (d == e) = false := by rw [h0, h3] at c1; cases d <;> cases e <;> first | rfl | exact absurd rfl c1
      rw [z]
      rw [r4, if_pos hi, Int32.lt_iff_toInt_lt, ks] at c6
      exact ⟨Or.inr rfl, fun _ => Or.inr (by rw [if_neg (by decide)]; omega), fun _ => rfl⟩
theorem E_X12_takesAlong {i : Nat} {d : Bool} {e : Bool} {n : Nat} {a0 : Nat} {x1 : Int32} {x2 : Int32} {x3 : Int32} {h : jH} {q : Int32} (M : mS (oc h) a0) (K : wOK (wl (oc h) a0)) (h1 : x1 = nI (if e = true then i else i + 1)) (h2 : x2 = nI (if e = true then i + 1 else i)) (hi : (i : Int) + 1 < (wl (oc h) a0 0).toInt) (h3 : x3 = dI d) (hf : F_X12_takesAlong n a0 x1 x2 x3 h = some q) : (q = 0 ∨ q = 1) ∧ (q = 1 ↔ tog (wl (oc h) a0) i (d == e)) := by
  unfold F_X12_takesAlong at hf
  have K0 := K.1
  have mn : (if x2 < x1 then x2 else x1) = nI i := by
    rw [h1, h2]
    cases e with
    | true => rw [if_neg (nI_nlt (by show i ≤ i + 1; omega) (by show i + 1 < _; omega))]; rfl
    | false => rw [if_pos (nI_lt (by show i < i + 1; omega) (by show i + 1 < _; omega))]; rfl
  have le : x2 ≤ x1 ↔ e = false := by
    rw [h1, h2, Int32.le_iff_toInt_le]
    cases e with
    | true => rw [if_pos rfl, if_pos rfl, nI_toInt (by omega), nI_toInt (by omega)]; exact ⟨fun z => by omega, fun z => absurd z (by decide)⟩
    | false => rw [if_neg (by decide), if_neg (by decide), nI_toInt (by omega), nI_toInt (by omega)]; exact ⟨fun _ => rfl, fun _ => by omega⟩
  replace hf := jbind hf
  obtain ⟨v12, e1, hf⟩ := hf
  replace e1 := (jcv_o e1).2
  have r1 := E_X12_is M (j := 7) (t := 18 + 8 * i) mn rfl (by omega) (by omega) e1
  replace hf := jite hf
  rcases hf with ⟨c2, hf⟩ | ⟨c2, hf⟩
  · skip
    replace hf := jite hf
    rcases hf with ⟨c3, hf⟩ | ⟨c3, hf⟩
    · skip
      -- leaf 00: F_X12_takesAlong_30 n a0 x3 (if x2 < x1 then x2 else x1) (0 : Int32) h
      have e9 := le.mp c3
      subst e9
      exact E_X12_takesAlong_30 (e := false) M K mn hi h3 rfl (fun z => absurd (c2.symm.trans (r1.2.mpr z)) (by decide)) hf
    · skip
      -- leaf 01: F_X12_takesAlong_30 n a0 x3 (if x2 < x1 then x2 else x1) (1 : Int32) h
      have e9 : e = true := by cases e with | true => rfl | false => exact absurd (le.mpr rfl) c3
      subst e9
      exact E_X12_takesAlong_30 (e := true) M K mn hi h3 rfl (fun z => absurd (c2.symm.trans (r1.2.mpr z)) (by decide)) hf
  · skip
    cases hf
    -- leaf 1: (1 : Int32)
    exact ⟨Or.inr rfl, fun _ => Or.inl (r1.2.mp (r1.1.resolve_left c2)), fun _ => rfl⟩
