section
/-! the things of a tape: T tells kind and number of each, st where it begins, en where it ends; m things -/
def wTs : List Nat := [13, 32, 33, 18, 19, 24, 25, 17, 16, 30, 31, 29, 34, 35, 28, 26, 27, 14, 15, 20, 21, 22, 23]
def wT (w : Nat) : Nat := wTs.getD w 0
theorem wT_l (w : Nat) (hw : w < 23) : 0 < (jtb (wT w)).length ∧ (jtb (wT w)).length < 400 := by
  have : ∀ w : Fin 23, 0 < (jtb (wT w.val)).length ∧ (jtb (wT w.val)).length < 400 := by decide +kernel
  exact this ⟨w, hw⟩
theorem wT_i (w : Nat) (hw : w < 23) (w2 : Nat) (h2 : w2 < 23) (e : jtb (wT w) = jtb (wT w2)) : w = w2 := by
  have : ∀ w w2 : Fin 23, jtb (wT w.val) = jtb (wT w2.val) → w.val = w2.val := by decide +kernel
  exact this ⟨w, hw⟩ ⟨w2, h2⟩ e
def thE (b : Nat → Int32) (L s e : Nat) (t : Int32 × Int32) : Prop :=
  (bIn b L 97 122 s ∧ isRow (bIn b L 97 122) s e ∧ ((∃ w : Nat, w < 23 ∧ t.1 = nI w ∧ spl b s e (jtb (wT w))) ∨ (t.1 = -2 ∧ ∀ w : Nat, w < 23 → ¬ spl b s e (jtb (wT w))))) ∨
  (bIn b L 48 57 s ∧ isRow (bIn b L 48 57) s e ∧ t.1 = -3 ∧ t.2 = if e ≤ s + 3 then dV b s (e - s) else 1000) ∨
  (s < L ∧ ¬ bIn b L 97 122 s ∧ ¬ bIn b L 48 57 s ∧ b s ≠ 32 ∧ e = s + 1 ∧ t.1 = if (b s &&& 255) < 32 then -2 else b s &&& 255)
def tkE (b : Nat → Int32) (L m : Nat) (T : Nat → Int32 × Int32) (st en : Nat → Nat) : Prop :=
  L ≤ 400 ∧ (∀ i, i < 400 → -128 ≤ (b i).toInt ∧ (b i).toInt ≤ 127) ∧
  (∀ k, k < m → st k < L ∧ thE b L (st k) (en k) (T k) ∧ en k ≤ st (k + 1) ∧ ∀ i, en k ≤ i → i < st (k + 1) → b i = 32) ∧
  (∀ k, m ≤ k → st k = L ∧ (T k).1 = -1) ∧ (∀ i, i < st 0 → b i = 32)
def cur (b : Nat → Int32) (st : Nat → Nat) (p k : Nat) : Prop := p ≤ st k ∧ ∀ i, p ≤ i → i < st k → b i = 32
abbrev nOK (T : Nat → Int32 × Int32) (k : Nat) (lo hi : Int32) : Prop := (T k).1 = -3 ∧ lo ≤ (T k).2 ∧ (T k).2 ≤ hi
theorem b255 {v : Int32} (h : -128 ≤ v.toInt ∧ v.toInt ≤ 127) : (v &&& 255).toInt = if v.toInt < 0 then v.toInt + 256 else v.toInt := by
  have e : (v &&& 255).toBitVec.toNat = v.toBitVec.toNat % 256 := by
    show (v.toBitVec &&& 255#32).toNat = _
    rw [BitVec.toNat_and]
    exact Nat.and_two_pow_sub_one_eq_mod _ 8
  have t : v.toInt = if 2 * v.toBitVec.toNat < 4294967296 then (v.toBitVec.toNat : Int) else (v.toBitVec.toNat : Int) - 4294967296 := BitVec.toInt_eq_toNat_cond v.toBitVec
  have t2 : (v &&& 255).toInt = if 2 * (v &&& 255).toBitVec.toNat < 4294967296 then ((v &&& 255).toBitVec.toNat : Int) else ((v &&& 255).toBitVec.toNat : Int) - 4294967296 := BitVec.toInt_eq_toNat_cond _
  rw [e] at t2
  have l := v.toBitVec.isLt
  split at t <;> split at t2 <;> split <;> omega
theorem nI_ng {w : Nat} {x : Int32} (hw : w < 1000) (hx : x.toInt < 0) : x ≠ nI w := fun z => by rw [z, nI_toInt (by omega)] at hx; omega
variable {b : Nat → Int32} {L m : Nat} {T : Nat → Int32 × Int32} {st en : Nat → Nat}
theorem tk_L (H : tkE b L m T st en) (k : Nat) : st k ≤ L := by
  obtain ⟨-, -, a, c, -⟩ := H
  rcases Nat.lt_or_ge k m with z | z
  · have := (a k z).1; omega
  · have := (c k z).1; omega
theorem tk_sp (H : tkE b L m T st en) (k : Nat) : ¬ bIn b L 32 32 (st k) := by
  obtain ⟨-, -, a, c, -⟩ := H
  have le : ∀ lo hi x : Int32, (32 : Int32).toInt < lo.toInt → lo ≤ x → ¬ (32 ≤ x ∧ x ≤ 32) := fun lo hi x h1 h2 h3 => by
    rw [Int32.le_iff_toInt_le] at h2
    rw [Int32.le_iff_toInt_le, Int32.le_iff_toInt_le] at h3
    omega
  rcases Nat.lt_or_ge k m with z | z
  · obtain ⟨a1, a2, -⟩ := a k z
    rcases a2 with ⟨y, -⟩ | ⟨y, -⟩ | ⟨-, -, -, y, -⟩
    · exact fun w => le 97 122 (b (st k)) (by decide) y.2.1 w.2
    · exact fun w => le 48 57 (b (st k)) (by decide) y.2.1 w.2
    · exact fun w => y (Int32.toInt_inj.mp (by have := w.2.1; have := w.2.2; rw [Int32.le_iff_toInt_le] at *; omega))
  · exact fun w => by have := w.1; have := (c k z).1; omega
theorem cur_sp (H : tkE b L m T st en) {p k s : Nat} (C : cur b st p k) (r : isRow (bIn b L 32 32) p s) : s = st k := by
  have hL := tk_L H k
  refine row_u r ⟨C.1, fun i h1 h2 => ⟨by omega, ?_, ?_⟩, tk_sp H k⟩ <;> rw [C.2 i h1 h2] <;> exact Int32.le_refl _
theorem cur_0 (k : Nat) : cur b st (st k) k := ⟨Nat.le_refl _, fun i h1 h2 => by omega⟩
theorem cur_n (H : tkE b L m T st en) {k : Nat} (hk : k < m) : cur b st (en k) (k + 1) := (H.2.2.1 k hk).2.2
theorem tk_m (H : tkE b L m T st en) {k : Nat} (h : (T k).1 ≠ -1) : k < m := Nat.lt_of_not_le fun z => h (H.2.2.2.1 k z).2
theorem tk_w (H : tkE b L m T st en) {k e w : Nat} (hw : w < 23) (r : isRow (bIn b L 97 122) (st k) e) : (spl b (st k) e (jtb (wT w)) ↔ (T k).1 = nI w) ∧ ((T k).1 = nI w → k < m ∧ e = en k) := by
  have lw := (wT_l w hw).1
  have no : ¬ bIn b L 97 122 (st k) → ¬ spl b (st k) e (jtb (wT w)) := fun y z => by
    have := row_u r (row_0 y); have := z.1; omega
  rcases Nat.lt_or_ge k m with z | z
  · rcases (H.2.2.1 k z).2.1 with ⟨y, y2, y3⟩ | ⟨y, -, y3, -⟩ | ⟨y0, y, -, -, -, y3⟩
    · have e1 := row_u r y2
      subst e1
      refine ⟨⟨fun s => ?_, fun s => ?_⟩, fun _ => ⟨z, rfl⟩⟩
      · rcases y3 with ⟨w2, h2, t2, s2⟩ | ⟨-, s2⟩
        · rw [wT_i w hw w2 h2 (spl_u s s2)]; exact t2
        · exact absurd s (s2 w hw)
      · rcases y3 with ⟨w2, h2, t2, s2⟩ | ⟨t2, -⟩
        · rw [(nI_eq (by omega) (by omega)).mp (s.symm.trans t2)]; exact s2
        · exact absurd (t2.symm.trans s) (nI_ng (by omega) (by decide))
    · have n3 : (T k).1 ≠ nI w := by rw [y3]; exact nI_ng (by omega) (by decide)
      have nl : ¬ bIn b L 97 122 (st k) := fun w => by
        have a1 := w.2.1; have a2 := y.2.2
        rw [Int32.le_iff_toInt_le] at a1 a2
        have l97 : (97 : Int32).toInt = 97 := rfl
        have l57 : (57 : Int32).toInt = 57 := rfl
        omega
      exact ⟨⟨fun s => absurd s (no nl), fun s => absurd s n3⟩, fun s => absurd s n3⟩
    · have n3 : (T k).1 ≠ nI w := by
        rw [y3]
        split
        · exact nI_ng (by omega) (by decide)
        · rename_i q
          intro x
          rw [x, Int32.lt_iff_toInt_lt, nI_toInt (by omega)] at q
          have l32 : (32 : Int32).toInt = 32 := rfl
          omega
      exact ⟨⟨fun s => absurd s (no y), fun s => absurd s n3⟩, fun s => absurd s n3⟩
  · obtain ⟨y, y3⟩ := H.2.2.2.1 k z
    have n3 : (T k).1 ≠ nI w := by rw [y3]; exact nI_ng (by omega) (by decide)
    exact ⟨⟨fun s => absurd s (no (fun w => by have := w.1; omega)), fun s => absurd s n3⟩, fun s => absurd s n3⟩
/-- a sign: neither a blank nor a letter nor a digit -/
def sgn (c : Int32) : Prop := (32 < c.toInt ∧ c.toInt < 48) ∨ (57 < c.toInt ∧ c.toInt < 97)
theorem tk_s (H : tkE b L m T st en) {k : Nat} {c : Int32} (hc : sgn c) : (bIn b L c c (st k) ↔ (T k).1 = c) ∧ ((T k).1 = c → k < m ∧ st k + 1 = en k) := by
  have eq : ∀ x : Int32, c ≤ x ∧ x ≤ c → x = c := fun x h => Int32.toInt_inj.mp (by rw [Int32.le_iff_toInt_le, Int32.le_iff_toInt_le] at h; omega)
  have ng : ∀ x : Int32, x.toInt < 0 → x ≠ c := fun x hx z => by rw [z] at hx; unfold sgn at hc; omega
  rcases Nat.lt_or_ge k m with z | z
  · rcases (H.2.2.1 k z).2.1 with ⟨y, -, y3⟩ | ⟨y, -, y3, -⟩ | ⟨y0, y, y2, -, y4, y3⟩
    · have a1 := y.2.1; have a2 := y.2.2
      rw [Int32.le_iff_toInt_le] at a1 a2
      have l97 : (97 : Int32).toInt = 97 := rfl
      have n1 : ¬ bIn b L c c (st k) := fun w => by have := eq _ w.2; rw [this] at a1; unfold sgn at hc; omega
      have n2 : (T k).1 ≠ c := by
        rcases y3 with ⟨w, hw, t, -⟩ | ⟨t, -⟩
        · rw [t]; intro x; rw [← x, sgn, nI_toInt (by omega)] at hc; omega
        · rw [t]; exact ng _ (by decide)
      exact ⟨⟨fun s => absurd s n1, fun s => absurd s n2⟩, fun s => absurd s n2⟩
    · have a1 := y.2.1; have a2 := y.2.2
      rw [Int32.le_iff_toInt_le] at a1 a2
      have l48 : (48 : Int32).toInt = 48 := rfl
      have l57 : (57 : Int32).toInt = 57 := rfl
      have n1 : ¬ bIn b L c c (st k) := fun w => by have := eq _ w.2; rw [this] at a1 a2; unfold sgn at hc; omega
      have n2 : (T k).1 ≠ c := by rw [y3]; exact ng _ (by decide)
      exact ⟨⟨fun s => absurd s n1, fun s => absurd s n2⟩, fun s => absurd s n2⟩
    · have l32 : (32 : Int32).toInt = 32 := rfl
      have B := b255 (H.2.1 (st k) (by have := H.1; omega))
      refine ⟨⟨fun s => ?_, fun s => ?_⟩, fun _ => ⟨z, y4.symm⟩⟩
      · have e := eq _ s.2
        rw [e] at y3 B
        have e2 : (c &&& 255) = c := Int32.toInt_inj.mp (by rw [B, if_neg (by unfold sgn at hc; omega)])
        rw [y3, e2, if_neg]
        rw [Int32.lt_iff_toInt_lt]
        unfold sgn at hc; omega
      · rw [y3] at s
        split at s
        · exact absurd s (ng _ (by decide))
        · have q : (b (st k) &&& 255).toInt = c.toInt := by rw [s]
          have e : b (st k) = c := Int32.toInt_inj.mp (by rw [B] at q; have := (H.2.1 (st k) (by have := H.1; omega)); unfold sgn at hc; split at q <;> omega)
          exact ⟨y0, by rw [e]; exact Int32.le_refl _, by rw [e]; exact Int32.le_refl _⟩
  · obtain ⟨y, y3⟩ := H.2.2.2.1 k z
    have n2 : (T k).1 ≠ c := by rw [y3]; exact ng _ (by decide)
    exact ⟨⟨fun s => by have := s.1; omega, fun s => absurd s n2⟩, fun s => absurd s n2⟩
theorem tk_n (H : tkE b L m T st en) {k e : Nat} {lo hi v : Int32} (h1 : hi.toInt ≤ 999) (r : isRow (bIn b L 48 57) (st k) e) (A : numA b (st k) e lo hi v) : (v = -1 ∧ ¬ nOK T k lo hi) ∨ (v = (T k).2 ∧ nOK T k lo hi ∧ k < m ∧ e = en k) := by
  have no : ¬ bIn b L 48 57 (st k) → ¬ numOK b (st k) e lo hi := fun y z => by
    have := row_u r (row_0 y); have := z.1; omega
  have fin : ¬ bIn b L 48 57 (st k) → (T k).1 ≠ -3 → (v = -1 ∧ ¬ nOK T k lo hi) ∨ (v = (T k).2 ∧ nOK T k lo hi ∧ k < m ∧ e = en k) := fun y t => by
    rcases A with ⟨a, -⟩ | ⟨-, a⟩
    · exact Or.inl ⟨a, fun z => t z.1⟩
    · exact absurd a (no y)
  rcases Nat.lt_or_ge k m with z | z
  · rcases (H.2.2.1 k z).2.1 with ⟨y, -, y3⟩ | ⟨y, y2, y3, y4⟩ | ⟨y0, y, y2, -, y4, y3⟩
    · refine fin (fun w => ?_) ?_
      · have a1 := y.2.1; have a2 := w.2.2
        rw [Int32.le_iff_toInt_le] at a1 a2
        have l97 : (97 : Int32).toInt = 97 := rfl
        have l57 : (57 : Int32).toInt = 57 := rfl
        omega
      · rcases y3 with ⟨w, hw, t, -⟩ | ⟨t, -⟩
        · rw [t]; exact fun x => nI_ng (x := -3) (by omega) (by decide) x.symm
        · rw [t]; decide
    · have e1 := row_u r y2
      subst e1
      have sl : st k < en k := by
        rcases Nat.lt_or_ge (st k) (en k) with q | q
        · exact q
        · exact absurd (by rw [show en k = st k by have := r.1; omega]; exact y) r.2.2
      by_cases q : en k ≤ st k + 3
      · rw [if_pos q] at y4
        rcases A with ⟨a, a2⟩ | ⟨a, a2⟩
        · exact Or.inl ⟨a, fun w => a2 ⟨sl, q, by rw [← y4]; exact w.2.1, by rw [← y4]; exact w.2.2⟩⟩
        · exact Or.inr ⟨by rw [y4]; exact a, ⟨y3, by rw [y4]; exact a2.2.2.1, by rw [y4]; exact a2.2.2.2⟩, z, rfl⟩
      · rw [if_neg q] at y4
        have nn : ¬ nOK T k lo hi := fun w => by
          have := w.2.2
          rw [y4, Int32.le_iff_toInt_le] at this
          have l : (1000 : Int32).toInt = 1000 := rfl
          omega
        rcases A with ⟨a, a2⟩ | ⟨a, a2⟩
        · exact Or.inl ⟨a, nn⟩
        · exact absurd a2.2.1 q
    · refine fin y2 ?_
      rw [y3]
      split
      · decide
      · rename_i q
        intro x
        rw [x] at q
        exact q (by decide)
  · obtain ⟨y, y3⟩ := H.2.2.2.1 k z
    exact fin (fun w => by have := w.1; omega) (by rw [y3]; decide)
end
section
/-! the reference reads by things: rc: it stands before thing k; rw: it stands behind the letters of thing k -/
def rc (O : jO) (x : Nat) (b : Nat → Int32) (L : Nat) (st : Nat → Nat) (k : Nat) : Prop := ∃ p, rb O x b L p ∧ cur b st p k
def rw2 (O : jO) (x : Nat) (b : Nat → Int32) (L : Nat) (st : Nat → Nat) (k : Nat) : Prop := ∃ e, rb O x b L e ∧ isRow (bIn b L 97 122) (st k) e ∧ oi O x 12 = nI (st k)
variable {b : Nat → Int32} {L m : Nat} {T : Nat → Int32 × Int32} {st en : Nat → Nat}
theorem rc_fr {O O2 : jO} {x k : Nat} {cs fs : List Nat} (R : rc O x b L st k) (f : frM x cs fs O O2) (hc : 0 ∉ cs) (hc6 : 6 ∉ cs) (hf : ∀ k ∈ [1, 2, 3, 4, 5, 8, 15, 17, 19, 20, 21], k ∉ fs) (h10 : 10 ∉ fs) (h11 : 11 ∉ fs) : rc O2 x b L st k := by
  obtain ⟨p, R, C⟩ := R
  exact ⟨p, rb_fr R f hc hc6 hf h10 h11, C⟩
theorem rw_fr {O O2 : jO} {x k : Nat} {cs fs : List Nat} (R : rw2 O x b L st k) (f : frM x cs fs O O2) (hc : 0 ∉ cs) (hc6 : 6 ∉ cs) (hf : ∀ k ∈ [1, 2, 3, 4, 5, 8, 15, 17, 19, 20, 21], k ∉ fs) (h10 : 10 ∉ fs) (h11 : 11 ∉ fs) (h12 : 12 ∉ fs) : rw2 O2 x b L st k := by
  obtain ⟨e, R, C, g⟩ := R
  exact ⟨e, rb_fr R f hc hc6 hf h10 h11, C, (frM_oi f hc h12).trans g⟩
theorem rw_n {O : jO} {x k w : Nat} (H : tkE b L m T st en) (hw : w < 23) (R : rw2 O x b L st k) (h : (T k).1 = nI w) : rc O x b L st (k + 1) := by
  obtain ⟨e, R, C, g⟩ := R
  obtain ⟨z, y⟩ := (tk_w H hw C).2 h
  subst y
  exact ⟨en k, R, cur_n H z⟩
theorem rc_mS {O : jO} {x k : Nat} (R : rc O x b L st k) : mS O x := by obtain ⟨p, R, -⟩ := R; exact R.1
theorem rw_mS {O : jO} {x k : Nat} (R : rw2 O x b L st k) : mS O x := by obtain ⟨p, R, -⟩ := R; exact R.1
theorem T_blanks {n x k : Nat} {h : jH} {q : jH} (H : tkE b L m T st en) (R : rc (oc h) x b L st k) (e : F_X12_blanks n x h = some q) : rb (oc q) x b L (st k) ∧ oi (oc q) x 12 = nI (st k) ∧ frM x [] [10, 12] (oc h) (oc q) ∧ q.1 = h.1 := by
  obtain ⟨p, R, C⟩ := R
  obtain ⟨s, r, R2, g, f, z⟩ := E_X12_blanks R e
  have := cur_sp H C r
  subst this
  exact ⟨R2, g, f, z⟩
theorem T_letters {n x k : Nat} {h : jH} {q : jH} (H : tkE b L m T st en) (R : rc (oc h) x b L st k) (e : F_X12_letters n x h = some q) : rw2 (oc q) x b L st k ∧ frM x [] [10, 12] (oc h) (oc q) ∧ q.1 = h.1 := by
  obtain ⟨p, R, C⟩ := R
  obtain ⟨s, e, r, r2, R2, g, f, z⟩ := E_X12_letters R e
  have := cur_sp H C r
  subst this
  exact ⟨⟨e, R2, r2, g⟩, f, z⟩
theorem T_isWord {n x k w : Nat} {h : jH} {q : Int32} (H : tkE b L m T st en) (hw : w < 23) (R : rw2 (oc h) x b L st k) (e : F_X12_isWord n x (wT w) h = some q) : (q = 0 ∨ q = 1) ∧ (q = 1 ↔ (T k).1 = nI w) := by
  obtain ⟨e2, R, C, g⟩ := R
  obtain ⟨a, c⟩ := E_X12_isWord R g C.1 (wT_l w hw).2 e
  exact ⟨a, c.trans (tk_w H hw C).1⟩
theorem T_passes {n x k w : Nat} {h : jH} {q : Int32 × jH} (H : tkE b L m T st en) (hw : w < 23) (R : rc (oc h) x b L st k) (e : F_X12_passes n x (wT w) h = some q) : ((q.1 = 1 ∧ (T k).1 = nI w ∧ rc (oc q.2) x b L st (k + 1)) ∨ (q.1 = 0 ∧ (T k).1 ≠ nI w ∧ rc (oc q.2) x b L st k)) ∧ oi (oc q.2) x 12 = nI (st k) ∧ frM x [] [10, 12] (oc h) (oc q.2) ∧ q.2.1 = h.1 := by
  obtain ⟨p, R, C⟩ := R
  obtain ⟨s, e, r, r2, g, d, f, z⟩ := E_X12_passes R (wT_l w hw).2 e
  have := cur_sp H C r
  subst this
  obtain ⟨w1, w2⟩ := tk_w H hw r2
  refine ⟨?_, g, f, z⟩
  rcases d with ⟨d1, d2, d3⟩ | ⟨d1, d2, d3⟩
  · obtain ⟨y1, y2⟩ := w2 (w1.mp d2)
    subst y2
    exact Or.inl ⟨d1, w1.mp d2, en k, d3, cur_n H y1⟩
  · exact Or.inr ⟨d1, fun y => d2 (w1.mpr y), st k, d3, cur_0 k⟩
theorem T_sign {n x k : Nat} {c : Int32} {h : jH} {q : Int32 × jH} (H : tkE b L m T st en) (hc : sgn c) (R : rc (oc h) x b L st k) (e : F_X12_sign n x c h = some q) : ((q.1 = 1 ∧ (T k).1 = c ∧ rc (oc q.2) x b L st (k + 1)) ∨ (q.1 = 0 ∧ (T k).1 ≠ c ∧ rc (oc q.2) x b L st k)) ∧ oi (oc q.2) x 12 = nI (st k) ∧ frM x [] [10, 12] (oc h) (oc q.2) ∧ q.2.1 = h.1 := by
  obtain ⟨p, R, C⟩ := R
  obtain ⟨s, r, g, d, f, z⟩ := E_X12_sign R e
  have := cur_sp H C r
  subst this
  obtain ⟨w1, w2⟩ := tk_s H (k := k) hc
  refine ⟨?_, g, f, z⟩
  rcases d with ⟨d1, d2, d3⟩ | ⟨d1, d2, d3⟩
  · obtain ⟨y1, y2⟩ := w2 (w1.mp d2)
    rw [y2] at d3
    exact Or.inl ⟨d1, w1.mp d2, en k, d3, cur_n H y1⟩
  · exact Or.inr ⟨d1, fun y => d2 (w1.mpr y), st k, d3, cur_0 k⟩
theorem T_number {n x k : Nat} {lo hi : Int32} {h : jH} {q : Int32 × jH} (H : tkE b L m T st en) (hh : hi.toInt ≤ 999) (R : rc (oc h) x b L st k) (e : F_X12_number n x lo hi h = some q) : ((q.1 = (T k).2 ∧ nOK T k lo hi ∧ rc (oc q.2) x b L st (k + 1)) ∨ (q.1 = -1 ∧ ¬ nOK T k lo hi)) ∧ mS (oc q.2) x ∧ oi (oc q.2) x 12 = nI (st k) ∧ frM x [] [10, 12] (oc h) (oc q.2) ∧ q.2.1 = h.1 := by
  obtain ⟨p, R, C⟩ := R
  obtain ⟨s, e, r, r2, g, R2, d, f, z⟩ := E_X12_number R e
  have := cur_sp H C r
  subst this
  refine ⟨?_, R2.1, g, f, z⟩
  rcases tk_n H hh r2 d with ⟨y1, y2⟩ | ⟨y1, y2, y3, y4⟩
  · exact Or.inr ⟨y1, y2⟩
  · subst y4
    exact Or.inl ⟨y1, y2, en k, R2, cur_n H y3⟩
theorem T_after {n x k w : Nat} {lo hi : Int32} {h : jH} {q : Int32 × jH} (H : tkE b L m T st en) (hw : w < 23) (hh : hi.toInt ≤ 999) (R : rc (oc h) x b L st k) (e : F_X12_after n x (wT w) lo hi h = some q) : (((T k).1 = nI w ∧ q.1 = (T (k + 1)).2 ∧ nOK T (k + 1) lo hi ∧ rc (oc q.2) x b L st (k + 2)) ∨ ((T k).1 ≠ nI w ∧ q.1 = -1 ∧ oi (oc q.2) x 12 = nI (st k)) ∨ ((T k).1 = nI w ∧ ¬ nOK T (k + 1) lo hi ∧ q.1 = -1 ∧ oi (oc q.2) x 12 = nI (st (k + 1)))) ∧ mS (oc q.2) x ∧ frM x [] [10, 12] (oc h) (oc q.2) ∧ q.2.1 = h.1 := by
  have M := rc_mS R
  obtain ⟨p, R, C⟩ := R
  obtain ⟨s, e, r, r2, d, f, z⟩ := E_X12_after R (wT_l w hw).2 e
  have := cur_sp H C r
  subst this
  obtain ⟨w1, w2⟩ := tk_w H hw r2
  refine ⟨?_, mS_fr M f (by decide) (by decide), f, z⟩
  rcases d with ⟨d1, d2, d3⟩ | ⟨d1, s2, e2, d2, d3, d4, d5, d6⟩
  · exact Or.inr (Or.inl ⟨fun y => d2 (w1.mpr y), d1, d3⟩)
  · obtain ⟨y1, y2⟩ := w2 (w1.mp d1)
    subst y2
    have := cur_sp H (cur_n H y1) d2
    subst this
    rcases tk_n H hh d3 d6 with ⟨v1, v2⟩ | ⟨v1, v2, v3, v4⟩
    · exact Or.inr (Or.inr ⟨w1.mp d1, v2, v1, d4⟩)
    · subst v4
      exact Or.inl ⟨w1.mp d1, v1, v2, en (k + 1), d5, cur_n H v3⟩
end
section
/-! the class's tape: bytes, rows, words, numbers, things -/
def ctb (O : jO) (t : Nat) (b : Nat → Int32) (L : Nat) : Prop := tpS O t ∧ oi O t 6 = nI L ∧ L ≤ 400 ∧ (∀ i, i < 400 → oi O (t + 1) i = b i) ∧ ∀ i, i < 400 → -128 ≤ (b i).toInt ∧ (b i).toInt ≤ 127
theorem ctb_fr {O O2 : jO} {t L : Nat} {b : Nat → Int32} (C : ctb O t b L) (f : ∀ a k : Nat, ((a = t ∧ (k ≤ 3 ∨ k = 6)) ∨ a = t + 1) → O2 a k = O a k) : ctb O2 t b L := by
  obtain ⟨⟨p0, p1, p2, p3⟩, h6, hL, hb, hr⟩ := C
  have fi : ∀ a k : Nat, ((a = t ∧ (k ≤ 3 ∨ k = 6)) ∨ a = t + 1) → oi O2 a k = oi O a k := fun a k h => by unfold oi; rw [f a k h]
  exact ⟨⟨(f _ _ (by omega)).trans p0, (f _ _ (by omega)).trans p1, (f _ _ (by omega)).trans p2, (f _ _ (by omega)).trans p3⟩, (fi _ _ (by omega)).trans h6, hL, fun i hi => (fi _ _ (by omega)).trans (hb i hi), hr⟩
theorem in255 {v lo hi : Int32} (h : -128 ≤ v.toInt ∧ v.toInt ≤ 127) (hc : 0 ≤ lo.toInt ∧ hi.toInt ≤ 127) : (lo ≤ v ∧ v ≤ hi) ↔ (lo ≤ v &&& 255 ∧ v &&& 255 ≤ hi) := by
  rw [Int32.le_iff_toInt_le, Int32.le_iff_toInt_le, Int32.le_iff_toInt_le, Int32.le_iff_toInt_le, b255 h]
  split <;> omega
theorem eq255 {v c : Int32} (h : -128 ≤ v.toInt ∧ v.toInt ≤ 127) (hc : 0 ≤ c.toInt ∧ c.toInt ≤ 127) : v &&& 255 = c ↔ v = c := by
  rw [← Int32.toInt_inj, ← Int32.toInt_inj, b255 h]
  split <;> omega
theorem dig255 {v : Int32} (h : (48 : Int32) ≤ v ∧ v ≤ 57) : v &&& 255 = v := by
  rw [Int32.le_iff_toInt_le, Int32.le_iff_toInt_le] at h
  have l48 : (48 : Int32).toInt = 48 := rfl
  have l57 : (57 : Int32).toInt = 57 := rfl
  rw [← Int32.toInt_inj, b255 (by omega), if_neg (by omega)]
theorem jtb_r {t i : Nat} (ht : t < 36) (hi : i < (jtb t).length) : 0 ≤ ((jtb t).getD i 0).toInt ∧ ((jtb t).getD i 0).toInt ≤ 127 := by
  have h := List.all_eq_true.mp (jtlt t ht).2 ((jtb t).getD i 0) (by rw [List.getD_eq_getElem?_getD, List.getElem?_eq_getElem hi]; exact List.getElem_mem hi)
  have h0 := of_decide_eq_true (Bool.and_eq_true_iff.mp h).1
  have h1 := of_decide_eq_true (Bool.and_eq_true_iff.mp h).2
  rw [Int32.le_iff_toInt_le] at h0
  rw [Int32.lt_iff_toInt_lt] at h1
  have l : (128 : Int32).toInt = 128 := rfl
  have l0 : (0 : Int32).toInt = 0 := rfl
  omega
/-- where the word w begins in the class's list of words -/
def wSs : List Nat := [0, 5, 11, 15, 20, 25, 30, 34, 39, 45, 49, 56, 60, 64, 67, 70, 76, 81, 84, 90, 97, 103, 108, 113]
def wS (w : Nat) : Nat := wSs.getD w 0
theorem wS_t (w : Nat) (hw : w < 23) : wS (w + 1) = wS w + (jtb (wT w)).length + 1 ∧ wS w + (jtb (wT w)).length < (jtb 0).length ∧ (jtb 0).getD (wS w + (jtb (wT w)).length) 0 = 32 ∧ (∀ i : Nat, i < (jtb (wT w)).length → (jtb 0).getD (wS w + i) 0 = (jtb (wT w)).getD i 0 ∧ (jtb (wT w)).getD i 0 ≠ 32) := by
  have : ∀ w : Fin 23, wS (w.val + 1) = wS w.val + (jtb (wT w.val)).length + 1 ∧ wS w.val + (jtb (wT w.val)).length < (jtb 0).length ∧ (jtb 0).getD (wS w.val + (jtb (wT w.val)).length) 0 = 32 ∧ (∀ i : Nat, i < (jtb (wT w.val)).length → (jtb 0).getD (wS w.val + i) 0 = (jtb (wT w.val)).getD i 0 ∧ (jtb (wT w.val)).getD i 0 ≠ 32) := by decide +kernel
  exact this ⟨w, hw⟩
theorem wS_23 : wS 23 = (jtb 0).length ∧ (jtb 0).length = 113 := by decide +kernel
theorem E_X10_at {b : Nat → Int32} {L : Nat} {i : Nat} {n : Nat} {a0 : Nat} {x1 : Int32} {h : jH} {q : Int32} (C : ctb (oc h) a0 b L) (hx : x1 = nI i) (hi : i < 1000000) (hf : F_X10_at n a0 x1 h = some q) : (i < L ∧ q = b i &&& 255) ∨ (L ≤ i ∧ q = -1) := by
  unfold F_X10_at at hf
  obtain ⟨⟨p0, p1, p2, p3⟩, h6, hL, hb, hr⟩ := id C
  replace hf := jite hf
  rcases hf with ⟨c1, hf⟩ | ⟨c1, hf⟩
  · skip
    cases hf
    -- leaf 0: (- 1 : Int32)
    rw [hx, Int32.lt_iff_toInt_lt, nI_toInt (by omega), show (0 : Int32).toInt = 0 from rfl] at c1
    omega
  · skip
    replace hf := jbind hf
    obtain ⟨v6, e2, hf⟩ := hf
    have r2 := oc_gI e2
    subst r2
    clear e2
    replace hf := jite hf
    rcases hf with ⟨c3, hf⟩ | ⟨c3, hf⟩
    · skip
      cases hf
      -- leaf 10: (- 1 : Int32)
      rw [hx, h6, Int32.le_iff_toInt_le, nI_toInt (by omega), nI_toInt (by omega)] at c3
      exact Or.inr ⟨by omega, rfl⟩
    · skip
      replace hf := jite hf
      rcases hf with ⟨c4, hf⟩ | ⟨c4, hf⟩
      · skip
        replace hf := jbind hf
        obtain ⟨p24, e5, hf⟩ := hf
        have r5 := oc_gR e5
        rw [p0] at r5
        cases r5
        clear e5
        replace hf := jbind hf
        obtain ⟨v28, e6, hf⟩ := hf
        obtain ⟨r6, y6⟩ := oc_al e6
        subst r6
        clear e6
        cases hf
        -- leaf 110: (v28 &&& (255 : Int32))
        rw [hx, h6, Int32.le_iff_toInt_le, nI_toInt (by omega), nI_toInt (by omega)] at c3
        rw [hx, nI_cl (by omega), hb i (by omega)]
        exact Or.inl ⟨by omega, rfl⟩
      · skip
        cases hf
        -- leaf 111: (- 1 : Int32)
        rw [hx, h6, Int32.le_iff_toInt_le, nI_toInt (by omega), nI_toInt (by omega)] at c3
        rw [hx, Int32.lt_iff_toInt_lt, nI_toInt (by omega), show (400 : Int32).toInt = 400 from rfl] at c4
        omega
theorem E_X10_endOfRow_3 {n : Nat} {b : Nat → Int32} {L : Nat} : ∀ (k : Nat) {a0 : Nat} {x2 : Int32} {x3 : Int32} {x4 : Int32} {h : jH} {q : Int32} (i : Nat) (C : ctb (oc h) a0 b L) (hc : 0 ≤ x2.toInt ∧ x3.toInt ≤ 127) (hx : x4 = nI i) (hi : i ≤ L), F_X10_endOfRow_3 n k a0 x2 x3 x4 h = some q → ∃ j, q = nI j ∧ isRow (bIn b L x2 x3) i j ∧ j ≤ L
  | 0, a0, x2, x3, x4, h, q, i, C, hc, hx, hi, hf => by cases hf
  | k + 1, a0, x2, x3, x4, h, q, i, C, hc, hx, hi, hf => by
    replace hf : F_X10_endOfRow_3_b n (F_X10_endOfRow_3 n k) a0 x2 x3 x4 h = some q := hf
    unfold F_X10_endOfRow_3_b at hf
    obtain ⟨⟨p0, p1, p2, p3⟩, h6, hL, hb, hr⟩ := id C
    replace hf := jbind hf
    obtain ⟨v6, e1, hf⟩ := hf
    have r1 := oc_gI e1
    subst r1
    clear e1
    replace hf := jite hf
    rcases hf with ⟨c2, hf⟩ | ⟨c2, hf⟩
    · skip
      cases hf
      -- leaf 0: x4
      rw [h6, hx, Int32.le_iff_toInt_le, nI_toInt (by omega), nI_toInt (by omega)] at c2
      exact ⟨i, hx, row_0 (fun z => by have := z.1; omega), hi⟩
    · skip
      replace hf := jbind hf
      obtain ⟨v15, e3, hf⟩ := hf
      replace e3 := (jcv_o e3).2
      have r3 := E_X10_at C hx (by omega) e3
      replace hf := jite hf
      rcases hf with ⟨c4, hf⟩ | ⟨c4, hf⟩
      · skip
        cases hf
        -- leaf 10: x4
        rw [h6, hx, Int32.le_iff_toInt_le, nI_toInt (by omega), nI_toInt (by omega)] at c2
        rcases r3 with ⟨y, y2⟩ | ⟨y, -⟩
        rotate_left
        · omega
        rw [y2] at c4
        exact ⟨i, hx, row_0 (fun z => by have := ((in255 (hr i (by omega)) hc).mp z.2).1; rw [Int32.le_iff_toInt_le] at this; rw [Int32.lt_iff_toInt_lt] at c4; omega), hi⟩
      · skip
        replace hf := jbind hf
        obtain ⟨v25, e5, hf⟩ := hf
        replace e5 := (jcv_o e5).2
        have r5 := E_X10_at C hx (by omega) e5
        replace hf := jite hf
        rcases hf with ⟨c6, hf⟩ | ⟨c6, hf⟩
        · skip
          cases hf
          -- leaf 110: x4
          rw [h6, hx, Int32.le_iff_toInt_le, nI_toInt (by omega), nI_toInt (by omega)] at c2
          rcases r5 with ⟨y, y2⟩ | ⟨y, -⟩
          rotate_left
          · omega
          rw [y2] at c6
          exact ⟨i, hx, row_0 (fun z => by have := ((in255 (hr i (by omega)) hc).mp z.2).2; rw [Int32.le_iff_toInt_le] at this; rw [Int32.lt_iff_toInt_lt] at c6; omega), hi⟩
        · skip
          -- leaf 111: rc3 a0 x2 x3 (x4 + (1 : Int32)) h
          rw [h6, hx, Int32.le_iff_toInt_le, nI_toInt (by omega), nI_toInt (by omega)] at c2
          rcases r5 with ⟨y, y2⟩ | ⟨y, -⟩
          rotate_left
          · omega
          rcases r3 with ⟨-, y3⟩ | ⟨y, -⟩
          rotate_left
          · omega
          rw [y2, Int32.lt_iff_toInt_lt] at c6
          rw [y3, Int32.lt_iff_toInt_lt] at c4
          have z : bIn b L x2 x3 i := ⟨y, (in255 (hr i (by omega)) hc).mpr ⟨by rw [Int32.le_iff_toInt_le]; omega, by rw [Int32.le_iff_toInt_le]; omega⟩⟩
          rw [hx] at hf
          obtain ⟨j, j1, j2, j3⟩ := E_X10_endOfRow_3 k (i + 1) C hc (nI_1 i) (by omega) hf
          exact ⟨j, j1, row_s z j2, j3⟩
theorem E_X10_endOfRow {b : Nat → Int32} {L : Nat} {i : Nat} {n : Nat} {a0 : Nat} {x1 : Int32} {x2 : Int32} {x3 : Int32} {h : jH} {q : Int32} (C : ctb (oc h) a0 b L) (hc : 0 ≤ x2.toInt ∧ x3.toInt ≤ 127) (hx : x1 = nI i) (hi : i ≤ L) (hf : F_X10_endOfRow n a0 x1 x2 x3 h = some q) : ∃ j, q = nI j ∧ isRow (bIn b L x2 x3) i j ∧ j ≤ L := by
  unfold F_X10_endOfRow at hf
  -- leaf : F_X10_endOfRow_3 n n a0 x2 x3 x1 h
  exact E_X10_endOfRow_3 n i C hc hx hi hf
theorem E_X10_numberBetween_16 {n : Nat} {b : Nat → Int32} {L : Nat} {s : Nat} {e : Nat} (he : e ≤ L) (hd : ∀ k, s ≤ k → k < e → bIn b L 48 57 k) : ∀ (k : Nat) {a0 : Nat} {x2 : Int32} {x3 : Int32} {x4 : Int32} {h : jH} {q : Int32} (i : Nat) (C : ctb (oc h) a0 b L) (hx : x4 = nI i) (h2 : x2 = nI e) (hs : s ≤ i) (hi : i ≤ e) (h3 : x3 = dV b s (i - s)), F_X10_numberBetween_16 n k a0 x2 x3 x4 h = some q → q = dV b s (e - s)
  | 0, a0, x2, x3, x4, h, q, i, C, hx, h2, hs, hi, h3, hf => by cases hf
  | k + 1, a0, x2, x3, x4, h, q, i, C, hx, h2, hs, hi, h3, hf => by
    replace hf : F_X10_numberBetween_16_b n (F_X10_numberBetween_16 n k) a0 x2 x3 x4 h = some q := hf
    unfold F_X10_numberBetween_16_b at hf
    obtain ⟨⟨p0, p1, p2, p3⟩, h6, hL, hb, hr⟩ := id C
    replace hf := jite hf
    rcases hf with ⟨c1, hf⟩ | ⟨c1, hf⟩
    · skip
      cases hf
      -- leaf 0: x3
      rw [h2, hx, Int32.le_iff_toInt_le, nI_toInt (by omega), nI_toInt (by omega)] at c1
      rw [show e - s = i - s by omega]; exact h3
    · skip
      replace hf := jbind hf
      obtain ⟨v29, e2, hf⟩ := hf
      replace e2 := (jcv_o e2).2
      have r2 := E_X10_at C hx (by omega) e2
      -- leaf 1: rc16 a0 x2 ((((10 : Int32) * x3) + v29) - (48 : Int32)) (x4 + (1 : Int32)) h
      rw [h2, hx, Int32.le_iff_toInt_le, nI_toInt (by omega), nI_toInt (by omega)] at c1
      rcases r2 with ⟨y, y2⟩ | ⟨y, -⟩
      rotate_left
      · omega
      rw [y2, dig255 (hd i hs (by omega)).2, hx] at hf
      exact E_X10_numberBetween_16 he hd k (i + 1) C (nI_1 i) h2 (by omega) (by omega) (by rw [h3, show i + 1 - s = i - s + 1 by omega]; show _ = (10 * dV b s (i - s) + b (s + (i - s))) - 48; rw [show s + (i - s) = i by omega]) hf
theorem E_X10_numberBetween {b : Nat → Int32} {L : Nat} {s : Nat} {e : Nat} {n : Nat} {a0 : Nat} {x1 : Int32} {x2 : Int32} {h : jH} {q : Int32} (C : ctb (oc h) a0 b L) (he : e ≤ L) (hd : ∀ k, s ≤ k → k < e → bIn b L 48 57 k) (h1 : x1 = nI s) (h2 : x2 = nI e) (hs : s ≤ e) (hf : F_X10_numberBetween n a0 x1 x2 h = some q) : q = if e ≤ s + 3 then dV b s (e - s) else 1000 := by
  unfold F_X10_numberBetween at hf
  have hL := C.2.2.1
  replace hf := jite hf
  rcases hf with ⟨c1, hf⟩ | ⟨c1, hf⟩
  · skip
    -- leaf 0: F_X10_numberBetween_16 n n a0 x2 (0 : Int32) x1 h
    rw [h1, h2, nI_sb hs (by omega), Int32.le_iff_toInt_le, nI_toInt (by omega), show (3 : Int32).toInt = 3 from rfl] at c1
    rw [if_pos (by omega)]
    exact E_X10_numberBetween_16 he hd n s C h1 h2 (Nat.le_refl s) hs (by rw [Nat.sub_self]; rfl) hf
  · skip
    cases hf
    -- leaf 1: (1000 : Int32)
    rw [h1, h2, nI_sb hs (by omega), Int32.le_iff_toInt_le, nI_toInt (by omega), show (3 : Int32).toInt = 3 from rfl] at c1
    rw [if_neg (by omega)]
theorem E_X10_standsAt_3 {n : Nat} {b : Nat → Int32} {L : Nat} {s : Nat} {f : Nat} {t : Nat} (hs : s + (t - f) ≤ L) (ft : f ≤ t) (tl : t ≤ (jtb 0).length) : ∀ (k : Nat) {a0 : Nat} {x1 : Int32} {x2 : Int32} {x3 : Int32} {x4 : Int32} {h : jH} {q : Int32} (j : Nat) (C : ctb (oc h) a0 b L) (h1 : x1 = nI s) (h2 : x2 = nI f) (h3 : x3 = nI t) (h4 : x4 = nI j) (fj : f ≤ j) (jt : j ≤ t), F_X10_standsAt_3 n k a0 x1 x2 x3 x4 h = some q → (q = 0 ∨ q = 1) ∧ (q = 1 ↔ ∀ i, j ≤ i → i < t → b (s + (i - f)) = (jtb 0).getD i 0)
  | 0, a0, x1, x2, x3, x4, h, q, j, C, h1, h2, h3, h4, fj, jt, hf => by cases hf
  | k + 1, a0, x1, x2, x3, x4, h, q, j, C, h1, h2, h3, h4, fj, jt, hf => by
    replace hf : F_X10_standsAt_3_b n (F_X10_standsAt_3 n k) a0 x1 x2 x3 x4 h = some q := hf
    unfold F_X10_standsAt_3_b at hf
    obtain ⟨⟨p0, p1, p2, p3⟩, h6, hL, hb, hr⟩ := id C
    have l113 := wS_23.2
    replace hf := jite hf
    rcases hf with ⟨c1, hf⟩ | ⟨c1, hf⟩
    · skip
      cases hf
      -- leaf 0: (1 : Int32)
      rw [h3, h4, Int32.le_iff_toInt_le, nI_toInt (by omega), nI_toInt (by omega)] at c1
      exact ⟨Or.inr rfl, fun _ i h1 h2 => by omega, fun _ => rfl⟩
    · skip
      replace hf := jbind hf
      obtain ⟨v16, e2, hf⟩ := hf
      replace e2 := (jcv_o e2).2
      have y2 : (x1 + x4) - x2 = nI (s + j - f) := by rw [h1, h4, h2]; have ea : nI s + nI j = nI (s + j) := nI_add s j; rw [ea, nI_sb (by omega) (by omega)]
      have r2 := E_X10_at C y2 (by omega) e2
      replace hf := jbind hf
      obtain ⟨v23, e3, hf⟩ := hf
      replace hf := jite hf
      rcases hf with ⟨c4, hf⟩ | ⟨c4, hf⟩
      · skip
        -- leaf 10: rc3 a0 x1 x2 x3 (x4 + (1 : Int32)) h
        rw [h3, h4, Int32.le_iff_toInt_le, nI_toInt (by omega), nI_toInt (by omega)] at c1
        rcases r2 with ⟨y, y3⟩ | ⟨y, -⟩
        rotate_left
        · omega
        rw [y3, jtc_o e3, h4, nI_cl (by omega), eq255 (hr _ (by omega)) (jtb_r (by decide) (by omega))] at c4
        rw [h4] at hf
        obtain ⟨q1, q2⟩ := E_X10_standsAt_3 hs ft tl k (j + 1) C h1 h2 h3 (nI_1 j) (by omega) (by omega) hf
        refine ⟨q1, fun z i a1 a2 => ?_, fun z => q2.mpr fun i a1 a2 => z i (by omega) a2⟩
        by_cases w : i = j
        · rw [w, show s + (j - f) = s + j - f by omega]; exact c4
        · exact q2.mp z i (by omega) a2
      · skip
        cases hf
        -- leaf 11: (0 : Int32)
        rw [h3, h4, Int32.le_iff_toInt_le, nI_toInt (by omega), nI_toInt (by omega)] at c1
        rcases r2 with ⟨y, y3⟩ | ⟨y, -⟩
        rotate_left
        · omega
        rw [y3, jtc_o e3, h4, nI_cl (by omega), eq255 (hr _ (by omega)) (jtb_r (by decide) (by omega))] at c4
        exact ⟨Or.inl rfl, fun z => absurd z (by decide), fun z => absurd (by have := z j (Nat.le_refl j) (by omega); rw [show s + (j - f) = s + j - f by omega] at this; exact this) c4⟩
theorem E_X10_standsAt {b : Nat → Int32} {L : Nat} {s : Nat} {f : Nat} {t : Nat} {n : Nat} {a0 : Nat} {x1 : Int32} {x2 : Int32} {x3 : Int32} {h : jH} {q : Int32} (C : ctb (oc h) a0 b L) (hs : s + (t - f) ≤ L) (ft : f ≤ t) (tl : t ≤ (jtb 0).length) (h1 : x1 = nI s) (h2 : x2 = nI f) (h3 : x3 = nI t) (hf : F_X10_standsAt n a0 x1 x2 x3 h = some q) : (q = 0 ∨ q = 1) ∧ (q = 1 ↔ ∀ i, f ≤ i → i < t → b (s + (i - f)) = (jtb 0).getD i 0) := by
  unfold F_X10_standsAt at hf
  -- leaf : F_X10_standsAt_3 n n a0 x1 x2 x3 x2 h
  exact E_X10_standsAt_3 hs ft tl n f C h1 h2 h3 h2 (Nat.le_refl f) ft hf
theorem E_X10_wordBetween_8 {n : Nat} {b : Nat → Int32} {L : Nat} {s : Nat} {e : Nat} (he : e ≤ L) (hs : s ≤ e) : ∀ (k : Nat) {a0 : Nat} {x1 : Int32} {x2 : Int32} {x3 : Int32} {x4 : Int32} {x5 : Int32} {h : jH} {q : Int32} (w : Nat) (t : Nat) (C : ctb (oc h) a0 b L) (h1 : x1 = nI s) (h2 : x2 = nI e) (h3 : x3 = nI w) (h4 : x4 = nI (wS w)) (h5 : x5 = nI t) (kw : w ≤ 23) (k1 : wS w ≤ t) (k2 : w < 23 → t ≤ wS w + (jtb (wT w)).length) (k3 : w = 23 → t = wS 23) (no : ∀ w2 : Nat, w2 < w → ¬ spl b s e (jtb (wT w2))), F_X10_wordBetween_8 n k a0 x1 x2 x3 x4 x5 h = some q → (∃ w : Nat, w < 23 ∧ q = nI w ∧ spl b s e (jtb (wT w))) ∨ (q = -2 ∧ ∀ w : Nat, w < 23 → ¬ spl b s e (jtb (wT w)))
  | 0, a0, x1, x2, x3, x4, x5, h, q, w, t, C, h1, h2, h3, h4, h5, kw, k1, k2, k3, no, hf => by cases hf
  | k + 1, a0, x1, x2, x3, x4, x5, h, q, w, t, C, h1, h2, h3, h4, h5, kw, k1, k2, k3, no, hf => by
    replace hf : F_X10_wordBetween_8_b n (F_X10_wordBetween_8 n k) a0 x1 x2 x3 x4 x5 h = some q := hf
    unfold F_X10_wordBetween_8_b at hf
    have hL := C.2.2.1
    replace hf := jbind hf
    obtain ⟨v12, e1, hf⟩ := hf
    replace hf := jite hf
    rcases hf with ⟨c2, hf⟩ | ⟨c2, hf⟩
    · skip
      cases hf
      -- leaf 0: (- 2 : Int32)
      have l113 := wS_23.2
      have l23 := wS_23.1
      have tb : t ≤ 113 := by
        rcases Nat.lt_or_ge w 23 with z | z
        · have := k2 z; have := (wS_t w z).2.1; omega
        · have := k3 (by omega); omega
      rw [jtl_o e1, h5, Int32.le_iff_toInt_le, nI_toInt (by omega), nI_toInt (by omega)] at c2
      have w23 : w = 23 := by
        rcases Nat.lt_or_ge w 23 with z | z
        · have := k2 z; have := (wS_t w z).2.1; omega
        · omega
      subst w23
      exact Or.inr ⟨rfl, no⟩
    · skip
      replace hf := jbind hf
      obtain ⟨v22, e3, hf⟩ := hf
      replace hf := jite hf
      rcases hf with ⟨c4, hf⟩ | ⟨c4, hf⟩
      · skip
        replace hf := jite hf
        rcases hf with ⟨c5, hf⟩ | ⟨c5, hf⟩
        · skip
          replace hf := jbind hf
          obtain ⟨v47, e6, hf⟩ := hf
          replace e6 := (jcv_o e6).2
          have l113 := wS_23.2
          have l23 := wS_23.1
          have tb : t ≤ 113 := by
            rcases Nat.lt_or_ge w 23 with z | z
            · have := k2 z; have := (wS_t w z).2.1; omega
            · have := k3 (by omega); omega
          rw [jtl_o e1, h5, Int32.le_iff_toInt_le, nI_toInt (by omega), nI_toInt (by omega)] at c2
          have w22 : w < 23 := by
            rcases Nat.lt_or_ge w 23 with z | z
            · exact z
            · have : w = 23 := by omega
              have := k3 this
              omega
          have k4 := k2 w22
          obtain ⟨t1, t2, t3, t4⟩ := wS_t w w22
          rw [jtc_o e3, h5, nI_cl (by omega)] at c4
          have tt : t = wS w + (jtb (wT w)).length := by
            rcases Nat.lt_or_ge t (wS w + (jtb (wT w)).length) with z | z
            · obtain ⟨u1, u2⟩ := t4 (t - wS w) (by omega)
              rw [show wS w + (t - wS w) = t by omega] at u1
              exact absurd (u1.symm.trans c4) u2
            · omega
          subst tt
          rw [h5, h4, nI_sb (by omega) (by omega), h1, h2, nI_sb (by omega) (by omega), nI_eq (by omega) (by omega)] at c5
          have r6 := E_X10_standsAt (s := s) (f := wS w) (t := wS w + (jtb (wT w)).length) C (by omega) (by omega) (by omega) h1 h4 h5 e6
          replace hf := jite hf
          rcases hf with ⟨c7, hf⟩ | ⟨c7, hf⟩
          · skip
            -- leaf 1000: rc8 a0 x1 x2 (x3 + (1 : Int32)) (x5 + (1 : Int32)) (x5 + (1 : Int32)) h
            have sp : ¬ spl b s e (jtb (wT w)) := fun z => by
              have y := r6.2.mpr fun i a1 a2 => by
                have := z.2 (i - wS w) (by omega)
                rw [this, ← (t4 (i - wS w) (by omega)).1, show wS w + (i - wS w) = i by omega]
              exact absurd (c7.symm.trans y) (by decide)
            rw [h3, h5, nI_1, nI_1] at hf
            exact E_X10_wordBetween_8 he hs k (w + 1) (wS w + (jtb (wT w)).length + 1) C h1 h2 rfl (by rw [t1]) rfl (by omega) (by omega) (fun z => by have := (wS_t (w + 1) z).1; omega) (fun z => by rw [← z]; exact t1.symm) (fun w2 z => by
              rcases Nat.lt_or_ge w2 w with z2 | z2
              · exact no w2 z2
              · have e2 : w2 = w := by omega
                subst e2
                exact sp) hf
          · skip
            cases hf
            -- leaf 1001: x3
            refine Or.inl ⟨w, w22, h3, by omega, fun i hi => ?_⟩
            have y := r6.2.mp (r6.1.resolve_left c7) (wS w + i) (by omega) (by omega)
            rw [show wS w + i - wS w = i by omega] at y
            rw [y, (t4 i hi).1]
        · skip
          -- leaf 101: rc8 a0 x1 x2 (x3 + (1 : Int32)) (x5 + (1 : Int32)) (x5 + (1 : Int32)) h
          have l113 := wS_23.2
          have l23 := wS_23.1
          have tb : t ≤ 113 := by
            rcases Nat.lt_or_ge w 23 with z | z
            · have := k2 z; have := (wS_t w z).2.1; omega
            · have := k3 (by omega); omega
          rw [jtl_o e1, h5, Int32.le_iff_toInt_le, nI_toInt (by omega), nI_toInt (by omega)] at c2
          have w22 : w < 23 := by
            rcases Nat.lt_or_ge w 23 with z | z
            · exact z
            · have : w = 23 := by omega
              have := k3 this
              omega
          have k4 := k2 w22
          obtain ⟨t1, t2, t3, t4⟩ := wS_t w w22
          rw [jtc_o e3, h5, nI_cl (by omega)] at c4
          have tt : t = wS w + (jtb (wT w)).length := by
            rcases Nat.lt_or_ge t (wS w + (jtb (wT w)).length) with z | z
            · obtain ⟨u1, u2⟩ := t4 (t - wS w) (by omega)
              rw [show wS w + (t - wS w) = t by omega] at u1
              exact absurd (u1.symm.trans c4) u2
            · omega
          subst tt
          rw [h5, h4, nI_sb (by omega) (by omega), h1, h2, nI_sb (by omega) (by omega), nI_eq (by omega) (by omega)] at c5
          have sp : ¬ spl b s e (jtb (wT w)) := fun z => by have := z.1; omega
          rw [h3, h5, nI_1, nI_1] at hf
          exact E_X10_wordBetween_8 he hs k (w + 1) (wS w + (jtb (wT w)).length + 1) C h1 h2 rfl (by rw [t1]) rfl (by omega) (by omega) (fun z => by have := (wS_t (w + 1) z).1; omega) (fun z => by rw [← z]; exact t1.symm) (fun w2 z => by
            rcases Nat.lt_or_ge w2 w with z2 | z2
            · exact no w2 z2
            · have e2 : w2 = w := by omega
              subst e2
              exact sp) hf
      · skip
        -- leaf 11: rc8 a0 x1 x2 x3 x4 (x5 + (1 : Int32)) h
        have l113 := wS_23.2
        have l23 := wS_23.1
        have tb : t ≤ 113 := by
          rcases Nat.lt_or_ge w 23 with z | z
          · have := k2 z; have := (wS_t w z).2.1; omega
          · have := k3 (by omega); omega
        rw [jtl_o e1, h5, Int32.le_iff_toInt_le, nI_toInt (by omega), nI_toInt (by omega)] at c2
        have w22 : w < 23 := by
          rcases Nat.lt_or_ge w 23 with z | z
          · exact z
          · have : w = 23 := by omega
            have := k3 this
            omega
        have k4 := k2 w22
        obtain ⟨t1, t2, t3, t4⟩ := wS_t w w22
        rw [jtc_o e3, h5, nI_cl (by omega)] at c4
        have tl : t < wS w + (jtb (wT w)).length := by
          rcases Nat.lt_or_ge t (wS w + (jtb (wT w)).length) with z | z
          · exact z
          · exact absurd (by rw [show t = wS w + (jtb (wT w)).length by omega]; exact t3) c4
        rw [h5, nI_1] at hf
        exact E_X10_wordBetween_8 he hs k w (t + 1) C h1 h2 h3 h4 rfl kw (by omega) (fun _ => by omega) (fun z => by omega) no hf
theorem E_X10_wordBetween {b : Nat → Int32} {L : Nat} {s : Nat} {e : Nat} {n : Nat} {a0 : Nat} {x1 : Int32} {x2 : Int32} {h : jH} {q : Int32} (C : ctb (oc h) a0 b L) (he : e ≤ L) (hs : s ≤ e) (h1 : x1 = nI s) (h2 : x2 = nI e) (hf : F_X10_wordBetween n a0 x1 x2 h = some q) : (∃ w : Nat, w < 23 ∧ q = nI w ∧ spl b s e (jtb (wT w))) ∨ (q = -2 ∧ ∀ w : Nat, w < 23 → ¬ spl b s e (jtb (wT w))) := by
  unfold F_X10_wordBetween at hf
  -- leaf : F_X10_wordBetween_8 n n a0 x1 x2 (0 : Int32) (0 : Int32) (0 : Int32) h
  exact E_X10_wordBetween_8 he hs n 0 0 C h1 h2 rfl rfl rfl (by omega) (by decide) (fun _ => by omega) (fun z => by omega) (fun w z => by omega) hf
end
section
/-! the class scans its tape -/
theorem E_X10_scanThing {b : Nat → Int32} {L : Nat} {s : Nat} {k : Nat} {n : Nat} {a0 : Nat} {x1 : Int32} {h : jH} {q : Int32 × jH} (C : ctb (oc h) a0 b L) (h4 : oi (oc h) a0 4 = nI k) (hk : k < 400) (hx : x1 = nI s) (hs : s < L) (nb : b s ≠ 32) (hf : F_X10_scanThing n a0 x1 h = some q) : ∃ e, q.1 = nI e ∧ s < e ∧ e ≤ L ∧ thE b L s e (oi (oc q.2) (a0 + 2) k, oi (oc q.2) (a0 + 4) k) ∧ (∀ a j : Nat, ¬ (a = a0 + 2 ∧ j = k) → ¬ (a = a0 + 4 ∧ j = k) → oc q.2 a j = oc h a j) ∧ q.2.1 = h.1 := by
  unfold F_X10_scanThing at hf
  obtain ⟨⟨p0, p1, p2, p3⟩, h6, hL, hb, hr⟩ := id C
  replace hf := jbind hf
  obtain ⟨v6, e1, hf⟩ := hf
  replace e1 := (jcv_o e1).2
  obtain ⟨j1, y1, w1, l1⟩ := E_X10_endOfRow C (by decide) hx (by omega) e1
  replace hf := jite hf
  rcases hf with ⟨c2, hf⟩ | ⟨c2, hf⟩
  · skip
    replace hf := jbind hf
    obtain ⟨v38, e3, hf⟩ := hf
    replace e3 := (jcv_o e3).2
    obtain ⟨j3, y3, w3, l3⟩ := E_X10_endOfRow C (by decide) hx (by omega) e3
    replace hf := jite hf
    rcases hf with ⟨c4, hf⟩ | ⟨c4, hf⟩
    · skip
      replace hf := jbind hf
      obtain ⟨v77, e5, hf⟩ := hf
      replace e5 := (jcv_o e5).2
      have r5 := E_X10_at C hx (by omega) e5
      replace hf := jbind hf
      obtain ⟨p82, e6, hf⟩ := hf
      have r6 := oc_gR e6
      rw [p1] at r6
      cases r6
      clear e6
      replace hf := jbind hf
      obtain ⟨v86, e7, hf⟩ := hf
      have r7 := oc_gI e7
      subst r7
      clear e7
      replace hf := jite hf
      rcases hf with ⟨c8, hf⟩ | ⟨c8, hf⟩
      · skip
        replace hf := jbind hf
        obtain ⟨h101, e9, hf⟩ := hf
        obtain ⟨o9, z9, y9⟩ := oc_as e9
        rw [jnar0] at o9
        clear e9
        cases hf
        -- leaf 000: (x1 + (1 : Int32), h101)
        rw [y1, hx, Int32.le_iff_toInt_le, nI_toInt (by omega), nI_toInt (by omega)] at c2
        have n1 : ¬ bIn b L 97 122 s := by have := w1.2.2; rw [show j1 = s by have := w1.1; omega] at this; exact this
        rw [y3, hx, Int32.le_iff_toInt_le, nI_toInt (by omega), nI_toInt (by omega)] at c4
        have n3 : ¬ bIn b L 48 57 s := by have := w3.2.2; rw [show j3 = s by have := w3.1; omega] at this; exact this
        have v5 : v77 = b s &&& 255 := by
          rcases r5 with ⟨-, y⟩ | ⟨y, -⟩
          · exact y
          · omega
        rw [v5] at c8 o9
        rw [Int32.le_iff_toInt_le] at c8
        rw [h4, nI_cl (by omega)] at o9
        refine ⟨s + 1, by rw [hx]; exact nI_1 s, by omega, by omega, Or.inr (Or.inr ⟨hs, n1, n3, nb, rfl, ?_⟩), fun a j u1 u2 => by rw [o9, u2_ne (by omega)], z9⟩
        show oi (oc h101) (a0 + 2) k = _
        rw [o9, oi_eq]
        rw [if_neg (by rw [Int32.lt_iff_toInt_lt]; omega)]
      · skip
        replace hf := jbind hf
        obtain ⟨h101, e10, hf⟩ := hf
        obtain ⟨o10, z10, y10⟩ := oc_as e10
        rw [jnar0] at o10
        clear e10
        cases hf
        -- leaf 001: (x1 + (1 : Int32), h101)
        rw [y1, hx, Int32.le_iff_toInt_le, nI_toInt (by omega), nI_toInt (by omega)] at c2
        have n1 : ¬ bIn b L 97 122 s := by have := w1.2.2; rw [show j1 = s by have := w1.1; omega] at this; exact this
        rw [y3, hx, Int32.le_iff_toInt_le, nI_toInt (by omega), nI_toInt (by omega)] at c4
        have n3 : ¬ bIn b L 48 57 s := by have := w3.2.2; rw [show j3 = s by have := w3.1; omega] at this; exact this
        have v5 : v77 = b s &&& 255 := by
          rcases r5 with ⟨-, y⟩ | ⟨y, -⟩
          · exact y
          · omega
        rw [v5, Int32.le_iff_toInt_le] at c8
        rw [h4, nI_cl (by omega)] at o10
        refine ⟨s + 1, by rw [hx]; exact nI_1 s, by omega, by omega, Or.inr (Or.inr ⟨hs, n1, n3, nb, rfl, ?_⟩), fun a j u1 u2 => by rw [o10, u2_ne (by omega)], z10⟩
        show oi (oc h101) (a0 + 2) k = _
        rw [o10, oi_eq]
        rw [if_pos (by rw [Int32.lt_iff_toInt_lt]; omega)]
    · skip
      replace hf := jbind hf
      obtain ⟨p48, e11, hf⟩ := hf
      have r11 := oc_gR e11
      rw [p1] at r11
      cases r11
      clear e11
      replace hf := jbind hf
      obtain ⟨v52, e12, hf⟩ := hf
      have r12 := oc_gI e12
      subst r12
      clear e12
      replace hf := jbind hf
      obtain ⟨h57, e13, hf⟩ := hf
      obtain ⟨o13, z13, y13⟩ := oc_as e13
      rw [jnar0] at o13
      clear e13
      replace hf := jbind hf
      obtain ⟨p59, e14, hf⟩ := hf
      have r14 := oc_gR e14
      rw [o13] at r14
      rw [u2_ne (Or.inl (by omega))] at r14
      rw [p3] at r14
      cases r14
      clear e14
      replace hf := jbind hf
      obtain ⟨v63, e15, hf⟩ := hf
      have r15 := oc_gI e15
      rw [o13] at r15
      rw [oi_ne (Or.inl (by omega))] at r15
      subst r15
      clear e15
      replace hf := jbind hf
      obtain ⟨v69, e16, hf⟩ := hf
      replace e16 := (jcv_o e16).2
      have C2 : ctb (oc h57) a0 b L := ctb_fr C (fun a k u => by rw [o13, u2_ne (by omega)])
      have r16 := E_X10_numberBetween (s := s) (e := j3) C2 l3 w3.2.1 hx y3 w3.1 e16
      replace hf := jbind hf
      obtain ⟨h72, e17, hf⟩ := hf
      obtain ⟨o17, z17, y17⟩ := oc_as e17
      rw [jnar0] at o17
      clear e17
      cases hf
      -- leaf 01: (v38, h72)
      rw [y1, hx, Int32.le_iff_toInt_le, nI_toInt (by omega), nI_toInt (by omega)] at c2
      have n1 : ¬ bIn b L 97 122 s := by have := w1.2.2; rw [show j1 = s by have := w1.1; omega] at this; exact this
      rw [y3, hx, Int32.le_iff_toInt_le, nI_toInt (by omega), nI_toInt (by omega)] at c4
      rw [h4, nI_cl (by omega)] at o13 o17
      refine ⟨j3, y3, by have := w3.1; omega, l3, Or.inr (Or.inl ⟨w3.2.1 s (Nat.le_refl s) (by have := w3.1; omega), w3, ?_, ?_⟩), fun a j u1 u2 => by rw [o17, u2_ne (by omega), o13, u2_ne (by omega)], z17.trans z13⟩
      · show oi (oc h72) (a0 + 2) k = _
        rw [o17, oi_ne (Or.inl (by omega)), o13, oi_eq]
      · show oi (oc h72) (a0 + 4) k = _
        rw [o17, oi_eq]; exact r16
  · skip
    replace hf := jbind hf
    obtain ⟨p16, e18, hf⟩ := hf
    have r18 := oc_gR e18
    rw [p1] at r18
    cases r18
    clear e18
    replace hf := jbind hf
    obtain ⟨v20, e19, hf⟩ := hf
    have r19 := oc_gI e19
    subst r19
    clear e19
    replace hf := jbind hf
    obtain ⟨v26, e20, hf⟩ := hf
    replace e20 := (jcv_o e20).2
    have r20 := E_X10_wordBetween (s := s) (e := j1) C l1 w1.1 hx y1 e20
    replace hf := jbind hf
    obtain ⟨h29, e21, hf⟩ := hf
    obtain ⟨o21, z21, y21⟩ := oc_as e21
    rw [jnar0] at o21
    clear e21
    cases hf
    -- leaf 1: (v6, h29)
    rw [y1, hx, Int32.le_iff_toInt_le, nI_toInt (by omega), nI_toInt (by omega)] at c2
    rw [h4, nI_cl (by omega)] at o21
    have w4 := w1.2.1 s (Nat.le_refl s) (by have := w1.1; omega)
    refine ⟨j1, y1, by have := w1.1; omega, l1, Or.inl ⟨w4, w1, ?_⟩, fun a j u1 u2 => by rw [o21, u2_ne (by omega)], z21⟩
    show (∃ w : Nat, w < 23 ∧ oi (oc h29) (a0 + 2) k = nI w ∧ _) ∨ (oi (oc h29) (a0 + 2) k = -2 ∧ _)
    rw [o21, oi_eq]
    exact r20
theorem E_X10_scan_12 {n : Nat} {b : Nat → Int32} {L : Nat} : ∀ (k : Nat) {a0 : Nat} {x1 : Int32} {h : jH} {q : jH} (k0 : Nat) (s : Nat) (C : ctb (oc h) a0 b L) (h4 : oi (oc h) a0 4 = nI k0) (hx : x1 = nI s) (hs : s ≤ L) (ks : k0 ≤ s), F_X10_scan_12 n k a0 x1 h = some q → ∃ (m : Nat) (st en : Nat → Nat), k0 ≤ m ∧ m ≤ 400 ∧ oi (oc q) a0 4 = nI m ∧ (∀ j, k0 ≤ j → j < m → st j < L ∧ thE b L (st j) (en j) (oi (oc q) (a0 + 2) j, oi (oc q) (a0 + 4) j) ∧ oi (oc q) (a0 + 3) j = nI (st j) ∧ en j ≤ st (j + 1) ∧ ∀ i, en j ≤ i → i < st (j + 1) → b i = 32) ∧ (∀ j, m ≤ j → st j = L) ∧ s ≤ st k0 ∧ (∀ i, s ≤ i → i < st k0 → b i = 32) ∧ (∀ a j : Nat, ¬ (a = a0 ∧ j = 4) → ¬ ((a = a0 + 2 ∨ a = a0 + 3 ∨ a = a0 + 4) ∧ k0 ≤ j) → oc q a j = oc h a j) ∧ q.1 = h.1
  | 0, a0, x1, h, q, k0, s, C, h4, hx, hs, ks, hf => by cases hf
  | k + 1, a0, x1, h, q, k0, s, C, h4, hx, hs, ks, hf => by
    replace hf : F_X10_scan_12_b n (F_X10_scan_12 n k) a0 x1 h = some q := hf
    unfold F_X10_scan_12_b at hf
    obtain ⟨⟨p0, p1, p2, p3⟩, h6, hL, hb, hr⟩ := id C
    replace hf := jbind hf
    obtain ⟨v14, e1, hf⟩ := hf
    have r1 := oc_gI e1
    subst r1
    clear e1
    replace hf := jite hf
    rcases hf with ⟨c2, hf⟩ | ⟨c2, hf⟩
    · skip
      cases hf
      -- leaf 0: h
      rw [h6, hx, Int32.le_iff_toInt_le, nI_toInt (by omega), nI_toInt (by omega)] at c2
      exact ⟨k0, fun _ => L, fun _ => L, Nat.le_refl _, by omega, h4, fun j j1 j2 => by omega, fun _ _ => rfl, hs, fun i i1 i2 => by dsimp only at i2; omega, fun _ _ _ _ => rfl, rfl⟩
    · skip
      replace hf := jbind hf
      obtain ⟨v21, e3, hf⟩ := hf
      have r3 := oc_gI e3
      subst r3
      clear e3
      replace hf := jite hf
      rcases hf with ⟨c4, hf⟩ | ⟨c4, hf⟩
      · skip
        cases hf
        -- leaf 10: h
        rw [h6, hx, Int32.le_iff_toInt_le, nI_toInt (by omega), nI_toInt (by omega)] at c2
        rw [h4, Int32.le_iff_toInt_le, nI_toInt (by omega), show (400 : Int32).toInt = 400 from rfl] at c4
        omega
      · skip
        replace hf := jbind hf
        obtain ⟨v36, e5, hf⟩ := hf
        replace e5 := (jcv_o e5).2
        have r5 := E_X10_at C hx (by omega) e5
        replace hf := jite hf
        rcases hf with ⟨c6, hf⟩ | ⟨c6, hf⟩
        · skip
          -- leaf 110: rc12 a0 (x1 + (1 : Int32)) h
          rw [h6, hx, Int32.le_iff_toInt_le, nI_toInt (by omega), nI_toInt (by omega)] at c2
          rcases r5 with ⟨s1, v5⟩ | ⟨y, -⟩
          rotate_left
          · omega
          rw [v5, eq255 (hr s (by omega)) (by decide)] at c6
          rw [hx] at hf
          obtain ⟨m, st, en, a1, a2, a3, a4, a5, a6, a7, a8, a9⟩ := E_X10_scan_12 k k0 (s + 1) C h4 (nI_1 s) (by omega) (by omega) hf
          refine ⟨m, st, en, a1, a2, a3, a4, a5, by omega, fun i i1 i2 => ?_, a8, a9⟩
          by_cases y : i = s
          · rw [y]; exact c6
          · exact a7 i (by omega) i2
        · skip
          replace hf := jbind hf
          obtain ⟨q46, e7, hf⟩ := hf
          replace e7 := (jcv_o e7).2
          rw [h6, hx, Int32.le_iff_toInt_le, nI_toInt (by omega), nI_toInt (by omega)] at c2
          rw [h4, Int32.le_iff_toInt_le, nI_toInt (by omega), show (400 : Int32).toInt = 400 from rfl] at c4
          rcases r5 with ⟨s1, v5⟩ | ⟨y, -⟩
          rotate_left
          · omega
          have nb : b s ≠ 32 := fun z => c6 (by rw [v5, z]; decide)
          obtain ⟨e, w1, w2, w3, w4, w5, w6⟩ := E_X10_scanThing C h4 (by omega) hx s1 nb e7
          have P2 : oc q46.2 a0 2 = .ref (a0 + 3) := (w5 _ _ (by omega) (by omega)).trans p2
          have P4 : oi (oc q46.2) a0 4 = nI k0 := by rw [← h4]; unfold oi; rw [w5 _ _ (by omega) (by omega)]
          replace hf := jbind hf
          obtain ⟨p51, e8, hf⟩ := hf
          have r8 := oc_gR e8
          rw [P2] at r8
          cases r8
          clear e8
          replace hf := jbind hf
          obtain ⟨v55, e9, hf⟩ := hf
          have r9 := oc_gI e9
          subst r9
          clear e9
          replace hf := jbind hf
          obtain ⟨h59, e10, hf⟩ := hf
          obtain ⟨o10, z10, y10⟩ := oc_as e10
          rw [jnar0] at o10
          clear e10
          replace hf := jbind hf
          obtain ⟨v62, e11, hf⟩ := hf
          have r11 := oc_gI e11
          rw [o10] at r11
          rw [oi_ne (Or.inl (by omega))] at r11
          subst r11
          clear e11
          replace hf := jbind hf
          obtain ⟨h67, e12, hf⟩ := hf
          obtain ⟨o12, z12⟩ := oc_pf e12
          clear e12
          -- leaf 111: rc12 a0 q46.1 h67
          rw [P4, nI_cl (by omega), hx] at o10
          rw [P4, nI_1] at o12
          have fz : ∀ a j : Nat, ¬ (a = a0 ∧ j = 4) → ¬ ((a = a0 + 2 ∨ a = a0 + 3 ∨ a = a0 + 4) ∧ k0 ≤ j) → oc h67 a j = oc h a j := fun a j u1 u2 => by rw [o12, u2_ne (by omega), o10, u2_ne (by omega), w5 _ _ (by omega) (by omega)]
          have C6 : ctb (oc h67) a0 b L := ctb_fr C (fun a k u => fz a k (by omega) (by omega))
          obtain ⟨m, st, en, a1, a2, a3, a4, a5, a6, a7, a8, a9⟩ := E_X10_scan_12 k (k0 + 1) e C6 (by rw [o12, oi_eq]) w1 w3 (by omega) hf
          have g2 : oi (oc q) (a0 + 2) k0 = oi (oc q46.2) (a0 + 2) k0 := by unfold oi; rw [a8 _ _ (by omega) (by omega), o12, u2_ne (by omega), o10, u2_ne (by omega)]
          have g4 : oi (oc q) (a0 + 4) k0 = oi (oc q46.2) (a0 + 4) k0 := by unfold oi; rw [a8 _ _ (by omega) (by omega), o12, u2_ne (by omega), o10, u2_ne (by omega)]
          have g3 : oi (oc q) (a0 + 3) k0 = nI s := by unfold oi; rw [a8 _ _ (by omega) (by omega), o12, u2_ne (by omega), o10, u2_eq]; rfl
          refine ⟨m, fun j => if j = k0 then s else st j, fun j => if j = k0 then e else en j, by omega, a2, a3, fun j j1 j2 => ?_, fun j j1 => ?_, ?_, fun i i1 i2 => ?_, fun a j u1 u2 => (a8 a j u1 (by omega)).trans (fz a j u1 u2), a9.trans (z12.trans (z10.trans w6))⟩
          · dsimp only
            by_cases y : j = k0
            · subst y
              rw [if_pos rfl, if_pos rfl, if_neg (by omega), g2, g4, g3]
              exact ⟨s1, w4, rfl, a6, a7⟩
            · rw [if_neg y, if_neg y, if_neg (by omega)]
              exact a4 j (by omega) j2
          · dsimp only; rw [if_neg (by omega)]; exact a5 j j1
          · dsimp only; rw [if_pos rfl]; exact Nat.le_refl s
          · dsimp only at i2; rw [if_pos rfl] at i2; omega
/-- the class reads: m things, the next one is k -/
def ck (O : jO) (t : Nat) (b : Nat → Int32) (L m : Nat) (T : Nat → Int32 × Int32) (st : Nat → Nat) (k : Nat) : Prop :=
  ctb O t b L ∧ oi O t 4 = nI m ∧ m ≤ 400 ∧ oi O t 5 = nI k ∧ k ≤ m ∧ (∀ j, j < m → T j = (oi O (t + 2) j, oi O (t + 4) j) ∧ oi O (t + 3) j = nI (st j)) ∧ (∀ j, m ≤ j → (T j).1 = -1 ∧ st j = L)
theorem E_X10_scan {b : Nat → Int32} {L : Nat} {n : Nat} {a0 : Nat} {h : jH} {q : jH} (C : ctb (oc h) a0 b L) (hf : F_X10_scan n a0 h = some q) : ∃ (m : Nat) (T : Nat → Int32 × Int32) (st en : Nat → Nat), tkE b L m T st en ∧ ck (oc q) a0 b L m T st 0 ∧ (∀ a j : Nat, ¬ (a = a0 ∧ (j = 4 ∨ j = 5)) → ¬ (a = a0 + 2 ∨ a = a0 + 3 ∨ a = a0 + 4) → oc q a j = oc h a j) ∧ q.1 = h.1 := by
  unfold F_X10_scan at hf
  replace hf := jbind hf
  obtain ⟨h2, e1, hf⟩ := hf
  obtain ⟨o1, z1⟩ := oc_pf e1
  clear e1
  replace hf := jbind hf
  obtain ⟨h7, e2, hf⟩ := hf
  obtain ⟨o2, z2⟩ := oc_pf e2
  clear e2
  -- leaf : F_X10_scan_12 n n a0 (0 : Int32) h7
  have fz : ∀ a j : Nat, ¬ (a = a0 ∧ (j = 4 ∨ j = 5)) → oc h7 a j = oc h a j := fun a j u => by rw [o2, u2_ne (by omega), o1, u2_ne (by omega)]
  have C2 : ctb (oc h7) a0 b L := ctb_fr C (fun a k u => fz a k (by omega))
  obtain ⟨m, st, en, a1, a2, a3, a4, a5, a6, a7, a8, a9⟩ := E_X10_scan_12 n 0 0 C2 (by rw [o2, oi_ne (Or.inr (by decide)), o1, oi_eq]; rfl) rfl (by omega) (by omega) hf
  have C3 : ctb (oc q) a0 b L := ctb_fr C2 (fun a k u => a8 a k (by omega) (by omega))
  have h5 : oi (oc q) a0 5 = nI 0 := by unfold oi; rw [a8 _ _ (by omega) (by omega), o2, u2_eq]; rfl
  refine ⟨m, fun j => if j < m then (oi (oc q) (a0 + 2) j, oi (oc q) (a0 + 4) j) else (-1, 0), st, en, ⟨C.2.2.1, C.2.2.2.2, fun k hk => ?_, fun k hk => ⟨a5 k hk, ?_⟩, fun i hi => a7 i (by omega) hi⟩, ⟨C3, a3, a2, h5, by omega, fun j hj => ⟨?_, (a4 j (by omega) hj).2.2.1⟩, fun j hj => ⟨?_, a5 j hj⟩⟩, fun a j u1 u2 => (a8 a j (by omega) (by omega)).trans (fz a j u1), a9.trans (z2.trans z1)⟩
  · obtain ⟨b1, b2, b3, b4, b5⟩ := a4 k (by omega) hk
    dsimp only
    rw [if_pos hk]
    exact ⟨b1, b2, b4, b5⟩
  · dsimp only; rw [if_neg (by omega)]
  · dsimp only; rw [if_pos hj]
  · dsimp only; rw [if_neg (by omega)]
end
section
/-! the class takes things -/
theorem ck_fr {O O2 : jO} {t L m k : Nat} {b : Nat → Int32} {T : Nat → Int32 × Int32} {st : Nat → Nat} (C : ck O t b L m T st k) (f : ∀ a j : Nat, t ≤ a → a ≤ t + 4 → O2 a j = O a j) : ck O2 t b L m T st k := by
  obtain ⟨C, h4, hm, h5, hk, hT, hE⟩ := C
  have fi : ∀ a j : Nat, t ≤ a → a ≤ t + 4 → oi O2 a j = oi O a j := fun a j h1 h2 => by unfold oi; rw [f a j h1 h2]
  exact ⟨ctb_fr C (fun a k u => f a k (by omega) (by omega)), (fi _ _ (by omega) (by omega)).trans h4, hm, (fi _ _ (by omega) (by omega)).trans h5, hk, fun j hj => by rw [fi _ _ (by omega) (by omega), fi _ _ (by omega) (by omega), fi _ _ (by omega) (by omega)]; exact hT j hj, hE⟩
theorem ck_n {O : jO} {t L m k k2 : Nat} {b : Nat → Int32} {T : Nat → Int32 × Int32} {st : Nat → Nat} (C : ck O t b L m T st k) (h2 : k2 ≤ m) : ck (u2 O t 5 (.int (nI k2))) t b L m T st k2 := by
  obtain ⟨C, h4, hm, h5, hk, hT, hE⟩ := C
  exact ⟨ctb_fr C (fun a k u => u2_ne (by omega)), by rw [oi_ne (Or.inr (by decide))]; exact h4, hm, oi_eq, h2, fun j hj => by rw [oi_ne (Or.inl (by omega)), oi_ne (Or.inl (by omega)), oi_ne (Or.inl (by omega))]; exact hT j hj, hE⟩
theorem E_X10_kind {b : Nat → Int32} {L : Nat} {m : Nat} {T : Nat → Int32 × Int32} {st : Nat → Nat} {k : Nat} {n : Nat} {a0 : Nat} {h : jH} {q : Int32} (K : ck (oc h) a0 b L m T st k) (hf : F_X10_kind n a0 h = some q) : q = (T k).1 := by
  unfold F_X10_kind at hf
  obtain ⟨C, h4, hm, h5, hk, hT, hE⟩ := id K
  obtain ⟨⟨p0, p1, p2, p3⟩, h6, hL, hb, hr⟩ := id C
  replace hf := jbind hf
  obtain ⟨v1, e1, hf⟩ := hf
  have r1 := oc_gI e1
  subst r1
  clear e1
  replace hf := jbind hf
  obtain ⟨v5, e2, hf⟩ := hf
  have r2 := oc_gI e2
  subst r2
  clear e2
  replace hf := jite hf
  rcases hf with ⟨c3, hf⟩ | ⟨c3, hf⟩
  · skip
    cases hf
    -- leaf 0: (- 1 : Int32)
    rw [h4, h5, Int32.le_iff_toInt_le, nI_toInt (by omega), nI_toInt (by omega)] at c3
    exact (hE k (by omega)).1.symm
  · skip
    replace hf := jbind hf
    obtain ⟨p12, e4, hf⟩ := hf
    have r4 := oc_gR e4
    rw [p1] at r4
    cases r4
    clear e4
    replace hf := jbind hf
    obtain ⟨v16, e5, hf⟩ := hf
    have r5 := oc_gI e5
    subst r5
    clear e5
    replace hf := jbind hf
    obtain ⟨v19, e6, hf⟩ := hf
    obtain ⟨r6, y6⟩ := oc_al e6
    subst r6
    clear e6
    cases hf
    -- leaf 1: v19
    rw [h4, h5, Int32.le_iff_toInt_le, nI_toInt (by omega), nI_toInt (by omega)] at c3
    rw [h5, nI_cl (by omega), (hT k (by omega)).1]
theorem E_X10_start {b : Nat → Int32} {L : Nat} {m : Nat} {T : Nat → Int32 × Int32} {st : Nat → Nat} {k : Nat} {n : Nat} {a0 : Nat} {h : jH} {q : Int32} (K : ck (oc h) a0 b L m T st k) (hf : F_X10_start n a0 h = some q) : q = nI (st k) := by
  unfold F_X10_start at hf
  obtain ⟨C, h4, hm, h5, hk, hT, hE⟩ := id K
  obtain ⟨⟨p0, p1, p2, p3⟩, h6, hL, hb, hr⟩ := id C
  replace hf := jbind hf
  obtain ⟨v1, e1, hf⟩ := hf
  have r1 := oc_gI e1
  subst r1
  clear e1
  replace hf := jbind hf
  obtain ⟨v5, e2, hf⟩ := hf
  have r2 := oc_gI e2
  subst r2
  clear e2
  replace hf := jite hf
  rcases hf with ⟨c3, hf⟩ | ⟨c3, hf⟩
  · skip
    replace hf := jbind hf
    obtain ⟨v24, e4, hf⟩ := hf
    have r4 := oc_gI e4
    subst r4
    clear e4
    cases hf
    -- leaf 0: v24
    rw [h4, h5, Int32.le_iff_toInt_le, nI_toInt (by omega), nI_toInt (by omega)] at c3
    rw [h6, (hE k (by omega)).2]
  · skip
    replace hf := jbind hf
    obtain ⟨p12, e5, hf⟩ := hf
    have r5 := oc_gR e5
    rw [p2] at r5
    cases r5
    clear e5
    replace hf := jbind hf
    obtain ⟨v16, e6, hf⟩ := hf
    have r6 := oc_gI e6
    subst r6
    clear e6
    replace hf := jbind hf
    obtain ⟨v19, e7, hf⟩ := hf
    obtain ⟨r7, y7⟩ := oc_al e7
    subst r7
    clear e7
    cases hf
    -- leaf 1: v19
    rw [h4, h5, Int32.le_iff_toInt_le, nI_toInt (by omega), nI_toInt (by omega)] at c3
    rw [h5, nI_cl (by omega), (hT k (by omega)).2]
theorem E_X10_skip {b : Nat → Int32} {L : Nat} {m : Nat} {T : Nat → Int32 × Int32} {st : Nat → Nat} {k : Nat} {n : Nat} {a0 : Nat} {h : jH} {q : jH} (K : ck (oc h) a0 b L m T st k) (hT : (T k).1 ≠ -1) (hf : F_X10_skip n a0 h = some q) : ck (oc q) a0 b L m T st (k + 1) ∧ (∀ a j : Nat, ¬ (a = a0 ∧ j = 5) → oc q a j = oc h a j) ∧ q.1 = h.1 := by
  unfold F_X10_skip at hf
  obtain ⟨C, h4, hm, h5, hk, hT3, hE⟩ := id K
  obtain ⟨⟨p0, p1, p2, p3⟩, h6, hL, hb, hr⟩ := id C
  replace hf := jbind hf
  obtain ⟨v1, e1, hf⟩ := hf
  have r1 := oc_gI e1
  subst r1
  clear e1
  replace hf := jbind hf
  obtain ⟨v5, e2, hf⟩ := hf
  have r2 := oc_gI e2
  subst r2
  clear e2
  replace hf := jite hf
  rcases hf with ⟨c3, hf⟩ | ⟨c3, hf⟩
  · skip
    cases hf
    -- leaf 0: h
    rw [h4, h5, Int32.le_iff_toInt_le, nI_toInt (by omega), nI_toInt (by omega)] at c3
    exact absurd (hE k (by omega)).1 hT
  · skip
    replace hf := jbind hf
    obtain ⟨v13, e4, hf⟩ := hf
    have r4 := oc_gI e4
    subst r4
    clear e4
    replace hf := jbind hf
    obtain ⟨h18, e5, hf⟩ := hf
    obtain ⟨o5, z5⟩ := oc_pf e5
    clear e5
    cases hf
    -- leaf 1: h18
    rw [h4, h5, Int32.le_iff_toInt_le, nI_toInt (by omega), nI_toInt (by omega)] at c3
    rw [h5, nI_1] at o5
    exact ⟨by rw [o5]; exact ck_n K (by omega), fun a j u => by rw [o5, u2_ne (by omega)], z5⟩
theorem E_X10_take {b : Nat → Int32} {L : Nat} {m : Nat} {T : Nat → Int32 × Int32} {st : Nat → Nat} {k : Nat} {n : Nat} {a0 : Nat} {x1 : Int32} {h : jH} {q : Int32 × jH} (K : ck (oc h) a0 b L m T st k) (hx : x1 ≠ -1) (hf : F_X10_take n a0 x1 h = some q) : (((T k).1 = x1 ∧ q.1 = 1 ∧ ck (oc q.2) a0 b L m T st (k + 1)) ∨ ((T k).1 ≠ x1 ∧ q = (0, h))) ∧ (∀ a j : Nat, ¬ (a = a0 ∧ j = 5) → oc q.2 a j = oc h a j) ∧ q.2.1 = h.1 := by
  unfold F_X10_take at hf
  obtain ⟨C, h4, hm, h5, hk, hT, hE⟩ := id K
  obtain ⟨⟨p0, p1, p2, p3⟩, h6, hL, hb, hr⟩ := id C
  replace hf := jbind hf
  obtain ⟨v1, e1, hf⟩ := hf
  have r1 := oc_gI e1
  subst r1
  clear e1
  replace hf := jbind hf
  obtain ⟨v5, e2, hf⟩ := hf
  have r2 := oc_gI e2
  subst r2
  clear e2
  replace hf := jite hf
  rcases hf with ⟨c3, hf⟩ | ⟨c3, hf⟩
  · skip
    cases hf
    -- leaf 0: ((0 : Int32), h)
    rw [h4, h5, Int32.le_iff_toInt_le, nI_toInt (by omega), nI_toInt (by omega)] at c3
    exact ⟨Or.inr ⟨fun z => hx (z.symm.trans (hE k (by omega)).1), rfl⟩, fun _ _ _ => rfl, rfl⟩
  · skip
    replace hf := jbind hf
    obtain ⟨p12, e4, hf⟩ := hf
    have r4 := oc_gR e4
    rw [p1] at r4
    cases r4
    clear e4
    replace hf := jbind hf
    obtain ⟨v16, e5, hf⟩ := hf
    have r5 := oc_gI e5
    subst r5
    clear e5
    replace hf := jbind hf
    obtain ⟨v19, e6, hf⟩ := hf
    obtain ⟨r6, y6⟩ := oc_al e6
    subst r6
    clear e6
    replace hf := jite hf
    rcases hf with ⟨c7, hf⟩ | ⟨c7, hf⟩
    · skip
      replace hf := jbind hf
      obtain ⟨v28, e8, hf⟩ := hf
      have r8 := oc_gI e8
      subst r8
      clear e8
      replace hf := jbind hf
      obtain ⟨h33, e9, hf⟩ := hf
      obtain ⟨o9, z9⟩ := oc_pf e9
      clear e9
      cases hf
      -- leaf 10: ((1 : Int32), h33)
      rw [h4, h5, Int32.le_iff_toInt_le, nI_toInt (by omega), nI_toInt (by omega)] at c3
      rw [h5, nI_cl (by omega)] at c7
      rw [h5, nI_1] at o9
      have w : ck (oc h33) a0 b L m T st (k + 1) := by rw [o9]; exact ck_n K (by omega)
      exact ⟨Or.inl ⟨by rw [(hT k (by omega)).1]; exact c7, rfl, w⟩, fun a j u => by rw [o9, u2_ne (by omega)], z9⟩
    · skip
      cases hf
      -- leaf 11: ((0 : Int32), h)
      rw [h4, h5, Int32.le_iff_toInt_le, nI_toInt (by omega), nI_toInt (by omega)] at c3
      rw [h5, nI_cl (by omega)] at c7
      exact ⟨Or.inr ⟨by rw [(hT k (by omega)).1]; exact c7, rfl⟩, fun _ _ _ => rfl, rfl⟩
theorem E_X10_takeNumber {b : Nat → Int32} {L : Nat} {m : Nat} {T : Nat → Int32 × Int32} {st : Nat → Nat} {k : Nat} {n : Nat} {a0 : Nat} {x1 : Int32} {x2 : Int32} {h : jH} {q : Int32 × jH} (K : ck (oc h) a0 b L m T st k) (hf : F_X10_takeNumber n a0 x1 x2 h = some q) : ((nOK T k x1 x2 ∧ q.1 = (T k).2 ∧ ck (oc q.2) a0 b L m T st (k + 1)) ∨ (¬ nOK T k x1 x2 ∧ q = (-1, h))) ∧ (∀ a j : Nat, ¬ (a = a0 ∧ j = 5) → oc q.2 a j = oc h a j) ∧ q.2.1 = h.1 := by
  unfold F_X10_takeNumber at hf
  obtain ⟨C, h4, hm, h5, hk, hT, hE⟩ := id K
  obtain ⟨⟨p0, p1, p2, p3⟩, h6, hL, hb, hr⟩ := id C
  replace hf := jbind hf
  obtain ⟨v1, e1, hf⟩ := hf
  have r1 := oc_gI e1
  subst r1
  clear e1
  replace hf := jbind hf
  obtain ⟨v5, e2, hf⟩ := hf
  have r2 := oc_gI e2
  subst r2
  clear e2
  replace hf := jite hf
  rcases hf with ⟨c3, hf⟩ | ⟨c3, hf⟩
  · skip
    cases hf
    -- leaf 0: ((- 1 : Int32), h)
    rw [h4, h5, Int32.le_iff_toInt_le, nI_toInt (by omega), nI_toInt (by omega)] at c3
    exact ⟨Or.inr ⟨fun z => absurd (z.1.symm.trans (hE k (by omega)).1) (by decide), rfl⟩, fun _ _ _ => rfl, rfl⟩
  · skip
    replace hf := jbind hf
    obtain ⟨p12, e4, hf⟩ := hf
    have r4 := oc_gR e4
    rw [p1] at r4
    cases r4
    clear e4
    replace hf := jbind hf
    obtain ⟨v16, e5, hf⟩ := hf
    have r5 := oc_gI e5
    subst r5
    clear e5
    replace hf := jbind hf
    obtain ⟨v19, e6, hf⟩ := hf
    obtain ⟨r6, y6⟩ := oc_al e6
    subst r6
    clear e6
    replace hf := jite hf
    rcases hf with ⟨c7, hf⟩ | ⟨c7, hf⟩
    · skip
      replace hf := jbind hf
      obtain ⟨p26, e8, hf⟩ := hf
      have r8 := oc_gR e8
      rw [p3] at r8
      cases r8
      clear e8
      replace hf := jbind hf
      obtain ⟨v30, e9, hf⟩ := hf
      have r9 := oc_gI e9
      subst r9
      clear e9
      replace hf := jbind hf
      obtain ⟨v33, e10, hf⟩ := hf
      obtain ⟨r10, y10⟩ := oc_al e10
      subst r10
      clear e10
      replace hf := jite hf
      rcases hf with ⟨c11, hf⟩ | ⟨c11, hf⟩
      · skip
        cases hf
        -- leaf 100: ((- 1 : Int32), h)
        rw [h4, h5, Int32.le_iff_toInt_le, nI_toInt (by omega), nI_toInt (by omega)] at c3
        rw [h5, nI_cl (by omega)] at c7
        have eT := (hT k (by omega)).1
        rw [h5, nI_cl (by omega)] at c11
        exact ⟨Or.inr ⟨fun z => by have := z.2.1; rw [eT, Int32.le_iff_toInt_le] at this; rw [Int32.lt_iff_toInt_lt] at c11; dsimp only at this; omega, rfl⟩, fun _ _ _ => rfl, rfl⟩
      · skip
        replace hf := jbind hf
        obtain ⟨p39, e12, hf⟩ := hf
        have r12 := oc_gR e12
        rw [p3] at r12
        cases r12
        clear e12
        replace hf := jbind hf
        obtain ⟨v43, e13, hf⟩ := hf
        have r13 := oc_gI e13
        subst r13
        clear e13
        replace hf := jbind hf
        obtain ⟨v46, e14, hf⟩ := hf
        obtain ⟨r14, y14⟩ := oc_al e14
        subst r14
        clear e14
        replace hf := jite hf
        rcases hf with ⟨c15, hf⟩ | ⟨c15, hf⟩
        · skip
          replace hf := jbind hf
          obtain ⟨v55, e16, hf⟩ := hf
          have r16 := oc_gI e16
          subst r16
          clear e16
          replace hf := jbind hf
          obtain ⟨h60, e17, hf⟩ := hf
          obtain ⟨o17, z17⟩ := oc_pf e17
          clear e17
          replace hf := jbind hf
          obtain ⟨p64, e18, hf⟩ := hf
          have r18 := oc_gR e18
          rw [o17] at r18
          rw [u2_ne (Or.inr (by decide))] at r18
          rw [p3] at r18
          cases r18
          clear e18
          replace hf := jbind hf
          obtain ⟨v68, e19, hf⟩ := hf
          have r19 := oc_gI e19
          rw [o17] at r19
          rw [oi_eq] at r19
          subst r19
          clear e19
          replace hf := jbind hf
          obtain ⟨v73, e20, hf⟩ := hf
          obtain ⟨r20, y20⟩ := oc_al e20
          rw [o17] at r20
          rw [oi_ne (Or.inl (by omega))] at r20
          subst r20
          clear e20
          cases hf
          -- leaf 1010: (v73, h60)
          rw [h4, h5, Int32.le_iff_toInt_le, nI_toInt (by omega), nI_toInt (by omega)] at c3
          rw [h5, nI_cl (by omega)] at c7
          have eT := (hT k (by omega)).1
          rw [h5, nI_cl (by omega)] at c11 c15
          rw [h5, nI_1] at o17
          have w : ck (oc h60) a0 b L m T st (k + 1) := by rw [o17]; exact ck_n K (by omega)
          refine ⟨Or.inl ⟨⟨by rw [eT]; exact c7, by rw [eT, Int32.le_iff_toInt_le]; rw [Int32.lt_iff_toInt_lt] at c11; dsimp only; omega, by rw [eT]; exact c15⟩, ?_, w⟩, fun a j u => by rw [o17, u2_ne (by omega)], z17⟩
          show oi (oc h) (a0 + 4) _ = _
          rw [h5, nI_1, show (1 : Int32) = nI 1 from rfl, nI_sb (by omega) (by omega), nI_cl (by omega), eT, show k + 1 - 1 = k by omega]
        · skip
          cases hf
          -- leaf 1011: ((- 1 : Int32), h)
          rw [h4, h5, Int32.le_iff_toInt_le, nI_toInt (by omega), nI_toInt (by omega)] at c3
          rw [h5, nI_cl (by omega)] at c7
          have eT := (hT k (by omega)).1
          rw [h5, nI_cl (by omega)] at c15
          exact ⟨Or.inr ⟨fun z => c15 (by have := z.2.2; rw [eT] at this; exact this), rfl⟩, fun _ _ _ => rfl, rfl⟩
    · skip
      cases hf
      -- leaf 11: ((- 1 : Int32), h)
      rw [h4, h5, Int32.le_iff_toInt_le, nI_toInt (by omega), nI_toInt (by omega)] at c3
      rw [h5, nI_cl (by omega)] at c7
      have eT := (hT k (by omega)).1
      exact ⟨Or.inr ⟨fun z => c7 (by have := z.1; rw [eT] at this; exact this), rfl⟩, fun _ _ _ => rfl, rfl⟩
end
section
/-! what a line of a pole's text does to the world -/
theorem wOK_th {W : jWd} {i : Nat} {x : Int32} (K : wOK W) (hx : x = 0 ∨ x = 1) : wOK (upd W (13 + 8 * i) x) := by
  have e : ∀ k, k ≠ 13 + 8 * i → upd W (13 + 8 * i) x k = W k := fun k h => upd_ne h
  obtain ⟨k0, k1, k2, k3, k4, k5, k6, k7, k8, k9, k10⟩ := K
  unfold wOK
  rw [e 0 (by omega), e 3 (by omega), e 4 (by omega), e 5 (by omega), e 6 (by omega), e 8 (by omega), e 9 (by omega), e 1 (by omega)]
  refine ⟨k0, fun j hj => ?_, fun j hj => ?_, fun j hj => ?_, k4, k5, k6, k7, k8, k9, k10⟩
  · rw [e (11 + 8 * j) (by omega), e (12 + 8 * j) (by omega), e (14 + 8 * j) (by omega), e (15 + 8 * j) (by omega), e (16 + 8 * j) (by omega), e (17 + 8 * j) (by omega), e (18 + 8 * j) (by omega)]
    obtain ⟨a1, a2, a3, a4, a5, a6, a7, a8⟩ := k1 j hj
    refine ⟨a1, a2, ?_, a4, a5, a6, a7, a8⟩
    by_cases q : j = i
    · subst q; rw [upd_eq]; exact hx
    · rw [e (13 + 8 * j) (by omega)]; exact a3
  · rw [e _ (by omega), e _ (by omega)]; exact k2 j hj
  · rw [e _ (by omega)]; exact k3 j hj
theorem wOK_wd {W : jWd} {i : Nat} {x : Int32} (K : wOK W) (hx : x = 0 ∨ x = 1) : wOK (upd W (14 + 8 * i) x) := by
  have e : ∀ k, k ≠ 14 + 8 * i → upd W (14 + 8 * i) x k = W k := fun k h => upd_ne h
  obtain ⟨k0, k1, k2, k3, k4, k5, k6, k7, k8, k9, k10⟩ := K
  unfold wOK
  rw [e 0 (by omega), e 3 (by omega), e 4 (by omega), e 5 (by omega), e 6 (by omega), e 8 (by omega), e 9 (by omega), e 1 (by omega)]
  refine ⟨k0, fun j hj => ?_, fun j hj => ?_, fun j hj => ?_, k4, k5, k6, k7, k8, k9, k10⟩
  · rw [e (11 + 8 * j) (by omega), e (12 + 8 * j) (by omega), e (13 + 8 * j) (by omega), e (15 + 8 * j) (by omega), e (16 + 8 * j) (by omega), e (17 + 8 * j) (by omega), e (18 + 8 * j) (by omega)]
    obtain ⟨a1, a2, a3, a4, a5, a6, a7, a8⟩ := k1 j hj
    refine ⟨a1, a2, a3, ?_, a5, a6, a7, a8⟩
    by_cases q : j = i
    · subst q; rw [upd_eq]; exact hx
    · rw [e (14 + 8 * j) (by omega)]; exact a4
  · rw [e _ (by omega), e _ (by omega)]; exact k2 j hj
  · rw [e _ (by omega)]; exact k3 j hj
theorem wOK_fa {W : jWd} {i : Nat} {x : Int32} (K : wOK W) (hx : 0 ≤ x.toInt ∧ x.toInt ≤ 99) : wOK (upd W (15 + 8 * i) x) := by
  have e : ∀ k, k ≠ 15 + 8 * i → upd W (15 + 8 * i) x k = W k := fun k h => upd_ne h
  obtain ⟨k0, k1, k2, k3, k4, k5, k6, k7, k8, k9, k10⟩ := K
  unfold wOK
  rw [e 0 (by omega), e 3 (by omega), e 4 (by omega), e 5 (by omega), e 6 (by omega), e 8 (by omega), e 9 (by omega), e 1 (by omega)]
  refine ⟨k0, fun j hj => ?_, fun j hj => ?_, fun j hj => ?_, k4, k5, k6, k7, k8, k9, k10⟩
  · rw [e (11 + 8 * j) (by omega), e (12 + 8 * j) (by omega), e (13 + 8 * j) (by omega), e (14 + 8 * j) (by omega), e (16 + 8 * j) (by omega), e (17 + 8 * j) (by omega), e (18 + 8 * j) (by omega)]
    obtain ⟨a1, a2, a3, a4, a5, a6, a7, a8⟩ := k1 j hj
    refine ⟨a1, a2, a3, a4, ?_, a6, a7, a8⟩
    by_cases q : j = i
    · subst q; rw [upd_eq]; exact hx
    · rw [e (15 + 8 * j) (by omega)]; exact a5
  · rw [e _ (by omega), e _ (by omega)]; exact k2 j hj
  · rw [e _ (by omega)]; exact k3 j hj
theorem wOK_3 {W : jWd} {x : Int32} (K : wOK W) (hx : 0 ≤ x.toInt ∧ x.toInt ≤ 7) : wOK (upd W 3 x) := by
  have e : ∀ k, k ≠ 3 → upd W 3 x k = W k := fun k h => upd_ne h
  obtain ⟨k0, k1, k2, k3, k4, k5, k6, k7, k8, k9, k10⟩ := K
  unfold wOK
  rw [e 0 (by omega), e 4 (by omega), e 5 (by omega), e 6 (by omega), e 8 (by omega), e 9 (by omega), e 1 (by omega)]
  refine ⟨k0, fun j hj => ?_, fun j hj => ?_, fun j hj => ?_, by rw [upd_eq]; exact hx, k5, k6, k7, k8, k9, k10⟩
  · rw [e _ (by omega), e _ (by omega), e _ (by omega), e _ (by omega), e _ (by omega), e _ (by omega), e _ (by omega), e _ (by omega)]; exact k1 j hj
  · rw [e _ (by omega), e _ (by omega)]; exact k2 j hj
  · rw [e _ (by omega)]; exact k3 j hj
theorem wOK_4 {W : jWd} {x : Int32} (K : wOK W) (hx : 0 ≤ x.toInt ∧ x.toInt ≤ 9999) : wOK (upd W 4 x) := by
  have e : ∀ k, k ≠ 4 → upd W 4 x k = W k := fun k h => upd_ne h
  obtain ⟨k0, k1, k2, k3, k4, k5, k6, k7, k8, k9, k10⟩ := K
  unfold wOK
  rw [e 0 (by omega), e 3 (by omega), e 5 (by omega), e 6 (by omega), e 8 (by omega), e 9 (by omega), e 1 (by omega)]
  refine ⟨k0, fun j hj => ?_, fun j hj => ?_, fun j hj => ?_, k4, by rw [upd_eq]; exact hx, k6, k7, k8, k9, k10⟩
  · rw [e _ (by omega), e _ (by omega), e _ (by omega), e _ (by omega), e _ (by omega), e _ (by omega), e _ (by omega), e _ (by omega)]; exact k1 j hj
  · rw [e _ (by omega), e _ (by omega)]; exact k2 j hj
  · rw [e _ (by omega)]; exact k3 j hj
theorem wOK_5 {W : jWd} {x : Int32} (K : wOK W) (hx : 1 ≤ x.toInt ∧ x.toInt ≤ 31) : wOK (upd W 5 x) := by
  have e : ∀ k, k ≠ 5 → upd W 5 x k = W k := fun k h => upd_ne h
  obtain ⟨k0, k1, k2, k3, k4, k5, k6, k7, k8, k9, k10⟩ := K
  unfold wOK
  rw [e 0 (by omega), e 3 (by omega), e 4 (by omega), e 6 (by omega), e 8 (by omega), e 9 (by omega), e 1 (by omega)]
  refine ⟨k0, fun j hj => ?_, fun j hj => ?_, fun j hj => ?_, k4, k5, by rw [upd_eq]; exact hx, k7, k8, k9, k10⟩
  · rw [e _ (by omega), e _ (by omega), e _ (by omega), e _ (by omega), e _ (by omega), e _ (by omega), e _ (by omega), e _ (by omega)]; exact k1 j hj
  · rw [e _ (by omega), e _ (by omega)]; exact k2 j hj
  · rw [e _ (by omega)]; exact k3 j hj
theorem wOK_6 {W : jWd} {x : Int32} (K : wOK W) (hx : 0 ≤ x.toInt ∧ x.toInt ≤ 31) : wOK (upd W 6 x) := by
  have e : ∀ k, k ≠ 6 → upd W 6 x k = W k := fun k h => upd_ne h
  obtain ⟨k0, k1, k2, k3, k4, k5, k6, k7, k8, k9, k10⟩ := K
  unfold wOK
  rw [e 0 (by omega), e 3 (by omega), e 4 (by omega), e 5 (by omega), e 8 (by omega), e 9 (by omega), e 1 (by omega)]
  refine ⟨k0, fun j hj => ?_, fun j hj => ?_, fun j hj => ?_, k4, k5, k6, by rw [upd_eq]; exact hx, k8, k9, k10⟩
  · rw [e _ (by omega), e _ (by omega), e _ (by omega), e _ (by omega), e _ (by omega), e _ (by omega), e _ (by omega), e _ (by omega)]; exact k1 j hj
  · rw [e _ (by omega), e _ (by omega)]; exact k2 j hj
  · rw [e _ (by omega)]; exact k3 j hj
theorem wOK_1 {W : jWd} {x : Int32} (K : wOK W) (hx : 0 ≤ x.toInt ∧ x.toInt ≤ 12) : wOK (upd W 1 x) := by
  have e : ∀ k, k ≠ 1 → upd W 1 x k = W k := fun k h => upd_ne h
  obtain ⟨k0, k1, k2, k3, k4, k5, k6, k7, k8, k9, k10⟩ := K
  unfold wOK
  rw [e 0 (by omega), e 3 (by omega), e 4 (by omega), e 5 (by omega), e 6 (by omega), e 8 (by omega), e 9 (by omega)]
  refine ⟨k0, fun j hj => ?_, fun j hj => ?_, fun j hj => ?_, k4, k5, k6, k7, k8, k9, by rw [upd_eq]; exact hx⟩
  · rw [e _ (by omega), e _ (by omega), e _ (by omega), e _ (by omega), e _ (by omega), e _ (by omega), e _ (by omega), e _ (by omega)]; exact k1 j hj
  · rw [e _ (by omega), e _ (by omega)]; exact k2 j hj
  · rw [e _ (by omega)]; exact k3 j hj
theorem upd_self {W : jWd} {k : Nat} {x : Int32} (h : W k = x) : upd W k x = W := by
  funext j
  by_cases e : j = k
  · rw [e, upd_eq]; exact h.symm
  · exact upd_ne e
def rgW (W : jWd) (pl cl th wd fd ln : Int32) : jWd := upd (upd (upd (upd (hgW W pl cl) (13 + 8 * cN W) th) (14 + 8 * cN W) wd) (15 + 8 * cN W) fd) (16 + 8 * cN W) ln
theorem rgW_ok {W : jWd} {pl cl th wd fd ln : Int32} (K : wOK W) (hp : 0 ≤ pl.toInt ∧ pl.toInt ≤ 31) (hc : 1 ≤ cl.toInt ∧ cl.toInt ≤ 9) (c : canS W pl) (ht : th = 0 ∨ th = 1) (hw : wd = 0 ∨ wd = 1) (hf : 0 ≤ fd.toInt ∧ fd.toInt ≤ 99) (hl : 0 ≤ ln.toInt ∧ ln.toInt ≤ 9) : wOK (rgW W pl cl th wd fd ln) := wOK_ln (wOK_fa (wOK_wd (wOK_th (wOK_hg K hp hc c) ht) hw) hf) hl
/-- a sign or word that may stand: what comes next, and 1 if it stood -/
def tkF (T : Nat → Int32 × Int32) (w : Int32) (k : Nat) : Nat × Int32 := if (T k).1 = w then (k + 1, 1) else (k, 0)
theorem tkF_01 {T : Nat → Int32 × Int32} {w : Int32} {k : Nat} : (tkF T w k).2 = 0 ∨ (tkF T w k).2 = 1 := by
  unfold tkF
  split
  · exact Or.inr rfl
  · exact Or.inl rfl
/-- a word with a number behind it that may stand: what comes next and the number (0 if it didn't stand), or where it is wrong -/
def rdMore (T : Nat → Int32 × Int32) (w hi : Int32) (k : Nat) : (Nat × Int32) ⊕ Nat := if (T k).1 = w then (if nOK T (k + 1) 0 hi then .inl (k + 2, (T (k + 1)).2) else .inr (k + 1)) else .inl (k, 0)
def rdRing (T : Nat → Int32 × Int32) (W : jWd) (k : Nat) : (Nat × jWd) ⊕ Nat :=
  if (T k).1 = 17 then
    if nOK T (k + 1) (leW W) (moW W) then
      if (T (k + 2)).1 = 18 then
        if nOK T (k + 3) 1 9 then
          match rdMore T 3 99 (tkF T 7 (tkF T 8 (k + 4)).1).1 with
          | .inr f => .inr f
          | .inl c => match rdMore T 4 9 c.1 with
            | .inr f => .inr f
            | .inl d => .inl (d.1, rgW W (T (k + 1)).2 (T (k + 3)).2 (tkF T 8 (k + 4)).2 (tkF T 7 (tkF T 8 (k + 4)).1).2 c.2 d.2)
        else .inr (k + 3)
      else .inr (k + 2)
    else .inr (k + 1)
  else .inr k
def rdNum (T : Nat → Int32 × Int32) (k : Nat) (lo hi : Int32) (f : Int32 → jWd) : (Nat × jWd) ⊕ Nat := if nOK T k lo hi then .inl (k + 1, f (T k).2) else .inr k
def rdPole (T : Nat → Int32 × Int32) (W : jWd) (k : Nat) : (Nat × jWd) ⊕ Nat :=
  if (T k).1 = 0 then (if W 0 = 8 then .inr k else rdRing T W (k + 1))
  else if (T k).1 = 19 then rdNum T (k + 1) 0 (W 0 - 2) (fun v => upd W (18 + 8 * v.toInt.toNat) 1)
  else if (T k).1 = 20 then rdNum T (k + 1) 0 31 (fun v => upd W 7 (chV (W 7) v.toInt.toNat 1))
  else if (T k).1 = 21 then rdNum T (k + 1) 1 31 (fun v => upd W 5 v)
  else if (T k).1 = 22 then rdNum T (k + 1) 0 31 (fun v => upd W 6 v)
  else if (T k).1 = 5 then rdNum T (k + 1) 0 7 (fun v => upd W 3 v)
  else if (T k).1 = 6 then rdNum T (k + 1) 0 999 (fun v => upd W 4 v)
  else .inr k
/-- all the lines, from thing k on, n lines being left: the world behind them, or where it is wrong -/
def rdLines {S : Type} (ln : S → Nat → (Nat × S) ⊕ Nat) (T : Nat → Int32 × Int32) : Nat → S → Nat → S ⊕ Nat
  | 0, _, k => .inr k
  | n + 1, W, k => match ln W k with
    | .inr f => .inr f
    | .inl d => if (T d.1).1 = -1 then .inl d.2 else if (T d.1).1 = 59 then rdLines ln T n d.2 (d.1 + 1) else .inr d.1
end
section
def jlq (h h1 : jH) : Prop := ∀ (b : Nat) (v : Int32), jlen h b = some v → jlen h1 b = some v
theorem jlq_rfl {h : jH} : jlq h h := fun _ _ e => e
theorem jlq_tr {h h1 h2 : jH} (a : jlq h h1) (b : jlq h1 h2) : jlq h h2 := fun x v e => b x v (a x v e)
theorem lm_pf {c : Nat} {h h1 : jH} {a k : Nat} {v : Value} (e : jpf c h a k v = some h1) : jlq h h1 := by
  obtain ⟨fs, e1, -, rfl⟩ := jpf_o e
  intro b w e2
  unfold jlen at e2 ⊢
  show (match (if b = a then some _ else h.2 b) with | some (.inr (.inl x)) => if x.1 < 3 then some (Int32.ofNat x.2.1) else none | _ => none) = _
  by_cases hb : b = a
  · subst hb
    rw [e1] at e2
    cases e2
  · rw [if_neg hb]
    exact e2
theorem lm_as {t a : Nat} {i x : Int32} {h h1 : jH} (e : jas t h a i x = some h1) : jlq h h1 := by
  obtain ⟨n, f, e1, -, -, rfl⟩ := jas_o e
  intro b w e2
  unfold jlen at e2 ⊢
  show (match (if b = a then some _ else h.2 b) with | some (.inr (.inl x)) => if x.1 < 3 then some (Int32.ofNat x.2.1) else none | _ => none) = _
  by_cases hb : b = a
  · subst hb
    rw [if_pos rfl]
    rw [e1] at e2
    exact e2
  · rw [if_neg hb]
    exact e2
theorem lm_cp {a0 a : Nat} {sp dp n : Int32} {h h1 : jH} (e : jcp h a0 sp a dp n = some h1) : jlq h h1 := by
  obtain ⟨n0, f, n1, g, e0, e1, -, -, -, -, -, rfl⟩ := jcp_o e
  intro b w e2
  unfold jlen at e2 ⊢
  show (match (if b = a then some _ else h.2 b) with | some (.inr (.inl x)) => if x.1 < 3 then some (Int32.ofNat x.2.1) else none | _ => none) = _
  by_cases hb : b = a
  · subst hb
    rw [if_pos rfl]
    rw [e1] at e2
    exact e2
  · rw [if_neg hb]
    exact e2
theorem Ln_X10_take {n : Nat} {a0 : Nat} {x1 : Int32} {h : jH} {q : (Int32 × jH)} (hf : F_X10_take n a0 x1 h = some q) : jlq h q.2 := by
  unfold F_X10_take at hf
  obtain ⟨v1, e1, hf⟩ := jbind hf
  obtain ⟨v5, e2, hf⟩ := jbind hf
  split at hf
  · cases hf
    exact jlq_rfl
  · obtain ⟨p12, e4, hf⟩ := jbind hf
    obtain ⟨v16, e5, hf⟩ := jbind hf
    obtain ⟨v19, e6, hf⟩ := jbind hf
    split at hf
    · obtain ⟨v28, e8, hf⟩ := jbind hf
      obtain ⟨h33, e9, hf⟩ := jbind hf
      cases hf
      have z9 := (lm_pf e9)
      exact z9
    · cases hf
      exact jlq_rfl
theorem Ln_X10_takeNumber {n : Nat} {a0 : Nat} {x1 : Int32} {x2 : Int32} {h : jH} {q : (Int32 × jH)} (hf : F_X10_takeNumber n a0 x1 x2 h = some q) : jlq h q.2 := by
  unfold F_X10_takeNumber at hf
  obtain ⟨v1, e1, hf⟩ := jbind hf
  obtain ⟨v5, e2, hf⟩ := jbind hf
  split at hf
  · cases hf
    exact jlq_rfl
  · obtain ⟨p12, e4, hf⟩ := jbind hf
    obtain ⟨v16, e5, hf⟩ := jbind hf
    obtain ⟨v19, e6, hf⟩ := jbind hf
    split at hf
    · obtain ⟨p26, e8, hf⟩ := jbind hf
      obtain ⟨v30, e9, hf⟩ := jbind hf
      obtain ⟨v33, e10, hf⟩ := jbind hf
      split at hf
      · cases hf
        exact jlq_rfl
      · obtain ⟨p39, e12, hf⟩ := jbind hf
        obtain ⟨v43, e13, hf⟩ := jbind hf
        obtain ⟨v46, e14, hf⟩ := jbind hf
        split at hf
        · obtain ⟨v55, e16, hf⟩ := jbind hf
          obtain ⟨h60, e17, hf⟩ := jbind hf
          obtain ⟨p64, e18, hf⟩ := jbind hf
          obtain ⟨v68, e19, hf⟩ := jbind hf
          obtain ⟨v73, e20, hf⟩ := jbind hf
          cases hf
          have z9 := (lm_pf e17)
          exact z9
        · cases hf
          exact jlq_rfl
    · cases hf
      exact jlq_rfl
theorem Ln_X10_skip {n : Nat} {a0 : Nat} {h : jH} {q : jH} (hf : F_X10_skip n a0 h = some q) : jlq h q := by
  unfold F_X10_skip at hf
  obtain ⟨v1, e1, hf⟩ := jbind hf
  obtain ⟨v5, e2, hf⟩ := jbind hf
  split at hf
  · cases hf
    exact jlq_rfl
  · obtain ⟨v13, e4, hf⟩ := jbind hf
    obtain ⟨h18, e5, hf⟩ := jbind hf
    cases hf
    have z9 := (lm_pf e5)
    exact z9
theorem Ln_X8_add {n : Nat} {a0 : Nat} {x1 : Int32} {x2 : Int32} {h : jH} {q : jH} (hf : F_X8_add n a0 x1 x2 h = some q) : jlq h q := by
  unfold F_X8_add at hf
  obtain ⟨v1, e1, hf⟩ := jbind hf
  split at hf
  · obtain ⟨p11, e3, hf⟩ := jbind hf
    obtain ⟨v15, e4, hf⟩ := jbind hf
    obtain ⟨h19, e5, hf⟩ := jbind hf
    obtain ⟨p21, e6, hf⟩ := jbind hf
    obtain ⟨v25, e7, hf⟩ := jbind hf
    obtain ⟨h29, e8, hf⟩ := jbind hf
    obtain ⟨p31, e9, hf⟩ := jbind hf
    obtain ⟨v35, e10, hf⟩ := jbind hf
    obtain ⟨h39, e11, hf⟩ := jbind hf
    obtain ⟨p41, e12, hf⟩ := jbind hf
    obtain ⟨v45, e13, hf⟩ := jbind hf
    obtain ⟨h49, e14, hf⟩ := jbind hf
    obtain ⟨v52, e15, hf⟩ := jbind hf
    obtain ⟨v56, e16, hf⟩ := jbind hf
    obtain ⟨v60, e17, hf⟩ := jbind hf
    obtain ⟨h63, e18, hf⟩ := jbind hf
    obtain ⟨v68, e19, hf⟩ := jbind hf
    obtain ⟨v72, e20, hf⟩ := jbind hf
    obtain ⟨v76, e21, hf⟩ := jbind hf
    obtain ⟨h79, e22, hf⟩ := jbind hf
    obtain ⟨v84, e23, hf⟩ := jbind hf
    obtain ⟨v88, e24, hf⟩ := jbind hf
    obtain ⟨v92, e25, hf⟩ := jbind hf
    obtain ⟨h95, e26, hf⟩ := jbind hf
    obtain ⟨v100, e27, hf⟩ := jbind hf
    obtain ⟨v104, e28, hf⟩ := jbind hf
    obtain ⟨v108, e29, hf⟩ := jbind hf
    obtain ⟨h111, e30, hf⟩ := jbind hf
    obtain ⟨v116, e31, hf⟩ := jbind hf
    obtain ⟨h121, e32, hf⟩ := jbind hf
    cases hf
    have z9 := (jlq_tr (jlq_tr (jlq_tr (jlq_tr (jlq_tr (jlq_tr (jlq_tr (jlq_tr (lm_as e5) (lm_as e8)) (lm_as e11)) (lm_as e14)) (lm_pf e18)) (lm_pf e22)) (lm_pf e26)) (lm_pf e30)) (lm_pf e32))
    exact z9
  · cases hf
    exact jlq_rfl
theorem Ln_X9_readMore {n : Nat} {a0 : Nat} {x1 : Int32} {a2 : Nat} {x3 : Int32} {x4 : Int32} {h : jH} {q : (Int32 × jH)} (hf : F_X9_readMore n a0 x1 a2 x3 x4 h = some q) : jlq h q.2 := by
  unfold F_X9_readMore at hf
  obtain ⟨v2, e1, hf⟩ := jbind hf
  split at hf
  · cases hf
    exact jlq_rfl
  · obtain ⟨p7, e3, hf⟩ := jbind hf
    obtain ⟨q11, e4, hf⟩ := jbind hf
    obtain ⟨-, e4⟩ := jcv_o e4
    split at hf
    · cases hf
      have z9 := (Ln_X10_take e4)
      exact z9
    · obtain ⟨p20, e6, hf⟩ := jbind hf
      obtain ⟨q26, e7, hf⟩ := jbind hf
      obtain ⟨-, e7⟩ := jcv_o e7
      obtain ⟨h35, e8, hf⟩ := jbind hf
      split at hf
      · cases hf
        have z9 := (jlq_tr (jlq_tr (Ln_X10_take e4) (Ln_X10_takeNumber e7)) (lm_as e8))
        exact z9
      · cases hf
        have z9 := (jlq_tr (jlq_tr (Ln_X10_take e4) (Ln_X10_takeNumber e7)) (lm_as e8))
        exact z9
theorem Ln_X9_readRing {n : Nat} {a0 : Nat} {h : jH} {q : (Int32 × jH)} (hf : F_X9_readRing n a0 h = some q) : jlq h q.2 := by
  unfold F_X9_readRing at hf
  obtain ⟨p1, e1, hf⟩ := jbind hf
  obtain ⟨q6, e2, hf⟩ := jbind hf
  obtain ⟨-, e2⟩ := jcv_o e2
  split at hf
  · cases hf
    have z9 := (Ln_X10_take e2)
    exact z9
  · obtain ⟨p15, e4, hf⟩ := jbind hf
    obtain ⟨p19, e5, hf⟩ := jbind hf
    obtain ⟨v22, e6, hf⟩ := jbind hf
    obtain ⟨-, e6⟩ := jcv_o e6
    obtain ⟨p26, e7, hf⟩ := jbind hf
    obtain ⟨v29, e8, hf⟩ := jbind hf
    obtain ⟨-, e8⟩ := jcv_o e8
    obtain ⟨q32, e9, hf⟩ := jbind hf
    obtain ⟨-, e9⟩ := jcv_o e9
    split at hf
    · cases hf
      have z9 := (jlq_tr (Ln_X10_take e2) (Ln_X10_takeNumber e9))
      exact z9
    · obtain ⟨p42, e11, hf⟩ := jbind hf
      obtain ⟨q47, e12, hf⟩ := jbind hf
      obtain ⟨-, e12⟩ := jcv_o e12
      split at hf
      · cases hf
        have z9 := (jlq_tr (jlq_tr (Ln_X10_take e2) (Ln_X10_takeNumber e9)) (Ln_X10_take e12))
        exact z9
      · obtain ⟨p56, e14, hf⟩ := jbind hf
        obtain ⟨q62, e15, hf⟩ := jbind hf
        obtain ⟨-, e15⟩ := jcv_o e15
        split at hf
        · cases hf
          have z9 := (jlq_tr (jlq_tr (jlq_tr (Ln_X10_take e2) (Ln_X10_takeNumber e9)) (Ln_X10_take e12)) (Ln_X10_takeNumber e15))
          exact z9
        · obtain ⟨p74, e17, hf⟩ := jbind hf
          obtain ⟨v77, e18, hf⟩ := jbind hf
          obtain ⟨p82, e19, hf⟩ := jbind hf
          obtain ⟨h87, e20, hf⟩ := jbind hf
          obtain ⟨-, e20⟩ := jcv_o e20
          obtain ⟨p91, e21, hf⟩ := jbind hf
          obtain ⟨p95, e22, hf⟩ := jbind hf
          obtain ⟨v98, e23, hf⟩ := jbind hf
          obtain ⟨p103, e24, hf⟩ := jbind hf
          obtain ⟨q108, e25, hf⟩ := jbind hf
          obtain ⟨-, e25⟩ := jcv_o e25
          obtain ⟨v111, e26, hf⟩ := jbind hf
          obtain ⟨h114, e27, hf⟩ := jbind hf
          obtain ⟨p118, e28, hf⟩ := jbind hf
          obtain ⟨p122, e29, hf⟩ := jbind hf
          obtain ⟨v125, e30, hf⟩ := jbind hf
          obtain ⟨p130, e31, hf⟩ := jbind hf
          obtain ⟨q135, e32, hf⟩ := jbind hf
          obtain ⟨-, e32⟩ := jcv_o e32
          obtain ⟨v138, e33, hf⟩ := jbind hf
          obtain ⟨h141, e34, hf⟩ := jbind hf
          obtain ⟨p147, e35, hf⟩ := jbind hf
          obtain ⟨p150, e36, hf⟩ := jbind hf
          obtain ⟨q156, e37, hf⟩ := jbind hf
          obtain ⟨-, e37⟩ := jcv_o e37
          split at hf
          · cases hf
            have z9 := (jlq_tr (jlq_tr (jlq_tr (jlq_tr (jlq_tr (jlq_tr (jlq_tr (jlq_tr (jlq_tr (Ln_X10_take e2) (Ln_X10_takeNumber e9)) (Ln_X10_take e12)) (Ln_X10_takeNumber e15)) (Ln_X8_add e20)) (Ln_X10_take e25)) (lm_pf e27)) (Ln_X10_take e32)) (lm_pf e34)) (Ln_X9_readMore e37))
            exact z9
          · obtain ⟨p165, e39, hf⟩ := jbind hf
            obtain ⟨p168, e40, hf⟩ := jbind hf
            obtain ⟨q174, e41, hf⟩ := jbind hf
            obtain ⟨-, e41⟩ := jcv_o e41
            split at hf
            · cases hf
              have z9 := (jlq_tr (jlq_tr (jlq_tr (jlq_tr (jlq_tr (jlq_tr (jlq_tr (jlq_tr (jlq_tr (jlq_tr (Ln_X10_take e2) (Ln_X10_takeNumber e9)) (Ln_X10_take e12)) (Ln_X10_takeNumber e15)) (Ln_X8_add e20)) (Ln_X10_take e25)) (lm_pf e27)) (Ln_X10_take e32)) (lm_pf e34)) (Ln_X9_readMore e37)) (Ln_X9_readMore e41))
              exact z9
            · cases hf
              have z9 := (jlq_tr (jlq_tr (jlq_tr (jlq_tr (jlq_tr (jlq_tr (jlq_tr (jlq_tr (jlq_tr (jlq_tr (Ln_X10_take e2) (Ln_X10_takeNumber e9)) (Ln_X10_take e12)) (Ln_X10_takeNumber e15)) (Ln_X8_add e20)) (Ln_X10_take e25)) (lm_pf e27)) (Ln_X10_take e32)) (lm_pf e34)) (Ln_X9_readMore e37)) (Ln_X9_readMore e41))
              exact z9
theorem Ln_X9_keepNumber {n : Nat} {a0 : Nat} {x1 : Int32} {x2 : Int32} {h : jH} {q : jH} (hf : F_X9_keepNumber n a0 x1 x2 h = some q) : jlq h q := by
  unfold F_X9_keepNumber at hf
  split at hf
  · obtain ⟨p119, e2, hf⟩ := jbind hf
    obtain ⟨h123, e3, hf⟩ := jbind hf
    cases hf
    have z9 := (lm_pf e3)
    exact z9
  · split at hf
    · obtain ⟨p53, e5, hf⟩ := jbind hf
      obtain ⟨p57, e6, hf⟩ := jbind hf
      obtain ⟨v60, e7, hf⟩ := jbind hf
      obtain ⟨v65, e8, hf⟩ := jbind hf
      obtain ⟨h68, e9, hf⟩ := jbind hf
      cases hf
      have z9 := (lm_pf e9)
      exact z9
    · split at hf
      · obtain ⟨p75, e11, hf⟩ := jbind hf
        obtain ⟨p79, e12, hf⟩ := jbind hf
        obtain ⟨v82, e13, hf⟩ := jbind hf
        obtain ⟨v87, e14, hf⟩ := jbind hf
        obtain ⟨h90, e15, hf⟩ := jbind hf
        cases hf
        have z9 := (lm_pf e15)
        exact z9
      · split at hf
        · obtain ⟨p97, e17, hf⟩ := jbind hf
          obtain ⟨h101, e18, hf⟩ := jbind hf
          cases hf
          have z9 := (lm_pf e18)
          exact z9
        · split at hf
          · obtain ⟨p108, e20, hf⟩ := jbind hf
            obtain ⟨h112, e21, hf⟩ := jbind hf
            cases hf
            have z9 := (lm_pf e21)
            exact z9
          · obtain ⟨p130, e22, hf⟩ := jbind hf
            obtain ⟨h134, e23, hf⟩ := jbind hf
            cases hf
            have z9 := (lm_pf e23)
            exact z9
theorem Ln_X9_readNumber {n : Nat} {a0 : Nat} {x1 : Int32} {h : jH} {q : (Int32 × jH)} (hf : F_X9_readNumber n a0 x1 h = some q) : jlq h q.2 := by
  unfold F_X9_readNumber at hf
  split at hf
  · obtain ⟨p74, e2, hf⟩ := jbind hf
    obtain ⟨q80, e3, hf⟩ := jbind hf
    obtain ⟨-, e3⟩ := jcv_o e3
    cases hf
    have z9 := (Ln_X10_takeNumber e3)
    exact z9
  · split at hf
    · obtain ⟨p85, e5, hf⟩ := jbind hf
      obtain ⟨q92, e6, hf⟩ := jbind hf
      obtain ⟨-, e6⟩ := jcv_o e6
      cases hf
      have z9 := (Ln_X10_takeNumber e6)
      exact z9
    · split at hf
      · obtain ⟨p45, e8, hf⟩ := jbind hf
        obtain ⟨p50, e9, hf⟩ := jbind hf
        obtain ⟨v53, e10, hf⟩ := jbind hf
        obtain ⟨q58, e11, hf⟩ := jbind hf
        obtain ⟨-, e11⟩ := jcv_o e11
        cases hf
        have z9 := (Ln_X10_takeNumber e11)
        exact z9
      · split at hf
        · obtain ⟨p63, e13, hf⟩ := jbind hf
          obtain ⟨q69, e14, hf⟩ := jbind hf
          obtain ⟨-, e14⟩ := jcv_o e14
          cases hf
          have z9 := (Ln_X10_takeNumber e14)
          exact z9
        · obtain ⟨p97, e15, hf⟩ := jbind hf
          obtain ⟨q103, e16, hf⟩ := jbind hf
          obtain ⟨-, e16⟩ := jcv_o e16
          cases hf
          have z9 := (Ln_X10_takeNumber e16)
          exact z9
theorem Ln_X9_readLine_33 {n : Nat} {a0 : Nat} {x1 : Int32} {h : jH} {q : (Int32 × jH)} (hf : F_X9_readLine_33 n a0 x1 h = some q) : jlq h q.2 := by
  unfold F_X9_readLine_33 at hf
  obtain ⟨p34, e1, hf⟩ := jbind hf
  obtain ⟨h37, e2, hf⟩ := jbind hf
  obtain ⟨-, e2⟩ := jcv_o e2
  split at hf
  · obtain ⟨q45, e4, hf⟩ := jbind hf
    obtain ⟨-, e4⟩ := jcv_o e4
    split at hf
    · cases hf
      have z9 := (jlq_tr (Ln_X10_skip e2) (Ln_X9_readRing e4))
      exact z9
    · cases hf
  · obtain ⟨q51, e6, hf⟩ := jbind hf
    obtain ⟨-, e6⟩ := jcv_o e6
    split at hf
    · cases hf
      have z9 := (jlq_tr (Ln_X10_skip e2) (Ln_X9_readNumber e6))
      exact z9
    · obtain ⟨h65, e8, hf⟩ := jbind hf
      obtain ⟨-, e8⟩ := jcv_o e8
      cases hf
      have z9 := (jlq_tr (jlq_tr (Ln_X10_skip e2) (Ln_X9_readNumber e6)) (Ln_X9_keepNumber e8))
      exact z9
theorem Ln_X9_readLine {n : Nat} {a0 : Nat} {h : jH} {q : (Int32 × jH)} (hf : F_X9_readLine n a0 h = some q) : jlq h q.2 := by
  unfold F_X9_readLine at hf
  obtain ⟨p1, e1, hf⟩ := jbind hf
  obtain ⟨v4, e2, hf⟩ := jbind hf
  obtain ⟨-, e2⟩ := jcv_o e2
  obtain ⟨v9, e3, hf⟩ := jbind hf
  split at hf
  · cases hf
    exact jlq_rfl
  · split at hf
    · obtain ⟨p20, e6, hf⟩ := jbind hf
      obtain ⟨v23, e7, hf⟩ := jbind hf
      split at hf
      · exact (Ln_X9_readLine_33 hf)
      · cases hf
        exact jlq_rfl
    · exact (Ln_X9_readLine_33 hf)
theorem Ln_X10_scanThing {n : Nat} {a0 : Nat} {x1 : Int32} {h : jH} {q : (Int32 × jH)} (hf : F_X10_scanThing n a0 x1 h = some q) : jlq h q.2 := by
  unfold F_X10_scanThing at hf
  obtain ⟨v6, e1, hf⟩ := jbind hf
  obtain ⟨-, e1⟩ := jcv_o e1
  split at hf
  · obtain ⟨v38, e3, hf⟩ := jbind hf
    obtain ⟨-, e3⟩ := jcv_o e3
    split at hf
    · obtain ⟨v77, e5, hf⟩ := jbind hf
      obtain ⟨-, e5⟩ := jcv_o e5
      obtain ⟨p82, e6, hf⟩ := jbind hf
      obtain ⟨v86, e7, hf⟩ := jbind hf
      split at hf
      · obtain ⟨h101, e9, hf⟩ := jbind hf
        cases hf
        have z9 := (lm_as e9)
        exact z9
      · obtain ⟨h101, e10, hf⟩ := jbind hf
        cases hf
        have z9 := (lm_as e10)
        exact z9
    · obtain ⟨p48, e11, hf⟩ := jbind hf
      obtain ⟨v52, e12, hf⟩ := jbind hf
      obtain ⟨h57, e13, hf⟩ := jbind hf
      obtain ⟨p59, e14, hf⟩ := jbind hf
      obtain ⟨v63, e15, hf⟩ := jbind hf
      obtain ⟨v69, e16, hf⟩ := jbind hf
      obtain ⟨-, e16⟩ := jcv_o e16
      obtain ⟨h72, e17, hf⟩ := jbind hf
      cases hf
      have z9 := (jlq_tr (lm_as e13) (lm_as e17))
      exact z9
  · obtain ⟨p16, e18, hf⟩ := jbind hf
    obtain ⟨v20, e19, hf⟩ := jbind hf
    obtain ⟨v26, e20, hf⟩ := jbind hf
    obtain ⟨-, e20⟩ := jcv_o e20
    obtain ⟨h29, e21, hf⟩ := jbind hf
    cases hf
    have z9 := (lm_as e21)
    exact z9
theorem Ln_X10_scan_12 {n : Nat} {k : Nat} : ∀ {a0 : Nat} {x1 : Int32} {h : jH} {q : jH}, F_X10_scan_12 n k a0 x1 h = some q → jlq h q := by
  induction k with
  | zero =>
    intro a0 x1 h q hf
    cases hf
  | succ k ih =>
    intro a0 x1 h q hf
    replace hf : F_X10_scan_12_b n (F_X10_scan_12 n k) a0 x1 h = some q := hf
    unfold F_X10_scan_12_b at hf
    obtain ⟨v14, e1, hf⟩ := jbind hf
    split at hf
    · cases hf
      exact jlq_rfl
    · obtain ⟨v21, e3, hf⟩ := jbind hf
      split at hf
      · cases hf
        exact jlq_rfl
      · obtain ⟨v36, e5, hf⟩ := jbind hf
        obtain ⟨-, e5⟩ := jcv_o e5
        split at hf
        · exact (ih hf)
        · obtain ⟨q46, e7, hf⟩ := jbind hf
          obtain ⟨-, e7⟩ := jcv_o e7
          obtain ⟨p51, e8, hf⟩ := jbind hf
          obtain ⟨v55, e9, hf⟩ := jbind hf
          obtain ⟨h59, e10, hf⟩ := jbind hf
          obtain ⟨v62, e11, hf⟩ := jbind hf
          obtain ⟨h67, e12, hf⟩ := jbind hf
          exact (jlq_tr (jlq_tr (jlq_tr (Ln_X10_scanThing e7) (lm_as e10)) (lm_pf e12)) (ih hf))
theorem Ln_X10_scan {n : Nat} {a0 : Nat} {h : jH} {q : jH} (hf : F_X10_scan n a0 h = some q) : jlq h q := by
  unfold F_X10_scan at hf
  obtain ⟨h2, e1, hf⟩ := jbind hf
  obtain ⟨h7, e2, hf⟩ := jbind hf
  exact (jlq_tr (jlq_tr (lm_pf e1) (lm_pf e2)) (Ln_X10_scan_12 hf))
theorem Ln_X8_hangAs {n : Nat} {a0 : Nat} {a1 : Nat} {h : jH} {q : jH} (hf : F_X8_hangAs n a0 a1 h = some q) : jlq h q := by
  unfold F_X8_hangAs at hf
  obtain ⟨p1, e1, hf⟩ := jbind hf
  obtain ⟨p6, e2, hf⟩ := jbind hf
  obtain ⟨h12, e3, hf⟩ := jbind hf
  obtain ⟨v17, e4, hf⟩ := jbind hf
  obtain ⟨h20, e5, hf⟩ := jbind hf
  obtain ⟨v25, e6, hf⟩ := jbind hf
  obtain ⟨h28, e7, hf⟩ := jbind hf
  cases hf
  have z9 := (jlq_tr (jlq_tr (lm_cp e3) (lm_pf e5)) (lm_pf e7))
  exact z9
theorem Ln_X5_copyFrom {n : Nat} {a0 : Nat} {a1 : Nat} {h : jH} {q : jH} (hf : F_X5_copyFrom n a0 a1 h = some q) : jlq h q := by
  unfold F_X5_copyFrom at hf
  obtain ⟨p1, e1, hf⟩ := jbind hf
  obtain ⟨p6, e2, hf⟩ := jbind hf
  obtain ⟨h12, e3, hf⟩ := jbind hf
  obtain ⟨v17, e4, hf⟩ := jbind hf
  obtain ⟨h20, e5, hf⟩ := jbind hf
  obtain ⟨v25, e6, hf⟩ := jbind hf
  obtain ⟨h28, e7, hf⟩ := jbind hf
  cases hf
  have z9 := (jlq_tr (jlq_tr (lm_cp e3) (lm_pf e5)) (lm_pf e7))
  exact z9
theorem Ln_X8_copyFrom {n : Nat} {a0 : Nat} {a1 : Nat} {h : jH} {q : jH} (hf : F_X8_copyFrom n a0 a1 h = some q) : jlq h q := by
  unfold F_X8_copyFrom at hf
  obtain ⟨p1, e1, hf⟩ := jbind hf
  obtain ⟨p6, e2, hf⟩ := jbind hf
  obtain ⟨h12, e3, hf⟩ := jbind hf
  obtain ⟨p16, e4, hf⟩ := jbind hf
  obtain ⟨p21, e5, hf⟩ := jbind hf
  obtain ⟨h27, e6, hf⟩ := jbind hf
  obtain ⟨p31, e7, hf⟩ := jbind hf
  obtain ⟨p36, e8, hf⟩ := jbind hf
  obtain ⟨h42, e9, hf⟩ := jbind hf
  obtain ⟨p46, e10, hf⟩ := jbind hf
  obtain ⟨p50, e11, hf⟩ := jbind hf
  obtain ⟨h53, e12, hf⟩ := jbind hf
  obtain ⟨-, e12⟩ := jcv_o e12
  obtain ⟨v58, e13, hf⟩ := jbind hf
  obtain ⟨h61, e14, hf⟩ := jbind hf
  obtain ⟨v66, e15, hf⟩ := jbind hf
  obtain ⟨h69, e16, hf⟩ := jbind hf
  obtain ⟨v74, e17, hf⟩ := jbind hf
  obtain ⟨h77, e18, hf⟩ := jbind hf
  obtain ⟨v82, e19, hf⟩ := jbind hf
  obtain ⟨h85, e20, hf⟩ := jbind hf
  obtain ⟨v90, e21, hf⟩ := jbind hf
  obtain ⟨h93, e22, hf⟩ := jbind hf
  obtain ⟨v98, e23, hf⟩ := jbind hf
  obtain ⟨h101, e24, hf⟩ := jbind hf
  obtain ⟨v106, e25, hf⟩ := jbind hf
  obtain ⟨h109, e26, hf⟩ := jbind hf
  obtain ⟨v114, e27, hf⟩ := jbind hf
  obtain ⟨h117, e28, hf⟩ := jbind hf
  obtain ⟨v122, e29, hf⟩ := jbind hf
  obtain ⟨h125, e30, hf⟩ := jbind hf
  obtain ⟨v130, e31, hf⟩ := jbind hf
  obtain ⟨h133, e32, hf⟩ := jbind hf
  obtain ⟨v138, e33, hf⟩ := jbind hf
  obtain ⟨h141, e34, hf⟩ := jbind hf
  obtain ⟨h146, e35, hf⟩ := jbind hf
  obtain ⟨-, e35⟩ := jcv_o e35
  cases hf
  have z9 := (jlq_tr (jlq_tr (jlq_tr (jlq_tr (jlq_tr (jlq_tr (jlq_tr (jlq_tr (jlq_tr (jlq_tr (jlq_tr (jlq_tr (jlq_tr (jlq_tr (jlq_tr (lm_cp e3) (lm_cp e6)) (lm_cp e9)) (Ln_X5_copyFrom e12)) (lm_pf e14)) (lm_pf e16)) (lm_pf e18)) (lm_pf e20)) (lm_pf e22)) (lm_pf e24)) (lm_pf e26)) (lm_pf e28)) (lm_pf e30)) (lm_pf e32)) (lm_pf e34)) (Ln_X8_hangAs e35))
  exact z9
/-! a line of a pole's text, as the class reads it -/
/-- the reader of lines of the class at x + 34: its tape is at x + 1, its draft at x + 21 -/
def rrS (O : jO) (x : Nat) : Prop := O (x + 34) 0 = .ref (x + 1) ∧ O (x + 34) 1 = .int 14 ∧ O (x + 34) 2 = .ref (x + 21)
/-- what is left alone: all but the draft and the tape's place -/
def frD (x : Nat) (O O2 : jO) : Prop := ∀ a j : Nat, ¬ (a = x + 1 ∧ j = 5) → ¬ (x + 21 ≤ a ∧ a ≤ x + 27) → O2 a j = O a j
theorem frD_tr {x : Nat} {O O2 O3 : jO} (a : frD x O O2) (b : frD x O2 O3) : frD x O O3 := fun c k h q => (b c k h q).trans (a c k h q)
theorem frD_5 {x : Nat} {O O2 : jO} (f : ∀ a j : Nat, ¬ (a = x + 1 ∧ j = 5) → O2 a j = O a j) : frD x O O2 := fun a j h _ => f a j h
theorem frD_R {x : Nat} {O O2 : jO} (f : frR (x + 21) O O2) : frD x O O2 := fun a j _ h => f a j (by omega)
theorem frD_0 {x : Nat} {O : jO} : frD x O O := fun _ _ _ _ => rfl
theorem rrS_D {x : Nat} {O O2 : jO} (S : rrS O x) (f : frD x O O2) : rrS O2 x := ⟨(f _ _ (by omega) (by omega)).trans S.1, (f _ _ (by omega) (by omega)).trans S.2.1, (f _ _ (by omega) (by omega)).trans S.2.2⟩
theorem ck_D {O O2 : jO} {x L m k : Nat} {b : Nat → Int32} {T : Nat → Int32 × Int32} {st : Nat → Nat} (C : ck O (x + 1) b L m T st k) (f : frR (x + 21) O O2) : ck O2 (x + 1) b L m T st k := ck_fr C (fun a j h1 h2 => f a j (by omega))
theorem rodE_5 {O O2 : jO} {x : Nat} {W : jWd} (R : rodE O (x + 21) W) (f : ∀ a j : Nat, ¬ (a = x + 1 ∧ j = 5) → O2 a j = O a j) : rodE O2 (x + 21) W := rodE_fr R (fun a k h1 h2 => f a k (by omega))
/-- what the class answers to a line, r telling what is asked -/
def lnC (O : jO) (v : Int32) (x : Nat) (b : Nat → Int32) (L m : Nat) (T : Nat → Int32 × Int32) (st : Nat → Nat) (r : (Nat × jWd) ⊕ Nat) : Prop :=
  (∀ p, r = .inl p → v = 1 ∧ ck O (x + 1) b L m T st p.1 ∧ rodE O (x + 21) p.2) ∧ (∀ f, r = .inr f → v = 0 ∧ ck O (x + 1) b L m T st f ∧ rodS O (x + 21))
theorem lnC_l {O : jO} {v : Int32} {x L m k : Nat} {b : Nat → Int32} {T : Nat → Int32 × Int32} {st : Nat → Nat} {r : (Nat × jWd) ⊕ Nat} {W : jWd} (e : r = .inl (k, W)) (h : v = 1 ∧ ck O (x + 1) b L m T st k ∧ rodE O (x + 21) W) : lnC O v x b L m T st r :=
  ⟨fun p z => (by rw [e] at z; cases z; exact h), fun f z => (by rw [e] at z; cases z)⟩
theorem lnC_r {O : jO} {v : Int32} {x L m k : Nat} {b : Nat → Int32} {T : Nat → Int32 × Int32} {st : Nat → Nat} {r : (Nat × jWd) ⊕ Nat} (e : r = .inr k) (h : v = 0 ∧ ck O (x + 1) b L m T st k ∧ rodS O (x + 21)) : lnC O v x b L m T st r :=
  ⟨fun p z => (by rw [e] at z; cases z), fun f z => (by rw [e] at z; cases z; exact h)⟩
theorem E_X9_readMore {b : Nat → Int32} {L : Nat} {m : Nat} {T : Nat → Int32 × Int32} {st : Nat → Nat} {k : Nat} {x : Nat} {c : Nat} {d : Nat} {n : Nat} {a0 : Nat} {x1 : Int32} {a2 : Nat} {x3 : Int32} {x4 : Int32} {h : jH} {q : Int32 × jH} (K : ck (oc h) (x + 1) b L m T st k) (S : rrS (oc h) x) (ha : a0 = x + 34) (h2 : a2 = x + d) (hd : 24 ≤ d ∧ d ≤ 25) (h3 : x3 = nI c) (hc : c < 8) (hw : x1 ≠ -1) (hl : jlen h (x + d) = some 8) (hf : F_X9_readMore n a0 x1 a2 x3 x4 h = some q) : (((T k).1 ≠ x1 ∧ q = (1, h)) ∨ ((T k).1 = x1 ∧ nOK T (k + 1) 0 x4 ∧ q.1 = 1 ∧ ck (oc q.2) (x + 1) b L m T st (k + 2) ∧ ∃ O1, (∀ a j : Nat, ¬ (a = x + 1 ∧ j = 5) → O1 a j = oc h a j) ∧ oc q.2 = u2 O1 (x + d) c (.int (T (k + 1)).2)) ∨ ((T k).1 = x1 ∧ ¬ nOK T (k + 1) 0 x4 ∧ q.1 = 0 ∧ ck (oc q.2) (x + 1) b L m T st (k + 1) ∧ ∃ O1, (∀ a j : Nat, ¬ (a = x + 1 ∧ j = 5) → O1 a j = oc h a j) ∧ oc q.2 = u2 O1 (x + d) c (.int (-1)))) ∧ q.2.1 = h.1 := by
  unfold F_X9_readMore at hf
  subst ha
  subst h2
  replace hf := jbind hf
  obtain ⟨v2, e1, hf⟩ := hf
  replace hf := jite hf
  rcases hf with ⟨c2, hf⟩ | ⟨c2, hf⟩
  · skip
    cases hf
    -- leaf 0: ((1 : Int32), h)
    have e9 := Option.some.inj (e1.symm.trans hl)
    rw [e9, h3, Int32.le_iff_toInt_le, nI_toInt (by omega), show (8 : Int32).toInt = 8 from rfl] at c2
    omega
  · skip
    replace hf := jbind hf
    obtain ⟨p7, e3, hf⟩ := hf
    have r3 := oc_gR e3
    rw [S.1] at r3
    cases r3
    clear e3
    replace hf := jbind hf
    obtain ⟨q11, e4, hf⟩ := hf
    replace e4 := (jcv_o e4).2
    obtain ⟨r4, f4, z4⟩ := E_X10_take K hw e4
    have S0 : oc q11.2 (x + 34) 0 = .ref (x + 1) := (f4 _ _ (by omega)).trans S.1
    replace hf := jite hf
    rcases hf with ⟨c5, hf⟩ | ⟨c5, hf⟩
    · skip
      cases hf
      -- leaf 10: ((1 : Int32), q11.2)
      rcases r4 with ⟨-, y, -⟩ | ⟨y1, y2⟩
      · exact absurd (c5.symm.trans y) (by decide)
      exact ⟨Or.inl ⟨y1, by rw [y2]⟩, z4⟩
    · skip
      replace hf := jbind hf
      obtain ⟨p20, e6, hf⟩ := hf
      have r6 := oc_gR e6
      rw [S0] at r6
      cases r6
      clear e6
      replace hf := jbind hf
      obtain ⟨q26, e7, hf⟩ := hf
      replace e7 := (jcv_o e7).2
      rcases r4 with ⟨y1, y2, K2⟩ | ⟨-, y⟩
      rotate_left
      · exact absurd (by rw [y]) c5
      obtain ⟨r7, f7, z7⟩ := E_X10_takeNumber K2 e7
      replace hf := jbind hf
      obtain ⟨h35, e8, hf⟩ := hf
      obtain ⟨o8, z8, y8⟩ := oc_as e8
      rw [jnar0] at o8
      clear e8
      replace hf := jite hf
      rcases hf with ⟨c9, hf⟩ | ⟨c9, hf⟩
      · skip
        cases hf
        -- leaf 110: ((0 : Int32), h35)
        rw [h3, nI_cl (by omega)] at o8
        have F : ∀ a j : Nat, ¬ (a = x + 1 ∧ j = 5) → oc q26.2 a j = oc h a j := fun a j u => (f7 a j u).trans (f4 a j u)
        have CK : ∀ k2, ck (oc q26.2) (x + 1) b L m T st k2 → ck (oc h35) (x + 1) b L m T st k2 := fun k2 y => by rw [o8]; exact ck_fr y (fun a j h1 h2 => u2_ne (by omega))
        rcases r7 with ⟨w1, w2, w3⟩ | ⟨w1, w2⟩
        · exfalso
          rw [w2] at c9
          have := w1.2.1
          rw [c9, Int32.le_iff_toInt_le] at this
          exact absurd this (by decide)
        rw [w2] at o8
        exact ⟨Or.inr (Or.inr ⟨y1, w1, rfl, CK _ (by rw [w2]; exact K2), oc q26.2, F, by rw [w2]; exact o8⟩), z8.trans (z7.trans z4)⟩
      · skip
        cases hf
        -- leaf 111: ((1 : Int32), h35)
        rw [h3, nI_cl (by omega)] at o8
        have F : ∀ a j : Nat, ¬ (a = x + 1 ∧ j = 5) → oc q26.2 a j = oc h a j := fun a j u => (f7 a j u).trans (f4 a j u)
        have CK : ∀ k2, ck (oc q26.2) (x + 1) b L m T st k2 → ck (oc h35) (x + 1) b L m T st k2 := fun k2 y => by rw [o8]; exact ck_fr y (fun a j h1 h2 => u2_ne (by omega))
        rcases r7 with ⟨w1, w2, w3⟩ | ⟨w1, w2⟩
        rotate_left
        · exact absurd (by rw [w2]) c9
        rw [w2] at o8
        exact ⟨Or.inr (Or.inl ⟨y1, w1, rfl, CK _ w3, oc q26.2, F, o8⟩), z8.trans (z7.trans z4)⟩
end
section
/-! a ring of a pole's text, as the class reads it -/
theorem tk_both {O O2 : jO} {t L m k : Nat} {b : Nat → Int32} {T : Nat → Int32 × Int32} {st : Nat → Nat} {w v : Int32} (K : ck O t b L m T st k) (r : ((T k).1 = w ∧ v = 1 ∧ ck O2 t b L m T st (k + 1)) ∨ ((T k).1 ≠ w ∧ v = 0 ∧ O2 = O)) : v = (tkF T w k).2 ∧ ck O2 t b L m T st (tkF T w k).1 := by
  unfold tkF
  rcases r with ⟨y, y2, y3⟩ | ⟨y, y2, y3⟩
  · rw [if_pos y]; exact ⟨y2, y3⟩
  · rw [if_neg y, y3]; exact ⟨y2, K⟩
theorem tk_pr {a : Prop} {h : jH} {q : Int32 × jH} {P : Prop} (r : a ∨ (P ∧ q = (0, h))) : a ∨ (P ∧ q.1 = 0 ∧ oc q.2 = oc h) := by
  rcases r with r | ⟨y, z⟩
  · exact Or.inl r
  · rw [z]; exact Or.inr ⟨y, rfl, rfl⟩
theorem leW_0 {W : jWd} (K : wOK W) : 0 ≤ (leW W).toInt ∧ (moW W).toInt ≤ 31 := by
  have k := K.1
  have l31 : (31 : Int32).toInt = 31 := rfl
  have l1 : (1 : Int32).toInt = 1 := rfl
  unfold leW moW
  split
  · exact ⟨by decide, by decide⟩
  · rename_i z
    have n := cN_last K z
    have ec : (cN W : Int) = (W 0).toInt := by unfold cN; omega
    obtain ⟨a1, a2, -⟩ := K.2.1 (cN W - 1) (by omega)
    refine ⟨by rw [jadd (by omega) (by omega)]; omega, ?_⟩
    split
    · rename_i y
      rw [Int32.lt_iff_toInt_lt] at y
      omega
    · exact Int.le_refl _
def rmP (x : Nat) (b : Nat → Int32) (L m : Nat) (T : Nat → Int32 × Int32) (st : Nat → Nat) (k d c : Nat) (w hi : Int32) (h : jH) (q : Int32 × jH) : Prop :=
  ((T k).1 ≠ w ∧ q = (1, h)) ∨ ((T k).1 = w ∧ nOK T (k + 1) 0 hi ∧ q.1 = 1 ∧ ck (oc q.2) (x + 1) b L m T st (k + 2) ∧ ∃ O1, (∀ a j : Nat, ¬ (a = x + 1 ∧ j = 5) → O1 a j = oc h a j) ∧ oc q.2 = u2 O1 (x + d) c (.int (T (k + 1)).2)) ∨ ((T k).1 = w ∧ ¬ nOK T (k + 1) 0 hi ∧ q.1 = 0 ∧ ck (oc q.2) (x + 1) b L m T st (k + 1) ∧ ∃ O1, (∀ a j : Nat, ¬ (a = x + 1 ∧ j = 5) → O1 a j = oc h a j) ∧ oc q.2 = u2 O1 (x + d) c (.int (-1)))
theorem rm_ok {x L m k d c p : Nat} {b : Nat → Int32} {T : Nat → Int32 × Int32} {st : Nat → Nat} {w hi : Int32} {h : jH} {q : Int32 × jH} {W : jWd} (K : ck (oc h) (x + 1) b L m T st k) (R : rodE (oc h) (x + 21) W) (hd : 24 ≤ d ∧ d ≤ 25) (hz : W p = 0) (hu : ∀ (O : jO) (v : Int32), rodE O (x + 21) W → rodE (u2 O (x + d) c (.int v)) (x + 21) (upd W p v)) (r : rmP x b L m T st k d c w hi h q) (hq : ¬ q.1 = 0) :
    ∃ r2, rdMore T w hi k = .inl r2 ∧ ck (oc q.2) (x + 1) b L m T st r2.1 ∧ rodE (oc q.2) (x + 21) (upd W p r2.2) ∧ frD x (oc h) (oc q.2) := by
  unfold rdMore
  rcases r with ⟨y, z⟩ | ⟨y, y2, -, y3, O1, y4, y5⟩ | ⟨-, -, z, -⟩
  · rw [if_neg y, z]
    exact ⟨(k, 0), rfl, K, by rw [upd_self hz]; exact R, frD_0⟩
  · rw [if_pos y, if_pos y2]
    refine ⟨(k + 2, (T (k + 1)).2), rfl, y3, ?_, fun a j h1 h2 => ?_⟩
    · rw [y5]; exact hu O1 _ (rodE_5 R y4)
    · rw [y5, u2_ne (by omega)]; exact y4 a j h1
  · exact absurd z hq
theorem rm_no {x L m k d c : Nat} {b : Nat → Int32} {T : Nat → Int32 × Int32} {st : Nat → Nat} {w hi : Int32} {h : jH} {q : Int32 × jH} (R : rodS (oc h) (x + 21)) (hd : 24 ≤ d ∧ d ≤ 25) (r : rmP x b L m T st k d c w hi h q) (hq : q.1 = 0) :
    ∃ f, rdMore T w hi k = .inr f ∧ ck (oc q.2) (x + 1) b L m T st f ∧ rodS (oc q.2) (x + 21) ∧ frD x (oc h) (oc q.2) := by
  unfold rdMore
  rcases r with ⟨y, z⟩ | ⟨y, y2, z, -⟩ | ⟨y, y2, -, y3, O1, y4, y5⟩
  · rw [z] at hq; exact absurd hq (by show ¬ (1 : Int32) = 0; decide)
  · exact absurd (hq.symm.trans z) (by decide)
  · rw [if_pos y, if_neg y2]
    have f : ∀ a j : Nat, ¬ (a = x + 1 ∧ j = 5) → ¬ (a = x + d ∧ j = c) → oc q.2 a j = oc h a j := fun a j h1 h2 => by rw [y5, u2_ne (by omega)]; exact y4 a j h1
    exact ⟨k + 1, rfl, y3, rodS_fr R (fun k => f _ _ (by omega) (by omega)) (f _ _ (by omega) (by omega)), fun a j h1 h2 => f a j h1 (by omega)⟩
theorem rm_S {x L m k d c : Nat} {b : Nat → Int32} {T : Nat → Int32 × Int32} {st : Nat → Nat} {w hi : Int32} {h : jH} {q : Int32 × jH} (R : rodS (oc h) (x + 21)) (hd : 24 ≤ d ∧ d ≤ 25) (r : rmP x b L m T st k d c w hi h q) : rodS (oc q.2) (x + 21) ∧ frD x (oc h) (oc q.2) := by
  have g : ∀ (O1 : jO) (v : Value), (∀ a j : Nat, ¬ (a = x + 1 ∧ j = 5) → O1 a j = oc h a j) → oc q.2 = u2 O1 (x + d) c v → rodS (oc q.2) (x + 21) ∧ frD x (oc h) (oc q.2) := fun O1 v y4 y5 => by
    have f : ∀ a j : Nat, ¬ (a = x + 1 ∧ j = 5) → ¬ (a = x + d ∧ j = c) → oc q.2 a j = oc h a j := fun a j h1 h2 => by rw [y5, u2_ne (by omega)]; exact y4 a j h1
    exact ⟨rodS_fr R (fun k => f _ _ (by omega) (by omega)) (f _ _ (by omega) (by omega)), fun a j h1 h2 => f a j h1 (by omega)⟩
  rcases r with ⟨y, z⟩ | ⟨y, y2, -, y3, O1, y4, y5⟩ | ⟨y, y2, z, y3, O1, y4, y5⟩
  · rw [z]; exact ⟨R, frD_0⟩
  · exact g O1 _ y4 y5
  · exact g O1 _ y4 y5
theorem E_X9_readRing {b : Nat → Int32} {L : Nat} {m : Nat} {T : Nat → Int32 × Int32} {st : Nat → Nat} {k : Nat} {x : Nat} {W : jWd} {n : Nat} {a0 : Nat} {h : jH} {q : Int32 × jH} (K : ck (oc h) (x + 1) b L m T st k) (S : rrS (oc h) x) (ha : a0 = x + 34) (R : rodE (oc h) (x + 21) W) (KW : wOK W) (n8 : cN W < 8) (J : jlen h (x + 24) = some 8 ∧ jlen h (x + 25) = some 8) (hf : F_X9_readRing n a0 h = some q) : lnC (oc q.2) q.1 x b L m T st (rdRing T W k) ∧ frD x (oc h) (oc q.2) ∧ q.2.1 = h.1 := by
  unfold F_X9_readRing at hf
  subst ha
  have k0 := KW.1
  have ec : (cN W : Int) = (W 0).toInt := by unfold cN; omega
  have e0 : W 0 = nI (cN W) := nI_k ec.symm
  have F0 : frD x (oc h) (oc h) := frD_0
  have J0 := J
  have Z0 : h.1 = h.1 := rfl
  have R0 := R
  replace hf := jbind hf
  obtain ⟨p1, e1, hf⟩ := hf
  have r1 := oc_gR e1
  rw [S.1] at r1
  cases r1
  clear e1
  replace hf := jbind hf
  obtain ⟨q6, e2, hf⟩ := hf
  replace e2 := (jcv_o e2).2
  obtain ⟨r2, f2, z2⟩ := E_X10_take K (by decide) e2
  have F2 : frD x (oc h) (oc q6.2) := frD_tr F0 (frD_5 f2)
  have S2 : rrS (oc q6.2) x := rrS_D S F2
  have J2 : jlen q6.2 (x + 24) = some 8 ∧ jlen q6.2 (x + 25) = some 8 := ⟨Ln_X10_take e2 _ _ J0.1, Ln_X10_take e2 _ _ J0.2⟩
  have Z2 : q6.2.1 = h.1 := z2.trans Z0
  have R2 := rodE_5 R0 f2
  replace hf := jite hf
  rcases hf with ⟨c3, hf⟩ | ⟨c3, hf⟩
  · skip
    cases hf
    -- leaf 0: ((0 : Int32), q6.2)
    rcases r2 with ⟨-, w, -⟩ | ⟨y, w⟩
    · exact absurd (c3.symm.trans w) (by decide)
    exact ⟨lnC_r (by unfold rdRing; rw [if_neg y]) ⟨rfl, by rw [w]; exact K, R2.1⟩, F2, Z2⟩
  · skip
    replace hf := jbind hf
    obtain ⟨p15, e4, hf⟩ := hf
    have r4 := oc_gR e4
    rw [S2.1] at r4
    cases r4
    clear e4
    replace hf := jbind hf
    obtain ⟨p19, e5, hf⟩ := hf
    have r5 := oc_gR e5
    rw [S2.2.2] at r5
    cases r5
    clear e5
    replace hf := jbind hf
    obtain ⟨v22, e6, hf⟩ := hf
    replace e6 := (jcv_o e6).2
    rcases r2 with ⟨y2, -, K2⟩ | ⟨-, w⟩
    rotate_left
    · exact absurd (by rw [w]) c3
    have r6 := E_X8_nearestNew R2 KW e6
    subst r6
    replace hf := jbind hf
    obtain ⟨p26, e7, hf⟩ := hf
    have r7 := oc_gR e7
    rw [S2.2.2] at r7
    cases r7
    clear e7
    replace hf := jbind hf
    obtain ⟨v29, e8, hf⟩ := hf
    replace e8 := (jcv_o e8).2
    have r8 := E_X8_farthestNew R2 KW e8
    subst r8
    replace hf := jbind hf
    obtain ⟨q32, e9, hf⟩ := hf
    replace e9 := (jcv_o e9).2
    obtain ⟨r9, f9, z9⟩ := E_X10_takeNumber K2 e9
    have F9 : frD x (oc h) (oc q32.2) := frD_tr F2 (frD_5 f9)
    have S9 : rrS (oc q32.2) x := rrS_D S F9
    have J9 : jlen q32.2 (x + 24) = some 8 ∧ jlen q32.2 (x + 25) = some 8 := ⟨Ln_X10_takeNumber e9 _ _ J2.1, Ln_X10_takeNumber e9 _ _ J2.2⟩
    have Z9 : q32.2.1 = h.1 := z9.trans Z2
    have R9 := rodE_5 R2 f9
    replace hf := jite hf
    rcases hf with ⟨c10, hf⟩ | ⟨c10, hf⟩
    · skip
      cases hf
      -- leaf 10: ((0 : Int32), q32.2)
      rcases r9 with ⟨y, w, -⟩ | ⟨y, w⟩
      · exfalso
        have := y.2.1
        rw [← w, c10, Int32.le_iff_toInt_le] at this
        have l9 := (leW_0 KW).1
        have lm1 : (-1 : Int32).toInt = -1 := rfl
        omega
      exact ⟨lnC_r (by unfold rdRing; rw [if_pos y2, if_neg y]) ⟨rfl, by rw [w]; exact K2, R9.1⟩, F9, Z9⟩
    · skip
      replace hf := jbind hf
      obtain ⟨p42, e11, hf⟩ := hf
      have r11 := oc_gR e11
      rw [S9.1] at r11
      cases r11
      clear e11
      replace hf := jbind hf
      obtain ⟨q47, e12, hf⟩ := hf
      replace e12 := (jcv_o e12).2
      rcases r9 with ⟨y9, v9, K9⟩ | ⟨-, w⟩
      rotate_left
      · exact absurd (by rw [w]) c10
      obtain ⟨r12, f12, z12⟩ := E_X10_take K9 (by decide) e12
      have F12 : frD x (oc h) (oc q47.2) := frD_tr F9 (frD_5 f12)
      have S12 : rrS (oc q47.2) x := rrS_D S F12
      have J12 : jlen q47.2 (x + 24) = some 8 ∧ jlen q47.2 (x + 25) = some 8 := ⟨Ln_X10_take e12 _ _ J9.1, Ln_X10_take e12 _ _ J9.2⟩
      have Z12 : q47.2.1 = h.1 := z12.trans Z9
      have R12 := rodE_5 R9 f12
      replace hf := jite hf
      rcases hf with ⟨c13, hf⟩ | ⟨c13, hf⟩
      · skip
        cases hf
        -- leaf 110: ((0 : Int32), q47.2)
        rcases r12 with ⟨-, w, -⟩ | ⟨y, w⟩
        · exact absurd (c13.symm.trans w) (by decide)
        exact ⟨lnC_r (by unfold rdRing; rw [if_pos y2, if_pos y9, if_neg y]) ⟨rfl, by rw [w]; exact K9, R12.1⟩, F12, Z12⟩
      · skip
        replace hf := jbind hf
        obtain ⟨p56, e14, hf⟩ := hf
        have r14 := oc_gR e14
        rw [S12.1] at r14
        cases r14
        clear e14
        replace hf := jbind hf
        obtain ⟨q62, e15, hf⟩ := hf
        replace e15 := (jcv_o e15).2
        rcases r12 with ⟨y12, -, K12⟩ | ⟨-, w⟩
        rotate_left
        · exact absurd (by rw [w]) c13
        obtain ⟨r15, f15, z15⟩ := E_X10_takeNumber K12 e15
        have F15 : frD x (oc h) (oc q62.2) := frD_tr F12 (frD_5 f15)
        have S15 : rrS (oc q62.2) x := rrS_D S F15
        have J15 : jlen q62.2 (x + 24) = some 8 ∧ jlen q62.2 (x + 25) = some 8 := ⟨Ln_X10_takeNumber e15 _ _ J12.1, Ln_X10_takeNumber e15 _ _ J12.2⟩
        have Z15 : q62.2.1 = h.1 := z15.trans Z12
        have R15 := rodE_5 R12 f15
        replace hf := jite hf
        rcases hf with ⟨c16, hf⟩ | ⟨c16, hf⟩
        · skip
          cases hf
          -- leaf 1110: ((0 : Int32), q62.2)
          rcases r15 with ⟨y, w, -⟩ | ⟨y, w⟩
          · exfalso
            have := y.2.1
            rw [← w, c16] at this
            exact absurd this (by decide)
          exact ⟨lnC_r (by unfold rdRing; rw [if_pos y2, if_pos y9, if_pos y12, if_neg y]) ⟨rfl, by rw [w]; exact K12, R15.1⟩, F15, Z15⟩
        · skip
          replace hf := jbind hf
          obtain ⟨p74, e17, hf⟩ := hf
          have r17 := oc_gR e17
          rw [S15.2.2] at r17
          cases r17
          clear e17
          replace hf := jbind hf
          obtain ⟨v77, e18, hf⟩ := hf
          have r18 := oc_gI e18
          subst r18
          clear e18
          replace hf := jbind hf
          obtain ⟨p82, e19, hf⟩ := hf
          have r19 := oc_gR e19
          rw [S15.2.2] at r19
          cases r19
          clear e19
          replace hf := jbind hf
          obtain ⟨h87, e20, hf⟩ := hf
          replace e20 := (jcv_o e20).2
          rcases r15 with ⟨y15, v15, K15⟩ | ⟨-, w⟩
          rotate_left
          · exact absurd (by rw [w]) c16
          obtain ⟨G1, G2, G3⟩ := E_X8_add R15 KW n8 e20
          rw [v9, v15] at G1
          have K20 := ck_D K15 G2
          have R20 := G1
          have hcn : oi (oc q62.2) (x + 21) 5 = nI (cN W) := R15.2.1.1.trans e0
          have g0i : (hgW W (T (k + 1)).2 (T (k + 3)).2 0).toInt = (W 0).toInt + 1 := by show (W 0 + 1 : Int32).toInt = _; rw [jadd (by have l1 : (1 : Int32).toInt = 1 := rfl; omega) (by have l1 : (1 : Int32).toInt = 1 := rfl; omega)]; rfl
          have F20 : frD x (oc h) (oc h87) := frD_tr F15 (frD_R G2)
          have S20 : rrS (oc h87) x := rrS_D S F20
          have J20 : jlen h87 (x + 24) = some 8 ∧ jlen h87 (x + 25) = some 8 := ⟨Ln_X8_add e20 _ _ J15.1, Ln_X8_add e20 _ _ J15.2⟩
          have Z20 : h87.1 = h.1 := G3.trans Z15
          replace hf := jbind hf
          obtain ⟨p91, e21, hf⟩ := hf
          have r21 := oc_gR e21
          rw [S20.2.2] at r21
          cases r21
          clear e21
          replace hf := jbind hf
          obtain ⟨p95, e22, hf⟩ := hf
          have r22 := oc_gR e22
          rw [S20.2.2] at r22
          cases r22
          clear e22
          replace hf := jbind hf
          obtain ⟨v98, e23, hf⟩ := hf
          have r23 := oc_gI e23
          subst r23
          clear e23
          replace hf := jbind hf
          obtain ⟨p103, e24, hf⟩ := hf
          have r24 := oc_gR e24
          rw [S20.1] at r24
          cases r24
          clear e24
          replace hf := jbind hf
          obtain ⟨q108, e25, hf⟩ := hf
          replace e25 := (jcv_o e25).2
          obtain ⟨r25, f25, z25⟩ := E_X10_take K20 (by decide) e25
          have F25 : frD x (oc h) (oc q108.2) := frD_tr F20 (frD_5 f25)
          have S25 : rrS (oc q108.2) x := rrS_D S F25
          have J25 : jlen q108.2 (x + 24) = some 8 ∧ jlen q108.2 (x + 25) = some 8 := ⟨Ln_X10_take e25 _ _ J20.1, Ln_X10_take e25 _ _ J20.2⟩
          have Z25 : q108.2.1 = h.1 := z25.trans Z20
          have R25 := rodE_5 R20 f25
          replace hf := jbind hf
          obtain ⟨v111, e26, hf⟩ := hf
          obtain ⟨v25, K25⟩ := tk_both K20 (by rcases r25 with z | ⟨z1, z2⟩; exact Or.inl z; rw [z2]; exact Or.inr ⟨z1, rfl, rfl⟩)
          have r26 := E_X11_withBit (i := cN W) hcn e26
          subst r26
          replace hf := jbind hf
          obtain ⟨h114, e27, hf⟩ := hf
          obtain ⟨o27, z27⟩ := oc_pf e27
          replace hf := jbind hf
          obtain ⟨p118, e28, hf⟩ := hf
          have r28 := oc_gR e28
          rw [o27] at r28
          rw [u2_ne (Or.inl (by omega))] at r28
          rw [S25.2.2] at r28
          cases r28
          clear e28
          replace hf := jbind hf
          obtain ⟨p122, e29, hf⟩ := hf
          have r29 := oc_gR e29
          rw [o27] at r29
          rw [u2_ne (Or.inl (by omega))] at r29
          rw [S25.2.2] at r29
          cases r29
          clear e29
          replace hf := jbind hf
          obtain ⟨v125, e30, hf⟩ := hf
          have r30 := oc_gI e30
          rw [o27] at r30
          rw [oi_ne (Or.inr (by decide))] at r30
          subst r30
          clear e30
          replace hf := jbind hf
          obtain ⟨p130, e31, hf⟩ := hf
          have r31 := oc_gR e31
          rw [o27] at r31
          rw [u2_ne (Or.inl (by omega))] at r31
          rw [S25.1] at r31
          cases r31
          clear e31
          replace hf := jbind hf
          obtain ⟨q135, e32, hf⟩ := hf
          replace e32 := (jcv_o e32).2
          have F27 : frD x (oc h) (oc h114) := frD_tr F25 (frD_R (by rw [o27]; exact frR_u2 (by omega)))
          have S27 : rrS (oc h114) x := rrS_D S F27
          have J27 : jlen h114 (x + 24) = some 8 ∧ jlen h114 (x + 25) = some 8 := ⟨lm_pf e27 _ _ J25.1, lm_pf e27 _ _ J25.2⟩
          have Z27 : h114.1 = h.1 := z27.trans Z25
          have K27 : ck (oc h114) (x + 1) b L m T st _ := ck_D K25 (by rw [o27]; exact frR_u2 (by omega))
          have a25 : oi (oc q108.2) (x + 21) 6 = oi (oc h87) (x + 21) 6 := by unfold oi; rw [f25 _ _ (by omega)]
          have R27 : rodE (oc h114) (x + 21) (upd (hgW W (T (k + 1)).2 (T (k + 3)).2) (13 + 8 * cN W) q108.1) := by
            rw [o27]
            refine rodE_th R25 (by rw [g0i]; omega) n8 (fun j hj => ?_) (by rw [g0i]; omega)
            rw [a25]
            exact chV_bit (by omega) (by rw [v25]; exact tkF_01) j hj
          obtain ⟨r32, f32, z32⟩ := E_X10_take K27 (by decide) e32
          have F32 : frD x (oc h) (oc q135.2) := frD_tr F27 (frD_5 f32)
          have S32 : rrS (oc q135.2) x := rrS_D S F32
          have J32 : jlen q135.2 (x + 24) = some 8 ∧ jlen q135.2 (x + 25) = some 8 := ⟨Ln_X10_take e32 _ _ J27.1, Ln_X10_take e32 _ _ J27.2⟩
          have Z32 : q135.2.1 = h.1 := z32.trans Z27
          have R32 := rodE_5 R27 f32
          replace hf := jbind hf
          obtain ⟨v138, e33, hf⟩ := hf
          obtain ⟨v32, K32⟩ := tk_both K27 (by rcases r32 with z | ⟨z1, z2⟩; exact Or.inl z; rw [z2]; exact Or.inr ⟨z1, rfl, rfl⟩)
          have r33 := E_X11_withBit (i := cN W) hcn e33
          subst r33
          replace hf := jbind hf
          obtain ⟨h141, e34, hf⟩ := hf
          obtain ⟨o34, z34⟩ := oc_pf e34
          replace hf := jbind hf
          obtain ⟨p147, e35, hf⟩ := hf
          have r35 := oc_gR e35
          rw [o34] at r35
          rw [u2_ne (Or.inl (by omega))] at r35
          rw [S32.2.2] at r35
          cases r35
          clear e35
          replace hf := jbind hf
          obtain ⟨p150, e36, hf⟩ := hf
          have r36 := oc_gR e36
          rw [o34] at r36
          rw [u2_ne (Or.inr (by decide))] at r36
          rw [R32.1.2.2.1] at r36
          cases r36
          clear e36
          replace hf := jbind hf
          obtain ⟨q156, e37, hf⟩ := hf
          replace e37 := (jcv_o e37).2
          have F34 : frD x (oc h) (oc h141) := frD_tr F32 (frD_R (by rw [o34]; exact frR_u2 (by omega)))
          have S34 : rrS (oc h141) x := rrS_D S F34
          have J34 : jlen h141 (x + 24) = some 8 ∧ jlen h141 (x + 25) = some 8 := ⟨lm_pf e34 _ _ J32.1, lm_pf e34 _ _ J32.2⟩
          have Z34 : h141.1 = h.1 := z34.trans Z32
          have K34 : ck (oc h141) (x + 1) b L m T st _ := ck_D K32 (by rw [o34]; exact frR_u2 (by omega))
          have a32 : oi (oc q135.2) (x + 21) 7 = oi (oc q108.2) (x + 21) 7 := by unfold oi; rw [f32 _ _ (by omega), o27, u2_ne (by omega)]
          have R34 : rodE (oc h141) (x + 21) (upd (upd (hgW W (T (k + 1)).2 (T (k + 3)).2) (13 + 8 * cN W) q108.1) (14 + 8 * cN W) q135.1) := by
            rw [o34]
            refine rodE_wd R32 (by rw [upd_ne (by omega), g0i]; omega) n8 (fun j hj => ?_) (by rw [upd_ne (by omega), g0i]; omega)
            rw [a32]
            exact chV_bit (by omega) (by rw [v32]; exact tkF_01) j hj
          obtain ⟨r37, z37⟩ := E_X9_readMore (c := cN W) (d := 24) K34 S34 rfl rfl (by omega) hcn n8 (by decide) J34.1 e37
          have Z37 : q156.2.1 = h.1 := z37.trans Z34
          obtain ⟨Q37, D37⟩ := rm_S R34.1 (by omega) r37
          have F37 : frD x (oc h) (oc q156.2) := frD_tr F34 D37
          have S37 : rrS (oc q156.2) x := rrS_D S F37
          replace hf := jite hf
          rcases hf with ⟨c38, hf⟩ | ⟨c38, hf⟩
          · skip
            cases hf
            -- leaf 11110: ((0 : Int32), q156.2)
            obtain ⟨f, C1, C2, C3, -⟩ := rm_no R34.1 (by omega) r37 c38
            exact ⟨lnC_r (by unfold rdRing; rw [if_pos y2, if_pos y9, if_pos y12, if_pos y15, C1]; all_goals rfl) ⟨rfl, C2, C3⟩, F37, Z37⟩
          · skip
            replace hf := jbind hf
            obtain ⟨p165, e39, hf⟩ := hf
            have r39 := oc_gR e39
            rw [S37.2.2] at r39
            cases r39
            clear e39
            replace hf := jbind hf
            obtain ⟨p168, e40, hf⟩ := hf
            have r40 := oc_gR e40
            rw [Q37.2.2.2.1] at r40
            cases r40
            clear e40
            replace hf := jbind hf
            obtain ⟨q174, e41, hf⟩ := hf
            replace e41 := (jcv_o e41).2
            obtain ⟨c1, C1, C2, C3, -⟩ := rm_ok (p := 15 + 8 * cN W) K34 R34 (by omega) (by rw [upd_ne (by omega), upd_ne (by omega), hg_z (by omega)]) (fun O v y => rodE_fd y n8) r37 c38
            have J37 : jlen q156.2 (x + 25) = some 8 := Ln_X9_readMore e37 _ _ J34.2
            obtain ⟨r41, z41⟩ := E_X9_readMore (c := cN W) (d := 25) C2 S37 rfl rfl (by omega) hcn n8 (by decide) J37 e41
            have Z41 : q174.2.1 = h.1 := z41.trans Z37
            obtain ⟨Q41, D41⟩ := rm_S Q37 (by omega) r41
            have F41 : frD x (oc h) (oc q174.2) := frD_tr F37 D41
            have rr : ∀ z, rdMore T 4 9 c1.1 = z → rdRing T W k = (match z with | .inr f => .inr f | .inl d => .inl (d.1, rgW W (T (k + 1)).2 (T (k + 3)).2 (tkF T 8 (k + 4)).2 (tkF T 7 (tkF T 8 (k + 4)).1).2 c1.2 d.2)) := fun z e => by
              subst e
              unfold rdRing
              rw [if_pos y2, if_pos y9, if_pos y12, if_pos y15, C1]
              all_goals rfl
            replace hf := jite hf
            rcases hf with ⟨c42, hf⟩ | ⟨c42, hf⟩
            · skip
              cases hf
              -- leaf 111110: ((0 : Int32), q174.2)
              obtain ⟨f, B1, B2, B3, -⟩ := rm_no Q37 (by omega) r41 c42
              exact ⟨lnC_r (rr _ B1) ⟨rfl, B2, B3⟩, F41, Z41⟩
            · skip
              cases hf
              -- leaf 111111: ((1 : Int32), q174.2)
              obtain ⟨d1, B1, B2, B3, -⟩ := rm_ok (p := 16 + 8 * cN W) C2 C3 (by omega) (by rw [upd_ne (by omega), upd_ne (by omega), upd_ne (by omega), hg_z (by omega)]) (fun O v y => rodE_ln y n8) r41 c42
              rw [v25, v32] at B3
              exact ⟨lnC_l (rr _ B1) ⟨rfl, B2, B3⟩, F41, Z41⟩
end
section
/-! a line of a pole's text, the class -/
def bndP (w : Int32) (W : jWd) : Int32 × Int32 := if w = 5 then (0, 7) else if w = 6 then (0, 999) else if w = 19 then (0, W 0 - 2) else if w = 21 then (1, 31) else (0, 31)
def kpW (w : Int32) (W : jWd) (v : Int32) : jWd := if w = 5 then upd W 3 v else if w = 19 then upd W (18 + 8 * v.toInt.toNat) 1 else if w = 20 then upd W 7 (chV (W 7) v.toInt.toNat 1) else if w = 21 then upd W 5 v else if w = 22 then upd W 6 v else upd W 4 v
def bgn (w : Int32) : Prop := w = 19 ∨ w = 20 ∨ w = 21 ∨ w = 22 ∨ w = 5 ∨ w = 6
theorem rdPole_n {T : Nat → Int32 × Int32} {W : jWd} {k : Nat} {w : Int32} (e : (T k).1 = w) (hb : bgn w) : rdPole T W k = rdNum T (k + 1) (bndP w W).1 (bndP w W).2 (kpW w W) := by
  unfold rdPole
  rw [e]
  rcases hb with z | z | z | z | z | z <;> subst z <;> rfl
theorem rdPole_0 {T : Nat → Int32 × Int32} {W : jWd} {k : Nat} (e : (T k).1 = 0) (n8 : ¬ W 0 = 8) : rdPole T W k = rdRing T W (k + 1) := by
  unfold rdPole
  rw [if_pos e, if_neg n8]
theorem rdPole_8 {T : Nat → Int32 × Int32} {W : jWd} {k : Nat} (e : (T k).1 = 0) (n8 : W 0 = 8) : rdPole T W k = .inr k := by
  unfold rdPole
  rw [if_pos e, if_pos n8]
theorem rdPole_x {T : Nat → Int32 × Int32} {W : jWd} {k : Nat} (e : (T k).1 ≠ 0) (hb : ¬ bgn (T k).1) : rdPole T W k = .inr k := by
  unfold bgn at hb
  unfold rdPole
  rw [if_neg e, if_neg (fun z => hb (by simp [z])), if_neg (fun z => hb (by simp [z])), if_neg (fun z => hb (by simp [z])), if_neg (fun z => hb (by simp [z])), if_neg (fun z => hb (by simp [z])), if_neg (fun z => hb (by simp [z]))]
theorem b_n {w : Int32} {W : jWd} {T : Nat → Int32 × Int32} {k : Nat} (K : wOK W) (h : nOK T k (bndP w W).1 (bndP w W).2) : 0 ≤ (T k).2.toInt ∧ (T k).2.toInt ≤ 999 ∧ (w ≠ 5 → w ≠ 6 → (T k).2.toInt ≤ 31) ∧ (w = 19 → (T k).2.toInt + 1 < (W 0).toInt) ∧ (w = 5 → (T k).2.toInt ≤ 7) ∧ (w = 21 → 1 ≤ (T k).2.toInt) := by
  obtain ⟨-, a, c⟩ := h
  rw [Int32.le_iff_toInt_le] at a c
  have k0 := K.1
  have l0 : (0 : Int32).toInt = 0 := rfl
  have l1 : (1 : Int32).toInt = 1 := rfl
  have l2 : (2 : Int32).toInt = 2 := rfl
  have l7 : (7 : Int32).toInt = 7 := rfl
  have l31 : (31 : Int32).toInt = 31 := rfl
  have l9 : (999 : Int32).toInt = 999 := rfl
  have e2 : (W 0 - 2).toInt = (W 0).toInt - 2 := by rw [jsub (by omega) (by omega)]; rfl
  unfold bndP at a c
  by_cases z5 : w = 5
  · subst z5; rw [if_pos rfl] at a c; dsimp only at a c
    exact ⟨by omega, by omega, fun z => absurd rfl z, fun z => absurd z (by decide), fun _ => by omega, fun z => absurd z (by decide)⟩
  · rw [if_neg z5] at a c
    by_cases z6 : w = 6
    · subst z6; rw [if_pos rfl] at a c; dsimp only at a c
      exact ⟨by omega, by omega, fun _ z => absurd rfl z, fun z => absurd z (by decide), fun z => absurd z (by decide), fun z => absurd z (by decide)⟩
    · rw [if_neg z6] at a c
      by_cases z19 : w = 19
      · subst z19; rw [if_pos rfl] at a c; dsimp only at a c
        exact ⟨by omega, by omega, fun _ _ => by omega, fun _ => by omega, fun z => absurd z (by decide), fun z => absurd z (by decide)⟩
      · rw [if_neg z19] at a c
        by_cases z21 : w = 21
        · subst z21; rw [if_pos rfl] at a c; dsimp only at a c
          exact ⟨by omega, by omega, fun _ _ => by omega, fun z => absurd z (by decide), fun z => absurd z (by decide), fun _ => by omega⟩
        · rw [if_neg z21] at a c; dsimp only at a c
          exact ⟨by omega, by omega, fun _ _ => by omega, fun z => absurd z z19, fun z => absurd z z5, fun z => absurd z z21⟩
theorem E_X9_readNumber {b : Nat → Int32} {L : Nat} {m : Nat} {T : Nat → Int32 × Int32} {st : Nat → Nat} {k : Nat} {x : Nat} {W : jWd} {n : Nat} {a0 : Nat} {x1 : Int32} {h : jH} {q : Int32 × jH} (K : ck (oc h) (x + 1) b L m T st k) (S : rrS (oc h) x) (ha : a0 = x + 34) (R : rodE (oc h) (x + 21) W) (KW : wOK W) (hf : F_X9_readNumber n a0 x1 h = some q) : ((nOK T k (bndP x1 W).1 (bndP x1 W).2 ∧ q.1 = (T k).2 ∧ ck (oc q.2) (x + 1) b L m T st (k + 1)) ∨ (¬ nOK T k (bndP x1 W).1 (bndP x1 W).2 ∧ q = (-1, h))) ∧ (∀ a j : Nat, ¬ (a = x + 1 ∧ j = 5) → oc q.2 a j = oc h a j) ∧ q.2.1 = h.1 := by
  unfold F_X9_readNumber at hf
  subst ha
  replace hf := jite hf
  rcases hf with ⟨c1, hf⟩ | ⟨c1, hf⟩
  · skip
    replace hf := jbind hf
    obtain ⟨p74, e2, hf⟩ := hf
    have r2 := oc_gR e2
    rw [S.1] at r2
    cases r2
    clear e2
    replace hf := jbind hf
    obtain ⟨q80, e3, hf⟩ := hf
    replace e3 := (jcv_o e3).2
    obtain ⟨r, f, z⟩ := E_X10_takeNumber K e3
    cases hf
    -- leaf 0: (q80.1, q80.2)
    have eb : bndP x1 W = (0, 7) := by unfold bndP; rw [if_pos c1]
    rw [eb]
    exact ⟨r, f, z⟩
  · skip
    replace hf := jite hf
    rcases hf with ⟨c4, hf⟩ | ⟨c4, hf⟩
    · skip
      replace hf := jbind hf
      obtain ⟨p85, e5, hf⟩ := hf
      have r5 := oc_gR e5
      rw [S.1] at r5
      cases r5
      clear e5
      replace hf := jbind hf
      obtain ⟨q92, e6, hf⟩ := hf
      replace e6 := (jcv_o e6).2
      obtain ⟨r, f, z⟩ := E_X10_takeNumber K e6
      cases hf
      -- leaf 10: (q92.1, q92.2)
      have eb : bndP x1 W = (0, 999) := by unfold bndP; rw [if_neg c1, if_pos c4]
      rw [eb]
      exact ⟨r, f, z⟩
    · skip
      replace hf := jite hf
      rcases hf with ⟨c7, hf⟩ | ⟨c7, hf⟩
      · skip
        replace hf := jbind hf
        obtain ⟨p45, e8, hf⟩ := hf
        have r8 := oc_gR e8
        rw [S.1] at r8
        cases r8
        clear e8
        replace hf := jbind hf
        obtain ⟨p50, e9, hf⟩ := hf
        have r9 := oc_gR e9
        rw [S.2.2] at r9
        cases r9
        clear e9
        replace hf := jbind hf
        obtain ⟨v53, e10, hf⟩ := hf
        have r10 := oc_gI e10
        subst r10
        clear e10
        replace hf := jbind hf
        obtain ⟨q58, e11, hf⟩ := hf
        replace e11 := (jcv_o e11).2
        obtain ⟨r, f, z⟩ := E_X10_takeNumber K e11
        cases hf
        -- leaf 110: (q58.1, q58.2)
        rw [R.2.1.1] at r
        have eb : bndP x1 W = (0, W 0 - 2) := by unfold bndP; rw [if_neg c1, if_neg c4, if_pos c7]
        rw [eb]
        exact ⟨r, f, z⟩
      · skip
        replace hf := jite hf
        rcases hf with ⟨c12, hf⟩ | ⟨c12, hf⟩
        · skip
          replace hf := jbind hf
          obtain ⟨p63, e13, hf⟩ := hf
          have r13 := oc_gR e13
          rw [S.1] at r13
          cases r13
          clear e13
          replace hf := jbind hf
          obtain ⟨q69, e14, hf⟩ := hf
          replace e14 := (jcv_o e14).2
          obtain ⟨r, f, z⟩ := E_X10_takeNumber K e14
          cases hf
          -- leaf 1110: (q69.1, q69.2)
          have eb : bndP x1 W = (1, 31) := by unfold bndP; rw [if_neg c1, if_neg c4, if_neg c7, if_pos c12]
          rw [eb]
          exact ⟨r, f, z⟩
        · skip
          replace hf := jbind hf
          obtain ⟨p97, e15, hf⟩ := hf
          have r15 := oc_gR e15
          rw [S.1] at r15
          cases r15
          clear e15
          replace hf := jbind hf
          obtain ⟨q103, e16, hf⟩ := hf
          replace e16 := (jcv_o e16).2
          obtain ⟨r, f, z⟩ := E_X10_takeNumber K e16
          cases hf
          -- leaf 1111: (q103.1, q103.2)
          have eb : bndP x1 W = (0, 31) := by unfold bndP; rw [if_neg c1, if_neg c4, if_neg c7, if_neg c12]
          rw [eb]
          exact ⟨r, f, z⟩
theorem E_X9_keepNumber {x : Nat} {W : jWd} {n : Nat} {a0 : Nat} {x1 : Int32} {x2 : Int32} {h : jH} {q : jH} (S : rrS (oc h) x) (ha : a0 = x + 34) (R : rodE (oc h) (x + 21) W) (KW : wOK W) (h0 : 0 ≤ x2.toInt) (h19 : x1 = 19 → x2.toInt + 1 < (W 0).toInt) (h20 : x1 = 20 → x2.toInt ≤ 31) (hf : F_X9_keepNumber n a0 x1 x2 h = some q) : rodE (oc q) (x + 21) (kpW x1 W x2) ∧ frR (x + 21) (oc h) (oc q) ∧ q.1 = h.1 := by
  unfold F_X9_keepNumber at hf
  subst ha
  have k0 := KW.1
  replace hf := jite hf
  rcases hf with ⟨c1, hf⟩ | ⟨c1, hf⟩
  · skip
    replace hf := jbind hf
    obtain ⟨p119, e2, hf⟩ := hf
    have r2 := oc_gR e2
    rw [S.2.2] at r2
    cases r2
    clear e2
    replace hf := jbind hf
    obtain ⟨h123, e3, hf⟩ := hf
    obtain ⟨o3, z3⟩ := oc_pf e3
    clear e3
    cases hf
    -- leaf 0: h123
    have ek : kpW x1 W x2 = upd W 3 x2 := by unfold kpW; rw [if_pos c1]
    refine ⟨?_, by rw [o3]; exact frR_u2 (by omega), z3⟩
    rw [ek, o3]
    exact rodE_i13 R
  · skip
    replace hf := jite hf
    rcases hf with ⟨c4, hf⟩ | ⟨c4, hf⟩
    · skip
      replace hf := jbind hf
      obtain ⟨p53, e5, hf⟩ := hf
      have r5 := oc_gR e5
      rw [S.2.2] at r5
      cases r5
      clear e5
      replace hf := jbind hf
      obtain ⟨p57, e6, hf⟩ := hf
      have r6 := oc_gR e6
      rw [S.2.2] at r6
      cases r6
      clear e6
      replace hf := jbind hf
      obtain ⟨v60, e7, hf⟩ := hf
      have r7 := oc_gI e7
      subst r7
      clear e7
      replace hf := jbind hf
      obtain ⟨v65, e8, hf⟩ := hf
      have r8 := E_X11_withBit (i := x2.toInt.toNat) (nI_k (by omega)) e8
      subst r8
      replace hf := jbind hf
      obtain ⟨h68, e9, hf⟩ := hf
      obtain ⟨o9, z9⟩ := oc_pf e9
      clear e9
      cases hf
      -- leaf 10: h68
      have b19 := h19 c4
      have ek : kpW x1 W x2 = upd W (18 + 8 * x2.toInt.toNat) 1 := by unfold kpW; rw [if_neg c1, if_pos c4]
      refine ⟨?_, by rw [o9]; exact frR_u2 (by omega), z9⟩
      rw [ek, o9]
      exact rodE_ct R (by omega) (by omega) (fun j hj => chV_bit (by omega) (Or.inr rfl) j hj) k0
    · skip
      replace hf := jite hf
      rcases hf with ⟨c10, hf⟩ | ⟨c10, hf⟩
      · skip
        replace hf := jbind hf
        obtain ⟨p75, e11, hf⟩ := hf
        have r11 := oc_gR e11
        rw [S.2.2] at r11
        cases r11
        clear e11
        replace hf := jbind hf
        obtain ⟨p79, e12, hf⟩ := hf
        have r12 := oc_gR e12
        rw [S.2.2] at r12
        cases r12
        clear e12
        replace hf := jbind hf
        obtain ⟨v82, e13, hf⟩ := hf
        have r13 := oc_gI e13
        subst r13
        clear e13
        replace hf := jbind hf
        obtain ⟨v87, e14, hf⟩ := hf
        have r14 := E_X11_withBit (i := x2.toInt.toNat) (nI_k (by omega)) e14
        subst r14
        replace hf := jbind hf
        obtain ⟨h90, e15, hf⟩ := hf
        obtain ⟨o15, z15⟩ := oc_pf e15
        clear e15
        cases hf
        -- leaf 110: h90
        have b20 := h20 c10
        have ek : kpW x1 W x2 = upd W 7 (chV (W 7) x2.toInt.toNat 1) := by unfold kpW; rw [if_neg c1, if_neg c4, if_pos c10]
        refine ⟨?_, by rw [o15]; exact frR_u2 (by omega), z15⟩
        rw [ek, o15]
        rw [R.2.1.2.1]
        exact rodE_i10 R
      · skip
        replace hf := jite hf
        rcases hf with ⟨c16, hf⟩ | ⟨c16, hf⟩
        · skip
          replace hf := jbind hf
          obtain ⟨p97, e17, hf⟩ := hf
          have r17 := oc_gR e17
          rw [S.2.2] at r17
          cases r17
          clear e17
          replace hf := jbind hf
          obtain ⟨h101, e18, hf⟩ := hf
          obtain ⟨o18, z18⟩ := oc_pf e18
          clear e18
          cases hf
          -- leaf 1110: h101
          have ek : kpW x1 W x2 = upd W 5 x2 := by unfold kpW; rw [if_neg c1, if_neg c4, if_neg c10, if_pos c16]
          refine ⟨?_, by rw [o18]; exact frR_u2 (by omega), z18⟩
          rw [ek, o18]
          exact rodE_i11 R
        · skip
          replace hf := jite hf
          rcases hf with ⟨c19, hf⟩ | ⟨c19, hf⟩
          · skip
            replace hf := jbind hf
            obtain ⟨p108, e20, hf⟩ := hf
            have r20 := oc_gR e20
            rw [S.2.2] at r20
            cases r20
            clear e20
            replace hf := jbind hf
            obtain ⟨h112, e21, hf⟩ := hf
            obtain ⟨o21, z21⟩ := oc_pf e21
            clear e21
            cases hf
            -- leaf 11110: h112
            have ek : kpW x1 W x2 = upd W 6 x2 := by unfold kpW; rw [if_neg c1, if_neg c4, if_neg c10, if_neg c16, if_pos c19]
            refine ⟨?_, by rw [o21]; exact frR_u2 (by omega), z21⟩
            rw [ek, o21]
            exact rodE_i12 R
          · skip
            replace hf := jbind hf
            obtain ⟨p130, e22, hf⟩ := hf
            have r22 := oc_gR e22
            rw [S.2.2] at r22
            cases r22
            clear e22
            replace hf := jbind hf
            obtain ⟨h134, e23, hf⟩ := hf
            obtain ⟨o23, z23⟩ := oc_pf e23
            clear e23
            cases hf
            -- leaf 11111: h134
            have ek : kpW x1 W x2 = upd W 4 x2 := by unfold kpW; rw [if_neg c1, if_neg c4, if_neg c10, if_neg c16, if_neg c19]
            refine ⟨?_, by rw [o23]; exact frR_u2 (by omega), z23⟩
            rw [ek, o23]
            exact rodE_i14 R
theorem E_X9_beginsLine {n : Nat} {x0 : Int32} {h : jH} {q : Int32} (hf : F_X9_beginsLine n x0 h = some q) : (q = 0 ∨ q = 1) ∧ (q = 1 ↔ (x0 = 0 ∨ bgn x0)) := by
  unfold F_X9_beginsLine at hf
  replace hf := jite hf
  rcases hf with ⟨c1, hf⟩ | ⟨c1, hf⟩
  · skip
    cases hf
    -- leaf 0: (1 : Int32)
    exact ⟨Or.inr rfl, fun _ => Or.inl c1, fun _ => rfl⟩
  · skip
    replace hf := jite hf
    rcases hf with ⟨c2, hf⟩ | ⟨c2, hf⟩
    · skip
      cases hf
      -- leaf 10: (1 : Int32)
      exact ⟨Or.inr rfl, fun _ => Or.inr (by unfold bgn; simp [c2]), fun _ => rfl⟩
    · skip
      replace hf := jite hf
      rcases hf with ⟨c3, hf⟩ | ⟨c3, hf⟩
      · skip
        cases hf
        -- leaf 110: (1 : Int32)
        exact ⟨Or.inr rfl, fun _ => Or.inr (by unfold bgn; simp [c3]), fun _ => rfl⟩
      · skip
        replace hf := jite hf
        rcases hf with ⟨c4, hf⟩ | ⟨c4, hf⟩
        · skip
          cases hf
          -- leaf 1110: (1 : Int32)
          exact ⟨Or.inr rfl, fun _ => Or.inr (by unfold bgn; simp [c4]), fun _ => rfl⟩
        · skip
          replace hf := jite hf
          rcases hf with ⟨c5, hf⟩ | ⟨c5, hf⟩
          · skip
            cases hf
            -- leaf 11110: (1 : Int32)
            exact ⟨Or.inr rfl, fun _ => Or.inr (by unfold bgn; simp [c5]), fun _ => rfl⟩
          · skip
            replace hf := jite hf
            rcases hf with ⟨c6, hf⟩ | ⟨c6, hf⟩
            · skip
              cases hf
              -- leaf 111110: (1 : Int32)
              exact ⟨Or.inr rfl, fun _ => Or.inr (by unfold bgn; simp [c6]), fun _ => rfl⟩
            · skip
              replace hf := jite hf
              rcases hf with ⟨c7, hf⟩ | ⟨c7, hf⟩
              · skip
                cases hf
                -- leaf 1111110: (1 : Int32)
                exact ⟨Or.inr rfl, fun _ => Or.inr (by unfold bgn; simp [c7]), fun _ => rfl⟩
              · skip
                cases hf
                -- leaf 1111111: (0 : Int32)
                exact ⟨Or.inl rfl, fun z => absurd z (by decide), fun z => by unfold bgn at z; exfalso; simp [c1, c2, c3, c4, c5, c6, c7] at z⟩
theorem E_X9_readLine_33 {b : Nat → Int32} {L : Nat} {m : Nat} {T : Nat → Int32 × Int32} {st : Nat → Nat} {k : Nat} {x : Nat} {W : jWd} {n : Nat} {a0 : Nat} {x1 : Int32} {h : jH} {q : Int32 × jH} (K : ck (oc h) (x + 1) b L m T st k) (S : rrS (oc h) x) (ha : a0 = x + 34) (R : rodE (oc h) (x + 21) W) (KW : wOK W) (hn : (T k).1 ≠ -1) (hx : x1 = (T k).1) (hb : x1 = 0 ∨ bgn x1) (n8 : x1 = 0 → ¬ W 0 = 8) (J : jlen h (x + 24) = some 8 ∧ jlen h (x + 25) = some 8) (hf : F_X9_readLine_33 n a0 x1 h = some q) : lnC (oc q.2) q.1 x b L m T st (rdPole T W k) ∧ frD x (oc h) (oc q.2) ∧ q.2.1 = h.1 := by
  unfold F_X9_readLine_33 at hf
  subst ha
  replace hf := jbind hf
  obtain ⟨p34, e1, hf⟩ := hf
  have r1 := oc_gR e1
  rw [S.1] at r1
  cases r1
  clear e1
  replace hf := jbind hf
  obtain ⟨h37, e2, hf⟩ := hf
  replace e2 := (jcv_o e2).2
  obtain ⟨K2, f2, z2⟩ := E_X10_skip K hn e2
  have F2 : frD x (oc h) (oc h37) := frD_5 f2
  have S2 : rrS (oc h37) x := rrS_D S F2
  have R2 := rodE_5 R f2
  replace hf := jite hf
  rcases hf with ⟨c3, hf⟩ | ⟨c3, hf⟩
  · skip
    replace hf := jbind hf
    obtain ⟨q45, e4, hf⟩ := hf
    replace e4 := (jcv_o e4).2
    have J2 : jlen h37 (x + 24) = some 8 ∧ jlen h37 (x + 25) = some 8 := ⟨Ln_X10_skip e2 _ _ J.1, Ln_X10_skip e2 _ _ J.2⟩
    obtain ⟨r4, f4, z4⟩ := E_X9_readRing K2 S2 rfl R2 KW (cN_lt KW (n8 c3)) J2 e4
    replace hf := jite hf
    rcases hf with ⟨c5, hf⟩ | ⟨c5, hf⟩
    · skip
      cases hf
      -- leaf 00: (q45.1, q45.2)
      rw [rdPole_0 (hx.symm.trans c3) (n8 c3)]
      exact ⟨r4, frD_tr F2 f4, z4.trans z2⟩
    · skip
      cases hf
  · skip
    replace hf := jbind hf
    obtain ⟨q51, e6, hf⟩ := hf
    replace e6 := (jcv_o e6).2
    obtain ⟨r6, f6, z6⟩ := E_X9_readNumber K2 S2 rfl R2 KW e6
    have hb2 := hb.resolve_left c3
    replace hf := jite hf
    rcases hf with ⟨c7, hf⟩ | ⟨c7, hf⟩
    · skip
      cases hf
      -- leaf 10: ((0 : Int32), q51.2)
      rcases r6 with ⟨y6, v6, -⟩ | ⟨y6, w⟩
      · exfalso
        have := (b_n KW y6).1
        rw [← v6, c7] at this
        exact absurd this (by decide)
      rw [w]
      exact ⟨lnC_r (by rw [rdPole_n hx.symm hb2]; unfold rdNum; rw [if_neg y6]) ⟨rfl, K2, R2.1⟩, F2, z2⟩
    · skip
      replace hf := jbind hf
      obtain ⟨h65, e8, hf⟩ := hf
      replace e8 := (jcv_o e8).2
      rcases r6 with ⟨y6, v6, K6⟩ | ⟨-, w⟩
      rotate_left
      · exact absurd (by rw [w]) c7
      have S6 : rrS (oc q51.2) x := rrS_D S2 (frD_5 f6)
      have R6 := rodE_5 R2 f6
      have bn := b_n KW y6
      obtain ⟨R8, f8, z8⟩ := E_X9_keepNumber S6 rfl R6 KW (by rw [v6]; exact bn.1) (fun z => by rw [v6]; exact bn.2.2.2.1 z) (fun z => by rw [v6]; exact bn.2.2.1 (by rw [z]; decide) (by rw [z]; decide)) e8
      cases hf
      -- leaf 11: ((1 : Int32), h65)
      rw [v6] at R8
      exact ⟨lnC_l (by rw [rdPole_n hx.symm hb2]; unfold rdNum; rw [if_pos y6]) ⟨rfl, ck_D K6 f8, R8⟩, frD_tr F2 (frD_tr (frD_5 f6) (frD_R f8)), z8.trans (z6.trans z2)⟩
theorem E_X9_readLine {b : Nat → Int32} {L : Nat} {m : Nat} {T : Nat → Int32 × Int32} {st : Nat → Nat} {k : Nat} {x : Nat} {W : jWd} {n : Nat} {a0 : Nat} {h : jH} {q : Int32 × jH} (K : ck (oc h) (x + 1) b L m T st k) (S : rrS (oc h) x) (ha : a0 = x + 34) (R : rodE (oc h) (x + 21) W) (KW : wOK W) (J : jlen h (x + 24) = some 8 ∧ jlen h (x + 25) = some 8) (hf : F_X9_readLine n a0 h = some q) : lnC (oc q.2) q.1 x b L m T st (rdPole T W k) ∧ frD x (oc h) (oc q.2) ∧ q.2.1 = h.1 := by
  unfold F_X9_readLine at hf
  subst ha
  replace hf := jbind hf
  obtain ⟨p1, e1, hf⟩ := hf
  have r1 := oc_gR e1
  rw [S.1] at r1
  cases r1
  clear e1
  replace hf := jbind hf
  obtain ⟨v4, e2, hf⟩ := hf
  replace e2 := (jcv_o e2).2
  have r2 := E_X10_kind K e2
  replace hf := jbind hf
  obtain ⟨v9, e3, hf⟩ := hf
  have r3 := E_X9_beginsLine e3
  replace hf := jite hf
  rcases hf with ⟨c4, hf⟩ | ⟨c4, hf⟩
  · skip
    cases hf
    -- leaf 0: ((0 : Int32), h)
    rw [r2] at r3
    have nb : ¬ ((T k).1 = 0 ∨ bgn (T k).1) := fun z => absurd (c4.symm.trans (r3.2.mpr z)) (by decide)
    exact ⟨lnC_r (rdPole_x (fun z => nb (Or.inl z)) (fun z => nb (Or.inr z))) ⟨rfl, K, R.1⟩, frD_0, rfl⟩
  · skip
    replace hf := jite hf
    rcases hf with ⟨c5, hf⟩ | ⟨c5, hf⟩
    · skip
      replace hf := jbind hf
      obtain ⟨p20, e6, hf⟩ := hf
      have r6 := oc_gR e6
      rw [S.2.2] at r6
      cases r6
      clear e6
      replace hf := jbind hf
      obtain ⟨v23, e7, hf⟩ := hf
      have r7 := oc_gI e7
      subst r7
      clear e7
      replace hf := jite hf
      rcases hf with ⟨c8, hf⟩ | ⟨c8, hf⟩
      · skip
        -- leaf 100: F_X9_readLine_33 n a0 v4 h
        rw [R.2.1.1] at c8
        exact E_X9_readLine_33 K S rfl R KW (by rw [← r2, c5]; decide) r2 (Or.inl c5) (fun _ z => by rw [z] at c8; exact absurd c8 (by decide)) J hf
      · skip
        cases hf
        -- leaf 101: ((0 : Int32), h)
        rw [R.2.1.1, Int32.lt_iff_toInt_lt, show (8 : Int32).toInt = 8 from rfl] at c8
        have k0 := KW.1
        exact ⟨lnC_r (rdPole_8 (r2.symm.trans c5) (nI_k (k := 8) (by show (W 0).toInt = 8; omega))) ⟨rfl, K, R.1⟩, frD_0, rfl⟩
    · skip
      -- leaf 11: F_X9_readLine_33 n a0 v4 h
      have hb : bgn v4 := (r3.2.mp (r3.1.resolve_left c4)).resolve_left c5
      exact E_X9_readLine_33 K S rfl R KW (by rw [← r2]; intro z; rw [z] at hb; exact absurd hb (by unfold bgn; decide)) r2 (Or.inr hb) (fun z => absurd z c5) J hf
end
section
/-! what a pole's text does keeps the world in its bounds -/
def okW (W W2 : jWd) : Prop := wOK W2 ∧ (∀ k : Nat, k = 1 ∨ k = 2 ∨ 435 ≤ k → W2 k = W k)
theorem rdMore_b {T : Nat → Int32 × Int32} {w hi : Int32} {k : Nat} {c : Nat × Int32} (e : rdMore T w hi k = .inl c) (h0 : 0 ≤ hi.toInt) : 0 ≤ c.2.toInt ∧ c.2.toInt ≤ hi.toInt := by
  unfold rdMore at e
  split at e
  · split at e
    · rename_i z
      cases e
      obtain ⟨-, a, b⟩ := z
      rw [Int32.le_iff_toInt_le] at a b
      exact ⟨a, b⟩
    · cases e
  · cases e
    exact ⟨Int.le_refl 0, h0⟩
theorem rdRing_ok {T : Nat → Int32 × Int32} {W : jWd} {k : Nat} {p : Nat × jWd} (K : wOK W) (n8 : ¬ W 0 = 8) (e : rdRing T W k = .inl p) : okW W p.2 := by
  have n := cN_lt K n8
  unfold rdRing at e
  split at e
  · split at e
    · rename_i z1
      split at e
      · split at e
        · rename_i z2
          split at e
          · cases e
          · rename_i c ec
            split at e
            · cases e
            · rename_i d ed
              cases e
              obtain ⟨-, a1, a2⟩ := z1
              obtain ⟨-, b1, b2⟩ := z2
              rw [Int32.le_iff_toInt_le] at a1 a2 b1 b2
              obtain ⟨l0, l31⟩ := leW_0 K
              have c1 := rdMore_b ec (by decide)
              have d1 := rdMore_b ed (by decide)
              refine ⟨rgW_ok K ⟨by omega, by omega⟩ ⟨b1, b2⟩ ⟨n8, a1, a2⟩ tkF_01 tkF_01 c1 d1, fun j hj => ?_⟩
              show upd _ _ _ j = _
              rw [upd_ne (by omega), upd_ne (by omega), upd_ne (by omega), upd_ne (by omega)]
              exact hg_lo (by omega) (by omega)
        · cases e
      · cases e
    · cases e
  · cases e
theorem kpW_ok {T : Nat → Int32 × Int32} {W : jWd} {k : Nat} {w : Int32} (K : wOK W) (hb : bgn w) (h : nOK T k (bndP w W).1 (bndP w W).2) : okW W (kpW w W (T k).2) := by
  obtain ⟨b1, b2, b3, b4, b5, b6⟩ := b_n K h
  have k0 := K.1
  have law : ∀ (i : Nat) (v : Int32), (i ≠ 1 ∧ i ≠ 2 ∧ i < 435) → ∀ k : Nat, k = 1 ∨ k = 2 ∨ 435 ≤ k → upd W i v k = W k := fun i v hi k hk => upd_ne (by omega)
  rcases hb with z | z | z | z | z | z <;> subst z
  · exact ⟨wOK_ct K (Or.inr ⟨rfl, by have := b4 rfl; omega⟩), law _ _ (by have := b3 (by decide) (by decide); omega)⟩
  · exact ⟨wOK_7 K, law _ _ (by omega)⟩
  · exact ⟨wOK_5 K ⟨b6 rfl, b3 (by decide) (by decide)⟩, law _ _ (by omega)⟩
  · exact ⟨wOK_6 K ⟨b1, b3 (by decide) (by decide)⟩, law _ _ (by omega)⟩
  · exact ⟨wOK_3 K ⟨b1, b5 rfl⟩, law _ _ (by omega)⟩
  · exact ⟨wOK_4 K ⟨b1, by omega⟩, law _ _ (by omega)⟩
theorem rdPole_ok {T : Nat → Int32 × Int32} {W : jWd} {k : Nat} {p : Nat × jWd} (K : wOK W) (e : rdPole T W k = .inl p) : okW W p.2 := by
  by_cases e0 : (T k).1 = 0
  · by_cases n8 : W 0 = 8
    · rw [rdPole_8 e0 n8] at e; cases e
    · rw [rdPole_0 e0 n8] at e; exact rdRing_ok K n8 e
  · by_cases hb : bgn (T k).1
    · rw [rdPole_n rfl hb] at e
      unfold rdNum at e
      split at e
      · rename_i z
        cases e
        exact kpW_ok K hb z
      · cases e
    · rw [rdPole_x e0 hb] at e; cases e
theorem okW_tr {W W2 W3 : jWd} (a : okW W W2) (b : okW W2 W3) : okW W W3 := ⟨b.1, fun k hk => (b.2 k hk).trans (a.2 k hk)⟩
theorem rdLines_ok {T : Nat → Int32 × Int32} : ∀ (n : Nat) {W W2 : jWd} {k : Nat}, wOK W → rdLines (rdPole T) T n W k = .inl W2 → okW W W2
  | 0, W, W2, k, K, e => by cases e
  | n + 1, W, W2, k, K, e => by
    unfold rdLines at e
    split at e
    · cases e
    · rename_i d ed
      have a := rdPole_ok K ed
      split at e
      · cases e; exact a
      · split at e
        · exact okW_tr a (rdLines_ok n a.1 e)
        · cases e
/-- what the class answers to a whole text -/
def lrC (O : jO) (v : Int32) (x : Nat) (st : Nat → Nat) (r : jWd ⊕ Nat) : Prop := (∀ W, r = .inl W → v = -1 ∧ rodE O (x + 21) W) ∧ (∀ f, r = .inr f → v = nI (st f) ∧ rodS O (x + 21))
theorem lrC_l {O : jO} {v : Int32} {x : Nat} {st : Nat → Nat} {r : jWd ⊕ Nat} {W : jWd} (e : r = .inl W) (h : v = -1 ∧ rodE O (x + 21) W) : lrC O v x st r := ⟨fun p z => (by rw [e] at z; cases z; exact h), fun f z => (by rw [e] at z; cases z)⟩
theorem lrC_r {O : jO} {v : Int32} {x k : Nat} {st : Nat → Nat} {r : jWd ⊕ Nat} (e : r = .inr k) (h : v = nI (st k) ∧ rodS O (x + 21)) : lrC O v x st r := ⟨fun p z => (by rw [e] at z; cases z), fun f z => (by rw [e] at z; cases z; exact h)⟩
theorem rl_r {S : Type} {ln : S → Nat → (Nat × S) ⊕ Nat} {T : Nat → Int32 × Int32} {n k f : Nat} {W : S} (e : ln W k = .inr f) : rdLines ln T (n + 1) W k = .inr f := by
  unfold rdLines
  rw [e]
theorem rl_e {S : Type} {ln : S → Nat → (Nat × S) ⊕ Nat} {T : Nat → Int32 × Int32} {n k : Nat} {W : S} {d : Nat × S} (e : ln W k = .inl d) (z : (T d.1).1 = -1) : rdLines ln T (n + 1) W k = .inl d.2 := by
  unfold rdLines
  rw [e]
  dsimp only
  rw [if_pos z]
theorem rl_s {S : Type} {ln : S → Nat → (Nat × S) ⊕ Nat} {T : Nat → Int32 × Int32} {n k : Nat} {W : S} {d : Nat × S} (e : ln W k = .inl d) (z : (T d.1).1 = 59) : rdLines ln T (n + 1) W k = rdLines ln T n d.2 (d.1 + 1) := by
  conv => lhs; unfold rdLines
  rw [e]
  dsimp only
  rw [if_neg (by rw [z]; decide), if_pos z]
theorem rl_x {S : Type} {ln : S → Nat → (Nat × S) ⊕ Nat} {T : Nat → Int32 × Int32} {n k : Nat} {W : S} {d : Nat × S} (e : ln W k = .inl d) (z : (T d.1).1 ≠ -1) (z2 : (T d.1).1 ≠ 59) : rdLines ln T (n + 1) W k = .inr d.1 := by
  unfold rdLines
  rw [e]
  dsimp only
  rw [if_neg z, if_neg z2]
theorem E_X4_read_R_22 {n : Nat} {b : Nat → Int32} {L : Nat} {m : Nat} {T : Nat → Int32 × Int32} {st : Nat → Nat} {x : Nat} : ∀ (k : Nat) {a0 : Nat} {x1 : Int32} {h : jH} {q : Int32 × jH} (kk : Nat) (j : Nat) (W : jWd) (K : ck (oc h) (x + 1) b L m T st kk) (S : rrS (oc h) x) (ha : a0 = x + 34) (R : rodE (oc h) (x + 21) W) (KW : wOK W) (J : jlen h (x + 24) = some 8 ∧ jlen h (x + 25) = some 8) (hx : x1 = nI j) (hj : j ≤ 14), F_X4_read_R_22 n k a0 x1 h = some q → lrC (oc q.2) q.1 x st (rdLines (rdPole T) T (14 - j) W kk) ∧ frD x (oc h) (oc q.2) ∧ q.2.1 = h.1
  | 0, a0, x1, h, q, kk, j, W, K, S, ha, R, KW, J, hx, hj, hf => by cases hf
  | k + 1, a0, x1, h, q, kk, j, W, K, S, ha, R, KW, J, hx, hj, hf => by
    replace hf : F_X4_read_R_22_b n (F_X4_read_R_22 n k) a0 x1 h = some q := hf
    unfold F_X4_read_R_22_b at hf
    subst ha
    replace hf := jbind hf
    obtain ⟨v24, e1, hf⟩ := hf
    have r1 := oc_gI e1
    subst r1
    clear e1
    replace hf := jite hf
    rcases hf with ⟨c2, hf⟩ | ⟨c2, hf⟩
    · skip
      replace hf := jbind hf
      obtain ⟨p85, e3, hf⟩ := hf
      have r3 := oc_gR e3
      rw [S.1] at r3
      cases r3
      clear e3
      replace hf := jbind hf
      obtain ⟨v88, e4, hf⟩ := hf
      replace e4 := (jcv_o e4).2
      have r4 := E_X10_start K e4
      cases hf
      -- leaf 0: (v88, h)
      have e14 : oi (oc h) (x + 34) 1 = 14 := by unfold oi; rw [S.2.1]; rfl
      rw [e14, hx, Int32.le_iff_toInt_le, nI_toInt (by omega), show (14 : Int32).toInt = 14 from rfl] at c2
      rw [show 14 - j = 0 by omega]
      exact ⟨lrC_r rfl ⟨r4, R.1⟩, frD_0, rfl⟩
    · skip
      replace hf := jbind hf
      obtain ⟨q31, e5, hf⟩ := hf
      replace e5 := (jcv_o e5).2
      have e14 : oi (oc h) (x + 34) 1 = 14 := by unfold oi; rw [S.2.1]; rfl
      rw [e14, hx, Int32.le_iff_toInt_le, nI_toInt (by omega), show (14 : Int32).toInt = 14 from rfl] at c2
      have ej : 14 - j = 14 - (j + 1) + 1 := by omega
      obtain ⟨r5, f5, z5⟩ := E_X9_readLine K S rfl R KW J e5
      have S5 : rrS (oc q31.2) x := rrS_D S f5
      replace hf := jite hf
      rcases hf with ⟨c6, hf⟩ | ⟨c6, hf⟩
      · skip
        replace hf := jbind hf
        obtain ⟨p38, e7, hf⟩ := hf
        have r7 := oc_gR e7
        rw [S5.1] at r7
        cases r7
        clear e7
        replace hf := jbind hf
        obtain ⟨v41, e8, hf⟩ := hf
        replace e8 := (jcv_o e8).2
        rcases hR : rdPole T W kk with d | f
        · exact absurd (c6.symm.trans (r5.1 d hR).1) (by decide)
        obtain ⟨-, K5, R5⟩ := r5.2 f hR
        have r8 := E_X10_start K5 e8
        cases hf
        -- leaf 10: (v41, q31.2)
        rw [ej]
        exact ⟨lrC_r (rl_r hR) ⟨r8, R5⟩, f5, z5⟩
      · skip
        replace hf := jbind hf
        obtain ⟨p46, e9, hf⟩ := hf
        have r9 := oc_gR e9
        rw [S5.1] at r9
        cases r9
        clear e9
        replace hf := jbind hf
        obtain ⟨v49, e10, hf⟩ := hf
        replace e10 := (jcv_o e10).2
        rcases hR : rdPole T W kk with d | f
        rotate_left
        · exact absurd (r5.2 f hR).1 c6
        obtain ⟨-, K5, R5⟩ := r5.1 d hR
        have ok5 := rdPole_ok KW hR
        have J5 : jlen q31.2 (x + 24) = some 8 ∧ jlen q31.2 (x + 25) = some 8 := ⟨Ln_X9_readLine e5 _ _ J.1, Ln_X9_readLine e5 _ _ J.2⟩
        have r10 := E_X10_kind K5 e10
        replace hf := jite hf
        rcases hf with ⟨c11, hf⟩ | ⟨c11, hf⟩
        · skip
          cases hf
          -- leaf 110: ((- 1 : Int32), q31.2)
          rw [ej]
          rw [r10] at c11
          exact ⟨lrC_l (rl_e hR c11) ⟨rfl, R5⟩, f5, z5⟩
        · skip
          replace hf := jbind hf
          obtain ⟨p59, e12, hf⟩ := hf
          have r12 := oc_gR e12
          rw [S5.1] at r12
          cases r12
          clear e12
          replace hf := jbind hf
          obtain ⟨q64, e13, hf⟩ := hf
          replace e13 := (jcv_o e13).2
          obtain ⟨r13, f13, z13⟩ := E_X10_take K5 (by decide) e13
          have S13 : rrS (oc q64.2) x := rrS_D S5 (frD_5 f13)
          replace hf := jite hf
          rcases hf with ⟨c14, hf⟩ | ⟨c14, hf⟩
          · skip
            replace hf := jbind hf
            obtain ⟨p71, e15, hf⟩ := hf
            have r15 := oc_gR e15
            rw [S13.1] at r15
            cases r15
            clear e15
            replace hf := jbind hf
            obtain ⟨v74, e16, hf⟩ := hf
            replace e16 := (jcv_o e16).2
            rcases r13 with ⟨-, w, -⟩ | ⟨y, w⟩
            · exact absurd (c14.symm.trans w) (by decide)
            have r16 := E_X10_start (by rw [w]; exact K5) e16
            cases hf
            -- leaf 1110: (v74, q64.2)
            rw [r10] at c11
            rw [ej]
            exact ⟨lrC_r (rl_x hR c11 y) ⟨r16, by rw [w]; exact R5.1⟩, frD_tr f5 (frD_5 f13), z13.trans z5⟩
          · skip
            -- leaf 1111: rc22 a0 (x1 + (1 : Int32)) q64.2
            rcases r13 with ⟨y, -, K13⟩ | ⟨-, w⟩
            rotate_left
            · exact absurd (by rw [w]) c14
            rw [hx] at hf
            obtain ⟨a1, a2, a3⟩ := E_X4_read_R_22 k (d.1 + 1) (j + 1) d.2 K13 S13 rfl (rodE_5 R5 f13) ok5.1 ⟨Ln_X10_take e13 _ _ J5.1, Ln_X10_take e13 _ _ J5.2⟩ (nI_1 j) (by omega) hf
            rw [ej, rl_s hR y]
            exact ⟨a1, frD_tr f5 (frD_tr (frD_5 f13) a2), a3.trans (z13.trans z5)⟩
theorem E_X4_read_R {b : Nat → Int32} {L : Nat} {x : Nat} {W : jWd} {n : Nat} {a0 : Nat} {h : jH} {q : Int32 × jH} (C : ctb (oc h) (x + 1) b L) (S : rrS (oc h) x) (ha : a0 = x + 34) (R : rodE (oc h) (x + 21) W) (KW : wOK W) (J : jlen h (x + 24) = some 8 ∧ jlen h (x + 25) = some 8) (hf : F_X4_read_R n a0 h = some q) : ∃ (m : Nat) (T : Nat → Int32 × Int32) (st en : Nat → Nat), tkE b L m T st en ∧ lrC (oc q.2) q.1 x st (if (T 0).1 = -1 then .inl W else rdLines (rdPole T) T 14 W 0) ∧ (∀ a j : Nat, ¬ (a = x + 1 ∧ (j = 4 ∨ j = 5)) → ¬ (x + 3 ≤ a ∧ a ≤ x + 5) → ¬ (x + 21 ≤ a ∧ a ≤ x + 27) → oc q.2 a j = oc h a j) ∧ q.2.1 = h.1 := by
  unfold F_X4_read_R at hf
  subst ha
  replace hf := jbind hf
  obtain ⟨p1, e1, hf⟩ := hf
  have r1 := oc_gR e1
  rw [S.1] at r1
  cases r1
  clear e1
  replace hf := jbind hf
  obtain ⟨h4, e2, hf⟩ := hf
  replace e2 := (jcv_o e2).2
  obtain ⟨m, T, st, en, H, K2, f2, z2⟩ := E_X10_scan C e2
  have S2 : rrS (oc h4) x := ⟨(f2 _ _ (by omega) (by omega)).trans S.1, (f2 _ _ (by omega) (by omega)).trans S.2.1, (f2 _ _ (by omega) (by omega)).trans S.2.2⟩
  have R2 : rodE (oc h4) (x + 21) W := rodE_fr R (fun a k h1 h2 => f2 a k (by omega) (by omega))
  have J2 : jlen h4 (x + 24) = some 8 ∧ jlen h4 (x + 25) = some 8 := ⟨Ln_X10_scan e2 _ _ J.1, Ln_X10_scan e2 _ _ J.2⟩
  replace hf := jbind hf
  obtain ⟨p8, e3, hf⟩ := hf
  have r3 := oc_gR e3
  rw [S2.1] at r3
  cases r3
  clear e3
  replace hf := jbind hf
  obtain ⟨v11, e4, hf⟩ := hf
  replace e4 := (jcv_o e4).2
  have r4 := E_X10_kind K2 e4
  replace hf := jite hf
  rcases hf with ⟨c5, hf⟩ | ⟨c5, hf⟩
  · skip
    cases hf
    -- leaf 0: ((- 1 : Int32), h4)
    rw [r4] at c5
    refine ⟨m, T, st, en, H, ?_, fun a j u1 u2 _ => f2 a j u1 (by omega), z2⟩
    rw [if_pos c5]
    exact lrC_l rfl ⟨rfl, R2⟩
  · skip
    -- leaf 1: F_X4_read_R_22 n n a0 (0 : Int32) h4
    rw [r4] at c5
    obtain ⟨a1, a2, a3⟩ := E_X4_read_R_22 n 0 0 W K2 S2 rfl R2 KW J2 rfl (by omega) hf
    refine ⟨m, T, st, en, H, ?_, fun a j u1 u2 u3 => (a2 a j (by omega) u3).trans (f2 a j u1 (by omega)), a3.trans z2⟩
    rw [if_neg c5]
    exact a1
end
section
/-! a ring of a pole's text, as the reference reads it -/
theorem no_45 {n a0 : Nat} {x1 x2 s0 : Int32} {h : jH} {q : Int32 × jH} (hs : s0 = -1) (hf : F_X12_readRing_45 n a0 x1 x2 s0 h = some q) : q = (0, h) := by
  unfold F_X12_readRing_45 at hf
  rw [if_neg (by rw [hs]; decide)] at hf
  cases hf
  rfl
theorem no_88 {n a0 : Nat} {x1 x2 x3 x4 x5 s0 : Int32} {h : jH} {q : Int32 × jH} (hs : s0 = -1) (hf : F_X12_readRing_88 n a0 x1 x2 x3 x4 x5 s0 h = some q) : q = (0, h) := by
  unfold F_X12_readRing_88 at hf
  rw [if_neg (by rw [hs]; decide)] at hf
  cases hf
  rfl
theorem no_117 {n a0 : Nat} {x1 x2 x3 x4 x5 x6 s0 : Int32} {h : jH} {q : Int32 × jH} (hs : s0 = -1) (hf : F_X12_readRing_117 n a0 x1 x2 x3 x4 x5 x6 s0 h = some q) : q = (0, h) := by
  unfold F_X12_readRing_117 at hf
  rw [if_neg (by rw [hs]; decide)] at hf
  cases hf
  rfl
/-- what the reference answers to a line, r telling what is asked -/
def lnR (O : jO) (v : Int32) (x : Nat) (b : Nat → Int32) (L : Nat) (st : Nat → Nat) (r : (Nat × jWd) ⊕ Nat) : Prop :=
  (∀ p, r = .inl p → v = 1 ∧ rc O x b L st p.1 ∧ wl O x = p.2) ∧ (∀ f, r = .inr f → v = 0 ∧ oi O x 12 = nI (st f) ∧ mS O x)
theorem lnR_l {O : jO} {v : Int32} {x L k : Nat} {b : Nat → Int32} {st : Nat → Nat} {r : (Nat × jWd) ⊕ Nat} {W : jWd} (e : r = .inl (k, W)) (h : v = 1 ∧ rc O x b L st k ∧ wl O x = W) : lnR O v x b L st r :=
  ⟨fun p z => (by rw [e] at z; cases z; exact h), fun f z => (by rw [e] at z; cases z)⟩
theorem lnR_r {O : jO} {v : Int32} {x L k : Nat} {b : Nat → Int32} {st : Nat → Nat} {r : (Nat × jWd) ⊕ Nat} (e : r = .inr k) (h : v = 0 ∧ oi O x 12 = nI (st k) ∧ mS O x) : lnR O v x b L st r :=
  ⟨fun p z => (by rw [e] at z; cases z), fun f z => (by rw [e] at z; cases z; exact h)⟩
/-- a flag as the reference sets it -/
def b01 (v : Int32) : Int32 := if v = 0 then 0 else 1
theorem b01_t {T : Nat → Int32 × Int32} {w : Int32} {k : Nat} : b01 (tkF T w k).2 = (tkF T w k).2 := by
  unfold tkF
  split <;> rfl
theorem T_tkF {O2 : jO} {x L k : Nat} {b : Nat → Int32} {T : Nat → Int32 × Int32} {st : Nat → Nat} {w v : Int32} (d : (v = 1 ∧ (T k).1 = w ∧ rc O2 x b L st (k + 1)) ∨ (v = 0 ∧ (T k).1 ≠ w ∧ rc O2 x b L st k)) : v = (tkF T w k).2 ∧ rc O2 x b L st (tkF T w k).1 := by
  unfold tkF
  rcases d with ⟨y, y2, y3⟩ | ⟨y, y2, y3⟩
  · rw [if_pos y2]; exact ⟨y, y3⟩
  · rw [if_neg y2]; exact ⟨y, y3⟩
theorem E_X12_readRing_171 {c : Nat} {n : Nat} {a0 : Nat} {x1 : Int32} {x6 : Int32} {x7 : Int32} {sa0 : Nat} {s1 : Int32} {s2 : Int32} {h : jH} {q : Int32 × jH} (M : mS (oc h) a0) (hx1 : x1 = nI c) (hc : c < 8) (hs : sa0 = a0 + 1) (h1 : s1 = nI (14 + 8 * c)) (hf : F_X12_readRing_171 n a0 x1 x6 x7 sa0 s1 s2 h = some q) : q.1 = 1 ∧ wl (oc q.2) a0 = upd (upd (upd (wl (oc h) a0) (14 + 8 * c) s2) (15 + 8 * c) x6) (16 + 8 * c) x7 ∧ frM a0 [1] [] (oc h) (oc q.2) ∧ q.2.1 = h.1 := by
  unfold F_X12_readRing_171 at hf
  subst hs
  replace hf := jbind hf
  obtain ⟨h171, e1, hf⟩ := hf
  obtain ⟨o1, z1, y1⟩ := oc_as e1
  rw [jnar0] at o1
  clear e1
  replace hf := jbind hf
  obtain ⟨p173, e2, hf⟩ := hf
  have r2 := oc_gR e2
  rw [o1] at r2
  rw [u2_ne (Or.inl (by omega))] at r2
  rw [M.1] at r2
  cases r2
  clear e2
  replace hf := jbind hf
  obtain ⟨v178, e3, hf⟩ := hf
  have r3 := E_X12_at (i := c) (j := 4) (t := 15 + 8 * c) hx1 rfl (by omega) e3
  subst r3
  replace hf := jbind hf
  obtain ⟨h183, e4, hf⟩ := hf
  obtain ⟨o4, z4, y4⟩ := oc_as e4
  rw [jnar0] at o4
  clear e4
  replace hf := jbind hf
  obtain ⟨p185, e5, hf⟩ := hf
  have r5 := oc_gR e5
  rw [o4] at r5
  rw [u2_ne (Or.inl (by omega))] at r5
  rw [o1] at r5
  rw [u2_ne (Or.inl (by omega))] at r5
  rw [M.1] at r5
  cases r5
  clear e5
  replace hf := jbind hf
  obtain ⟨v190, e6, hf⟩ := hf
  have r6 := E_X12_at (i := c) (j := 5) (t := 16 + 8 * c) hx1 rfl (by omega) e6
  subst r6
  replace hf := jbind hf
  obtain ⟨h195, e7, hf⟩ := hf
  obtain ⟨o7, z7, y7⟩ := oc_as e7
  rw [jnar0] at o7
  clear e7
  cases hf
  -- leaf : ((1 : Int32), h195)
  rw [h1, nI_cl (by omega)] at o1
  rw [nI_cl (by omega)] at o4 o7
  have f : frM a0 [1] [] (oc h) (oc h195) := by rw [o7, o4, o1]; exact frM_tr (frM_c (by decide)) (frM_tr (frM_c (by decide)) (frM_c (by decide)))
  have w : wl (oc h195) a0 = upd (upd (upd (wl (oc h) a0) (14 + 8 * c) s2) (15 + 8 * c) x6) (16 + 8 * c) x7 := by rw [o7, wl_w, o4, wl_w, o1, wl_w]
  exact ⟨rfl, w, f, z7.trans (z4.trans z1)⟩
theorem E_X12_readRing_151 {c : Nat} {n : Nat} {a0 : Nat} {x1 : Int32} {x5 : Int32} {x6 : Int32} {x7 : Int32} {sa0 : Nat} {s1 : Int32} {s2 : Int32} {h : jH} {q : Int32 × jH} (M : mS (oc h) a0) (hx1 : x1 = nI c) (hc : c < 8) (hs : sa0 = a0 + 1) (h1 : s1 = nI (13 + 8 * c)) (hf : F_X12_readRing_151 n a0 x1 x5 x6 x7 sa0 s1 s2 h = some q) : q.1 = 1 ∧ wl (oc q.2) a0 = upd (upd (upd (upd (wl (oc h) a0) (13 + 8 * c) s2) (14 + 8 * c) (b01 x5)) (15 + 8 * c) x6) (16 + 8 * c) x7 ∧ frM a0 [1] [] (oc h) (oc q.2) ∧ q.2.1 = h.1 := by
  unfold F_X12_readRing_151 at hf
  subst hs
  replace hf := jbind hf
  obtain ⟨h151, e1, hf⟩ := hf
  obtain ⟨o1, z1, y1⟩ := oc_as e1
  rw [jnar0] at o1
  clear e1
  replace hf := jbind hf
  obtain ⟨p153, e2, hf⟩ := hf
  have r2 := oc_gR e2
  rw [o1] at r2
  rw [u2_ne (Or.inl (by omega))] at r2
  rw [M.1] at r2
  cases r2
  clear e2
  replace hf := jbind hf
  obtain ⟨v158, e3, hf⟩ := hf
  have r3 := E_X12_at (i := c) (j := 3) (t := 14 + 8 * c) hx1 rfl (by omega) e3
  subst r3
  replace hf := jite hf
  rcases hf with ⟨c4, hf⟩ | ⟨c4, hf⟩
  · skip
    -- leaf 0: F_X12_readRing_171 n a0 x1 x6 x7 p153 v158 (0 : Int32) h151
    rw [h1, nI_cl (by omega)] at o1
    have f1 : frM a0 [1] [] (oc h) (oc h151) := by rw [o1]; exact frM_c (by decide)
    obtain ⟨a1, a2, a3, a4⟩ := E_X12_readRing_171 (c := c) (mS_fr M f1 (by decide) (by decide)) hx1 hc rfl rfl hf
    refine ⟨a1, ?_, frM_tr f1 a3, a4.trans z1⟩
    rw [a2, o1, wl_w, b01, if_pos c4]
  · skip
    -- leaf 1: F_X12_readRing_171 n a0 x1 x6 x7 p153 v158 (1 : Int32) h151
    rw [h1, nI_cl (by omega)] at o1
    have f1 : frM a0 [1] [] (oc h) (oc h151) := by rw [o1]; exact frM_c (by decide)
    obtain ⟨a1, a2, a3, a4⟩ := E_X12_readRing_171 (c := c) (mS_fr M f1 (by decide) (by decide)) hx1 hc rfl rfl hf
    refine ⟨a1, ?_, frM_tr f1 a3, a4.trans z1⟩
    rw [a2, o1, wl_w, b01, if_neg c4]
theorem E_X12_readRing_117 {c : Nat} {W : jWd} {n : Nat} {a0 : Nat} {x1 : Int32} {x2 : Int32} {x3 : Int32} {x4 : Int32} {x5 : Int32} {x6 : Int32} {s0 : Int32} {h : jH} {q : Int32 × jH} (M : mS (oc h) a0) (hW : wl (oc h) a0 = W) (K : wOK W) (ec : cN W = c) (hx1 : x1 = nI c) (hc : c < 8) (h0 : 0 ≤ s0.toInt) (hf : F_X12_readRing_117 n a0 x1 x2 x3 x4 x5 x6 s0 h = some q) : q.1 = 1 ∧ wl (oc q.2) a0 = rgW W x2 x3 (b01 x4) (b01 x5) x6 s0 ∧ frM a0 [1] [] (oc h) (oc q.2) ∧ q.2.1 = h.1 := by
  unfold F_X12_readRing_117 at hf
  have hc8 : cN W < 8 := by omega
  replace hf := jite hf
  rcases hf with ⟨c1, hf⟩ | ⟨c1, hf⟩
  · skip
    replace hf := jbind hf
    obtain ⟨h129, e2, hf⟩ := hf
    replace e2 := (jcv_o e2).2
    obtain ⟨G1, G2, G3⟩ := E_X12_hangs M hW K hc8 e2
    have M2 := mS_fr M G2 (by decide) (by decide)
    replace hf := jbind hf
    obtain ⟨p133, e3, hf⟩ := hf
    have r3 := oc_gR e3
    rw [M2.1] at r3
    cases r3
    clear e3
    replace hf := jbind hf
    obtain ⟨v138, e4, hf⟩ := hf
    have r4 := E_X12_at (i := c) (j := 2) (t := 13 + 8 * c) hx1 rfl (by omega) e4
    subst r4
    replace hf := jite hf
    rcases hf with ⟨c5, hf⟩ | ⟨c5, hf⟩
    · skip
      -- leaf 00: F_X12_readRing_151 n a0 x1 x5 x6 s0 p133 v138 (0 : Int32) h129
      obtain ⟨a1, a2, a3, a4⟩ := E_X12_readRing_151 (c := c) M2 hx1 hc rfl rfl hf
      refine ⟨a1, ?_, frM_tr G2 a3, a4.trans G3⟩
      have eb : b01 x4 = 0 := if_pos c5
      rw [a2, G1, rgW, ec, eb]
    · skip
      -- leaf 01: F_X12_readRing_151 n a0 x1 x5 x6 s0 p133 v138 (1 : Int32) h129
      obtain ⟨a1, a2, a3, a4⟩ := E_X12_readRing_151 (c := c) M2 hx1 hc rfl rfl hf
      refine ⟨a1, ?_, frM_tr G2 a3, a4.trans G3⟩
      have eb : b01 x4 = 1 := if_neg c5
      rw [a2, G1, rgW, ec, eb]
  · skip
    cases hf
    -- leaf 1: ((0 : Int32), h)
    exact absurd (by rw [Int32.le_iff_toInt_le]; exact h0) c1
theorem E_X12_readRing_88 {b : Nat → Int32} {L : Nat} {m : Nat} {T : Nat → Int32 × Int32} {st : Nat → Nat} {en : Nat → Nat} {k : Nat} {c : Nat} {W : jWd} {n : Nat} {a0 : Nat} {x1 : Int32} {x2 : Int32} {x3 : Int32} {x4 : Int32} {x5 : Int32} {s0 : Int32} {h : jH} {q : Int32 × jH} (H : tkE b L m T st en) (R : rc (oc h) a0 b L st k) (hW : wl (oc h) a0 = W) (K : wOK W) (ec : cN W = c) (hx1 : x1 = nI c) (hc : c < 8) (h0 : 0 ≤ s0.toInt) (hf : F_X12_readRing_88 n a0 x1 x2 x3 x4 x5 s0 h = some q) : lnR (oc q.2) q.1 a0 b L st (match rdMore T 4 9 k with | .inr f => .inr f | .inl d => .inl (d.1, rgW W x2 x3 (b01 x4) (b01 x5) s0 d.2)) ∧ frM a0 [1] [10, 12] (oc h) (oc q.2) ∧ q.2.1 = h.1 := by
  unfold F_X12_readRing_88 at hf
  replace hf := jite hf
  rcases hf with ⟨c1, hf⟩ | ⟨c1, hf⟩
  · skip
    replace hf := jbind hf
    obtain ⟨q100, e2, hf⟩ := hf
    replace e2 := (jcv_o e2).2
    obtain ⟨d2, g2, f2, z2⟩ := T_passes (w := 4) H (by decide) R e2
    replace hf := jite hf
    rcases hf with ⟨c3, hf⟩ | ⟨c3, hf⟩
    · skip
      -- leaf 00: F_X12_readRing_117 n a0 x1 x2 x3 x4 x5 s0 (0 : Int32) q100.2
      rcases d2 with ⟨w, -⟩ | ⟨-, y2, R2⟩
      · exact absurd (c3.symm.trans w) (by decide)
      obtain ⟨a1, a2, a3, a4⟩ := E_X12_readRing_117 (c := c) (W := W) (rc_mS R2) (by rw [wl_f f2 (by decide)]; exact hW) K ec hx1 hc (by decide) hf
      have e9 : rdMore T 4 9 k = .inl (k, 0) := by unfold rdMore; exact if_neg y2
      rw [e9]
      exact ⟨lnR_l rfl ⟨a1, rc_fr R2 a3 (by decide) (by decide) (by decide) (by decide) (by decide), a2⟩, frM_tr (frM_le f2 (by decide) (by decide)) (frM_le a3 (by decide) (by decide)), a4.trans z2⟩
    · skip
      replace hf := jbind hf
      obtain ⟨q110, e4, hf⟩ := hf
      replace e4 := (jcv_o e4).2
      rcases d2 with ⟨-, y2, R2⟩ | ⟨w, -⟩
      rotate_left
      · exact absurd w c3
      obtain ⟨d4, M4, g4, f4, z4⟩ := T_number H (by decide) R2 e4
      -- leaf 01: F_X12_readRing_117 n a0 x1 x2 x3 x4 x5 s0 q110.1 q110.2
      have f24 := frM_tr f2 f4
      rcases d4 with ⟨v4, y4, R4⟩ | ⟨v4, y4⟩
      · have b4 := y4.2.1
        rw [Int32.le_iff_toInt_le, ← v4] at b4
        obtain ⟨a1, a2, a3, a4⟩ := E_X12_readRing_117 (c := c) (W := W) (rc_mS R4) (by rw [wl_f f24 (by decide)]; exact hW) K ec hx1 hc b4 hf
        have e9 : rdMore T 4 9 k = .inl (k + 2, (T (k + 1)).2) := by unfold rdMore; rw [show (T k).1 = 4 from y2, if_pos rfl, if_pos y4]
        rw [e9]
        rw [v4] at a2
        exact ⟨lnR_l rfl ⟨a1, rc_fr R4 a3 (by decide) (by decide) (by decide) (by decide) (by decide), a2⟩, frM_tr (frM_le f24 (by decide) (by decide)) (frM_le a3 (by decide) (by decide)), a4.trans (z4.trans z2)⟩
      · have e8 := no_117 v4 hf
        have e9 : rdMore T 4 9 k = .inr (k + 1) := by unfold rdMore; rw [show (T k).1 = 4 from y2, if_pos rfl, if_neg y4]
        rw [e9, e8]
        exact ⟨lnR_r rfl ⟨rfl, g4, M4⟩, (frM_le f24 (by decide) (by decide)), z4.trans z2⟩
  · skip
    cases hf
    -- leaf 1: ((0 : Int32), h)
    exact absurd (by rw [Int32.le_iff_toInt_le]; exact h0) c1
theorem E_X12_readRing_45 {b : Nat → Int32} {L : Nat} {m : Nat} {T : Nat → Int32 × Int32} {st : Nat → Nat} {en : Nat → Nat} {k : Nat} {c : Nat} {W : jWd} {n : Nat} {a0 : Nat} {x1 : Int32} {x2 : Int32} {s0 : Int32} {h : jH} {q : Int32 × jH} (H : tkE b L m T st en) (R : rc (oc h) a0 b L st k) (hW : wl (oc h) a0 = W) (K : wOK W) (ec : cN W = c) (hx1 : x1 = nI c) (hc : c < 8) (h0 : 0 ≤ s0.toInt) (hf : F_X12_readRing_45 n a0 x1 x2 s0 h = some q) : lnR (oc q.2) q.1 a0 b L st (match rdMore T 3 99 (tkF T 7 (tkF T 8 k).1).1 with | .inr f => .inr f | .inl c2 => match rdMore T 4 9 c2.1 with | .inr f => .inr f | .inl d => .inl (d.1, rgW W x2 s0 (tkF T 8 k).2 (tkF T 7 (tkF T 8 k).1).2 c2.2 d.2)) ∧ frM a0 [1] [10, 12] (oc h) (oc q.2) ∧ q.2.1 = h.1 := by
  unfold F_X12_readRing_45 at hf
  replace hf := jite hf
  rcases hf with ⟨c1, hf⟩ | ⟨c1, hf⟩
  · skip
    replace hf := jbind hf
    obtain ⟨q55, e2, hf⟩ := hf
    replace e2 := (jcv_o e2).2
    obtain ⟨d2, g2, f2, z2⟩ := T_passes (w := 8) H (by decide) R e2
    obtain ⟨v2, R2⟩ := T_tkF (w := 8) d2
    replace hf := jbind hf
    obtain ⟨q63, e3, hf⟩ := hf
    replace e3 := (jcv_o e3).2
    obtain ⟨d3, g3, f3, z3⟩ := T_passes (w := 7) H (by decide) R2 e3
    obtain ⟨v3, R3⟩ := T_tkF (w := 7) d3
    replace hf := jbind hf
    obtain ⟨q71, e4, hf⟩ := hf
    replace e4 := (jcv_o e4).2
    obtain ⟨d4, g4, f4, z4⟩ := T_passes (w := 3) H (by decide) R3 e4
    have f24 := frM_tr f2 (frM_tr f3 f4)
    replace hf := jite hf
    rcases hf with ⟨c5, hf⟩ | ⟨c5, hf⟩
    · skip
      -- leaf 00: F_X12_readRing_88 n a0 x1 x2 s0 q55.1 q63.1 (0 : Int32) q71.2
      rcases d4 with ⟨w, -⟩ | ⟨-, y4, R4⟩
      · exact absurd (c5.symm.trans w) (by decide)
      obtain ⟨a1, a2, a3⟩ := E_X12_readRing_88 (c := c) (W := W) H R4 (by rw [wl_f f24 (by decide)]; exact hW) K ec hx1 hc (by decide) hf
      have e9 : rdMore T 3 99 (tkF T 7 (tkF T 8 k).1).1 = .inl ((tkF T 7 (tkF T 8 k).1).1, 0) := by unfold rdMore; exact if_neg y4
      rw [e9]
      rw [v2, v3, b01_t, b01_t] at a1
      exact ⟨a1, frM_tr (frM_le f24 (by decide) (by decide)) a2, a3.trans (z4.trans (z3.trans z2))⟩
    · skip
      replace hf := jbind hf
      obtain ⟨q81, e6, hf⟩ := hf
      replace e6 := (jcv_o e6).2
      rcases d4 with ⟨-, y4, R4⟩ | ⟨w, -⟩
      rotate_left
      · exact absurd w c5
      obtain ⟨d6, M6, g6, f6, z6⟩ := T_number H (by decide) R4 e6
      -- leaf 01: F_X12_readRing_88 n a0 x1 x2 s0 q55.1 q63.1 q81.1 q81.2
      have f26 := frM_tr f24 f6
      rcases d6 with ⟨v6, y6, R6⟩ | ⟨v6, y6⟩
      · have b6 := y6.2.1
        rw [Int32.le_iff_toInt_le, ← v6] at b6
        obtain ⟨a1, a2, a3⟩ := E_X12_readRing_88 (c := c) (W := W) H R6 (by rw [wl_f f26 (by decide)]; exact hW) K ec hx1 hc b6 hf
        have e9 : rdMore T 3 99 (tkF T 7 (tkF T 8 k).1).1 = .inl ((tkF T 7 (tkF T 8 k).1).1 + 2, (T ((tkF T 7 (tkF T 8 k).1).1 + 1)).2) := by unfold rdMore; rw [show (T (tkF T 7 (tkF T 8 k).1).1).1 = 3 from y4, if_pos rfl, if_pos y6]
        rw [e9]
        rw [v2, v3, v6, b01_t, b01_t] at a1
        exact ⟨a1, frM_tr (frM_le f26 (by decide) (by decide)) a2, a3.trans (z6.trans (z4.trans (z3.trans z2)))⟩
      · have e8 := no_88 v6 hf
        have e9 : rdMore T 3 99 (tkF T 7 (tkF T 8 k).1).1 = .inr ((tkF T 7 (tkF T 8 k).1).1 + 1) := by unfold rdMore; rw [show (T (tkF T 7 (tkF T 8 k).1).1).1 = 3 from y4, if_pos rfl, if_neg y6]
        rw [e9, e8]
        exact ⟨lnR_r rfl ⟨rfl, g6, M6⟩, (frM_le f26 (by decide) (by decide)), z6.trans (z4.trans (z3.trans z2))⟩
  · skip
    cases hf
    -- leaf 1: ((0 : Int32), h)
    exact absurd (by rw [Int32.le_iff_toInt_le]; exact h0) c1
theorem E_X12_readRing {b : Nat → Int32} {L : Nat} {m : Nat} {T : Nat → Int32 × Int32} {st : Nat → Nat} {en : Nat → Nat} {k : Nat} {W : jWd} {n : Nat} {a0 : Nat} {h : jH} {q : Int32 × jH} (H : tkE b L m T st en) (R : rw2 (oc h) a0 b L st k) (hW : wl (oc h) a0 = W) (K : wOK W) (eT : (T k).1 = nI 0) (hf : F_X12_readRing n a0 h = some q) : lnR (oc q.2) q.1 a0 b L st (if W 0 = 8 then .inr k else rdRing T W (k + 1)) ∧ frM a0 [1] [10, 12] (oc h) (oc q.2) ∧ q.2.1 = h.1 := by
  unfold F_X12_readRing at hf
  have M := rw_mS R
  replace hf := jbind hf
  obtain ⟨v1, e1, hf⟩ := hf
  replace e1 := (jcv_o e1).2
  have r1 := E_X12_rings M e1
  subst r1
  replace hf := jite hf
  rcases hf with ⟨c2, hf⟩ | ⟨c2, hf⟩
  · skip
    cases hf
    -- leaf 0: ((0 : Int32), h)
    rw [hW] at c2
    rw [if_pos c2]
    obtain ⟨e, -, -, g⟩ := R
    exact ⟨lnR_r rfl ⟨rfl, g, M⟩, frM_rfl, rfl⟩
  · skip
    replace hf := jbind hf
    obtain ⟨v17, e3, hf⟩ := hf
    replace e3 := (jcv_o e3).2
    have n8 : ¬ W 0 = 8 := fun z => c2 (by rw [hW]; exact z)
    have hc8 := cN_lt K n8
    have k0 := K.1
    have ec : (cN W : Int) = (W 0).toInt := by unfold cN; omega
    have e0 : wl (oc h) a0 0 = nI (cN W) := by rw [hW]; exact nI_k ec.symm
    have R1 := rw_n H (w := 0) (by decide) R eT
    have l31 := leW_0 K
    have r3 := E_X12_leastPlace M hW K e3
    subst r3
    replace hf := jbind hf
    obtain ⟨v21, e4, hf⟩ := hf
    replace e4 := (jcv_o e4).2
    have r4 := E_X12_mostPlace M hW K e4
    subst r4
    replace hf := jbind hf
    obtain ⟨q24, e5, hf⟩ := hf
    replace e5 := (jcv_o e5).2
    obtain ⟨d5, M5, f5, z5⟩ := T_after (w := 17) H (by decide) (by omega) R1 e5
    replace hf := jite hf
    rcases hf with ⟨c6, hf⟩ | ⟨c6, hf⟩
    · skip
      replace hf := jbind hf
      obtain ⟨q42, e7, hf⟩ := hf
      replace e7 := (jcv_o e7).2
      have q5 : 0 ≤ q24.1.toInt := by rw [Int32.le_iff_toInt_le] at c6; exact c6
      have lm1 : (-1 : Int32).toInt = -1 := rfl
      rcases d5 with ⟨t5, v5, y5, R5⟩ | ⟨-, w, -⟩ | ⟨-, -, w, -⟩
      rotate_left
      · rw [w] at q5; omega
      · rw [w] at q5; omega
      obtain ⟨d7, M7, f7, z7⟩ := T_after (w := 18) H (by decide) (by decide) R5 e7
      have f57 := frM_tr f5 f7
      -- leaf 10: F_X12_readRing_45 n a0 v1 q24.1 q42.1 q42.2
      rw [if_neg n8]
      unfold rdRing
      rw [show (T (k + 1)).1 = 17 from t5, if_pos rfl, if_pos y5]
      rcases d7 with ⟨t7, v7, y7, R7⟩ | ⟨t7, w, g7⟩ | ⟨t7, y7, w, g7⟩
      · have b7 := y7.2.1
        rw [Int32.le_iff_toInt_le, ← v7, show (1 : Int32).toInt = 1 from rfl] at b7
        obtain ⟨a1, a2, a3⟩ := E_X12_readRing_45 (c := cN W) (W := W) H R7 (by rw [wl_f f57 (by decide)]; exact hW) K rfl e0 hc8 (by omega) hf
        rw [v5, v7] at a1
        rw [show (T (k + 1 + 2)).1 = 18 from t7, if_pos rfl, if_pos y7]
        exact ⟨a1, frM_tr (frM_le f57 (by decide) (by decide)) a2, a3.trans (z7.trans z5)⟩
      · rw [no_45 w hf, if_neg (show ¬ (T (k + 1 + 2)).1 = 18 from t7)]
        exact ⟨lnR_r rfl ⟨rfl, g7, M7⟩, (frM_le f57 (by decide) (by decide)), z7.trans z5⟩
      · rw [no_45 w hf, show (T (k + 1 + 2)).1 = 18 from t7, if_pos rfl, if_neg y7]
        exact ⟨lnR_r rfl ⟨rfl, g7, M7⟩, (frM_le f57 (by decide) (by decide)), z7.trans z5⟩
    · skip
      -- leaf 11: F_X12_readRing_45 n a0 v1 q24.1 (- 1 : Int32) q24.2
      rw [if_neg n8]
      unfold rdRing
      rw [no_45 rfl hf]
      rcases d5 with ⟨t5, v5, y5, R5⟩ | ⟨t5, w, g5⟩ | ⟨t5, y5, w, g5⟩
      · exfalso
        have := y5.2.1
        rw [Int32.le_iff_toInt_le, ← v5] at this
        exact c6 (by rw [Int32.le_iff_toInt_le]; have l0 : (0 : Int32).toInt = 0 := rfl; omega)
      · rw [if_neg (show ¬ (T (k + 1)).1 = 17 from t5)]
        exact ⟨lnR_r rfl ⟨rfl, g5, M5⟩, (frM_le f5 (by decide) (by decide)), z5⟩
      · rw [show (T (k + 1)).1 = 17 from t5, if_pos rfl, if_neg y5]
        exact ⟨lnR_r rfl ⟨rfl, g5, M5⟩, (frM_le f5 (by decide) (by decide)), z5⟩
end
section
/-! a line of a pole's text, the reference -/
theorem E_X12_readNumber {b : Nat → Int32} {L : Nat} {m : Nat} {T : Nat → Int32 × Int32} {st : Nat → Nat} {en : Nat → Nat} {k : Nat} {W : jWd} {i : Nat} {n : Nat} {a0 : Nat} {x1 : Int32} {x2 : Int32} {x3 : Int32} {h : jH} {q : Int32 × jH} (H : tkE b L m T st en) (R : rc (oc h) a0 b L st k) (hW : wl (oc h) a0 = W) (hi : i < 11) (h1 : x1 = nI i) (h2 : 0 ≤ x2.toInt) (h3 : x3.toInt ≤ 999) (hf : F_X12_readNumber n a0 x1 x2 x3 h = some q) : lnR (oc q.2) q.1 a0 b L st (rdNum T k x2 x3 (fun v => upd W i v)) ∧ frM a0 [1] [10, 12] (oc h) (oc q.2) ∧ q.2.1 = h.1 := by
  unfold F_X12_readNumber at hf
  replace hf := jbind hf
  obtain ⟨q3, e1, hf⟩ := hf
  replace e1 := (jcv_o e1).2
  obtain ⟨d1, M1, g1, f1, z1⟩ := T_number H h3 R e1
  replace hf := jbind hf
  obtain ⟨p9, e2, hf⟩ := hf
  have r2 := oc_gR e2
  rw [M1.1] at r2
  cases r2
  clear e2
  replace hf := jite hf
  rcases hf with ⟨c3, hf⟩ | ⟨c3, hf⟩
  · skip
    replace hf := jbind hf
    obtain ⟨h29, e4, hf⟩ := hf
    obtain ⟨o4, z4, y4⟩ := oc_as e4
    rw [jnar0] at o4
    clear e4
    replace hf := jite hf
    rcases hf with ⟨c5, hf⟩ | ⟨c5, hf⟩
    · skip
      cases hf
      -- leaf 00: ((0 : Int32), h29)
      rw [Int32.le_iff_toInt_le] at c3
      rw [Int32.lt_iff_toInt_lt] at c5
      omega
    · skip
      cases hf
      -- leaf 01: ((1 : Int32), h29)
      rcases d1 with ⟨v, y, R9⟩ | ⟨v, y⟩
      rotate_left
      · rw [v] at c3
        exact absurd c3 (by decide)
      rw [h1, nI_cl (by omega), v] at o4
      have f4 : frM a0 [1] [] (oc q3.2) (oc h29) := by rw [o4]; exact frM_c (by decide)
      have w4 : wl (oc h29) a0 = upd W i (T k).2 := by rw [o4, wl_w, wl_f f1 (by decide), hW]
      exact ⟨lnR_l (if_pos y) ⟨rfl, rc_fr R9 f4 (by decide) (by decide) (by decide) (by decide) (by decide), w4⟩, frM_tr (frM_le f1 (by decide) (by decide)) (frM_le f4 (by decide) (by decide)), z4.trans z1⟩
  · skip
    replace hf := jbind hf
    obtain ⟨p19, e6, hf⟩ := hf
    have r6 := oc_gR e6
    rw [M1.1] at r6
    cases r6
    clear e6
    replace hf := jbind hf
    obtain ⟨v23, e7, hf⟩ := hf
    obtain ⟨r7, y7⟩ := oc_al e7
    subst r7
    clear e7
    replace hf := jbind hf
    obtain ⟨h29, e8, hf⟩ := hf
    obtain ⟨o8, z8, y8⟩ := oc_as e8
    rw [jnar0] at o8
    clear e8
    replace hf := jite hf
    rcases hf with ⟨c9, hf⟩ | ⟨c9, hf⟩
    · skip
      cases hf
      -- leaf 10: ((0 : Int32), h29)
      have e3 : oi (oc h29) a0 12 = oi (oc q3.2) a0 12 := by rw [o8, oi_ne (Or.inl (by omega))]
      have f8 : frM a0 [1] [] (oc q3.2) (oc h29) := by rw [o8]; exact frM_c (by decide)
      rcases d1 with ⟨v, y, R9⟩ | ⟨v, y⟩
      · exfalso
        have := y.2.1
        rw [Int32.le_iff_toInt_le, ← v] at this
        rw [Int32.lt_iff_toInt_lt] at c9
        have l0 : (0 : Int32).toInt = 0 := rfl
        omega
      exact ⟨lnR_r (if_neg y) ⟨rfl, e3.trans g1, mS_fr M1 f8 (by decide) (by decide)⟩, frM_tr (frM_le f1 (by decide) (by decide)) (frM_le f8 (by decide) (by decide)), z8.trans z1⟩
    · skip
      cases hf
      -- leaf 11: ((1 : Int32), h29)
      rw [Int32.le_iff_toInt_le] at c3
      rw [Int32.lt_iff_toInt_lt] at c9
      omega
theorem E_X12_readCaught {b : Nat → Int32} {L : Nat} {m : Nat} {T : Nat → Int32 × Int32} {st : Nat → Nat} {en : Nat → Nat} {k : Nat} {W : jWd} {n : Nat} {a0 : Nat} {h : jH} {q : Int32 × jH} (H : tkE b L m T st en) (R : rc (oc h) a0 b L st k) (hW : wl (oc h) a0 = W) (K : wOK W) (hf : F_X12_readCaught n a0 h = some q) : lnR (oc q.2) q.1 a0 b L st (rdNum T k 0 (W 0 - 2) (fun v => upd W (18 + 8 * v.toInt.toNat) 1)) ∧ frM a0 [1] [10, 12] (oc h) (oc q.2) ∧ q.2.1 = h.1 := by
  unfold F_X12_readCaught at hf
  have k0 := K.1
  have M := rc_mS R
  replace hf := jbind hf
  obtain ⟨v3, e1, hf⟩ := hf
  replace e1 := (jcv_o e1).2
  have r1 := E_X12_lastRing M e1
  rw [show wl (oc h) a0 0 = W 0 by rw [hW]] at r1
  subst r1
  have l1 : (1 : Int32).toInt = 1 := rfl
  have l2 : (2 : Int32).toInt = 2 := rfl
  have e2a : (W 0 - 2).toInt = (W 0).toInt - 2 := by rw [jsub (by omega) (by omega)]; rfl
  have e1a : (W 0 - 1).toInt = (W 0).toInt - 1 := by rw [jsub (by omega) (by omega)]; rfl
  have es : (W 0 - 1) - 1 = W 0 - 2 := Int32.toInt_inj.mp (by rw [e2a, jsub (by omega) (by omega), e1a]; omega)
  replace hf := jbind hf
  obtain ⟨q8, e2, hf⟩ := hf
  replace e2 := (jcv_o e2).2
  rw [es] at e2
  obtain ⟨d2, M2, g2, f2, z2⟩ := T_number H (by omega) R e2
  replace hf := jite hf
  rcases hf with ⟨c3, hf⟩ | ⟨c3, hf⟩
  · skip
    replace hf := jbind hf
    obtain ⟨p19, e4, hf⟩ := hf
    have r4 := oc_gR e4
    rw [M2.1] at r4
    cases r4
    clear e4
    replace hf := jbind hf
    obtain ⟨v25, e5, hf⟩ := hf
    rcases d2 with ⟨v, y, R9⟩ | ⟨v, y⟩
    rotate_left
    · rw [v] at c3
      exact absurd c3 (by decide)
    have y2 := y.2.2
    have y1 := y.2.1
    rw [Int32.le_iff_toInt_le] at y1 y2
    have r5 := E_X12_at (i := q8.1.toInt.toNat) (j := 7) (t := 18 + 8 * q8.1.toInt.toNat) (nI_k (by rw [v]; have l0 : (0 : Int32).toInt = 0 := rfl; omega)) rfl (by omega) e5
    subst r5
    replace hf := jbind hf
    obtain ⟨h29, e6, hf⟩ := hf
    obtain ⟨o6, z6, y6⟩ := oc_as e6
    rw [jnar0] at o6
    clear e6
    cases hf
    -- leaf 0: ((1 : Int32), h29)
    rw [nI_cl (by rw [v]; omega), v] at o6
    have f4 : frM a0 [1] [] (oc q8.2) (oc h29) := by rw [o6]; exact frM_c (by decide)
    have w4 : wl (oc h29) a0 = upd W (18 + 8 * (T k).2.toInt.toNat) 1 := by rw [o6, wl_w, wl_f f2 (by decide), hW]
    exact ⟨lnR_l (if_pos y) ⟨rfl, rc_fr R9 f4 (by decide) (by decide) (by decide) (by decide) (by decide), w4⟩, frM_tr (frM_le f2 (by decide) (by decide)) (frM_le f4 (by decide) (by decide)), z6.trans z2⟩
  · skip
    cases hf
    -- leaf 1: ((0 : Int32), q8.2)
    rcases d2 with ⟨v, y, R9⟩ | ⟨v, y⟩
    · exfalso
      have := y.2.1
      rw [Int32.le_iff_toInt_le, ← v] at this
      rw [Int32.le_iff_toInt_le] at c3
      have l0 : (0 : Int32).toInt = 0 := rfl
      omega
    exact ⟨lnR_r (if_neg y) ⟨rfl, g2, M2⟩, (frM_le f2 (by decide) (by decide)), z2⟩
theorem E_X12_readChair {b : Nat → Int32} {L : Nat} {m : Nat} {T : Nat → Int32 × Int32} {st : Nat → Nat} {en : Nat → Nat} {k : Nat} {W : jWd} {n : Nat} {a0 : Nat} {h : jH} {q : Int32 × jH} (H : tkE b L m T st en) (R : rc (oc h) a0 b L st k) (hW : wl (oc h) a0 = W) (hf : F_X12_readChair n a0 h = some q) : lnR (oc q.2) q.1 a0 b L st (rdNum T k 0 31 (fun v => upd W 7 (chV (W 7) v.toInt.toNat 1))) ∧ frM a0 [1] [10, 12] (oc h) (oc q.2) ∧ q.2.1 = h.1 := by
  unfold F_X12_readChair at hf
  replace hf := jbind hf
  obtain ⟨q4, e1, hf⟩ := hf
  replace e1 := (jcv_o e1).2
  obtain ⟨d1, M1, g1, f1, z1⟩ := T_number H (by decide) R e1
  replace hf := jite hf
  rcases hf with ⟨c2, hf⟩ | ⟨c2, hf⟩
  · skip
    replace hf := jbind hf
    obtain ⟨p15, e3, hf⟩ := hf
    have r3 := oc_gR e3
    rw [M1.1] at r3
    cases r3
    clear e3
    replace hf := jbind hf
    obtain ⟨v21, e4, hf⟩ := hf
    obtain ⟨r4, y4⟩ := oc_al e4
    rw [show (7 : Int32).toNatClampNeg = 7 from rfl] at r4
    subst r4
    clear e4
    replace hf := jbind hf
    obtain ⟨h26, e5, hf⟩ := hf
    obtain ⟨o5, z5, y5⟩ := oc_as e5
    rw [jnar0] at o5
    rw [show (7 : Int32).toNatClampNeg = 7 from rfl] at o5
    clear e5
    cases hf
    -- leaf 0: ((1 : Int32), h26)
    rcases d1 with ⟨v, y, R9⟩ | ⟨v, y⟩
    rotate_left
    · rw [v] at c2
      exact absurd c2 (by decide)
    have y2 := y.2.2
    have y1 := y.2.1
    rw [Int32.le_iff_toInt_le] at y1 y2
    have l31 : (31 : Int32).toInt = 31 := rfl
    have l0 : (0 : Int32).toInt = 0 := rfl
    have en : q4.1 = nI q4.1.toInt.toNat := nI_k (by rw [v]; omega)
    have f4 : frM a0 [1] [] (oc q4.2) (oc h26) := by rw [o5]; exact frM_c (by decide)
    have e7 : oi (oc q4.2) (a0 + 1) 7 = W 7 := by rw [← hW, ← wl_f f1 (by decide)]
    have w4 : wl (oc h26) a0 = upd W 7 (chV (W 7) (T k).2.toInt.toNat 1) := by
      rw [o5, wl_w, wl_f f1 (by decide), hW]
      congr 1
      show oi (oc q4.2) (a0 + 1) 7 ||| _ = _
      rw [e7, en, v]
      rfl
    exact ⟨lnR_l (if_pos y) ⟨rfl, rc_fr R9 f4 (by decide) (by decide) (by decide) (by decide) (by decide), w4⟩, frM_tr (frM_le f1 (by decide) (by decide)) (frM_le f4 (by decide) (by decide)), z5.trans z1⟩
  · skip
    cases hf
    -- leaf 1: ((0 : Int32), q4.2)
    rcases d1 with ⟨v, y, R9⟩ | ⟨v, y⟩
    · exfalso
      have := y.2.1
      rw [Int32.le_iff_toInt_le, ← v] at this
      rw [Int32.le_iff_toInt_le] at c2
      have l0 : (0 : Int32).toInt = 0 := rfl
      omega
    exact ⟨lnR_r (if_neg y) ⟨rfl, g1, M1⟩, (frM_le f1 (by decide) (by decide)), z1⟩
theorem E_X12_readPoleLine {b : Nat → Int32} {L : Nat} {m : Nat} {T : Nat → Int32 × Int32} {st : Nat → Nat} {en : Nat → Nat} {k : Nat} {W : jWd} {n : Nat} {a0 : Nat} {h : jH} {q : Int32 × jH} (H : tkE b L m T st en) (R : rw2 (oc h) a0 b L st k) (hW : wl (oc h) a0 = W) (K : wOK W) (hf : F_X12_readPoleLine n a0 h = some q) : lnR (oc q.2) q.1 a0 b L st (rdPole T W k) ∧ frM a0 [1] [10, 12] (oc h) (oc q.2) ∧ q.2.1 = h.1 := by
  unfold F_X12_readPoleLine at hf
  replace hf := jbind hf
  obtain ⟨v3, e1, hf⟩ := hf
  replace e1 := (jcv_o e1).2
  have r1 := T_isWord (w := 0) H (by decide) R e1
  replace hf := jite hf
  rcases hf with ⟨c2, hf⟩ | ⟨c2, hf⟩
  · skip
    replace hf := jbind hf
    obtain ⟨v17, e3, hf⟩ := hf
    replace e3 := (jcv_o e3).2
    have r3 := T_isWord (w := 19) H (by decide) R e3
    replace hf := jite hf
    rcases hf with ⟨c4, hf⟩ | ⟨c4, hf⟩
    · skip
      replace hf := jbind hf
      obtain ⟨v31, e5, hf⟩ := hf
      replace e5 := (jcv_o e5).2
      have r5 := T_isWord (w := 20) H (by decide) R e5
      replace hf := jite hf
      rcases hf with ⟨c6, hf⟩ | ⟨c6, hf⟩
      · skip
        replace hf := jbind hf
        obtain ⟨v45, e7, hf⟩ := hf
        replace e7 := (jcv_o e7).2
        have r7 := T_isWord (w := 21) H (by decide) R e7
        replace hf := jite hf
        rcases hf with ⟨c8, hf⟩ | ⟨c8, hf⟩
        · skip
          replace hf := jbind hf
          obtain ⟨v63, e9, hf⟩ := hf
          replace e9 := (jcv_o e9).2
          have r9 := T_isWord (w := 22) H (by decide) R e9
          replace hf := jite hf
          rcases hf with ⟨c10, hf⟩ | ⟨c10, hf⟩
          · skip
            replace hf := jbind hf
            obtain ⟨v82, e11, hf⟩ := hf
            replace e11 := (jcv_o e11).2
            have r11 := T_isWord (w := 5) H (by decide) R e11
            replace hf := jite hf
            rcases hf with ⟨c12, hf⟩ | ⟨c12, hf⟩
            · skip
              replace hf := jbind hf
              obtain ⟨v100, e13, hf⟩ := hf
              replace e13 := (jcv_o e13).2
              have r13 := T_isWord (w := 6) H (by decide) R e13
              replace hf := jite hf
              rcases hf with ⟨c14, hf⟩ | ⟨c14, hf⟩
              · skip
                cases hf
                -- leaf 0000000: ((0 : Int32), h)
                have n : ∀ w : Nat, w = 0 ∨ w = 19 ∨ w = 20 ∨ w = 21 ∨ w = 22 ∨ w = 5 ∨ w = 6 → (T k).1 ≠ nI w := fun w hw z => by
                  rcases hw with y | y | y | y | y | y | y <;> subst y
                  · exact absurd ((r1.2.mpr z).symm.trans c2) (by decide)
                  · exact absurd ((r3.2.mpr z).symm.trans c4) (by decide)
                  · exact absurd ((r5.2.mpr z).symm.trans c6) (by decide)
                  · exact absurd ((r7.2.mpr z).symm.trans c8) (by decide)
                  · exact absurd ((r9.2.mpr z).symm.trans c10) (by decide)
                  · exact absurd ((r11.2.mpr z).symm.trans c12) (by decide)
                  · exact absurd ((r13.2.mpr z).symm.trans c14) (by decide)
                obtain ⟨e, Rb, -, g⟩ := R
                exact ⟨lnR_r (rdPole_x (n 0 (by decide)) (fun z => by
                  rcases z with y | y | y | y | y | y
                  · exact n 19 (by decide) y
                  · exact n 20 (by decide) y
                  · exact n 21 (by decide) y
                  · exact n 22 (by decide) y
                  · exact n 5 (by decide) y
                  · exact n 6 (by decide) y
                  )) ⟨rfl, g, Rb.1⟩, frM_rfl, rfl⟩
              · skip
                replace hf := jbind hf
                obtain ⟨q112, e15, hf⟩ := hf
                replace e15 := (jcv_o e15).2
                have eT : (T k).1 = nI 6 := r13.2.mp (r13.1.resolve_left c14)
                have R1 := rw_n H (by decide) R eT
                obtain ⟨d15, f15, z15⟩ := E_X12_readNumber (i := 4) H R1 hW (by decide) rfl (by decide) (by decide) e15
                replace hf := jite hf
                rcases hf with ⟨c16, hf⟩ | ⟨c16, hf⟩
                · skip
                  cases hf
                  -- leaf 00000010: ((0 : Int32), q112.2)
                  rw [rdPole_n (w := 6) eT (Or.inr (Or.inr (Or.inr (Or.inr (Or.inr rfl)))))]
                  rw [c16] at d15
                  exact ⟨d15, f15, z15⟩
                · skip
                  cases hf
                  -- leaf 00000011: ((1 : Int32), q112.2)
                  rw [rdPole_n (w := 6) eT (Or.inr (Or.inr (Or.inr (Or.inr (Or.inr rfl)))))]
                  have : q112.1 = 1 := by
                    rcases hR : rdNum T (k + 1) 0 999 (fun v => upd W 4 v) with p | f
                    · exact (d15.1 p hR).1
                    · exact absurd (d15.2 f hR).1 c16
                  rw [this] at d15
                  exact ⟨d15, f15, z15⟩
            · skip
              replace hf := jbind hf
              obtain ⟨q93, e17, hf⟩ := hf
              replace e17 := (jcv_o e17).2
              have eT : (T k).1 = nI 5 := r11.2.mp (r11.1.resolve_left c12)
              have R1 := rw_n H (by decide) R eT
              obtain ⟨d17, f17, z17⟩ := E_X12_readNumber (i := 3) H R1 hW (by decide) rfl (by decide) (by decide) e17
              replace hf := jite hf
              rcases hf with ⟨c18, hf⟩ | ⟨c18, hf⟩
              · skip
                cases hf
                -- leaf 0000010: (q93.1, q93.2)
                rw [rdPole_n (w := 5) eT (Or.inr (Or.inr (Or.inr (Or.inr (Or.inl rfl)))))]
                exact ⟨d17, f17, z17⟩
              · skip
                cases hf
          · skip
            replace hf := jbind hf
            obtain ⟨q75, e19, hf⟩ := hf
            replace e19 := (jcv_o e19).2
            have eT : (T k).1 = nI 22 := r9.2.mp (r9.1.resolve_left c10)
            have R1 := rw_n H (by decide) R eT
            obtain ⟨d19, f19, z19⟩ := E_X12_readNumber (i := 6) H R1 hW (by decide) rfl (by decide) (by decide) e19
            replace hf := jite hf
            rcases hf with ⟨c20, hf⟩ | ⟨c20, hf⟩
            · skip
              cases hf
              -- leaf 000010: (q75.1, q75.2)
              rw [rdPole_n (w := 22) eT (Or.inr (Or.inr (Or.inr (Or.inl rfl))))]
              exact ⟨d19, f19, z19⟩
            · skip
              cases hf
        · skip
          replace hf := jbind hf
          obtain ⟨q56, e21, hf⟩ := hf
          replace e21 := (jcv_o e21).2
          have eT : (T k).1 = nI 21 := r7.2.mp (r7.1.resolve_left c8)
          have R1 := rw_n H (by decide) R eT
          obtain ⟨d21, f21, z21⟩ := E_X12_readNumber (i := 5) H R1 hW (by decide) rfl (by decide) (by decide) e21
          replace hf := jite hf
          rcases hf with ⟨c22, hf⟩ | ⟨c22, hf⟩
          · skip
            cases hf
            -- leaf 00010: (q56.1, q56.2)
            rw [rdPole_n (w := 21) eT (Or.inr (Or.inr (Or.inl rfl)))]
            exact ⟨d21, f21, z21⟩
          · skip
            cases hf
      · skip
        replace hf := jbind hf
        obtain ⟨q38, e23, hf⟩ := hf
        replace e23 := (jcv_o e23).2
        have eT : (T k).1 = nI 20 := r5.2.mp (r5.1.resolve_left c6)
        have R1 := rw_n H (by decide) R eT
        obtain ⟨d23, f23, z23⟩ := E_X12_readChair H R1 hW e23
        replace hf := jite hf
        rcases hf with ⟨c24, hf⟩ | ⟨c24, hf⟩
        · skip
          cases hf
          -- leaf 0010: (q38.1, q38.2)
          rw [rdPole_n (w := 20) eT (Or.inr (Or.inl rfl))]
          exact ⟨d23, f23, z23⟩
        · skip
          cases hf
    · skip
      replace hf := jbind hf
      obtain ⟨q24, e25, hf⟩ := hf
      replace e25 := (jcv_o e25).2
      have eT : (T k).1 = nI 19 := r3.2.mp (r3.1.resolve_left c4)
      have R1 := rw_n H (by decide) R eT
      obtain ⟨d25, f25, z25⟩ := E_X12_readCaught H R1 hW K e25
      replace hf := jite hf
      rcases hf with ⟨c26, hf⟩ | ⟨c26, hf⟩
      · skip
        cases hf
        -- leaf 010: (q24.1, q24.2)
        rw [rdPole_n (w := 19) eT (Or.inl rfl)]
        exact ⟨d25, f25, z25⟩
      · skip
        cases hf
  · skip
    replace hf := jbind hf
    obtain ⟨q10, e27, hf⟩ := hf
    replace e27 := (jcv_o e27).2
    have eT : (T k).1 = nI 0 := r1.2.mp (r1.1.resolve_left c2)
    have R1 := rw_n H (by decide) R eT
    obtain ⟨d27, f27, z27⟩ := E_X12_readRing H R hW K eT e27
    replace hf := jite hf
    rcases hf with ⟨c28, hf⟩ | ⟨c28, hf⟩
    · skip
      cases hf
      -- leaf 10: (q10.1, q10.2)
      unfold rdPole
      rw [if_pos (show (T k).1 = 0 from eT)]
      exact ⟨d27, f27, z27⟩
    · skip
      cases hf
end
section
/-! all the lines of a text, as the reference reads them; ln tells what a line does, P what holds behind it -/
theorem th_n1 {b : Nat → Int32} {L s e : Nat} {t : Int32 × Int32} (h : thE b L s e t) : t.1 ≠ -1 := by
  rcases h with ⟨-, -, ⟨w, hw, t, -⟩ | ⟨t, -⟩⟩ | ⟨-, -, t, -⟩ | ⟨-, -, -, -, -, t⟩
  · rw [t]; exact fun z => nI_ng (x := -1) (show w < 1000 by omega) (by decide) z.symm
  · rw [t]; decide
  · rw [t]; decide
  · rw [t]
    split
    · decide
    · rename_i q
      intro z
      rw [z] at q
      exact q (by decide)
theorem tk_end {b : Nat → Int32} {L m : Nat} {T : Nat → Int32 × Int32} {st en : Nat → Nat} (H : tkE b L m T st en) (k : Nat) : st k = L ↔ (T k).1 = -1 := by
  rcases Nat.lt_or_ge k m with z | z
  · obtain ⟨a, c, -⟩ := H.2.2.1 k z
    exact ⟨fun y => by omega, fun y => absurd y (th_n1 c)⟩
  · exact ⟨fun _ => (H.2.2.2.1 k z).2, fun _ => (H.2.2.2.1 k z).1⟩
def lnG {S : Type} (P : jO → S → Nat → Nat → Prop) (O : jO) (v : Int32) (x : Nat) (b : Nat → Int32) (L : Nat) (st : Nat → Nat) (j : Nat) (r : (Nat × S) ⊕ Nat) : Prop :=
  (∀ p, r = .inl p → v = 1 ∧ rc O x b L st p.1 ∧ P O p.2 j p.1) ∧ (∀ f, r = .inr f → v = 0 ∧ oi O x 12 = nI (st f))
def lsG {S : Type} (P : jO → S → Nat → Nat → Prop) (O : jO) (v : Int32) (x : Nat) (st : Nat → Nat) (N j : Nat) (r : S ⊕ Nat) : Prop :=
  (∀ W, r = .inl W → ∃ j2 k2, j ≤ j2 ∧ j2 ≤ N ∧ v = nI j2 ∧ P O W j2 k2) ∧ (∀ f, r = .inr f → v = -1 ∧ oi O x 12 = nI (st f))
theorem lsG_l {S : Type} {P : jO → S → Nat → Nat → Prop} {O : jO} {v : Int32} {x N j j2 k2 : Nat} {st : Nat → Nat} {r : S ⊕ Nat} {W : S} (e : r = .inl W) (h : j ≤ j2 ∧ j2 ≤ N ∧ v = nI j2 ∧ P O W j2 k2) : lsG P O v x st N j r := ⟨fun p z => (by rw [e] at z; cases z; exact ⟨j2, k2, h⟩), fun f z => (by rw [e] at z; cases z)⟩
theorem lsG_r {S : Type} {P : jO → S → Nat → Nat → Prop} {O : jO} {v : Int32} {x N j f : Nat} {st : Nat → Nat} {r : S ⊕ Nat} (e : r = .inr f) (h : v = -1 ∧ oi O x 12 = nI (st f)) : lsG P O v x st N j r := ⟨fun p z => (by rw [e] at z; cases z), fun f z => (by rw [e] at z; cases z; exact h)⟩
/-- what is left alone; the world's first Z places too -/
def frZ (m : Nat) (cs fs : List Nat) (Z : Nat) (O O2 : jO) : Prop := frM m cs fs O O2 ∧ ∀ j : Nat, j < Z → oi O2 (m + 1) j = oi O (m + 1) j
theorem frZ_tr {m Z : Nat} {cs fs : List Nat} {O O2 O3 : jO} (a : frZ m cs fs Z O O2) (b : frZ m cs fs Z O2 O3) : frZ m cs fs Z O O3 := ⟨frM_tr a.1 b.1, fun j hj => (b.2 j hj).trans (a.2 j hj)⟩
theorem frZ_n {m Z : Nat} {cs fs fs2 : List Nat} {O O2 : jO} (a : frM m [] fs O O2) (h : ∀ c ∈ fs, c ∈ fs2) : frZ m cs fs2 Z O O2 := ⟨frM_le a (fun c hc => by cases hc) h, fun j _ => congrFun (wl_f a (by simp)) j⟩
theorem frZ_le {m Z : Nat} {cs fs fs2 : List Nat} {O O2 : jO} (a : frZ m cs fs Z O O2) (h : ∀ c ∈ fs, c ∈ fs2) : frZ m cs fs2 Z O O2 := ⟨frM_le a.1 (fun c hc => hc) h, a.2⟩
/-- what one line does, whichever text it is of -/
def HLn (S : Type) (P : jO → S → Nat → Nat → Prop) (ln : S → Nat → (Nat × S) ⊕ Nat) (n a0 : Nat) (x1 : Int32) (b : Nat → Int32) (L : Nat) (st : Nat → Nat) (cs fs : List Nat) (N Z : Nat) : Prop :=
  ∀ (kk j : Nat) (W : S) (h : jH) (q : Int32 × jH), rc (oc h) a0 b L st kk → P (oc h) W j kk → j ≤ N → F_X12_readLine n a0 x1 (nI j) h = some q → (j < N → lnG P (oc q.2) q.1 a0 b L st (j + 1) (ln W kk)) ∧ (j = N → q.1 = 0 ∧ oi (oc q.2) a0 12 = nI (st kk)) ∧ frZ a0 cs fs Z (oc h) (oc q.2) ∧ q.2.1 = h.1
def HPr (S : Type) (P : jO → S → Nat → Nat → Prop) (a0 : Nat) : Prop := ∀ (O O2 : jO) (W : S) (j k k2 : Nat), P O W j k → k ≤ k2 → frM a0 [] [10, 12] O O2 → P O2 W j k2
theorem E_X12_readAll_28 {n : Nat} {b : Nat → Int32} {L : Nat} {m : Nat} {T : Nat → Int32 × Int32} {st : Nat → Nat} {en : Nat → Nat} {S : Type} {P : jO → S → Nat → Nat → Prop} {ln : S → Nat → (Nat × S) ⊕ Nat} {cs : List Nat} {fs : List Nat} {N : Nat} {Z : Nat} (hN : N < 1000) (m10 : 10 ∈ fs) (m12 : 12 ∈ fs) : ∀ (k : Nat) {a0 : Nat} {x1 : Int32} {x2 : Int32} {h : jH} {q : Int32 × jH} (kk : Nat) (j : Nat) (W : S) (H : tkE b L m T st en) (HL : HLn S P ln n a0 x1 b L st cs fs N Z) (HP : HPr S P a0) (R : rc (oc h) a0 b L st kk) (PW : P (oc h) W j kk) (hx : x2 = nI j) (hj : j ≤ N), F_X12_readAll_28 n k a0 x1 x2 h = some q → lsG P (oc q.2) q.1 a0 st N (j + 1) (rdLines ln T (N - j) W kk) ∧ frZ a0 cs fs Z (oc h) (oc q.2) ∧ q.2.1 = h.1
  | 0, a0, x1, x2, h, q, kk, j, W, H, HL, HP, R, PW, hx, hj, hf => by cases hf
  | k + 1, a0, x1, x2, h, q, kk, j, W, H, HL, HP, R, PW, hx, hj, hf => by
    replace hf : F_X12_readAll_28_b n (F_X12_readAll_28 n k) a0 x1 x2 h = some q := hf
    unfold F_X12_readAll_28_b at hf
    replace hf := jbind hf
    obtain ⟨q31, e1, hf⟩ := hf
    replace e1 := (jcv_o e1).2
    rw [hx] at e1
    obtain ⟨d1, n1, f1, z1⟩ := HL kk j W h q31 R PW hj e1
    replace hf := jite hf
    rcases hf with ⟨c2, hf⟩ | ⟨c2, hf⟩
    · skip
      cases hf
      -- leaf 0: ((- 1 : Int32), q31.2)
      rcases Nat.lt_or_ge j N with jN | jN
      · have ej : N - j = N - (j + 1) + 1 := by omega
        rcases hR : ln W kk with d | f
        · exact absurd (c2.symm.trans ((d1 jN).1 d hR).1) (by decide)
        · rw [ej]
          exact ⟨lsG_r (rl_r hR) ⟨rfl, ((d1 jN).2 f hR).2⟩, f1, z1⟩
      · rw [show N - j = 0 by omega]
        exact ⟨lsG_r rfl ⟨rfl, (n1 (by omega)).2⟩, f1, z1⟩
    · skip
      replace hf := jbind hf
      obtain ⟨h40, e3, hf⟩ := hf
      replace e3 := (jcv_o e3).2
      have jN : j < N := by
        rcases Nat.lt_or_ge j N with z | z
        · exact z
        · exact absurd (n1 (by omega)).1 c2
      rcases hR : ln W kk with d | f
      rotate_left
      · exact absurd ((d1 jN).2 f hR).1 c2
      obtain ⟨-, R1, P1⟩ := (d1 jN).1 d hR
      obtain ⟨R3, g3, f3, z3⟩ := T_blanks H R1 e3
      have P3 := HP _ _ _ _ _ _ P1 (Nat.le_refl _) f3
      have ej : N - j = N - (j + 1) + 1 := by omega
      have f13 := frZ_tr f1 (frZ_n f3 (fun c hc => by rcases List.mem_cons.mp hc with y | hc; exact y ▸ m10; rcases List.mem_cons.mp hc with y | hc; exact y ▸ m12; cases hc))
      have hL := H.1
      have sl := tk_L H d.1
      replace hf := jbind hf
      obtain ⟨v44, e4, hf⟩ := hf
      have r4 := oc_gI e4
      subst r4
      clear e4
      replace hf := jbind hf
      obtain ⟨v48, e5, hf⟩ := hf
      have r5 := oc_gI e5
      subst r5
      clear e5
      replace hf := jite hf
      rcases hf with ⟨c6, hf⟩ | ⟨c6, hf⟩
      · skip
        cases hf
        -- leaf 10: (x2 + (1 : Int32), h40)
        rw [R3.2.2.2.2.1, R3.2.1, nI_eq (by omega) (by omega)] at c6
        rw [ej]
        exact ⟨lsG_l (rl_e hR ((tk_end H d.1).mp c6)) ⟨Nat.le_refl _, by omega, by rw [hx]; exact nI_1 j, P3⟩, f13, z3.trans z1⟩
      · skip
        replace hf := jbind hf
        obtain ⟨v63, e7, hf⟩ := hf
        replace e7 := (jcv_o e7).2
        have r7 := E_X12_isAt R3 e7
        replace hf := jite hf
        rcases hf with ⟨c8, hf⟩ | ⟨c8, hf⟩
        · skip
          cases hf
          -- leaf 110: ((- 1 : Int32), h40)
          rw [R3.2.2.2.2.1, R3.2.1, nI_eq (by omega) (by omega)] at c6
          have nT : (T d.1).1 ≠ -1 := fun z => c6 ((tk_end H d.1).mpr z)
          rcases r7 with ⟨y, -⟩ | ⟨-, y⟩
          · exact absurd (c8.symm.trans y) (by decide)
          rw [ej]
          exact ⟨lsG_r (rl_x hR nT (fun z => y ((tk_s H (by unfold sgn; decide)).1.mpr z))) ⟨rfl, g3⟩, f13, z3.trans z1⟩
        · skip
          replace hf := jbind hf
          obtain ⟨v73, e9, hf⟩ := hf
          have r9 := oc_gI e9
          subst r9
          clear e9
          replace hf := jbind hf
          obtain ⟨h78, e10, hf⟩ := hf
          obtain ⟨o10, z10⟩ := oc_pf e10
          clear e10
          -- leaf 111: rc28 a0 x1 (x2 + (1 : Int32)) h78
          rw [R3.2.2.2.2.1, R3.2.1, nI_eq (by omega) (by omega)] at c6
          have nT : (T d.1).1 ≠ -1 := fun z => c6 ((tk_end H d.1).mpr z)
          rcases r7 with ⟨-, y⟩ | ⟨y, -⟩
          rotate_left
          · exact absurd y c8
          obtain ⟨t1, t2⟩ := tk_s H (k := d.1) (c := 59) (by unfold sgn; decide)
          have t3 := t1.mp y
          obtain ⟨t4, t5⟩ := t2 t3
          have t6 := tk_L H (d.1 + 1)
          have t7 := (cur_n H t4).1
          rw [R3.2.2.2.2.1, nI_1, t5] at o10
          have R9 : rc (oc h78) a0 b L st (d.1 + 1) := by rw [o10]; exact ⟨en d.1, rb_pt R3 (by omega), cur_n H t4⟩
          have f10 : frM a0 [] [10, 12] (oc h40) (oc h78) := by rw [o10]; exact frM_f (by decide)
          rw [hx] at hf
          obtain ⟨a1, a2, a3⟩ := E_X12_readAll_28 hN m10 m12 k (d.1 + 1) (j + 1) d.2 H HL HP R9 (HP _ _ _ _ _ _ P3 (Nat.le_succ _) f10) (nI_1 j) (by omega) hf
          rw [ej, rl_s hR t3]
          refine ⟨⟨fun W2 z => ?_, a1.2⟩, frZ_tr f13 (frZ_tr (frZ_n f10 (fun c hc => by rcases List.mem_cons.mp hc with y | hc; exact y ▸ m10; rcases List.mem_cons.mp hc with y | hc; exact y ▸ m12; cases hc)) a2), a3.trans (z10.trans (z3.trans z1))⟩
          obtain ⟨j2, k2, b1, b2, b3, b4⟩ := a1.1 W2 z
          exact ⟨j2, k2, by omega, b2, b3, b4⟩
theorem E_X12_uses {L : Nat} {n : Nat} {a0 : Nat} {h : jH} {q : jH} (h9 : oi (oc h) a0 9 = nI L) (hf : F_X12_uses n a0 h = some q) : oi (oc q) a0 0 = 0 ∧ oi (oc q) a0 9 = 0 ∧ oi (oc q) a0 10 = 0 ∧ oi (oc q) a0 11 = nI L ∧ frM a0 [] [0, 9, 10, 11] (oc h) (oc q) ∧ q.1 = h.1 := by
  unfold F_X12_uses at hf
  replace hf := jbind hf
  obtain ⟨h2, e1, hf⟩ := hf
  obtain ⟨o1, z1⟩ := oc_pf e1
  clear e1
  replace hf := jbind hf
  obtain ⟨v7, e2, hf⟩ := hf
  have r2 := oc_gI e2
  rw [o1] at r2
  rw [oi_ne (Or.inr (by decide))] at r2
  subst r2
  clear e2
  replace hf := jbind hf
  obtain ⟨h10, e3, hf⟩ := hf
  obtain ⟨o3, z3⟩ := oc_pf e3
  clear e3
  replace hf := jbind hf
  obtain ⟨h15, e4, hf⟩ := hf
  obtain ⟨o4, z4⟩ := oc_pf e4
  clear e4
  replace hf := jbind hf
  obtain ⟨h20, e5, hf⟩ := hf
  obtain ⟨o5, z5⟩ := oc_pf e5
  clear e5
  cases hf
  -- leaf : h20
  rw [h9] at o3
  have g0 : oi (oc q) a0 0 = 0 := by rw [o5, oi_ne (Or.inr (by decide)), o4, oi_ne (Or.inr (by decide)), o3, oi_ne (Or.inr (by decide)), o1, oi_eq]
  have g9 : oi (oc q) a0 9 = 0 := by rw [o5, oi_ne (Or.inr (by decide)), o4, oi_eq]
  have g10 : oi (oc q) a0 10 = 0 := by rw [o5, oi_eq]
  have g11 : oi (oc q) a0 11 = nI L := by rw [o5, oi_ne (Or.inr (by decide)), o4, oi_ne (Or.inr (by decide)), o3, oi_eq]
  exact ⟨g0, g9, g10, g11, by rw [o5, o4, o3, o1]; exact frM_tr (frM_f (by decide)) (frM_tr (frM_f (by decide)) (frM_tr (frM_f (by decide)) (frM_f (by decide)))), z5.trans (z4.trans (z3.trans z1))⟩
end
section
/-! a text, as the reference reads it; pole -/
theorem cur_00 {b : Nat → Int32} {L m : Nat} {T : Nat → Int32 × Int32} {st en : Nat → Nat} (H : tkE b L m T st en) : cur b st 0 0 := ⟨by omega, fun i _ h => H.2.2.2.2 i h⟩
theorem E_X12_readAll {b : Nat → Int32} {L : Nat} {m : Nat} {T : Nat → Int32 × Int32} {st : Nat → Nat} {en : Nat → Nat} {S : Type} {P : jO → S → Nat → Nat → Prop} {ln : S → Nat → (Nat × S) ⊕ Nat} {cs : List Nat} {fs : List Nat} {N : Nat} {Z : Nat} {W : S} {n : Nat} {a0 : Nat} {x1 : Int32} {h : jH} {q : Int32 × jH} (hN : N < 1000) (m10 : 10 ∈ fs) (m12 : 12 ∈ fs) (H : tkE b L m T st en) (HL : HLn S P ln n a0 x1 b L st cs fs N Z) (HP : HPr S P a0) (M : mS (oc h) a0) (h9 : oi (oc h) a0 9 = nI L) (hb : ∀ i, oi (oc h) (a0 + 6) i = b i) (hP : ∀ O, frM a0 [] [0, 9, 10, 11, 12, 16] (oc h) O → oi O a0 16 = 0 → P O W 0 0) (cz : 0 ∉ cs) (n0 : 0 ∉ fs ∧ 9 ∉ fs) (hf : F_X12_readAll n a0 x1 h = some q) : ((T 0).1 = -1 → q.1 = 0 ∧ P (oc q.2) W 0 0) ∧ ((T 0).1 ≠ -1 → lsG P (oc q.2) q.1 a0 st N 1 (rdLines ln T N W 0)) ∧ oi (oc q.2) a0 0 = 0 ∧ oi (oc q.2) a0 9 = 0 ∧ frZ a0 cs (0 :: 9 :: 10 :: 11 :: 12 :: 16 :: fs) Z (oc h) (oc q.2) ∧ q.2.1 = h.1 := by
  unfold F_X12_readAll at hf
  replace hf := jbind hf
  obtain ⟨h1, e1, hf⟩ := hf
  replace e1 := (jcv_o e1).2
  obtain ⟨u0, u9, u10, u11, uf, uz⟩ := E_X12_uses h9 e1
  replace hf := jbind hf
  obtain ⟨h6, e2, hf⟩ := hf
  obtain ⟨o2, z2⟩ := oc_pf e2
  clear e2
  replace hf := jbind hf
  obtain ⟨h10, e3, hf⟩ := hf
  replace e3 := (jcv_o e3).2
  have f2 : frM a0 [] [16] (oc h1) (oc h6) := by rw [o2]; exact frM_f (by decide)
  have f02 : frM a0 [] [0, 9, 10, 11, 12, 16] (oc h) (oc h6) := frM_tr (frM_le uf (by decide) (by decide)) (frM_le f2 (by decide) (by decide))
  have R0 : rc (oc h6) a0 b L st 0 := ⟨0, ⟨mS_fr M f02 (by decide) (by decide), (frM_oi f2 (by decide) (by decide)).trans u11, H.1, fun i => (oi_M f02 (by simp) (by omega)).trans (hb i), (frM_oi f2 (by decide) (by decide)).trans u10, by omega⟩, cur_00 H⟩
  obtain ⟨R3, g3, f3, z3⟩ := T_blanks H R0 e3
  have f03 := frM_tr f02 (frM_le f3 (by decide) (by decide))
  have g16 : oi (oc h10) a0 16 = 0 := by rw [frM_oi f3 (by decide) (by decide), o2, oi_eq]
  have P3 := hP _ f03 g16
  have s0 := tk_L H 0
  have hL := H.1
  have g9 : oi (oc h10) a0 9 = 0 := by rw [frM_oi f3 (by decide) (by decide), frM_oi f2 (by decide) (by decide), u9]
  have g0 : oi (oc h10) a0 0 = 0 := by rw [frM_oi f3 (by decide) (by decide), frM_oi f2 (by decide) (by decide), u0]
  replace hf := jbind hf
  obtain ⟨v14, e4, hf⟩ := hf
  have r4 := oc_gI e4
  subst r4
  clear e4
  replace hf := jbind hf
  obtain ⟨v18, e5, hf⟩ := hf
  have r5 := oc_gI e5
  subst r5
  clear e5
  replace hf := jite hf
  rcases hf with ⟨c6, hf⟩ | ⟨c6, hf⟩
  · skip
    cases hf
    -- leaf 0: ((0 : Int32), h10)
    rw [R3.2.2.2.2.1, R3.2.1, nI_eq (by omega) (by omega)] at c6
    have t0 := (tk_end H 0).mp c6
    exact ⟨fun _ => ⟨rfl, P3⟩, fun z => absurd t0 z, g0, g9, frZ_n f03 (fun c hc => by simp at hc ⊢; omega), z3.trans (z2.trans uz)⟩
  · skip
    -- leaf 1: F_X12_readAll_28 n n a0 x1 (0 : Int32) h10
    rw [R3.2.2.2.2.1, R3.2.1, nI_eq (by omega) (by omega)] at c6
    have t0 : (T 0).1 ≠ -1 := fun z => c6 ((tk_end H 0).mpr z)
    obtain ⟨a1, a2, a3⟩ := E_X12_readAll_28 (N := N) (Z := Z) (cs := cs) (fs := fs) hN m10 m12 n 0 0 W H HL HP ⟨st 0, R3, cur_0 0⟩ P3 rfl (by omega) hf
    exact ⟨fun z => absurd z t0, fun _ => a1, (frM_oi a2.1 cz n0.1).trans g0, (frM_oi a2.1 cz n0.2).trans g9, frZ_tr (frZ_n f03 (fun c hc => by simp at hc ⊢; omega)) (frZ_le a2 (fun c hc => by simp [hc])), a3.trans (z3.trans (z2.trans uz))⟩
theorem E_X12_readLine_16P {b : Nat → Int32} {L : Nat} {m : Nat} {T : Nat → Int32 × Int32} {st : Nat → Nat} {en : Nat → Nat} {kk : Nat} {j : Nat} {W : jWd} {n : Nat} {a0 : Nat} {x1 : Int32} {x2 : Int32} {s0 : Int32} {s1 : Int32} {h : jH} {q : Int32 × jH} (H : tkE b L m T st en) (R : rw2 (oc h) a0 b L st kk) (hW : wl (oc h) a0 = W) (K : wOK W) (hx : s0 = nI j) (hj : j ≤ 14) (h1 : x1 = 1) (hs1 : s1 = 14) (hf : F_X12_readLine_16 n a0 x1 x2 s0 s1 h = some q) : (j < 14 → lnR (oc q.2) q.1 a0 b L st (rdPole T W kk)) ∧ (j = 14 → q.1 = 0 ∧ oi (oc q.2) a0 12 = nI (st kk)) ∧ frM a0 [1] [10, 12] (oc h) (oc q.2) ∧ q.2.1 = h.1 := by
  unfold F_X12_readLine_16 at hf
  replace hf := jite hf
  rcases hf with ⟨c1, hf⟩ | ⟨c1, hf⟩
  · skip
    cases hf
    -- leaf 0: ((0 : Int32), h)
    rw [hs1, hx, Int32.le_iff_toInt_le, nI_toInt (by omega), show (14 : Int32).toInt = 14 from rfl] at c1
    obtain ⟨e, Rb, -, g⟩ := R
    exact ⟨fun z => by omega, fun _ => ⟨rfl, g⟩, frM_rfl, rfl⟩
  · skip
    replace hf := jite hf
    rcases hf with ⟨c2, hf⟩ | ⟨c2, hf⟩
    · skip
      replace hf := jbind hf
      obtain ⟨q35, e3, hf⟩ := hf
      replace e3 := (jcv_o e3).2
      replace hf := jite hf
      rcases hf with ⟨c4, hf⟩ | ⟨c4, hf⟩
      · skip
        cases hf
        -- leaf 100: ((0 : Int32), q35.2)
        exact absurd (c2.symm.trans h1) (by decide)
      · skip
        cases hf
        -- leaf 101: ((1 : Int32), q35.2)
        exact absurd (c2.symm.trans h1) (by decide)
    · skip
      replace hf := jbind hf
      obtain ⟨q24, e5, hf⟩ := hf
      replace e5 := (jcv_o e5).2
      obtain ⟨d, f, z⟩ := E_X12_readPoleLine H R hW K e5
      replace hf := jite hf
      rcases hf with ⟨c6, hf⟩ | ⟨c6, hf⟩
      · skip
        cases hf
        -- leaf 110: ((0 : Int32), q24.2)
        rw [hs1, hx, Int32.le_iff_toInt_le, nI_toInt (by omega), show (14 : Int32).toInt = 14 from rfl] at c1
        rw [c6] at d
        exact ⟨fun _ => d, fun z => by omega, f, z⟩
      · skip
        cases hf
        -- leaf 111: ((1 : Int32), q24.2)
        rw [hs1, hx, Int32.le_iff_toInt_le, nI_toInt (by omega), show (14 : Int32).toInt = 14 from rfl] at c1
        have e1 : q24.1 = 1 := by
          rcases hR : rdPole T W kk with p | g
          · exact (d.1 p hR).1
          · exact absurd (d.2 g hR).1 c6
        rw [e1] at d
        exact ⟨fun _ => d, fun z => by omega, f, z⟩
theorem E_X12_readLineP {b : Nat → Int32} {L : Nat} {m : Nat} {T : Nat → Int32 × Int32} {st : Nat → Nat} {en : Nat → Nat} {kk : Nat} {j : Nat} {W : jWd} {n : Nat} {a0 : Nat} {x1 : Int32} {x2 : Int32} {h : jH} {q : Int32 × jH} (H : tkE b L m T st en) (R : rc (oc h) a0 b L st kk) (hW : wl (oc h) a0 = W) (K : wOK W) (hx : x2 = nI j) (hj : j ≤ 14) (hp : x1 = 1) (hf : F_X12_readLine n a0 x1 x2 h = some q) : (j < 14 → lnR (oc q.2) q.1 a0 b L st (rdPole T W kk)) ∧ (j = 14 → q.1 = 0 ∧ oi (oc q.2) a0 12 = nI (st kk)) ∧ frM a0 [1] [10, 12] (oc h) (oc q.2) ∧ q.2.1 = h.1 := by
  unfold F_X12_readLine at hf
  replace hf := jbind hf
  obtain ⟨h1, e1, hf⟩ := hf
  replace e1 := (jcv_o e1).2
  obtain ⟨R1, f1, z1⟩ := T_letters H R e1
  replace hf := jite hf
  rcases hf with ⟨c2, hf⟩ | ⟨c2, hf⟩
  · skip
    -- leaf 0: F_X12_readLine_16 n a0 x1 x2 x2 (12 : Int32) h1
    exact absurd (c2.symm.trans hp) (by decide)
  · skip
    -- leaf 1: F_X12_readLine_16 n a0 x1 x2 x2 (14 : Int32) h1
    obtain ⟨a1, a2, a3, a4⟩ := E_X12_readLine_16P (kk := kk) (W := W) H R1 (by rw [wl_f f1 (by decide)]; exact hW) K hx hj hp rfl hf
    exact ⟨a1, a2, frM_tr (frM_le f1 (by decide) (by decide)) a3, a4.trans z1⟩
def polP (x : Nat) (O : jO) (W : jWd) (_j _k : Nat) : Prop := wl O x = W ∧ wOK W
theorem polHL {n a0 : Nat} {b : Nat → Int32} {L m : Nat} {T : Nat → Int32 × Int32} {st en : Nat → Nat} (H : tkE b L m T st en) : HLn jWd (polP a0) (rdPole T) n a0 1 b L st [1] [10, 12] 14 0 := by
  intro kk j W h q R PW hj e
  obtain ⟨a1, a2, a3, a4⟩ := E_X12_readLineP H R PW.1 PW.2 rfl hj rfl e
  refine ⟨fun z => ⟨fun p y => ?_, fun f y => ?_⟩, a2, ⟨a3, fun j hj => by omega⟩, a4⟩
  · obtain ⟨b1, b2, b3⟩ := (a1 z).1 p y
    exact ⟨b1, b2, b3, (rdPole_ok PW.2 y).1⟩
  · obtain ⟨b1, b2, -⟩ := (a1 z).2 f y
    exact ⟨b1, b2⟩
theorem polHP {a0 : Nat} : HPr jWd (polP a0) a0 := fun O O2 W j k k2 P _ f => ⟨by rw [wl_f f (by decide)]; exact P.1, P.2⟩
end
