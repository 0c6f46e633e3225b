/-! the things of a tape: T tells kind and number of each, st where it begins, en where it ends; m things -/
def wTs : List Nat := [13, 32, 33, 18, 19, 24, 25, 17, 16, 30, 31, 29, 34, 35, 28, 26, 27, 14, 15, 20, 21, 22, 23]
def wT (w : Nat) : Nat := wTs.getD w 0
theorem wT_l (w : Nat) (hw : w < 23) : 0 < (jtb (wT w)).length ∧ (jtb (wT w)).length < 400 := by
  have : ∀ w : Fin 23, 0 < (jtb (wT w.val)).length ∧ (jtb (wT w.val)).length < 400 := by decide +kernel
  exact this ⟨w, hw⟩
theorem wT_i (w : Nat) (hw : w < 23) (w2 : Nat) (h2 : w2 < 23) (e : jtb (wT w) = jtb (wT w2)) : w = w2 := by
  have : ∀ w w2 : Fin 23, jtb (wT w.val) = jtb (wT w2.val) → w.val = w2.val := by decide +kernel
  exact this ⟨w, hw⟩ ⟨w2, h2⟩ e
def thE (b : Nat → Int32) (L s e : Nat) (t : Int32 × Int32) : Prop :=
  (bIn b L 97 122 s ∧ isRow (bIn b L 97 122) s e ∧ ((∃ w : Nat, w < 23 ∧ t.1 = nI w ∧ spl b s e (jtb (wT w))) ∨ (t.1 = -2 ∧ ∀ w : Nat, w < 23 → ¬ spl b s e (jtb (wT w))))) ∨
  (bIn b L 48 57 s ∧ isRow (bIn b L 48 57) s e ∧ t.1 = -3 ∧ t.2 = if e ≤ s + 3 then dV b s (e - s) else 1000) ∨
  (s < L ∧ ¬ bIn b L 97 122 s ∧ ¬ bIn b L 48 57 s ∧ b s ≠ 32 ∧ e = s + 1 ∧ t.1 = if (b s &&& 255) < 32 then -2 else b s &&& 255)
def tkE (b : Nat → Int32) (L m : Nat) (T : Nat → Int32 × Int32) (st en : Nat → Nat) : Prop :=
  L ≤ 400 ∧ (∀ i, i < 400 → -128 ≤ (b i).toInt ∧ (b i).toInt ≤ 127) ∧
  (∀ k, k < m → st k < L ∧ thE b L (st k) (en k) (T k) ∧ en k ≤ st (k + 1) ∧ ∀ i, en k ≤ i → i < st (k + 1) → b i = 32) ∧
  (∀ k, m ≤ k → st k = L ∧ (T k).1 = -1) ∧ (∀ i, i < st 0 → b i = 32)
def cur (b : Nat → Int32) (st : Nat → Nat) (p k : Nat) : Prop := p ≤ st k ∧ ∀ i, p ≤ i → i < st k → b i = 32
abbrev nOK (T : Nat → Int32 × Int32) (k : Nat) (lo hi : Int32) : Prop := (T k).1 = -3 ∧ lo ≤ (T k).2 ∧ (T k).2 ≤ hi
theorem b255 {v : Int32} (h : -128 ≤ v.toInt ∧ v.toInt ≤ 127) : (v &&& 255).toInt = if v.toInt < 0 then v.toInt + 256 else v.toInt := by
  have e : (v &&& 255).toBitVec.toNat = v.toBitVec.toNat % 256 := by
    show (v.toBitVec &&& 255#32).toNat = _
    rw [BitVec.toNat_and]
    exact Nat.and_two_pow_sub_one_eq_mod _ 8
  have t : v.toInt = if 2 * v.toBitVec.toNat < 4294967296 then (v.toBitVec.toNat : Int) else (v.toBitVec.toNat : Int) - 4294967296 := BitVec.toInt_eq_toNat_cond v.toBitVec
  have t2 : (v &&& 255).toInt = if 2 * (v &&& 255).toBitVec.toNat < 4294967296 then ((v &&& 255).toBitVec.toNat : Int) else ((v &&& 255).toBitVec.toNat : Int) - 4294967296 := BitVec.toInt_eq_toNat_cond _
  rw [e] at t2
  have l := v.toBitVec.isLt
  split at t <;> split at t2 <;> split <;> omega
theorem nI_ng {w : Nat} {x : Int32} (hw : w < 1000) (hx : x.toInt < 0) : x ≠ nI w := fun z => by rw [z, nI_toInt (by omega)] at hx; omega
variable {b : Nat → Int32} {L m : Nat} {T : Nat → Int32 × Int32} {st en : Nat → Nat}
theorem tk_L (H : tkE b L m T st en) (k : Nat) : st k ≤ L := by
  obtain ⟨-, -, a, c, -⟩ := H
  rcases Nat.lt_or_ge k m with z | z
  · have := (a k z).1; omega
  · have := (c k z).1; omega
theorem tk_sp (H : tkE b L m T st en) (k : Nat) : ¬ bIn b L 32 32 (st k) := by
  obtain ⟨-, -, a, c, -⟩ := H
  have le : ∀ lo hi x : Int32, (32 : Int32).toInt < lo.toInt → lo ≤ x → ¬ (32 ≤ x ∧ x ≤ 32) := fun lo hi x h1 h2 h3 => by
    rw [Int32.le_iff_toInt_le] at h2
    rw [Int32.le_iff_toInt_le, Int32.le_iff_toInt_le] at h3
    omega
  rcases Nat.lt_or_ge k m with z | z
  · obtain ⟨a1, a2, -⟩ := a k z
    rcases a2 with ⟨y, -⟩ | ⟨y, -⟩ | ⟨-, -, -, y, -⟩
    · exact fun w => le 97 122 (b (st k)) (by decide) y.2.1 w.2
    · exact fun w => le 48 57 (b (st k)) (by decide) y.2.1 w.2
    · exact fun w => y (Int32.toInt_inj.mp (by have := w.2.1; have := w.2.2; rw [Int32.le_iff_toInt_le] at *; omega))
  · exact fun w => by have := w.1; have := (c k z).1; omega
theorem cur_sp (H : tkE b L m T st en) {p k s : Nat} (C : cur b st p k) (r : isRow (bIn b L 32 32) p s) : s = st k := by
  have hL := tk_L H k
  refine row_u r ⟨C.1, fun i h1 h2 => ⟨by omega, ?_, ?_⟩, tk_sp H k⟩ <;> rw [C.2 i h1 h2] <;> exact Int32.le_refl _
theorem cur_0 (k : Nat) : cur b st (st k) k := ⟨Nat.le_refl _, fun i h1 h2 => by omega⟩
theorem cur_n (H : tkE b L m T st en) {k : Nat} (hk : k < m) : cur b st (en k) (k + 1) := (H.2.2.1 k hk).2.2
theorem tk_m (H : tkE b L m T st en) {k : Nat} (h : (T k).1 ≠ -1) : k < m := Nat.lt_of_not_le fun z => h (H.2.2.2.1 k z).2
theorem tk_w (H : tkE b L m T st en) {k e w : Nat} (hw : w < 23) (r : isRow (bIn b L 97 122) (st k) e) : (spl b (st k) e (jtb (wT w)) ↔ (T k).1 = nI w) ∧ ((T k).1 = nI w → k < m ∧ e = en k) := by
  have lw := (wT_l w hw).1
  have no : ¬ bIn b L 97 122 (st k) → ¬ spl b (st k) e (jtb (wT w)) := fun y z => by
    have := row_u r (row_0 y); have := z.1; omega
  rcases Nat.lt_or_ge k m with z | z
  · rcases (H.2.2.1 k z).2.1 with ⟨y, y2, y3⟩ | ⟨y, -, y3, -⟩ | ⟨y0, y, -, -, -, y3⟩
    · have e1 := row_u r y2
      subst e1
      refine ⟨⟨fun s => ?_, fun s => ?_⟩, fun _ => ⟨z, rfl⟩⟩
      · rcases y3 with ⟨w2, h2, t2, s2⟩ | ⟨-, s2⟩
        · rw [wT_i w hw w2 h2 (spl_u s s2)]; exact t2
        · exact absurd s (s2 w hw)
      · rcases y3 with ⟨w2, h2, t2, s2⟩ | ⟨t2, -⟩
        · rw [(nI_eq (by omega) (by omega)).mp (s.symm.trans t2)]; exact s2
        · exact absurd (t2.symm.trans s) (nI_ng (by omega) (by decide))
    · have n3 : (T k).1 ≠ nI w := by rw [y3]; exact nI_ng (by omega) (by decide)
      have nl : ¬ bIn b L 97 122 (st k) := fun w => by
        have a1 := w.2.1; have a2 := y.2.2
        rw [Int32.le_iff_toInt_le] at a1 a2
        have l97 : (97 : Int32).toInt = 97 := rfl
        have l57 : (57 : Int32).toInt = 57 := rfl
        omega
      exact ⟨⟨fun s => absurd s (no nl), fun s => absurd s n3⟩, fun s => absurd s n3⟩
    · have n3 : (T k).1 ≠ nI w := by
        rw [y3]
        split
        · exact nI_ng (by omega) (by decide)
        · rename_i q
          intro x
          rw [x, Int32.lt_iff_toInt_lt, nI_toInt (by omega)] at q
          have l32 : (32 : Int32).toInt = 32 := rfl
          omega
      exact ⟨⟨fun s => absurd s (no y), fun s => absurd s n3⟩, fun s => absurd s n3⟩
  · obtain ⟨y, y3⟩ := H.2.2.2.1 k z
    have n3 : (T k).1 ≠ nI w := by rw [y3]; exact nI_ng (by omega) (by decide)
    exact ⟨⟨fun s => absurd s (no (fun w => by have := w.1; omega)), fun s => absurd s n3⟩, fun s => absurd s n3⟩
/-- a sign: neither a blank nor a letter nor a digit -/
def sgn (c : Int32) : Prop := (32 < c.toInt ∧ c.toInt < 48) ∨ (57 < c.toInt ∧ c.toInt < 97)
theorem tk_s (H : tkE b L m T st en) {k : Nat} {c : Int32} (hc : sgn c) : (bIn b L c c (st k) ↔ (T k).1 = c) ∧ ((T k).1 = c → k < m ∧ st k + 1 = en k) := by
  have eq : ∀ x : Int32, c ≤ x ∧ x ≤ c → x = c := fun x h => Int32.toInt_inj.mp (by rw [Int32.le_iff_toInt_le, Int32.le_iff_toInt_le] at h; omega)
  have ng : ∀ x : Int32, x.toInt < 0 → x ≠ c := fun x hx z => by rw [z] at hx; unfold sgn at hc; omega
  rcases Nat.lt_or_ge k m with z | z
  · rcases (H.2.2.1 k z).2.1 with ⟨y, -, y3⟩ | ⟨y, -, y3, -⟩ | ⟨y0, y, y2, -, y4, y3⟩
    · have a1 := y.2.1; have a2 := y.2.2
      rw [Int32.le_iff_toInt_le] at a1 a2
      have l97 : (97 : Int32).toInt = 97 := rfl
      have n1 : ¬ bIn b L c c (st k) := fun w => by have := eq _ w.2; rw [this] at a1; unfold sgn at hc; omega
      have n2 : (T k).1 ≠ c := by
        rcases y3 with ⟨w, hw, t, -⟩ | ⟨t, -⟩
        · rw [t]; intro x; rw [← x, sgn, nI_toInt (by omega)] at hc; omega
        · rw [t]; exact ng _ (by decide)
      exact ⟨⟨fun s => absurd s n1, fun s => absurd s n2⟩, fun s => absurd s n2⟩
    · have a1 := y.2.1; have a2 := y.2.2
      rw [Int32.le_iff_toInt_le] at a1 a2
      have l48 : (48 : Int32).toInt = 48 := rfl
      have l57 : (57 : Int32).toInt = 57 := rfl
      have n1 : ¬ bIn b L c c (st k) := fun w => by have := eq _ w.2; rw [this] at a1 a2; unfold sgn at hc; omega
      have n2 : (T k).1 ≠ c := by rw [y3]; exact ng _ (by decide)
      exact ⟨⟨fun s => absurd s n1, fun s => absurd s n2⟩, fun s => absurd s n2⟩
    · have l32 : (32 : Int32).toInt = 32 := rfl
      have B := b255 (H.2.1 (st k) (by have := H.1; omega))
      refine ⟨⟨fun s => ?_, fun s => ?_⟩, fun _ => ⟨z, y4.symm⟩⟩
      · have e := eq _ s.2
        rw [e] at y3 B
        have e2 : (c &&& 255) = c := Int32.toInt_inj.mp (by rw [B, if_neg (by unfold sgn at hc; omega)])
        rw [y3, e2, if_neg]
        rw [Int32.lt_iff_toInt_lt]
        unfold sgn at hc; omega
      · rw [y3] at s
        split at s
        · exact absurd s (ng _ (by decide))
        · have q : (b (st k) &&& 255).toInt = c.toInt := by rw [s]
          have e : b (st k) = c := Int32.toInt_inj.mp (by rw [B] at q; have := (H.2.1 (st k) (by have := H.1; omega)); unfold sgn at hc; split at q <;> omega)
          exact ⟨y0, by rw [e]; exact Int32.le_refl _, by rw [e]; exact Int32.le_refl _⟩
  · obtain ⟨y, y3⟩ := H.2.2.2.1 k z
    have n2 : (T k).1 ≠ c := by rw [y3]; exact ng _ (by decide)
    exact ⟨⟨fun s => by have := s.1; omega, fun s => absurd s n2⟩, fun s => absurd s n2⟩
theorem tk_n (H : tkE b L m T st en) {k e : Nat} {lo hi v : Int32} (h1 : hi.toInt ≤ 999) (r : isRow (bIn b L 48 57) (st k) e) (A : numA b (st k) e lo hi v) : (v = -1 ∧ ¬ nOK T k lo hi) ∨ (v = (T k).2 ∧ nOK T k lo hi ∧ k < m ∧ e = en k) := by
  have no : ¬ bIn b L 48 57 (st k) → ¬ numOK b (st k) e lo hi := fun y z => by
    have := row_u r (row_0 y); have := z.1; omega
  have fin : ¬ bIn b L 48 57 (st k) → (T k).1 ≠ -3 → (v = -1 ∧ ¬ nOK T k lo hi) ∨ (v = (T k).2 ∧ nOK T k lo hi ∧ k < m ∧ e = en k) := fun y t => by
    rcases A with ⟨a, -⟩ | ⟨-, a⟩
    · exact Or.inl ⟨a, fun z => t z.1⟩
    · exact absurd a (no y)
  rcases Nat.lt_or_ge k m with z | z
  · rcases (H.2.2.1 k z).2.1 with ⟨y, -, y3⟩ | ⟨y, y2, y3, y4⟩ | ⟨y0, y, y2, -, y4, y3⟩
    · refine fin (fun w => ?_) ?_
      · have a1 := y.2.1; have a2 := w.2.2
        rw [Int32.le_iff_toInt_le] at a1 a2
        have l97 : (97 : Int32).toInt = 97 := rfl
        have l57 : (57 : Int32).toInt = 57 := rfl
        omega
      · rcases y3 with ⟨w, hw, t, -⟩ | ⟨t, -⟩
        · rw [t]; exact fun x => nI_ng (x := -3) (by omega) (by decide) x.symm
        · rw [t]; decide
    · have e1 := row_u r y2
      subst e1
      have sl : st k < en k := by
        rcases Nat.lt_or_ge (st k) (en k) with q | q
        · exact q
        · exact absurd (by rw [show en k = st k by have := r.1; omega]; exact y) r.2.2
      by_cases q : en k ≤ st k + 3
      · rw [if_pos q] at y4
        rcases A with ⟨a, a2⟩ | ⟨a, a2⟩
        · exact Or.inl ⟨a, fun w => a2 ⟨sl, q, by rw [← y4]; exact w.2.1, by rw [← y4]; exact w.2.2⟩⟩
        · exact Or.inr ⟨by rw [y4]; exact a, ⟨y3, by rw [y4]; exact a2.2.2.1, by rw [y4]; exact a2.2.2.2⟩, z, rfl⟩
      · rw [if_neg q] at y4
        have nn : ¬ nOK T k lo hi := fun w => by
          have := w.2.2
          rw [y4, Int32.le_iff_toInt_le] at this
          have l : (1000 : Int32).toInt = 1000 := rfl
          omega
        rcases A with ⟨a, a2⟩ | ⟨a, a2⟩
        · exact Or.inl ⟨a, nn⟩
        · exact absurd a2.2.1 q
    · refine fin y2 ?_
      rw [y3]
      split
      · decide
      · rename_i q
        intro x
        rw [x] at q
        exact q (by decide)
  · obtain ⟨y, y3⟩ := H.2.2.2.1 k z
    exact fin (fun w => by have := w.1; omega) (by rw [y3]; decide)
