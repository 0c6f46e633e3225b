section
/-! hours, in the world's places -/
def lawB (W : jWd) : Prop := W 2 = 1 → ∀ i : Nat, (i : Int) < (W 435).toInt → 0 ≤ (W (437 + 4 * i)).toInt ∧ (W (437 + 4 * i)).toInt ≤ 100
theorem lawB_of {O : jO} {l : Nat} {W : jWd} (L : lawE O l W) : lawB W := by
  intro z i hi
  obtain ⟨-, -, -, b⟩ := L
  obtain ⟨-, c, d⟩ := b z
  obtain ⟨-, -, -, -, -, -, -, e8, e9, -, -⟩ := d i (by omega)
  exact ⟨e8, e9⟩
theorem tyR_cg {W W2 : jWd} (h : ∀ k, 435 ≤ k → W2 k = W k) (a : Nat) : ∀ k, tyR W2 a k = tyR W a k
  | 0 => rfl
  | k + 1 => by
    unfold tyR
    rw [tyR_cg h a k, h _ (by omega)]
theorem linE_cg {O : jO} {l n : Nat} {W W2 : jWd} (L : linE O l W n) (h : ∀ k, 435 ≤ k → W2 k = W k) : linE O l W2 n := by
  intro i hi
  rw [h _ (by omega), h _ (by omega), h _ (by omega), h _ (by omega), h (439 + 4 * (i - 1)) (by omega)]
  obtain ⟨a1, a2, a3, a4, a5, a6, a7, a8, a9, a10, a11⟩ := L i hi
  refine ⟨a1, a2, a3, a4, a5, a6, a7, a8, a9, fun j u w => ?_, ?_⟩
  · rw [h _ (by omega), h _ (by omega)]; exact a10 j u w
  · rw [tyR_cg h]; exact a11
theorem lawE_cg {O : jO} {l : Nat} {W W2 : jWd} (L : lawE O l W) (h : ∀ k, k = 2 ∨ 435 ≤ k → W2 k = W k) : lawE O l W2 := by
  obtain ⟨S, a, b, c⟩ := L
  unfold lawE
  rw [h 2 (Or.inl rfl), h 435 (Or.inr (by omega))]
  exact ⟨S, a, b, fun z => ⟨(c z).1, (c z).2.1, linE_cg (c z).2.2 (fun k hk => h k (Or.inr hk))⟩⟩
theorem lawE_fr {O O2 : jO} {l : Nat} {W : jWd} (L : lawE O l W) (h : ∀ a k, l ≤ a → a ≤ l + 4 → ¬ (a = l ∧ k = 5) → O2 a k = O a k) : lawE O2 l W := by
  obtain ⟨⟨s0, s1, s2, s3, s4⟩, a, b, c⟩ := L
  have e : ∀ a k, l ≤ a → a ≤ l + 4 → ¬ (a = l ∧ k = 5) → oi O2 a k = oi O a k := fun a k h1 h2 h3 => by unfold oi; rw [h a k h1 h2 h3]
  refine ⟨⟨(h _ _ (by omega) (by omega) (by omega)).trans s0, (h _ _ (by omega) (by omega) (by omega)).trans s1, (h _ _ (by omega) (by omega) (by omega)).trans s2, (h _ _ (by omega) (by omega) (by omega)).trans s3, (h _ _ (by omega) (by omega) (by omega)).trans s4⟩, (e _ _ (by omega) (by omega) (by omega)).trans a, b, fun z => ?_⟩
  obtain ⟨c1, c2, c3⟩ := c z
  refine ⟨(e _ _ (by omega) (by omega) (by omega)).trans c1, c2, fun i hi => ?_⟩
  obtain ⟨a1, a2, a3, a4, a5, a6, a7, a8, a9, a10, a11⟩ := c3 i hi
  refine ⟨(e _ _ (by omega) (by omega) (by omega)).trans a1, (e _ _ (by omega) (by omega) (by omega)).trans a2, (e _ _ (by omega) (by omega) (by omega)).trans a3, a4, a5, a6, a7, a8, a9, fun j u w => ?_, a11⟩
  rw [e _ _ (by omega) (by omega) (by omega)]
  exact a10 j u w
theorem sumW_b {W : jWd} {kind : Int32} {i : Nat} : ∀ n : Nat, n ≤ 12 → (∀ j : Nat, j < n → 0 ≤ (W (437 + 4 * j)).toInt ∧ (W (437 + 4 * j)).toInt ≤ 100) → 0 ≤ (sumW W kind i n).toInt ∧ (sumW W kind i n).toInt ≤ 100 * (n : Int)
  | 0, _, _ => by
    show 0 ≤ (0 : Int32).toInt ∧ (0 : Int32).toInt ≤ 100 * ((0 : Nat) : Int)
    decide
  | n + 1, hn, h => by
    have ih := sumW_b (kind := kind) (i := i) n (by omega) (fun j hj => h j (by omega))
    have hx := h n (by omega)
    by_cases c : W (436 + 4 * n) = kind ∧ holdsW W i n
    · rw [sumW_p (kind := kind) c, jadd (by omega) (by omega)]
      omega
    · rw [sumW_n (kind := kind) c]
      omega
theorem byW_b {W : jWd} {kind : Int32} {i : Nat} (LK : lawK W) (LB : lawB W) : 0 ≤ (byW W kind i).toInt ∧ (byW W kind i).toInt ≤ 1200 := by
  unfold byW
  by_cases c : W 2 = 1
  · rw [if_pos c]
    have n0 := (LK.2 c).1
    have := sumW_b (W := W) (kind := kind) (i := i) (W 435).toInt.toNat (by omega) (fun j hj => LB c j (by omega))
    omega
  · rw [if_neg c]
    by_cases c0 : kind = 0
    · rw [if_pos c0]
      rcases litW_01 (W := W) (i := i) (h := W 3) with q | q <;> rw [q] <;> decide
    · rw [if_neg c0]
      by_cases c1 : kind = 1
      · rw [if_pos c1]; decide
      · rw [if_neg c1]; decide
/-- a ring fades -/
noncomputable def fd1 (W : jWd) (i : Nat) : jWd × Int32 := (upd W (15 + 8 * i) (if W (15 + 8 * i) + byW W 0 i < (99 : Int32) then W (15 + 8 * i) + byW W 0 i else 99), 0)
def sdW (s : Int32) : Int32 := ((1103515245 : Int32) * s) + (12345 : Int32)
def rnW (s : Int32) : Int32 := ((jushr s (16 : Int32)) &&& (32767 : Int32)) - ((jushr s (16 : Int32)) &&& (32767 : Int32)) / (100 : Int32) * (100 : Int32)
noncomputable def ct1 (W : jWd) (i : Nat) : jWd × Int32 :=
  if ((i : Int) + 1 < (W 0).toInt ∧ W (11 + 8 * (i + 1)) - W (11 + 8 * i) = 1) ∧ W (18 + 8 * i) ≠ 1 then
    (if rnW (sdW (W 10)) < byW (upd W 10 (sdW (W 10))) 1 i then (tlW (upd (upd W 10 (sdW (W 10))) (18 + 8 * i) 1) i (nI i) (nI 1) (nI 0), 1) else (upd W 10 (sdW (W 10)), 0))
  else (W, 0)
noncomputable def fl1 (W : jWd) (i : Nat) : jWd × Int32 :=
  if W (17 + 8 * i) = 1 then
    (if rnW (sdW (W 10)) < byW (upd W 10 (sdW (W 10))) 2 i then (tlW (upd (upd W 10 (sdW (W 10))) (17 + 8 * i) 0) i (nI i) (nI 2) (nI 0), 1) else (upd W 10 (sdW (W 10)), 0))
  else (W, 0)
def itW (f : jWd → Nat → jWd × Int32) : Nat → Nat → jWd → Int32 → jWd × Int32
  | _, 0, W, a => (W, a)
  | i, m + 1, W, a => itW f (i + 1) m (f W i).1 (a + (f W i).2)
def tuW (W : jWd) : jWd := if (W 3).toInt < 7 then upd W 3 (W 3 + 1) else upd (upd W 3 0) 4 (if W 4 + 1 < (9999 : Int32) then W 4 + 1 else 9999)
theorem wOK_fd {W : jWd} {i : Nat} (K : wOK W) (LK : lawK W) (LB : lawB W) (hi : (i : Int) < (W 0).toInt) : wOK (fd1 W i).1 ∧ (∀ k, k < 11 ∨ 75 ≤ k → (fd1 W i).1 k = W k) := by
  have K0 := K.1
  have e : ∀ k, k ≠ 15 + 8 * i → (fd1 W i).1 k = W k := fun k h => upd_ne h
  have b := byW_b (kind := 0) (i := i) LK LB
  have f := (K.2.1 i hi).2.2.2.2.1
  have l99 : (99 : Int32).toInt = 99 := rfl
  have j1 := jadd (x := W (15 + 8 * i)) (y := byW W 0 i) (by omega) (by omega)
  have v : 0 ≤ ((fd1 W i).1 (15 + 8 * i)).toInt ∧ ((fd1 W i).1 (15 + 8 * i)).toInt ≤ 99 := by
    show 0 ≤ (upd W (15 + 8 * i) _ (15 + 8 * i)).toInt ∧ (upd W (15 + 8 * i) _ (15 + 8 * i)).toInt ≤ 99
    rw [upd_eq]
    by_cases c : W (15 + 8 * i) + byW W 0 i < (99 : Int32)
    · rw [if_pos c, j1]; rw [Int32.lt_iff_toInt_lt, j1] at c; omega
    · rw [if_neg c]; decide
  refine ⟨?_, fun k hk => e k (by omega)⟩
  obtain ⟨k0, k1, k2, k3, k4, k5, k6, k7, k8, k9, k10⟩ := K
  unfold wOK
  rw [e 0 (by omega), e 3 (by omega), e 4 (by omega), e 5 (by omega), e 6 (by omega), e 8 (by omega), e 9 (by omega), e 1 (by omega)]
  refine ⟨k0, fun j hj => ?_, fun j hj => ?_, fun j hj => ?_, k4, k5, k6, k7, k8, k9, k10⟩
  · rw [e (11 + 8 * j) (by omega), e (12 + 8 * j) (by omega), e (13 + 8 * j) (by omega), e (14 + 8 * j) (by omega), e (16 + 8 * j) (by omega), e (17 + 8 * j) (by omega), e (18 + 8 * j) (by omega)]
    obtain ⟨a1, a2, a3, a4, a5, a6⟩ := k1 j hj
    by_cases q : j = i
    · subst q; exact ⟨a1, a2, a3, a4, v, a6⟩
    · rw [e (15 + 8 * j) (by omega)]; exact ⟨a1, a2, a3, a4, a5, a6⟩
  · rw [e _ (by omega), e _ (by omega)]; exact k2 j hj
  · rw [e _ (by omega)]; exact k3 j hj
theorem wOK_10 {W : jWd} {x : Int32} (K : wOK W) : wOK (upd W 10 x) := by
  have e : ∀ k, k ≠ 10 → upd W 10 x k = W k := fun k h => upd_ne h
  obtain ⟨k0, k1, k2, k3, k4, k5, k6, k7, k8, k9, k10⟩ := K
  unfold wOK
  rw [e 0 (by omega), e 3 (by omega), e 4 (by omega), e 5 (by omega), e 6 (by omega), e 8 (by omega), e 9 (by omega), e 1 (by omega)]
  refine ⟨k0, fun j hj => ?_, fun j hj => ?_, fun j hj => ?_, k4, k5, k6, k7, k8, k9, k10⟩
  · rw [e _ (by omega), e _ (by omega), e _ (by omega), e _ (by omega), e _ (by omega), e _ (by omega), e _ (by omega), e _ (by omega)]; exact k1 j hj
  · rw [e _ (by omega), e _ (by omega)]; exact k2 j hj
  · rw [e _ (by omega)]; exact k3 j hj
/-- a ring is caught, or freed; the last one never caught -/
theorem wOK_ct {W : jWd} {i : Nat} {x : Int32} (K : wOK W) (hx : x = 0 ∨ (x = 1 ∧ (i : Int) + 1 < (W 0).toInt)) : wOK (upd W (18 + 8 * i) x) := by
  have K0 := K.1
  have e : ∀ k, k ≠ 18 + 8 * i → upd W (18 + 8 * i) x k = W k := fun k h => upd_ne h
  obtain ⟨k0, k1, k2, k3, k4, k5, k6, k7, k8, k9, k10⟩ := K
  unfold wOK
  rw [e 0 (by omega), e 3 (by omega), e 4 (by omega), e 5 (by omega), e 6 (by omega), e 8 (by omega), e 9 (by omega), e 1 (by omega)]
  refine ⟨k0, fun j hj => ?_, fun j hj => ?_, fun j hj => ?_, k4, k5, k6, k7, k8, k9, k10⟩
  · rw [e (11 + 8 * j) (by omega), e (12 + 8 * j) (by omega), e (13 + 8 * j) (by omega), e (14 + 8 * j) (by omega), e (15 + 8 * j) (by omega), e (16 + 8 * j) (by omega), e (17 + 8 * j) (by omega)]
    obtain ⟨a1, a2, a3, a4, a5, a6, a7, a8⟩ := k1 j hj
    refine ⟨a1, a2, a3, a4, a5, a6, a7, ?_⟩
    by_cases q : j = i
    · subst q; rw [upd_eq]; exact hx.elim Or.inl (fun z => Or.inr z.1)
    · rw [e (18 + 8 * j) (by omega)]; exact a8
  · rw [e _ (by omega), e _ (by omega)]; exact k2 j hj
  · by_cases q : j = i
    · subst q; rw [upd_eq]; exact hx.elim id (fun z => absurd z.2 (by omega))
    · rw [e _ (by omega)]; exact k3 j hj
theorem wOK_hk {W : jWd} {i : Nat} {x : Int32} (K : wOK W) (hx : x = 0 ∨ x = 1) : wOK (upd W (17 + 8 * i) x) := by
  have K0 := K.1
  have e : ∀ k, k ≠ 17 + 8 * i → upd W (17 + 8 * i) x k = W k := fun k h => upd_ne h
  obtain ⟨k0, k1, k2, k3, k4, k5, k6, k7, k8, k9, k10⟩ := K
  unfold wOK
  rw [e 0 (by omega), e 3 (by omega), e 4 (by omega), e 5 (by omega), e 6 (by omega), e 8 (by omega), e 9 (by omega), e 1 (by omega)]
  refine ⟨k0, fun j hj => ?_, fun j hj => ?_, fun j hj => ?_, k4, k5, k6, k7, k8, k9, k10⟩
  · rw [e (11 + 8 * j) (by omega), e (12 + 8 * j) (by omega), e (13 + 8 * j) (by omega), e (14 + 8 * j) (by omega), e (15 + 8 * j) (by omega), e (16 + 8 * j) (by omega), e (18 + 8 * j) (by omega)]
    obtain ⟨a1, a2, a3, a4, a5, a6, a7, a8⟩ := k1 j hj
    refine ⟨a1, a2, a3, a4, a5, a6, ?_, a8⟩
    by_cases q : j = i
    · subst q; rw [upd_eq]; exact hx
    · rw [e (17 + 8 * j) (by omega)]; exact a7
  · rw [e _ (by omega), e _ (by omega)]; exact k2 j hj
  · rw [e _ (by omega)]; exact k3 j hj
theorem wOK_tl {W : jWd} {r : Nat} {x kind far : Int32} (K : wOK W) : wOK (tlW W r x kind far) := by
  have e : ∀ k, k ≠ 9 ∧ k < 75 → tlW W r x kind far k = W k := fun k h => tlW_n (Or.inl h)
  have K0 := K.1
  obtain ⟨k0, k1, k2, k3, k4, k5, k6, k7, k8, k9, k10⟩ := K
  have l1 : (1 : Int32).toInt = 1 := rfl
  have v : 0 ≤ (tlW W r x kind far 9).toInt ∧ (tlW W r x kind far 9).toInt ≤ 60 := by
    show 0 ≤ (if W 9 + 1 < (60 : Int32) then W 9 + 1 else 60).toInt ∧ (if W 9 + 1 < (60 : Int32) then W 9 + 1 else 60).toInt ≤ 60
    have j1 := jadd (x := W 9) (y := 1) (by omega) (by omega)
    by_cases c : W 9 + 1 < (60 : Int32)
    · rw [if_pos c, j1]; rw [Int32.lt_iff_toInt_lt, j1, show (60 : Int32).toInt = 60 from rfl] at c; omega
    · rw [if_neg c]; decide
  unfold wOK
  rw [e 0 (by omega), e 3 (by omega), e 4 (by omega), e 5 (by omega), e 6 (by omega), e 8 (by omega), e 1 (by omega)]
  refine ⟨k0, fun j hj => ?_, fun j hj => ?_, fun j hj => ?_, k4, k5, k6, k7, k8, v, k10⟩
  · rw [e _ (by omega), e _ (by omega), e _ (by omega), e _ (by omega), e _ (by omega), e _ (by omega), e _ (by omega), e _ (by omega)]; exact k1 j hj
  · rw [e _ (by omega), e _ (by omega)]; exact k2 j hj
  · rw [e _ (by omega)]; exact k3 j hj
theorem wOK_tu {W : jWd} (K : wOK W) : wOK (tuW W) := by
  have K0 := K.1
  obtain ⟨k0, k1, k2, k3, k4, k5, k6, k7, k8, k9, k10⟩ := K
  have l1 : (1 : Int32).toInt = 1 := rfl
  unfold tuW
  by_cases c : (W 3).toInt < 7
  · rw [if_pos c]
    have e : ∀ k, k ≠ 3 → upd W 3 (W 3 + 1) k = W k := fun k h => upd_ne h
    have v : 0 ≤ (upd W 3 (W 3 + 1) 3).toInt ∧ (upd W 3 (W 3 + 1) 3).toInt ≤ 7 := by rw [upd_eq, jadd (by omega) (by omega)]; omega
    unfold wOK
    rw [e 0 (by omega), e 4 (by omega), e 5 (by omega), e 6 (by omega), e 8 (by omega), e 9 (by omega), e 1 (by omega)]
    refine ⟨k0, fun j hj => ?_, fun j hj => ?_, fun j hj => ?_, v, k5, k6, k7, k8, k9, k10⟩
    · rw [e _ (by omega), e _ (by omega), e _ (by omega), e _ (by omega), e _ (by omega), e _ (by omega), e _ (by omega), e _ (by omega)]; exact k1 j hj
    · rw [e _ (by omega), e _ (by omega)]; exact k2 j hj
    · rw [e _ (by omega)]; exact k3 j hj
  · rw [if_neg c]
    generalize hv : (if W 4 + 1 < (9999 : Int32) then W 4 + 1 else 9999) = v4
    have v : 0 ≤ v4.toInt ∧ v4.toInt ≤ 9999 := by
      rw [← hv]
      have j1 := jadd (x := W 4) (y := 1) (by omega) (by omega)
      by_cases c : W 4 + 1 < (9999 : Int32)
      · rw [if_pos c, j1]; rw [Int32.lt_iff_toInt_lt, j1, show (9999 : Int32).toInt = 9999 from rfl] at c; omega
      · rw [if_neg c]; decide
    have e : ∀ k, k ≠ 3 → k ≠ 4 → upd (upd W 3 0) 4 v4 k = W k := fun k h h4 => (upd_ne h4).trans (upd_ne h)
    have e3 : upd (upd W 3 0) 4 v4 3 = 0 := (upd_ne (by decide)).trans upd_eq
    unfold wOK
    rw [e 0 (by omega) (by omega), e3, upd_eq, e 5 (by omega) (by omega), e 6 (by omega) (by omega), e 8 (by omega) (by omega), e 9 (by omega) (by omega), e 1 (by omega) (by omega)]
    refine ⟨k0, fun j hj => ?_, fun j hj => ?_, fun j hj => ?_, by decide, v, k6, k7, k8, k9, k10⟩
    · rw [e _ (by omega) (by omega), e _ (by omega) (by omega), e _ (by omega) (by omega), e _ (by omega) (by omega), e _ (by omega) (by omega), e _ (by omega) (by omega), e _ (by omega) (by omega), e _ (by omega) (by omega)]; exact k1 j hj
    · rw [e _ (by omega) (by omega), e _ (by omega) (by omega)]; exact k2 j hj
    · rw [e _ (by omega) (by omega)]; exact k3 j hj
end
section
/-! hours of the class -/
def frRL (r l : Nat) (O O2 : jO) : Prop := ∀ a k, ¬ (r ≤ a ∧ a ≤ r + 6) → a ≠ l + 5 → ¬ (a = l ∧ k = 5) → O2 a k = O a k
theorem frRL_rfl {r l : Nat} {O : jO} : frRL r l O O := fun _ _ _ _ _ => rfl
theorem frRL_tr {r l : Nat} {O O2 O3 : jO} (a : frRL r l O O2) (b : frRL r l O2 O3) : frRL r l O O3 := fun x k h q z => (b x k h q z).trans (a x k h q z)
theorem frRL_R {r l : Nat} {O O2 : jO} (f : frR r O O2) : frRL r l O O2 := fun a k h _ _ => f a k (by omega)
theorem frRL_L {r l : Nat} {O O2 : jO} (f : frL l O O2) : frRL r l O O2 := fun a k _ h q => f a k h q
theorem lawE_R {O O2 : jO} {l r : Nat} {W : jWd} (L : lawE O l W) (f : frR r O O2) (dj : r + 6 < l ∨ l + 5 < r) : lawE O2 l W := lawE_fr L (fun a k h1 h2 _ => f a k (by omega))
theorem lawE_L {O O2 : jO} {l : Nat} {W : jWd} (L : lawE O l W) (f : frL l O O2) : lawE O2 l W := lawE_fr L (fun a k h1 h2 h3 => f a k (by omega) h3)
/-- clock at c, law at l, rod at r: all tell the world -/
def clkE (O : jO) (c l r : Nat) (W : jWd) : Prop := O c 0 = .ref l ∧ rodE O r W ∧ lawE O l W ∧ wOK W
abbrev clkD (c l r : Nat) : Prop := (r + 6 < l ∨ l + 5 < r) ∧ (c < r ∨ r + 6 < c) ∧ (c < l ∨ l + 5 < c)
theorem clk_R {O O2 : jO} {c l r : Nat} {W W2 : jWd} (C : clkE O c l r W) (D : clkD c l r) (f : frR r O O2) (R : rodE O2 r W2) (K : wOK W2) (h : ∀ k, k = 2 ∨ 435 ≤ k → W2 k = W k) : clkE O2 c l r W2 :=
  ⟨(f _ _ (by omega)).trans C.1, R, lawE_cg (lawE_R C.2.2.1 f D.1) h, K⟩
theorem clk_L {O O2 : jO} {c l r : Nat} {W : jWd} (C : clkE O c l r W) (D : clkD c l r) (f : frL l O O2) : clkE O2 c l r W :=
  ⟨(f _ _ (by omega) (by omega)).trans C.1, rodE_L C.2.1 f D.1, lawE_L C.2.2.1 f, C.2.2.2⟩
theorem ct_0 {W : jWd} {i : Nat} (h : ¬ (((i : Int) + 1 < (W 0).toInt ∧ W (11 + 8 * (i + 1)) - W (11 + 8 * i) = 1) ∧ W (18 + 8 * i) ≠ 1)) : ct1 W i = (W, 0) := if_neg h
theorem ct_1 {W : jWd} {i : Nat} (h : ((i : Int) + 1 < (W 0).toInt ∧ W (11 + 8 * (i + 1)) - W (11 + 8 * i) = 1) ∧ W (18 + 8 * i) ≠ 1) (h2 : ¬ rnW (sdW (W 10)) < byW (upd W 10 (sdW (W 10))) 1 i) : ct1 W i = (upd W 10 (sdW (W 10)), 0) := (if_pos h).trans (if_neg h2)
theorem ct_2 {W : jWd} {i : Nat} (h : ((i : Int) + 1 < (W 0).toInt ∧ W (11 + 8 * (i + 1)) - W (11 + 8 * i) = 1) ∧ W (18 + 8 * i) ≠ 1) (h2 : rnW (sdW (W 10)) < byW (upd W 10 (sdW (W 10))) 1 i) : ct1 W i = (tlW (upd (upd W 10 (sdW (W 10))) (18 + 8 * i) 1) i (nI i) (nI 1) (nI 0), 1) := (if_pos h).trans (if_pos h2)
theorem fl_0 {W : jWd} {i : Nat} (h : ¬ W (17 + 8 * i) = 1) : fl1 W i = (W, 0) := if_neg h
theorem fl_1 {W : jWd} {i : Nat} (h : W (17 + 8 * i) = 1) (h2 : ¬ rnW (sdW (W 10)) < byW (upd W 10 (sdW (W 10))) 2 i) : fl1 W i = (upd W 10 (sdW (W 10)), 0) := (if_pos h).trans (if_neg h2)
theorem fl_2 {W : jWd} {i : Nat} (h : W (17 + 8 * i) = 1) (h2 : rnW (sdW (W 10)) < byW (upd W 10 (sdW (W 10))) 2 i) : fl1 W i = (tlW (upd (upd W 10 (sdW (W 10))) (17 + 8 * i) 0) i (nI i) (nI 2) (nI 0), 1) := (if_pos h).trans (if_pos h2)
theorem it_s {f : jWd → Nat → jWd × Int32} {W W2 : jWd} {i m : Nat} {a v : Int32} (h : f W i = (W2, v)) : itW f i (m + 1) W a = itW f (i + 1) m W2 (a + v) := by
  show itW f (i + 1) m (f W i).1 (a + (f W i).2) = _
  rw [h]
theorem it_z {f : jWd → Nat → jWd × Int32} {W W2 : jWd} {i m : Nat} {a : Int32} (h : f W i = (W2, 0)) : itW f i (m + 1) W a = itW f (i + 1) m W2 a := by
  rw [it_s h, Int32.add_zero]
theorem bit_y {x y : Int32} {i : Nat} (hi : i < 32) (h : y = x ||| ((1 : Int32) <<< (nI i &&& 31))) : ∀ j, j < 32 → (bt y j = true ↔ (if j = i then (1 : Int32) = 1 else bt x j = true)) := by
  intro j hj
  rw [h, b_set hi hj, Bool.or_eq_true, decide_eq_true_iff]
  by_cases q : j = i
  · rw [if_pos q]; exact ⟨fun _ => rfl, fun _ => Or.inr q⟩
  · rw [if_neg q]; exact ⟨fun z => z.resolve_right q, Or.inl⟩
theorem bit_n {x y : Int32} {i : Nat} (hi : i < 32) (h : y = x &&& (((1 : Int32) <<< (nI i &&& 31)) ^^^ (-1 : Int32))) : ∀ j, j < 32 → (bt y j = true ↔ (if j = i then (0 : Int32) = 1 else bt x j = true)) := by
  intro j hj
  rw [h, b_clr hi hj, Bool.and_eq_true]
  by_cases q : j = i
  · rw [if_pos q, decide_eq_true q]; exact ⟨fun z => absurd z.2 (by decide), fun z => absurd z (by decide)⟩
  · rw [if_neg q, decide_eq_false q]; exact ⟨fun z => z.1, fun z => ⟨z, rfl⟩⟩
theorem E_X1_draw {W : jWd} {n : Nat} {a0 : Nat} {h : jH} {q : Int32 × jH} (R : rodE (oc h) a0 W) (hf : F_X1_draw n a0 h = some q) : q.1 = rnW (sdW (W 10)) ∧ oc q.2 = u2 (oc h) a0 16 (.int (sdW (W 10))) ∧ q.2.1 = h.1 := by
  unfold F_X1_draw at hf
  obtain ⟨⟨s0, s1, s2, s3, s4, s5⟩, ⟨u5, u10, u11, u12, u13, u14, u15, u16, u17⟩, RB, RC, RL⟩ := id R
  replace hf := jbind hf
  obtain ⟨v4, e1, hf⟩ := hf
  have r1 := oc_gI e1
  subst r1
  clear e1
  replace hf := jbind hf
  obtain ⟨h12, e2, hf⟩ := hf
  obtain ⟨o2, z2⟩ := oc_pf e2
  clear e2
  replace hf := jbind hf
  obtain ⟨v16, e3, hf⟩ := hf
  have r3 := oc_gI e3
  rw [o2] at r3
  rw [oi_eq] at r3
  subst r3
  clear e3
  cases hf
  -- leaf : (((jushr v16 (16 : Int32)) &&& (32767 : Int32)) - ((jushr v16 (16 : Int32)) &&& (32767 : Int32)) / (
  rw [u16] at o2 ⊢
  exact ⟨rfl, o2, z2⟩
theorem E_X1_fadeAll_2 {n : Nat} {l : Nat} : ∀ (k : Nat) {a0 : Nat} {a1 : Nat} {x2 : Int32} {h : jH} {q : jH} (W : jWd) (i : Nat) (m : Nat) (C : clkE (oc h) a0 l a1 W) (D : clkD a0 l a1) (hx : x2 = nI i) (hm : ((i + m : Nat) : Int) = (W 0).toInt), F_X1_fadeAll_2 n k a0 a1 x2 h = some q → clkE (oc q) a0 l a1 (itW fd1 i m W 0).1 ∧ frRL a1 l (oc h) (oc q) ∧ q.1 = h.1
  | 0, a0, a1, x2, h, q, W, i, m, C, D, hx, hm, hf => by cases hf
  | k + 1, a0, a1, x2, h, q, W, i, m, C, D, hx, hm, hf => by
    replace hf : F_X1_fadeAll_2_b n (F_X1_fadeAll_2 n k) a0 a1 x2 h = some q := hf
    unfold F_X1_fadeAll_2_b at hf
    obtain ⟨C1, R, LE, K⟩ := id C
    obtain ⟨⟨s0, s1, s2, s3, s4, s5⟩, ⟨u5, u10, u11, u12, u13, u14, u15, u16, u17⟩, RB, RC, RL⟩ := id R
    have K0 := K.1
    replace hf := jbind hf
    obtain ⟨v4, e1, hf⟩ := hf
    have r1 := oc_gI e1
    subst r1
    clear e1
    replace hf := jite hf
    rcases hf with ⟨c2, hf⟩ | ⟨c2, hf⟩
    · skip
      cases hf
      -- leaf 0: h
      rw [hx, u5, nI_eI (by omega)] at c2
      have : m = 0 := by omega
      subst this
      exact ⟨C, frRL_rfl, rfl⟩
    · skip
      replace hf := jbind hf
      obtain ⟨p11, e3, hf⟩ := hf
      have r3 := oc_gR e3
      rw [s2] at r3
      cases r3
      clear e3
      replace hf := jbind hf
      obtain ⟨p18, e4, hf⟩ := hf
      have r4 := oc_gR e4
      rw [s2] at r4
      cases r4
      clear e4
      replace hf := jbind hf
      obtain ⟨v22, e5, hf⟩ := hf
      obtain ⟨r5, y5⟩ := oc_al e5
      subst r5
      clear e5
      replace hf := jbind hf
      obtain ⟨p24, e6, hf⟩ := hf
      have r6 := oc_gR e6
      rw [C1] at r6
      cases r6
      clear e6
      replace hf := jbind hf
      obtain ⟨q30, e7, hf⟩ := hf
      replace e7 := (jcv_o e7).2
      replace hf := jbind hf
      obtain ⟨h37, e8, hf⟩ := hf
      obtain ⟨o8, z8, y8⟩ := oc_as e8
      rw [jnar0] at o8
      clear e8
      -- leaf 1: rc2 a0 a1 (x2 + (1 : Int32)) h37
      have hi : (i : Int) < (W 0).toInt := by rw [hx, u5, nI_eI (by omega)] at c2; omega
      obtain ⟨m, rfl⟩ : ∃ p, m = p + 1 := ⟨m - 1, by omega⟩
      obtain ⟨b1, b2, b3⟩ := E_X2_amount R K hi LE D.1 hx e7
      have C2 := clk_L C D b2
      have R2 := C2.2.1
      rw [hx, nI_cl (by omega), (RB i hi).2.2.2.2.1, b1] at o8
      obtain ⟨g1, g2⟩ := wOK_fd K (lawK_of LE) (lawB_of LE) hi
      have f3 : frR a1 (oc q30.2) (oc h37) := by rw [o8]; exact frR_u2 (by omega)
      have C3 : clkE (oc h37) a0 l a1 (fd1 W i).1 := clk_R C2 D f3 (by rw [o8]; exact rodE_fd R2 (by omega)) g1 (fun k hk => g2 k (by omega))
      obtain ⟨d1, d2, d3⟩ := E_X1_fadeAll_2 k (fd1 W i).1 (i + 1) m C3 D (by rw [hx, nI_1]) (by rw [g2 0 (by omega)]; omega) hf
      refine ⟨?_, frRL_tr (frRL_tr (frRL_L b2) (frRL_R f3)) d2, d3.trans (z8.trans b3)⟩
      have e : (itW fd1 i (m + 1) W 0).1 = (itW fd1 (i + 1) m (fd1 W i).1 0).1 := rfl
      rw [e]
      exact d1
theorem E_X1_catchSome_4 {n : Nat} {l : Nat} : ∀ (k : Nat) {a0 : Nat} {a1 : Nat} {x2 : Int32} {x3 : Int32} {h : jH} {q : Int32 × jH} (W : jWd) (i : Nat) (m : Nat) (C : clkE (oc h) a0 l a1 W) (D : clkD a0 l a1) (hx : x3 = nI i) (hm : ((i + m : Nat) : Int) = (W 0).toInt), F_X1_catchSome_4 n k a0 a1 x2 x3 h = some q → clkE (oc q.2) a0 l a1 (itW ct1 i m W x2).1 ∧ q.1 = (itW ct1 i m W x2).2 ∧ frRL a1 l (oc h) (oc q.2) ∧ q.2.1 = h.1
  | 0, a0, a1, x2, x3, h, q, W, i, m, C, D, hx, hm, hf => by cases hf
  | k + 1, a0, a1, x2, x3, h, q, W, i, m, C, D, hx, hm, hf => by
    replace hf : F_X1_catchSome_4_b n (F_X1_catchSome_4 n k) a0 a1 x2 x3 h = some q := hf
    unfold F_X1_catchSome_4_b at hf
    obtain ⟨C1, R, LE, K⟩ := id C
    obtain ⟨⟨s0, s1, s2, s3, s4, s5⟩, ⟨u5, u10, u11, u12, u13, u14, u15, u16, u17⟩, RB, RC, RL⟩ := id R
    have K0 := K.1
    replace hf := jbind hf
    obtain ⟨v6, e1, hf⟩ := hf
    have r1 := oc_gI e1
    subst r1
    clear e1
    replace hf := jite hf
    rcases hf with ⟨c2, hf⟩ | ⟨c2, hf⟩
    · skip
      cases hf
      -- leaf 0: (x2, h)
      rw [hx, u5, nI_eI (by omega)] at c2
      have : m = 0 := by omega
      subst this
      exact ⟨C, rfl, frRL_rfl, rfl⟩
    · skip
      replace hf := jbind hf
      obtain ⟨v15, e3, hf⟩ := hf
      replace e3 := (jcv_o e3).2
      have hi : (i : Int) < (W 0).toInt := by rw [hx, u5, nI_eI (by omega)] at c2; omega
      have r3 := E_X8_gap (i := i) R K hx (by omega) e3
      replace hf := jite hf
      rcases hf with ⟨c4, hf⟩ | ⟨c4, hf⟩
      · skip
        replace hf := jbind hf
        obtain ⟨v23, e5, hf⟩ := hf
        have r5 := oc_gI e5
        subst r5
        clear e5
        replace hf := jbind hf
        obtain ⟨v27, e6, hf⟩ := hf
        replace hf := jite hf
        rcases hf with ⟨c7, hf⟩ | ⟨c7, hf⟩
        · skip
          replace hf := jbind hf
          obtain ⟨q34, e8, hf⟩ := hf
          obtain ⟨d1, d2, d3⟩ := E_X1_draw R e8
          have f2 : frR a1 (oc h) (oc q34.2) := by rw [d2]; exact frR_u2 (by omega)
          have C2 : clkE (oc q34.2) a0 l a1 (upd W 10 (sdW (W 10))) := clk_R C D f2 (by rw [d2]; exact rodE_i16 R) (wOK_10 K) (fun k hk => upd_ne (by omega))
          obtain ⟨C1b, Rb, LEb, Kb⟩ := id C2
          obtain ⟨⟨s0b, s1b, s2b, s3b, s4b, s5b⟩, ⟨u5b, u10b, u11b, u12b, u13b, u14b, u15b, u16b, u17b⟩, RBb, RCb, RLb⟩ := id Rb
          replace hf := jbind hf
          obtain ⟨p38, e9, hf⟩ := hf
          have r9 := oc_gR e9
          rw [C1b] at r9
          cases r9
          clear e9
          replace hf := jbind hf
          obtain ⟨q44, e10, hf⟩ := hf
          replace e10 := (jcv_o e10).2
          have w0 : upd W 10 (sdW (W 10)) 0 = W 0 := upd_ne (by omega)
          obtain ⟨b1, b2, b3⟩ := E_X2_amount Rb Kb (by rw [w0]; exact hi) LEb D.1 hx e10
          have C3 := clk_L C2 D b2
          obtain ⟨C1c, Rc, LEc, Kc⟩ := id C3
          obtain ⟨⟨s0c, s1c, s2c, s3c, s4c, s5c⟩, ⟨u5c, u10c, u11c, u12c, u13c, u14c, u15c, u16c, u17c⟩, RBc, RCc, RLc⟩ := id Rc
          replace hf := jite hf
          rcases hf with ⟨c11, hf⟩ | ⟨c11, hf⟩
          · skip
            -- leaf 1000: rc4 a0 a1 x2 (x3 + (1 : Int32)) q44.2
            replace e6 := Option.some.inj (show some ((jushr (oi (oc h) a1 9) x3) &&& (1 : Int32)) = some v27 from e6)
            rw [hx, bitW (by omega) (RB i hi).2.2.2.2.2.2.2 (K.2.1 i hi).2.2.2.2.2.2.2] at e6
            have cond : ((i : Int) + 1 < (W 0).toInt ∧ W (11 + 8 * (i + 1)) - W (11 + 8 * i) = 1) ∧ W (18 + 8 * i) ≠ 1 := by
              have lt : (i : Int) + 1 < (W 0).toInt := Classical.byContradiction fun z => by rw [r3, if_neg z] at c4; exact absurd c4 (by decide)
              rw [r3, if_pos lt] at c4
              exact ⟨⟨lt, c4⟩, by rw [e6, c7]; decide⟩
            obtain ⟨m, rfl⟩ : ∃ p, m = p + 1 := ⟨m - 1, by omega⟩
            have nl : ¬ rnW (sdW (W 10)) < byW (upd W 10 (sdW (W 10))) 1 i := by rw [← d1, ← b1, Int32.lt_iff_toInt_lt]; rw [Int32.le_iff_toInt_le] at c11; omega
            rw [it_z (ct_1 cond nl)]
            obtain ⟨g1, g2, g3, g4⟩ := E_X1_catchSome_4 k (upd W 10 (sdW (W 10))) (i + 1) m C3 D (by rw [hx, nI_1]) (by rw [w0]; omega) hf
            exact ⟨g1, g2, frRL_tr (frRL_tr (frRL_R f2) (frRL_L b2)) g3, g4.trans (b3.trans d3)⟩
          · skip
            replace hf := jbind hf
            obtain ⟨v52, e12, hf⟩ := hf
            have r12 := oc_gI e12
            subst r12
            clear e12
            replace hf := jbind hf
            obtain ⟨v57, e13, hf⟩ := hf
            replace hf := jbind hf
            obtain ⟨h60, e14, hf⟩ := hf
            obtain ⟨o14, z14⟩ := oc_pf e14
            clear e14
            replace hf := jbind hf
            obtain ⟨p64, e15, hf⟩ := hf
            have r15 := oc_gR e15
            rw [o14] at r15
            rw [u2_ne (Or.inr (by decide))] at r15
            rw [s4c] at r15
            cases r15
            clear e15
            replace hf := jbind hf
            obtain ⟨h71, e16, hf⟩ := hf
            replace e16 := (jcv_o e16).2
            -- leaf 1001: rc4 a0 a1 (x2 + (1 : Int32)) (x3 + (1 : Int32)) h71
            replace e6 := Option.some.inj (show some ((jushr (oi (oc h) a1 9) x3) &&& (1 : Int32)) = some v27 from e6)
            rw [hx, bitW (by omega) (RB i hi).2.2.2.2.2.2.2 (K.2.1 i hi).2.2.2.2.2.2.2] at e6
            have cond : ((i : Int) + 1 < (W 0).toInt ∧ W (11 + 8 * (i + 1)) - W (11 + 8 * i) = 1) ∧ W (18 + 8 * i) ≠ 1 := by
              have lt : (i : Int) + 1 < (W 0).toInt := Classical.byContradiction fun z => by rw [r3, if_neg z] at c4; exact absurd c4 (by decide)
              rw [r3, if_pos lt] at c4
              exact ⟨⟨lt, c4⟩, by rw [e6, c7]; decide⟩
            obtain ⟨m, rfl⟩ : ∃ p, m = p + 1 := ⟨m - 1, by omega⟩
            have nl : rnW (sdW (W 10)) < byW (upd W 10 (sdW (W 10))) 1 i := by rw [← d1, ← b1, Int32.lt_iff_toInt_lt]; rw [Int32.le_iff_toInt_le] at c11; omega
            rw [it_s (ct_2 cond nl)]
            replace e13 := Option.some.inj (show some (oi (oc q44.2) a1 9 ||| ((1 : Int32) <<< (x3 &&& 31))) = some v57 from e13)
            have R4 : rodE (oc h60) a1 (upd (upd W 10 (sdW (W 10))) (18 + 8 * i) 1) := by
              rw [o14]
              exact rodE_ct Rc (by rw [w0]; exact hi) (by omega) (bit_y (by omega) (by rw [← e13, hx])) (by rw [w0]; exact K0)
            have f4 : frR a1 (oc q44.2) (oc h60) := by rw [o14]; exact frR_u2 (by omega)
            have K4 : wOK (upd (upd W 10 (sdW (W 10))) (18 + 8 * i) 1) := wOK_ct Kc (Or.inr ⟨rfl, by rw [w0]; exact cond.1.1⟩)
            have w4 : upd (upd W 10 (sdW (W 10))) (18 + 8 * i) 1 0 = W 0 := (upd_ne (by omega)).trans w0
            obtain ⟨R5, f5, z5⟩ := E_X5_add (r := i) (kind := 1) (far := 0) rfl R4 K4 hx (by rw [w4]; exact hi) rfl (by decide) rfl (by decide) e16
            have C5 := clk_R C3 D (frR_tr f4 f5) R5 (wOK_tl K4) (fun k hk => (tlW_n (by omega)).trans (upd_ne (by omega)))
            obtain ⟨g1, g2, g3, g4⟩ := E_X1_catchSome_4 k _ (i + 1) m C5 D (by rw [hx, nI_1]) (by rw [tlW_n (Or.inl (by omega)), w4]; omega) hf
            exact ⟨g1, g2, frRL_tr (frRL_tr (frRL_tr (frRL_R f2) (frRL_L b2)) (frRL_R (frR_tr f4 f5))) g3, g4.trans (z5.trans (z14.trans (b3.trans d3)))⟩
        · skip
          -- leaf 101: rc4 a0 a1 x2 (x3 + (1 : Int32)) h
          replace e6 := Option.some.inj (show some ((jushr (oi (oc h) a1 9) x3) &&& (1 : Int32)) = some v27 from e6)
          rw [hx, bitW (by omega) (RB i hi).2.2.2.2.2.2.2 (K.2.1 i hi).2.2.2.2.2.2.2] at e6
          obtain ⟨m, rfl⟩ : ∃ p, m = p + 1 := ⟨m - 1, by omega⟩
          rw [it_z (ct_0 (fun z => by have := (K.2.1 i hi).2.2.2.2.2.2.2; rw [e6] at this z; exact z.2 (this.resolve_left c7)))]
          exact E_X1_catchSome_4 k W (i + 1) m C D (by rw [hx, nI_1]) (by omega) hf
      · skip
        -- leaf 11: rc4 a0 a1 x2 (x3 + (1 : Int32)) h
        obtain ⟨m, rfl⟩ : ∃ p, m = p + 1 := ⟨m - 1, by omega⟩
        rw [it_z (ct_0 (fun z => c4 (by rw [r3, if_pos z.1.1]; exact z.1.2)))]
        exact E_X1_catchSome_4 k W (i + 1) m C D (by rw [hx, nI_1]) (by omega) hf
theorem E_X1_dropSome_4 {n : Nat} {l : Nat} : ∀ (k : Nat) {a0 : Nat} {a1 : Nat} {x2 : Int32} {x3 : Int32} {h : jH} {q : Int32 × jH} (W : jWd) (i : Nat) (m : Nat) (C : clkE (oc h) a0 l a1 W) (D : clkD a0 l a1) (hx : x3 = nI i) (hm : ((i + m : Nat) : Int) = (W 0).toInt), F_X1_dropSome_4 n k a0 a1 x2 x3 h = some q → clkE (oc q.2) a0 l a1 (itW fl1 i m W x2).1 ∧ q.1 = (itW fl1 i m W x2).2 ∧ frRL a1 l (oc h) (oc q.2) ∧ q.2.1 = h.1
  | 0, a0, a1, x2, x3, h, q, W, i, m, C, D, hx, hm, hf => by cases hf
  | k + 1, a0, a1, x2, x3, h, q, W, i, m, C, D, hx, hm, hf => by
    replace hf : F_X1_dropSome_4_b n (F_X1_dropSome_4 n k) a0 a1 x2 x3 h = some q := hf
    unfold F_X1_dropSome_4_b at hf
    obtain ⟨C1, R, LE, K⟩ := id C
    obtain ⟨⟨s0, s1, s2, s3, s4, s5⟩, ⟨u5, u10, u11, u12, u13, u14, u15, u16, u17⟩, RB, RC, RL⟩ := id R
    have K0 := K.1
    replace hf := jbind hf
    obtain ⟨v6, e1, hf⟩ := hf
    have r1 := oc_gI e1
    subst r1
    clear e1
    replace hf := jite hf
    rcases hf with ⟨c2, hf⟩ | ⟨c2, hf⟩
    · skip
      cases hf
      -- leaf 0: (x2, h)
      rw [hx, u5, nI_eI (by omega)] at c2
      have : m = 0 := by omega
      subst this
      exact ⟨C, rfl, frRL_rfl, rfl⟩
    · skip
      replace hf := jbind hf
      obtain ⟨v13, e3, hf⟩ := hf
      have r3 := oc_gI e3
      subst r3
      clear e3
      replace hf := jbind hf
      obtain ⟨v17, e4, hf⟩ := hf
      replace hf := jite hf
      rcases hf with ⟨c5, hf⟩ | ⟨c5, hf⟩
      · skip
        replace hf := jbind hf
        obtain ⟨q25, e6, hf⟩ := hf
        have hi : (i : Int) < (W 0).toInt := by rw [hx, u5, nI_eI (by omega)] at c2; omega
        obtain ⟨d1, d2, d3⟩ := E_X1_draw R e6
        have f2 : frR a1 (oc h) (oc q25.2) := by rw [d2]; exact frR_u2 (by omega)
        have C2 : clkE (oc q25.2) a0 l a1 (upd W 10 (sdW (W 10))) := clk_R C D f2 (by rw [d2]; exact rodE_i16 R) (wOK_10 K) (fun k hk => upd_ne (by omega))
        obtain ⟨C1b, Rb, LEb, Kb⟩ := id C2
        obtain ⟨⟨s0b, s1b, s2b, s3b, s4b, s5b⟩, ⟨u5b, u10b, u11b, u12b, u13b, u14b, u15b, u16b, u17b⟩, RBb, RCb, RLb⟩ := id Rb
        replace hf := jbind hf
        obtain ⟨p29, e7, hf⟩ := hf
        have r7 := oc_gR e7
        rw [C1b] at r7
        cases r7
        clear e7
        replace hf := jbind hf
        obtain ⟨q35, e8, hf⟩ := hf
        replace e8 := (jcv_o e8).2
        have w0 : upd W 10 (sdW (W 10)) 0 = W 0 := upd_ne (by omega)
        obtain ⟨b1, b2, b3⟩ := E_X2_amount Rb Kb (by rw [w0]; exact hi) LEb D.1 hx e8
        have C3 := clk_L C2 D b2
        obtain ⟨C1c, Rc, LEc, Kc⟩ := id C3
        obtain ⟨⟨s0c, s1c, s2c, s3c, s4c, s5c⟩, ⟨u5c, u10c, u11c, u12c, u13c, u14c, u15c, u16c, u17c⟩, RBc, RCc, RLc⟩ := id Rc
        replace hf := jite hf
        rcases hf with ⟨c9, hf⟩ | ⟨c9, hf⟩
        · skip
          -- leaf 100: rc4 a0 a1 x2 (x3 + (1 : Int32)) q35.2
          replace e4 := Option.some.inj (show some ((jushr (oi (oc h) a1 8) x3) &&& (1 : Int32)) = some v17 from e4)
          rw [hx, bitW (by omega) (RB i hi).2.2.2.2.2.2.1 (K.2.1 i hi).2.2.2.2.2.2.1] at e4
          have cond : W (17 + 8 * i) = 1 := e4.trans c5
          obtain ⟨m, rfl⟩ : ∃ p, m = p + 1 := ⟨m - 1, by omega⟩
          have nl : ¬ rnW (sdW (W 10)) < byW (upd W 10 (sdW (W 10))) 2 i := by rw [← d1, ← b1, Int32.lt_iff_toInt_lt]; rw [Int32.le_iff_toInt_le] at c9; omega
          rw [it_z (fl_1 cond nl)]
          obtain ⟨g1, g2, g3, g4⟩ := E_X1_dropSome_4 k (upd W 10 (sdW (W 10))) (i + 1) m C3 D (by rw [hx, nI_1]) (by rw [w0]; omega) hf
          exact ⟨g1, g2, frRL_tr (frRL_tr (frRL_R f2) (frRL_L b2)) g3, g4.trans (b3.trans d3)⟩
        · skip
          replace hf := jbind hf
          obtain ⟨v43, e10, hf⟩ := hf
          have r10 := oc_gI e10
          subst r10
          clear e10
          replace hf := jbind hf
          obtain ⟨v48, e11, hf⟩ := hf
          replace hf := jbind hf
          obtain ⟨h51, e12, hf⟩ := hf
          obtain ⟨o12, z12⟩ := oc_pf e12
          clear e12
          replace hf := jbind hf
          obtain ⟨p55, e13, hf⟩ := hf
          have r13 := oc_gR e13
          rw [o12] at r13
          rw [u2_ne (Or.inr (by decide))] at r13
          rw [s4c] at r13
          cases r13
          clear e13
          replace hf := jbind hf
          obtain ⟨h62, e14, hf⟩ := hf
          replace e14 := (jcv_o e14).2
          -- leaf 101: rc4 a0 a1 (x2 + (1 : Int32)) (x3 + (1 : Int32)) h62
          replace e4 := Option.some.inj (show some ((jushr (oi (oc h) a1 8) x3) &&& (1 : Int32)) = some v17 from e4)
          rw [hx, bitW (by omega) (RB i hi).2.2.2.2.2.2.1 (K.2.1 i hi).2.2.2.2.2.2.1] at e4
          have cond : W (17 + 8 * i) = 1 := e4.trans c5
          obtain ⟨m, rfl⟩ : ∃ p, m = p + 1 := ⟨m - 1, by omega⟩
          have nl : rnW (sdW (W 10)) < byW (upd W 10 (sdW (W 10))) 2 i := by rw [← d1, ← b1, Int32.lt_iff_toInt_lt]; rw [Int32.le_iff_toInt_le] at c9; omega
          rw [it_s (fl_2 cond nl)]
          replace e11 := Option.some.inj (show some (oi (oc q35.2) a1 8 &&& (((1 : Int32) <<< (x3 &&& 31)) ^^^ (-1 : Int32))) = some v48 from e11)
          have R4 : rodE (oc h51) a1 (upd (upd W 10 (sdW (W 10))) (17 + 8 * i) 0) := by
            rw [o12]
            exact rodE_hk Rc (by rw [w0]; exact hi) (by omega) (bit_n (by omega) (by rw [← e11, hx])) (by rw [w0]; exact K0)
          have f4 : frR a1 (oc q35.2) (oc h51) := by rw [o12]; exact frR_u2 (by omega)
          have K4 : wOK (upd (upd W 10 (sdW (W 10))) (17 + 8 * i) 0) := wOK_hk Kc (Or.inl rfl)
          have w4 : upd (upd W 10 (sdW (W 10))) (17 + 8 * i) 0 0 = W 0 := (upd_ne (by omega)).trans w0
          obtain ⟨R5, f5, z5⟩ := E_X5_add (r := i) (kind := 2) (far := 0) rfl R4 K4 hx (by rw [w4]; exact hi) rfl (by decide) rfl (by decide) e14
          have C5 := clk_R C3 D (frR_tr f4 f5) R5 (wOK_tl K4) (fun k hk => (tlW_n (by omega)).trans (upd_ne (by omega)))
          obtain ⟨g1, g2, g3, g4⟩ := E_X1_dropSome_4 k _ (i + 1) m C5 D (by rw [hx, nI_1]) (by rw [tlW_n (Or.inl (by omega)), w4]; omega) hf
          exact ⟨g1, g2, frRL_tr (frRL_tr (frRL_tr (frRL_R f2) (frRL_L b2)) (frRL_R (frR_tr f4 f5))) g3, g4.trans (z5.trans (z12.trans (b3.trans d3)))⟩
      · skip
        -- leaf 11: rc4 a0 a1 x2 (x3 + (1 : Int32)) h
        have hi : (i : Int) < (W 0).toInt := by rw [hx, u5, nI_eI (by omega)] at c2; omega
        replace e4 := Option.some.inj (show some ((jushr (oi (oc h) a1 8) x3) &&& (1 : Int32)) = some v17 from e4)
        rw [hx, bitW (by omega) (RB i hi).2.2.2.2.2.2.1 (K.2.1 i hi).2.2.2.2.2.2.1] at e4
        obtain ⟨m, rfl⟩ : ∃ p, m = p + 1 := ⟨m - 1, by omega⟩
        rw [it_z (fl_0 (fun z => c5 (e4.symm.trans z)))]
        exact E_X1_dropSome_4 k W (i + 1) m C D (by rw [hx, nI_1]) (by omega) hf
end
section
/-! whole hours -/
def cN (W : jWd) : Nat := (W 0).toInt.toNat
noncomputable def hrW (calm : Bool) (W : jWd) : jWd × Int32 :=
  if calm = true then (tuW (itW fd1 0 (cN W) W 0).1, 0)
  else (tuW (itW fl1 0 (cN (itW ct1 0 (cN (itW fd1 0 (cN W) W 0).1) (itW fd1 0 (cN W) W 0).1 0).1) (itW ct1 0 (cN (itW fd1 0 (cN W) W 0).1) (itW fd1 0 (cN W) W 0).1 0).1 0).1,
    (itW ct1 0 (cN (itW fd1 0 (cN W) W 0).1) (itW fd1 0 (cN W) W 0).1 0).2 + (itW fl1 0 (cN (itW ct1 0 (cN (itW fd1 0 (cN W) W 0).1) (itW fd1 0 (cN W) W 0).1 0).1) (itW ct1 0 (cN (itW fd1 0 (cN W) W 0).1) (itW fd1 0 (cN W) W 0).1 0).1 0).2)
noncomputable def hrs (calm : Bool) : Nat → jWd → Int32 → jWd × Int32
  | 0, W, a => (W, a)
  | m + 1, W, a => hrs calm m (hrW calm W).1 (a + (hrW calm W).2)
theorem cN_m {W : jWd} (K : wOK W) : ((0 + cN W : Nat) : Int) = (W 0).toInt := by
  have := K.1
  unfold cN
  omega
theorem tuW_n {W : jWd} {k : Nat} (h3 : k ≠ 3) (h4 : k ≠ 4) : tuW W k = W k := by
  unfold tuW
  by_cases c : (W 3).toInt < 7
  · rw [if_pos c, upd_ne h3]
  · rw [if_neg c, upd_ne h4, upd_ne h3]
theorem hr_f {W : jWd} : hrW false W = (tuW (itW fl1 0 (cN (itW ct1 0 (cN (itW fd1 0 (cN W) W 0).1) (itW fd1 0 (cN W) W 0).1 0).1) (itW ct1 0 (cN (itW fd1 0 (cN W) W 0).1) (itW fd1 0 (cN W) W 0).1 0).1 0).1,
    (itW ct1 0 (cN (itW fd1 0 (cN W) W 0).1) (itW fd1 0 (cN W) W 0).1 0).2 + (itW fl1 0 (cN (itW ct1 0 (cN (itW fd1 0 (cN W) W 0).1) (itW fd1 0 (cN W) W 0).1 0).1) (itW ct1 0 (cN (itW fd1 0 (cN W) W 0).1) (itW fd1 0 (cN W) W 0).1 0).1 0).2) := if_neg (by decide)
theorem hr_t {W : jWd} : hrW true W = (tuW (itW fd1 0 (cN W) W 0).1, 0) := if_pos rfl
theorem E_X1_turn {W : jWd} {n : Nat} {a0 : Nat} {h : jH} {q : jH} (R : rodE (oc h) a0 W) (K : wOK W) (hf : F_X1_turn n a0 h = some q) : rodE (oc q) a0 (tuW W) ∧ frR a0 (oc h) (oc q) ∧ q.1 = h.1 := by
  unfold F_X1_turn at hf
  obtain ⟨⟨s0, s1, s2, s3, s4, s5⟩, ⟨u5, u10, u11, u12, u13, u14, u15, u16, u17⟩, RB, RC, RL⟩ := id R
  have k3 := K.2.2.2.2.1
  have k4 := K.2.2.2.2.2.1
  have l8 : (8 : Int32).toInt = 8 := rfl
  have l1 : (1 : Int32).toInt = 1 := rfl
  replace hf := jbind hf
  obtain ⟨v2, e1, hf⟩ := hf
  have r1 := oc_gI e1
  subst r1
  clear e1
  replace hf := jbind hf
  obtain ⟨h7, e2, hf⟩ := hf
  obtain ⟨o2, z2⟩ := oc_pf e2
  clear e2
  replace hf := jbind hf
  obtain ⟨v11, e3, hf⟩ := hf
  have r3 := oc_gI e3
  rw [o2] at r3
  rw [oi_eq] at r3
  subst r3
  clear e3
  replace hf := jite hf
  rcases hf with ⟨c4, hf⟩ | ⟨c4, hf⟩
  · skip
    cases hf
    -- leaf 0: h7
    rw [u13, Int32.lt_iff_toInt_lt, jadd (by omega) (by omega), l8] at c4
    have l1 : (1 : Int32).toInt = 1 := rfl
    rw [u13] at o2
    have e : tuW W = upd W 3 (W 3 + 1) := if_pos (by omega)
    rw [e]
    exact ⟨by rw [o2]; exact rodE_i13 R, by rw [o2]; exact frR_u2 (by omega), z2⟩
  · skip
    replace hf := jbind hf
    obtain ⟨h21, e5, hf⟩ := hf
    obtain ⟨o5, z5⟩ := oc_pf e5
    clear e5
    replace hf := jbind hf
    obtain ⟨v29, e6, hf⟩ := hf
    have r6 := oc_gI e6
    rw [o5] at r6
    rw [oi_ne (Or.inr (by decide))] at r6
    rw [o2] at r6
    rw [oi_ne (Or.inr (by decide))] at r6
    subst r6
    clear e6
    replace hf := jbind hf
    obtain ⟨h37, e7, hf⟩ := hf
    obtain ⟨o7, z7⟩ := oc_pf e7
    clear e7
    cases hf
    -- leaf 1: h37
    rw [u13, Int32.lt_iff_toInt_lt, jadd (by omega) (by omega), l8] at c4
    have l1 : (1 : Int32).toInt = 1 := rfl
    rw [u14] at o7
    have e : tuW W = upd (upd W 3 0) 4 (if W 4 + 1 < (9999 : Int32) then W 4 + 1 else 9999) := if_neg (by omega)
    rw [e]
    have f : frR a0 (oc h) (oc q) := by rw [o7, o5, o2]; exact frR_tr (frR_tr (frR_u2 (by omega)) (frR_u2 (by omega))) (frR_u2 (by omega))
    refine ⟨?_, f, z7.trans (z5.trans z2)⟩
    have R2 : rodE (oc h7) a0 (upd W 3 (oi (oc h) a0 13 + 1)) := by rw [o2]; exact rodE_i13 R
    have R3 : rodE (oc h21) a0 (upd W 3 0) := by have := rodE_i13 (x := 0) R2; rw [upd_upd] at this; rw [o5]; exact this
    rw [o7]
    exact rodE_i14 R3
theorem E_X1_fadeAll {l : Nat} {W : jWd} {n : Nat} {a0 : Nat} {a1 : Nat} {h : jH} {q : jH} (C : clkE (oc h) a0 l a1 W) (D : clkD a0 l a1) (hf : F_X1_fadeAll n a0 a1 h = some q) : clkE (oc q) a0 l a1 (itW fd1 0 (cN W) W 0).1 ∧ frRL a1 l (oc h) (oc q) ∧ q.1 = h.1 := by
  unfold F_X1_fadeAll at hf
  -- leaf : F_X1_fadeAll_2 n n a0 a1 (0 : Int32) h
  exact E_X1_fadeAll_2 n W 0 (cN W) C D rfl (cN_m C.2.2.2) hf
theorem E_X1_catchSome {l : Nat} {W : jWd} {n : Nat} {a0 : Nat} {a1 : Nat} {h : jH} {q : Int32 × jH} (C : clkE (oc h) a0 l a1 W) (D : clkD a0 l a1) (hf : F_X1_catchSome n a0 a1 h = some q) : clkE (oc q.2) a0 l a1 (itW ct1 0 (cN W) W 0).1 ∧ q.1 = (itW ct1 0 (cN W) W 0).2 ∧ frRL a1 l (oc h) (oc q.2) ∧ q.2.1 = h.1 := by
  unfold F_X1_catchSome at hf
  -- leaf : F_X1_catchSome_4 n n a0 a1 (0 : Int32) (0 : Int32) h
  exact E_X1_catchSome_4 n W 0 (cN W) C D rfl (cN_m C.2.2.2) hf
theorem E_X1_dropSome {l : Nat} {W : jWd} {n : Nat} {a0 : Nat} {a1 : Nat} {h : jH} {q : Int32 × jH} (C : clkE (oc h) a0 l a1 W) (D : clkD a0 l a1) (hf : F_X1_dropSome n a0 a1 h = some q) : clkE (oc q.2) a0 l a1 (itW fl1 0 (cN W) W 0).1 ∧ q.1 = (itW fl1 0 (cN W) W 0).2 ∧ frRL a1 l (oc h) (oc q.2) ∧ q.2.1 = h.1 := by
  unfold F_X1_dropSome at hf
  -- leaf : F_X1_dropSome_4 n n a0 a1 (0 : Int32) (0 : Int32) h
  exact E_X1_dropSome_4 n W 0 (cN W) C D rfl (cN_m C.2.2.2) hf
theorem E_X1_run_5 {n : Nat} {l : Nat} : ∀ (k : Nat) {a0 : Nat} {a1 : Nat} {x2 : Int32} {x3 : Int32} {x4 : Int32} {h : jH} {q : Int32 × jH} (W : jWd) (t : Nat) (m : Nat) (C : clkE (oc h) a0 l a1 W) (D : clkD a0 l a1) (hn : t + m < 1000) (h2 : x2 = nI (t + m)) (h4 : x4 = nI t), F_X1_run_5 n k a0 a1 x2 x3 x4 h = some q → clkE (oc q.2) a0 l a1 (hrs false m W x3).1 ∧ q.1 = (hrs false m W x3).2 ∧ frRL a1 l (oc h) (oc q.2) ∧ q.2.1 = h.1
  | 0, a0, a1, x2, x3, x4, h, q, W, t, m, C, D, hn, h2, h4, hf => by cases hf
  | k + 1, a0, a1, x2, x3, x4, h, q, W, t, m, C, D, hn, h2, h4, hf => by
    replace hf : F_X1_run_5_b n (F_X1_run_5 n k) a0 a1 x2 x3 x4 h = some q := hf
    unfold F_X1_run_5_b at hf
    replace hf := jite hf
    rcases hf with ⟨c1, hf⟩ | ⟨c1, hf⟩
    · skip
      cases hf
      -- leaf 0: (x3, h)
      rw [h2, h4, Int32.le_iff_toInt_le, nI_toInt (by omega), nI_toInt (by omega)] at c1
      have : m = 0 := by omega
      subst this
      exact ⟨C, rfl, frRL_rfl, rfl⟩
    · skip
      replace hf := jbind hf
      obtain ⟨h13, e2, hf⟩ := hf
      replace e2 := (jcv_o e2).2
      replace hf := jbind hf
      obtain ⟨q19, e3, hf⟩ := hf
      replace e3 := (jcv_o e3).2
      replace hf := jbind hf
      obtain ⟨q24, e4, hf⟩ := hf
      replace e4 := (jcv_o e4).2
      replace hf := jbind hf
      obtain ⟨h31, e5, hf⟩ := hf
      -- leaf 1: rc5 a0 a1 x2 (x3 + (q19.1 + q24.1)) (x4 + (1 : Int32)) h31
      rw [h2, h4, Int32.le_iff_toInt_le, nI_toInt (by omega), nI_toInt (by omega)] at c1
      obtain ⟨m, rfl⟩ : ∃ p, m = p + 1 := ⟨m - 1, by omega⟩
      obtain ⟨A1, A2, A3⟩ := E_X1_fadeAll C D e2
      obtain ⟨W1, hW1⟩ : ∃ p, p = (itW fd1 0 (cN W) W 0).1 := ⟨_, rfl⟩
      rw [← hW1] at A1
      obtain ⟨B1, B2, B3, B4⟩ := E_X1_catchSome A1 D e3
      obtain ⟨P2, hP2⟩ : ∃ p, p = itW ct1 0 (cN W1) W1 0 := ⟨_, rfl⟩
      rw [← hP2] at B1 B2
      obtain ⟨D1, D2, D3, D4⟩ := E_X1_dropSome B1 D e4
      obtain ⟨P3, hP3⟩ : ∃ p, p = itW fl1 0 (cN P2.1) P2.1 0 := ⟨_, rfl⟩
      rw [← hP3] at D1 D2
      obtain ⟨T1, T2, T3⟩ := E_X1_turn D1.2.1 D1.2.2.2 e5
      have hh : hrW false W = (tuW P3.1, P2.2 + P3.2) := by rw [hr_f, ← hW1, ← hP2, ← hP3]
      have C5 : clkE (oc h31) a0 l a1 (hrW false W).1 := by rw [hh]; exact clk_R D1 D T2 T1 (wOK_tu D1.2.2.2) (fun k hk => tuW_n (by omega) (by omega))
      obtain ⟨g1, g2, g3, g4⟩ := E_X1_run_5 k (hrW false W).1 (t + 1) m C5 D (by omega) (by rw [h2]; congr 1; omega) (by rw [h4, nI_1]) hf
      rw [show q19.1 + q24.1 = (hrW false W).2 by rw [hh, B2, D2]] at g1 g2
      exact ⟨g1, g2, frRL_tr (frRL_tr (frRL_tr (frRL_tr A2 B3) D3) (frRL_R T2)) g3, g4.trans (T3.trans (D4.trans (B4.trans A3)))⟩
theorem E_X1_run {l : Nat} {W : jWd} {m : Nat} {n : Nat} {a0 : Nat} {a1 : Nat} {x2 : Int32} {h : jH} {q : Int32 × jH} (C : clkE (oc h) a0 l a1 W) (D : clkD a0 l a1) (hn : m < 1000) (h2 : x2 = nI m) (hf : F_X1_run n a0 a1 x2 h = some q) : clkE (oc q.2) a0 l a1 (hrs false m W 0).1 ∧ q.1 = (hrs false m W 0).2 ∧ frRL a1 l (oc h) (oc q.2) ∧ q.2.1 = h.1 := by
  unfold F_X1_run at hf
  -- leaf : F_X1_run_5 n n a0 a1 x2 (0 : Int32) (0 : Int32) h
  exact E_X1_run_5 n W 0 m C D (by omega) (by rw [h2]; congr 1; omega) rfl hf
end
section
/-! hours of the reference -/
theorem lawK_cg {W W2 : jWd} (L : lawK W) (h : ∀ k, k = 2 ∨ 435 ≤ k → W2 k = W k) : lawK W2 := by
  obtain ⟨a, b⟩ := L
  unfold lawK
  rw [h 2 (Or.inl rfl), h 435 (Or.inr (by omega))]
  refine ⟨a, fun z => ⟨(b z).1, fun i hi => ?_⟩⟩
  obtain ⟨c1, c2, c3, c4⟩ := (b z).2 i hi
  rw [h (438 + 4 * i) (by omega), h (439 + 4 * i) (by omega), tyR_cg (fun k hk => h k (Or.inr hk))]
  exact ⟨c1, c2, c3, c4⟩
theorem lawB_cg {W W2 : jWd} (L : lawB W) (h : ∀ k, k = 2 ∨ 435 ≤ k → W2 k = W k) : lawB W2 := by
  intro z i hi
  rw [h 2 (Or.inl rfl)] at z
  rw [h 435 (Or.inr (by omega))] at hi
  rw [h (437 + 4 * i) (by omega)]
  exact L z i hi
theorem b_32767 : ∀ i, i < 32 → bt 32767 i = decide (i < 15) := by decide +kernel
theorem rn_eq {s : Int32} : (s >>> ((16 : Int32) &&& 31)) &&& (32767 : Int32) = (jushr s (16 : Int32)) &&& (32767 : Int32) := by
  refine b_ext fun i hi => ?_
  rw [b_and, b_and, b_32767 i hi]
  have a : bt (s >>> ((16 : Int32) &&& 31)) i = if 16 + i < 32 then bt s (16 + i) else bt s 31 := b_sshr 16 (by decide) s hi
  have b : bt (jushr s (16 : Int32)) i = bt s (16 + i) := b_ushr 16 (by decide) s i
  rw [a, b]
  by_cases c : i < 15
  · rw [if_pos (by omega)]
  · rw [decide_eq_false c, Bool.and_false, Bool.and_false]
/-- the reference at m tells the world -/
def rkE (O : jO) (m : Nat) (W : jWd) : Prop := mS O m ∧ wl O m = W ∧ wOK W ∧ lawK W ∧ lawB W
theorem rk_w {O O2 : jO} {m : Nat} {W W2 : jWd} (C : rkE O m W) (f : frM m [1, 8] [] O O2) (w : wl O2 m = W2) (K : wOK W2) (h : ∀ k, k = 2 ∨ 435 ≤ k → W2 k = W k) : rkE O2 m W2 :=
  ⟨mS_fr C.1 f (by decide) (by decide), w, K, lawK_cg C.2.2.2.1 h, lawB_cg C.2.2.2.2 h⟩
theorem wl_8 {O O2 : jO} {m : Nat} (f : frM m [8] [] O O2) : wl O2 m = wl O m := by
  funext k
  exact oi_M f (fun c hc q => by simp at hc; omega) (fun _ => by simp)
theorem rk_8 {O O2 : jO} {m : Nat} {W : jWd} (C : rkE O m W) (f : frM m [8] [] O O2) : rkE O2 m W :=
  ⟨mS_fr C.1 f (by decide) (by decide), (wl_8 f).trans C.2.1, C.2.2⟩
theorem f8 {O O2 : jO} {m : Nat} (f : frM m [8] [] O O2) : frM m [1, 8] [] O O2 := frM_le f (fun c h => by simp at h ⊢; omega) (fun c h => by cases h)
theorem f1 {O O2 : jO} {m : Nat} (f : frM m [1] [] O O2) : frM m [1, 8] [] O O2 := frM_le f (fun c h => by simp at h ⊢; omega) (fun c h => by cases h)
theorem E_X12_drawn {W : jWd} {n : Nat} {a0 : Nat} {x1 : Int32} {h : jH} {q : Int32 × jH} (C : rkE (oc h) a0 W) (hx : x1 = 100) (hf : F_X12_drawn n a0 x1 h = some q) : q.1 = rnW (sdW (W 10)) ∧ wl (oc q.2) a0 = upd W 10 (sdW (W 10)) ∧ frM a0 [1, 8] [] (oc h) (oc q.2) ∧ q.2.1 = h.1 := by
  unfold F_X12_drawn at hf
  have M := C.1
  have hW := C.2.1
  obtain ⟨s1, s2, s3, s4, s5, s8, s15, s17, s19, s20, s21⟩ := id M
  subst hx
  replace hf := jbind hf
  obtain ⟨p1, e1, hf⟩ := hf
  have r1 := oc_gR e1
  rw [s1] at r1
  cases r1
  clear e1
  replace hf := jbind hf
  obtain ⟨p9, e2, hf⟩ := hf
  have r2 := oc_gR e2
  rw [s1] at r2
  cases r2
  clear e2
  replace hf := jbind hf
  obtain ⟨v14, e3, hf⟩ := hf
  obtain ⟨r3, y3⟩ := oc_al e3
  rw [show (10 : Int32).toNatClampNeg = 10 from rfl] at r3
  subst r3
  clear e3
  replace hf := jbind hf
  obtain ⟨h20, e4, hf⟩ := hf
  obtain ⟨o4, z4, y4⟩ := oc_as e4
  rw [jnar0] at o4
  rw [show (10 : Int32).toNatClampNeg = 10 from rfl] at o4
  clear e4
  replace hf := jbind hf
  obtain ⟨p22, e5, hf⟩ := hf
  have r5 := oc_gR e5
  rw [o4] at r5
  rw [u2_ne (Or.inl (by omega))] at r5
  rw [s1] at r5
  cases r5
  clear e5
  replace hf := jbind hf
  obtain ⟨v27, e6, hf⟩ := hf
  obtain ⟨r6, y6⟩ := oc_al e6
  rw [show (10 : Int32).toNatClampNeg = 10 from rfl] at r6
  rw [o4] at r6
  rw [oi_eq] at r6
  subst r6
  clear e6
  replace hf := jite hf
  rcases hf with ⟨c7, hf⟩ | ⟨c7, hf⟩
  · skip
    cases hf
  · skip
    cases hf
    -- leaf 1: (((v27 >>> ((16 : Int32) &&& 31)) &&& (32767 : Int32)) - ((v27 >>> ((16 : Int32) &&& 31)) &&& (32767
    have w10 : oi (oc h) (a0 + 1) 10 = W 10 := by rw [← hW]
    rw [w10] at o4
    refine ⟨?_, ?_, ?_, z4⟩
    · show _ = rnW (sdW (W 10))
      unfold rnW
      rw [← rn_eq, ← w10]
      rfl
    · rw [o4, wl_w, hW]
      rfl
    · rw [o4]
      exact frM_c (by decide)
theorem E_X12_catches_4 {n : Nat} : ∀ (k : Nat) {a0 : Nat} {x1 : Int32} {x2 : Int32} {h : jH} {q : Int32 × jH} (W : jWd) (i : Nat) (m : Nat) (C : rkE (oc h) a0 W) (hx : x2 = nI i) (hm : ((i + m : Nat) : Int) = (W 0).toInt), F_X12_catches_4 n k a0 x1 x2 h = some q → rkE (oc q.2) a0 (itW ct1 i m W x1).1 ∧ q.1 = (itW ct1 i m W x1).2 ∧ frM a0 [1, 8] [] (oc h) (oc q.2) ∧ q.2.1 = h.1
  | 0, a0, x1, x2, h, q, W, i, m, C, hx, hm, hf => by cases hf
  | k + 1, a0, x1, x2, h, q, W, i, m, C, hx, hm, hf => by
    replace hf : F_X12_catches_4_b n (F_X12_catches_4 n k) a0 x1 x2 h = some q := hf
    unfold F_X12_catches_4_b at hf
    obtain ⟨M, hW, K, LK, LB⟩ := id C
    obtain ⟨s1, s2, s3, s4, s5, s8, s15, s17, s19, s20, s21⟩ := id M
    have K0 := K.1
    have l1 : (1 : Int32).toInt = 1 := rfl
    replace hf := jbind hf
    obtain ⟨v6, e1, hf⟩ := hf
    replace e1 := (jcv_o e1).2
    have r1 := E_X12_lastRing M e1
    rw [hW] at r1
    subst r1
    replace hf := jite hf
    rcases hf with ⟨c2, hf⟩ | ⟨c2, hf⟩
    · skip
      cases hf
      -- leaf 0: (x1, h)
      rw [hx, nI_eI (by omega), jsub (by omega) (by omega)] at c2
      by_cases m0 : m = 0
      · subst m0; exact ⟨C, rfl, frM_rfl, rfl⟩
      · have m1 : m = 0 + 1 := by omega
        subst m1
        rw [it_z (ct_0 (fun z => by omega))]
        exact ⟨C, rfl, frM_rfl, rfl⟩
    · skip
      replace hf := jbind hf
      obtain ⟨v14, e3, hf⟩ := hf
      replace e3 := (jcv_o e3).2
      replace hf := jite hf
      rcases hf with ⟨c4, hf⟩ | ⟨c4, hf⟩
      · skip
        replace hf := jbind hf
        obtain ⟨v25, e5, hf⟩ := hf
        replace e5 := (jcv_o e5).2
        replace hf := jite hf
        rcases hf with ⟨c6, hf⟩ | ⟨c6, hf⟩
        · skip
          replace hf := jbind hf
          obtain ⟨q34, e7, hf⟩ := hf
          replace e7 := (jcv_o e7).2
          have hj : (i : Int) + 1 < (W 0).toInt := by rw [hx, nI_eI (by omega), jsub (by omega) (by omega)] at c2; omega
          have hi : (i : Int) < (W 0).toInt := by omega
          obtain ⟨d1, d2, d3, d4⟩ := E_X12_drawn C rfl e7
          have C2 : rkE (oc q34.2) a0 (upd W 10 (sdW (W 10))) := rk_w C d3 d2 (wOK_10 K) (fun k hk => upd_ne (by omega))
          replace hf := jbind hf
          obtain ⟨q40, e8, hf⟩ := hf
          replace e8 := (jcv_o e8).2
          have w0 : upd W 10 (sdW (W 10)) 0 = W 0 := upd_ne (by omega)
          obtain ⟨b1, b2, b3⟩ := E_X12_byLaw C2.1 C2.2.1 C2.2.2.1 (by rw [w0]; exact hi) C2.2.2.2.1 hx e8
          have C3 := rk_8 C2 b2
          have M3 := C3.1
          obtain ⟨s1b, -⟩ := id M3
          replace hf := jite hf
          rcases hf with ⟨c9, hf⟩ | ⟨c9, hf⟩
          · skip
            replace hf := jbind hf
            obtain ⟨p50, e10, hf⟩ := hf
            have r10 := oc_gR e10
            rw [s1b] at r10
            cases r10
            clear e10
            replace hf := jbind hf
            obtain ⟨v56, e11, hf⟩ := hf
            replace hf := jbind hf
            obtain ⟨h60, e12, hf⟩ := hf
            obtain ⟨o12, z12, y12⟩ := oc_as e12
            rw [jnar0] at o12
            clear e12
            replace hf := jbind hf
            obtain ⟨h65, e13, hf⟩ := hf
            replace e13 := (jcv_o e13).2
            -- leaf 1000: rc4 a0 (x1 + (1 : Int32)) (x2 + (1 : Int32)) h65
            have r3 := E_X12_gapOf M (by rw [hW]; exact K) hx (by rw [hW]; exact hi) e3
            rw [hW, if_pos hj] at r3
            have r5 := E_X12_is M (j := 7) (t := 18 + 8 * i) hx rfl (by omega) (by omega) e5
            rw [hW] at r5
            have cond : ((i : Int) + 1 < (W 0).toInt ∧ W (11 + 8 * (i + 1)) - W (11 + 8 * i) = 1) ∧ W (18 + 8 * i) ≠ 1 := ⟨⟨hj, r3.symm.trans c4⟩, fun z => absurd (c6.symm.trans (r5.2.mpr z)) (by decide)⟩
            obtain ⟨m, rfl⟩ : ∃ p, m = p + 1 := ⟨m - 1, by omega⟩
            have nl : rnW (sdW (W 10)) < byW (upd W 10 (sdW (W 10))) 1 i := by rw [← d1, ← b1]; exact c9
            rw [it_s (ct_2 cond nl)]
            have at9 := E_X12_at (i := i) (j := 7) (t := 18 + 8 * i) hx rfl (by omega) e11
            rw [at9, nI_cl (by omega)] at o12
            have f4 : frM a0 [1] [] (oc q40.2) (oc h60) := by rw [o12]; exact frM_c (by decide)
            have w4 : wl (oc h60) a0 = upd (upd W 10 (sdW (W 10))) (18 + 8 * i) 1 := by rw [o12, wl_w, C3.2.1]
            have K4 : wOK (upd (upd W 10 (sdW (W 10))) (18 + 8 * i) 1) := wOK_ct C3.2.2.1 (Or.inr ⟨rfl, by rw [w0]; exact cond.1.1⟩)
            have v4 : upd (upd W 10 (sdW (W 10))) (18 + 8 * i) 1 0 = W 0 := (upd_ne (by omega)).trans w0
            obtain ⟨t1, t2, t3⟩ := E_X12_tells (r := i) (mS_fr C3.1 f4 (by decide) (by decide)) w4 (by omega) hx e13
            have t1 : wl (oc h65) a0 = tlW (upd (upd W 10 (sdW (W 10))) (18 + 8 * i) 1) i (nI i) (nI 1) (nI 0) := by rw [t1, hx]; rfl
            have C5 := rk_w C3 (frM_tr (f1 f4) (f1 t2)) t1 (wOK_tl K4) (fun k hk => (tlW_n (by omega)).trans (upd_ne (by omega)))
            obtain ⟨g1, g2, g3, g4⟩ := E_X12_catches_4 k _ (i + 1) m C5 (by rw [hx, nI_1]) (by rw [tlW_n (Or.inl (by omega)), v4]; omega) hf
            exact ⟨g1, g2, frM_tr (frM_tr (frM_tr d3 (f8 b2)) (frM_tr (f1 f4) (f1 t2))) g3, g4.trans (t3.trans (z12.trans (b3.trans d4)))⟩
          · skip
            -- leaf 1001: rc4 a0 x1 (x2 + (1 : Int32)) q40.2
            have r3 := E_X12_gapOf M (by rw [hW]; exact K) hx (by rw [hW]; exact hi) e3
            rw [hW, if_pos hj] at r3
            have r5 := E_X12_is M (j := 7) (t := 18 + 8 * i) hx rfl (by omega) (by omega) e5
            rw [hW] at r5
            have cond : ((i : Int) + 1 < (W 0).toInt ∧ W (11 + 8 * (i + 1)) - W (11 + 8 * i) = 1) ∧ W (18 + 8 * i) ≠ 1 := ⟨⟨hj, r3.symm.trans c4⟩, fun z => absurd (c6.symm.trans (r5.2.mpr z)) (by decide)⟩
            obtain ⟨m, rfl⟩ : ∃ p, m = p + 1 := ⟨m - 1, by omega⟩
            have nl : ¬ rnW (sdW (W 10)) < byW (upd W 10 (sdW (W 10))) 1 i := by rw [← d1, ← b1]; exact c9
            rw [it_z (ct_1 cond nl)]
            obtain ⟨g1, g2, g3, g4⟩ := E_X12_catches_4 k (upd W 10 (sdW (W 10))) (i + 1) m C3 (by rw [hx, nI_1]) (by rw [w0]; omega) hf
            exact ⟨g1, g2, frM_tr (frM_tr d3 (f8 b2)) g3, g4.trans (b3.trans d4)⟩
        · skip
          -- leaf 101: rc4 a0 x1 (x2 + (1 : Int32)) h
          have hj : (i : Int) + 1 < (W 0).toInt := by rw [hx, nI_eI (by omega), jsub (by omega) (by omega)] at c2; omega
          have hi : (i : Int) < (W 0).toInt := by omega
          have r5 := E_X12_is M (j := 7) (t := 18 + 8 * i) hx rfl (by omega) (by omega) e5
          rw [hW] at r5
          obtain ⟨m, rfl⟩ : ∃ p, m = p + 1 := ⟨m - 1, by omega⟩
          rw [it_z (ct_0 (fun z => z.2 (r5.2.mp (r5.1.resolve_left c6))))]
          exact E_X12_catches_4 k W (i + 1) m C (by rw [hx, nI_1]) (by omega) hf
      · skip
        -- leaf 11: rc4 a0 x1 (x2 + (1 : Int32)) h
        have hj : (i : Int) + 1 < (W 0).toInt := by rw [hx, nI_eI (by omega), jsub (by omega) (by omega)] at c2; omega
        have hi : (i : Int) < (W 0).toInt := by omega
        have r3 := E_X12_gapOf M (by rw [hW]; exact K) hx (by rw [hW]; exact hi) e3
        rw [hW, if_pos hj] at r3
        obtain ⟨m, rfl⟩ : ∃ p, m = p + 1 := ⟨m - 1, by omega⟩
        rw [it_z (ct_0 (fun z => c4 (r3.trans z.1.2)))]
        exact E_X12_catches_4 k W (i + 1) m C (by rw [hx, nI_1]) (by omega) hf
theorem E_X12_falls_4 {n : Nat} : ∀ (k : Nat) {a0 : Nat} {x1 : Int32} {x2 : Int32} {h : jH} {q : Int32 × jH} (W : jWd) (i : Nat) (m : Nat) (C : rkE (oc h) a0 W) (hx : x2 = nI i) (hm : ((i + m : Nat) : Int) = (W 0).toInt), F_X12_falls_4 n k a0 x1 x2 h = some q → rkE (oc q.2) a0 (itW fl1 i m W x1).1 ∧ q.1 = (itW fl1 i m W x1).2 ∧ frM a0 [1, 8] [] (oc h) (oc q.2) ∧ q.2.1 = h.1
  | 0, a0, x1, x2, h, q, W, i, m, C, hx, hm, hf => by cases hf
  | k + 1, a0, x1, x2, h, q, W, i, m, C, hx, hm, hf => by
    replace hf : F_X12_falls_4_b n (F_X12_falls_4 n k) a0 x1 x2 h = some q := hf
    unfold F_X12_falls_4_b at hf
    obtain ⟨M, hW, K, LK, LB⟩ := id C
    obtain ⟨s1, s2, s3, s4, s5, s8, s15, s17, s19, s20, s21⟩ := id M
    have K0 := K.1
    have l1 : (1 : Int32).toInt = 1 := rfl
    replace hf := jbind hf
    obtain ⟨v6, e1, hf⟩ := hf
    replace e1 := (jcv_o e1).2
    have r1 := E_X12_rings M e1
    rw [hW] at r1
    subst r1
    replace hf := jite hf
    rcases hf with ⟨c2, hf⟩ | ⟨c2, hf⟩
    · skip
      cases hf
      -- leaf 0: (x1, h)
      rw [hx, nI_eI (by omega)] at c2
      have : m = 0 := by omega
      subst this
      exact ⟨C, rfl, frM_rfl, rfl⟩
    · skip
      replace hf := jbind hf
      obtain ⟨v16, e3, hf⟩ := hf
      replace e3 := (jcv_o e3).2
      replace hf := jite hf
      rcases hf with ⟨c4, hf⟩ | ⟨c4, hf⟩
      · skip
        -- leaf 10: rc4 a0 x1 (x2 + (1 : Int32)) h
        have hi : (i : Int) < (W 0).toInt := by rw [hx, nI_eI (by omega)] at c2; omega
        have r3 := E_X12_is M (j := 6) (t := 17 + 8 * i) hx rfl (by omega) (by omega) e3
        rw [hW] at r3
        obtain ⟨m, rfl⟩ : ∃ p, m = p + 1 := ⟨m - 1, by omega⟩
        rw [it_z (fl_0 (fun z => absurd (c4.symm.trans (r3.2.mpr z)) (by decide)))]
        exact E_X12_falls_4 k W (i + 1) m C (by rw [hx, nI_1]) (by omega) hf
      · skip
        replace hf := jbind hf
        obtain ⟨q25, e5, hf⟩ := hf
        replace e5 := (jcv_o e5).2
        have hi : (i : Int) < (W 0).toInt := by rw [hx, nI_eI (by omega)] at c2; omega
        obtain ⟨d1, d2, d3, d4⟩ := E_X12_drawn C rfl e5
        have C2 : rkE (oc q25.2) a0 (upd W 10 (sdW (W 10))) := rk_w C d3 d2 (wOK_10 K) (fun k hk => upd_ne (by omega))
        replace hf := jbind hf
        obtain ⟨q31, e6, hf⟩ := hf
        replace e6 := (jcv_o e6).2
        have w0 : upd W 10 (sdW (W 10)) 0 = W 0 := upd_ne (by omega)
        obtain ⟨b1, b2, b3⟩ := E_X12_byLaw C2.1 C2.2.1 C2.2.2.1 (by rw [w0]; exact hi) C2.2.2.2.1 hx e6
        have C3 := rk_8 C2 b2
        have M3 := C3.1
        obtain ⟨s1b, -⟩ := id M3
        replace hf := jite hf
        rcases hf with ⟨c7, hf⟩ | ⟨c7, hf⟩
        · skip
          replace hf := jbind hf
          obtain ⟨p41, e8, hf⟩ := hf
          have r8 := oc_gR e8
          rw [s1b] at r8
          cases r8
          clear e8
          replace hf := jbind hf
          obtain ⟨v47, e9, hf⟩ := hf
          replace hf := jbind hf
          obtain ⟨h51, e10, hf⟩ := hf
          obtain ⟨o10, z10, y10⟩ := oc_as e10
          rw [jnar0] at o10
          clear e10
          replace hf := jbind hf
          obtain ⟨h56, e11, hf⟩ := hf
          replace e11 := (jcv_o e11).2
          -- leaf 110: rc4 a0 (x1 + (1 : Int32)) (x2 + (1 : Int32)) h56
          have r3 := E_X12_is M (j := 6) (t := 17 + 8 * i) hx rfl (by omega) (by omega) e3
          rw [hW] at r3
          have cond : W (17 + 8 * i) = 1 := r3.2.mp (r3.1.resolve_left c4)
          obtain ⟨m, rfl⟩ : ∃ p, m = p + 1 := ⟨m - 1, by omega⟩
          have nl : rnW (sdW (W 10)) < byW (upd W 10 (sdW (W 10))) 2 i := by rw [← d1, ← b1]; exact c7
          rw [it_s (fl_2 cond nl)]
          have at9 := E_X12_at (i := i) (j := 6) (t := 17 + 8 * i) hx rfl (by omega) e9
          rw [at9, nI_cl (by omega)] at o10
          have f4 : frM a0 [1] [] (oc q31.2) (oc h51) := by rw [o10]; exact frM_c (by decide)
          have w4 : wl (oc h51) a0 = upd (upd W 10 (sdW (W 10))) (17 + 8 * i) 0 := by rw [o10, wl_w, C3.2.1]
          have K4 : wOK (upd (upd W 10 (sdW (W 10))) (17 + 8 * i) 0) := wOK_hk C3.2.2.1 (Or.inl rfl)
          have v4 : upd (upd W 10 (sdW (W 10))) (17 + 8 * i) 0 0 = W 0 := (upd_ne (by omega)).trans w0
          obtain ⟨t1, t2, t3⟩ := E_X12_tells (r := i) (mS_fr C3.1 f4 (by decide) (by decide)) w4 (by omega) hx e11
          have t1 : wl (oc h56) a0 = tlW (upd (upd W 10 (sdW (W 10))) (17 + 8 * i) 0) i (nI i) (nI 2) (nI 0) := by rw [t1, hx]; rfl
          have C5 := rk_w C3 (frM_tr (f1 f4) (f1 t2)) t1 (wOK_tl K4) (fun k hk => (tlW_n (by omega)).trans (upd_ne (by omega)))
          obtain ⟨g1, g2, g3, g4⟩ := E_X12_falls_4 k _ (i + 1) m C5 (by rw [hx, nI_1]) (by rw [tlW_n (Or.inl (by omega)), v4]; omega) hf
          exact ⟨g1, g2, frM_tr (frM_tr (frM_tr d3 (f8 b2)) (frM_tr (f1 f4) (f1 t2))) g3, g4.trans (t3.trans (z10.trans (b3.trans d4)))⟩
        · skip
          -- leaf 111: rc4 a0 x1 (x2 + (1 : Int32)) q31.2
          have r3 := E_X12_is M (j := 6) (t := 17 + 8 * i) hx rfl (by omega) (by omega) e3
          rw [hW] at r3
          have cond : W (17 + 8 * i) = 1 := r3.2.mp (r3.1.resolve_left c4)
          obtain ⟨m, rfl⟩ : ∃ p, m = p + 1 := ⟨m - 1, by omega⟩
          have nl : ¬ rnW (sdW (W 10)) < byW (upd W 10 (sdW (W 10))) 2 i := by rw [← d1, ← b1]; exact c7
          rw [it_z (fl_1 cond nl)]
          obtain ⟨g1, g2, g3, g4⟩ := E_X12_falls_4 k (upd W 10 (sdW (W 10))) (i + 1) m C3 (by rw [hx, nI_1]) (by rw [w0]; omega) hf
          exact ⟨g1, g2, frM_tr (frM_tr d3 (f8 b2)) g3, g4.trans (b3.trans d4)⟩
end
