/-! hours, in the world's places -/
def lawB (W : jWd) : Prop := W 2 = 1 → ∀ i : Nat, (i : Int) < (W 435).toInt → 0 ≤ (W (437 + 4 * i)).toInt ∧ (W (437 + 4 * i)).toInt ≤ 100
theorem lawB_of {O : jO} {l : Nat} {W : jWd} (L : lawE O l W) : lawB W := by
  intro z i hi
  obtain ⟨-, -, -, b⟩ := L
  obtain ⟨-, c, d⟩ := b z
  obtain ⟨-, -, -, -, -, -, -, e8, e9, -, -⟩ := d i (by omega)
  exact ⟨e8, e9⟩
theorem tyR_cg {W W2 : jWd} (h : ∀ k, 435 ≤ k → W2 k = W k) (a : Nat) : ∀ k, tyR W2 a k = tyR W a k
  | 0 => rfl
  | k + 1 => by
    unfold tyR
    rw [tyR_cg h a k, h _ (by omega)]
theorem linE_cg {O : jO} {l n : Nat} {W W2 : jWd} (L : linE O l W n) (h : ∀ k, 435 ≤ k → W2 k = W k) : linE O l W2 n := by
  intro i hi
  rw [h _ (by omega), h _ (by omega), h _ (by omega), h _ (by omega), h (439 + 4 * (i - 1)) (by omega)]
  obtain ⟨a1, a2, a3, a4, a5, a6, a7, a8, a9, a10, a11⟩ := L i hi
  refine ⟨a1, a2, a3, a4, a5, a6, a7, a8, a9, fun j u w => ?_, ?_⟩
  · rw [h _ (by omega), h _ (by omega)]; exact a10 j u w
  · rw [tyR_cg h]; exact a11
theorem lawE_cg {O : jO} {l : Nat} {W W2 : jWd} (L : lawE O l W) (h : ∀ k, k = 2 ∨ 435 ≤ k → W2 k = W k) : lawE O l W2 := by
  obtain ⟨S, a, b, c⟩ := L
  unfold lawE
  rw [h 2 (Or.inl rfl), h 435 (Or.inr (by omega))]
  exact ⟨S, a, b, fun z => ⟨(c z).1, (c z).2.1, linE_cg (c z).2.2 (fun k hk => h k (Or.inr hk))⟩⟩
theorem lawE_fr {O O2 : jO} {l : Nat} {W : jWd} (L : lawE O l W) (h : ∀ a k, l ≤ a → a ≤ l + 4 → ¬ (a = l ∧ k = 5) → O2 a k = O a k) : lawE O2 l W := by
  obtain ⟨⟨s0, s1, s2, s3, s4⟩, a, b, c⟩ := L
  have e : ∀ a k, l ≤ a → a ≤ l + 4 → ¬ (a = l ∧ k = 5) → oi O2 a k = oi O a k := fun a k h1 h2 h3 => by unfold oi; rw [h a k h1 h2 h3]
  refine ⟨⟨(h _ _ (by omega) (by omega) (by omega)).trans s0, (h _ _ (by omega) (by omega) (by omega)).trans s1, (h _ _ (by omega) (by omega) (by omega)).trans s2, (h _ _ (by omega) (by omega) (by omega)).trans s3, (h _ _ (by omega) (by omega) (by omega)).trans s4⟩, (e _ _ (by omega) (by omega) (by omega)).trans a, b, fun z => ?_⟩
  obtain ⟨c1, c2, c3⟩ := c z
  refine ⟨(e _ _ (by omega) (by omega) (by omega)).trans c1, c2, fun i hi => ?_⟩
  obtain ⟨a1, a2, a3, a4, a5, a6, a7, a8, a9, a10, a11⟩ := c3 i hi
  refine ⟨(e _ _ (by omega) (by omega) (by omega)).trans a1, (e _ _ (by omega) (by omega) (by omega)).trans a2, (e _ _ (by omega) (by omega) (by omega)).trans a3, a4, a5, a6, a7, a8, a9, fun j u w => ?_, a11⟩
  rw [e _ _ (by omega) (by omega) (by omega)]
  exact a10 j u w
theorem sumW_b {W : jWd} {kind : Int32} {i : Nat} : ∀ n : Nat, n ≤ 12 → (∀ j : Nat, j < n → 0 ≤ (W (437 + 4 * j)).toInt ∧ (W (437 + 4 * j)).toInt ≤ 100) → 0 ≤ (sumW W kind i n).toInt ∧ (sumW W kind i n).toInt ≤ 100 * (n : Int)
  | 0, _, _ => by
    show 0 ≤ (0 : Int32).toInt ∧ (0 : Int32).toInt ≤ 100 * ((0 : Nat) : Int)
    decide
  | n + 1, hn, h => by
    have ih := sumW_b (kind := kind) (i := i) n (by omega) (fun j hj => h j (by omega))
    have hx := h n (by omega)
    by_cases c : W (436 + 4 * n) = kind ∧ holdsW W i n
    · rw [sumW_p (kind := kind) c, jadd (by omega) (by omega)]
      omega
    · rw [sumW_n (kind := kind) c]
      omega
theorem byW_b {W : jWd} {kind : Int32} {i : Nat} (LK : lawK W) (LB : lawB W) : 0 ≤ (byW W kind i).toInt ∧ (byW W kind i).toInt ≤ 1200 := by
  unfold byW
  by_cases c : W 2 = 1
  · rw [if_pos c]
    have n0 := (LK.2 c).1
    have := sumW_b (W := W) (kind := kind) (i := i) (W 435).toInt.toNat (by omega) (fun j hj => LB c j (by omega))
    omega
  · rw [if_neg c]
    by_cases c0 : kind = 0
    · rw [if_pos c0]
      rcases litW_01 (W := W) (i := i) (h := W 3) with q | q <;> rw [q] <;> decide
    · rw [if_neg c0]
      by_cases c1 : kind = 1
      · rw [if_pos c1]; decide
      · rw [if_neg c1]; decide
/-- a ring fades -/
noncomputable def fd1 (W : jWd) (i : Nat) : jWd × Int32 := (upd W (15 + 8 * i) (if W (15 + 8 * i) + byW W 0 i < (99 : Int32) then W (15 + 8 * i) + byW W 0 i else 99), 0)
def sdW (s : Int32) : Int32 := ((1103515245 : Int32) * s) + (12345 : Int32)
def rnW (s : Int32) : Int32 := ((jushr s (16 : Int32)) &&& (32767 : Int32)) - ((jushr s (16 : Int32)) &&& (32767 : Int32)) / (100 : Int32) * (100 : Int32)
noncomputable def ct1 (W : jWd) (i : Nat) : jWd × Int32 :=
  if ((i : Int) + 1 < (W 0).toInt ∧ W (11 + 8 * (i + 1)) - W (11 + 8 * i) = 1) ∧ W (18 + 8 * i) ≠ 1 then
    (if rnW (sdW (W 10)) < byW (upd W 10 (sdW (W 10))) 1 i then (tlW (upd (upd W 10 (sdW (W 10))) (18 + 8 * i) 1) i (nI i) (nI 1) (nI 0), 1) else (upd W 10 (sdW (W 10)), 0))
  else (W, 0)
noncomputable def fl1 (W : jWd) (i : Nat) : jWd × Int32 :=
  if W (17 + 8 * i) = 1 then
    (if rnW (sdW (W 10)) < byW (upd W 10 (sdW (W 10))) 2 i then (tlW (upd (upd W 10 (sdW (W 10))) (17 + 8 * i) 0) i (nI i) (nI 2) (nI 0), 1) else (upd W 10 (sdW (W 10)), 0))
  else (W, 0)
def itW (f : jWd → Nat → jWd × Int32) : Nat → Nat → jWd → Int32 → jWd × Int32
  | _, 0, W, a => (W, a)
  | i, m + 1, W, a => itW f (i + 1) m (f W i).1 (a + (f W i).2)
def tuW (W : jWd) : jWd := if (W 3).toInt < 7 then upd W 3 (W 3 + 1) else upd (upd W 3 0) 4 (if W 4 + 1 < (9999 : Int32) then W 4 + 1 else 9999)
theorem wOK_fd {W : jWd} {i : Nat} (K : wOK W) (LK : lawK W) (LB : lawB W) (hi : (i : Int) < (W 0).toInt) : wOK (fd1 W i).1 ∧ (∀ k, k < 11 ∨ 75 ≤ k → (fd1 W i).1 k = W k) := by
  have K0 := K.1
  have e : ∀ k, k ≠ 15 + 8 * i → (fd1 W i).1 k = W k := fun k h => upd_ne h
  have b := byW_b (kind := 0) (i := i) LK LB
  have f := (K.2.1 i hi).2.2.2.2.1
  have l99 : (99 : Int32).toInt = 99 := rfl
  have j1 := jadd (x := W (15 + 8 * i)) (y := byW W 0 i) (by omega) (by omega)
  have v : 0 ≤ ((fd1 W i).1 (15 + 8 * i)).toInt ∧ ((fd1 W i).1 (15 + 8 * i)).toInt ≤ 99 := by
    show 0 ≤ (upd W (15 + 8 * i) _ (15 + 8 * i)).toInt ∧ (upd W (15 + 8 * i) _ (15 + 8 * i)).toInt ≤ 99
    rw [upd_eq]
    by_cases c : W (15 + 8 * i) + byW W 0 i < (99 : Int32)
    · rw [if_pos c, j1]; rw [Int32.lt_iff_toInt_lt, j1] at c; omega
    · rw [if_neg c]; decide
  refine ⟨?_, fun k hk => e k (by omega)⟩
  obtain ⟨k0, k1, k2, k3, k4, k5, k6, k7, k8, k9, k10⟩ := K
  unfold wOK
  rw [e 0 (by omega), e 3 (by omega), e 4 (by omega), e 5 (by omega), e 6 (by omega), e 8 (by omega), e 9 (by omega), e 1 (by omega)]
  refine ⟨k0, fun j hj => ?_, fun j hj => ?_, fun j hj => ?_, k4, k5, k6, k7, k8, k9, k10⟩
  · rw [e (11 + 8 * j) (by omega), e (12 + 8 * j) (by omega), e (13 + 8 * j) (by omega), e (14 + 8 * j) (by omega), e (16 + 8 * j) (by omega), e (17 + 8 * j) (by omega), e (18 + 8 * j) (by omega)]
    obtain ⟨a1, a2, a3, a4, a5, a6⟩ := k1 j hj
    by_cases q : j = i
    · subst q; exact ⟨a1, a2, a3, a4, v, a6⟩
    · rw [e (15 + 8 * j) (by omega)]; exact ⟨a1, a2, a3, a4, a5, a6⟩
  · rw [e _ (by omega), e _ (by omega)]; exact k2 j hj
  · rw [e _ (by omega)]; exact k3 j hj
theorem wOK_10 {W : jWd} {x : Int32} (K : wOK W) : wOK (upd W 10 x) := by
  have e : ∀ k, k ≠ 10 → upd W 10 x k = W k := fun k h => upd_ne h
  obtain ⟨k0, k1, k2, k3, k4, k5, k6, k7, k8, k9, k10⟩ := K
  unfold wOK
  rw [e 0 (by omega), e 3 (by omega), e 4 (by omega), e 5 (by omega), e 6 (by omega), e 8 (by omega), e 9 (by omega), e 1 (by omega)]
  refine ⟨k0, fun j hj => ?_, fun j hj => ?_, fun j hj => ?_, k4, k5, k6, k7, k8, k9, k10⟩
  · rw [e _ (by omega), e _ (by omega), e _ (by omega), e _ (by omega), e _ (by omega), e _ (by omega), e _ (by omega), e _ (by omega)]; exact k1 j hj
  · rw [e _ (by omega), e _ (by omega)]; exact k2 j hj
  · rw [e _ (by omega)]; exact k3 j hj
/-- a ring is caught, or freed; the last one never caught -/
theorem wOK_ct {W : jWd} {i : Nat} {x : Int32} (K : wOK W) (hx : x = 0 ∨ (x = 1 ∧ (i : Int) + 1 < (W 0).toInt)) : wOK (upd W (18 + 8 * i) x) := by
  have K0 := K.1
  have e : ∀ k, k ≠ 18 + 8 * i → upd W (18 + 8 * i) x k = W k := fun k h => upd_ne h
  obtain ⟨k0, k1, k2, k3, k4, k5, k6, k7, k8, k9, k10⟩ := K
  unfold wOK
  rw [e 0 (by omega), e 3 (by omega), e 4 (by omega), e 5 (by omega), e 6 (by omega), e 8 (by omega), e 9 (by omega), e 1 (by omega)]
  refine ⟨k0, fun j hj => ?_, fun j hj => ?_, fun j hj => ?_, k4, k5, k6, k7, k8, k9, k10⟩
  · rw [e (11 + 8 * j) (by omega), e (12 + 8 * j) (by omega), e (13 + 8 * j) (by omega), e (14 + 8 * j) (by omega), e (15 + 8 * j) (by omega), e (16 + 8 * j) (by omega), e (17 + 8 * j) (by omega)]
    obtain ⟨a1, a2, a3, a4, a5, a6, a7, a8⟩ := k1 j hj
    refine ⟨a1, a2, a3, a4, a5, a6, a7, ?_⟩
    by_cases q : j = i
    · subst q; rw [upd_eq]; exact hx.elim Or.inl (fun z => Or.inr z.1)
    · rw [e (18 + 8 * j) (by omega)]; exact a8
  · rw [e _ (by omega), e _ (by omega)]; exact k2 j hj
  · by_cases q : j = i
    · subst q; rw [upd_eq]; exact hx.elim id (fun z => absurd z.2 (by omega))
    · rw [e _ (by omega)]; exact k3 j hj
theorem wOK_hk {W : jWd} {i : Nat} {x : Int32} (K : wOK W) (hx : x = 0 ∨ x = 1) : wOK (upd W (17 + 8 * i) x) := by
  have K0 := K.1
  have e : ∀ k, k ≠ 17 + 8 * i → upd W (17 + 8 * i) x k = W k := fun k h => upd_ne h
  obtain ⟨k0, k1, k2, k3, k4, k5, k6, k7, k8, k9, k10⟩ := K
  unfold wOK
  rw [e 0 (by omega), e 3 (by omega), e 4 (by omega), e 5 (by omega), e 6 (by omega), e 8 (by omega), e 9 (by omega), e 1 (by omega)]
  refine ⟨k0, fun j hj => ?_, fun j hj => ?_, fun j hj => ?_, k4, k5, k6, k7, k8, k9, k10⟩
  · rw [e (11 + 8 * j) (by omega), e (12 + 8 * j) (by omega), e (13 + 8 * j) (by omega), e (14 + 8 * j) (by omega), e (15 + 8 * j) (by omega), e (16 + 8 * j) (by omega), e (18 + 8 * j) (by omega)]
    obtain ⟨a1, a2, a3, a4, a5, a6, a7, a8⟩ := k1 j hj
    refine ⟨a1, a2, a3, a4, a5, a6, ?_, a8⟩
    by_cases q : j = i
    · subst q; rw [upd_eq]; exact hx
    · rw [e (17 + 8 * j) (by omega)]; exact a7
  · rw [e _ (by omega), e _ (by omega)]; exact k2 j hj
  · rw [e _ (by omega)]; exact k3 j hj
theorem wOK_tl {W : jWd} {r : Nat} {x kind far : Int32} (K : wOK W) : wOK (tlW W r x kind far) := by
  have e : ∀ k, k ≠ 9 ∧ k < 75 → tlW W r x kind far k = W k := fun k h => tlW_n (Or.inl h)
  have K0 := K.1
  obtain ⟨k0, k1, k2, k3, k4, k5, k6, k7, k8, k9, k10⟩ := K
  have l1 : (1 : Int32).toInt = 1 := rfl
  have v : 0 ≤ (tlW W r x kind far 9).toInt ∧ (tlW W r x kind far 9).toInt ≤ 60 := by
    show 0 ≤ (if W 9 + 1 < (60 : Int32) then W 9 + 1 else 60).toInt ∧ (if W 9 + 1 < (60 : Int32) then W 9 + 1 else 60).toInt ≤ 60
    have j1 := jadd (x := W 9) (y := 1) (by omega) (by omega)
    by_cases c : W 9 + 1 < (60 : Int32)
    · rw [if_pos c, j1]; rw [Int32.lt_iff_toInt_lt, j1, show (60 : Int32).toInt = 60 from rfl] at c; omega
    · rw [if_neg c]; decide
  unfold wOK
  rw [e 0 (by omega), e 3 (by omega), e 4 (by omega), e 5 (by omega), e 6 (by omega), e 8 (by omega), e 1 (by omega)]
  refine ⟨k0, fun j hj => ?_, fun j hj => ?_, fun j hj => ?_, k4, k5, k6, k7, k8, v, k10⟩
  · rw [e _ (by omega), e _ (by omega), e _ (by omega), e _ (by omega), e _ (by omega), e _ (by omega), e _ (by omega), e _ (by omega)]; exact k1 j hj
  · rw [e _ (by omega), e _ (by omega)]; exact k2 j hj
  · rw [e _ (by omega)]; exact k3 j hj
theorem wOK_tu {W : jWd} (K : wOK W) : wOK (tuW W) := by
  have K0 := K.1
  obtain ⟨k0, k1, k2, k3, k4, k5, k6, k7, k8, k9, k10⟩ := K
  have l1 : (1 : Int32).toInt = 1 := rfl
  unfold tuW
  by_cases c : (W 3).toInt < 7
  · rw [if_pos c]
    have e : ∀ k, k ≠ 3 → upd W 3 (W 3 + 1) k = W k := fun k h => upd_ne h
    have v : 0 ≤ (upd W 3 (W 3 + 1) 3).toInt ∧ (upd W 3 (W 3 + 1) 3).toInt ≤ 7 := by rw [upd_eq, jadd (by omega) (by omega)]; omega
    unfold wOK
    rw [e 0 (by omega), e 4 (by omega), e 5 (by omega), e 6 (by omega), e 8 (by omega), e 9 (by omega), e 1 (by omega)]
    refine ⟨k0, fun j hj => ?_, fun j hj => ?_, fun j hj => ?_, v, k5, k6, k7, k8, k9, k10⟩
    · rw [e _ (by omega), e _ (by omega), e _ (by omega), e _ (by omega), e _ (by omega), e _ (by omega), e _ (by omega), e _ (by omega)]; exact k1 j hj
    · rw [e _ (by omega), e _ (by omega)]; exact k2 j hj
    · rw [e _ (by omega)]; exact k3 j hj
  · rw [if_neg c]
    generalize hv : (if W 4 + 1 < (9999 : Int32) then W 4 + 1 else 9999) = v4
    have v : 0 ≤ v4.toInt ∧ v4.toInt ≤ 9999 := by
      rw [← hv]
      have j1 := jadd (x := W 4) (y := 1) (by omega) (by omega)
      by_cases c : W 4 + 1 < (9999 : Int32)
      · rw [if_pos c, j1]; rw [Int32.lt_iff_toInt_lt, j1, show (9999 : Int32).toInt = 9999 from rfl] at c; omega
      · rw [if_neg c]; decide
    have e : ∀ k, k ≠ 3 → k ≠ 4 → upd (upd W 3 0) 4 v4 k = W k := fun k h h4 => (upd_ne h4).trans (upd_ne h)
    have e3 : upd (upd W 3 0) 4 v4 3 = 0 := (upd_ne (by decide)).trans upd_eq
    unfold wOK
    rw [e 0 (by omega) (by omega), e3, upd_eq, e 5 (by omega) (by omega), e 6 (by omega) (by omega), e 8 (by omega) (by omega), e 9 (by omega) (by omega), e 1 (by omega) (by omega)]
    refine ⟨k0, fun j hj => ?_, fun j hj => ?_, fun j hj => ?_, by decide, v, k6, k7, k8, k9, k10⟩
    · rw [e _ (by omega) (by omega), e _ (by omega) (by omega), e _ (by omega) (by omega), e _ (by omega) (by omega), e _ (by omega) (by omega), e _ (by omega) (by omega), e _ (by omega) (by omega), e _ (by omega) (by omega)]; exact k1 j hj
    · rw [e _ (by omega) (by omega), e _ (by omega) (by omega)]; exact k2 j hj
    · rw [e _ (by omega) (by omega)]; exact k3 j hj
