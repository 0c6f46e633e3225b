/-! what a line of a pole's text does to the world -/
theorem wOK_th {W : jWd} {i : Nat} {x : Int32} (K : wOK W) (hx : x = 0 ∨ x = 1) : wOK (upd W (13 + 8 * i) x) := by
  have e : ∀ k, k ≠ 13 + 8 * i → upd W (13 + 8 * i) x k = W k := fun k h => upd_ne h
  obtain ⟨k0, k1, k2, k3, k4, k5, k6, k7, k8, k9, k10⟩ := K
  unfold wOK
  rw [e 0 (by omega), e 3 (by omega), e 4 (by omega), e 5 (by omega), e 6 (by omega), e 8 (by omega), e 9 (by omega), e 1 (by omega)]
  refine ⟨k0, fun j hj => ?_, fun j hj => ?_, fun j hj => ?_, k4, k5, k6, k7, k8, k9, k10⟩
  · rw [e (11 + 8 * j) (by omega), e (12 + 8 * j) (by omega), e (14 + 8 * j) (by omega), e (15 + 8 * j) (by omega), e (16 + 8 * j) (by omega), e (17 + 8 * j) (by omega), e (18 + 8 * j) (by omega)]
    obtain ⟨a1, a2, a3, a4, a5, a6, a7, a8⟩ := k1 j hj
    refine ⟨a1, a2, ?_, a4, a5, a6, a7, a8⟩
    by_cases q : j = i
    · subst q; rw [upd_eq]; exact hx
    · rw [e (13 + 8 * j) (by omega)]; exact a3
  · rw [e _ (by omega), e _ (by omega)]; exact k2 j hj
  · rw [e _ (by omega)]; exact k3 j hj
theorem wOK_wd {W : jWd} {i : Nat} {x : Int32} (K : wOK W) (hx : x = 0 ∨ x = 1) : wOK (upd W (14 + 8 * i) x) := by
  have e : ∀ k, k ≠ 14 + 8 * i → upd W (14 + 8 * i) x k = W k := fun k h => upd_ne h
  obtain ⟨k0, k1, k2, k3, k4, k5, k6, k7, k8, k9, k10⟩ := K
  unfold wOK
  rw [e 0 (by omega), e 3 (by omega), e 4 (by omega), e 5 (by omega), e 6 (by omega), e 8 (by omega), e 9 (by omega), e 1 (by omega)]
  refine ⟨k0, fun j hj => ?_, fun j hj => ?_, fun j hj => ?_, k4, k5, k6, k7, k8, k9, k10⟩
  · rw [e (11 + 8 * j) (by omega), e (12 + 8 * j) (by omega), e (13 + 8 * j) (by omega), e (15 + 8 * j) (by omega), e (16 + 8 * j) (by omega), e (17 + 8 * j) (by omega), e (18 + 8 * j) (by omega)]
    obtain ⟨a1, a2, a3, a4, a5, a6, a7, a8⟩ := k1 j hj
    refine ⟨a1, a2, a3, ?_, a5, a6, a7, a8⟩
    by_cases q : j = i
    · subst q; rw [upd_eq]; exact hx
    · rw [e (14 + 8 * j) (by omega)]; exact a4
  · rw [e _ (by omega), e _ (by omega)]; exact k2 j hj
  · rw [e _ (by omega)]; exact k3 j hj
theorem wOK_fa {W : jWd} {i : Nat} {x : Int32} (K : wOK W) (hx : 0 ≤ x.toInt ∧ x.toInt ≤ 99) : wOK (upd W (15 + 8 * i) x) := by
  have e : ∀ k, k ≠ 15 + 8 * i → upd W (15 + 8 * i) x k = W k := fun k h => upd_ne h
  obtain ⟨k0, k1, k2, k3, k4, k5, k6, k7, k8, k9, k10⟩ := K
  unfold wOK
  rw [e 0 (by omega), e 3 (by omega), e 4 (by omega), e 5 (by omega), e 6 (by omega), e 8 (by omega), e 9 (by omega), e 1 (by omega)]
  refine ⟨k0, fun j hj => ?_, fun j hj => ?_, fun j hj => ?_, k4, k5, k6, k7, k8, k9, k10⟩
  · rw [e (11 + 8 * j) (by omega), e (12 + 8 * j) (by omega), e (13 + 8 * j) (by omega), e (14 + 8 * j) (by omega), e (16 + 8 * j) (by omega), e (17 + 8 * j) (by omega), e (18 + 8 * j) (by omega)]
    obtain ⟨a1, a2, a3, a4, a5, a6, a7, a8⟩ := k1 j hj
    refine ⟨a1, a2, a3, a4, ?_, a6, a7, a8⟩
    by_cases q : j = i
    · subst q; rw [upd_eq]; exact hx
    · rw [e (15 + 8 * j) (by omega)]; exact a5
  · rw [e _ (by omega), e _ (by omega)]; exact k2 j hj
  · rw [e _ (by omega)]; exact k3 j hj
theorem wOK_3 {W : jWd} {x : Int32} (K : wOK W) (hx : 0 ≤ x.toInt ∧ x.toInt ≤ 7) : wOK (upd W 3 x) := by
  have e : ∀ k, k ≠ 3 → upd W 3 x k = W k := fun k h => upd_ne h
  obtain ⟨k0, k1, k2, k3, k4, k5, k6, k7, k8, k9, k10⟩ := K
  unfold wOK
  rw [e 0 (by omega), e 4 (by omega), e 5 (by omega), e 6 (by omega), e 8 (by omega), e 9 (by omega), e 1 (by omega)]
  refine ⟨k0, fun j hj => ?_, fun j hj => ?_, fun j hj => ?_, by rw [upd_eq]; exact hx, k5, k6, k7, k8, k9, k10⟩
  · rw [e _ (by omega), e _ (by omega), e _ (by omega), e _ (by omega), e _ (by omega), e _ (by omega), e _ (by omega), e _ (by omega)]; exact k1 j hj
  · rw [e _ (by omega), e _ (by omega)]; exact k2 j hj
  · rw [e _ (by omega)]; exact k3 j hj
theorem wOK_4 {W : jWd} {x : Int32} (K : wOK W) (hx : 0 ≤ x.toInt ∧ x.toInt ≤ 9999) : wOK (upd W 4 x) := by
  have e : ∀ k, k ≠ 4 → upd W 4 x k = W k := fun k h => upd_ne h
  obtain ⟨k0, k1, k2, k3, k4, k5, k6, k7, k8, k9, k10⟩ := K
  unfold wOK
  rw [e 0 (by omega), e 3 (by omega), e 5 (by omega), e 6 (by omega), e 8 (by omega), e 9 (by omega), e 1 (by omega)]
  refine ⟨k0, fun j hj => ?_, fun j hj => ?_, fun j hj => ?_, k4, by rw [upd_eq]; exact hx, k6, k7, k8, k9, k10⟩
  · rw [e _ (by omega), e _ (by omega), e _ (by omega), e _ (by omega), e _ (by omega), e _ (by omega), e _ (by omega), e _ (by omega)]; exact k1 j hj
  · rw [e _ (by omega), e _ (by omega)]; exact k2 j hj
  · rw [e _ (by omega)]; exact k3 j hj
theorem wOK_5 {W : jWd} {x : Int32} (K : wOK W) (hx : 1 ≤ x.toInt ∧ x.toInt ≤ 31) : wOK (upd W 5 x) := by
  have e : ∀ k, k ≠ 5 → upd W 5 x k = W k := fun k h => upd_ne h
  obtain ⟨k0, k1, k2, k3, k4, k5, k6, k7, k8, k9, k10⟩ := K
  unfold wOK
  rw [e 0 (by omega), e 3 (by omega), e 4 (by omega), e 6 (by omega), e 8 (by omega), e 9 (by omega), e 1 (by omega)]
  refine ⟨k0, fun j hj => ?_, fun j hj => ?_, fun j hj => ?_, k4, k5, by rw [upd_eq]; exact hx, k7, k8, k9, k10⟩
  · rw [e _ (by omega), e _ (by omega), e _ (by omega), e _ (by omega), e _ (by omega), e _ (by omega), e _ (by omega), e _ (by omega)]; exact k1 j hj
  · rw [e _ (by omega), e _ (by omega)]; exact k2 j hj
  · rw [e _ (by omega)]; exact k3 j hj
theorem wOK_6 {W : jWd} {x : Int32} (K : wOK W) (hx : 0 ≤ x.toInt ∧ x.toInt ≤ 31) : wOK (upd W 6 x) := by
  have e : ∀ k, k ≠ 6 → upd W 6 x k = W k := fun k h => upd_ne h
  obtain ⟨k0, k1, k2, k3, k4, k5, k6, k7, k8, k9, k10⟩ := K
  unfold wOK
  rw [e 0 (by omega), e 3 (by omega), e 4 (by omega), e 5 (by omega), e 8 (by omega), e 9 (by omega), e 1 (by omega)]
  refine ⟨k0, fun j hj => ?_, fun j hj => ?_, fun j hj => ?_, k4, k5, k6, by rw [upd_eq]; exact hx, k8, k9, k10⟩
  · rw [e _ (by omega), e _ (by omega), e _ (by omega), e _ (by omega), e _ (by omega), e _ (by omega), e _ (by omega), e _ (by omega)]; exact k1 j hj
  · rw [e _ (by omega), e _ (by omega)]; exact k2 j hj
  · rw [e _ (by omega)]; exact k3 j hj
theorem wOK_1 {W : jWd} {x : Int32} (K : wOK W) (hx : 0 ≤ x.toInt ∧ x.toInt ≤ 12) : wOK (upd W 1 x) := by
  have e : ∀ k, k ≠ 1 → upd W 1 x k = W k := fun k h => upd_ne h
  obtain ⟨k0, k1, k2, k3, k4, k5, k6, k7, k8, k9, k10⟩ := K
  unfold wOK
  rw [e 0 (by omega), e 3 (by omega), e 4 (by omega), e 5 (by omega), e 6 (by omega), e 8 (by omega), e 9 (by omega)]
  refine ⟨k0, fun j hj => ?_, fun j hj => ?_, fun j hj => ?_, k4, k5, k6, k7, k8, k9, by rw [upd_eq]; exact hx⟩
  · rw [e _ (by omega), e _ (by omega), e _ (by omega), e _ (by omega), e _ (by omega), e _ (by omega), e _ (by omega), e _ (by omega)]; exact k1 j hj
  · rw [e _ (by omega), e _ (by omega)]; exact k2 j hj
  · rw [e _ (by omega)]; exact k3 j hj
theorem upd_self {W : jWd} {k : Nat} {x : Int32} (h : W k = x) : upd W k x = W := by
  funext j
  by_cases e : j = k
  · rw [e, upd_eq]; exact h.symm
  · exact upd_ne e
def rgW (W : jWd) (pl cl th wd fd ln : Int32) : jWd := upd (upd (upd (upd (hgW W pl cl) (13 + 8 * cN W) th) (14 + 8 * cN W) wd) (15 + 8 * cN W) fd) (16 + 8 * cN W) ln
theorem rgW_ok {W : jWd} {pl cl th wd fd ln : Int32} (K : wOK W) (hp : 0 ≤ pl.toInt ∧ pl.toInt ≤ 31) (hc : 1 ≤ cl.toInt ∧ cl.toInt ≤ 9) (c : canS W pl) (ht : th = 0 ∨ th = 1) (hw : wd = 0 ∨ wd = 1) (hf : 0 ≤ fd.toInt ∧ fd.toInt ≤ 99) (hl : 0 ≤ ln.toInt ∧ ln.toInt ≤ 9) : wOK (rgW W pl cl th wd fd ln) := wOK_ln (wOK_fa (wOK_wd (wOK_th (wOK_hg K hp hc c) ht) hw) hf) hl
/-- a sign or word that may stand: what comes next, and 1 if it stood -/
def tkF (T : Nat → Int32 × Int32) (w : Int32) (k : Nat) : Nat × Int32 := if (T k).1 = w then (k + 1, 1) else (k, 0)
theorem tkF_01 {T : Nat → Int32 × Int32} {w : Int32} {k : Nat} : (tkF T w k).2 = 0 ∨ (tkF T w k).2 = 1 := by
  unfold tkF
  split
  · exact Or.inr rfl
  · exact Or.inl rfl
/-- a word with a number behind it that may stand: what comes next and the number (0 if it didn't stand), or where it is wrong -/
def rdMore (T : Nat → Int32 × Int32) (w hi : Int32) (k : Nat) : (Nat × Int32) ⊕ Nat := if (T k).1 = w then (if nOK T (k + 1) 0 hi then .inl (k + 2, (T (k + 1)).2) else .inr (k + 1)) else .inl (k, 0)
def rdRing (T : Nat → Int32 × Int32) (W : jWd) (k : Nat) : (Nat × jWd) ⊕ Nat :=
  if (T k).1 = 17 then
    if nOK T (k + 1) (leW W) (moW W) then
      if (T (k + 2)).1 = 18 then
        if nOK T (k + 3) 1 9 then
          match rdMore T 3 99 (tkF T 7 (tkF T 8 (k + 4)).1).1 with
          | .inr f => .inr f
          | .inl c => match rdMore T 4 9 c.1 with
            | .inr f => .inr f
            | .inl d => .inl (d.1, rgW W (T (k + 1)).2 (T (k + 3)).2 (tkF T 8 (k + 4)).2 (tkF T 7 (tkF T 8 (k + 4)).1).2 c.2 d.2)
        else .inr (k + 3)
      else .inr (k + 2)
    else .inr (k + 1)
  else .inr k
def rdNum (T : Nat → Int32 × Int32) (k : Nat) (lo hi : Int32) (f : Int32 → jWd) : (Nat × jWd) ⊕ Nat := if nOK T k lo hi then .inl (k + 1, f (T k).2) else .inr k
def rdPole (T : Nat → Int32 × Int32) (W : jWd) (k : Nat) : (Nat × jWd) ⊕ Nat :=
  if (T k).1 = 0 then (if W 0 = 8 then .inr k else rdRing T W (k + 1))
  else if (T k).1 = 19 then rdNum T (k + 1) 0 (W 0 - 2) (fun v => upd W (18 + 8 * v.toInt.toNat) 1)
  else if (T k).1 = 20 then rdNum T (k + 1) 0 31 (fun v => upd W 7 (chV (W 7) v.toInt.toNat 1))
  else if (T k).1 = 21 then rdNum T (k + 1) 1 31 (fun v => upd W 5 v)
  else if (T k).1 = 22 then rdNum T (k + 1) 0 31 (fun v => upd W 6 v)
  else if (T k).1 = 5 then rdNum T (k + 1) 0 7 (fun v => upd W 3 v)
  else if (T k).1 = 6 then rdNum T (k + 1) 0 999 (fun v => upd W 4 v)
  else .inr k
/-- all the lines, from thing k on, n lines being left: the world behind them, or where it is wrong -/
def rdLines {S : Type} (ln : S → Nat → (Nat × S) ⊕ Nat) (T : Nat → Int32 × Int32) : Nat → S → Nat → S ⊕ Nat
  | 0, _, k => .inr k
  | n + 1, W, k => match ln W k with
    | .inr f => .inr f
    | .inl d => if (T d.1).1 = -1 then .inl d.2 else if (T d.1).1 = 59 then rdLines ln T n d.2 (d.1 + 1) else .inr d.1
