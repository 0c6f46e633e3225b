/-! it doesn't matter how far one may look, if it is far enough -/
theorem sq_c {a : jRd} {f g : Nat → jRd} (h : ∀ d, a = .inl d → f d.1 = g d.1) : sqP a f = sqP a g := by
  rcases a with d | e
  · have := h d rfl
    show (match f d.1 with | .inr e => .inr e | .inl e => .inl (e.1, d.2 ++ e.2) : jRd) = _
    rw [this]
    rfl
  · rfl
theorem sq_as {a : jRd} {f g : Nat → jRd} : sqP (sqP a f) g = sqP a (fun j => sqP (f j) g) := by
  rcases ha : a with d | e
  · rcases hf : f d.1 with e | e
    · rcases hg : g e.1 with r | r
      · rw [sq_ll (sq_ll rfl hf) hg, sq_ll (f := fun j => sqP (f j) g) rfl (sq_ll hf hg), List.append_assoc]
      · rw [sq_lr (sq_ll rfl hf) hg, sq_lr (f := fun j => sqP (f j) g) rfl (sq_lr hf hg)]
    · rw [sq_r (sq_lr rfl hf), sq_lr (f := fun j => sqP (f j) g) rfl (sq_r hf)]
  · rfl
theorem sq_0 {f : Nat → jRd} {k : Nat} : sqP (.inl (k, [])) f = f k := by
  rcases hf : f k with e | e
  · exact sq_ll rfl hf
  · exact sq_lr rfl hf
def cwN (w : Nat) : Nat := if w = 0 then 3 else if w = 2 then 2 else 1
section
variable {b : Nat → Int32} {L m : Nat} {T : Nat → Int32 × Int32} {st en : Nat → Nat}
theorem sl_f (H : tkE b L m T st en) : ∀ (F : Nat) {k : Nat}, k ≤ m → m < k + F → rdSL T F k = rdSL T (F + 1) k
  | 0, k, hk, hF => by omega
  | F + 1, k, hk, hF => by
    unfold rdSL
    split
    · refine sq_c fun d hd => sq_c fun e he => ?_
      cases he
      obtain ⟨c1, c2, c3⟩ := part_i H hd
      exact sl_f H F (by omega) (by omega)
    · rfl
theorem sum_f (H : tkE b L m T st en) {F k : Nat} (hF : m < k + 1 + F) : rdSum T F k = rdSum T (F + 1) k := by
  refine sq_c fun d hd => ?_
  obtain ⟨c1, c2, c3⟩ := part_i H hd
  exact sl_f H F (by omega) (by omega)
theorem g_f (H : tkE b L m T st en) : ∀ (F : Nat) {w dp k : Nat}, k ≤ m → w ≤ 4 → 4 * m + cwN w ≤ F + 4 * k → rdG T F w dp k = rdG T (F + 1) w dp k
  | 0, w, dp, k, hk, hw, hF => by
    have : 1 ≤ cwN w := by unfold cwN; split <;> (try split) <;> omega
    omega
  | F + 1, w, dp, k, hk, hw, hF => by
    have tok : ∀ {c : Int32} {j : Nat}, (T j).1 = c → c ≠ -1 → j < m := fun h1 h2 => tk_m H (by rw [h1]; exact h2)
    rcases (by omega : w = 0 ∨ w = 1 ∨ w = 2 ∨ w = 3 ∨ w = 4) with y | y | y | y | y <;> subst y
    · have c : cwN 0 = 3 := rfl
      rw [rdG_0, rdG_0, ← g_f H F hk (by decide) (by have : cwN 2 = 2 := rfl; omega)]
      refine sq_c fun d hd => ?_
      have gi := g_i H F hk hd
      have gi4 := gi.2.2.2 (by decide)
      exact g_f H F gi.2.1 (by decide) (by have : cwN 4 = 1 := rfl; omega)
    · have c : cwN 1 = 1 := rfl
      rw [rdG_1, rdG_1]
      by_cases t : (T k).1 = 40
      · have tm := tok t (by decide)
        rw [if_pos t, if_pos t]
        split
        · rfl
        · rw [← g_f H F (by omega) (by decide) (by have : cwN 0 = 3 := rfl; omega)]
      · rw [if_neg t, if_neg t]
        by_cases t : (T k).1 = 11
        · have tm := tok t (by decide)
          rw [if_pos t, if_pos t]
          split
          · rfl
          · rw [← g_f H F (by omega) (by decide) (by omega)]
        · rw [if_neg t, if_neg t]
          split
          · rfl
          · rw [← sum_f H (F := F) (k := k) (by omega)]
            refine sq_c fun d hd => ?_
            obtain ⟨c1, c2, c3, c4⟩ := sum_i H hd
            rw [← sum_f H (F := F) (k := d.1 + 1) (by omega)]
    · have c : cwN 2 = 2 := rfl
      rw [rdG_2, rdG_2, ← g_f H F hk (by decide) (by have : cwN 1 = 1 := rfl; omega)]
      refine sq_c fun d hd => ?_
      have gi := g_i H F hk hd
      have gi4 := gi.2.2.2 (by decide)
      exact g_f H F gi.2.1 (by decide) (by have : cwN 3 = 1 := rfl; omega)
    · have c : cwN 3 = 1 := rfl
      rw [rdG_3, rdG_3]
      by_cases t : (T k).1 = 12
      · have tm := tok t (by decide)
        rw [if_pos t, if_pos t, ← g_f H F (by omega) (by decide) (by have : cwN 1 = 1 := rfl; omega)]
        refine sq_c fun d hd => sq_c fun e he => ?_
        cases he
        have gi := g_i H F (by omega) hd
        exact g_f H F gi.2.1 (by decide) (by omega)
      · rw [if_neg t, if_neg t]
    · have c : cwN 4 = 1 := rfl
      rw [rdG_4, rdG_4]
      by_cases t : (T k).1 = 13
      · have tm := tok t (by decide)
        rw [if_pos t, if_pos t, ← g_f H F (by omega) (by decide) (by have : cwN 2 = 2 := rfl; omega)]
        refine sq_c fun d hd => sq_c fun e he => ?_
        cases he
        have gi := g_i H F (by omega) hd
        exact g_f H F gi.2.1 (by decide) (by omega)
      · rw [if_neg t, if_neg t]
theorem g_2 (H : tkE b L m T st en) (hm : m ≤ 400) {w dp k : Nat} (hk : k ≤ m) (hw : w ≤ 4) : rdG T 2000 w dp k = rdG T (2000 + 1) w dp k := g_f H 2000 hk hw (by
  have : cwN w ≤ 3 := by unfold cwN; split <;> (try split) <;> omega
  omega)
end
