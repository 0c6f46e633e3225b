/-! the steps of a condition are of their kinds -/
def tyL : List (Int32 × Int32) → List Bool → Option (List Bool)
  | [], ty => some ty
  | e :: t, ty => (tyC e.1 ty).bind (fun u => tyL t u)
theorem tyL_2 : ∀ {l t : List (Int32 × Int32)} {ty u v : List Bool}, tyL l ty = some u → tyL t u = some v → tyL (l ++ t) ty = some v
  | [], t, ty, u, v, a, c => by
    cases a
    exact c
  | e :: l, t, ty, u, v, a, c => by
    show (tyC e.1 ty).bind (fun u => tyL (l ++ t) u) = _
    replace a : (tyC e.1 ty).bind (fun u => tyL l u) = some u := a
    cases hc : tyC e.1 ty with
    | none => rw [hc] at a; cases a
    | some y =>
      rw [hc] at a
      exact tyL_2 (l := l) a c
theorem tyL_1 {e : Int32 × Int32} {ty u : List Bool} (a : tyC e.1 ty = some u) : tyL [e] ty = some u := by
  show (tyC e.1 ty).bind (fun u => some u) = _
  rw [a]
  rfl
theorem tyC_p {s : Int32} {ty : List Bool} (h : s.toInt ≤ 11) (hl : ty.length ≤ 22) : tyC s ty = some ((decide (7 ≤ s.toInt) && decide (s.toInt ≤ 10)) :: ty) := (if_pos h).trans (if_pos hl)
def stepOK (e : Int32 × Int32) : Prop := (0 ≤ e.1.toInt ∧ e.1.toInt ≤ 10) ∨ (e.1 = 11 ∧ 0 ≤ e.2.toInt ∧ e.2.toInt ≤ 999) ∨ e.1 = 12 ∨ e.1 = 13 ∨ e.1 = 14 ∨ e.1 = 15 ∨ e.1 = 16 ∨ e.1 = 17
theorem cod_R {e : Int32 × Int32} (h : stepOK e) : codeR (cod e) e.1 e.2 := by
  obtain ⟨s, n⟩ := e
  unfold stepOK at h
  dsimp only at h ⊢
  rcases h with h | ⟨h, h2, h3⟩ | h | h | h | h | h | h
  · exact Or.inl ⟨h.1, h.2, if_pos h.2⟩
  · subst h
    refine Or.inr (Or.inl ⟨rfl, h2, h3, ?_⟩)
    rw [cod_n]
    have l : (256 : Int32).toInt = 256 := rfl
    rw [jadd (by omega) (by omega), l]
  · subst h; exact Or.inr (Or.inr (Or.inl ⟨rfl, rfl⟩))
  · subst h; exact Or.inr (Or.inr (Or.inr (Or.inl ⟨rfl, rfl⟩)))
  · subst h; exact Or.inr (Or.inr (Or.inr (Or.inr (Or.inl ⟨rfl, rfl⟩))))
  · subst h; exact Or.inr (Or.inr (Or.inr (Or.inr (Or.inr (Or.inl ⟨rfl, rfl⟩)))))
  · subst h; exact Or.inr (Or.inr (Or.inr (Or.inr (Or.inr (Or.inr (Or.inl ⟨rfl, rfl⟩))))))
  · subst h; exact Or.inr (Or.inr (Or.inr (Or.inr (Or.inr (Or.inr (Or.inr ⟨rfl, rfl⟩))))))
def okL (l : List (Int32 × Int32)) : Prop := ∀ e ∈ l, stepOK e
theorem okL_2 {l t : List (Int32 × Int32)} (a : okL l) (c : okL t) : okL (l ++ t) := fun e h => by
  rcases List.mem_append.mp h with y | y
  · exact a e y
  · exact c e y
theorem okL_1 {e : Int32 × Int32} (h : stepOK e) : okL [e] := fun f y => by
  have : f = e := by simpa using y
  subst this; exact h
theorem okL_0 : okL [] := fun f y => by cases y
section
variable {T : Nat → Int32 × Int32}
theorem part_t {k : Nat} {d : Nat × List (Int32 × Int32)} (e : rdPart T k = .inl d) : okL d.2 ∧ ∀ ty : List Bool, ty.length ≤ 22 → tyL d.2 ty = some (false :: ty) := by
  unfold rdPart at e
  split at e
  · rename_i z
    cases e
    refine ⟨okL_1 (Or.inl ⟨z.1, by dsimp only; omega⟩), fun ty h => tyL_1 ?_⟩
    dsimp only
    rw [tyC_p (by omega) h, show decide (7 ≤ (T k).1.toInt) = false from decide_eq_false (by omega)]
    rfl
  · split at e
    · rename_i z
      cases e
      obtain ⟨-, a, c⟩ := z
      rw [Int32.le_iff_toInt_le] at a c
      exact ⟨okL_1 (Or.inr (Or.inl ⟨rfl, a, c⟩)), fun ty h => tyL_1 (tyC_p (show (11 : Int32).toInt ≤ 11 by decide) h)⟩
    · cases e
theorem sl_t : ∀ (F : Nat) {k : Nat} {d : Nat × List (Int32 × Int32)}, rdSL T F k = .inl d → okL d.2 ∧ ∀ ty : List Bool, ty.length ≤ 21 → tyL d.2 (false :: ty) = some (false :: ty)
  | 0, k, d, e => by cases e
  | F + 1, k, d, e => by
    unfold rdSL at e
    split at e
    · obtain ⟨d1, e1, a1, a2, a3⟩ := sq_inv e
      obtain ⟨d2, e2, b1, b2, b3⟩ := sq_inv a2
      cases b1
      obtain ⟨c1, c2⟩ := part_t a1
      obtain ⟨g1, g2⟩ := sl_t F b2
      subst a3 b3
      exact ⟨okL_2 c1 (okL_2 (okL_1 (Or.inr (Or.inr (Or.inl rfl)))) g1), fun ty h => tyL_2 (c2 (false :: ty) (by simp; omega)) (tyL_2 (tyL_1 rfl) (g2 ty h))⟩
    · cases e
      exact ⟨okL_0, fun ty h => rfl⟩
theorem sum_t {F k : Nat} {d : Nat × List (Int32 × Int32)} (e : rdSum T F k = .inl d) : okL d.2 ∧ ∀ ty : List Bool, ty.length ≤ 21 → tyL d.2 ty = some (false :: ty) := by
  obtain ⟨d1, e1, a1, a2, a3⟩ := sq_inv e
  obtain ⟨c1, c2⟩ := part_t a1
  obtain ⟨g1, g2⟩ := sl_t F a2
  subst a3
  exact ⟨okL_2 c1 g1, fun ty h => tyL_2 (c2 ty (by omega)) (g2 ty h)⟩
theorem g_t : ∀ (F : Nat) {w dp k : Nat} {d : Nat × List (Int32 × Int32)}, w ≤ 4 → dp ≤ 6 → rdG T F w dp k = .inl d → okL d.2 ∧ ∀ ty : List Bool, (w = 0 → ty.length ≤ 2 * dp → tyL d.2 ty = some (true :: ty)) ∧ (w = 1 → ty.length ≤ 2 * dp + 2 → tyL d.2 ty = some (true :: ty)) ∧ (w = 2 → ty.length ≤ 2 * dp + 1 → tyL d.2 ty = some (true :: ty)) ∧ (w = 3 → ty.length ≤ 2 * dp + 1 → tyL d.2 (true :: ty) = some (true :: ty)) ∧ (w = 4 → ty.length ≤ 2 * dp → tyL d.2 (true :: ty) = some (true :: ty))
  | 0, w, dp, k, d, hw, hd, e => by cases e
  | F + 1, w, dp, k, d, hw, hd, e => by
    rcases (by omega : w = 0 ∨ w = 1 ∨ w = 2 ∨ w = 3 ∨ w = 4) with y | y | y | y | y <;> subst y
    · rw [rdG_0] at e
      obtain ⟨d1, e1, a1, a2, a3⟩ := sq_inv e
      obtain ⟨c1, c2⟩ := g_t F (by decide) hd a1
      obtain ⟨g1, g2⟩ := g_t F (by decide) hd a2
      subst a3
      exact ⟨okL_2 c1 g1, fun ty => ⟨fun _ h => tyL_2 ((c2 ty).2.2.1 rfl (by omega)) ((g2 ty).2.2.2.2 rfl h), fun z => absurd z (by decide), fun z => absurd z (by decide), fun z => absurd z (by decide), fun z => absurd z (by decide)⟩⟩
    · have fin : ∀ {l : List (Int32 × Int32)}, okL l → (∀ ty : List Bool, ty.length ≤ 2 * dp + 2 → tyL l ty = some (true :: ty)) → okL l ∧ ∀ ty : List Bool, (1 = 0 → ty.length ≤ 2 * dp → tyL l ty = some (true :: ty)) ∧ (1 = 1 → ty.length ≤ 2 * dp + 2 → tyL l ty = some (true :: ty)) ∧ (1 = 2 → ty.length ≤ 2 * dp + 1 → tyL l ty = some (true :: ty)) ∧ (1 = 3 → ty.length ≤ 2 * dp + 1 → tyL l (true :: ty) = some (true :: ty)) ∧ (1 = 4 → ty.length ≤ 2 * dp → tyL l (true :: ty) = some (true :: ty)) := fun a c => ⟨a, fun ty => ⟨fun z => absurd z (by decide), fun _ h => c ty h, fun z => absurd z (by decide), fun z => absurd z (by decide), fun z => absurd z (by decide)⟩⟩
      rw [rdG_1] at e
      split at e
      · split at e
        · cases e
        · rename_i d6
          obtain ⟨d1, e1, a1, a2, a3⟩ := sq_inv e
          obtain ⟨c1, c2⟩ := g_t F (by decide) (by omega) a1
          split at a2
          · cases a2
            subst a3
            exact fin (by rw [List.append_nil]; exact c1) (fun ty h => by rw [List.append_nil]; exact (c2 ty).1 rfl (by omega))
          · cases a2
      · split at e
        · split at e
          · cases e
          · rename_i d6
            obtain ⟨d1, e1, a1, a2, a3⟩ := sq_inv e
            obtain ⟨c1, c2⟩ := g_t F (by decide) (by omega) a1
            cases a2
            subst a3
            exact fin (okL_2 c1 (okL_1 (Or.inr (Or.inr (Or.inr (Or.inr (Or.inr (Or.inl rfl)))))))) (fun ty h => tyL_2 ((c2 ty).2.1 rfl (by omega)) (tyL_1 rfl))
        · split at e
          · rename_i z
            cases e
            refine fin (okL_1 (Or.inl ⟨by dsimp only; omega, z.2⟩)) (fun ty h => tyL_1 ?_)
            dsimp only
            rw [tyC_p (by omega) (by omega), show decide (7 ≤ (T k).1.toInt) = true from decide_eq_true z.1, show decide ((T k).1.toInt ≤ 10) = true from decide_eq_true z.2]
            rfl
          · obtain ⟨d1, e1, a1, a2, a3⟩ := sq_inv e
            obtain ⟨c1, c2⟩ := sum_t a1
            split at a2
            · obtain ⟨d2, e2, b1, b2, b3⟩ := sq_inv a2
              obtain ⟨g1, g2⟩ := sum_t b1
              cases b2
              subst a3 b3
              exact fin (okL_2 c1 (okL_2 g1 (okL_1 (Or.inr (Or.inr (Or.inr (Or.inl rfl))))))) (fun ty h => tyL_2 (c2 ty (by omega)) (tyL_2 (g2 (false :: ty) (by simp; omega)) (tyL_1 rfl)))
            · split at a2
              · obtain ⟨d2, e2, b1, b2, b3⟩ := sq_inv a2
                obtain ⟨g1, g2⟩ := sum_t b1
                cases b2
                subst a3 b3
                exact fin (okL_2 c1 (okL_2 g1 (okL_1 (Or.inr (Or.inr (Or.inr (Or.inr (Or.inl rfl)))))))) (fun ty h => tyL_2 (c2 ty (by omega)) (tyL_2 (g2 (false :: ty) (by simp; omega)) (tyL_1 rfl)))
              · cases a2
    · rw [rdG_2] at e
      obtain ⟨d1, e1, a1, a2, a3⟩ := sq_inv e
      obtain ⟨c1, c2⟩ := g_t F (by decide) hd a1
      obtain ⟨g1, g2⟩ := g_t F (by decide) hd a2
      subst a3
      exact ⟨okL_2 c1 g1, fun ty => ⟨fun z => absurd z (by decide), fun z => absurd z (by decide), fun _ h => tyL_2 ((c2 ty).2.1 rfl (by omega)) ((g2 ty).2.2.2.1 rfl h), fun z => absurd z (by decide), fun z => absurd z (by decide)⟩⟩
    · rw [rdG_3] at e
      split at e
      · obtain ⟨d1, e1, a1, a2, a3⟩ := sq_inv e
        obtain ⟨d2, e2, b1, b2, b3⟩ := sq_inv a2
        cases b1
        obtain ⟨c1, c2⟩ := g_t F (by decide) hd a1
        obtain ⟨g1, g2⟩ := g_t F (by decide) hd b2
        subst a3 b3
        exact ⟨okL_2 c1 (okL_2 (okL_1 (Or.inr (Or.inr (Or.inr (Or.inr (Or.inr (Or.inr (Or.inl rfl)))))))) g1), fun ty => ⟨fun z => absurd z (by decide), fun z => absurd z (by decide), fun z => absurd z (by decide), fun _ h => tyL_2 ((c2 (true :: ty)).2.1 rfl (by simp; omega)) (tyL_2 (tyL_1 rfl) ((g2 ty).2.2.2.1 rfl h)), fun z => absurd z (by decide)⟩⟩
      · cases e
        exact ⟨okL_0, fun ty => ⟨fun z => absurd z (by decide), fun z => absurd z (by decide), fun z => absurd z (by decide), fun _ h => rfl, fun z => absurd z (by decide)⟩⟩
    · rw [rdG_4] at e
      split at e
      · obtain ⟨d1, e1, a1, a2, a3⟩ := sq_inv e
        obtain ⟨d2, e2, b1, b2, b3⟩ := sq_inv a2
        cases b1
        obtain ⟨c1, c2⟩ := g_t F (by decide) hd a1
        obtain ⟨g1, g2⟩ := g_t F (by decide) hd b2
        subst a3 b3
        exact ⟨okL_2 c1 (okL_2 (okL_1 (Or.inr (Or.inr (Or.inr (Or.inr (Or.inr (Or.inr (Or.inr rfl)))))))) g1), fun ty => ⟨fun z => absurd z (by decide), fun z => absurd z (by decide), fun z => absurd z (by decide), fun z => absurd z (by decide), fun _ h => tyL_2 ((c2 (true :: ty)).2.2.1 rfl (by simp; omega)) (tyL_2 (tyL_1 rfl) ((g2 ty).2.2.2.2 rfl h))⟩⟩
      · cases e
        exact ⟨okL_0, fun ty => ⟨fun z => absurd z (by decide), fun z => absurd z (by decide), fun z => absurd z (by decide), fun z => absurd z (by decide), fun _ h => rfl⟩⟩
/-- the steps of a line -/
theorem lt_t {k : Nat} {d : Nat × List (Int32 × Int32)} (e : rdLT T k = .inl d) : okL d.2 ∧ (tyL d.2 [] = some [] ∨ tyL d.2 [] = some [true]) ∧ nOK T k 0 100 := by
  unfold rdLT at e
  split at e
  · rename_i z
    split at e
    · obtain ⟨c1, c2⟩ := g_t 2000 (by decide) (by decide) e
      exact ⟨c1, Or.inr ((c2 []).1 rfl (by simp)), z⟩
    · cases e
      exact ⟨okL_0, Or.inl rfl, z⟩
  · cases e
end
