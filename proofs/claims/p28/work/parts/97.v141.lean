/-! what a condition of a law's text is: the steps that it makes, or where it is wrong -/
abbrev jRd : Type := (Nat × List (Int32 × Int32)) ⊕ Nat
def sqP (a : jRd) (f : Nat → jRd) : jRd := match a with
  | .inr e => .inr e
  | .inl d => match f d.1 with
    | .inr e => .inr e
    | .inl e => .inl (e.1, d.2 ++ e.2)
theorem sq_r {a : jRd} {f : Nat → jRd} {e : Nat} (h : a = .inr e) : sqP a f = .inr e := by rw [h]; rfl
theorem sq_lr {a : jRd} {f : Nat → jRd} {d : Nat × List (Int32 × Int32)} {e : Nat} (h : a = .inl d) (g : f d.1 = .inr e) : sqP a f = .inr e := by
  rw [h]
  show (match f d.1 with | .inr e => .inr e | .inl e => .inl (e.1, d.2 ++ e.2) : jRd) = _
  rw [g]
theorem sq_ll {a : jRd} {f : Nat → jRd} {d e : Nat × List (Int32 × Int32)} (h : a = .inl d) (g : f d.1 = .inl e) : sqP a f = .inl (e.1, d.2 ++ e.2) := by
  rw [h]
  show (match f d.1 with | .inr e => .inr e | .inl e => .inl (e.1, d.2 ++ e.2) : jRd) = _
  rw [g]
theorem sq_inv {a : jRd} {f : Nat → jRd} {r : Nat × List (Int32 × Int32)} (h : sqP a f = .inl r) : ∃ d e, a = .inl d ∧ f d.1 = .inl e ∧ r = (e.1, d.2 ++ e.2) := by
  rcases ha : a with d | e
  · rcases hf : f d.1 with e | e
    · rw [sq_ll ha hf] at h
      cases h
      exact ⟨d, e, rfl, hf, rfl⟩
    · rw [sq_lr ha hf] at h
      cases h
  · rw [sq_r ha] at h
    cases h
def rdPart (T : Nat → Int32 × Int32) (k : Nat) : jRd := if 0 ≤ (T k).1.toInt ∧ (T k).1.toInt ≤ 6 then .inl (k + 1, [((T k).1, 0)]) else if nOK T k 0 999 then .inl (k + 1, [(11, (T k).2)]) else .inr k
def rdSL (T : Nat → Int32 × Int32) : Nat → Nat → jRd
  | 0, k => .inr k
  | F + 1, k => if (T k).1 = 43 then sqP (rdPart T (k + 1)) (fun j => sqP (.inl (j, [(12, 0)])) (fun i => rdSL T F i)) else .inl (k, [])
def rdSum (T : Nat → Int32 × Int32) (F k : Nat) : jRd := sqP (rdPart T k) (fun j => rdSL T F j)
/-- w: 0 a condition, 2 what is joined by and, 1 one of these, 3 what comes behind one, 4 what comes behind all of these; dp: how deep -/
def rdG (T : Nat → Int32 × Int32) : Nat → Nat → Nat → Nat → jRd
  | 0, _, _, k => .inr k
  | F + 1, w, dp, k =>
    if w = 0 then sqP (rdG T F 2 dp k) (fun j => rdG T F 4 dp j)
    else if w = 2 then sqP (rdG T F 1 dp k) (fun j => rdG T F 3 dp j)
    else if w = 3 then (if (T k).1 = 12 then sqP (rdG T F 1 dp (k + 1)) (fun j => sqP (.inl (j, [(16, 0)])) (fun i => rdG T F 3 dp i)) else .inl (k, []))
    else if w = 4 then (if (T k).1 = 13 then sqP (rdG T F 2 dp (k + 1)) (fun j => sqP (.inl (j, [(17, 0)])) (fun i => rdG T F 4 dp i)) else .inl (k, []))
    else if (T k).1 = 40 then (if dp = 6 then .inr k else sqP (rdG T F 0 (dp + 1) (k + 1)) (fun j => if (T j).1 = 41 then .inl (j + 1, []) else .inr j))
    else if (T k).1 = 11 then (if dp = 6 then .inr k else sqP (rdG T F 1 (dp + 1) (k + 1)) (fun j => .inl (j, [(15, 0)])))
    else if 7 ≤ (T k).1.toInt ∧ (T k).1.toInt ≤ 10 then .inl (k + 1, [((T k).1, 0)])
    else sqP (rdSum T F k) (fun j => if (T j).1 = 60 then sqP (rdSum T F (j + 1)) (fun i => .inl (i, [(13, 0)])) else if (T j).1 = 62 then sqP (rdSum T F (j + 1)) (fun i => .inl (i, [(14, 0)])) else .inr j)
section
variable {b : Nat → Int32} {L m : Nat} {T : Nat → Int32 × Int32} {st en : Nat → Nat}
theorem part_i (H : tkE b L m T st en) {k : Nat} {d : Nat × List (Int32 × Int32)} (e : rdPart T k = .inl d) : d.1 = k + 1 ∧ d.2.length = 1 ∧ k < m := by
  unfold rdPart at e
  split at e
  · rename_i z
    cases e
    exact ⟨rfl, rfl, tk_m H (fun y => by rw [y] at z; exact absurd z.1 (by decide))⟩
  · split at e
    · rename_i z
      cases e
      exact ⟨rfl, rfl, tk_m H (fun y => by rw [z.1] at y; exact absurd y (by decide))⟩
    · cases e
theorem sl_i (H : tkE b L m T st en) : ∀ (F : Nat) {k : Nat} {d : Nat × List (Int32 × Int32)}, k ≤ m → rdSL T F k = .inl d → k ≤ d.1 ∧ d.1 ≤ m ∧ d.2.length + k ≤ d.1
  | 0, k, d, hk, e => by cases e
  | F + 1, k, d, hk, e => by
    unfold rdSL at e
    split at e
    · obtain ⟨d1, e1, a1, a2, a3⟩ := sq_inv e
      obtain ⟨d2, e2, b1, b2, b3⟩ := sq_inv a2
      cases b1
      obtain ⟨c1, c2, c3⟩ := part_i H a1
      obtain ⟨g1, g2, g3⟩ := sl_i H F (by omega) b2
      subst a3 b3
      simp only [List.length_append, List.length_cons, List.length_nil] at *
      try dsimp only at *
      omega
    · cases e
      exact ⟨Nat.le_refl _, hk, by simp⟩
theorem sum_i (H : tkE b L m T st en) {F k : Nat} {d : Nat × List (Int32 × Int32)} (e : rdSum T F k = .inl d) : k < d.1 ∧ d.1 ≤ m ∧ d.2.length + k ≤ d.1 ∧ k < m := by
  obtain ⟨d1, e1, a1, a2, a3⟩ := sq_inv e
  obtain ⟨c1, c2, c3⟩ := part_i H a1
  obtain ⟨g1, g2, g3⟩ := sl_i H F (by omega) a2
  subst a3
  simp only [List.length_append] at *
  try dsimp only at *
  omega
/-- how far it goes on: w of 3 and 4 may stay -/
theorem g_i (H : tkE b L m T st en) : ∀ (F : Nat) {w dp k : Nat} {d : Nat × List (Int32 × Int32)}, k ≤ m → rdG T F w dp k = .inl d → k ≤ d.1 ∧ d.1 ≤ m ∧ d.2.length + k ≤ d.1 ∧ (w ≤ 2 → k < d.1)
  | 0, w, dp, k, d, hk, e => by cases e
  | F + 1, w, dp, k, d, hk, e => by
    have tok : ∀ {c : Int32} {j : Nat}, (T j).1 = c → c ≠ -1 → j < m := fun h1 h2 => tk_m H (by rw [h1]; exact h2)
    unfold rdG at e
    split at e
    · obtain ⟨d1, e1, a1, a2, a3⟩ := sq_inv e
      obtain ⟨c1, c2, c3, c4⟩ := g_i H F hk a1
      obtain ⟨g1, g2, g3, -⟩ := g_i H F c2 a2
      have c5 := c4 (by omega)
      subst a3
      simp only [List.length_append] at *
      try dsimp only at *
      exact ⟨by omega, by omega, by omega, fun _ => by omega⟩
    · split at e
      · obtain ⟨d1, e1, a1, a2, a3⟩ := sq_inv e
        obtain ⟨c1, c2, c3, c4⟩ := g_i H F hk a1
        obtain ⟨g1, g2, g3, -⟩ := g_i H F c2 a2
        have c5 := c4 (by omega)
        subst a3
        simp only [List.length_append] at *
        try dsimp only at *
        exact ⟨by omega, by omega, by omega, fun _ => by omega⟩
      · split at e
        · split at e
          · rename_i t
            obtain ⟨d1, e1, a1, a2, a3⟩ := sq_inv e
            obtain ⟨d2, e2, b1, b2, b3⟩ := sq_inv a2
            cases b1
            obtain ⟨c1, c2, c3, -⟩ := g_i H F (tok t (by decide)) a1
            obtain ⟨g1, g2, g3, -⟩ := g_i H F c2 b2
            subst a3 b3
            simp only [List.length_append, List.length_cons, List.length_nil] at *
            try dsimp only at *
            exact ⟨by omega, by omega, by omega, fun _ => by omega⟩
          · cases e
            exact ⟨Nat.le_refl _, hk, by simp, fun _ => by omega⟩
        · split at e
          · split at e
            · rename_i t
              obtain ⟨d1, e1, a1, a2, a3⟩ := sq_inv e
              obtain ⟨d2, e2, b1, b2, b3⟩ := sq_inv a2
              cases b1
              obtain ⟨c1, c2, c3, -⟩ := g_i H F (tok t (by decide)) a1
              obtain ⟨g1, g2, g3, -⟩ := g_i H F c2 b2
              subst a3 b3
              simp only [List.length_append, List.length_cons, List.length_nil] at *
              try dsimp only at *
              exact ⟨by omega, by omega, by omega, fun _ => by omega⟩
            · cases e
              exact ⟨Nat.le_refl _, hk, by simp, fun _ => by omega⟩
          · split at e
            · rename_i t
              split at e
              · cases e
              · obtain ⟨d1, e1, a1, a2, a3⟩ := sq_inv e
                obtain ⟨c1, c2, c3, -⟩ := g_i H F (tok t (by decide)) a1
                try dsimp only at a2
                split at a2
                · rename_i t2
                  have t3 := tok t2 (by decide)
                  cases a2
                  subst a3
                  simp only [List.length_append, List.length_nil] at *
                  try dsimp only at *
                  exact ⟨by omega, by omega, by omega, fun _ => by omega⟩
                · cases a2
            · split at e
              · rename_i t
                split at e
                · cases e
                · obtain ⟨d1, e1, a1, a2, a3⟩ := sq_inv e
                  obtain ⟨c1, c2, c3, -⟩ := g_i H F (tok t (by decide)) a1
                  cases a2
                  subst a3
                  simp only [List.length_append, List.length_cons, List.length_nil] at *
                  try dsimp only at *
                  exact ⟨by omega, by omega, by omega, fun _ => by omega⟩
              · split at e
                · rename_i t
                  cases e
                  have t3 : k < m := tk_m H (fun y => by rw [y] at t; exact absurd t.1 (by decide))
                  exact ⟨Nat.le_succ _, t3, by simp; omega, fun _ => Nat.lt_succ_self _⟩
                · obtain ⟨d1, e1, a1, a2, a3⟩ := sq_inv e
                  obtain ⟨c1, c2, c3, c4⟩ := sum_i H a1
                  try dsimp only at a2
                  split at a2
                  · obtain ⟨d2, e2, b1, b2, b3⟩ := sq_inv a2
                    obtain ⟨g1, g2, g3, -⟩ := sum_i H b1
                    cases b2
                    subst a3 b3
                    simp only [List.length_append, List.length_cons, List.length_nil] at *
                    try dsimp only at *
                    exact ⟨by omega, by omega, by omega, fun _ => by omega⟩
                  · split at a2
                    · obtain ⟨d2, e2, b1, b2, b3⟩ := sq_inv a2
                      obtain ⟨g1, g2, g3, -⟩ := sum_i H b1
                      cases b2
                      subst a3 b3
                      simp only [List.length_append, List.length_cons, List.length_nil] at *
                      try dsimp only at *
                      exact ⟨by omega, by omega, by omega, fun _ => by omega⟩
                    · cases a2
end
