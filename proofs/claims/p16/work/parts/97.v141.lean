section
/-! what a condition of a law's text is: the steps that it makes, or where it is wrong -/
abbrev jRd : Type := (Nat × List (Int32 × Int32)) ⊕ Nat
def sqP (a : jRd) (f : Nat → jRd) : jRd := match a with
  | .inr e => .inr e
  | .inl d => match f d.1 with
    | .inr e => .inr e
    | .inl e => .inl (e.1, d.2 ++ e.2)
theorem sq_r {a : jRd} {f : Nat → jRd} {e : Nat} (h : a = .inr e) : sqP a f = .inr e := by rw [h]; rfl
theorem sq_lr {a : jRd} {f : Nat → jRd} {d : Nat × List (Int32 × Int32)} {e : Nat} (h : a = .inl d) (g : f d.1 = .inr e) : sqP a f = .inr e := by
  rw [h]
  show (match f d.1 with | .inr e => .inr e | .inl e => .inl (e.1, d.2 ++ e.2) : jRd) = _
  rw [g]
theorem sq_ll {a : jRd} {f : Nat → jRd} {d e : Nat × List (Int32 × Int32)} (h : a = .inl d) (g : f d.1 = .inl e) : sqP a f = .inl (e.1, d.2 ++ e.2) := by
  rw [h]
  show (match f d.1 with | .inr e => .inr e | .inl e => .inl (e.1, d.2 ++ e.2) : jRd) = _
  rw [g]
theorem sq_inv {a : jRd} {f : Nat → jRd} {r : Nat × List (Int32 × Int32)} (h : sqP a f = .inl r) : ∃ d e, a = .inl d ∧ f d.1 = .inl e ∧ r = (e.1, d.2 ++ e.2) := by
  rcases ha : a with d | e
  · rcases hf : f d.1 with e | e
    · rw [sq_ll ha hf] at h
      cases h
      exact ⟨d, e, rfl, hf, rfl⟩
    · rw [sq_lr ha hf] at h
      cases h
  · rw [sq_r ha] at h
    cases h
def rdPart (T : Nat → Int32 × Int32) (k : Nat) : jRd := if 0 ≤ (T k).1.toInt ∧ (T k).1.toInt ≤ 6 then .inl (k + 1, [((T k).1, 0)]) else if nOK T k 0 999 then .inl (k + 1, [(11, (T k).2)]) else .inr k
def rdSL (T : Nat → Int32 × Int32) : Nat → Nat → jRd
  | 0, k => .inr k
  | F + 1, k => if (T k).1 = 43 then sqP (rdPart T (k + 1)) (fun j => sqP (.inl (j, [(12, 0)])) (fun i => rdSL T F i)) else .inl (k, [])
def rdSum (T : Nat → Int32 × Int32) (F k : Nat) : jRd := sqP (rdPart T k) (fun j => rdSL T F j)
/-- w: 0 a condition, 2 what is joined by and, 1 one of these, 3 what comes behind one, 4 what comes behind all of these; dp: how deep -/
def rdG (T : Nat → Int32 × Int32) : Nat → Nat → Nat → Nat → jRd
  | 0, _, _, k => .inr k
  | F + 1, w, dp, k =>
    if w = 0 then sqP (rdG T F 2 dp k) (fun j => rdG T F 4 dp j)
    else if w = 2 then sqP (rdG T F 1 dp k) (fun j => rdG T F 3 dp j)
    else if w = 3 then (if (T k).1 = 12 then sqP (rdG T F 1 dp (k + 1)) (fun j => sqP (.inl (j, [(16, 0)])) (fun i => rdG T F 3 dp i)) else .inl (k, []))
    else if w = 4 then (if (T k).1 = 13 then sqP (rdG T F 2 dp (k + 1)) (fun j => sqP (.inl (j, [(17, 0)])) (fun i => rdG T F 4 dp i)) else .inl (k, []))
    else if (T k).1 = 40 then (if dp = 6 then .inr k else sqP (rdG T F 0 (dp + 1) (k + 1)) (fun j => if (T j).1 = 41 then .inl (j + 1, []) else .inr j))
    else if (T k).1 = 11 then (if dp = 6 then .inr k else sqP (rdG T F 1 (dp + 1) (k + 1)) (fun j => .inl (j, [(15, 0)])))
    else if 7 ≤ (T k).1.toInt ∧ (T k).1.toInt ≤ 10 then .inl (k + 1, [((T k).1, 0)])
    else sqP (rdSum T F k) (fun j => if (T j).1 = 60 then sqP (rdSum T F (j + 1)) (fun i => .inl (i, [(13, 0)])) else if (T j).1 = 62 then sqP (rdSum T F (j + 1)) (fun i => .inl (i, [(14, 0)])) else .inr j)
section
variable {b : Nat → Int32} {L m : Nat} {T : Nat → Int32 × Int32} {st en : Nat → Nat}
theorem part_i (H : tkE b L m T st en) {k : Nat} {d : Nat × List (Int32 × Int32)} (e : rdPart T k = .inl d) : d.1 = k + 1 ∧ d.2.length = 1 ∧ k < m := by
  unfold rdPart at e
  split at e
  · rename_i z
    cases e
    exact ⟨rfl, rfl, tk_m H (fun y => by rw [y] at z; exact absurd z.1 (by decide))⟩
  · split at e
    · rename_i z
      cases e
      exact ⟨rfl, rfl, tk_m H (fun y => by rw [z.1] at y; exact absurd y (by decide))⟩
    · cases e
theorem sl_i (H : tkE b L m T st en) : ∀ (F : Nat) {k : Nat} {d : Nat × List (Int32 × Int32)}, k ≤ m → rdSL T F k = .inl d → k ≤ d.1 ∧ d.1 ≤ m ∧ d.2.length + k ≤ d.1
  | 0, k, d, hk, e => by cases e
  | F + 1, k, d, hk, e => by
    unfold rdSL at e
    split at e
    · obtain ⟨d1, e1, a1, a2, a3⟩ := sq_inv e
      obtain ⟨d2, e2, b1, b2, b3⟩ := sq_inv a2
      cases b1
      obtain ⟨c1, c2, c3⟩ := part_i H a1
      obtain ⟨g1, g2, g3⟩ := sl_i H F (by omega) b2
      subst a3 b3
      simp only [List.length_append, List.length_cons, List.length_nil] at *
      try dsimp only at *
      omega
    · cases e
      exact ⟨Nat.le_refl _, hk, by simp⟩
theorem sum_i (H : tkE b L m T st en) {F k : Nat} {d : Nat × List (Int32 × Int32)} (e : rdSum T F k = .inl d) : k < d.1 ∧ d.1 ≤ m ∧ d.2.length + k ≤ d.1 ∧ k < m := by
  obtain ⟨d1, e1, a1, a2, a3⟩ := sq_inv e
  obtain ⟨c1, c2, c3⟩ := part_i H a1
  obtain ⟨g1, g2, g3⟩ := sl_i H F (by omega) a2
  subst a3
  simp only [List.length_append] at *
  try dsimp only at *
  omega
/-- how far it goes on: w of 3 and 4 may stay -/
theorem g_i (H : tkE b L m T st en) : ∀ (F : Nat) {w dp k : Nat} {d : Nat × List (Int32 × Int32)}, k ≤ m → rdG T F w dp k = .inl d → k ≤ d.1 ∧ d.1 ≤ m ∧ d.2.length + k ≤ d.1 ∧ (w ≤ 2 → k < d.1)
  | 0, w, dp, k, d, hk, e => by cases e
  | F + 1, w, dp, k, d, hk, e => by
    have tok : ∀ {c : Int32} {j : Nat}, (T j).1 = c → c ≠ -1 → j < m := fun h1 h2 => tk_m H (by rw [h1]; exact h2)
    unfold rdG at e
    split at e
    · obtain ⟨d1, e1, a1, a2, a3⟩ := sq_inv e
      obtain ⟨c1, c2, c3, c4⟩ := g_i H F hk a1
      obtain ⟨g1, g2, g3, -⟩ := g_i H F c2 a2
      have c5 := c4 (by omega)
      subst a3
      simp only [List.length_append] at *
      try dsimp only at *
      exact ⟨by omega, by omega, by omega, fun _ => by omega⟩
    · split at e
      · obtain ⟨d1, e1, a1, a2, a3⟩ := sq_inv e
        obtain ⟨c1, c2, c3, c4⟩ := g_i H F hk a1
        obtain ⟨g1, g2, g3, -⟩ := g_i H F c2 a2
        have c5 := c4 (by omega)
        subst a3
        simp only [List.length_append] at *
        try dsimp only at *
        exact ⟨by omega, by omega, by omega, fun _ => by omega⟩
      · split at e
        · split at e
          · rename_i t
            obtain ⟨d1, e1, a1, a2, a3⟩ := sq_inv e
            obtain ⟨d2, e2, b1, b2, b3⟩ := sq_inv a2
            cases b1
            obtain ⟨c1, c2, c3, -⟩ := g_i H F (tok t (by decide)) a1
            obtain ⟨g1, g2, g3, -⟩ := g_i H F c2 b2
            subst a3 b3
            simp only [List.length_append, List.length_cons, List.length_nil] at *
            try dsimp only at *
            exact ⟨by omega, by omega, by omega, fun _ => by omega⟩
          · cases e
            exact ⟨Nat.le_refl _, hk, by simp, fun _ => by omega⟩
        · split at e
          · split at e
            · rename_i t
              obtain ⟨d1, e1, a1, a2, a3⟩ := sq_inv e
              obtain ⟨d2, e2, b1, b2, b3⟩ := sq_inv a2
              cases b1
              obtain ⟨c1, c2, c3, -⟩ := g_i H F (tok t (by decide)) a1
              obtain ⟨g1, g2, g3, -⟩ := g_i H F c2 b2
              subst a3 b3
              simp only [List.length_append, List.length_cons, List.length_nil] at *
              try dsimp only at *
              exact ⟨by omega, by omega, by omega, fun _ => by omega⟩
            · cases e
              exact ⟨Nat.le_refl _, hk, by simp, fun _ => by omega⟩
          · split at e
            · rename_i t
              split at e
              · cases e
              · obtain ⟨d1, e1, a1, a2, a3⟩ := sq_inv e
                obtain ⟨c1, c2, c3, -⟩ := g_i H F (tok t (by decide)) a1
                try dsimp only at a2
                split at a2
                · rename_i t2
                  have t3 := tok t2 (by decide)
                  cases a2
                  subst a3
                  simp only [List.length_append, List.length_nil] at *
                  try dsimp only at *
                  exact ⟨by omega, by omega, by omega, fun _ => by omega⟩
                · cases a2
            · split at e
              · rename_i t
                split at e
                · cases e
                · obtain ⟨d1, e1, a1, a2, a3⟩ := sq_inv e
                  obtain ⟨c1, c2, c3, -⟩ := g_i H F (tok t (by decide)) a1
                  cases a2
                  subst a3
                  simp only [List.length_append, List.length_cons, List.length_nil] at *
                  try dsimp only at *
                  exact ⟨by omega, by omega, by omega, fun _ => by omega⟩
              · split at e
                · rename_i t
                  cases e
                  have t3 : k < m := tk_m H (fun y => by rw [y] at t; exact absurd t.1 (by decide))
                  exact ⟨Nat.le_succ _, t3, by simp; omega, fun _ => Nat.lt_succ_self _⟩
                · obtain ⟨d1, e1, a1, a2, a3⟩ := sq_inv e
                  obtain ⟨c1, c2, c3, c4⟩ := sum_i H a1
                  try dsimp only at a2
                  split at a2
                  · obtain ⟨d2, e2, b1, b2, b3⟩ := sq_inv a2
                    obtain ⟨g1, g2, g3, -⟩ := sum_i H b1
                    cases b2
                    subst a3 b3
                    simp only [List.length_append, List.length_cons, List.length_nil] at *
                    try dsimp only at *
                    exact ⟨by omega, by omega, by omega, fun _ => by omega⟩
                  · split at a2
                    · obtain ⟨d2, e2, b1, b2, b3⟩ := sq_inv a2
                      obtain ⟨g1, g2, g3, -⟩ := sum_i H b1
                      cases b2
                      subst a3 b3
                      simp only [List.length_append, List.length_cons, List.length_nil] at *
                      try dsimp only at *
                      exact ⟨by omega, by omega, by omega, fun _ => by omega⟩
                    · cases a2
end
end
section
/-! a condition of a law's text, as the reference reads it -/
def emW : jWd → Nat → List (Int32 × Int32) → jWd
  | W, _, [] => W
  | W, s, e :: t => emW (upd (upd W (1333 + 2 * s) e.1) (1334 + 2 * s) e.2) (s + 1) t
theorem emW_app : ∀ (l t : List (Int32 × Int32)) (W : jWd) (s : Nat), emW W s (l ++ t) = emW (emW W s l) (s + l.length) t
  | [], t, W, s => rfl
  | e :: l, t, W, s => by
    show emW _ (s + 1) (l ++ t) = _
    rw [emW_app l t]
    show emW (emW _ (s + 1) l) (s + 1 + l.length) t = emW (emW _ (s + 1) l) (s + (l.length + 1)) t
    rw [show s + 1 + l.length = s + (l.length + 1) by omega]
/-- what the reading of a condition leaves alone -/
def frQ (x : Nat) (O O2 : jO) : Prop := ∀ a k : Nat, ¬ (a = x ∧ (k = 10 ∨ k = 12 ∨ k = 13 ∨ k = 16)) → ¬ (a = x + 1 ∧ 1284 ≤ k) → O2 a k = O a k
theorem frQ_tr {x : Nat} {O O2 O3 : jO} (a : frQ x O O2) (c : frQ x O2 O3) : frQ x O O3 := fun b k h1 h2 => (c b k h1 h2).trans (a b k h1 h2)
theorem frQ_f {x k : Nat} {O : jO} {v : Value} (h : k = 10 ∨ k = 12 ∨ k = 13 ∨ k = 16) : frQ x O (u2 O x k v) := fun b j h1 h2 => u2_ne (by omega)
theorem frQ_w {x k : Nat} {O : jO} {v : Value} (h : 1284 ≤ k) : frQ x O (u2 O (x + 1) k v) := fun b j h1 h2 => u2_ne (by omega)
theorem frQ_0 {x : Nat} {O : jO} : frQ x O O := fun _ _ _ _ => rfl
theorem frQ_M {x : Nat} {O O2 : jO} (f : frQ x O O2) : frM x [1] [10, 12, 13, 16] O O2 := fun a k h1 h2 => f a k (fun z => h2 z.1 (by simp; omega)) (fun z => h1 1 (by simp) z.1)
/-- the reference stands before thing k, has made s steps, dp deep; its world is W -/
def rr (O : jO) (x : Nat) (b : Nat → Int32) (L : Nat) (st : Nat → Nat) (m k : Nat) (W : jWd) (s dp : Nat) : Prop := rc O x b L st k ∧ wl O x = W ∧ oi O x 16 = nI s ∧ oi O x 13 = nI dp ∧ s ≤ k ∧ k ≤ m ∧ m ≤ 400
def lwR (x : Nat) (b : Nat → Int32) (L : Nat) (st : Nat → Nat) (m : Nat) (h : jH) (v : Int32) (h2 : jH) (W : jWd) (s dp : Nat) (r : jRd) : Prop :=
  (∀ d, r = .inl d → v = 1 ∧ rr (oc h2) x b L st m d.1 (emW W s d.2) (s + d.2.length) dp) ∧ (∀ f, r = .inr f → v = 0 ∧ oi (oc h2) x 12 = nI (st f)) ∧ frQ x (oc h) (oc h2) ∧ h2.1 = h.1
theorem lwR_l {x L m s dp k : Nat} {b : Nat → Int32} {st : Nat → Nat} {h h2 : jH} {v : Int32} {W : jWd} {r : jRd} {l : List (Int32 × Int32)} (e : r = .inl (k, l)) (hv : v = 1) (R : rr (oc h2) x b L st m k (emW W s l) (s + l.length) dp) (f : frQ x (oc h) (oc h2)) (z : h2.1 = h.1) : lwR x b L st m h v h2 W s dp r :=
  ⟨fun d y => (by rw [e] at y; cases y; exact ⟨hv, R⟩), fun d y => (by rw [e] at y; cases y), f, z⟩
theorem lwR_r {x L m s dp k : Nat} {b : Nat → Int32} {st : Nat → Nat} {h h2 : jH} {v : Int32} {W : jWd} {r : jRd} (e : r = .inr k) (hv : v = 0) (g : oi (oc h2) x 12 = nI (st k)) (f : frQ x (oc h) (oc h2)) (z : h2.1 = h.1) : lwR x b L st m h v h2 W s dp r :=
  ⟨fun d y => (by rw [e] at y; cases y), fun d y => (by rw [e] at y; cases y; exact ⟨hv, g⟩), f, z⟩
section
variable {b : Nat → Int32} {L m : Nat} {T : Nat → Int32 × Int32} {st en : Nat → Nat}
theorem rr_fr {O O2 : jO} {x k k2 s dp : Nat} {W : jWd} (R : rr O x b L st m k W s dp) (f : frM x [] [10, 12] O O2) (R2 : rc O2 x b L st k2) (h1 : k ≤ k2) (h2 : k2 ≤ m) : rr O2 x b L st m k2 W s dp := by
  obtain ⟨-, a1, a2, a3, a4, a5, a6⟩ := R
  exact ⟨R2, by rw [wl_f f (by decide)]; exact a1, (frM_oi f (by decide) (by decide)).trans a2, (frM_oi f (by decide) (by decide)).trans a3, by omega, h2, a6⟩
theorem fr2 {O O2 : jO} {x : Nat} (f : frM x [] [10, 12] O O2) : frQ x O O2 := fun a k h1 h2 => f a k (fun c hc => by cases hc) (fun z y => h1 ⟨z, by simp at y; omega⟩)
theorem tk_let (H : tkE b L m T st en) {k : Nat} (y : bIn b L 97 122 (st k)) : (T k).1 ≠ -3 ∧ k < m := by
  have hk : k < m := by
    rcases Nat.lt_or_ge k m with z | z
    · exact z
    · have := (H.2.2.2.1 k z).1; have := y.1; omega
  refine ⟨?_, hk⟩
  rcases (H.2.2.1 k hk).2.1 with ⟨-, -, ⟨w, hw, t, -⟩ | ⟨t, -⟩⟩ | ⟨y2, -⟩ | ⟨-, y2, -⟩
  · rw [t]; exact fun z => nI_ng (x := -3) (show w < 1000 by omega) (by decide) z.symm
  · rw [t]; decide
  · exfalso
    have a1 := y.2.1; have a2 := y2.2.2
    rw [Int32.le_iff_toInt_le] at a1 a2
    have l97 : (97 : Int32).toInt = 97 := rfl
    have l57 : (57 : Int32).toInt = 57 := rfl
    omega
  · exact absurd y y2
theorem tk_nlet (H : tkE b L m T st en) {k w : Nat} (hw : w < 23) (y : ¬ bIn b L 97 122 (st k)) : (T k).1 ≠ nI w := fun z => by
  have q := ((tk_w H hw (row_0 y)).1.mpr z).1
  have := (wT_l w hw).1
  omega
theorem tk_n3 (H : tkE b L m T st en) {k : Nat} (h : (T k).1 = -3) : k < m := tk_m H (by rw [h]; decide)
end
theorem E_X12_emits {W : jWd} {s : Nat} {n : Nat} {a0 : Nat} {x1 : Int32} {x2 : Int32} {h : jH} {q : jH} (M : mS (oc h) a0) (hW : wl (oc h) a0 = W) (g : oi (oc h) a0 16 = nI s) (hs : s ≤ 1000) (hf : F_X12_emits n a0 x1 x2 h = some q) : wl (oc q) a0 = upd (upd W (1333 + 2 * s) x1) (1334 + 2 * s) x2 ∧ oi (oc q) a0 16 = nI (s + 1) ∧ frM a0 [1] [16] (oc h) (oc q) ∧ q.1 = h.1 ∧ frQ a0 (oc h) (oc q) := by
  unfold F_X12_emits at hf
  replace hf := jbind hf
  obtain ⟨p1, e1, hf⟩ := hf
  have r1 := oc_gR e1
  rw [M.1] at r1
  cases r1
  clear e1
  replace hf := jbind hf
  obtain ⟨v9, e2, hf⟩ := hf
  have r2 := oc_gI e2
  subst r2
  clear e2
  replace hf := jbind hf
  obtain ⟨h15, e3, hf⟩ := hf
  obtain ⟨o3, z3, y3⟩ := oc_as e3
  rw [jnar0] at o3
  clear e3
  replace hf := jbind hf
  obtain ⟨p17, e4, hf⟩ := hf
  have r4 := oc_gR e4
  rw [o3] at r4
  rw [u2_ne (Or.inl (by omega))] at r4
  rw [M.1] at r4
  cases r4
  clear e4
  replace hf := jbind hf
  obtain ⟨v25, e5, hf⟩ := hf
  have r5 := oc_gI e5
  rw [o3] at r5
  rw [oi_ne (Or.inl (by omega))] at r5
  subst r5
  clear e5
  replace hf := jbind hf
  obtain ⟨h33, e6, hf⟩ := hf
  obtain ⟨o6, z6, y6⟩ := oc_as e6
  rw [jnar0] at o6
  clear e6
  replace hf := jbind hf
  obtain ⟨v36, e7, hf⟩ := hf
  have r7 := oc_gI e7
  rw [o6] at r7
  rw [oi_ne (Or.inl (by omega))] at r7
  rw [o3] at r7
  rw [oi_ne (Or.inl (by omega))] at r7
  subst r7
  clear e7
  replace hf := jbind hf
  obtain ⟨h41, e8, hf⟩ := hf
  obtain ⟨o8, z8⟩ := oc_pf e8
  clear e8
  cases hf
  -- leaf : h41
  have e1 : (1333 : Int32) + (2 : Int32) * nI s = nI (1333 + 2 * s) := by show nI 1333 + nI 2 * nI s = _; rw [nI_mul, nI_add]
  have e2 : nI (1333 + 2 * s) + (1 : Int32) = nI (1334 + 2 * s) := by rw [nI_1]; congr 1; omega
  rw [g, e1, nI_cl (by omega)] at o3
  rw [g, e1, e2, nI_cl (by omega)] at o6
  rw [g, nI_1] at o8
  have f : frM a0 [1] [16] (oc h) (oc q) := by rw [o8, o6, o3]; exact frM_tr (frM_c (by decide)) (frM_tr (frM_c (by decide)) (frM_f (by decide)))
  exact ⟨by rw [o8, wl_n (by omega), o6, wl_w, o3, wl_w, hW], by rw [o8, oi_eq], f, z8.trans (z6.trans z3), by rw [o8, o6, o3]; exact frQ_tr (frQ_w (by omega)) (frQ_tr (frQ_w (by omega)) (frQ_f (by decide)))⟩
theorem rr_em {b : Nat → Int32} {L m : Nat} {st : Nat → Nat} {n x k s dp : Nat} {W : jWd} {c v : Int32} {h q : jH} (R : rr (oc h) x b L st m k W s dp) (hs : s + 1 ≤ k) (e : F_X12_emits n x c v h = some q) : rr (oc q) x b L st m k (emW W s [(c, v)]) (s + 1) dp ∧ frQ x (oc h) (oc q) ∧ q.1 = h.1 := by
  obtain ⟨R, a1, a2, a3, a4, a5, a6⟩ := R
  obtain ⟨c1, c2, c3, c4, c5⟩ := E_X12_emits (rc_mS R) a1 a2 (by omega) e
  exact ⟨⟨rc_fr R c3 (by decide) (by decide) (by decide) (by decide) (by decide), c1, c2, (frM_oi c3 (by decide) (by decide)).trans a3, hs, a5, a6⟩, c5, c4⟩
theorem E_X12_wordOfPart {b : Nat → Int32} {L : Nat} {m : Nat} {T : Nat → Int32 × Int32} {st : Nat → Nat} {en : Nat → Nat} {k : Nat} {n : Nat} {a0 : Nat} {h : jH} {q : Int32} (H : tkE b L m T st en) (R : rw2 (oc h) a0 b L st k) (hf : F_X12_wordOfPart n a0 h = some q) : (q = (T k).1 ∧ ∃ w : Nat, w ≤ 6 ∧ (T k).1 = nI w) ∨ (q = -1 ∧ ∀ w : Nat, w ≤ 6 → (T k).1 ≠ nI w) := by
  unfold F_X12_wordOfPart at hf
  replace hf := jbind hf
  obtain ⟨v3, e1, hf⟩ := hf
  replace e1 := (jcv_o e1).2
  have r1 := T_isWord (w := 0) H (by decide) R e1
  replace hf := jite hf
  rcases hf with ⟨c2, hf⟩ | ⟨c2, hf⟩
  · skip
    replace hf := jbind hf
    obtain ⟨v14, e3, hf⟩ := hf
    replace e3 := (jcv_o e3).2
    have r3 := T_isWord (w := 1) H (by decide) R e3
    replace hf := jite hf
    rcases hf with ⟨c4, hf⟩ | ⟨c4, hf⟩
    · skip
      replace hf := jbind hf
      obtain ⟨v25, e5, hf⟩ := hf
      replace e5 := (jcv_o e5).2
      have r5 := T_isWord (w := 2) H (by decide) R e5
      replace hf := jite hf
      rcases hf with ⟨c6, hf⟩ | ⟨c6, hf⟩
      · skip
        replace hf := jbind hf
        obtain ⟨v36, e7, hf⟩ := hf
        replace e7 := (jcv_o e7).2
        have r7 := T_isWord (w := 3) H (by decide) R e7
        replace hf := jite hf
        rcases hf with ⟨c8, hf⟩ | ⟨c8, hf⟩
        · skip
          replace hf := jbind hf
          obtain ⟨v47, e9, hf⟩ := hf
          replace e9 := (jcv_o e9).2
          have r9 := T_isWord (w := 4) H (by decide) R e9
          replace hf := jite hf
          rcases hf with ⟨c10, hf⟩ | ⟨c10, hf⟩
          · skip
            replace hf := jbind hf
            obtain ⟨v58, e11, hf⟩ := hf
            replace e11 := (jcv_o e11).2
            have r11 := T_isWord (w := 5) H (by decide) R e11
            replace hf := jite hf
            rcases hf with ⟨c12, hf⟩ | ⟨c12, hf⟩
            · skip
              replace hf := jbind hf
              obtain ⟨v69, e13, hf⟩ := hf
              replace e13 := (jcv_o e13).2
              have r13 := T_isWord (w := 6) H (by decide) R e13
              replace hf := jite hf
              rcases hf with ⟨c14, hf⟩ | ⟨c14, hf⟩
              · skip
                cases hf
                -- leaf 0000000: (- 1 : Int32)
                refine Or.inr ⟨rfl, fun w hw z => ?_⟩
                rcases (by omega : w = 0 ∨ w = 1 ∨ w = 2 ∨ w = 3 ∨ w = 4 ∨ w = 5 ∨ w = 6) with y | y | y | y | y | y | y <;> subst y
                · exact absurd ((r1.2.mpr z).symm.trans c2) (by decide)
                · exact absurd ((r3.2.mpr z).symm.trans c4) (by decide)
                · exact absurd ((r5.2.mpr z).symm.trans c6) (by decide)
                · exact absurd ((r7.2.mpr z).symm.trans c8) (by decide)
                · exact absurd ((r9.2.mpr z).symm.trans c10) (by decide)
                · exact absurd ((r11.2.mpr z).symm.trans c12) (by decide)
                · exact absurd ((r13.2.mpr z).symm.trans c14) (by decide)
              · skip
                cases hf
                -- leaf 0000001: (6 : Int32)
                have t := r13.2.mp (r13.1.resolve_left c14)
                exact Or.inl ⟨t.symm, 6, by decide, t⟩
            · skip
              cases hf
              -- leaf 000001: (5 : Int32)
              have t := r11.2.mp (r11.1.resolve_left c12)
              exact Or.inl ⟨t.symm, 5, by decide, t⟩
          · skip
            cases hf
            -- leaf 00001: (4 : Int32)
            have t := r9.2.mp (r9.1.resolve_left c10)
            exact Or.inl ⟨t.symm, 4, by decide, t⟩
        · skip
          cases hf
          -- leaf 0001: (3 : Int32)
          have t := r7.2.mp (r7.1.resolve_left c8)
          exact Or.inl ⟨t.symm, 3, by decide, t⟩
      · skip
        cases hf
        -- leaf 001: (2 : Int32)
        have t := r5.2.mp (r5.1.resolve_left c6)
        exact Or.inl ⟨t.symm, 2, by decide, t⟩
    · skip
      cases hf
      -- leaf 01: (1 : Int32)
      have t := r3.2.mp (r3.1.resolve_left c4)
      exact Or.inl ⟨t.symm, 1, by decide, t⟩
  · skip
    cases hf
    -- leaf 1: (0 : Int32)
    have t := r1.2.mp (r1.1.resolve_left c2)
    exact Or.inl ⟨t.symm, 0, by decide, t⟩
theorem E_X12_readPart_61 {b : Nat → Int32} {L : Nat} {m : Nat} {st : Nat → Nat} {k : Nat} {W : jWd} {s : Nat} {dp : Nat} {n : Nat} {x2 : Int32} {sa0 : Nat} {s1 : Int32} {s2 : Int32} {h : jH} {q : Int32 × jH} (R : rr (oc h) sa0 b L st m k W s dp) (hs : s + 1 ≤ k) (hf : F_X12_readPart_61 n x2 sa0 s1 s2 h = some q) : (x2.toInt < 0 → q.1 = 0) ∧ (0 ≤ x2.toInt → q.1 = 1) ∧ rr (oc q.2) sa0 b L st m k (emW W s [(s1, s2)]) (s + 1) dp ∧ frQ sa0 (oc h) (oc q.2) ∧ q.2.1 = h.1 := by
  unfold F_X12_readPart_61 at hf
  replace hf := jbind hf
  obtain ⟨h61, e1, hf⟩ := hf
  replace e1 := (jcv_o e1).2
  obtain ⟨R1, f1, z1⟩ := rr_em R hs e1
  replace hf := jite hf
  rcases hf with ⟨c2, hf⟩ | ⟨c2, hf⟩
  · skip
    cases hf
    -- leaf 0: ((0 : Int32), h61)
    rw [Int32.lt_iff_toInt_lt] at c2
    have l0 : (0 : Int32).toInt = 0 := rfl
    exact ⟨fun _ => rfl, fun z => by omega, R1, f1, z1⟩
  · skip
    cases hf
    -- leaf 1: ((1 : Int32), h61)
    rw [Int32.lt_iff_toInt_lt] at c2
    have l0 : (0 : Int32).toInt = 0 := rfl
    exact ⟨fun z => by omega, fun _ => rfl, R1, f1, z1⟩
theorem E_X12_readPart_40 {b : Nat → Int32} {L : Nat} {m : Nat} {st : Nat → Nat} {k : Nat} {W : jWd} {s : Nat} {dp : Nat} {n : Nat} {a0 : Nat} {x1 : Int32} {s0 : Int32} {h : jH} {q : Int32 × jH} (R : rr (oc h) a0 b L st m k W s dp) (hs : s + 1 ≤ k) (hf : F_X12_readPart_40 n a0 x1 s0 h = some q) : (s0.toInt < 0 → q.1 = 0) ∧ (0 ≤ s0.toInt → q.1 = 1) ∧ rr (oc q.2) a0 b L st m k (emW W s [if x1 = 0 then (s0, 0) else (11, s0)]) (s + 1) dp ∧ frQ a0 (oc h) (oc q.2) ∧ q.2.1 = h.1 := by
  unfold F_X12_readPart_40 at hf
  replace hf := jite hf
  rcases hf with ⟨c1, hf⟩ | ⟨c1, hf⟩
  · skip
    replace hf := jite hf
    rcases hf with ⟨c2, hf⟩ | ⟨c2, hf⟩
    · skip
      -- leaf 00: F_X12_readPart_61 n s0 a0 s0 (0 : Int32) h
      rw [if_pos c1]
      exact E_X12_readPart_61 R hs hf
    · skip
      -- leaf 01: F_X12_readPart_61 n s0 a0 s0 s0 h
      exact absurd c1 c2
  · skip
    replace hf := jite hf
    rcases hf with ⟨c3, hf⟩ | ⟨c3, hf⟩
    · skip
      -- leaf 10: F_X12_readPart_61 n s0 a0 (11 : Int32) (0 : Int32) h
      exact absurd c3 c1
    · skip
      -- leaf 11: F_X12_readPart_61 n s0 a0 (11 : Int32) s0 h
      rw [if_neg c1]
      exact E_X12_readPart_61 R hs hf
theorem E_X12_readPart_20 {b : Nat → Int32} {L : Nat} {m : Nat} {T : Nat → Int32 × Int32} {st : Nat → Nat} {en : Nat → Nat} {k : Nat} {W : jWd} {s : Nat} {dp : Nat} {n : Nat} {a0 : Nat} {s0 : Int32} {h : jH} {q : Int32 × jH} (H : tkE b L m T st en) (hk : k + 1 ≤ m → True) (h01 : s0 = 0 ∨ s0 = 1) (rW : wl (oc h) a0 = W ∧ oi (oc h) a0 16 = nI s ∧ oi (oc h) a0 13 = nI dp ∧ s ≤ k ∧ k ≤ m ∧ m ≤ 400) (R0 : s0 = 0 → rw2 (oc h) a0 b L st k ∧ bIn b L 97 122 (st k)) (R1 : s0 = 1 → rc (oc h) a0 b L st k ∧ ¬ bIn b L 97 122 (st k)) (hf : F_X12_readPart_20 n a0 s0 h = some q) : lwR a0 b L st m h q.1 q.2 W s dp (rdPart T k) := by
  unfold F_X12_readPart_20 at hf
  replace hf := jite hf
  rcases hf with ⟨c1, hf⟩ | ⟨c1, hf⟩
  · skip
    replace hf := jbind hf
    obtain ⟨v37, e2, hf⟩ := hf
    replace e2 := (jcv_o e2).2
    obtain ⟨Rw, lt⟩ := R0 c1
    have r2 := E_X12_wordOfPart H Rw e2
    -- leaf 0: F_X12_readPart_40 n a0 s0 v37 h
    obtain ⟨w1, w2, w3, w4, w5, w6⟩ := rW
    obtain ⟨n3, km⟩ := tk_let H lt
    rcases r2 with ⟨v2, w, hw, tw⟩ | ⟨v2, nw⟩
    · have R9 : rr (oc h) a0 b L st m (k + 1) W s dp := ⟨rw_n H (by omega) Rw tw, w1, w2, w3, by omega, km, w6⟩
      have t0 : (T k).1.toInt = (w : Int) := by rw [tw, nI_toInt (by omega)]
      obtain ⟨a1, a2, a3, a4, a5⟩ := E_X12_readPart_40 R9 (by omega) hf
      rw [if_pos c1, v2] at a3
      refine lwR_l (k := k + 1) (l := [((T k).1, 0)]) ?_ (a2 (by rw [v2]; omega)) a3 a4 a5
      unfold rdPart
      rw [if_pos (by omega)]
    · have e9 : rdPart T k = .inr k := by
        unfold rdPart
        rw [if_neg (fun z => nw (T k).1.toInt.toNat (by omega) (nI_k (by omega))), if_neg (fun z => n3 z.1)]
      obtain ⟨e, Rb, rw3, g9⟩ := Rw
      have s9 : s + 1 ≤ m + 1 := by omega
      rw [v2] at hf
      unfold F_X12_readPart_40 at hf
      rw [if_pos c1, if_pos c1] at hf
      unfold F_X12_readPart_61 at hf
      obtain ⟨h61, e6, hf⟩ := jbind hf
      obtain ⟨c4, c5, c6, c7, c8⟩ := E_X12_emits Rb.1 w1 w2 (by omega) (jcv_o e6).2
      rw [if_pos (by decide)] at hf
      cases hf
      exact lwR_r e9 rfl ((frM_oi c6 (by decide) (by decide)).trans g9) c8 c7
  · skip
    replace hf := jbind hf
    obtain ⟨q30, e3, hf⟩ := hf
    replace e3 := (jcv_o e3).2
    obtain ⟨Rc, nl⟩ := R1 (h01.resolve_left c1)
    obtain ⟨d3, M3, g3, f3, z3⟩ := T_number H (by decide) Rc e3
    -- leaf 1: F_X12_readPart_40 n a0 s0 q30.1 q30.2
    obtain ⟨w1, w2, w3, w4, w5, w6⟩ := rW
    have nw : ¬ (0 ≤ (T k).1.toInt ∧ (T k).1.toInt ≤ 6) := fun z => tk_nlet H (w := (T k).1.toInt.toNat) (by omega) nl (nI_k (by omega))
    have a1 : wl (oc q30.2) a0 = W := (wl_f f3 (by decide)).trans w1
    have a2 : oi (oc q30.2) a0 16 = nI s := (frM_oi f3 (by decide) (by decide)).trans w2
    rcases d3 with ⟨v3, y3, R3⟩ | ⟨v3, y3⟩
    · have km := tk_n3 H y3.1
      have R9 : rr (oc q30.2) a0 b L st m (k + 1) W s dp := ⟨R3, a1, a2, (frM_oi f3 (by decide) (by decide)).trans w3, by omega, km, w6⟩
      have y4 := y3.2.1
      rw [Int32.le_iff_toInt_le, ← v3] at y4
      obtain ⟨b1, b2, b3, b4, b5⟩ := E_X12_readPart_40 R9 (by omega) hf
      rw [if_neg c1, v3] at b3
      refine lwR_l (k := k + 1) (l := [(11, (T k).2)]) ?_ (b2 y4) b3 (frQ_tr (fr2 f3) b4) (b5.trans z3)
      unfold rdPart
      rw [if_neg nw, if_pos y3]
    · have e9 : rdPart T k = .inr k := by
        unfold rdPart
        rw [if_neg nw, if_neg y3]
      rw [v3] at hf
      unfold F_X12_readPart_40 at hf
      rw [if_neg c1, if_neg c1] at hf
      unfold F_X12_readPart_61 at hf
      obtain ⟨h61, e6, hf⟩ := jbind hf
      obtain ⟨c4, c5, c6, c7, c8⟩ := E_X12_emits M3 a1 a2 (by omega) (jcv_o e6).2
      rw [if_pos (by decide)] at hf
      cases hf
      exact lwR_r e9 rfl ((frM_oi c6 (by decide) (by decide)).trans g3) (frQ_tr (fr2 f3) c8) (c7.trans z3)
theorem E_X12_readPart {b : Nat → Int32} {L : Nat} {m : Nat} {T : Nat → Int32 × Int32} {st : Nat → Nat} {en : Nat → Nat} {k : Nat} {W : jWd} {s : Nat} {dp : Nat} {n : Nat} {a0 : Nat} {h : jH} {q : Int32 × jH} (H : tkE b L m T st en) (R : rr (oc h) a0 b L st m k W s dp) (hf : F_X12_readPart n a0 h = some q) : lwR a0 b L st m h q.1 q.2 W s dp (rdPart T k) := by
  unfold F_X12_readPart at hf
  replace hf := jbind hf
  obtain ⟨h1, e1, hf⟩ := hf
  replace e1 := (jcv_o e1).2
  obtain ⟨Rw, f1, z1⟩ := T_letters H R.1 e1
  replace hf := jbind hf
  obtain ⟨v5, e2, hf⟩ := hf
  have r2 := oc_gI e2
  subst r2
  clear e2
  replace hf := jbind hf
  obtain ⟨v9, e3, hf⟩ := hf
  have r3 := oc_gI e3
  subst r3
  clear e3
  replace hf := jite hf
  rcases hf with ⟨c4, hf⟩ | ⟨c4, hf⟩
  · skip
    -- leaf 0: F_X12_readPart_20 n a0 (1 : Int32) h1
    have hL := H.1
    obtain ⟨e, Rb, r9, g9⟩ := id Rw
    have sl := tk_L H k
    have el := Rb.2.2.2.2.2
    rw [Rb.2.2.2.2.1, g9, nI_eq (by omega) (by omega)] at c4
    have rW : wl (oc h1) a0 = W ∧ oi (oc h1) a0 16 = nI s ∧ oi (oc h1) a0 13 = nI dp ∧ s ≤ k ∧ k ≤ m ∧ m ≤ 400 := ⟨(wl_f f1 (by decide)).trans R.2.1, (frM_oi f1 (by decide) (by decide)).trans R.2.2.1, (frM_oi f1 (by decide) (by decide)).trans R.2.2.2.1, R.2.2.2.2⟩
    subst c4
    obtain ⟨a1, a2, a3, a4⟩ := E_X12_readPart_20 (W := W) (s := s) (dp := dp) H (fun _ => trivial) (Or.inr rfl) rW (fun z => absurd z (by decide)) (fun _ => ⟨⟨st k, Rb, cur_0 k⟩, r9.2.2⟩) hf
    exact ⟨a1, a2, frQ_tr (fr2 f1) a3, a4.trans z1⟩
  · skip
    -- leaf 1: F_X12_readPart_20 n a0 (0 : Int32) h1
    have hL := H.1
    obtain ⟨e, Rb, r9, g9⟩ := id Rw
    have sl := tk_L H k
    have el := Rb.2.2.2.2.2
    rw [Rb.2.2.2.2.1, g9, nI_eq (by omega) (by omega)] at c4
    have rW : wl (oc h1) a0 = W ∧ oi (oc h1) a0 16 = nI s ∧ oi (oc h1) a0 13 = nI dp ∧ s ≤ k ∧ k ≤ m ∧ m ≤ 400 := ⟨(wl_f f1 (by decide)).trans R.2.1, (frM_oi f1 (by decide) (by decide)).trans R.2.2.1, (frM_oi f1 (by decide) (by decide)).trans R.2.2.2.1, R.2.2.2.2⟩
    have lt : bIn b L 97 122 (st k) := r9.2.1 (st k) (Nat.le_refl _) (by have := r9.1; omega)
    obtain ⟨a1, a2, a3, a4⟩ := E_X12_readPart_20 (W := W) (s := s) (dp := dp) H (fun _ => trivial) (Or.inl rfl) rW (fun _ => ⟨Rw, lt⟩) (fun z => absurd z (by decide)) hf
    exact ⟨a1, a2, frQ_tr (fr2 f1) a3, a4.trans z1⟩
end
section
/-! sums and tags, the reference -/
theorem lwR_sq {x L m s dp : Nat} {b : Nat → Int32} {st : Nat → Nat} {h h2 h3 : jH} {v : Int32} {W : jWd} {a : jRd} {f : Nat → jRd} {d : Nat × List (Int32 × Int32)} (ha : a = .inl d) (f12 : frQ x (oc h) (oc h2)) (z12 : h2.1 = h.1) (B : lwR x b L st m h2 v h3 (emW W s d.2) (s + d.2.length) dp (f d.1)) : lwR x b L st m h v h3 W s dp (sqP a f) := by
  obtain ⟨B1, B2, B3, B4⟩ := B
  refine ⟨fun r y => ?_, fun g y => ?_, frQ_tr f12 B3, B4.trans z12⟩
  · obtain ⟨d2, e, a1, a2, a3⟩ := sq_inv y
    cases ha.symm.trans a1
    subst a3
    have q := B1 e a2
    rw [← emW_app] at q
    dsimp only
    rw [List.length_append, ← Nat.add_assoc]
    exact q
  · rcases hf : f d.1 with e | e
    · rw [sq_ll ha hf] at y
      cases y
    · rw [sq_lr ha hf] at y
      cases y
      exact B2 _ hf
theorem lwR_nl {x L m s dp k : Nat} {b : Nat → Int32} {st : Nat → Nat} {h h2 : jH} {v : Int32} {W : jWd} {r : jRd} (e : r = .inl (k, [])) (hv : v = 1) (R : rr (oc h2) x b L st m k W s dp) (f : frQ x (oc h) (oc h2)) (z : h2.1 = h.1) : lwR x b L st m h v h2 W s dp r := lwR_l e hv R f z
theorem lwR_sr {x L m s dp k : Nat} {b : Nat → Int32} {st : Nat → Nat} {h h2 : jH} {v : Int32} {W : jWd} {a : jRd} {f : Nat → jRd} (A : lwR x b L st m h v h2 W s dp a) (ha : a = .inr k) : lwR x b L st m h v h2 W s dp (sqP a f) := lwR_r (sq_r ha) (A.2.1 k ha).1 (A.2.1 k ha).2 A.2.2.1 A.2.2.2
theorem E_X12_readSum_9 {n : Nat} {b : Nat → Int32} {L : Nat} {m : Nat} {T : Nat → Int32 × Int32} {st : Nat → Nat} {en : Nat → Nat} {dp : Nat} : ∀ (k : Nat) {a0 : Nat} {h : jH} {q : Int32 × jH} (F : Nat) (k0 : Nat) (W : jWd) (s : Nat) (H : tkE b L m T st en) (R : rr (oc h) a0 b L st m k0 W s dp) (hF : m < k0 + F), F_X12_readSum_9 n k a0 h = some q → lwR a0 b L st m h q.1 q.2 W s dp (rdSL T F k0)
  | 0, a0, h, q, F, k0, W, s, H, R, hF, hf => by cases hf
  | k + 1, a0, h, q, F, k0, W, s, H, R, hF, hf => by
    replace hf : F_X12_readSum_9_b n (F_X12_readSum_9 n k) a0 h = some q := hf
    unfold F_X12_readSum_9_b at hf
    obtain ⟨F, rfl⟩ : ∃ F2, F = F2 + 1 := ⟨F - 1, by have := R.2.2.2.2.2.1; omega⟩
    replace hf := jbind hf
    obtain ⟨q12, e1, hf⟩ := hf
    replace e1 := (jcv_o e1).2
    obtain ⟨d1, g1, f1, z1⟩ := T_sign (c := 43) H (by unfold sgn; decide) R.1 e1
    replace hf := jite hf
    rcases hf with ⟨c2, hf⟩ | ⟨c2, hf⟩
    · skip
      cases hf
      -- leaf 0: ((1 : Int32), q12.2)
      rcases d1 with ⟨w, -⟩ | ⟨-, t1, y1⟩
      · exact absurd (c2.symm.trans w) (by decide)
      exact lwR_nl (if_neg t1) rfl (rr_fr R f1 y1 (Nat.le_refl _) R.2.2.2.2.2.1) (fr2 f1) z1
    · skip
      replace hf := jbind hf
      obtain ⟨q19, e3, hf⟩ := hf
      replace e3 := (jcv_o e3).2
      rcases d1 with ⟨-, t1, y1⟩ | ⟨w, -⟩
      rotate_left
      · exact absurd w c2
      have km := tk_m H (k := k0) (by rw [t1]; decide)
      have R2 := rr_fr R f1 y1 (Nat.le_succ _) km
      have A := E_X12_readPart H R2 e3
      replace hf := jite hf
      rcases hf with ⟨c4, hf⟩ | ⟨c4, hf⟩
      · skip
        cases hf
        -- leaf 10: ((0 : Int32), q19.2)
        have e9 : rdSL T (F + 1) k0 = sqP (rdPart T (k0 + 1)) (fun j => sqP (.inl (j, [(12, 0)])) (fun i => rdSL T F i)) := if_pos t1
        rcases hA : rdPart T (k0 + 1) with d | f
        · exact absurd (c4.symm.trans (A.1 d hA).1) (by decide)
        obtain ⟨v3, g3⟩ := A.2.1 f hA
        rw [e9]
        exact lwR_r (sq_r hA) rfl g3 (frQ_tr (fr2 f1) A.2.2.1) (A.2.2.2.trans z1)
      · skip
        replace hf := jbind hf
        obtain ⟨h31, e5, hf⟩ := hf
        replace e5 := (jcv_o e5).2
        rcases hA : rdPart T (k0 + 1) with d | f
        rotate_left
        · exact absurd (A.2.1 f hA).1 c4
        obtain ⟨-, R4⟩ := A.1 d hA
        obtain ⟨p1, p2, p3⟩ := part_i H hA
        have sk := R.2.2.2.2.1
        obtain ⟨R5, f5, z5⟩ := rr_em R4 (by omega) e5
        -- leaf 11: rc9 a0 h31
        have e9 : rdSL T (F + 1) k0 = sqP (rdPart T (k0 + 1)) (fun j => sqP (.inl (j, [(12, 0)])) (fun i => rdSL T F i)) := if_pos t1
        have B := E_X12_readSum_9 k F d.1 _ _ H R5 (by omega) hf
        rw [e9]
        exact lwR_sq hA (frQ_tr (fr2 f1) A.2.2.1) (A.2.2.2.trans z1) (lwR_sq (f := fun i => rdSL T F i) (d := (d.1, [(12, 0)])) rfl f5 z5 B)
theorem E_X12_readSum {b : Nat → Int32} {L : Nat} {m : Nat} {T : Nat → Int32 × Int32} {st : Nat → Nat} {en : Nat → Nat} {k : Nat} {W : jWd} {s : Nat} {dp : Nat} {F : Nat} {n : Nat} {a0 : Nat} {h : jH} {q : Int32 × jH} (H : tkE b L m T st en) (R : rr (oc h) a0 b L st m k W s dp) (hF : m < k + 1 + F) (hf : F_X12_readSum n a0 h = some q) : lwR a0 b L st m h q.1 q.2 W s dp (rdSum T F k) := by
  unfold F_X12_readSum at hf
  replace hf := jbind hf
  obtain ⟨q1, e1, hf⟩ := hf
  replace e1 := (jcv_o e1).2
  have A := E_X12_readPart H R e1
  replace hf := jite hf
  rcases hf with ⟨c2, hf⟩ | ⟨c2, hf⟩
  · skip
    cases hf
    -- leaf 0: ((0 : Int32), q1.2)
    rcases hA : rdPart T k with d | f
    · exact absurd (c2.symm.trans (A.1 d hA).1) (by decide)
    obtain ⟨v3, g3⟩ := A.2.1 f hA
    exact lwR_r (sq_r hA) rfl g3 A.2.2.1 A.2.2.2
  · skip
    -- leaf 1: F_X12_readSum_9 n n a0 q1.2
    rcases hA : rdPart T k with d | f
    rotate_left
    · exact absurd (A.2.1 f hA).1 c2
    obtain ⟨-, R4⟩ := A.1 d hA
    obtain ⟨p1, p2, p3⟩ := part_i H hA
    exact lwR_sq hA A.2.2.1 A.2.2.2 (E_X12_readSum_9 n F d.1 _ _ H R4 (by omega) hf)
theorem E_X12_readTag_61 {b : Nat → Int32} {L : Nat} {m : Nat} {T : Nat → Int32 × Int32} {st : Nat → Nat} {en : Nat → Nat} {k : Nat} {W : jWd} {s : Nat} {dp : Nat} {n : Nat} {a0 : Nat} {s0 : Int32} {h : jH} {q : Int32 × jH} (H : tkE b L m T st en) (rW : wl (oc h) a0 = W ∧ oi (oc h) a0 16 = nI s ∧ oi (oc h) a0 13 = nI dp ∧ s ≤ k ∧ k ≤ m ∧ m ≤ 400) (Rw : rw2 (oc h) a0 b L st k) (hs : (s0 = -1 ∧ ¬ (7 ≤ (T k).1.toInt ∧ (T k).1.toInt ≤ 10)) ∨ ∃ w : Nat, 7 ≤ w ∧ w ≤ 10 ∧ s0 = nI w ∧ (T k).1 = nI w) (hf : F_X12_readTag_61 n a0 s0 h = some q) : ((7 ≤ (T k).1.toInt ∧ (T k).1.toInt ≤ 10 ∧ q.1 = 1 ∧ rr (oc q.2) a0 b L st m (k + 1) (emW W s [((T k).1, 0)]) (s + 1) dp) ∨ (¬ (7 ≤ (T k).1.toInt ∧ (T k).1.toInt ≤ 10) ∧ q.1 = 0 ∧ rr (oc q.2) a0 b L st m k W s dp)) ∧ frQ a0 (oc h) (oc q.2) ∧ q.2.1 = h.1 := by
  unfold F_X12_readTag_61 at hf
  obtain ⟨w1, w2, w3, w4, w5, w6⟩ := rW
  have lm : (-1 : Int32).toInt = -1 := rfl
  have l0 : (0 : Int32).toInt = 0 := rfl
  replace hf := jite hf
  rcases hf with ⟨c1, hf⟩ | ⟨c1, hf⟩
  · skip
    replace hf := jbind hf
    obtain ⟨v77, e2, hf⟩ := hf
    have r2 := oc_gI e2
    subst r2
    clear e2
    replace hf := jbind hf
    obtain ⟨h80, e3, hf⟩ := hf
    obtain ⟨o3, z3⟩ := oc_pf e3
    clear e3
    replace hf := jite hf
    rcases hf with ⟨c4, hf⟩ | ⟨c4, hf⟩
    · skip
      cases hf
      -- leaf 00: ((0 : Int32), h80)
      rcases hs with ⟨z, nt⟩ | ⟨w, ha, hb, e0, -⟩
      rotate_left
      · rw [e0, Int32.lt_iff_toInt_lt, nI_toInt (by omega)] at c1; omega
      obtain ⟨e, Rb, r9, g9⟩ := Rw
      have hL := H.1
      rw [g9] at o3
      have f3 : frQ a0 (oc h) (oc h80) := by rw [o3]; exact frQ_f (by decide)
      have R9 : rr (oc h80) a0 b L st m k W s dp := ⟨⟨st k, by rw [o3]; exact rb_pt Rb (tk_L H k), cur_0 k⟩, by rw [o3, wl_n (by omega)]; exact w1, by rw [o3, oi_ne (Or.inr (by decide))]; exact w2, by rw [o3, oi_ne (Or.inr (by decide))]; exact w3, w4, w5, w6⟩
      exact ⟨Or.inr ⟨nt, rfl, R9⟩, f3, z3⟩
    · skip
      cases hf
      -- leaf 01: ((1 : Int32), h80)
      exact absurd c1 c4
  · skip
    replace hf := jbind hf
    obtain ⟨h69, e5, hf⟩ := hf
    replace e5 := (jcv_o e5).2
    rw [Int32.lt_iff_toInt_lt] at c1
    rcases hs with ⟨z, -⟩ | ⟨w, ha, hb, e0, t0⟩
    · rw [z] at c1; omega
    have km := tk_m H (k := k) (by rw [t0]; intro z; have := congrArg Int32.toInt z; rw [nI_toInt (by omega)] at this; omega)
    have R2 : rr (oc h) a0 b L st m (k + 1) W s dp := ⟨rw_n H (by omega) Rw t0, w1, w2, w3, by omega, km, w6⟩
    obtain ⟨R5, f5, z5⟩ := rr_em R2 (by omega) e5
    rw [e0] at c1 R5
    replace hf := jite hf
    rcases hf with ⟨c6, hf⟩ | ⟨c6, hf⟩
    · skip
      cases hf
      -- leaf 10: ((0 : Int32), h69)
      exact absurd c6 (by rw [e0, Int32.lt_iff_toInt_lt, nI_toInt (by omega)]; omega)
    · skip
      cases hf
      -- leaf 11: ((1 : Int32), h69)
      rw [← t0] at R5
      exact ⟨Or.inl ⟨by rw [t0, nI_toInt (by omega)]; omega, by rw [t0, nI_toInt (by omega)]; omega, rfl, R5⟩, f5, z5⟩
theorem E_X12_readTag {b : Nat → Int32} {L : Nat} {m : Nat} {T : Nat → Int32 × Int32} {st : Nat → Nat} {en : Nat → Nat} {k : Nat} {W : jWd} {s : Nat} {dp : Nat} {n : Nat} {a0 : Nat} {h : jH} {q : Int32 × jH} (H : tkE b L m T st en) (R : rr (oc h) a0 b L st m k W s dp) (hf : F_X12_readTag n a0 h = some q) : ((7 ≤ (T k).1.toInt ∧ (T k).1.toInt ≤ 10 ∧ q.1 = 1 ∧ rr (oc q.2) a0 b L st m (k + 1) (emW W s [((T k).1, 0)]) (s + 1) dp) ∨ (¬ (7 ≤ (T k).1.toInt ∧ (T k).1.toInt ≤ 10) ∧ q.1 = 0 ∧ rr (oc q.2) a0 b L st m k W s dp)) ∧ frQ a0 (oc h) (oc q.2) ∧ q.2.1 = h.1 := by
  unfold F_X12_readTag at hf
  replace hf := jbind hf
  obtain ⟨h1, e1, hf⟩ := hf
  replace e1 := (jcv_o e1).2
  obtain ⟨Rw, f1, z1⟩ := T_letters H R.1 e1
  have rW : wl (oc h1) a0 = W ∧ oi (oc h1) a0 16 = nI s ∧ oi (oc h1) a0 13 = nI dp ∧ s ≤ k ∧ k ≤ m ∧ m ≤ 400 := ⟨(wl_f f1 (by decide)).trans R.2.1, (frM_oi f1 (by decide) (by decide)).trans R.2.2.1, (frM_oi f1 (by decide) (by decide)).trans R.2.2.2.1, R.2.2.2.2⟩
  replace hf := jbind hf
  obtain ⟨v7, e2, hf⟩ := hf
  replace e2 := (jcv_o e2).2
  have r2 := T_isWord (w := 7) H (by decide) Rw e2
  replace hf := jite hf
  rcases hf with ⟨c3, hf⟩ | ⟨c3, hf⟩
  · skip
    replace hf := jbind hf
    obtain ⟨v21, e4, hf⟩ := hf
    replace e4 := (jcv_o e4).2
    have r4 := T_isWord (w := 8) H (by decide) Rw e4
    replace hf := jite hf
    rcases hf with ⟨c5, hf⟩ | ⟨c5, hf⟩
    · skip
      replace hf := jbind hf
      obtain ⟨v35, e6, hf⟩ := hf
      replace e6 := (jcv_o e6).2
      have r6 := T_isWord (w := 9) H (by decide) Rw e6
      replace hf := jite hf
      rcases hf with ⟨c7, hf⟩ | ⟨c7, hf⟩
      · skip
        replace hf := jbind hf
        obtain ⟨v49, e8, hf⟩ := hf
        replace e8 := (jcv_o e8).2
        have r8 := T_isWord (w := 10) H (by decide) Rw e8
        replace hf := jite hf
        rcases hf with ⟨c9, hf⟩ | ⟨c9, hf⟩
        · skip
          -- leaf 0000: F_X12_readTag_61 n a0 (- 1 : Int32) h1
          have nt : ¬ (7 ≤ (T k).1.toInt ∧ (T k).1.toInt ≤ 10) := fun z => by
            obtain ⟨w, hw⟩ : ∃ w : Nat, (T k).1.toInt = (w : Int) := ⟨(T k).1.toInt.toNat, by omega⟩
            have tw : (T k).1 = nI w := nI_k hw
            rcases (by omega : w = 7 ∨ w = 8 ∨ w = 9 ∨ w = 10) with y | y | y | y <;> subst y
            · exact absurd ((r2.2.mpr tw).symm.trans c3) (by decide)
            · exact absurd ((r4.2.mpr tw).symm.trans c5) (by decide)
            · exact absurd ((r6.2.mpr tw).symm.trans c7) (by decide)
            · exact absurd ((r8.2.mpr tw).symm.trans c9) (by decide)
          obtain ⟨a1, a2, a3⟩ := E_X12_readTag_61 (W := W) (s := s) (dp := dp) H rW Rw (Or.inl ⟨rfl, nt⟩) hf
          exact ⟨a1, frQ_tr (fr2 f1) a2, a3.trans z1⟩
        · skip
          -- leaf 0001: F_X12_readTag_61 n a0 (10 : Int32) h1
          have t := r8.2.mp (r8.1.resolve_left c9)
          obtain ⟨a1, a2, a3⟩ := E_X12_readTag_61 (W := W) (s := s) (dp := dp) H rW Rw (Or.inr ⟨10, by decide, by decide, rfl, t⟩) hf
          exact ⟨a1, frQ_tr (fr2 f1) a2, a3.trans z1⟩
      · skip
        -- leaf 001: F_X12_readTag_61 n a0 (9 : Int32) h1
        have t := r6.2.mp (r6.1.resolve_left c7)
        obtain ⟨a1, a2, a3⟩ := E_X12_readTag_61 (W := W) (s := s) (dp := dp) H rW Rw (Or.inr ⟨9, by decide, by decide, rfl, t⟩) hf
        exact ⟨a1, frQ_tr (fr2 f1) a2, a3.trans z1⟩
    · skip
      -- leaf 01: F_X12_readTag_61 n a0 (8 : Int32) h1
      have t := r4.2.mp (r4.1.resolve_left c5)
      obtain ⟨a1, a2, a3⟩ := E_X12_readTag_61 (W := W) (s := s) (dp := dp) H rW Rw (Or.inr ⟨8, by decide, by decide, rfl, t⟩) hf
      exact ⟨a1, frQ_tr (fr2 f1) a2, a3.trans z1⟩
  · skip
    -- leaf 1: F_X12_readTag_61 n a0 (7 : Int32) h1
    have t := r2.2.mp (r2.1.resolve_left c3)
    obtain ⟨a1, a2, a3⟩ := E_X12_readTag_61 (W := W) (s := s) (dp := dp) H rW Rw (Or.inr ⟨7, by decide, by decide, rfl, t⟩) hf
    exact ⟨a1, frQ_tr (fr2 f1) a2, a3.trans z1⟩
end
section
/-! conditions, the reference -/
def gPr (b : Nat → Int32) (L m : Nat) (T : Nat → Int32 × Int32) (st : Nat → Nat) (w c : Nat) (g : Nat → jH → Option (Int32 × jH)) : Prop :=
  ∀ (a0 k : Nat) (W : jWd) (s dp F : Nat) (h : jH) (q : Int32 × jH), rr (oc h) a0 b L st m k W s dp → dp ≤ 6 → 4 * m + c ≤ F + 4 * k → g a0 h = some q → lwR a0 b L st m h q.1 q.2 W s dp (rdG T F w dp k)
theorem rdG_0 {T : Nat → Int32 × Int32} {F dp k : Nat} : rdG T (F + 1) 0 dp k = sqP (rdG T F 2 dp k) (fun j => rdG T F 4 dp j) := by
  conv => lhs; unfold rdG
  exact if_pos rfl
theorem rdG_2 {T : Nat → Int32 × Int32} {F dp k : Nat} : rdG T (F + 1) 2 dp k = sqP (rdG T F 1 dp k) (fun j => rdG T F 3 dp j) := by
  conv => lhs; unfold rdG
  rw [if_neg (by decide), if_pos rfl]
theorem rdG_3 {T : Nat → Int32 × Int32} {F dp k : Nat} : rdG T (F + 1) 3 dp k = (if (T k).1 = 12 then sqP (rdG T F 1 dp (k + 1)) (fun j => sqP (.inl (j, [(16, 0)])) (fun i => rdG T F 3 dp i)) else .inl (k, [])) := by
  conv => lhs; unfold rdG
  rw [if_neg (by decide), if_neg (by decide), if_pos rfl]
theorem rdG_4 {T : Nat → Int32 × Int32} {F dp k : Nat} : rdG T (F + 1) 4 dp k = (if (T k).1 = 13 then sqP (rdG T F 2 dp (k + 1)) (fun j => sqP (.inl (j, [(17, 0)])) (fun i => rdG T F 4 dp i)) else .inl (k, [])) := by
  conv => lhs; unfold rdG
  rw [if_neg (by decide), if_neg (by decide), if_neg (by decide), if_pos rfl]
theorem rdG_1 {T : Nat → Int32 × Int32} {F dp k : Nat} : rdG T (F + 1) 1 dp k = (if (T k).1 = 40 then (if dp = 6 then .inr k else sqP (rdG T F 0 (dp + 1) (k + 1)) (fun j => if (T j).1 = 41 then .inl (j + 1, []) else .inr j))
    else if (T k).1 = 11 then (if dp = 6 then .inr k else sqP (rdG T F 1 (dp + 1) (k + 1)) (fun j => .inl (j, [(15, 0)])))
    else if 7 ≤ (T k).1.toInt ∧ (T k).1.toInt ≤ 10 then .inl (k + 1, [((T k).1, 0)])
    else sqP (rdSum T F k) (fun j => if (T j).1 = 60 then sqP (rdSum T F (j + 1)) (fun i => .inl (i, [(13, 0)])) else if (T j).1 = 62 then sqP (rdSum T F (j + 1)) (fun i => .inl (i, [(14, 0)])) else .inr j)) := by
  conv => lhs; unfold rdG
  rw [if_neg (by decide), if_neg (by decide), if_neg (by decide), if_neg (by decide)]
theorem rr_dp {O O2 : jO} {x L m k s dp dp2 : Nat} {b : Nat → Int32} {st : Nat → Nat} {W : jWd} (R : rr O x b L st m k W s dp) (e : O2 = u2 O x 13 (.int (nI dp2))) : rr O2 x b L st m k W s dp2 := by
  obtain ⟨R, a1, a2, a3, a4, a5, a6⟩ := R
  have f : frM x [] [13] O O2 := by rw [e]; exact frM_f (by decide)
  exact ⟨rc_fr R f (by decide) (by decide) (by decide) (by decide) (by decide), (wl_f f (by decide)).trans a1, (frM_oi f (by decide) (by decide)).trans a2, by rw [e, oi_eq], a4, a5, a6⟩
theorem lwR_pre {x L m s dp : Nat} {b : Nat → Int32} {st : Nat → Nat} {h h2 h3 : jH} {v : Int32} {W : jWd} {r : jRd} (f : frQ x (oc h) (oc h2)) (z : h2.1 = h.1) (B : lwR x b L st m h2 v h3 W s dp r) : lwR x b L st m h v h3 W s dp r := ⟨B.1, B.2.1, frQ_tr f B.2.2.1, B.2.2.2.trans z⟩
theorem E_X12_readAtom_173 {b : Nat → Int32} {L : Nat} {m : Nat} {st : Nat → Nat} {k : Nat} {W : jWd} {s : Nat} {dp : Nat} {n : Nat} {g0 : Nat → jH → Option (Int32 × jH)} {g1 : Nat → jH → Option (Int32 × jH)} {g2 : Nat → jH → Option (Int32 × jH)} {sa0 : Nat} {s1 : Int32} {h : jH} {q : Int32 × jH} (R : rr (oc h) sa0 b L st m k W s dp) (hs : s + 1 ≤ k) (hf : F_X12_readAtom_173 n g0 g1 g2 sa0 s1 h = some q) : lwR sa0 b L st m h q.1 q.2 W s dp (.inl (k, [(s1, 0)])) := by
  unfold F_X12_readAtom_173 at hf
  replace hf := jbind hf
  obtain ⟨h174, e1, hf⟩ := hf
  replace e1 := (jcv_o e1).2
  obtain ⟨R1, f1, z1⟩ := rr_em R hs e1
  cases hf
  -- leaf : ((1 : Int32), h174)
  exact lwR_l rfl rfl R1 f1 z1
theorem E_X12_readAtom_152 {b : Nat → Int32} {L : Nat} {m : Nat} {T : Nat → Int32 × Int32} {st : Nat → Nat} {en : Nat → Nat} {k : Nat} {W : jWd} {s : Nat} {dp : Nat} {F : Nat} {n : Nat} {g0 : Nat → jH → Option (Int32 × jH)} {g1 : Nat → jH → Option (Int32 × jH)} {g2 : Nat → jH → Option (Int32 × jH)} {a0 : Nat} {x1 : Int32} {h : jH} {q : Int32 × jH} (H : tkE b L m T st en) (R : rr (oc h) a0 b L st m k W s dp) (hs : s + 1 ≤ k) (hF : m < k + 1 + F) (hf : F_X12_readAtom_152 n g0 g1 g2 a0 x1 h = some q) : lwR a0 b L st m h q.1 q.2 W s dp (sqP (rdSum T F k) (fun i => .inl (i, [(if x1 = 0 then 14 else 13, 0)]))) := by
  unfold F_X12_readAtom_152 at hf
  replace hf := jbind hf
  obtain ⟨q153, e1, hf⟩ := hf
  replace e1 := (jcv_o e1).2
  have A := E_X12_readSum H R hF e1
  replace hf := jite hf
  rcases hf with ⟨c2, hf⟩ | ⟨c2, hf⟩
  · skip
    cases hf
    -- leaf 0: ((0 : Int32), q153.2)
    rcases hA : rdSum T F k with d | f
    · exact absurd (c2.symm.trans (A.1 d hA).1) (by decide)
    rw [c2] at A
    rw [← hA]
    exact lwR_sr A hA
  · skip
    replace hf := jite hf
    rcases hf with ⟨c3, hf⟩ | ⟨c3, hf⟩
    · skip
      -- leaf 10: F_X12_readAtom_173 n g0 g1 g2 a0 (14 : Int32) q153.2
      rcases hA : rdSum T F k with d | f
      rotate_left
      · exact absurd (A.2.1 f hA).1 c2
      obtain ⟨-, R4⟩ := A.1 d hA
      obtain ⟨p1, p2, p3, p4⟩ := sum_i H hA
      rw [← hA]
      refine lwR_sq hA A.2.2.1 A.2.2.2 ?_
      rw [if_pos c3]
      exact E_X12_readAtom_173 R4 (by omega) hf
    · skip
      -- leaf 11: F_X12_readAtom_173 n g0 g1 g2 a0 (13 : Int32) q153.2
      rcases hA : rdSum T F k with d | f
      rotate_left
      · exact absurd (A.2.1 f hA).1 c2
      obtain ⟨-, R4⟩ := A.1 d hA
      obtain ⟨p1, p2, p3, p4⟩ := sum_i H hA
      rw [← hA]
      refine lwR_sq hA A.2.2.1 A.2.2.2 ?_
      rw [if_neg c3]
      exact E_X12_readAtom_173 R4 (by omega) hf
theorem E_X12_readAtom {b : Nat → Int32} {L : Nat} {m : Nat} {T : Nat → Int32 × Int32} {st : Nat → Nat} {en : Nat → Nat} {k : Nat} {W : jWd} {s : Nat} {dp : Nat} {F : Nat} {n : Nat} {g0 : Nat → jH → Option (Int32 × jH)} {g1 : Nat → jH → Option (Int32 × jH)} {g2 : Nat → jH → Option (Int32 × jH)} {a0 : Nat} {h : jH} {q : Int32 × jH} (H : tkE b L m T st en) (G0 : gPr b L m T st 0 3 g0) (G1 : gPr b L m T st 1 1 g1) (R : rr (oc h) a0 b L st m k W s dp) (hd : dp ≤ 6) (hF : 4 * m + 1 ≤ F + 4 * k) (hf : F_X12_readAtom n g0 g1 g2 a0 h = some q) : lwR a0 b L st m h q.1 q.2 W s dp (rdG T F 1 dp k) := by
  unfold F_X12_readAtom at hf
  have g1x := G1
  have km9 := R.2.2.2.2.2.1
  obtain ⟨F, rfl⟩ : ∃ F2, F = F2 + 1 := ⟨F - 1, by omega⟩
  replace hf := jbind hf
  obtain ⟨q3, e1, hf⟩ := hf
  replace e1 := (jcv_o e1).2
  obtain ⟨d1, g1, f1, z1⟩ := T_sign (c := 40) H (by unfold sgn; decide) R.1 e1
  replace hf := jite hf
  rcases hf with ⟨c2, hf⟩ | ⟨c2, hf⟩
  · skip
    replace hf := jbind hf
    obtain ⟨q59, e3, hf⟩ := hf
    replace e3 := (jcv_o e3).2
    rcases d1 with ⟨w, -⟩ | ⟨-, t1, y1⟩
    · exact absurd (c2.symm.trans w) (by decide)
    have R2 := rr_fr R f1 y1 (Nat.le_refl _) km9
    obtain ⟨d3, g3, f3, z3⟩ := T_passes (w := 11) H (by decide) R2.1 e3
    replace hf := jite hf
    rcases hf with ⟨c4, hf⟩ | ⟨c4, hf⟩
    · skip
      replace hf := jbind hf
      obtain ⟨q115, e5, hf⟩ := hf
      replace e5 := (jcv_o e5).2
      rcases d3 with ⟨w, -⟩ | ⟨-, t3, y3⟩
      · exact absurd (c4.symm.trans w) (by decide)
      have R4 := rr_fr R2 f3 y3 (Nat.le_refl _) km9
      obtain ⟨d5, f5, z5⟩ := E_X12_readTag H R4 e5
      have f15 : frQ a0 (oc h) (oc q115.2) := frQ_tr (fr2 f1) (frQ_tr (fr2 f3) f5)
      have z15 : q115.2.1 = h.1 := z5.trans (z3.trans z1)
      replace hf := jite hf
      rcases hf with ⟨c6, hf⟩ | ⟨c6, hf⟩
      · skip
        replace hf := jbind hf
        obtain ⟨q124, e7, hf⟩ := hf
        replace e7 := (jcv_o e7).2
        rcases d5 with ⟨-, -, w, -⟩ | ⟨nt, -, R6⟩
        · exact absurd (c6.symm.trans w) (by decide)
        have A := lwR_pre f15 z15 (E_X12_readSum (F := F) H R6 (by omega) e7)
        have E := (rdG_1 (T := T) (F := F) (dp := dp) (k := k)).trans ((if_neg t1).trans ((if_neg t3).trans (if_neg nt)))
        replace hf := jite hf
        rcases hf with ⟨c8, hf⟩ | ⟨c8, hf⟩
        · skip
          cases hf
          -- leaf 0000: ((0 : Int32), q124.2)
          rcases hA : rdSum T F k with d | f
          · exact absurd (c8.symm.trans (A.1 d hA).1) (by decide)
          rw [c8] at A
          rw [E]
          exact lwR_sr A hA
        · skip
          replace hf := jbind hf
          obtain ⟨q135, e9, hf⟩ := hf
          replace e9 := (jcv_o e9).2
          rcases hA : rdSum T F k with d | f
          rotate_left
          · exact absurd (A.2.1 f hA).1 c8
          obtain ⟨-, R8⟩ := A.1 d hA
          obtain ⟨p1, p2, p3, p4⟩ := sum_i H hA
          have sk := R.2.2.2.2.1
          obtain ⟨d9, g9, f9, z9⟩ := T_sign (c := 60) H (by unfold sgn; decide) R8.1 e9
          replace hf := jite hf
          rcases hf with ⟨c10, hf⟩ | ⟨c10, hf⟩
          · skip
            replace hf := jbind hf
            obtain ⟨q146, e11, hf⟩ := hf
            replace e11 := (jcv_o e11).2
            rcases d9 with ⟨w, -⟩ | ⟨-, t9, y9⟩
            · exact absurd (c10.symm.trans w) (by decide)
            have R10 := rr_fr R8 f9 y9 (Nat.le_refl _) p2
            obtain ⟨d11, g11, f11, z11⟩ := T_sign (c := 62) H (by unfold sgn; decide) R10.1 e11
            replace hf := jite hf
            rcases hf with ⟨c12, hf⟩ | ⟨c12, hf⟩
            · skip
              cases hf
              -- leaf 000100: ((0 : Int32), q146.2)
              rcases d11 with ⟨w, -⟩ | ⟨-, t11, y11⟩
              · exact absurd (c12.symm.trans w) (by decide)
              rw [E]
              refine lwR_sq hA A.2.2.1 A.2.2.2 ?_
              rw [if_neg t9, if_neg t11]
              exact lwR_r rfl rfl g11 (frQ_tr (fr2 f9) (fr2 f11)) (z11.trans z9)
            · skip
              -- leaf 000101: F_X12_readAtom_152 n g0 g1 g2 a0 q135.1 q146.2
              rcases d11 with ⟨-, t11, y11⟩ | ⟨w, -⟩
              rotate_left
              · exact absurd w c12
              have km2 := tk_m H (k := d.1) (by rw [t11]; decide)
              have R11 := rr_fr R10 f11 y11 (Nat.le_succ _) km2
              have B := E_X12_readAtom_152 (F := F) H R11 (by omega) (by omega) hf
              rw [if_pos c10] at B
              rw [E]
              refine lwR_sq hA A.2.2.1 A.2.2.2 ?_
              rw [if_neg t9, if_pos t11]
              exact lwR_pre (frQ_tr (fr2 f9) (fr2 f11)) (z11.trans z9) B
          · skip
            -- leaf 00011: F_X12_readAtom_152 n g0 g1 g2 a0 q135.1 q135.2
            rcases d9 with ⟨-, t9, y9⟩ | ⟨w, -⟩
            rotate_left
            · exact absurd w c10
            have km2 := tk_m H (k := d.1) (by rw [t9]; decide)
            have R11 := rr_fr R8 f9 y9 (Nat.le_succ _) km2
            have B := E_X12_readAtom_152 (F := F) H R11 (by omega) (by omega) hf
            rw [if_neg c10] at B
            rw [E]
            refine lwR_sq hA A.2.2.1 A.2.2.2 ?_
            rw [if_pos t9]
            exact lwR_pre (fr2 f9) z9 B
      · skip
        cases hf
        -- leaf 001: ((1 : Int32), q115.2)
        rcases d5 with ⟨ta, tb, -, R6⟩ | ⟨-, w, -⟩
        rotate_left
        · exact absurd w c6
        exact lwR_l ((rdG_1 (T := T) (F := F) (dp := dp) (k := k)).trans ((if_neg t1).trans ((if_neg t3).trans (if_pos ⟨ta, tb⟩)))) rfl R6 f15 z15
    · skip
      replace hf := jbind hf
      obtain ⟨v66, e13, hf⟩ := hf
      have r13 := oc_gI e13
      subst r13
      clear e13
      rcases d3 with ⟨-, t3, y3⟩ | ⟨w, -⟩
      rotate_left
      · exact absurd w c4
      have km := tk_m H (k := k) (by rw [t3]; decide)
      have R22 := rr_fr R2 f3 y3 (Nat.le_succ _) km
      have d6 : oi (oc q59.2) a0 13 = nI dp := R22.2.2.2.1
      replace hf := jite hf
      rcases hf with ⟨c14, hf⟩ | ⟨c14, hf⟩
      · skip
        cases hf
        -- leaf 010: ((0 : Int32), q59.2)
        rw [d6, show (6 : Int32) = nI 6 from rfl, nI_eq (by omega) (by omega)] at c14
        exact lwR_r ((rdG_1 (T := T) (F := F) (dp := dp) (k := k)).trans ((if_neg t1).trans ((if_pos t3).trans (if_pos c14)))) rfl g3 (frQ_tr (fr2 f1) (fr2 f3)) (z3.trans z1)
      · skip
        replace hf := jbind hf
        obtain ⟨v78, e15, hf⟩ := hf
        have r15 := oc_gI e15
        subst r15
        clear e15
        replace hf := jbind hf
        obtain ⟨h83, e16, hf⟩ := hf
        obtain ⟨o16, z16⟩ := oc_pf e16
        clear e16
        replace hf := jbind hf
        obtain ⟨q87, e17, hf⟩ := hf
        replace e17 := (jcv_o e17).2
        rw [d6, show (6 : Int32) = nI 6 from rfl, nI_eq (by omega) (by omega)] at c14
        have R25 : rr (oc h83) a0 b L st m (k + 1) W s (dp + 1) := rr_dp R22 (by rw [o16, d6, nI_1])
        have A := G1 a0 (k + 1) W s (dp + 1) F h83 q87 R25 (by omega) (by omega) e17
        have fA : frQ a0 (oc h) (oc h83) := frQ_tr (fr2 f1) (frQ_tr (fr2 f3) (by rw [o16]; exact frQ_f (by decide)))
        have zA : h83.1 = h.1 := z16.trans (z3.trans z1)
        have E := (rdG_1 (T := T) (F := F) (dp := dp) (k := k)).trans ((if_neg t1).trans ((if_pos t3).trans (if_neg c14)))
        replace hf := jite hf
        rcases hf with ⟨c18, hf⟩ | ⟨c18, hf⟩
        · skip
          cases hf
          -- leaf 0110: ((0 : Int32), q87.2)
          rcases hA : rdG T F 1 (dp + 1) (k + 1) with d | f
          · exact absurd (c18.symm.trans (A.1 d hA).1) (by decide)
          obtain ⟨v9, g9⟩ := A.2.1 f hA
          rw [E]
          exact lwR_r (sq_r hA) rfl g9 (frQ_tr fA A.2.2.1) (A.2.2.2.trans zA)
        · skip
          replace hf := jbind hf
          obtain ⟨v97, e19, hf⟩ := hf
          have r19 := oc_gI e19
          subst r19
          clear e19
          rcases hA : rdG T F 1 (dp + 1) (k + 1) with d | f
          rotate_left
          · exact absurd (A.2.1 f hA).1 c18
          obtain ⟨-, R28⟩ := A.1 d hA
          have gi := g_i H F (by omega) hA
          have sk := R.2.2.2.2.1
          replace hf := jbind hf
          obtain ⟨h102, e20, hf⟩ := hf
          obtain ⟨o20, z20⟩ := oc_pf e20
          clear e20
          replace hf := jbind hf
          obtain ⟨h109, e21, hf⟩ := hf
          replace e21 := (jcv_o e21).2
          have R20 : rr (oc h102) a0 b L st m d.1 (emW W s d.2) (s + d.2.length) dp := rr_dp R28 (by rw [o20, R28.2.2.2.1, nI_pred])
          obtain ⟨R21, f21, z21⟩ := rr_em R20 (by omega) e21
          cases hf
          -- leaf 0111: ((1 : Int32), h109)
          rw [E]
          refine lwR_sq hA (frQ_tr fA (frQ_tr A.2.2.1 (by rw [o20]; exact frQ_f (by decide)))) (z20.trans (A.2.2.2.trans zA)) ?_
          exact lwR_l rfl rfl R21 f21 z21
  · skip
    replace hf := jbind hf
    obtain ⟨v10, e22, hf⟩ := hf
    have r22 := oc_gI e22
    subst r22
    clear e22
    rcases d1 with ⟨-, t1, y1⟩ | ⟨w, -⟩
    rotate_left
    · exact absurd w c2
    have km := tk_m H (k := k) (by rw [t1]; decide)
    have R22 := rr_fr R f1 y1 (Nat.le_succ _) km
    have d6 : oi (oc q3.2) a0 13 = nI dp := R22.2.2.2.1
    replace hf := jite hf
    rcases hf with ⟨c23, hf⟩ | ⟨c23, hf⟩
    · skip
      cases hf
      -- leaf 10: ((0 : Int32), q3.2)
      rw [d6, show (6 : Int32) = nI 6 from rfl, nI_eq (by omega) (by omega)] at c23
      exact lwR_r ((rdG_1 (T := T) (F := F) (dp := dp) (k := k)).trans ((if_pos t1).trans (if_pos c23))) rfl g1 (fr2 f1) z1
    · skip
      replace hf := jbind hf
      obtain ⟨v22, e24, hf⟩ := hf
      have r24 := oc_gI e24
      subst r24
      clear e24
      replace hf := jbind hf
      obtain ⟨h27, e25, hf⟩ := hf
      obtain ⟨o25, z25⟩ := oc_pf e25
      clear e25
      replace hf := jbind hf
      obtain ⟨q31, e26, hf⟩ := hf
      replace e26 := (jcv_o e26).2
      rw [d6, show (6 : Int32) = nI 6 from rfl, nI_eq (by omega) (by omega)] at c23
      have R25 : rr (oc h27) a0 b L st m (k + 1) W s (dp + 1) := rr_dp R22 (by rw [o25, d6, nI_1])
      have A := G0 a0 (k + 1) W s (dp + 1) F h27 q31 R25 (by omega) (by omega) e26
      have fA : frQ a0 (oc h) (oc h27) := frQ_tr (fr2 f1) (by rw [o25]; exact frQ_f (by decide))
      have zA : h27.1 = h.1 := z25.trans z1
      have E := (rdG_1 (T := T) (F := F) (dp := dp) (k := k)).trans ((if_pos t1).trans (if_neg c23))
      replace hf := jite hf
      rcases hf with ⟨c27, hf⟩ | ⟨c27, hf⟩
      · skip
        cases hf
        -- leaf 110: ((0 : Int32), q31.2)
        rcases hA : rdG T F 0 (dp + 1) (k + 1) with d | f
        · exact absurd (c27.symm.trans (A.1 d hA).1) (by decide)
        obtain ⟨v9, g9⟩ := A.2.1 f hA
        rw [E]
        exact lwR_r (sq_r hA) rfl g9 (frQ_tr fA A.2.2.1) (A.2.2.2.trans zA)
      · skip
        replace hf := jbind hf
        obtain ⟨v41, e28, hf⟩ := hf
        have r28 := oc_gI e28
        subst r28
        clear e28
        rcases hA : rdG T F 0 (dp + 1) (k + 1) with d | f
        rotate_left
        · exact absurd (A.2.1 f hA).1 c27
        obtain ⟨-, R28⟩ := A.1 d hA
        have gi := g_i H F (by omega) hA
        have sk := R.2.2.2.2.1
        replace hf := jbind hf
        obtain ⟨h46, e29, hf⟩ := hf
        obtain ⟨o29, z29⟩ := oc_pf e29
        clear e29
        replace hf := jbind hf
        obtain ⟨q52, e30, hf⟩ := hf
        replace e30 := (jcv_o e30).2
        have R29 : rr (oc h46) a0 b L st m d.1 (emW W s d.2) (s + d.2.length) dp := rr_dp R28 (by rw [o29, R28.2.2.2.1, nI_pred])
        obtain ⟨d30, g30, f30, z30⟩ := T_sign (c := 41) H (by unfold sgn; decide) R29.1 e30
        replace hf := jite hf
        rcases hf with ⟨c31, hf⟩ | ⟨c31, hf⟩
        · skip
          cases hf
          -- leaf 1110: (q52.1, q52.2)
          rw [E]
          refine lwR_sq hA (frQ_tr fA (frQ_tr A.2.2.1 (by rw [o29]; exact frQ_f (by decide)))) (z29.trans (A.2.2.2.trans zA)) ?_
          rcases d30 with ⟨v30, t30, y30⟩ | ⟨v30, t30, y30⟩
          · rw [if_pos t30]
            exact lwR_nl rfl v30 (rr_fr R29 f30 y30 (Nat.le_succ _) (tk_m H (by rw [t30]; decide))) (fr2 f30) z30
          · rw [if_neg t30]
            exact lwR_r rfl v30 g30 (fr2 f30) z30
        · skip
          cases hf
end
section
/-! conditions joined, the reference -/
theorem E_X12_readAllOf_9 {n : Nat} {g0 : Nat → jH → Option (Int32 × jH)} {g1 : Nat → jH → Option (Int32 × jH)} {g2 : Nat → jH → Option (Int32 × jH)} {b : Nat → Int32} {L : Nat} {m : Nat} {T : Nat → Int32 × Int32} {st : Nat → Nat} {en : Nat → Nat} {dp : Nat} (H : tkE b L m T st en) (G : gPr b L m T st 1 1 g1) (hd : dp ≤ 6) : ∀ (k : Nat) {a0 : Nat} {h : jH} {q : Int32 × jH} (F : Nat) (k0 : Nat) (W : jWd) (s : Nat) (R : rr (oc h) a0 b L st m k0 W s dp) (hF : 4 * m + 1 ≤ F + 4 * k0), F_X12_readAllOf_9 n g0 g1 g2 k a0 h = some q → lwR a0 b L st m h q.1 q.2 W s dp (rdG T F 3 dp k0)
  | 0, a0, h, q, F, k0, W, s, R, hF, hf => by cases hf
  | k + 1, a0, h, q, F, k0, W, s, R, hF, hf => by
    replace hf : F_X12_readAllOf_9_b n g0 g1 g2 (F_X12_readAllOf_9 n g0 g1 g2 k) a0 h = some q := hf
    unfold F_X12_readAllOf_9_b at hf
    have km9 := R.2.2.2.2.2.1
    obtain ⟨F, rfl⟩ : ∃ F2, F = F2 + 1 := ⟨F - 1, by omega⟩
    replace hf := jbind hf
    obtain ⟨q12, e1, hf⟩ := hf
    replace e1 := (jcv_o e1).2
    obtain ⟨d1, g1, f1, z1⟩ := T_passes (w := 12) H (by decide) R.1 e1
    replace hf := jite hf
    rcases hf with ⟨c2, hf⟩ | ⟨c2, hf⟩
    · skip
      cases hf
      -- leaf 0: ((1 : Int32), q12.2)
      rcases d1 with ⟨w, -⟩ | ⟨-, t1, y1⟩
      · exact absurd (c2.symm.trans w) (by decide)
      exact lwR_nl ((rdG_3 (T := T) (F := F) (dp := dp) (k := k0)).trans (if_neg t1)) rfl (rr_fr R f1 y1 (Nat.le_refl _) km9) (fr2 f1) z1
    · skip
      replace hf := jbind hf
      obtain ⟨q19, e3, hf⟩ := hf
      replace e3 := (jcv_o e3).2
      rcases d1 with ⟨-, t1, y1⟩ | ⟨w, -⟩
      rotate_left
      · exact absurd w c2
      have km := tk_m H (k := k0) (by rw [t1]; decide)
      have R2 := rr_fr R f1 y1 (Nat.le_succ _) km
      have A := G a0 (k0 + 1) W s dp F q12.2 q19 R2 hd (by omega) e3
      have E := (rdG_3 (T := T) (F := F) (dp := dp) (k := k0)).trans (if_pos t1)
      replace hf := jite hf
      rcases hf with ⟨c4, hf⟩ | ⟨c4, hf⟩
      · skip
        cases hf
        -- leaf 10: ((0 : Int32), q19.2)
        rcases hA : rdG T F 1 dp (k0 + 1) with d | f
        · exact absurd (c4.symm.trans (A.1 d hA).1) (by decide)
        obtain ⟨v9, g9⟩ := A.2.1 f hA
        rw [E]
        exact lwR_r (sq_r hA) rfl g9 (frQ_tr (fr2 f1) A.2.2.1) (A.2.2.2.trans z1)
      · skip
        replace hf := jbind hf
        obtain ⟨h31, e5, hf⟩ := hf
        replace e5 := (jcv_o e5).2
        rcases hA : rdG T F 1 dp (k0 + 1) with d | f
        rotate_left
        · exact absurd (A.2.1 f hA).1 c4
        obtain ⟨-, R4⟩ := A.1 d hA
        have gi := g_i H F km hA
        have sk := R.2.2.2.2.1
        obtain ⟨R5, f5, z5⟩ := rr_em R4 (by omega) e5
        -- leaf 11: rc9 a0 h31
        have B := E_X12_readAllOf_9 H G hd k F d.1 _ _ R5 (by omega) hf
        rw [E]
        exact lwR_sq hA (frQ_tr (fr2 f1) A.2.2.1) (A.2.2.2.trans z1) (lwR_sq (f := fun i => rdG T F 3 dp i) (d := (d.1, [(16, 0)])) rfl f5 z5 B)
theorem E_X12_readAllOf {b : Nat → Int32} {L : Nat} {m : Nat} {T : Nat → Int32 × Int32} {st : Nat → Nat} {en : Nat → Nat} {k : Nat} {W : jWd} {s : Nat} {dp : Nat} {F : Nat} {n : Nat} {g0 : Nat → jH → Option (Int32 × jH)} {g1 : Nat → jH → Option (Int32 × jH)} {g2 : Nat → jH → Option (Int32 × jH)} {a0 : Nat} {h : jH} {q : Int32 × jH} (H : tkE b L m T st en) (G1 : gPr b L m T st 1 1 g1) (R : rr (oc h) a0 b L st m k W s dp) (hd : dp ≤ 6) (hF : 4 * m + 2 ≤ F + 4 * k) (hf : F_X12_readAllOf n g0 g1 g2 a0 h = some q) : lwR a0 b L st m h q.1 q.2 W s dp (rdG T F 2 dp k) := by
  unfold F_X12_readAllOf at hf
  have km9 := R.2.2.2.2.2.1
  obtain ⟨F, rfl⟩ : ∃ F2, F = F2 + 1 := ⟨F - 1, by omega⟩
  replace hf := jbind hf
  obtain ⟨q1, e1, hf⟩ := hf
  replace e1 := (jcv_o e1).2
  have A := G1 a0 k W s dp F h q1 R hd (by omega) e1
  replace hf := jite hf
  rcases hf with ⟨c2, hf⟩ | ⟨c2, hf⟩
  · skip
    cases hf
    -- leaf 0: ((0 : Int32), q1.2)
    rcases hA : rdG T F 1 dp k with d | f
    · exact absurd (c2.symm.trans (A.1 d hA).1) (by decide)
    rw [c2] at A
    rw [rdG_2]
    exact lwR_sr A hA
  · skip
    -- leaf 1: F_X12_readAllOf_9 n g0 g1 g2 n a0 q1.2
    rcases hA : rdG T F 1 dp k with d | f
    rotate_left
    · exact absurd (A.2.1 f hA).1 c2
    obtain ⟨-, R4⟩ := A.1 d hA
    have gi := g_i H F km9 hA
    have gi4 := gi.2.2.2 (by decide)
    rw [rdG_2]
    exact lwR_sq hA A.2.2.1 A.2.2.2 (E_X12_readAllOf_9 H G1 hd n F d.1 _ _ R4 (by omega) hf)
theorem E_X12_readCond_9 {n : Nat} {g0 : Nat → jH → Option (Int32 × jH)} {g1 : Nat → jH → Option (Int32 × jH)} {g2 : Nat → jH → Option (Int32 × jH)} {b : Nat → Int32} {L : Nat} {m : Nat} {T : Nat → Int32 × Int32} {st : Nat → Nat} {en : Nat → Nat} {dp : Nat} (H : tkE b L m T st en) (G : gPr b L m T st 2 2 g2) (hd : dp ≤ 6) : ∀ (k : Nat) {a0 : Nat} {h : jH} {q : Int32 × jH} (F : Nat) (k0 : Nat) (W : jWd) (s : Nat) (R : rr (oc h) a0 b L st m k0 W s dp) (hF : 4 * m + 1 ≤ F + 4 * k0), F_X12_readCond_9 n g0 g1 g2 k a0 h = some q → lwR a0 b L st m h q.1 q.2 W s dp (rdG T F 4 dp k0)
  | 0, a0, h, q, F, k0, W, s, R, hF, hf => by cases hf
  | k + 1, a0, h, q, F, k0, W, s, R, hF, hf => by
    replace hf : F_X12_readCond_9_b n g0 g1 g2 (F_X12_readCond_9 n g0 g1 g2 k) a0 h = some q := hf
    unfold F_X12_readCond_9_b at hf
    have km9 := R.2.2.2.2.2.1
    obtain ⟨F, rfl⟩ : ∃ F2, F = F2 + 1 := ⟨F - 1, by omega⟩
    replace hf := jbind hf
    obtain ⟨q12, e1, hf⟩ := hf
    replace e1 := (jcv_o e1).2
    obtain ⟨d1, g1, f1, z1⟩ := T_passes (w := 13) H (by decide) R.1 e1
    replace hf := jite hf
    rcases hf with ⟨c2, hf⟩ | ⟨c2, hf⟩
    · skip
      cases hf
      -- leaf 0: ((1 : Int32), q12.2)
      rcases d1 with ⟨w, -⟩ | ⟨-, t1, y1⟩
      · exact absurd (c2.symm.trans w) (by decide)
      exact lwR_nl ((rdG_4 (T := T) (F := F) (dp := dp) (k := k0)).trans (if_neg t1)) rfl (rr_fr R f1 y1 (Nat.le_refl _) km9) (fr2 f1) z1
    · skip
      replace hf := jbind hf
      obtain ⟨q19, e3, hf⟩ := hf
      replace e3 := (jcv_o e3).2
      rcases d1 with ⟨-, t1, y1⟩ | ⟨w, -⟩
      rotate_left
      · exact absurd w c2
      have km := tk_m H (k := k0) (by rw [t1]; decide)
      have R2 := rr_fr R f1 y1 (Nat.le_succ _) km
      have A := G a0 (k0 + 1) W s dp F q12.2 q19 R2 hd (by omega) e3
      have E := (rdG_4 (T := T) (F := F) (dp := dp) (k := k0)).trans (if_pos t1)
      replace hf := jite hf
      rcases hf with ⟨c4, hf⟩ | ⟨c4, hf⟩
      · skip
        cases hf
        -- leaf 10: ((0 : Int32), q19.2)
        rcases hA : rdG T F 2 dp (k0 + 1) with d | f
        · exact absurd (c4.symm.trans (A.1 d hA).1) (by decide)
        obtain ⟨v9, g9⟩ := A.2.1 f hA
        rw [E]
        exact lwR_r (sq_r hA) rfl g9 (frQ_tr (fr2 f1) A.2.2.1) (A.2.2.2.trans z1)
      · skip
        replace hf := jbind hf
        obtain ⟨h31, e5, hf⟩ := hf
        replace e5 := (jcv_o e5).2
        rcases hA : rdG T F 2 dp (k0 + 1) with d | f
        rotate_left
        · exact absurd (A.2.1 f hA).1 c4
        obtain ⟨-, R4⟩ := A.1 d hA
        have gi := g_i H F km hA
        have sk := R.2.2.2.2.1
        obtain ⟨R5, f5, z5⟩ := rr_em R4 (by omega) e5
        -- leaf 11: rc9 a0 h31
        have B := E_X12_readCond_9 H G hd k F d.1 _ _ R5 (by omega) hf
        rw [E]
        exact lwR_sq hA (frQ_tr (fr2 f1) A.2.2.1) (A.2.2.2.trans z1) (lwR_sq (f := fun i => rdG T F 4 dp i) (d := (d.1, [(17, 0)])) rfl f5 z5 B)
theorem E_X12_readCond {b : Nat → Int32} {L : Nat} {m : Nat} {T : Nat → Int32 × Int32} {st : Nat → Nat} {en : Nat → Nat} {k : Nat} {W : jWd} {s : Nat} {dp : Nat} {F : Nat} {n : Nat} {g0 : Nat → jH → Option (Int32 × jH)} {g1 : Nat → jH → Option (Int32 × jH)} {g2 : Nat → jH → Option (Int32 × jH)} {a0 : Nat} {h : jH} {q : Int32 × jH} (H : tkE b L m T st en) (G2 : gPr b L m T st 2 2 g2) (R : rr (oc h) a0 b L st m k W s dp) (hd : dp ≤ 6) (hF : 4 * m + 3 ≤ F + 4 * k) (hf : F_X12_readCond n g0 g1 g2 a0 h = some q) : lwR a0 b L st m h q.1 q.2 W s dp (rdG T F 0 dp k) := by
  unfold F_X12_readCond at hf
  have km9 := R.2.2.2.2.2.1
  obtain ⟨F, rfl⟩ : ∃ F2, F = F2 + 1 := ⟨F - 1, by omega⟩
  replace hf := jbind hf
  obtain ⟨q1, e1, hf⟩ := hf
  replace e1 := (jcv_o e1).2
  have A := G2 a0 k W s dp F h q1 R hd (by omega) e1
  replace hf := jite hf
  rcases hf with ⟨c2, hf⟩ | ⟨c2, hf⟩
  · skip
    cases hf
    -- leaf 0: ((0 : Int32), q1.2)
    rcases hA : rdG T F 2 dp k with d | f
    · exact absurd (c2.symm.trans (A.1 d hA).1) (by decide)
    rw [c2] at A
    rw [rdG_0]
    exact lwR_sr A hA
  · skip
    -- leaf 1: F_X12_readCond_9 n g0 g1 g2 n a0 q1.2
    rcases hA : rdG T F 2 dp k with d | f
    rotate_left
    · exact absurd (A.2.1 f hA).1 c2
    obtain ⟨-, R4⟩ := A.1 d hA
    have gi := g_i H F km9 hA
    have gi4 := gi.2.2.2 (by decide)
    rw [rdG_0]
    exact lwR_sq hA A.2.2.1 A.2.2.2 (E_X12_readCond_9 H G2 hd n F d.1 _ _ R4 (by omega) hf)
theorem R_MC {b : Nat → Int32} {L m : Nat} {T : Nat → Int32 × Int32} {st en : Nat → Nat} (H : tkE b L m T st en) {n : Nat} : ∀ d : Nat, gPr b L m T st 0 3 (FG_MC n d 0) ∧ gPr b L m T st 1 1 (FG_MC n d 1) ∧ gPr b L m T st 2 2 (FG_MC n d 2)
  | 0 => ⟨fun a0 k W s dp F h q R hd hF e => (by cases e), fun a0 k W s dp F h q R hd hF e => (by cases e), fun a0 k W s dp F h q R hd hF e => (by cases e)⟩
  | d + 1 => by
    obtain ⟨i0, i1, i2⟩ := R_MC H (n := n) d
    refine ⟨fun a0 k W s dp F h q R hd hF e => ?_, fun a0 k W s dp F h q R hd hF e => ?_, fun a0 k W s dp F h q R hd hF e => ?_⟩
    · have e2 : F_X12_readCond n (FG_MC n d 0) (FG_MC n d 1) (FG_MC n d 2) a0 h = some q := e
      exact E_X12_readCond H i2 R hd hF e2
    · have e2 : F_X12_readAtom n (FG_MC n d 0) (FG_MC n d 1) (FG_MC n d 2) a0 h = some q := e
      exact E_X12_readAtom H i0 i1 R hd hF e2
    · have e2 : F_X12_readAllOf n (FG_MC n d 0) (FG_MC n d 1) (FG_MC n d 2) a0 h = some q := e
      exact E_X12_readAllOf H i1 R hd hF e2
end
