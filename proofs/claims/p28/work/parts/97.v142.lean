/-! a condition of a law's text, as the reference reads it -/
def emW : jWd → Nat → List (Int32 × Int32) → jWd
  | W, _, [] => W
  | W, s, e :: t => emW (upd (upd W (1333 + 2 * s) e.1) (1334 + 2 * s) e.2) (s + 1) t
theorem emW_app : ∀ (l t : List (Int32 × Int32)) (W : jWd) (s : Nat), emW W s (l ++ t) = emW (emW W s l) (s + l.length) t
  | [], t, W, s => rfl
  | e :: l, t, W, s => by
    show emW _ (s + 1) (l ++ t) = _
    rw [emW_app l t]
    show emW (emW _ (s + 1) l) (s + 1 + l.length) t = emW (emW _ (s + 1) l) (s + (l.length + 1)) t
    rw [show s + 1 + l.length = s + (l.length + 1) by omega]
/-- what the reading of a condition leaves alone -/
def frQ (x : Nat) (O O2 : jO) : Prop := ∀ a k : Nat, ¬ (a = x ∧ (k = 10 ∨ k = 12 ∨ k = 13 ∨ k = 16)) → ¬ (a = x + 1 ∧ 1284 ≤ k) → O2 a k = O a k
theorem frQ_tr {x : Nat} {O O2 O3 : jO} (a : frQ x O O2) (c : frQ x O2 O3) : frQ x O O3 := fun b k h1 h2 => (c b k h1 h2).trans (a b k h1 h2)
theorem frQ_f {x k : Nat} {O : jO} {v : Value} (h : k = 10 ∨ k = 12 ∨ k = 13 ∨ k = 16) : frQ x O (u2 O x k v) := fun b j h1 h2 => u2_ne (by omega)
theorem frQ_w {x k : Nat} {O : jO} {v : Value} (h : 1284 ≤ k) : frQ x O (u2 O (x + 1) k v) := fun b j h1 h2 => u2_ne (by omega)
theorem frQ_0 {x : Nat} {O : jO} : frQ x O O := fun _ _ _ _ => rfl
theorem frQ_M {x : Nat} {O O2 : jO} (f : frQ x O O2) : frM x [1] [10, 12, 13, 16] O O2 := fun a k h1 h2 => f a k (fun z => h2 z.1 (by simp; omega)) (fun z => h1 1 (by simp) z.1)
/-- the reference stands before thing k, has made s steps, dp deep; its world is W -/
def rr (O : jO) (x : Nat) (b : Nat → Int32) (L : Nat) (st : Nat → Nat) (m k : Nat) (W : jWd) (s dp : Nat) : Prop := rc O x b L st k ∧ wl O x = W ∧ oi O x 16 = nI s ∧ oi O x 13 = nI dp ∧ s ≤ k ∧ k ≤ m ∧ m ≤ 400
def lwR (x : Nat) (b : Nat → Int32) (L : Nat) (st : Nat → Nat) (m : Nat) (h : jH) (v : Int32) (h2 : jH) (W : jWd) (s dp : Nat) (r : jRd) : Prop :=
  (∀ d, r = .inl d → v = 1 ∧ rr (oc h2) x b L st m d.1 (emW W s d.2) (s + d.2.length) dp) ∧ (∀ f, r = .inr f → v = 0 ∧ oi (oc h2) x 12 = nI (st f)) ∧ frQ x (oc h) (oc h2) ∧ h2.1 = h.1
theorem lwR_l {x L m s dp k : Nat} {b : Nat → Int32} {st : Nat → Nat} {h h2 : jH} {v : Int32} {W : jWd} {r : jRd} {l : List (Int32 × Int32)} (e : r = .inl (k, l)) (hv : v = 1) (R : rr (oc h2) x b L st m k (emW W s l) (s + l.length) dp) (f : frQ x (oc h) (oc h2)) (z : h2.1 = h.1) : lwR x b L st m h v h2 W s dp r :=
  ⟨fun d y => (by rw [e] at y; cases y; exact ⟨hv, R⟩), fun d y => (by rw [e] at y; cases y), f, z⟩
theorem lwR_r {x L m s dp k : Nat} {b : Nat → Int32} {st : Nat → Nat} {h h2 : jH} {v : Int32} {W : jWd} {r : jRd} (e : r = .inr k) (hv : v = 0) (g : oi (oc h2) x 12 = nI (st k)) (f : frQ x (oc h) (oc h2)) (z : h2.1 = h.1) : lwR x b L st m h v h2 W s dp r :=
  ⟨fun d y => (by rw [e] at y; cases y), fun d y => (by rw [e] at y; cases y; exact ⟨hv, g⟩), f, z⟩
section
variable {b : Nat → Int32} {L m : Nat} {T : Nat → Int32 × Int32} {st en : Nat → Nat}
theorem rr_fr {O O2 : jO} {x k k2 s dp : Nat} {W : jWd} (R : rr O x b L st m k W s dp) (f : frM x [] [10, 12] O O2) (R2 : rc O2 x b L st k2) (h1 : k ≤ k2) (h2 : k2 ≤ m) : rr O2 x b L st m k2 W s dp := by
  obtain ⟨-, a1, a2, a3, a4, a5, a6⟩ := R
  exact ⟨R2, by rw [wl_f f (by decide)]; exact a1, (frM_oi f (by decide) (by decide)).trans a2, (frM_oi f (by decide) (by decide)).trans a3, by omega, h2, a6⟩
theorem fr2 {O O2 : jO} {x : Nat} (f : frM x [] [10, 12] O O2) : frQ x O O2 := fun a k h1 h2 => f a k (fun c hc => by cases hc) (fun z y => h1 ⟨z, by simp at y; omega⟩)
theorem tk_let (H : tkE b L m T st en) {k : Nat} (y : bIn b L 97 122 (st k)) : (T k).1 ≠ -3 ∧ k < m := by
  have hk : k < m := by
    rcases Nat.lt_or_ge k m with z | z
    · exact z
    · have := (H.2.2.2.1 k z).1; have := y.1; omega
  refine ⟨?_, hk⟩
  rcases (H.2.2.1 k hk).2.1 with ⟨-, -, ⟨w, hw, t, -⟩ | ⟨t, -⟩⟩ | ⟨y2, -⟩ | ⟨-, y2, -⟩
  · rw [t]; exact fun z => nI_ng (x := -3) (show w < 1000 by omega) (by decide) z.symm
  · rw [t]; decide
  · exfalso
    have a1 := y.2.1; have a2 := y2.2.2
    rw [Int32.le_iff_toInt_le] at a1 a2
    have l97 : (97 : Int32).toInt = 97 := rfl
    have l57 : (57 : Int32).toInt = 57 := rfl
    omega
  · exact absurd y y2
theorem tk_nlet (H : tkE b L m T st en) {k w : Nat} (hw : w < 23) (y : ¬ bIn b L 97 122 (st k)) : (T k).1 ≠ nI w := fun z => by
  have q := ((tk_w H hw (row_0 y)).1.mpr z).1
  have := (wT_l w hw).1
  omega
theorem tk_n3 (H : tkE b L m T st en) {k : Nat} (h : (T k).1 = -3) : k < m := tk_m H (by rw [h]; decide)
end
theorem E_X12_emits {W : jWd} {s : Nat} {n : Nat} {a0 : Nat} {x1 : Int32} {x2 : Int32} {h : jH} {q : jH} (M : mS (oc h) a0) (hW : wl (oc h) a0 = W) (g : oi (oc h) a0 16 = nI s) (hs : s ≤ 1000) (hf : F_X12_emits n a0 x1 x2 h = some q) : wl (oc q) a0 = upd (upd W (1333 + 2 * s) x1) (1334 + 2 * s) x2 ∧ oi (oc q) a0 16 = nI (s + 1) ∧ frM a0 [1] [16] (oc h) (oc q) ∧ q.1 = h.1 ∧ frQ a0 (oc h) (oc q) := by
  unfold F_X12_emits at hf
  replace hf := jbind hf
  obtain ⟨p1, e1, hf⟩ := hf
  have r1 := oc_gR e1
  rw [M.1] at r1
  cases r1
  clear e1
  replace hf := jbind hf
  obtain ⟨v9, e2, hf⟩ := hf
  have r2 := oc_gI e2
  subst r2
  clear e2
  replace hf := jbind hf
  obtain ⟨h15, e3, hf⟩ := hf
  obtain ⟨o3, z3, y3⟩ := oc_as e3
  rw [jnar0] at o3
  clear e3
  replace hf := jbind hf
  obtain ⟨p17, e4, hf⟩ := hf
  have r4 := oc_gR e4
  rw [o3] at r4
  rw [u2_ne (Or.inl (by omega))] at r4
  rw [M.1] at r4
  cases r4
  clear e4
  replace hf := jbind hf
  obtain ⟨v25, e5, hf⟩ := hf
  have r5 := oc_gI e5
  rw [o3] at r5
  rw [oi_ne (Or.inl (by omega))] at r5
  subst r5
  clear e5
  replace hf := jbind hf
  obtain ⟨h33, e6, hf⟩ := hf
  obtain ⟨o6, z6, y6⟩ := oc_as e6
  rw [jnar0] at o6
  clear e6
  replace hf := jbind hf
  obtain ⟨v36, e7, hf⟩ := hf
  have r7 := oc_gI e7
  rw [o6] at r7
  rw [oi_ne (Or.inl (by omega))] at r7
  rw [o3] at r7
  rw [oi_ne (Or.inl (by omega))] at r7
  subst r7
  clear e7
  replace hf := jbind hf
  obtain ⟨h41, e8, hf⟩ := hf
  obtain ⟨o8, z8⟩ := oc_pf e8
  clear e8
  cases hf
  -- leaf : h41
  have e1 : (1333 : Int32) + (2 : Int32) * nI s = nI (1333 + 2 * s) := by show nI 1333 + nI 2 * nI s = _; rw [nI_mul, nI_add]
  have e2 : nI (1333 + 2 * s) + (1 : Int32) = nI (1334 + 2 * s) := by rw [nI_1]; congr 1; omega
  rw [g, e1, nI_cl (by omega)] at o3
  rw [g, e1, e2, nI_cl (by omega)] at o6
  rw [g, nI_1] at o8
  have f : frM a0 [1] [16] (oc h) (oc q) := by rw [o8, o6, o3]; exact frM_tr (frM_c (by decide)) (frM_tr (frM_c (by decide)) (frM_f (by decide)))
  exact ⟨by rw [o8, wl_n (by omega), o6, wl_w, o3, wl_w, hW], by rw [o8, oi_eq], f, z8.trans (z6.trans z3), by rw [o8, o6, o3]; exact frQ_tr (frQ_w (by omega)) (frQ_tr (frQ_w (by omega)) (frQ_f (by decide)))⟩
theorem rr_em {b : Nat → Int32} {L m : Nat} {st : Nat → Nat} {n x k s dp : Nat} {W : jWd} {c v : Int32} {h q : jH} (R : rr (oc h) x b L st m k W s dp) (hs : s + 1 ≤ k) (e : F_X12_emits n x c v h = some q) : rr (oc q) x b L st m k (emW W s [(c, v)]) (s + 1) dp ∧ frQ x (oc h) (oc q) ∧ q.1 = h.1 := by
  obtain ⟨R, a1, a2, a3, a4, a5, a6⟩ := R
  obtain ⟨c1, c2, c3, c4, c5⟩ := E_X12_emits (rc_mS R) a1 a2 (by omega) e
  exact ⟨⟨rc_fr R c3 (by decide) (by decide) (by decide) (by decide) (by decide), c1, c2, (frM_oi c3 (by decide) (by decide)).trans a3, hs, a5, a6⟩, c5, c4⟩
theorem E_X12_wordOfPart {b : Nat → Int32} {L : Nat} {m : Nat} {T : Nat → Int32 × Int32} {st : Nat → Nat} {en : Nat → Nat} {k : Nat} {n : Nat} {a0 : Nat} {h : jH} {q : Int32} (H : tkE b L m T st en) (R : rw2 (oc h) a0 b L st k) (hf : F_X12_wordOfPart n a0 h = some q) : (q = (T k).1 ∧ ∃ w : Nat, w ≤ 6 ∧ (T k).1 = nI w) ∨ (q = -1 ∧ ∀ w : Nat, w ≤ 6 → (T k).1 ≠ nI w) := by
  unfold F_X12_wordOfPart at hf
  replace hf := jbind hf
  obtain ⟨v3, e1, hf⟩ := hf
  replace e1 := (jcv_o e1).2
  have r1 := T_isWord (w := 0) H (by decide) R e1
  replace hf := jite hf
  rcases hf with ⟨c2, hf⟩ | ⟨c2, hf⟩
  · skip
    replace hf := jbind hf
    obtain ⟨v14, e3, hf⟩ := hf
    replace e3 := (jcv_o e3).2
    have r3 := T_isWord (w := 1) H (by decide) R e3
    replace hf := jite hf
    rcases hf with ⟨c4, hf⟩ | ⟨c4, hf⟩
    · skip
      replace hf := jbind hf
      obtain ⟨v25, e5, hf⟩ := hf
      replace e5 := (jcv_o e5).2
      have r5 := T_isWord (w := 2) H (by decide) R e5
      replace hf := jite hf
      rcases hf with ⟨c6, hf⟩ | ⟨c6, hf⟩
      · skip
        replace hf := jbind hf
        obtain ⟨v36, e7, hf⟩ := hf
        replace e7 := (jcv_o e7).2
        have r7 := T_isWord (w := 3) H (by decide) R e7
        replace hf := jite hf
        rcases hf with ⟨c8, hf⟩ | ⟨c8, hf⟩
        · skip
          replace hf := jbind hf
          obtain ⟨v47, e9, hf⟩ := hf
          replace e9 := (jcv_o e9).2
          have r9 := T_isWord (w := 4) H (by decide) R e9
          replace hf := jite hf
          rcases hf with ⟨c10, hf⟩ | ⟨c10, hf⟩
          · skip
            replace hf := jbind hf
            obtain ⟨v58, e11, hf⟩ := hf
            replace e11 := (jcv_o e11).2
            have r11 := T_isWord (w := 5) H (by decide) R e11
            replace hf := jite hf
            rcases hf with ⟨c12, hf⟩ | ⟨c12, hf⟩
            · skip
              replace hf := jbind hf
              obtain ⟨v69, e13, hf⟩ := hf
              replace e13 := (jcv_o e13).2
              have r13 := T_isWord (w := 6) H (by decide) R e13
              replace hf := jite hf
              rcases hf with ⟨c14, hf⟩ | ⟨c14, hf⟩
              · skip
                cases hf
                -- leaf 0000000: (- 1 : Int32)
                refine Or.inr ⟨rfl, fun w hw z => ?_⟩
                rcases (by omega : w = 0 ∨ w = 1 ∨ w = 2 ∨ w = 3 ∨ w = 4 ∨ w = 5 ∨ w = 6) with y | y | y | y | y | y | y <;> subst y
                · exact absurd ((r1.2.mpr z).symm.trans c2) (by decide)
                · exact absurd ((r3.2.mpr z).symm.trans c4) (by decide)
                · exact absurd ((r5.2.mpr z).symm.trans c6) (by decide)
                · exact absurd ((r7.2.mpr z).symm.trans c8) (by decide)
                · exact absurd ((r9.2.mpr z).symm.trans c10) (by decide)
                · exact absurd ((r11.2.mpr z).symm.trans c12) (by decide)
                · exact absurd ((r13.2.mpr z).symm.trans c14) (by decide)
              · skip
                cases hf
                -- leaf 0000001: (6 : Int32)
                have t := r13.2.mp (r13.1.resolve_left c14)
                exact Or.inl ⟨t.symm, 6, by decide, t⟩
            · skip
              cases hf
              -- leaf 000001: (5 : Int32)
              have t := r11.2.mp (r11.1.resolve_left c12)
              exact Or.inl ⟨t.symm, 5, by decide, t⟩
          · skip
            cases hf
            -- leaf 00001: (4 : Int32)
            have t := r9.2.mp (r9.1.resolve_left c10)
            exact Or.inl ⟨t.symm, 4, by decide, t⟩
        · skip
          cases hf
          -- leaf 0001: (3 : Int32)
          have t := r7.2.mp (r7.1.resolve_left c8)
          exact Or.inl ⟨t.symm, 3, by decide, t⟩
      · skip
        cases hf
        -- leaf 001: (2 : Int32)
        have t := r5.2.mp (r5.1.resolve_left c6)
        exact Or.inl ⟨t.symm, 2, by decide, t⟩
    · skip
      cases hf
      -- leaf 01: (1 : Int32)
      have t := r3.2.mp (r3.1.resolve_left c4)
      exact Or.inl ⟨t.symm, 1, by decide, t⟩
  · skip
    cases hf
    -- leaf 1: (0 : Int32)
    have t := r1.2.mp (r1.1.resolve_left c2)
    exact Or.inl ⟨t.symm, 0, by decide, t⟩
theorem E_X12_readPart_61 {b : Nat → Int32} {L : Nat} {m : Nat} {st : Nat → Nat} {k : Nat} {W : jWd} {s : Nat} {dp : Nat} {n : Nat} {x2 : Int32} {sa0 : Nat} {s1 : Int32} {s2 : Int32} {h : jH} {q : Int32 × jH} (R : rr (oc h) sa0 b L st m k W s dp) (hs : s + 1 ≤ k) (hf : F_X12_readPart_61 n x2 sa0 s1 s2 h = some q) : (x2.toInt < 0 → q.1 = 0) ∧ (0 ≤ x2.toInt → q.1 = 1) ∧ rr (oc q.2) sa0 b L st m k (emW W s [(s1, s2)]) (s + 1) dp ∧ frQ sa0 (oc h) (oc q.2) ∧ q.2.1 = h.1 := by
  unfold F_X12_readPart_61 at hf
  replace hf := jbind hf
  obtain ⟨h61, e1, hf⟩ := hf
  replace e1 := (jcv_o e1).2
  obtain ⟨R1, f1, z1⟩ := rr_em R hs e1
  replace hf := jite hf
  rcases hf with ⟨c2, hf⟩ | ⟨c2, hf⟩
  · skip
    cases hf
    -- leaf 0: ((0 : Int32), h61)
    rw [Int32.lt_iff_toInt_lt] at c2
    have l0 : (0 : Int32).toInt = 0 := rfl
    exact ⟨fun _ => rfl, fun z => by omega, R1, f1, z1⟩
  · skip
    cases hf
    -- leaf 1: ((1 : Int32), h61)
    rw [Int32.lt_iff_toInt_lt] at c2
    have l0 : (0 : Int32).toInt = 0 := rfl
    exact ⟨fun z => by omega, fun _ => rfl, R1, f1, z1⟩
theorem E_X12_readPart_40 {b : Nat → Int32} {L : Nat} {m : Nat} {st : Nat → Nat} {k : Nat} {W : jWd} {s : Nat} {dp : Nat} {n : Nat} {a0 : Nat} {x1 : Int32} {s0 : Int32} {h : jH} {q : Int32 × jH} (R : rr (oc h) a0 b L st m k W s dp) (hs : s + 1 ≤ k) (hf : F_X12_readPart_40 n a0 x1 s0 h = some q) : (s0.toInt < 0 → q.1 = 0) ∧ (0 ≤ s0.toInt → q.1 = 1) ∧ rr (oc q.2) a0 b L st m k (emW W s [if x1 = 0 then (s0, 0) else (11, s0)]) (s + 1) dp ∧ frQ a0 (oc h) (oc q.2) ∧ q.2.1 = h.1 := by
  unfold F_X12_readPart_40 at hf
  replace hf := jite hf
  rcases hf with ⟨c1, hf⟩ | ⟨c1, hf⟩
  · skip
    replace hf := jite hf
    rcases hf with ⟨c2, hf⟩ | ⟨c2, hf⟩
    · skip
      -- leaf 00: F_X12_readPart_61 n s0 a0 s0 (0 : Int32) h
      rw [if_pos c1]
      exact E_X12_readPart_61 R hs hf
    · skip
      -- leaf 01: F_X12_readPart_61 n s0 a0 s0 s0 h
      exact absurd c1 c2
  · skip
    replace hf := jite hf
    rcases hf with ⟨c3, hf⟩ | ⟨c3, hf⟩
    · skip
      -- leaf 10: F_X12_readPart_61 n s0 a0 (11 : Int32) (0 : Int32) h
      exact absurd c3 c1
    · skip
      -- leaf 11: F_X12_readPart_61 n s0 a0 (11 : Int32) s0 h
      rw [if_neg c1]
      exact E_X12_readPart_61 R hs hf
theorem E_X12_readPart_20 {b : Nat → Int32} {L : Nat} {m : Nat} {T : Nat → Int32 × Int32} {st : Nat → Nat} {en : Nat → Nat} {k : Nat} {W : jWd} {s : Nat} {dp : Nat} {n : Nat} {a0 : Nat} {s0 : Int32} {h : jH} {q : Int32 × jH} (H : tkE b L m T st en) (hk : k + 1 ≤ m → True) (h01 : s0 = 0 ∨ s0 = 1) (rW : wl (oc h) a0 = W ∧ oi (oc h) a0 16 = nI s ∧ oi (oc h) a0 13 = nI dp ∧ s ≤ k ∧ k ≤ m ∧ m ≤ 400) (R0 : s0 = 0 → rw2 (oc h) a0 b L st k ∧ bIn b L 97 122 (st k)) (R1 : s0 = 1 → rc (oc h) a0 b L st k ∧ ¬ bIn b L 97 122 (st k)) (hf : F_X12_readPart_20 n a0 s0 h = some q) : lwR a0 b L st m h q.1 q.2 W s dp (rdPart T k) := by
  unfold F_X12_readPart_20 at hf
  replace hf := jite hf
  rcases hf with ⟨c1, hf⟩ | ⟨c1, hf⟩
  · skip
    replace hf := jbind hf
    obtain ⟨v37, e2, hf⟩ := hf
    replace e2 := (jcv_o e2).2
    obtain ⟨Rw, lt⟩ := R0 c1
    have r2 := E_X12_wordOfPart H Rw e2
    -- leaf 0: F_X12_readPart_40 n a0 s0 v37 h
    obtain ⟨w1, w2, w3, w4, w5, w6⟩ := rW
    obtain ⟨n3, km⟩ := tk_let H lt
    rcases r2 with ⟨v2, w, hw, tw⟩ | ⟨v2, nw⟩
    · have R9 : rr (oc h) a0 b L st m (k + 1) W s dp := ⟨rw_n H (by omega) Rw tw, w1, w2, w3, by omega, km, w6⟩
      have t0 : (T k).1.toInt = (w : Int) := by rw [tw, nI_toInt (by omega)]
      obtain ⟨a1, a2, a3, a4, a5⟩ := E_X12_readPart_40 R9 (by omega) hf
      rw [if_pos c1, v2] at a3
      refine lwR_l (k := k + 1) (l := [((T k).1, 0)]) ?_ (a2 (by rw [v2]; omega)) a3 a4 a5
      unfold rdPart
      rw [if_pos (by omega)]
    · have e9 : rdPart T k = .inr k := by
        unfold rdPart
        rw [if_neg (fun z => nw (T k).1.toInt.toNat (by omega) (nI_k (by omega))), if_neg (fun z => n3 z.1)]
      obtain ⟨e, Rb, rw3, g9⟩ := Rw
      have s9 : s + 1 ≤ m + 1 := by omega
      rw [v2] at hf
      unfold F_X12_readPart_40 at hf
      rw [if_pos c1, if_pos c1] at hf
      unfold F_X12_readPart_61 at hf
      obtain ⟨h61, e6, hf⟩ := jbind hf
      obtain ⟨c4, c5, c6, c7, c8⟩ := E_X12_emits Rb.1 w1 w2 (by omega) (jcv_o e6).2
      rw [if_pos (by decide)] at hf
      cases hf
      exact lwR_r e9 rfl ((frM_oi c6 (by decide) (by decide)).trans g9) c8 c7
  · skip
    replace hf := jbind hf
    obtain ⟨q30, e3, hf⟩ := hf
    replace e3 := (jcv_o e3).2
    obtain ⟨Rc, nl⟩ := R1 (h01.resolve_left c1)
    obtain ⟨d3, M3, g3, f3, z3⟩ := T_number H (by decide) Rc e3
    -- leaf 1: F_X12_readPart_40 n a0 s0 q30.1 q30.2
    obtain ⟨w1, w2, w3, w4, w5, w6⟩ := rW
    have nw : ¬ (0 ≤ (T k).1.toInt ∧ (T k).1.toInt ≤ 6) := fun z => tk_nlet H (w := (T k).1.toInt.toNat) (by omega) nl (nI_k (by omega))
    have a1 : wl (oc q30.2) a0 = W := (wl_f f3 (by decide)).trans w1
    have a2 : oi (oc q30.2) a0 16 = nI s := (frM_oi f3 (by decide) (by decide)).trans w2
    rcases d3 with ⟨v3, y3, R3⟩ | ⟨v3, y3⟩
    · have km := tk_n3 H y3.1
      have R9 : rr (oc q30.2) a0 b L st m (k + 1) W s dp := ⟨R3, a1, a2, (frM_oi f3 (by decide) (by decide)).trans w3, by omega, km, w6⟩
      have y4 := y3.2.1
      rw [Int32.le_iff_toInt_le, ← v3] at y4
      obtain ⟨b1, b2, b3, b4, b5⟩ := E_X12_readPart_40 R9 (by omega) hf
      rw [if_neg c1, v3] at b3
      refine lwR_l (k := k + 1) (l := [(11, (T k).2)]) ?_ (b2 y4) b3 (frQ_tr (fr2 f3) b4) (b5.trans z3)
      unfold rdPart
      rw [if_neg nw, if_pos y3]
    · have e9 : rdPart T k = .inr k := by
        unfold rdPart
        rw [if_neg nw, if_neg y3]
      rw [v3] at hf
      unfold F_X12_readPart_40 at hf
      rw [if_neg c1, if_neg c1] at hf
      unfold F_X12_readPart_61 at hf
      obtain ⟨h61, e6, hf⟩ := jbind hf
      obtain ⟨c4, c5, c6, c7, c8⟩ := E_X12_emits M3 a1 a2 (by omega) (jcv_o e6).2
      rw [if_pos (by decide)] at hf
      cases hf
      exact lwR_r e9 rfl ((frM_oi c6 (by decide) (by decide)).trans g3) (frQ_tr (fr2 f3) c8) (c7.trans z3)
theorem E_X12_readPart {b : Nat → Int32} {L : Nat} {m : Nat} {T : Nat → Int32 × Int32} {st : Nat → Nat} {en : Nat → Nat} {k : Nat} {W : jWd} {s : Nat} {dp : Nat} {n : Nat} {a0 : Nat} {h : jH} {q : Int32 × jH} (H : tkE b L m T st en) (R : rr (oc h) a0 b L st m k W s dp) (hf : F_X12_readPart n a0 h = some q) : lwR a0 b L st m h q.1 q.2 W s dp (rdPart T k) := by
  unfold F_X12_readPart at hf
  replace hf := jbind hf
  obtain ⟨h1, e1, hf⟩ := hf
  replace e1 := (jcv_o e1).2
  obtain ⟨Rw, f1, z1⟩ := T_letters H R.1 e1
  replace hf := jbind hf
  obtain ⟨v5, e2, hf⟩ := hf
  have r2 := oc_gI e2
  subst r2
  clear e2
  replace hf := jbind hf
  obtain ⟨v9, e3, hf⟩ := hf
  have r3 := oc_gI e3
  subst r3
  clear e3
  replace hf := jite hf
  rcases hf with ⟨c4, hf⟩ | ⟨c4, hf⟩
  · skip
    -- leaf 0: F_X12_readPart_20 n a0 (1 : Int32) h1
    have hL := H.1
    obtain ⟨e, Rb, r9, g9⟩ := id Rw
    have sl := tk_L H k
    have el := Rb.2.2.2.2.2
    rw [Rb.2.2.2.2.1, g9, nI_eq (by omega) (by omega)] at c4
    have rW : wl (oc h1) a0 = W ∧ oi (oc h1) a0 16 = nI s ∧ oi (oc h1) a0 13 = nI dp ∧ s ≤ k ∧ k ≤ m ∧ m ≤ 400 := ⟨(wl_f f1 (by decide)).trans R.2.1, (frM_oi f1 (by decide) (by decide)).trans R.2.2.1, (frM_oi f1 (by decide) (by decide)).trans R.2.2.2.1, R.2.2.2.2⟩
    subst c4
    obtain ⟨a1, a2, a3, a4⟩ := E_X12_readPart_20 (W := W) (s := s) (dp := dp) H (fun _ => trivial) (Or.inr rfl) rW (fun z => absurd z (by decide)) (fun _ => ⟨⟨st k, Rb, cur_0 k⟩, r9.2.2⟩) hf
    exact ⟨a1, a2, frQ_tr (fr2 f1) a3, a4.trans z1⟩
  · skip
    -- leaf 1: F_X12_readPart_20 n a0 (0 : Int32) h1
    have hL := H.1
    obtain ⟨e, Rb, r9, g9⟩ := id Rw
    have sl := tk_L H k
    have el := Rb.2.2.2.2.2
    rw [Rb.2.2.2.2.1, g9, nI_eq (by omega) (by omega)] at c4
    have rW : wl (oc h1) a0 = W ∧ oi (oc h1) a0 16 = nI s ∧ oi (oc h1) a0 13 = nI dp ∧ s ≤ k ∧ k ≤ m ∧ m ≤ 400 := ⟨(wl_f f1 (by decide)).trans R.2.1, (frM_oi f1 (by decide) (by decide)).trans R.2.2.1, (frM_oi f1 (by decide) (by decide)).trans R.2.2.2.1, R.2.2.2.2⟩
    have lt : bIn b L 97 122 (st k) := r9.2.1 (st k) (Nat.le_refl _) (by have := r9.1; omega)
    obtain ⟨a1, a2, a3, a4⟩ := E_X12_readPart_20 (W := W) (s := s) (dp := dp) H (fun _ => trivial) (Or.inl rfl) rW (fun _ => ⟨Rw, lt⟩) (fun z => absurd z (by decide)) hf
    exact ⟨a1, a2, frQ_tr (fr2 f1) a3, a4.trans z1⟩
