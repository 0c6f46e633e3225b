/-! acts of the class -/
/-- x: the class, its rod tells W, the next place of its acts is nx -/
def cPre (x nx : Nat) (W : jWd) (h : jH) : Prop :=
  (oc h x 1 = .ref (x + 6) ∧ oc h x 3 = .ref (x + 19) ∧ oc h (x + 19) 0 = .ref (x + 20) ∧ oi (oc h) (x + 19) 1 = nI nx ∧ nx ≤ 11 ∧ rodE (oc h) (x + 6) W ∧ wOK W) ∧
  (∀ b : Nat, oc h (x + 20) nx = .ref b → rodS (oc h) b ∧ x + 52 < b) ∧ x + 52 < h.1 ∧ (0 ≤ (oi (oc h) (x + 19) 2).toInt ∧ (oi (oc h) (x + 19) 2).toInt ≤ 12)
/-- b is the rod that remembers W -/
def cRm (x nx b : Nat) (W : jWd) (h q : jH) : Prop :=
  ((oc h (x + 20) nx = .ref b ∧ q.1 = h.1) ∨ (oc h (x + 20) nx = .null ∧ b = h.1 ∧ q.1 = h.1 + 7)) ∧ oc q (x + 20) nx = .ref b ∧ rodE (oc q) b W ∧ oi (oc q) (x + 19) 1 = nI ((nx + 1) % 12) ∧ (oi (oc q) (x + 19) 2).toInt = (if (oi (oc h) (x + 19) 2).toInt < 12 then (oi (oc h) (x + 19) 2).toInt + 1 else 12)
/-- the act before is remembered in the rod b, the class's rod tells W2 -/
def cAct (x nx : Nat) (W W2 : jWd) (h q : jH) : Prop :=
  rodE (oc q) (x + 6) W2 ∧ ∃ b : Nat, cRm x nx b W h q ∧ (∀ a k, a < h.1 → ¬ (b ≤ a ∧ a ≤ b + 6) → ¬ (a = x + 19 ∧ (k = 1 ∨ k = 2)) → ¬ (a = x + 20 ∧ k = nx) → ¬ (x + 6 ≤ a ∧ a ≤ x + 12) → a ≠ x + 18 → ¬ (a = x + 13 ∧ k = 5) → oc q a k = oc h a k)
theorem cRm_lb {x nx b : Nat} {W : jWd} {h q : jH} (hz : x + 52 < h.1) (hb : ∀ b : Nat, oc h (x + 20) nx = .ref b → rodS (oc h) b ∧ x + 52 < b) (A : cRm x nx b W h q) : x + 52 < b := by
  rcases A.1 with ⟨e, -⟩ | ⟨-, e, -⟩
  · exact (hb b e).2
  · rw [e]; exact hz
theorem c_rem {n x nx : Nat} {W : jWd} {h q : jH} (C : cPre x nx W h) (hf : F_X0_remember n (x + 19) (x + 6) h = some q) : oc q x 1 = .ref (x + 6) ∧ rodE (oc q) (x + 6) W ∧ cAct x nx W W h q := by
  obtain ⟨⟨x1, x3, sA, hx, hn, R, K⟩, hb, hz, sz⟩ := C
  obtain ⟨b, A, c5⟩ : ∃ b : Nat, cRm x nx b W h q ∧ (∀ a k, a < h.1 → ¬ (b ≤ a ∧ a ≤ b + 6) → ¬ (a = x + 19 ∧ (k = 1 ∨ k = 2)) → ¬ (a = x + 20 ∧ k = nx) → oc q a k = oc h a k) := by
    obtain ⟨b, B, c1, c2, c3, c4, c5⟩ := E_X0_remember (h := h) sA hx hn R K (fun b e => ⟨(hb b e).1, Or.inr (by have := (hb b e).2; omega), Or.inr (by have := (hb b e).2; omega)⟩) (by omega) (by omega) (by omega) sz hf
    exact ⟨b, ⟨B, c1, c2, c3, c4⟩, c5⟩
  have lb := cRm_lb hz hb A
  have y1 : oc q x 1 = .ref (x + 6) := (c5 _ _ (by omega) (by omega) (by omega) (by omega)).trans x1
  have y2 : rodE (oc q) (x + 6) W := rodE_fr R (fun a k h1 h2 => c5 _ _ (by omega) (by omega) (by omega) (by omega))
  exact ⟨y1, y2, y2, b, A, fun a k z1 z2 z3 z4 _ _ _ => c5 a k z1 z2 z3 z4⟩
/-- what the act does to the rod after that -/
theorem c_mkL {x nx : Nat} {W W2 : jWd} {h p q : jH} (hz : x + 52 < h.1) (hb : ∀ b : Nat, oc h (x + 20) nx = .ref b → rodS (oc h) b ∧ x + 52 < b) (A : cAct x nx W W h p) (f : frRL (x + 6) (x + 13) (oc p) (oc q)) (R : rodE (oc q) (x + 6) W2) (z : q.1 = p.1) : cAct x nx W W2 h q := by
  obtain ⟨-, b, A, c5⟩ := A
  have lb := cRm_lb hz hb A
  obtain ⟨B, c1, c2, c3, c4⟩ := A
  have o1 : ∀ k, oi (oc q) (x + 19) k = oi (oc p) (x + 19) k := fun k => by unfold oi; rw [f _ _ (by omega) (by omega) (by omega)]
  refine ⟨R, b, ⟨?_, (f _ _ (by omega) (by omega) (by omega)).trans c1, rodE_fr c2 (fun a k h1 h2 => f _ _ (by omega) (by omega) (by omega)), (o1 1).trans c3, by rw [o1 2]; exact c4⟩, fun a k z1 z2 z3 z4 z5 z6 z7 => (f _ _ (by omega) (by omega) (by omega)).trans (c5 a k z1 z2 z3 z4 z5 z6 z7)⟩
  rcases B with ⟨e, y⟩ | ⟨e, y1, y2⟩
  · exact Or.inl ⟨e, z.trans y⟩
  · exact Or.inr ⟨e, y1, z.trans y2⟩
theorem c_mk {x nx : Nat} {W W2 : jWd} {h p q : jH} (hz : x + 52 < h.1) (hb : ∀ b : Nat, oc h (x + 20) nx = .ref b → rodS (oc h) b ∧ x + 52 < b) (A : cAct x nx W W h p) (f : frR (x + 6) (oc p) (oc q)) (R : rodE (oc q) (x + 6) W2) (z : q.1 = p.1) : cAct x nx W W2 h q := c_mkL hz hb A (frRL_R f) R z
theorem c_keep {x nx : Nat} {W W2 : jWd} {h q : jH} (hz : x + 52 < h.1) (hb : ∀ b : Nat, oc h (x + 20) nx = .ref b → rodS (oc h) b ∧ x + 52 < b) (A : cAct x nx W W2 h q) : ∀ a k, a ≤ x + 52 → ¬ (a = x + 19 ∧ (k = 1 ∨ k = 2)) → ¬ (a = x + 20 ∧ k = nx) → ¬ (x + 6 ≤ a ∧ a ≤ x + 12) → a ≠ x + 18 → ¬ (a = x + 13 ∧ k = 5) → oc q a k = oc h a k := by
  obtain ⟨-, b, A, c5⟩ := A
  have lb := cRm_lb hz hb A
  exact fun a k z z2 z3 z4 z5 z6 => c5 a k (by omega) (by omega) z2 z3 z4 z5 z6
theorem E_X11_requireRing {W : jWd} {nx : Nat} {n : Nat} {a0 : Nat} {x1 : Int32} {h : jH} {q : jR × jH} (C : cPre a0 nx W h) (hf : F_X11_requireRing n a0 x1 h = some q) : ((0 ≤ x1.toInt ∧ x1.toInt < (W 0).toInt) ∧ q.1 = .inl 0 ∧ q.2 = h) ∨ (¬ (0 ≤ x1.toInt ∧ x1.toInt < (W 0).toInt) ∧ q.1 = .inr 2 ∧ q.2 = h) := by
  unfold F_X11_requireRing at hf
  obtain ⟨⟨X1, X3, sA, hx, hn, R, K⟩, hb, hz, sz⟩ := id C
  obtain ⟨⟨s0, s1, s2, s3, s4, s5⟩, ⟨u5, u10, u11, u12, u13, u14, u15, u16, u17⟩, RB, RC, RL⟩ := id R
  have l0 : (0 : Int32).toInt = 0 := rfl
  replace hf := jite hf
  rcases hf with ⟨c1, hf⟩ | ⟨c1, hf⟩
  · skip
    cases hf
    -- leaf 0: (.inr 2, h)
    rw [Int32.lt_iff_toInt_lt, l0] at c1
    exact Or.inr ⟨by omega, rfl, rfl⟩
  · skip
    replace hf := jbind hf
    obtain ⟨p6, e2, hf⟩ := hf
    have r2 := oc_gR e2
    rw [X1] at r2
    cases r2
    clear e2
    replace hf := jbind hf
    obtain ⟨v9, e3, hf⟩ := hf
    have r3 := oc_gI e3
    subst r3
    clear e3
    replace hf := jite hf
    rcases hf with ⟨c4, hf⟩ | ⟨c4, hf⟩
    · skip
      cases hf
      -- leaf 10: (.inl 0, h)
      rw [Int32.lt_iff_toInt_lt, l0] at c1
      rw [u5, Int32.lt_iff_toInt_lt] at c4
      exact Or.inl ⟨by omega, rfl, rfl⟩
    · skip
      cases hf
      -- leaf 11: (.inr 2, h)
      rw [u5, Int32.lt_iff_toInt_lt] at c4
      exact Or.inr ⟨by omega, rfl, rfl⟩
theorem E_X11_requirePlace {n : Nat} {a0 : Nat} {x1 : Int32} {h : jH} {q : jR × jH} (hf : F_X11_requirePlace n a0 x1 h = some q) : ((0 ≤ x1.toInt ∧ x1.toInt ≤ 31) ∧ q.1 = .inl 0 ∧ q.2 = h) ∨ (¬ (0 ≤ x1.toInt ∧ x1.toInt ≤ 31) ∧ q.1 = .inr 2 ∧ q.2 = h) := by
  unfold F_X11_requirePlace at hf
  have l0 : (0 : Int32).toInt = 0 := rfl
  have l31 : (31 : Int32).toInt = 31 := rfl
  replace hf := jite hf
  rcases hf with ⟨c1, hf⟩ | ⟨c1, hf⟩
  · skip
    cases hf
    -- leaf 0: (.inr 2, h)
    rw [Int32.lt_iff_toInt_lt, l0] at c1
    exact Or.inr ⟨by omega, rfl, rfl⟩
  · skip
    replace hf := jite hf
    rcases hf with ⟨c2, hf⟩ | ⟨c2, hf⟩
    · skip
      cases hf
      -- leaf 10: (.inl 0, h)
      rw [Int32.lt_iff_toInt_lt, l0] at c1
      rw [Int32.le_iff_toInt_le, l31] at c2
      exact Or.inl ⟨by omega, rfl, rfl⟩
    · skip
      cases hf
      -- leaf 11: (.inr 2, h)
      rw [Int32.le_iff_toInt_le, l31] at c2
      exact Or.inr ⟨by omega, rfl, rfl⟩
theorem E_X11_requireNumber {n : Nat} {a0 : Nat} {x1 : Int32} {x2 : Int32} {x3 : Int32} {h : jH} {q : jR × jH} (hf : F_X11_requireNumber n a0 x1 x2 x3 h = some q) : ((x2.toInt ≤ x1.toInt ∧ x1.toInt ≤ x3.toInt) ∧ q.1 = .inl 0 ∧ q.2 = h) ∨ (¬ (x2.toInt ≤ x1.toInt ∧ x1.toInt ≤ x3.toInt) ∧ q.1 = .inr 0 ∧ q.2 = h) := by
  unfold F_X11_requireNumber at hf
  replace hf := jite hf
  rcases hf with ⟨c1, hf⟩ | ⟨c1, hf⟩
  · skip
    cases hf
    -- leaf 0: (.inr 0, h)
    rw [Int32.lt_iff_toInt_lt] at c1
    exact Or.inr ⟨by omega, rfl, rfl⟩
  · skip
    replace hf := jite hf
    rcases hf with ⟨c2, hf⟩ | ⟨c2, hf⟩
    · skip
      cases hf
      -- leaf 10: (.inl 0, h)
      rw [Int32.lt_iff_toInt_lt] at c1
      rw [Int32.le_iff_toInt_le] at c2
      exact Or.inl ⟨by omega, rfl, rfl⟩
    · skip
      cases hf
      -- leaf 11: (.inr 0, h)
      rw [Int32.le_iff_toInt_le] at c2
      exact Or.inr ⟨by omega, rfl, rfl⟩
theorem E_X11_let {W : jWd} {nx : Nat} {n : Nat} {a0 : Nat} {x1 : Int32} {x2 : Int32} {h : jH} {q : jR × jH} (C : cPre a0 nx W h) (hf : F_X11_let n a0 x1 x2 h = some q) : (¬ (0 ≤ x1.toInt ∧ x1.toInt < (W 0).toInt) ∧ q.1 = .inr 2 ∧ q.2 = h) ∨ ∃ i : Nat, i < 8 ∧ x1 = nI i ∧ (i : Int) < (W 0).toInt ∧ ((¬ (0 ≤ x2.toInt ∧ x2.toInt ≤ 9) ∧ q.1 = .inr 0 ∧ q.2 = h) ∨ ((0 ≤ x2.toInt ∧ x2.toInt ≤ 9) ∧ q.1 = .inl (W (16 + 8 * i)) ∧ cAct a0 nx W (upd W (16 + 8 * i) x2) h q.2)) := by
  unfold F_X11_let at hf
  obtain ⟨⟨X1, X3, sA, hx, hn, R, K⟩, hb, hz, sz⟩ := id C
  obtain ⟨⟨s0, s1, s2, s3, s4, s5⟩, ⟨u5, u10, u11, u12, u13, u14, u15, u16, u17⟩, RB, RC, RL⟩ := id R
  replace hf := jbind hf
  obtain ⟨q2, e1, hf⟩ := hf
  replace e1 := (jcv_o e1).2
  have r1 := E_X11_requireRing C e1
  obtain ⟨wq2, h2⟩ := q2
  have hqq : h2 = h := r1.elim (fun y => y.2.2) (fun y => y.2.2)
  subst hqq
  rcases wq2 with r2 | xq2
  · skip
    replace hf := (jthen_l (q := (.inl r2, h2)) rfl).symm.trans hf
    dsimp only at hf
    replace hf := jbind hf
    obtain ⟨q10, e2, hf⟩ := hf
    replace e2 := (jcv_o e2).2
    have r2 := E_X11_requireNumber e2
    obtain ⟨wq10, h10⟩ := q10
    have hqq : h10 = h2 := r2.elim (fun y => y.2.2) (fun y => y.2.2)
    subst hqq
    rcases wq10 with r10 | xq10
    · skip
      replace hf := (jthen_l (q := (.inl r10, h10)) rfl).symm.trans hf
      dsimp only at hf
      replace hf := jbind hf
      obtain ⟨p14, e3, hf⟩ := hf
      have r3 := oc_gR e3
      rw [X3] at r3
      cases r3
      clear e3
      replace hf := jbind hf
      obtain ⟨p18, e4, hf⟩ := hf
      have r4 := oc_gR e4
      rw [X1] at r4
      cases r4
      clear e4
      replace hf := jbind hf
      obtain ⟨h21, e5, hf⟩ := hf
      replace e5 := (jcv_o e5).2
      obtain ⟨Y1, RR, AA⟩ := c_rem C e5
      obtain ⟨⟨t0, t1, t2, t3, t4, t5⟩, ⟨g5, g10, g11, g12, g13, g14, g15, g16, g17⟩, QB, QC, QL⟩ := id RR
      replace hf := jbind hf
      obtain ⟨p25, e6, hf⟩ := hf
      have r6 := oc_gR e6
      rw [Y1] at r6
      cases r6
      clear e6
      replace hf := jbind hf
      obtain ⟨p28, e7, hf⟩ := hf
      have r7 := oc_gR e7
      rw [t3] at r7
      cases r7
      clear e7
      replace hf := jbind hf
      obtain ⟨v32, e8, hf⟩ := hf
      obtain ⟨r8, y8⟩ := oc_al e8
      subst r8
      clear e8
      replace hf := jbind hf
      obtain ⟨p35, e9, hf⟩ := hf
      have r9 := oc_gR e9
      rw [Y1] at r9
      cases r9
      clear e9
      replace hf := jbind hf
      obtain ⟨p38, e10, hf⟩ := hf
      have r10 := oc_gR e10
      rw [t3] at r10
      cases r10
      clear e10
      replace hf := jbind hf
      obtain ⟨h43, e11, hf⟩ := hf
      obtain ⟨o11, z11, y11⟩ := oc_as e11
      rw [jnar0] at o11
      clear e11
      cases hf
      -- leaf : (.inl v32, h43)
      have P : (0 ≤ x1.toInt ∧ x1.toInt < (W 0).toInt) := by
        rcases r1 with ⟨P, -, -⟩ | ⟨-, y, -⟩
        · exact P
        · cases y
      obtain ⟨i, h8, hi, hi0⟩ := i_ring K P
      refine Or.inr ⟨i, h8, hi, hi0, ?_⟩
      have P2 : (0 ≤ x2.toInt ∧ x2.toInt ≤ 9) := by
        rcases r2 with ⟨P, -, -⟩ | ⟨-, y, -⟩
        · exact P
        · cases y
      rw [hi, nI_cl (by omega)] at o11
      have f7 : frR (a0 + 6) (oc h21) (oc h43) := by rw [o11]; exact frR_u2 (by omega)
      have R7 : rodE (oc h43) (a0 + 6) (upd W (16 + 8 * i) x2) := by rw [o11]; exact rodE_ln RR h8
      exact Or.inr ⟨P2, by rw [hi, nI_cl (by omega), (QB i hi0).2.2.2.2.2.1], c_mk hz hb AA f7 R7 z11⟩
    · skip
      replace hf := (jthen_r (q := (.inr xq10, h10)) rfl).symm.trans hf
      cases hf
      have P : (0 ≤ x1.toInt ∧ x1.toInt < (W 0).toInt) := by
        rcases r1 with ⟨P, -, -⟩ | ⟨-, y, -⟩
        · exact P
        · cases y
      obtain ⟨i, h8, hi, hi0⟩ := i_ring K P
      refine Or.inr ⟨i, h8, hi, hi0, ?_⟩
      rcases r2 with ⟨-, y, -⟩ | ⟨P2, y, -⟩
      · cases y
      · exact Or.inl ⟨P2, y, rfl⟩
  · skip
    replace hf := (jthen_r (q := (.inr xq2, h2)) rfl).symm.trans hf
    cases hf
    rcases r1 with ⟨-, y, -⟩ | ⟨P, y, -⟩
    · cases y
    · exact Or.inl ⟨P, y, rfl⟩
