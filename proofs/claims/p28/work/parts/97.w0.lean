-- the steps of the law keep jInv
theorem t_z {Θ : Nat → jD} {Γ : Nat → Option Nat} {h : jH} {z : Nat} (w : jW Θ Γ h) (hz : h.1 ≤ z) : jW Θ Γ (z, h.2) := fun a c q => ⟨Nat.lt_of_lt_of_le (w a c q).1 hz, (w a c q).2⟩
theorem j00 : 0 ≤ (0 : Int32).toInt ∧ (0 : Int32).toInt ≤ 400 := by decide
theorem t_out {g : jGh} {Γ : Nat → Option Nat} {h : jH} {out : Nat} (w : jW (jKd g) Γ h) (to : Γ out = some 40) (v : Int64) : ∃ h2, jasl h out 0 v = some h2 ∧ jW (jKd g) Γ h2 := by
  have h2 := (w out 40 to).2
  have h3 : ∃ f : Nat → Int64, h.2 out = some (.inr (.inr (.inr (1, f)))) := h2
  obtain ⟨f, e1⟩ := h3
  refine ⟨jup h out (.inr (.inr (.inr (1, vp_updL f (0 : Int32).toNatClampNeg v)))), ?_, t_put w (fun c hc => ?_)⟩
  · unfold jasl
    rw [e1]
    dsimp only
    rw [if_pos (by decide)]
  · cases to.symm.trans hc
    exact okE_l
theorem t_f1 {out a1 : Nat} {Q : jH → Prop} (hq : ∀ h v, Q h → ∃ h2, jasl h out 0 v = some h2 ∧ Q h2) {q : jR × jH} (f : Int32 → Int64) {R : Int32 → Prop} (q2 : Q q.2) (hx : jXok [a1] R q.1) : ∃ r : Int32 × jH, (match q.1 with | .inl v => (jasl q.2 out 0 (f v)).bind fun h2 => some ((0 : Int32), h2) | .inr k => if k = a1 then some ((1 : Int32), q.2) else none) = some r ∧ Q r.2 := by
  obtain ⟨r, h⟩ := q
  cases r with
  | inl v =>
    obtain ⟨h2, e2, w2⟩ := hq h (f v) q2
    exact ⟨(0, h2), by show (jasl h out 0 (f v)).bind _ = _; rw [e2]; rfl, w2⟩
  | inr k =>
    have hk : k ∈ [a1] := hx
    have hk : k = a1 := by simpa using hk
    exact ⟨(1, h), if_pos hk, q2⟩
theorem t_f2 {out a1 a2 : Nat} {Q : jH → Prop} (hq : ∀ h v, Q h → ∃ h2, jasl h out 0 v = some h2 ∧ Q h2) {q : jR × jH} (f : Int32 → Int64) {R : Int32 → Prop} (q2 : Q q.2) (hx : jXok [a1, a2] R q.1) : ∃ r : Int32 × jH, (match q.1 with | .inl v => (jasl q.2 out 0 (f v)).bind fun h2 => some ((0 : Int32), h2) | .inr k => if k = a1 then some ((1 : Int32), q.2) else if k = a2 then some ((2 : Int32), q.2) else none) = some r ∧ Q r.2 := by
  obtain ⟨r, h⟩ := q
  cases r with
  | inl v =>
    obtain ⟨h2, e2, w2⟩ := hq h (f v) q2
    exact ⟨(0, h2), by show (jasl h out 0 (f v)).bind _ = _; rw [e2]; rfl, w2⟩
  | inr k =>
    have hk : k ∈ [a1, a2] := hx
    have hk : k = a1 ∨ k = a2 := by simpa using hk
    by_cases c : k = a1
    · exact ⟨(1, h), if_pos c, q2⟩
    · exact ⟨(2, h), (if_neg c).trans (if_pos (hk.resolve_left c)), q2⟩
theorem t_f3 {out a1 a2 a3 : Nat} {Q : jH → Prop} (hq : ∀ h v, Q h → ∃ h2, jasl h out 0 v = some h2 ∧ Q h2) {q : jR × jH} (f : Int32 → Int64) {R : Int32 → Prop} (q2 : Q q.2) (hx : jXok [a1, a2, a3] R q.1) : ∃ r : Int32 × jH, (match q.1 with | .inl v => (jasl q.2 out 0 (f v)).bind fun h2 => some ((0 : Int32), h2) | .inr k => if k = a1 then some ((1 : Int32), q.2) else if k = a2 then some ((2 : Int32), q.2) else if k = a3 then some ((3 : Int32), q.2) else none) = some r ∧ Q r.2 := by
  obtain ⟨r, h⟩ := q
  cases r with
  | inl v =>
    obtain ⟨h2, e2, w2⟩ := hq h (f v) q2
    exact ⟨(0, h2), by show (jasl h out 0 (f v)).bind _ = _; rw [e2]; rfl, w2⟩
  | inr k =>
    have hk : k ∈ [a1, a2, a3] := hx
    have hk : k = a1 ∨ k = a2 ∨ k = a3 := by simpa using hk
    by_cases c : k = a1
    · exact ⟨(1, h), if_pos c, q2⟩
    · have hk := hk.resolve_left c
      by_cases c2 : k = a2
      · exact ⟨(2, h), (if_neg c).trans (if_pos c2), q2⟩
      · exact ⟨(3, h), (if_neg c).trans ((if_neg c2).trans (if_pos (hk.resolve_left c2))), q2⟩
theorem St_0 {x m out : Nat} {a : Nat → Int32} {h : jH} (v : jInv x m out h) : SL_0 6000 x m out a h (jInv x m out) := by
  obtain ⟨g, Γ, hg, w, tx, tm, to, hu, h41, hl, hI⟩ := v
  unfold SL_0
  rw [t_cv w tx rfl]
  obtain ⟨r0, e0, p0⟩ := S_X11_feed (Nat.le_refl _) hg w tx hu
  obtain ⟨⟨B, w1⟩, q0⟩ := p0
  have hg1 : jgok (if 380 < g.1 then g.1 else g.1 + 20, B, g.2.2) := ⟨by obtain ⟨⟨y1, y2⟩, -⟩ := id hg; dsimp only; split <;> omega, hg.2⟩
  refine ⟨r0, e0, ?_⟩
  rw [t_cv w1 tm rfl]
  obtain ⟨r1, e1, p1⟩ := S_X12_feed (Nat.le_refl _) hg1 w1 tm hu
  obtain ⟨w2, q1⟩ := p1
  have hl9 : g.1 = g.2.2.1 := hl
  refine ⟨r1, e1, ?_⟩
  refine ⟨_, Γ, ?_, w2, tx, tm, to, hu, h41, ?_, ?_⟩
  · refine ⟨hg1.1, ?_⟩
    obtain ⟨-, y1, y2, y3⟩ := id hg
    refine ⟨?_, ?_, y3⟩ <;> (dsimp only; split <;> omega)
  · dsimp only
    rw [hl9]
  · exact hI
theorem St_1 {x m out : Nat} {a : Nat → Int32} {h : jH} (v : jInv x m out h) : SL_1 6000 x m out a h (jInv x m out) := by
  obtain ⟨g, Γ, hg, w, tx, tm, to, hu, h41, hl, hI⟩ := v
  unfold SL_1
  rw [t_cv w tx rfl]
  obtain ⟨r0, e0, p0⟩ := S_X11_end w tx hu
  obtain ⟨p0, q0⟩ := p0
  have hg1 : jgok (if 0 ≤ (a 1).toInt ∧ (a 1).toInt ≤ g.1 then (a 1).toInt else g.1, g.2) := ⟨by obtain ⟨⟨y1, y2⟩, -⟩ := id hg; dsimp only; split <;> omega, hg.2⟩
  refine ⟨r0, e0, ?_⟩
  rw [t_cv p0 tm rfl]
  obtain ⟨r1, e1, p1⟩ := S_X12_end p0 tm hu
  have hl9 : g.1 = g.2.2.1 := hl
  obtain ⟨p1, q1⟩ := p1
  refine ⟨r1, e1, ?_⟩
  refine ⟨_, Γ, ?_, p1, tx, tm, to, hu, h41, ?_, ?_⟩
  · refine ⟨hg1.1, ?_⟩
    obtain ⟨-, y1, y2, y3⟩ := id hg
    refine ⟨?_, ?_, y3⟩ <;> (dsimp only; split <;> omega)
  · dsimp only
    rw [hl9]
  · exact hI
theorem St_2 {x m out : Nat} {a : Nat → Int32} {h : jH} (v : jInv x m out h) : SL_2 6000 x m out a h (jInv x m out) := by
  obtain ⟨g, Γ, hg, w, tx, tm, to, hu, h41, hl, hI⟩ := v
  unfold SL_2
  obtain ⟨r0, e0, p0⟩ := S_X11_pole (Nat.le_refl _) hg w tx (fun a b p q => hu a b 10 (by decide) p q)
  obtain ⟨w1, hx⟩ := p0
  have hg1 : jgok ((0 : Int32).toInt, g.2) := ⟨j00, hg.2⟩
  obtain ⟨r9, e9, w9⟩ := t_f2 (Q := fun h => jW (jKd ((0 : Int32).toInt, g.2)) Γ h) (out := out) (fun h v w => t_out w to v) (q := r0) (fun v => v.toInt64) w1 hx
  refine ⟨r9, ?_, fun z0 hz => ?_⟩
  · unfold FL_pole
    rw [t_cv w tx rfl, e0]
    exact e9
  have wz := t_z w9 hz
  rw [t_cv wz tm rfl]
  obtain ⟨r1, e1, p1⟩ := S_X12_pole (Nat.le_refl _) hg1 wz tm hu
  refine ⟨r1, e1, ?_⟩
  obtain ⟨E2, w2⟩ := p1
  refine ⟨_, Γ, ?_, w2, tx, tm, to, hu, h41, ?_, ?_⟩
  · exact ⟨j00, j00.1, j00.2, hg.2.2.2⟩
  · exact rfl
  · exact hI
theorem St_3 {x m out : Nat} {a : Nat → Int32} {h : jH} (v : jInv x m out h) : SL_3 6000 x m out a h (jInv x m out) := by
  obtain ⟨g, Γ, hg, w, tx, tm, to, hu, h41, hl, hI⟩ := v
  unfold SL_3
  obtain ⟨r0, e0, p0⟩ := S_X11_law (Nat.le_refl _) hg w tx (fun a b p q => hu a b 10 (by decide) p q)
  obtain ⟨w1, hx⟩ := p0
  have hg1 : jgok ((0 : Int32).toInt, g.2) := ⟨j00, hg.2⟩
  obtain ⟨r9, e9, w9⟩ := t_f1 (Q := fun h => jW (jKd ((0 : Int32).toInt, g.2)) Γ h) (out := out) (fun h v w => t_out w to v) (q := r0) (fun v => v.toInt64) w1 hx
  refine ⟨r9, ?_, fun z0 hz => ?_⟩
  · unfold FL_law
    rw [t_cv w tx rfl, e0]
    exact e9
  have wz := t_z w9 hz
  rw [t_cv wz tm rfl]
  obtain ⟨r1, e1, p1⟩ := S_X12_law (Nat.le_refl _) hg1 wz tm hu
  refine ⟨r1, e1, ?_⟩
  obtain ⟨C2, c2, w2⟩ := p1
  refine ⟨_, Γ, ?_, w2, tx, tm, to, hu, h41, ?_, ?_⟩
  · exact ⟨j00, j00.1, j00.2, c2⟩
  · exact rfl
  · exact hI
theorem St_4 {x m out : Nat} {a : Nat → Int32} {h : jH} (v : jInv x m out h) : SL_4 6000 x m out a h (jInv x m out) := by
  obtain ⟨g, Γ, hg, w, tx, tm, to, hu, h41, hl, hI⟩ := v
  unfold SL_4
  rw [t_cv w tx rfl]
  obtain ⟨r0, e0, p0⟩ := S_X11_fault (Nat.le_refl _) hg w tx
  refine ⟨r0, e0, ?_⟩
  rw [t_cv w tm rfl]
  obtain ⟨r1, e1, p1⟩ := S_X12_fault (Nat.le_refl _) hg w tm
  refine ⟨r1, e1, ?_⟩
  obtain ⟨w2, -⟩ := p1
  refine ⟨_, Γ, ?_, w2, tx, tm, to, hu, h41, ?_, ?_⟩
  · exact hg
  · exact hl
  · exact hI
theorem St_5 {x m out : Nat} {a : Nat → Int32} {h : jH} (v : jInv x m out h) : SL_5 6000 x m out a h (jInv x m out) := by
  obtain ⟨g, Γ, hg, w, tx, tm, to, hu, h41, hl, hI⟩ := v
  unfold SL_5
  obtain ⟨r0, e0, p0⟩ := S_X11_ring (Nat.le_refl _) hg w tx
  obtain ⟨w1, hx⟩ := p0
  obtain ⟨r9, e9, w9⟩ := t_f2 (Q := fun h => jW (jKd g) Γ h) (out := out) (fun h v w => t_out w to v) (q := r0) (fun v => v.toInt64) w1 hx
  refine ⟨r9, ?_, fun z0 hz => ?_⟩
  · unfold FL_ring
    rw [t_cv w tx rfl, e0]
    exact e9
  have wz := t_z w9 hz
  rw [t_cv wz tm rfl]
  obtain ⟨r1, e1, p1⟩ := S_X12_ring (Nat.le_refl _) hg wz tm
  refine ⟨r1, e1, ?_⟩
  obtain ⟨w2, -⟩ := p1
  refine ⟨_, Γ, ?_, w2, tx, tm, to, hu, h41, ?_, ?_⟩
  · exact hg
  · exact hl
  · exact hI
theorem St_6 {x m out : Nat} {a : Nat → Int32} {h : jH} (v : jInv x m out h) : SL_6 6000 x m out a h (jInv x m out) := by
  obtain ⟨g, Γ, hg, w, tx, tm, to, hu, h41, hl, hI⟩ := v
  unfold SL_6
  obtain ⟨r0, e0, p0⟩ := S_X11_pull (Nat.le_refl _) hg w tx
  obtain ⟨Γ2, l2, w1, hx⟩ := p0
  have tx2 := l2.1 _ _ tx
  have tm2 := l2.1 _ _ tm
  have to2 := l2.1 _ _ to
  have hu2 : ∀ a b c, 9 ≤ c → Γ2 a = some c → Γ2 b = some c → a = b := fun a b c k p q => hu a b c k (l2.2 a c k p) (l2.2 b c k q)
  have h412 : ∀ b, Γ2 b ≠ some 41 := fun b q => h41 b (l2.2 b 41 (by decide) q)
  obtain ⟨r9, e9, w9⟩ := t_f2 (Q := fun h => jW (jKd g) Γ2 h) (out := out) (fun h v w => t_out w to2 v) (q := r0) (fun v => v.toInt64) w1 hx
  refine ⟨r9, ?_, fun z0 hz => ?_⟩
  · unfold FL_pull
    rw [t_cv w tx rfl, e0]
    exact e9
  have wz := t_z w9 hz
  rw [t_cv wz tm2 rfl]
  obtain ⟨r1, e1, p1⟩ := S_X12_pull (Nat.le_refl _) hg wz tm2
  refine ⟨r1, e1, ?_⟩
  obtain ⟨w2, -⟩ := p1
  refine ⟨_, Γ2, ?_, w2, tx2, tm2, to2, hu2, h412, ?_, ?_⟩
  · exact hg
  · exact hl
  · exact hI
theorem St_7 {x m out : Nat} {a : Nat → Int32} {h : jH} (v : jInv x m out h) : SL_7 6000 x m out a h (jInv x m out) := by
  obtain ⟨g, Γ, hg, w, tx, tm, to, hu, h41, hl, hI⟩ := v
  unfold SL_7
  obtain ⟨r0, e0, p0⟩ := S_X11_free (Nat.le_refl _) hg w tx
  obtain ⟨Γ2, l2, w1, hx⟩ := p0
  have tx2 := l2.1 _ _ tx
  have tm2 := l2.1 _ _ tm
  have to2 := l2.1 _ _ to
  have hu2 : ∀ a b c, 9 ≤ c → Γ2 a = some c → Γ2 b = some c → a = b := fun a b c k p q => hu a b c k (l2.2 a c k p) (l2.2 b c k q)
  have h412 : ∀ b, Γ2 b ≠ some 41 := fun b q => h41 b (l2.2 b 41 (by decide) q)
  obtain ⟨r9, e9, w9⟩ := t_f2 (Q := fun h => jW (jKd g) Γ2 h) (out := out) (fun h v w => t_out w to2 v) (q := r0) (fun v => v.toInt64) w1 hx
  refine ⟨r9, ?_, fun z0 hz => ?_⟩
  · unfold FL_free
    rw [t_cv w tx rfl, e0]
    exact e9
  have wz := t_z w9 hz
  rw [t_cv wz tm2 rfl]
  obtain ⟨r1, e1, p1⟩ := S_X12_free (Nat.le_refl _) hg wz tm2
  refine ⟨r1, e1, ?_⟩
  obtain ⟨w2, -⟩ := p1
  refine ⟨_, Γ2, ?_, w2, tx2, tm2, to2, hu2, h412, ?_, ?_⟩
  · exact hg
  · exact hl
  · exact hI
theorem St_8 {x m out : Nat} {a : Nat → Int32} {h : jH} (v : jInv x m out h) : SL_8 6000 x m out a h (jInv x m out) := by
  obtain ⟨g, Γ, hg, w, tx, tm, to, hu, h41, hl, hI⟩ := v
  unfold SL_8
  obtain ⟨r0, e0, p0⟩ := S_X11_snag (Nat.le_refl _) hg w tx
  obtain ⟨Γ2, l2, w1, hx⟩ := p0
  have tx2 := l2.1 _ _ tx
  have tm2 := l2.1 _ _ tm
  have to2 := l2.1 _ _ to
  have hu2 : ∀ a b c, 9 ≤ c → Γ2 a = some c → Γ2 b = some c → a = b := fun a b c k p q => hu a b c k (l2.2 a c k p) (l2.2 b c k q)
  have h412 : ∀ b, Γ2 b ≠ some 41 := fun b q => h41 b (l2.2 b 41 (by decide) q)
  obtain ⟨r9, e9, w9⟩ := t_f2 (Q := fun h => jW (jKd g) Γ2 h) (out := out) (fun h v w => t_out w to2 v) (q := r0) (fun v => v.toInt64) w1 hx
  refine ⟨r9, ?_, fun z0 hz => ?_⟩
  · unfold FL_snag
    rw [t_cv w tx rfl, e0]
    exact e9
  have wz := t_z w9 hz
  rw [t_cv wz tm2 rfl]
  obtain ⟨r1, e1, p1⟩ := S_X12_snag (Nat.le_refl _) hg wz tm2
  refine ⟨r1, e1, ?_⟩
  obtain ⟨w2, -⟩ := p1
  refine ⟨_, Γ2, ?_, w2, tx2, tm2, to2, hu2, h412, ?_, ?_⟩
  · exact hg
  · exact hl
  · exact hI
theorem St_9 {x m out : Nat} {a : Nat → Int32} {h : jH} (v : jInv x m out h) : SL_9 6000 x m out a h (jInv x m out) := by
  obtain ⟨g, Γ, hg, w, tx, tm, to, hu, h41, hl, hI⟩ := v
  unfold SL_9
  obtain ⟨r0, e0, p0⟩ := S_X11_hook (Nat.le_refl _) hg w tx
  obtain ⟨Γ2, l2, w1, hx⟩ := p0
  have tx2 := l2.1 _ _ tx
  have tm2 := l2.1 _ _ tm
  have to2 := l2.1 _ _ to
  have hu2 : ∀ a b c, 9 ≤ c → Γ2 a = some c → Γ2 b = some c → a = b := fun a b c k p q => hu a b c k (l2.2 a c k p) (l2.2 b c k q)
  have h412 : ∀ b, Γ2 b ≠ some 41 := fun b q => h41 b (l2.2 b 41 (by decide) q)
  obtain ⟨r9, e9, w9⟩ := t_f1 (Q := fun h => jW (jKd g) Γ2 h) (out := out) (fun h v w => t_out w to2 v) (q := r0) (fun v => if v = 0 then 0 else 1) w1 hx
  refine ⟨r9, ?_, fun z0 hz => ?_⟩
  · unfold FL_hook
    rw [t_cv w tx rfl, e0]
    exact e9
  have wz := t_z w9 hz
  rw [t_cv wz tm2 rfl]
  obtain ⟨r1, e1, p1⟩ := S_X12_hook (Nat.le_refl _) hg wz tm2
  refine ⟨r1, e1, ?_⟩
  obtain ⟨w2, -⟩ := p1
  refine ⟨_, Γ2, ?_, w2, tx2, tm2, to2, hu2, h412, ?_, ?_⟩
  · exact hg
  · exact hl
  · exact hI
theorem St_10 {x m out : Nat} {a : Nat → Int32} {h : jH} (v : jInv x m out h) : SL_10 6000 x m out a h (jInv x m out) := by
  obtain ⟨g, Γ, hg, w, tx, tm, to, hu, h41, hl, hI⟩ := v
  unfold SL_10
  obtain ⟨r0, e0, p0⟩ := S_X11_sew (Nat.le_refl _) hg w tx
  obtain ⟨Γ2, l2, w1, hx⟩ := p0
  have tx2 := l2.1 _ _ tx
  have tm2 := l2.1 _ _ tm
  have to2 := l2.1 _ _ to
  have hu2 : ∀ a b c, 9 ≤ c → Γ2 a = some c → Γ2 b = some c → a = b := fun a b c k p q => hu a b c k (l2.2 a c k p) (l2.2 b c k q)
  have h412 : ∀ b, Γ2 b ≠ some 41 := fun b q => h41 b (l2.2 b 41 (by decide) q)
  obtain ⟨r9, e9, w9⟩ := t_f3 (Q := fun h => jW (jKd g) Γ2 h) (out := out) (fun h v w => t_out w to2 v) (q := r0) (fun v => v.toInt64) w1 hx
  refine ⟨r9, ?_, fun z0 hz => ?_⟩
  · unfold FL_sew
    rw [t_cv w tx rfl, e0]
    exact e9
  have wz := t_z w9 hz
  rw [t_cv wz tm2 rfl]
  obtain ⟨r1, e1, p1⟩ := S_X12_sew (Nat.le_refl _) hg wz tm2
  refine ⟨r1, e1, ?_⟩
  refine ⟨_, Γ2, ?_, p1, tx2, tm2, to2, hu2, h412, ?_, ?_⟩
  · exact hg
  · exact hl
  · exact hI
theorem St_11 {x m out : Nat} {a : Nat → Int32} {h : jH} (v : jInv x m out h) : SL_11 6000 x m out a h (jInv x m out) := by
  obtain ⟨g, Γ, hg, w, tx, tm, to, hu, h41, hl, hI⟩ := v
  unfold SL_11
  obtain ⟨r0, e0, p0⟩ := S_X11_let (Nat.le_refl _) hg w tx
  obtain ⟨Γ2, l2, w1, hx⟩ := p0
  have tx2 := l2.1 _ _ tx
  have tm2 := l2.1 _ _ tm
  have to2 := l2.1 _ _ to
  have hu2 : ∀ a b c, 9 ≤ c → Γ2 a = some c → Γ2 b = some c → a = b := fun a b c k p q => hu a b c k (l2.2 a c k p) (l2.2 b c k q)
  have h412 : ∀ b, Γ2 b ≠ some 41 := fun b q => h41 b (l2.2 b 41 (by decide) q)
  obtain ⟨r9, e9, w9⟩ := t_f2 (Q := fun h => jW (jKd g) Γ2 h) (out := out) (fun h v w => t_out w to2 v) (q := r0) (fun v => v.toInt64) w1 hx
  refine ⟨r9, ?_, fun z0 hz => ?_⟩
  · unfold FL_let
    rw [t_cv w tx rfl, e0]
    exact e9
  have wz := t_z w9 hz
  rw [t_cv wz tm2 rfl]
  obtain ⟨r1, e1, p1⟩ := S_X12_let (Nat.le_refl _) hg wz tm2
  refine ⟨r1, e1, ?_⟩
  obtain ⟨w2, -⟩ := p1
  refine ⟨_, Γ2, ?_, w2, tx2, tm2, to2, hu2, h412, ?_, ?_⟩
  · exact hg
  · exact hl
  · exact hI
theorem St_12 {x m out : Nat} {a : Nat → Int32} {h : jH} (v : jInv x m out h) : SL_12 6000 x m out a h (jInv x m out) := by
  obtain ⟨g, Γ, hg, w, tx, tm, to, hu, h41, hl, hI⟩ := v
  unfold SL_12
  obtain ⟨r0, e0, p0⟩ := S_X11_chair (Nat.le_refl _) hg w tx
  obtain ⟨Γ2, l2, w1, hx⟩ := p0
  have tx2 := l2.1 _ _ tx
  have tm2 := l2.1 _ _ tm
  have to2 := l2.1 _ _ to
  have hu2 : ∀ a b c, 9 ≤ c → Γ2 a = some c → Γ2 b = some c → a = b := fun a b c k p q => hu a b c k (l2.2 a c k p) (l2.2 b c k q)
  have h412 : ∀ b, Γ2 b ≠ some 41 := fun b q => h41 b (l2.2 b 41 (by decide) q)
  obtain ⟨r9, e9, w9⟩ := t_f1 (Q := fun h => jW (jKd g) Γ2 h) (out := out) (fun h v w => t_out w to2 v) (q := r0) (fun v => if v = 0 then 0 else 1) w1 hx
  refine ⟨r9, ?_, fun z0 hz => ?_⟩
  · unfold FL_chair
    rw [t_cv w tx rfl, e0]
    exact e9
  have wz := t_z w9 hz
  rw [t_cv wz tm2 rfl]
  obtain ⟨r1, e1, p1⟩ := S_X12_chair (Nat.le_refl _) hg wz tm2
  refine ⟨r1, e1, ?_⟩
  obtain ⟨w2, -⟩ := p1
  refine ⟨_, Γ2, ?_, w2, tx2, tm2, to2, hu2, h412, ?_, ?_⟩
  · exact hg
  · exact hl
  · exact hI
theorem St_13 {x m out : Nat} {a : Nat → Int32} {h : jH} (v : jInv x m out h) : SL_13 6000 x m out a h (jInv x m out) := by
  obtain ⟨g, Γ, hg, w, tx, tm, to, hu, h41, hl, hI⟩ := v
  unfold SL_13
  obtain ⟨r0, e0, p0⟩ := S_X11_hours (Nat.le_refl _) hg w tx
  obtain ⟨Γ2, l2, w1, hx⟩ := p0
  have tx2 := l2.1 _ _ tx
  have tm2 := l2.1 _ _ tm
  have to2 := l2.1 _ _ to
  have hu2 : ∀ a b c, 9 ≤ c → Γ2 a = some c → Γ2 b = some c → a = b := fun a b c k p q => hu a b c k (l2.2 a c k p) (l2.2 b c k q)
  have h412 : ∀ b, Γ2 b ≠ some 41 := fun b q => h41 b (l2.2 b 41 (by decide) q)
  obtain ⟨r9, e9, w9⟩ := t_f1 (Q := fun h => jW (jKd g) Γ2 h) (out := out) (fun h v w => t_out w to2 v) (q := r0) (fun v => v.toInt64) w1 hx
  refine ⟨r9, ?_, fun z0 hz => ?_⟩
  · unfold FL_hours
    rw [t_cv w tx rfl, e0]
    exact e9
  have wz := t_z w9 hz
  rw [t_cv wz tm2 rfl]
  obtain ⟨r1, e1, p1⟩ := S_X12_hours (Nat.le_refl _) hg wz tm2
  refine ⟨r1, e1, ?_⟩
  obtain ⟨w2, -⟩ := p1
  refine ⟨_, Γ2, ?_, w2, tx2, tm2, to2, hu2, h412, ?_, ?_⟩
  · exact hg
  · exact hl
  · exact hI
theorem St_14 {x m out : Nat} {a : Nat → Int32} {h : jH} (v : jInv x m out h) : SL_14 6000 x m out a h (jInv x m out) := by
  obtain ⟨g, Γ, hg, w, tx, tm, to, hu, h41, hl, hI⟩ := v
  unfold SL_14
  rw [t_cv w tx rfl]
  obtain ⟨r0, e0, p0⟩ := S_X11_shade (Nat.le_refl _) hg w tx
  refine ⟨r0, e0, ?_⟩
  rw [t_cv w tm rfl]
  obtain ⟨r1, e1, p1⟩ := S_X12_shade (Nat.le_refl _) hg w tm
  refine ⟨r1, e1, ?_⟩
  obtain ⟨w2, -⟩ := p1
  refine ⟨_, Γ, ?_, w2, tx, tm, to, hu, h41, ?_, ?_⟩
  · exact hg
  · exact hl
  · exact hI
theorem St_15 {x m out : Nat} {a : Nat → Int32} {h : jH} (v : jInv x m out h) : SL_15 6000 x m out a h (jInv x m out) := by
  obtain ⟨g, Γ, hg, w, tx, tm, to, hu, h41, hl, hI⟩ := v
  unfold SL_15
  rw [t_cv w tx rfl]
  obtain ⟨r0, e0, p0⟩ := S_X11_dark (Nat.le_refl _) hg w tx
  refine ⟨r0, e0, ?_⟩
  rw [t_cv w tm rfl]
  obtain ⟨r1, e1, p1⟩ := S_X12_dark (Nat.le_refl _) hg w tm
  refine ⟨r1, e1, ?_⟩
  obtain ⟨w2, -⟩ := p1
  refine ⟨_, Γ, ?_, w2, tx, tm, to, hu, h41, ?_, ?_⟩
  · exact hg
  · exact hl
  · exact hI
theorem St_16 {x m out : Nat} {a : Nat → Int32} {h : jH} (v : jInv x m out h) : SL_16 6000 x m out a h (jInv x m out) := by
  obtain ⟨g, Γ, hg, w, tx, tm, to, hu, h41, hl, hI⟩ := v
  unfold SL_16
  rw [t_cv w tx rfl]
  obtain ⟨r0, e0, p0⟩ := S_X11_bare (Nat.le_refl _) hg w tx
  refine ⟨r0, e0, ?_⟩
  rw [t_cv w tm rfl]
  obtain ⟨r1, e1, p1⟩ := S_X12_bare (Nat.le_refl _) hg w tm
  refine ⟨r1, e1, ?_⟩
  obtain ⟨w2, -⟩ := p1
  refine ⟨_, Γ, ?_, w2, tx, tm, to, hu, h41, ?_, ?_⟩
  · exact hg
  · exact hl
  · exact hI
theorem St_17 {x m out : Nat} {a : Nat → Int32} {h : jH} (v : jInv x m out h) : SL_17 6000 x m out a h (jInv x m out) := by
  obtain ⟨g, Γ, hg, w, tx, tm, to, hu, h41, hl, hI⟩ := v
  unfold SL_17
  obtain ⟨r0, e0, p0⟩ := S_X11_goes (Nat.le_refl _) hg w tx
  obtain ⟨w1, hx⟩ := p0
  obtain ⟨r9, e9, w9⟩ := t_f1 (Q := fun h => jW (jKd g) Γ h) (out := out) (fun h v w => t_out w to v) (q := r0) (fun v => v.toInt64) w1 hx
  refine ⟨r9, ?_, fun z0 hz => ?_⟩
  · unfold FL_goes
    rw [t_cv w tx rfl, e0]
    exact e9
  have wz := t_z w9 hz
  rw [t_cv wz tm rfl]
  obtain ⟨r1, e1, p1⟩ := S_X12_goes (Nat.le_refl _) hg wz tm
  refine ⟨r1, e1, ?_⟩
  obtain ⟨w2, -⟩ := p1
  refine ⟨_, Γ, ?_, w2, tx, tm, to, hu, h41, ?_, ?_⟩
  · exact hg
  · exact hl
  · exact hI
theorem St_18 {x m out : Nat} {a : Nat → Int32} {h : jH} (v : jInv x m out h) : SL_18 6000 x m out a h (jInv x m out) := by
  obtain ⟨g, Γ, hg, w, tx, tm, to, hu, h41, hl, hI⟩ := v
  unfold SL_18
  obtain ⟨r0, e0, p0⟩ := S_X11_with (Nat.le_refl _) hg w tx
  obtain ⟨w1, hx⟩ := p0
  obtain ⟨r9, e9, w9⟩ := t_f1 (Q := fun h => jW (jKd g) Γ h) (out := out) (fun h v w => t_out w to v) (q := r0) (fun v => v.toInt64) w1 hx
  refine ⟨r9, ?_, fun z0 hz => ?_⟩
  · unfold FL_with
    rw [t_cv w tx rfl, e0]
    exact e9
  have wz := t_z w9 hz
  rw [t_cv wz tm rfl]
  obtain ⟨r1, e1, p1⟩ := S_X12_with (Nat.le_refl _) hg wz tm
  refine ⟨r1, e1, ?_⟩
  obtain ⟨w2, -⟩ := p1
  refine ⟨_, Γ, ?_, w2, tx, tm, to, hu, h41, ?_, ?_⟩
  · exact hg
  · exact hl
  · exact hI
theorem St_19 {x m out : Nat} {a : Nat → Int32} {h : jH} (v : jInv x m out h) : SL_19 6000 x m out a h (jInv x m out) := by
  obtain ⟨g, Γ, hg, w, tx, tm, to, hu, h41, hl, hI⟩ := v
  unfold SL_19
  obtain ⟨r0, e0, p0⟩ := S_X11_would (Nat.le_refl _) hg w tx
  obtain ⟨w1, hx⟩ := p0
  obtain ⟨r9, e9, w9⟩ := t_f2 (Q := fun h => jW (jKd g) Γ h) (out := out) (fun h v w => t_out w to v) (q := r0) (fun v => v.toInt64) w1 hx
  refine ⟨r9, ?_, fun z0 hz => ?_⟩
  · unfold FL_would
    rw [t_cv w tx rfl, e0]
    exact e9
  have wz := t_z w9 hz
  rw [t_cv wz tm rfl]
  obtain ⟨r1, e1, p1⟩ := S_X12_would (Nat.le_refl _) hg wz tm
  refine ⟨r1, e1, ?_⟩
  obtain ⟨w2, -⟩ := p1
  refine ⟨_, Γ, ?_, w2, tx, tm, to, hu, h41, ?_, ?_⟩
  · exact hg
  · exact hl
  · exact hI
theorem St_20 {x m out : Nat} {a : Nat → Int32} {h : jH} (v : jInv x m out h) : SL_20 6000 x m out a h (jInv x m out) := by
  obtain ⟨g, Γ, hg, w, tx, tm, to, hu, h41, hl, hI⟩ := v
  unfold SL_20
  rw [t_cv w tx rfl]
  obtain ⟨r0, e0, p0⟩ := S_X11_best (Nat.le_refl _) hg w tx
  obtain ⟨w1, hx⟩ := p0
  refine ⟨r0, e0, ?_⟩
  rw [t_cv w1 tm rfl]
  obtain ⟨r1, e1, p1⟩ := S_X12_best (Nat.le_refl _) hg w1 tm
  refine ⟨r1, e1, ?_⟩
  obtain ⟨w2, -⟩ := p1
  refine ⟨_, Γ, ?_, w2, tx, tm, to, hu, h41, ?_, ?_⟩
  · exact hg
  · exact hl
  · exact hI
theorem St_21 {x m out : Nat} {a : Nat → Int32} {h : jH} (v : jInv x m out h) : SL_21 6000 x m out a h (jInv x m out) := by
  obtain ⟨g, Γ, hg, w, tx, tm, to, hu, h41, hl, hI⟩ := v
  unfold SL_21
  rw [t_cv w tx rfl]
  obtain ⟨r0, e0, p0⟩ := S_X11_fewest (Nat.le_refl _) hg w tx
  obtain ⟨w1, hx⟩ := p0
  refine ⟨r0, e0, ?_⟩
  rw [t_cv w1 tm rfl]
  obtain ⟨r1, e1, p1⟩ := S_X12_fewest (Nat.le_refl _) hg w1 tm
  refine ⟨r1, e1, ?_⟩
  obtain ⟨w2, -⟩ := p1
  refine ⟨_, Γ, ?_, w2, tx, tm, to, hu, h41, ?_, ?_⟩
  · exact hg
  · exact hl
  · exact hI
theorem St_22 {x m out : Nat} {a : Nat → Int32} {h : jH} (v : jInv x m out h) : SL_22 6000 x m out a h (jInv x m out) := by
  obtain ⟨g, Γ, hg, w, tx, tm, to, hu, h41, hl, hI⟩ := v
  unfold SL_22
  rw [t_cv w tx rfl]
  obtain ⟨r0, e0, p0⟩ := S_X11_first (Nat.le_refl _) hg w tx
  obtain ⟨w1, hx⟩ := p0
  refine ⟨r0, e0, ?_⟩
  rw [t_cv w1 tm rfl]
  obtain ⟨r1, e1, p1⟩ := S_X12_first (Nat.le_refl _) hg w1 tm
  refine ⟨r1, e1, ?_⟩
  obtain ⟨w2, -⟩ := p1
  refine ⟨_, Γ, ?_, w2, tx, tm, to, hu, h41, ?_, ?_⟩
  · exact hg
  · exact hl
  · exact hI
theorem St_23 {x m out : Nat} {a : Nat → Int32} {h : jH} (v : jInv x m out h) : SL_23 6000 x m out a h (jInv x m out) := by
  obtain ⟨g, Γ, hg, w, tx, tm, to, hu, h41, hl, hI⟩ := v
  unfold SL_23
  obtain ⟨r0, e0, p0⟩ := S_X11_snags (Nat.le_refl _) hg w tx (fun a b p q => hu a b 10 (by decide) p q)
  obtain ⟨w1, hx⟩ := p0
  have hg1 : jgok ((0 : Int32).toInt, g.2) := ⟨j00, hg.2⟩
  obtain ⟨r9, e9, w9⟩ := t_f1 (Q := fun h => jW (jKd ((0 : Int32).toInt, g.2)) Γ h) (out := out) (fun h v w => t_out w to v) (q := r0) (fun v => v.toInt64) w1 hx
  refine ⟨r9, ?_, fun z0 hz => ?_⟩
  · unfold FL_snags
    rw [t_cv w tx rfl, e0]
    exact e9
  have wz := t_z w9 hz
  rw [t_cv wz tm rfl]
  obtain ⟨r1, e1, p1⟩ := S_X12_snags (Nat.le_refl _) hg1 wz tm hu
  refine ⟨r1, e1, ?_⟩
  obtain ⟨w2, -⟩ := p1
  refine ⟨_, Γ, ?_, w2, tx, tm, to, hu, h41, ?_, ?_⟩
  · exact ⟨j00, j00.1, j00.2, hg.2.2.2⟩
  · exact rfl
  · exact hI
theorem St_24 {x m out : Nat} {a : Nat → Int32} {h : jH} (v : jInv x m out h) : SL_24 6000 x m out a h (jInv x m out) := by
  obtain ⟨g, Γ, hg, w, tx, tm, to, hu, h41, hl, hI⟩ := v
  unfold SL_24
  obtain ⟨r0, e0, p0⟩ := S_X11_tries (Nat.le_refl _) hg w tx (fun a b p q => hu a b 10 (by decide) p q)
  obtain ⟨w1, hx⟩ := p0
  have hg1 : jgok ((0 : Int32).toInt, g.2) := ⟨j00, hg.2⟩
  obtain ⟨r9, e9, w9⟩ := t_f1 (Q := fun h => jW (jKd ((0 : Int32).toInt, g.2)) Γ h) (out := out) (fun h v w => t_out w to v) (q := r0) (fun v => v.toInt64) w1 hx
  refine ⟨r9, ?_, fun z0 hz => ?_⟩
  · unfold FL_tries
    rw [t_cv w tx rfl, e0]
    exact e9
  have wz := t_z w9 hz
  rw [t_cv wz tm rfl]
  obtain ⟨r1, e1, p1⟩ := S_X12_tries (Nat.le_refl _) hg1 wz tm hu
  refine ⟨r1, e1, ?_⟩
  obtain ⟨w2, -⟩ := p1
  refine ⟨_, Γ, ?_, w2, tx, tm, to, hu, h41, ?_, ?_⟩
  · exact ⟨j00, j00.1, j00.2, hg.2.2.2⟩
  · exact rfl
  · exact hI
theorem St_25 {x m out : Nat} {a : Nat → Int32} {h : jH} (v : jInv x m out h) : SL_25 6000 x m out a h (jInv x m out) := by
  obtain ⟨g, Γ, hg, w, tx, tm, to, hu, h41, hl, hI⟩ := v
  unfold SL_25
  obtain ⟨r0, e0, p0⟩ := S_X11_loosen (Nat.le_refl _) hg w tx
  obtain ⟨w1, hx⟩ := p0
  obtain ⟨r9, e9, w9⟩ := t_f2 (Q := fun h => jW (jKd g) Γ h) (out := out) (fun h v w => t_out w to v) (q := r0) (fun v => v.toInt64) w1 hx
  refine ⟨r9, ?_, fun z0 hz => ?_⟩
  · unfold FL_loosen
    rw [t_cv w tx rfl, e0]
    exact e9
  have wz := t_z w9 hz
  rw [t_cv wz tm rfl]
  obtain ⟨r1, e1, p1⟩ := S_X12_loosen (Nat.le_refl _) hg wz tm
  refine ⟨r1, e1, ?_⟩
  obtain ⟨w2, -⟩ := p1
  refine ⟨_, Γ, ?_, w2, tx, tm, to, hu, h41, ?_, ?_⟩
  · exact hg
  · exact hl
  · exact hI
/-- call 26 without its comparison -/
def SU_26 (n x m out : Nat) (a : Nat → Int32) (h : jH) (P : jH → Prop) : Prop :=
  ∃ r0, jcv 9 h x (F_X11_order n x h) = some r0 ∧ ∃ r1, jcv 10 h m (F_X12_order n m h) = some r1 ∧ P r1.2
theorem St_26 {x m out : Nat} {a : Nat → Int32} {h : jH} (v : jInv x m out h) : SU_26 6000 x m out a h (jInv x m out) := by
  obtain ⟨g, Γ, hg, w, tx, tm, to, hu, h41, hl, hI⟩ := v
  unfold SU_26
  rw [t_cv w tx rfl]
  obtain ⟨r0, e0, p0⟩ := S_X11_order (Nat.le_refl _) hg w tx
  refine ⟨r0, e0, ?_⟩
  rw [t_cv w tm rfl]
  obtain ⟨r1, e1, p1⟩ := S_X12_order (Nat.le_refl _) hg w tm
  refine ⟨r1, e1, ?_⟩
  obtain ⟨w2, -⟩ := p1
  refine ⟨_, Γ, ?_, w2, tx, tm, to, hu, h41, ?_, ?_⟩
  · exact hg
  · exact hl
  · exact hI
theorem St_27 {x m out : Nat} {a : Nat → Int32} {h : jH} (v : jInv x m out h) : SL_27 6000 x m out a h (jInv x m out) := by
  obtain ⟨g, Γ, hg, w, tx, tm, to, hu, h41, hl, hI⟩ := v
  unfold SL_27
  obtain ⟨r0, e0, p0⟩ := S_X11_tight (Nat.le_refl _) hg w tx
  obtain ⟨w1, hx⟩ := p0
  obtain ⟨r9, e9, w9⟩ := t_f1 (Q := fun h => jW (jKd g) Γ h) (out := out) (fun h v w => t_out w to v) (q := r0) (fun v => v.toInt64) w1 hx
  refine ⟨r9, ?_, fun z0 hz => ?_⟩
  · unfold FL_tight
    rw [t_cv w tx rfl, e0]
    exact e9
  have wz := t_z w9 hz
  rw [t_cv wz tm rfl]
  obtain ⟨r1, e1, p1⟩ := S_X12_tight (Nat.le_refl _) hg wz tm
  refine ⟨r1, e1, ?_⟩
  obtain ⟨w2, -⟩ := p1
  refine ⟨_, Γ, ?_, w2, tx, tm, to, hu, h41, ?_, ?_⟩
  · exact hg
  · exact hl
  · exact hI
theorem St_28 {x m out : Nat} {a : Nat → Int32} {h : jH} (v : jInv x m out h) : SL_28 6000 x m out a h (jInv x m out) := by
  obtain ⟨g, Γ, hg, w, tx, tm, to, hu, h41, hl, hI⟩ := v
  unfold SL_28
  rw [t_cv w tx rfl]
  obtain ⟨r0, e0, p0⟩ := S_X11_slack (Nat.le_refl _) hg w tx
  refine ⟨r0, e0, ?_⟩
  rw [t_cv w tm rfl]
  obtain ⟨r1, e1, p1⟩ := S_X12_slack (Nat.le_refl _) hg w tm
  refine ⟨r1, e1, ?_⟩
  obtain ⟨w2, -⟩ := p1
  refine ⟨_, Γ, ?_, w2, tx, tm, to, hu, h41, ?_, ?_⟩
  · exact hg
  · exact hl
  · exact hI
theorem St_29 {x m out : Nat} {a : Nat → Int32} {h : jH} (v : jInv x m out h) : SL_29 6000 x m out a h (jInv x m out) := by
  obtain ⟨g, Γ, hg, w, tx, tm, to, hu, h41, hl, hI⟩ := v
  unfold SL_29
  rw [t_cv w tx rfl]
  obtain ⟨r0, e0, p0⟩ := S_X11_taut (Nat.le_refl _) hg w tx
  refine ⟨r0, e0, ?_⟩
  rw [t_cv w tm rfl]
  obtain ⟨r1, e1, p1⟩ := S_X12_taut (Nat.le_refl _) hg w tm
  refine ⟨r1, e1, ?_⟩
  obtain ⟨w2, -⟩ := p1
  refine ⟨_, Γ, ?_, w2, tx, tm, to, hu, h41, ?_, ?_⟩
  · exact hg
  · exact hl
  · exact hI
theorem St_30 {x m out : Nat} {a : Nat → Int32} {h : jH} (v : jInv x m out h) : SL_30 6000 x m out a h (jInv x m out) := by
  obtain ⟨g, Γ, hg, w, tx, tm, to, hu, h41, hl, hI⟩ := v
  unfold SL_30
  obtain ⟨r0, e0, p0⟩ := S_X11_lit (Nat.le_refl _) hg w tx
  obtain ⟨w1, hx⟩ := p0
  obtain ⟨r9, e9, w9⟩ := t_f1 (Q := fun h => jW (jKd g) Γ h) (out := out) (fun h v w => t_out w to v) (q := r0) (fun v => v.toInt64) w1 hx
  refine ⟨r9, ?_, fun z0 hz => ?_⟩
  · unfold FL_lit
    rw [t_cv w tx rfl, e0]
    exact e9
  have wz := t_z w9 hz
  rw [t_cv wz tm rfl]
  obtain ⟨r1, e1, p1⟩ := S_X12_lit (Nat.le_refl _) hg wz tm
  refine ⟨r1, e1, ?_⟩
  obtain ⟨w2, -⟩ := p1
  refine ⟨_, Γ, ?_, w2, tx, tm, to, hu, h41, ?_, ?_⟩
  · exact hg
  · exact hl
  · exact hI
theorem St_31 {x m out : Nat} {a : Nat → Int32} {h : jH} (v : jInv x m out h) : SL_31 6000 x m out a h (jInv x m out) := by
  obtain ⟨g, Γ, hg, w, tx, tm, to, hu, h41, hl, hI⟩ := v
  unfold SL_31
  rw [t_cv w tx rfl]
  obtain ⟨r0, e0, p0⟩ := S_X11_sunny (Nat.le_refl _) hg w tx
  refine ⟨r0, e0, ?_⟩
  rw [t_cv w tm rfl]
  obtain ⟨r1, e1, p1⟩ := S_X12_sunny (Nat.le_refl _) hg w tm
  refine ⟨r1, e1, ?_⟩
  obtain ⟨w2, -⟩ := p1
  refine ⟨_, Γ, ?_, w2, tx, tm, to, hu, h41, ?_, ?_⟩
  · exact hg
  · exact hl
  · exact hI
theorem St_32 {x m out : Nat} {a : Nat → Int32} {h : jH} (v : jInv x m out h) : SL_32 6000 x m out a h (jInv x m out) := by
  obtain ⟨g, Γ, hg, w, tx, tm, to, hu, h41, hl, hI⟩ := v
  unfold SL_32
  obtain ⟨r0, e0, p0⟩ := S_X11_faded (Nat.le_refl _) hg w tx
  obtain ⟨w1, hx⟩ := p0
  obtain ⟨r9, e9, w9⟩ := t_f1 (Q := fun h => jW (jKd g) Γ h) (out := out) (fun h v w => t_out w to v) (q := r0) (fun v => v.toInt64) w1 hx
  refine ⟨r9, ?_, fun z0 hz => ?_⟩
  · unfold FL_faded
    rw [t_cv w tx rfl, e0]
    exact e9
  have wz := t_z w9 hz
  rw [t_cv wz tm rfl]
  obtain ⟨r1, e1, p1⟩ := S_X12_faded (Nat.le_refl _) hg wz tm
  refine ⟨r1, e1, ?_⟩
  obtain ⟨w2, -⟩ := p1
  refine ⟨_, Γ, ?_, w2, tx, tm, to, hu, h41, ?_, ?_⟩
  · exact hg
  · exact hl
  · exact hI
theorem St_33 {x m out : Nat} {a : Nat → Int32} {h : jH} (v : jInv x m out h) : SL_33 6000 x m out a h (jInv x m out) := by
  obtain ⟨g, Γ, hg, w, tx, tm, to, hu, h41, hl, hI⟩ := v
  unfold SL_33
  rw [t_cv w tx rfl]
  obtain ⟨r0, e0, p0⟩ := S_X11_pale (Nat.le_refl _) hg w tx
  obtain ⟨w1, hx⟩ := p0
  refine ⟨r0, e0, ?_⟩
  rw [t_cv w1 tm rfl]
  obtain ⟨r1, e1, p1⟩ := S_X12_pale (Nat.le_refl _) hg w1 tm
  refine ⟨r1, e1, ?_⟩
  obtain ⟨w2, -⟩ := p1
  refine ⟨_, Γ, ?_, w2, tx, tm, to, hu, h41, ?_, ?_⟩
  · exact hg
  · exact hl
  · exact hI
theorem St_34 {x m out : Nat} {a : Nat → Int32} {h : jH} (v : jInv x m out h) : SL_34 6000 x m out a h (jInv x m out) := by
  obtain ⟨g, Γ, hg, w, tx, tm, to, hu, h41, hl, hI⟩ := v
  unfold SL_34
  obtain ⟨r0, e0, p0⟩ := S_X11_lets (Nat.le_refl _) hg w tx
  obtain ⟨w1, hx⟩ := p0
  obtain ⟨r9, e9, w9⟩ := t_f2 (Q := fun h => jW (jKd g) Γ h) (out := out) (fun h v w => t_out w to v) (q := r0) (fun v => v.toInt64) w1 hx
  refine ⟨r9, ?_, fun z0 hz => ?_⟩
  · unfold FL_lets
    rw [t_cv w tx rfl, e0]
    exact e9
  have wz := t_z w9 hz
  rw [t_cv wz tm rfl]
  obtain ⟨r1, e1, p1⟩ := S_X12_lets (Nat.le_refl _) hg wz tm
  refine ⟨r1, e1, ?_⟩
  refine ⟨_, Γ, ?_, p1, tx, tm, to, hu, h41, ?_, ?_⟩
  · exact hg
  · exact hl
  · exact hI
theorem St_35 {x m out : Nat} {a : Nat → Int32} {h : jH} (v : jInv x m out h) : SL_35 6000 x m out a h (jInv x m out) := by
  obtain ⟨g, Γ, hg, w, tx, tm, to, hu, h41, hl, hI⟩ := v
  unfold SL_35
  rw [t_cv w tx rfl]
  obtain ⟨r0, e0, p0⟩ := S_X11_envy (Nat.le_refl _) hg w tx
  refine ⟨r0, e0, ?_⟩
  rw [t_cv w tm rfl]
  obtain ⟨r1, e1, p1⟩ := S_X12_envy (Nat.le_refl _) hg w tm
  refine ⟨r1, e1, ?_⟩
  obtain ⟨w2, -⟩ := p1
  refine ⟨_, Γ, ?_, w2, tx, tm, to, hu, h41, ?_, ?_⟩
  · exact hg
  · exact hl
  · exact hI
theorem St_36 {x m out : Nat} {a : Nat → Int32} {h : jH} (v : jInv x m out h) : SL_36 6000 x m out a h (jInv x m out) := by
  obtain ⟨g, Γ, hg, w, tx, tm, to, hu, h41, hl, hI⟩ := v
  unfold SL_36
  obtain ⟨r0, e0, p0⟩ := S_X11_rests (Nat.le_refl _) hg w tx
  obtain ⟨w1, hx⟩ := p0
  obtain ⟨r9, e9, w9⟩ := t_f1 (Q := fun h => jW (jKd g) Γ h) (out := out) (fun h v w => t_out w to v) (q := r0) (fun v => v.toInt64) w1 hx
  refine ⟨r9, ?_, fun z0 hz => ?_⟩
  · unfold FL_rests
    rw [t_cv w tx rfl, e0]
    exact e9
  have wz := t_z w9 hz
  rw [t_cv wz tm rfl]
  obtain ⟨r1, e1, p1⟩ := S_X12_rests (Nat.le_refl _) hg wz tm
  refine ⟨r1, e1, ?_⟩
  obtain ⟨w2, -⟩ := p1
  refine ⟨_, Γ, ?_, w2, tx, tm, to, hu, h41, ?_, ?_⟩
  · exact hg
  · exact hl
  · exact hI
theorem St_37 {x m out : Nat} {a : Nat → Int32} {h : jH} (v : jInv x m out h) : SL_37 6000 x m out a h (jInv x m out) := by
  obtain ⟨g, Γ, hg, w, tx, tm, to, hu, h41, hl, hI⟩ := v
  unfold SL_37
  rw [t_cv w tx rfl]
  obtain ⟨r0, e0, p0⟩ := S_X11_bunch (Nat.le_refl _) hg w tx
  refine ⟨r0, e0, ?_⟩
  rw [t_cv w tm rfl]
  obtain ⟨r1, e1, p1⟩ := S_X12_bunch (Nat.le_refl _) hg w tm
  refine ⟨r1, e1, ?_⟩
  obtain ⟨w2, -⟩ := p1
  refine ⟨_, Γ, ?_, w2, tx, tm, to, hu, h41, ?_, ?_⟩
  · exact hg
  · exact hl
  · exact hI
theorem St_38 {x m out : Nat} {a : Nat → Int32} {h : jH} (v : jInv x m out h) : SL_38 6000 x m out a h (jInv x m out) := by
  obtain ⟨g, Γ, hg, w, tx, tm, to, hu, h41, hl, hI⟩ := v
  unfold SL_38
  rw [t_cv w tx rfl]
  obtain ⟨r0, e0, p0⟩ := S_X11_wooden (Nat.le_refl _) hg w tx
  refine ⟨r0, e0, ?_⟩
  rw [t_cv w tm rfl]
  obtain ⟨r1, e1, p1⟩ := S_X12_wooden (Nat.le_refl _) hg w tm
  refine ⟨r1, e1, ?_⟩
  obtain ⟨w2, -⟩ := p1
  refine ⟨_, Γ, ?_, w2, tx, tm, to, hu, h41, ?_, ?_⟩
  · exact hg
  · exact hl
  · exact hI
theorem St_39 {x m out : Nat} {a : Nat → Int32} {h : jH} (v : jInv x m out h) : SL_39 6000 x m out a h (jInv x m out) := by
  obtain ⟨g, Γ, hg, w, tx, tm, to, hu, h41, hl, hI⟩ := v
  unfold SL_39
  rw [t_cv w tx rfl]
  obtain ⟨r0, e0, p0⟩ := S_X11_caught (Nat.le_refl _) hg w tx
  refine ⟨r0, e0, ?_⟩
  rw [t_cv w tm rfl]
  obtain ⟨r1, e1, p1⟩ := S_X12_caught (Nat.le_refl _) hg w tm
  refine ⟨r1, e1, ?_⟩
  obtain ⟨w2, -⟩ := p1
  refine ⟨_, Γ, ?_, w2, tx, tm, to, hu, h41, ?_, ?_⟩
  · exact hg
  · exact hl
  · exact hI
theorem St_40 {x m out : Nat} {a : Nat → Int32} {h : jH} (v : jInv x m out h) : SL_40 6000 x m out a h (jInv x m out) := by
  obtain ⟨g, Γ, hg, w, tx, tm, to, hu, h41, hl, hI⟩ := v
  unfold SL_40
  rw [t_cv w tx rfl]
  obtain ⟨r0, e0, p0⟩ := S_X11_loose (Nat.le_refl _) hg w tx
  refine ⟨r0, e0, ?_⟩
  rw [t_cv w tm rfl]
  obtain ⟨r1, e1, p1⟩ := S_X12_loose (Nat.le_refl _) hg w tm
  refine ⟨r1, e1, ?_⟩
  obtain ⟨w2, -⟩ := p1
  refine ⟨_, Γ, ?_, w2, tx, tm, to, hu, h41, ?_, ?_⟩
  · exact hg
  · exact hl
  · exact hI
theorem St_41 {x m out : Nat} {a : Nat → Int32} {h : jH} (v : jInv x m out h) : SL_41 6000 x m out a h (jInv x m out) := by
  obtain ⟨g, Γ, hg, w, tx, tm, to, hu, h41, hl, hI⟩ := v
  unfold SL_41
  rw [t_cv w tx rfl]
  obtain ⟨r0, e0, p0⟩ := S_X11_beyond (Nat.le_refl _) hg w tx
  refine ⟨r0, e0, ?_⟩
  rw [t_cv w tm rfl]
  obtain ⟨r1, e1, p1⟩ := S_X12_beyond (Nat.le_refl _) hg w tm
  refine ⟨r1, e1, ?_⟩
  obtain ⟨w2, -⟩ := p1
  refine ⟨_, Γ, ?_, w2, tx, tm, to, hu, h41, ?_, ?_⟩
  · exact hg
  · exact hl
  · exact hI
theorem St_42 {x m out : Nat} {a : Nat → Int32} {h : jH} (v : jInv x m out h) : SL_42 6000 x m out a h (jInv x m out) := by
  obtain ⟨g, Γ, hg, w, tx, tm, to, hu, h41, hl, hI⟩ := v
  unfold SL_42
  obtain ⟨r0, e0, p0⟩ := S_X11_odds (Nat.le_refl _) hg w tx
  obtain ⟨w1, hx⟩ := p0
  obtain ⟨r9, e9, w9⟩ := t_f2 (Q := fun h => jW (jKd g) Γ h) (out := out) (fun h v w => t_out w to v) (q := r0) (fun v => v.toInt64) w1 hx
  refine ⟨r9, ?_, fun z0 hz => ?_⟩
  · unfold FL_odds
    rw [t_cv w tx rfl, e0]
    exact e9
  have wz := t_z w9 hz
  rw [t_cv wz tm rfl]
  obtain ⟨r1, e1, p1⟩ := S_X12_odds (Nat.le_refl _) hg wz tm
  refine ⟨r1, e1, ?_⟩
  obtain ⟨w2, -⟩ := p1
  refine ⟨_, Γ, ?_, w2, tx, tm, to, hu, h41, ?_, ?_⟩
  · exact hg
  · exact hl
  · exact hI
theorem St_43 {x m out : Nat} {a : Nat → Int32} {h : jH} (v : jInv x m out h) : SL_43 6000 x m out a h (jInv x m out) := by
  obtain ⟨g, Γ, hg, w, tx, tm, to, hu, h41, hl, hI⟩ := v
  unfold SL_43
  rw [t_cv w tx rfl]
  obtain ⟨r0, e0, p0⟩ := S_X11_twins (Nat.le_refl _) hg w tx
  refine ⟨r0, e0, ?_⟩
  rw [t_cv w tm rfl]
  obtain ⟨r1, e1, p1⟩ := S_X12_twins (Nat.le_refl _) hg w tm
  refine ⟨r1, e1, ?_⟩
  obtain ⟨w2, -⟩ := p1
  refine ⟨_, Γ, ?_, w2, tx, tm, to, hu, h41, ?_, ?_⟩
  · exact hg
  · exact hl
  · exact hI
theorem St_44 {x m out : Nat} {a : Nat → Int32} {h : jH} (v : jInv x m out h) : SL_44 6000 x m out a h (jInv x m out) := by
  obtain ⟨g, Γ, hg, w, tx, tm, to, hu, h41, hl, hI⟩ := v
  unfold SL_44
  obtain ⟨r0, e0, p0⟩ := S_X11_ahead (Nat.le_refl _) hg w tx
  obtain ⟨w1, hx⟩ := p0
  obtain ⟨r9, e9, w9⟩ := t_f2 (Q := fun h => jW (jKd g) Γ h) (out := out) (fun h v w => t_out w to v) (q := r0) (fun v => v.toInt64) w1 hx
  refine ⟨r9, ?_, fun z0 hz => ?_⟩
  · unfold FL_ahead
    rw [t_cv w tx rfl, e0]
    exact e9
  have wz := t_z w9 hz
  rw [t_cv wz tm rfl]
  obtain ⟨r1, e1, p1⟩ := S_X12_ahead (Nat.le_refl _) hg wz tm
  refine ⟨r1, e1, ?_⟩
  obtain ⟨w2, -⟩ := p1
  refine ⟨_, Γ, ?_, w2, tx, tm, to, hu, h41, ?_, ?_⟩
  · exact hg
  · exact hl
  · exact hI
theorem St_45 {x m out : Nat} {a : Nat → Int32} {h : jH} (v : jInv x m out h) : SL_45 6000 x m out a h (jInv x m out) := by
  obtain ⟨g, Γ, hg, w, tx, tm, to, hu, h41, hl, hI⟩ := v
  unfold SL_45
  obtain ⟨r0, e0, p0⟩ := S_X11_trial (Nat.le_refl _) hg w tx
  obtain ⟨w1, hx⟩ := p0
  obtain ⟨r9, e9, w9⟩ := t_f1 (Q := fun h => jW (jKd g) Γ h) (out := out) (fun h v w => t_out w to v) (q := r0) (fun v => v.toInt64) w1 hx
  refine ⟨r9, ?_, fun z0 hz => ?_⟩
  · unfold FL_trial
    rw [t_cv w tx rfl, e0]
    exact e9
  have wz := t_z w9 hz
  rw [t_cv wz tm rfl]
  obtain ⟨r1, e1, p1⟩ := S_X12_trial (Nat.le_refl _) hg wz tm
  refine ⟨r1, e1, ?_⟩
  obtain ⟨w2, -⟩ := p1
  refine ⟨_, Γ, ?_, w2, tx, tm, to, hu, h41, ?_, ?_⟩
  · exact hg
  · exact hl
  · exact hI
theorem St_46 {x m out : Nat} {a : Nat → Int32} {h : jH} (v : jInv x m out h) : SL_46 6000 x m out a h (jInv x m out) := by
  obtain ⟨g, Γ, hg, w, tx, tm, to, hu, h41, hl, hI⟩ := v
  unfold SL_46
  obtain ⟨r0, e0, p0⟩ := S_X11_span (Nat.le_refl _) hg w tx
  obtain ⟨w1, hx⟩ := p0
  obtain ⟨r9, e9, w9⟩ := t_f1 (Q := fun h => jW (jKd g) Γ h) (out := out) (fun h v w => t_out w to v) (q := r0) (fun v => v.toInt64) w1 hx
  refine ⟨r9, ?_, fun z0 hz => ?_⟩
  · unfold FL_span
    rw [t_cv w tx rfl, e0]
    exact e9
  have wz := t_z w9 hz
  rw [t_cv wz tm rfl]
  obtain ⟨r1, e1, p1⟩ := S_X12_span (Nat.le_refl _) hg wz tm
  refine ⟨r1, e1, ?_⟩
  obtain ⟨w2, -⟩ := p1
  refine ⟨_, Γ, ?_, w2, tx, tm, to, hu, h41, ?_, ?_⟩
  · exact hg
  · exact hl
  · exact hI
theorem St_47 {x m out : Nat} {a : Nat → Int32} {h : jH} (v : jInv x m out h) : SL_47 6000 x m out a h (jInv x m out) := by
  obtain ⟨g, Γ, hg, w, tx, tm, to, hu, h41, hl, hI⟩ := v
  unfold SL_47
  obtain ⟨r0, e0, p0⟩ := S_X11_led (Nat.le_refl _) hg w tx
  obtain ⟨w1, hx⟩ := p0
  obtain ⟨r9, e9, w9⟩ := t_f1 (Q := fun h => jW (jKd g) Γ h) (out := out) (fun h v w => t_out w to v) (q := r0) (fun v => v.toInt64) w1 hx
  refine ⟨r9, ?_, fun z0 hz => ?_⟩
  · unfold FL_led
    rw [t_cv w tx rfl, e0]
    exact e9
  have wz := t_z w9 hz
  rw [t_cv wz tm rfl]
  obtain ⟨r1, e1, p1⟩ := S_X12_led (Nat.le_refl _) hg wz tm
  refine ⟨r1, e1, ?_⟩
  obtain ⟨w2, -⟩ := p1
  refine ⟨_, Γ, ?_, w2, tx, tm, to, hu, h41, ?_, ?_⟩
  · exact hg
  · exact hl
  · exact hI
theorem St_48 {x m out : Nat} {a : Nat → Int32} {h : jH} (v : jInv x m out h) : SL_48 6000 x m out a h (jInv x m out) := by
  obtain ⟨g, Γ, hg, w, tx, tm, to, hu, h41, hl, hI⟩ := v
  unfold SL_48
  obtain ⟨r0, e0, p0⟩ := S_X11_log (Nat.le_refl _) hg w tx
  obtain ⟨w1, hx⟩ := p0
  obtain ⟨r9, e9, w9⟩ := t_f1 (Q := fun h => jW (jKd g) Γ h) (out := out) (fun h v w => t_out w to v) (q := r0) (fun v => v.toInt64) w1 hx
  refine ⟨r9, ?_, fun z0 hz => ?_⟩
  · unfold FL_log
    rw [t_cv w tx rfl, e0]
    exact e9
  have wz := t_z w9 hz
  rw [t_cv wz tm rfl]
  obtain ⟨r1, e1, p1⟩ := S_X12_log (Nat.le_refl _) hg wz tm
  refine ⟨r1, e1, ?_⟩
  obtain ⟨w2, -⟩ := p1
  refine ⟨_, Γ, ?_, w2, tx, tm, to, hu, h41, ?_, ?_⟩
  · exact hg
  · exact hl
  · exact hI
theorem St_49 {x m out : Nat} {a : Nat → Int32} {h : jH} (v : jInv x m out h) : SL_49 6000 x m out a h (jInv x m out) := by
  obtain ⟨g, Γ, hg, w, tx, tm, to, hu, h41, hl, hI⟩ := v
  unfold SL_49
  rw [t_cv w tx rfl]
  obtain ⟨r0, e0, p0⟩ := S_X11_seed (Nat.le_refl _) hg w tx
  obtain ⟨w1, hx⟩ := p0
  refine ⟨r0, e0, ?_⟩
  rw [t_cv w1 tm rfl]
  obtain ⟨r1, e1, p1⟩ := S_X12_seed (Nat.le_refl _) hg w1 tm
  refine ⟨r1, e1, ?_⟩
  obtain ⟨w2, -⟩ := p1
  refine ⟨_, Γ, ?_, w2, tx, tm, to, hu, h41, ?_, ?_⟩
  · exact hg
  · exact hl
  · exact hI
theorem St_50 {x m out : Nat} {a : Nat → Int32} {h : jH} (v : jInv x m out h) : SL_50 6000 x m out a h (jInv x m out) := by
  obtain ⟨g, Γ, hg, w, tx, tm, to, hu, h41, hl, hI⟩ := v
  unfold SL_50
  rw [t_cv w tx rfl]
  obtain ⟨r0, e0, p0⟩ := S_X11_undo (Nat.le_refl _) hg w tx
  refine ⟨r0, e0, ?_⟩
  rw [t_cv p0 tm rfl]
  obtain ⟨r1, e1, p1⟩ := S_X12_undo (Nat.le_refl _) hg p0 tm
  refine ⟨r1, e1, ?_⟩
  obtain ⟨w2, -⟩ := p1
  refine ⟨_, Γ, ?_, w2, tx, tm, to, hu, h41, ?_, ?_⟩
  · exact hg
  · exact hl
  · exact hI
theorem St_51 {x m out : Nat} {a : Nat → Int32} {h : jH} (v : jInv x m out h) : SL_51 6000 x m out a h (jInv x m out) := by
  obtain ⟨g, Γ, hg, w, tx, tm, to, hu, h41, hl, hI⟩ := v
  unfold SL_51
  rw [t_cv w tx rfl]
  obtain ⟨r0, e0, p0⟩ := S_X11_image (Nat.le_refl _) hg w tx hu h41
  obtain ⟨Γ2, u, v, l2, zu, zv, w1⟩ := p0
  have hg1 : jgok (jghF g u v) := hg
  have tx2 := l2.1 _ _ tx
  have tm2 := l2.1 _ _ tm
  have to2 := l2.1 _ _ to
  have hu2 : ∀ a b c, 9 ≤ c → Γ2 a = some c → Γ2 b = some c → a = b := fun a b c k p q => hu a b c k (l2.2 a c k p) (l2.2 b c k q)
  have h412 : ∀ b, Γ2 b ≠ some 41 := fun b q => h41 b (l2.2 b 41 (by decide) q)
  refine ⟨r0, e0, ?_⟩
  rw [t_cv w1 tm2 rfl]
  obtain ⟨r1, e1, p1⟩ := S_X12_image (Nat.le_refl _) hg1 w1 tm2 hu2
  refine ⟨r1, e1, ?_⟩
  obtain ⟨C2, w2⟩ := p1
  refine ⟨_, Γ2, ?_, w2, tx2, tm2, to2, hu2, h412, ?_, ?_⟩
  · exact hg1
  · exact hl
  · exact ⟨⟨fun q => absurd q zu, fun q => absurd q (show ¬ (1 : Int32) = 0 by decide)⟩, ⟨fun q => absurd q zv, fun q => absurd q (show ¬ (1 : Int32) = 0 by decide)⟩⟩
theorem St_52 {x m out : Nat} {a : Nat → Int32} {h : jH} (v : jInv x m out h) : SL_52 6000 x m out a h (jInv x m out) := by
  obtain ⟨g, Γ, hg, w, tx, tm, to, hu, h41, hl, hI⟩ := v
  unfold SL_52
  rw [t_cv w tx rfl]
  obtain ⟨r0, e0, p0⟩ := S_X11_back (Nat.le_refl _) hg w tx h41
  obtain ⟨w1, q0⟩ := p0
  refine ⟨r0, e0, ?_⟩
  rw [t_cv w1 tm rfl]
  obtain ⟨r1, e1, p1⟩ := S_X12_back (Nat.le_refl _) hg w1 tm hu
  obtain ⟨⟨C2, c2, w2⟩, q1⟩ := p1
  refine ⟨r1, e1, ?_⟩
  refine ⟨_, Γ, ?_, w2, tx, tm, to, hu, h41, ?_, ?_⟩
  · exact ⟨hg.1, hg.2.1, hg.2.2.1, c2⟩
  · exact hl
  · exact hI
theorem St_53 {x m out : Nat} {a : Nat → Int32} {h : jH} (v : jInv x m out h) : SL_53 6000 x m out a h (jInv x m out) := by
  obtain ⟨g, Γ, hg, w, tx, tm, to, hu, h41, hl, hI⟩ := v
  unfold SL_53
  rw [t_cv w tx rfl]
  obtain ⟨r0, e0, p0⟩ := S_X11_count (Nat.le_refl _) hg w tx
  refine ⟨r0, e0, ?_⟩
  rw [t_cv w tm rfl]
  obtain ⟨r1, e1, p1⟩ := S_X12_count (Nat.le_refl _) hg w tm
  refine ⟨r1, e1, ?_⟩
  obtain ⟨w2, -⟩ := p1
  refine ⟨_, Γ, ?_, w2, tx, tm, to, hu, h41, ?_, ?_⟩
  · exact hg
  · exact hl
  · exact hI
