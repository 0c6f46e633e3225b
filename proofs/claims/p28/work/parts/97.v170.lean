/-! typed heaps through the law's own methods -/
theorem t_asl {g : jGh} {Γ : Nat → Option Nat} {h h2 : jH} {out : Nat} {i : Int32} {v : Int64} (e : jasl h out i v = some h2) (w : jW (jKd g) Γ h) (to : Γ out = some 40) : jW (jKd g) Γ h2 := by
  obtain ⟨n, f, e1, -, rfl⟩ := jasl_o e
  have h3 : ∃ f : Nat → Int64, h.2 out = some (.inr (.inr (.inr (1, f)))) := (w out 40 to).2
  obtain ⟨f2, e2⟩ := h3
  rw [e1] at e2
  cases e2
  refine t_put w (fun c hc => ?_)
  cases to.symm.trans hc
  exact okE_l
theorem t_z4 {Θ : Nat → jD} {Γ : Nat → Option Nat} {h : jH} {z : Nat} (w : jW Θ Γ h) (hz : h.1 ≤ z) : jW Θ Γ (z, h.2) := fun a c q => ⟨Nat.lt_of_lt_of_le (w a c q).1 hz, (w a c q).2⟩
theorem t_ref {g : jGh} {Γ : Nat → Option Nat} {h : jH} {a b c c2 ci k : Nat} {Fs : List jF} (w : jW (jKd g) Γ h) (ha : Γ a = some c) (hc : jKd g c = .inr (.inr (ci, Fs))) (hk : Fs[k]? = some (.inr (.inl c2))) (ho : oc h a k = .ref b) : Γ b = some c2 := by
  obtain ⟨vs, e1, -, e3⟩ := t_obj w ha hc
  obtain ⟨v, e4, d, e5, e6⟩ := e3 k _ hk
  have e7 : oc h a k = v := by
    unfold oc
    rw [e1]
    show vs.getD k .null = v
    rw [List.getD_eq_getElem?_getD, e4]
    rfl
  rw [e7, e5] at ho
  cases ho
  exact e6
theorem t_w {g : jGh} {Γ : Nat → Option Nat} {h : jH} {m : Nat} (w : jW (jKd g) Γ h) (tm : Γ m = some 20) (M : mS (oc h) m) : Γ (m + 1) = some 21 := t_ref w tm rfl rfl M.1
theorem jok_v {α : Type} {o : Option α} {P : α → Prop} {v : α} (j : jok o P) (e : o = some v) : P v := by
  obtain ⟨u, e1, p⟩ := j
  rw [e1] at e
  cases e
  exact p
theorem FLw_pole {n : Nat} {a0 : Nat} {a1 : Nat} {h : jH} {r : Int32 × jH} (hf : FL_pole n a0 a1 h = some r) : ∃ q : jR × jH, F_X11_pole n a0 h = some q ∧ ∀ {g : jGh} {Γ : Nat → Option Nat}, jW (jKd g) Γ q.2 → Γ a1 = some 40 → jW (jKd g) Γ r.2 := by
  unfold FL_pole at hf
  obtain ⟨q, e, hf⟩ := jbind hf
  refine ⟨q, (jcv_o e).2, ?_⟩
  obtain ⟨q1, q2⟩ := q
  rcases q1 with v | k
  · obtain ⟨h2, e2, hf⟩ := jbind hf
    cases hf
    intro g Γ w to; exact t_asl e2 w to
  · replace hf : (if k = 0 then some ((1 : Int32), q2) else if k = 3 then some ((2 : Int32), q2) else none) = some r := hf
    replace hf := jite hf
    rcases hf with ⟨-, hf⟩ | ⟨-, hf⟩
    · cases hf; intro g Γ w _; exact w
    replace hf := jite hf
    rcases hf with ⟨-, hf⟩ | ⟨-, hf⟩
    · cases hf; intro g Γ w _; exact w
    cases hf
theorem FLw_law {n : Nat} {a0 : Nat} {a1 : Nat} {h : jH} {r : Int32 × jH} (hf : FL_law n a0 a1 h = some r) : ∃ q : jR × jH, F_X11_law n a0 h = some q ∧ ∀ {g : jGh} {Γ : Nat → Option Nat}, jW (jKd g) Γ q.2 → Γ a1 = some 40 → jW (jKd g) Γ r.2 := by
  unfold FL_law at hf
  obtain ⟨q, e, hf⟩ := jbind hf
  refine ⟨q, (jcv_o e).2, ?_⟩
  obtain ⟨q1, q2⟩ := q
  rcases q1 with v | k
  · obtain ⟨h2, e2, hf⟩ := jbind hf
    cases hf
    intro g Γ w to; exact t_asl e2 w to
  · replace hf : (if k = 0 then some ((1 : Int32), q2) else none) = some r := hf
    replace hf := jite hf
    rcases hf with ⟨-, hf⟩ | ⟨-, hf⟩
    · cases hf; intro g Γ w _; exact w
    cases hf
theorem FLw_ring {n : Nat} {a0 : Nat} {x1 : Int32} {x2 : Int32} {a3 : Nat} {h : jH} {r : Int32 × jH} (hf : FL_ring n a0 x1 x2 a3 h = some r) : ∃ q : jR × jH, F_X11_ring n a0 x1 x2 h = some q ∧ ∀ {g : jGh} {Γ : Nat → Option Nat}, jW (jKd g) Γ q.2 → Γ a3 = some 40 → jW (jKd g) Γ r.2 := by
  unfold FL_ring at hf
  obtain ⟨q, e, hf⟩ := jbind hf
  refine ⟨q, (jcv_o e).2, ?_⟩
  obtain ⟨q1, q2⟩ := q
  rcases q1 with v | k
  · obtain ⟨h2, e2, hf⟩ := jbind hf
    cases hf
    intro g Γ w to; exact t_asl e2 w to
  · replace hf : (if k = 2 then some ((1 : Int32), q2) else if k = 4 then some ((2 : Int32), q2) else none) = some r := hf
    replace hf := jite hf
    rcases hf with ⟨-, hf⟩ | ⟨-, hf⟩
    · cases hf; intro g Γ w _; exact w
    replace hf := jite hf
    rcases hf with ⟨-, hf⟩ | ⟨-, hf⟩
    · cases hf; intro g Γ w _; exact w
    cases hf
theorem FLw_pull {n : Nat} {a0 : Nat} {x1 : Int32} {x2 : Int32} {x3 : Int32} {a4 : Nat} {h : jH} {r : Int32 × jH} (hf : FL_pull n a0 x1 x2 x3 a4 h = some r) : ∃ q : jR × jH, F_X11_pull n a0 x1 x2 x3 h = some q ∧ ∀ {g : jGh} {Γ : Nat → Option Nat}, jW (jKd g) Γ q.2 → Γ a4 = some 40 → jW (jKd g) Γ r.2 := by
  unfold FL_pull at hf
  obtain ⟨q, e, hf⟩ := jbind hf
  refine ⟨q, (jcv_o e).2, ?_⟩
  obtain ⟨q1, q2⟩ := q
  rcases q1 with v | k
  · obtain ⟨h2, e2, hf⟩ := jbind hf
    cases hf
    intro g Γ w to; exact t_asl e2 w to
  · replace hf : (if k = 2 then some ((1 : Int32), q2) else if k = 0 then some ((2 : Int32), q2) else none) = some r := hf
    replace hf := jite hf
    rcases hf with ⟨-, hf⟩ | ⟨-, hf⟩
    · cases hf; intro g Γ w _; exact w
    replace hf := jite hf
    rcases hf with ⟨-, hf⟩ | ⟨-, hf⟩
    · cases hf; intro g Γ w _; exact w
    cases hf
theorem FLw_free {n : Nat} {a0 : Nat} {x1 : Int32} {a2 : Nat} {h : jH} {r : Int32 × jH} (hf : FL_free n a0 x1 a2 h = some r) : ∃ q : jR × jH, F_X11_free n a0 x1 h = some q ∧ ∀ {g : jGh} {Γ : Nat → Option Nat}, jW (jKd g) Γ q.2 → Γ a2 = some 40 → jW (jKd g) Γ r.2 := by
  unfold FL_free at hf
  obtain ⟨q, e, hf⟩ := jbind hf
  refine ⟨q, (jcv_o e).2, ?_⟩
  obtain ⟨q1, q2⟩ := q
  rcases q1 with v | k
  · obtain ⟨h2, e2, hf⟩ := jbind hf
    cases hf
    intro g Γ w to; exact t_asl e2 w to
  · replace hf : (if k = 2 then some ((1 : Int32), q2) else if k = 1 then some ((2 : Int32), q2) else none) = some r := hf
    replace hf := jite hf
    rcases hf with ⟨-, hf⟩ | ⟨-, hf⟩
    · cases hf; intro g Γ w _; exact w
    replace hf := jite hf
    rcases hf with ⟨-, hf⟩ | ⟨-, hf⟩
    · cases hf; intro g Γ w _; exact w
    cases hf
theorem FLw_snag {n : Nat} {a0 : Nat} {x1 : Int32} {a2 : Nat} {h : jH} {r : Int32 × jH} (hf : FL_snag n a0 x1 a2 h = some r) : ∃ q : jR × jH, F_X11_snag n a0 x1 h = some q ∧ ∀ {g : jGh} {Γ : Nat → Option Nat}, jW (jKd g) Γ q.2 → Γ a2 = some 40 → jW (jKd g) Γ r.2 := by
  unfold FL_snag at hf
  obtain ⟨q, e, hf⟩ := jbind hf
  refine ⟨q, (jcv_o e).2, ?_⟩
  obtain ⟨q1, q2⟩ := q
  rcases q1 with v | k
  · obtain ⟨h2, e2, hf⟩ := jbind hf
    cases hf
    intro g Γ w to; exact t_asl e2 w to
  · replace hf : (if k = 2 then some ((1 : Int32), q2) else if k = 1 then some ((2 : Int32), q2) else none) = some r := hf
    replace hf := jite hf
    rcases hf with ⟨-, hf⟩ | ⟨-, hf⟩
    · cases hf; intro g Γ w _; exact w
    replace hf := jite hf
    rcases hf with ⟨-, hf⟩ | ⟨-, hf⟩
    · cases hf; intro g Γ w _; exact w
    cases hf
theorem FLw_hook {n : Nat} {a0 : Nat} {x1 : Int32} {x2 : Int32} {a3 : Nat} {h : jH} {r : Int32 × jH} (hf : FL_hook n a0 x1 x2 a3 h = some r) : ∃ q : jR × jH, F_X11_hook n a0 x1 x2 h = some q ∧ ∀ {g : jGh} {Γ : Nat → Option Nat}, jW (jKd g) Γ q.2 → Γ a3 = some 40 → jW (jKd g) Γ r.2 := by
  unfold FL_hook at hf
  obtain ⟨q, e, hf⟩ := jbind hf
  refine ⟨q, (jcv_o e).2, ?_⟩
  obtain ⟨q1, q2⟩ := q
  rcases q1 with v | k
  · obtain ⟨h2, e2, hf⟩ := jbind hf
    cases hf
    intro g Γ w to; exact t_asl e2 w to
  · replace hf : (if k = 2 then some ((1 : Int32), q2) else none) = some r := hf
    replace hf := jite hf
    rcases hf with ⟨-, hf⟩ | ⟨-, hf⟩
    · cases hf; intro g Γ w _; exact w
    cases hf
theorem FLw_sew {n : Nat} {a0 : Nat} {x1 : Int32} {x2 : Int32} {a3 : Nat} {h : jH} {r : Int32 × jH} (hf : FL_sew n a0 x1 x2 a3 h = some r) : ∃ q : jR × jH, F_X11_sew n a0 x1 x2 h = some q ∧ ∀ {g : jGh} {Γ : Nat → Option Nat}, jW (jKd g) Γ q.2 → Γ a3 = some 40 → jW (jKd g) Γ r.2 := by
  unfold FL_sew at hf
  obtain ⟨q, e, hf⟩ := jbind hf
  refine ⟨q, (jcv_o e).2, ?_⟩
  obtain ⟨q1, q2⟩ := q
  rcases q1 with v | k
  · obtain ⟨h2, e2, hf⟩ := jbind hf
    cases hf
    intro g Γ w to; exact t_asl e2 w to
  · replace hf : (if k = 2 then some ((1 : Int32), q2) else if k = 0 then some ((2 : Int32), q2) else if k = 1 then some ((3 : Int32), q2) else none) = some r := hf
    replace hf := jite hf
    rcases hf with ⟨-, hf⟩ | ⟨-, hf⟩
    · cases hf; intro g Γ w _; exact w
    replace hf := jite hf
    rcases hf with ⟨-, hf⟩ | ⟨-, hf⟩
    · cases hf; intro g Γ w _; exact w
    replace hf := jite hf
    rcases hf with ⟨-, hf⟩ | ⟨-, hf⟩
    · cases hf; intro g Γ w _; exact w
    cases hf
theorem FLw_let {n : Nat} {a0 : Nat} {x1 : Int32} {x2 : Int32} {a3 : Nat} {h : jH} {r : Int32 × jH} (hf : FL_let n a0 x1 x2 a3 h = some r) : ∃ q : jR × jH, F_X11_let n a0 x1 x2 h = some q ∧ ∀ {g : jGh} {Γ : Nat → Option Nat}, jW (jKd g) Γ q.2 → Γ a3 = some 40 → jW (jKd g) Γ r.2 := by
  unfold FL_let at hf
  obtain ⟨q, e, hf⟩ := jbind hf
  refine ⟨q, (jcv_o e).2, ?_⟩
  obtain ⟨q1, q2⟩ := q
  rcases q1 with v | k
  · obtain ⟨h2, e2, hf⟩ := jbind hf
    cases hf
    intro g Γ w to; exact t_asl e2 w to
  · replace hf : (if k = 2 then some ((1 : Int32), q2) else if k = 0 then some ((2 : Int32), q2) else none) = some r := hf
    replace hf := jite hf
    rcases hf with ⟨-, hf⟩ | ⟨-, hf⟩
    · cases hf; intro g Γ w _; exact w
    replace hf := jite hf
    rcases hf with ⟨-, hf⟩ | ⟨-, hf⟩
    · cases hf; intro g Γ w _; exact w
    cases hf
theorem FLw_chair {n : Nat} {a0 : Nat} {x1 : Int32} {x2 : Int32} {a3 : Nat} {h : jH} {r : Int32 × jH} (hf : FL_chair n a0 x1 x2 a3 h = some r) : ∃ q : jR × jH, F_X11_chair n a0 x1 x2 h = some q ∧ ∀ {g : jGh} {Γ : Nat → Option Nat}, jW (jKd g) Γ q.2 → Γ a3 = some 40 → jW (jKd g) Γ r.2 := by
  unfold FL_chair at hf
  obtain ⟨q, e, hf⟩ := jbind hf
  refine ⟨q, (jcv_o e).2, ?_⟩
  obtain ⟨q1, q2⟩ := q
  rcases q1 with v | k
  · obtain ⟨h2, e2, hf⟩ := jbind hf
    cases hf
    intro g Γ w to; exact t_asl e2 w to
  · replace hf : (if k = 2 then some ((1 : Int32), q2) else none) = some r := hf
    replace hf := jite hf
    rcases hf with ⟨-, hf⟩ | ⟨-, hf⟩
    · cases hf; intro g Γ w _; exact w
    cases hf
theorem FLw_hours {n : Nat} {a0 : Nat} {x1 : Int32} {a2 : Nat} {h : jH} {r : Int32 × jH} (hf : FL_hours n a0 x1 a2 h = some r) : ∃ q : jR × jH, F_X11_hours n a0 x1 h = some q ∧ ∀ {g : jGh} {Γ : Nat → Option Nat}, jW (jKd g) Γ q.2 → Γ a2 = some 40 → jW (jKd g) Γ r.2 := by
  unfold FL_hours at hf
  obtain ⟨q, e, hf⟩ := jbind hf
  refine ⟨q, (jcv_o e).2, ?_⟩
  obtain ⟨q1, q2⟩ := q
  rcases q1 with v | k
  · obtain ⟨h2, e2, hf⟩ := jbind hf
    cases hf
    intro g Γ w to; exact t_asl e2 w to
  · replace hf : (if k = 0 then some ((1 : Int32), q2) else none) = some r := hf
    replace hf := jite hf
    rcases hf with ⟨-, hf⟩ | ⟨-, hf⟩
    · cases hf; intro g Γ w _; exact w
    cases hf
theorem FLw_goes {n : Nat} {a0 : Nat} {x1 : Int32} {x2 : Int32} {a3 : Nat} {h : jH} {r : Int32 × jH} (hf : FL_goes n a0 x1 x2 a3 h = some r) : ∃ q : jR × jH, F_X11_goes n a0 x1 x2 h = some q ∧ ∀ {g : jGh} {Γ : Nat → Option Nat}, jW (jKd g) Γ q.2 → Γ a3 = some 40 → jW (jKd g) Γ r.2 := by
  unfold FL_goes at hf
  obtain ⟨q, e, hf⟩ := jbind hf
  refine ⟨q, (jcv_o e).2, ?_⟩
  obtain ⟨q1, q2⟩ := q
  rcases q1 with v | k
  · obtain ⟨h2, e2, hf⟩ := jbind hf
    cases hf
    intro g Γ w to; exact t_asl e2 w to
  · replace hf : (if k = 2 then some ((1 : Int32), q2) else none) = some r := hf
    replace hf := jite hf
    rcases hf with ⟨-, hf⟩ | ⟨-, hf⟩
    · cases hf; intro g Γ w _; exact w
    cases hf
theorem FLw_with {n : Nat} {a0 : Nat} {x1 : Int32} {x2 : Int32} {a3 : Nat} {h : jH} {r : Int32 × jH} (hf : FL_with n a0 x1 x2 a3 h = some r) : ∃ q : jR × jH, F_X11_with n a0 x1 x2 h = some q ∧ ∀ {g : jGh} {Γ : Nat → Option Nat}, jW (jKd g) Γ q.2 → Γ a3 = some 40 → jW (jKd g) Γ r.2 := by
  unfold FL_with at hf
  obtain ⟨q, e, hf⟩ := jbind hf
  refine ⟨q, (jcv_o e).2, ?_⟩
  obtain ⟨q1, q2⟩ := q
  rcases q1 with v | k
  · obtain ⟨h2, e2, hf⟩ := jbind hf
    cases hf
    intro g Γ w to; exact t_asl e2 w to
  · replace hf : (if k = 2 then some ((1 : Int32), q2) else none) = some r := hf
    replace hf := jite hf
    rcases hf with ⟨-, hf⟩ | ⟨-, hf⟩
    · cases hf; intro g Γ w _; exact w
    cases hf
theorem FLw_would {n : Nat} {a0 : Nat} {x1 : Int32} {x2 : Int32} {x3 : Int32} {x4 : Int32} {a5 : Nat} {h : jH} {r : Int32 × jH} (hf : FL_would n a0 x1 x2 x3 x4 a5 h = some r) : ∃ q : jR × jH, F_X11_would n a0 x1 x2 x3 x4 h = some q ∧ ∀ {g : jGh} {Γ : Nat → Option Nat}, jW (jKd g) Γ q.2 → Γ a5 = some 40 → jW (jKd g) Γ r.2 := by
  unfold FL_would at hf
  obtain ⟨q, e, hf⟩ := jbind hf
  refine ⟨q, (jcv_o e).2, ?_⟩
  obtain ⟨q1, q2⟩ := q
  rcases q1 with v | k
  · obtain ⟨h2, e2, hf⟩ := jbind hf
    cases hf
    intro g Γ w to; exact t_asl e2 w to
  · replace hf : (if k = 2 then some ((1 : Int32), q2) else if k = 0 then some ((2 : Int32), q2) else none) = some r := hf
    replace hf := jite hf
    rcases hf with ⟨-, hf⟩ | ⟨-, hf⟩
    · cases hf; intro g Γ w _; exact w
    replace hf := jite hf
    rcases hf with ⟨-, hf⟩ | ⟨-, hf⟩
    · cases hf; intro g Γ w _; exact w
    cases hf
theorem FLw_snags {n : Nat} {a0 : Nat} {x1 : Int32} {a2 : Nat} {h : jH} {r : Int32 × jH} (hf : FL_snags n a0 x1 a2 h = some r) : ∃ q : jR × jH, F_X11_snags n a0 x1 h = some q ∧ ∀ {g : jGh} {Γ : Nat → Option Nat}, jW (jKd g) Γ q.2 → Γ a2 = some 40 → jW (jKd g) Γ r.2 := by
  unfold FL_snags at hf
  obtain ⟨q, e, hf⟩ := jbind hf
  refine ⟨q, (jcv_o e).2, ?_⟩
  obtain ⟨q1, q2⟩ := q
  rcases q1 with v | k
  · obtain ⟨h2, e2, hf⟩ := jbind hf
    cases hf
    intro g Γ w to; exact t_asl e2 w to
  · replace hf : (if k = 0 then some ((1 : Int32), q2) else none) = some r := hf
    replace hf := jite hf
    rcases hf with ⟨-, hf⟩ | ⟨-, hf⟩
    · cases hf; intro g Γ w _; exact w
    cases hf
theorem FLw_tries {n : Nat} {a0 : Nat} {a1 : Nat} {h : jH} {r : Int32 × jH} (hf : FL_tries n a0 a1 h = some r) : ∃ q : jR × jH, F_X11_tries n a0 h = some q ∧ ∀ {g : jGh} {Γ : Nat → Option Nat}, jW (jKd g) Γ q.2 → Γ a1 = some 40 → jW (jKd g) Γ r.2 := by
  unfold FL_tries at hf
  obtain ⟨q, e, hf⟩ := jbind hf
  refine ⟨q, (jcv_o e).2, ?_⟩
  obtain ⟨q1, q2⟩ := q
  rcases q1 with v | k
  · obtain ⟨h2, e2, hf⟩ := jbind hf
    cases hf
    intro g Γ w to; exact t_asl e2 w to
  · replace hf : (if k = 0 then some ((1 : Int32), q2) else none) = some r := hf
    replace hf := jite hf
    rcases hf with ⟨-, hf⟩ | ⟨-, hf⟩
    · cases hf; intro g Γ w _; exact w
    cases hf
theorem FLw_loosen {n : Nat} {a0 : Nat} {x1 : Int32} {x2 : Int32} {x3 : Int32} {a4 : Nat} {h : jH} {r : Int32 × jH} (hf : FL_loosen n a0 x1 x2 x3 a4 h = some r) : ∃ q : jR × jH, F_X11_loosen n a0 x1 x2 x3 h = some q ∧ ∀ {g : jGh} {Γ : Nat → Option Nat}, jW (jKd g) Γ q.2 → Γ a4 = some 40 → jW (jKd g) Γ r.2 := by
  unfold FL_loosen at hf
  obtain ⟨q, e, hf⟩ := jbind hf
  refine ⟨q, (jcv_o e).2, ?_⟩
  obtain ⟨q1, q2⟩ := q
  rcases q1 with v | k
  · obtain ⟨h2, e2, hf⟩ := jbind hf
    cases hf
    intro g Γ w to; exact t_asl e2 w to
  · replace hf : (if k = 2 then some ((1 : Int32), q2) else if k = 0 then some ((2 : Int32), q2) else none) = some r := hf
    replace hf := jite hf
    rcases hf with ⟨-, hf⟩ | ⟨-, hf⟩
    · cases hf; intro g Γ w _; exact w
    replace hf := jite hf
    rcases hf with ⟨-, hf⟩ | ⟨-, hf⟩
    · cases hf; intro g Γ w _; exact w
    cases hf
theorem FLw_tight {n : Nat} {a0 : Nat} {x1 : Int32} {a2 : Nat} {h : jH} {r : Int32 × jH} (hf : FL_tight n a0 x1 a2 h = some r) : ∃ q : jR × jH, F_X11_tight n a0 x1 h = some q ∧ ∀ {g : jGh} {Γ : Nat → Option Nat}, jW (jKd g) Γ q.2 → Γ a2 = some 40 → jW (jKd g) Γ r.2 := by
  unfold FL_tight at hf
  obtain ⟨q, e, hf⟩ := jbind hf
  refine ⟨q, (jcv_o e).2, ?_⟩
  obtain ⟨q1, q2⟩ := q
  rcases q1 with v | k
  · obtain ⟨h2, e2, hf⟩ := jbind hf
    cases hf
    intro g Γ w to; exact t_asl e2 w to
  · replace hf : (if k = 0 then some ((1 : Int32), q2) else none) = some r := hf
    replace hf := jite hf
    rcases hf with ⟨-, hf⟩ | ⟨-, hf⟩
    · cases hf; intro g Γ w _; exact w
    cases hf
theorem FLw_lit {n : Nat} {a0 : Nat} {x1 : Int32} {a2 : Nat} {h : jH} {r : Int32 × jH} (hf : FL_lit n a0 x1 a2 h = some r) : ∃ q : jR × jH, F_X11_lit n a0 x1 h = some q ∧ ∀ {g : jGh} {Γ : Nat → Option Nat}, jW (jKd g) Γ q.2 → Γ a2 = some 40 → jW (jKd g) Γ r.2 := by
  unfold FL_lit at hf
  obtain ⟨q, e, hf⟩ := jbind hf
  refine ⟨q, (jcv_o e).2, ?_⟩
  obtain ⟨q1, q2⟩ := q
  rcases q1 with v | k
  · obtain ⟨h2, e2, hf⟩ := jbind hf
    cases hf
    intro g Γ w to; exact t_asl e2 w to
  · replace hf : (if k = 2 then some ((1 : Int32), q2) else none) = some r := hf
    replace hf := jite hf
    rcases hf with ⟨-, hf⟩ | ⟨-, hf⟩
    · cases hf; intro g Γ w _; exact w
    cases hf
theorem FLw_faded {n : Nat} {a0 : Nat} {x1 : Int32} {a2 : Nat} {h : jH} {r : Int32 × jH} (hf : FL_faded n a0 x1 a2 h = some r) : ∃ q : jR × jH, F_X11_faded n a0 x1 h = some q ∧ ∀ {g : jGh} {Γ : Nat → Option Nat}, jW (jKd g) Γ q.2 → Γ a2 = some 40 → jW (jKd g) Γ r.2 := by
  unfold FL_faded at hf
  obtain ⟨q, e, hf⟩ := jbind hf
  refine ⟨q, (jcv_o e).2, ?_⟩
  obtain ⟨q1, q2⟩ := q
  rcases q1 with v | k
  · obtain ⟨h2, e2, hf⟩ := jbind hf
    cases hf
    intro g Γ w to; exact t_asl e2 w to
  · replace hf : (if k = 0 then some ((1 : Int32), q2) else none) = some r := hf
    replace hf := jite hf
    rcases hf with ⟨-, hf⟩ | ⟨-, hf⟩
    · cases hf; intro g Γ w _; exact w
    cases hf
theorem FLw_lets {n : Nat} {a0 : Nat} {x1 : Int32} {x2 : Int32} {a3 : Nat} {h : jH} {r : Int32 × jH} (hf : FL_lets n a0 x1 x2 a3 h = some r) : ∃ q : jR × jH, F_X11_lets n a0 x1 x2 h = some q ∧ ∀ {g : jGh} {Γ : Nat → Option Nat}, jW (jKd g) Γ q.2 → Γ a3 = some 40 → jW (jKd g) Γ r.2 := by
  unfold FL_lets at hf
  obtain ⟨q, e, hf⟩ := jbind hf
  refine ⟨q, (jcv_o e).2, ?_⟩
  obtain ⟨q1, q2⟩ := q
  rcases q1 with v | k
  · obtain ⟨h2, e2, hf⟩ := jbind hf
    cases hf
    intro g Γ w to; exact t_asl e2 w to
  · replace hf : (if k = 2 then some ((1 : Int32), q2) else if k = 0 then some ((2 : Int32), q2) else none) = some r := hf
    replace hf := jite hf
    rcases hf with ⟨-, hf⟩ | ⟨-, hf⟩
    · cases hf; intro g Γ w _; exact w
    replace hf := jite hf
    rcases hf with ⟨-, hf⟩ | ⟨-, hf⟩
    · cases hf; intro g Γ w _; exact w
    cases hf
theorem FLw_rests {n : Nat} {a0 : Nat} {x1 : Int32} {a2 : Nat} {h : jH} {r : Int32 × jH} (hf : FL_rests n a0 x1 a2 h = some r) : ∃ q : jR × jH, F_X11_rests n a0 x1 h = some q ∧ ∀ {g : jGh} {Γ : Nat → Option Nat}, jW (jKd g) Γ q.2 → Γ a2 = some 40 → jW (jKd g) Γ r.2 := by
  unfold FL_rests at hf
  obtain ⟨q, e, hf⟩ := jbind hf
  refine ⟨q, (jcv_o e).2, ?_⟩
  obtain ⟨q1, q2⟩ := q
  rcases q1 with v | k
  · obtain ⟨h2, e2, hf⟩ := jbind hf
    cases hf
    intro g Γ w to; exact t_asl e2 w to
  · replace hf : (if k = 2 then some ((1 : Int32), q2) else none) = some r := hf
    replace hf := jite hf
    rcases hf with ⟨-, hf⟩ | ⟨-, hf⟩
    · cases hf; intro g Γ w _; exact w
    cases hf
theorem FLw_odds {n : Nat} {a0 : Nat} {x1 : Int32} {x2 : Int32} {a3 : Nat} {h : jH} {r : Int32 × jH} (hf : FL_odds n a0 x1 x2 a3 h = some r) : ∃ q : jR × jH, F_X11_odds n a0 x1 x2 h = some q ∧ ∀ {g : jGh} {Γ : Nat → Option Nat}, jW (jKd g) Γ q.2 → Γ a3 = some 40 → jW (jKd g) Γ r.2 := by
  unfold FL_odds at hf
  obtain ⟨q, e, hf⟩ := jbind hf
  refine ⟨q, (jcv_o e).2, ?_⟩
  obtain ⟨q1, q2⟩ := q
  rcases q1 with v | k
  · obtain ⟨h2, e2, hf⟩ := jbind hf
    cases hf
    intro g Γ w to; exact t_asl e2 w to
  · replace hf : (if k = 2 then some ((1 : Int32), q2) else if k = 0 then some ((2 : Int32), q2) else none) = some r := hf
    replace hf := jite hf
    rcases hf with ⟨-, hf⟩ | ⟨-, hf⟩
    · cases hf; intro g Γ w _; exact w
    replace hf := jite hf
    rcases hf with ⟨-, hf⟩ | ⟨-, hf⟩
    · cases hf; intro g Γ w _; exact w
    cases hf
theorem FLw_ahead {n : Nat} {a0 : Nat} {x1 : Int32} {x2 : Int32} {a3 : Nat} {h : jH} {r : Int32 × jH} (hf : FL_ahead n a0 x1 x2 a3 h = some r) : ∃ q : jR × jH, F_X11_ahead n a0 x1 x2 h = some q ∧ ∀ {g : jGh} {Γ : Nat → Option Nat}, jW (jKd g) Γ q.2 → Γ a3 = some 40 → jW (jKd g) Γ r.2 := by
  unfold FL_ahead at hf
  obtain ⟨q, e, hf⟩ := jbind hf
  refine ⟨q, (jcv_o e).2, ?_⟩
  obtain ⟨q1, q2⟩ := q
  rcases q1 with v | k
  · obtain ⟨h2, e2, hf⟩ := jbind hf
    cases hf
    intro g Γ w to; exact t_asl e2 w to
  · replace hf : (if k = 2 then some ((1 : Int32), q2) else if k = 0 then some ((2 : Int32), q2) else none) = some r := hf
    replace hf := jite hf
    rcases hf with ⟨-, hf⟩ | ⟨-, hf⟩
    · cases hf; intro g Γ w _; exact w
    replace hf := jite hf
    rcases hf with ⟨-, hf⟩ | ⟨-, hf⟩
    · cases hf; intro g Γ w _; exact w
    cases hf
theorem FLw_trial {n : Nat} {a0 : Nat} {x1 : Int32} {x2 : Int32} {a3 : Nat} {h : jH} {r : Int32 × jH} (hf : FL_trial n a0 x1 x2 a3 h = some r) : ∃ q : jR × jH, F_X11_trial n a0 x1 x2 h = some q ∧ ∀ {g : jGh} {Γ : Nat → Option Nat}, jW (jKd g) Γ q.2 → Γ a3 = some 40 → jW (jKd g) Γ r.2 := by
  unfold FL_trial at hf
  obtain ⟨q, e, hf⟩ := jbind hf
  refine ⟨q, (jcv_o e).2, ?_⟩
  obtain ⟨q1, q2⟩ := q
  rcases q1 with v | k
  · obtain ⟨h2, e2, hf⟩ := jbind hf
    cases hf
    intro g Γ w to; exact t_asl e2 w to
  · replace hf : (if k = 0 then some ((1 : Int32), q2) else none) = some r := hf
    replace hf := jite hf
    rcases hf with ⟨-, hf⟩ | ⟨-, hf⟩
    · cases hf; intro g Γ w _; exact w
    cases hf
theorem FLw_span {n : Nat} {a0 : Nat} {x1 : Int32} {x2 : Int32} {a3 : Nat} {h : jH} {r : Int32 × jH} (hf : FL_span n a0 x1 x2 a3 h = some r) : ∃ q : jR × jH, F_X11_span n a0 x1 x2 h = some q ∧ ∀ {g : jGh} {Γ : Nat → Option Nat}, jW (jKd g) Γ q.2 → Γ a3 = some 40 → jW (jKd g) Γ r.2 := by
  unfold FL_span at hf
  obtain ⟨q, e, hf⟩ := jbind hf
  refine ⟨q, (jcv_o e).2, ?_⟩
  obtain ⟨q1, q2⟩ := q
  rcases q1 with v | k
  · obtain ⟨h2, e2, hf⟩ := jbind hf
    cases hf
    intro g Γ w to; exact t_asl e2 w to
  · replace hf : (if k = 0 then some ((1 : Int32), q2) else none) = some r := hf
    replace hf := jite hf
    rcases hf with ⟨-, hf⟩ | ⟨-, hf⟩
    · cases hf; intro g Γ w _; exact w
    cases hf
theorem FLw_led {n : Nat} {a0 : Nat} {x1 : Int32} {x2 : Int32} {a3 : Nat} {h : jH} {r : Int32 × jH} (hf : FL_led n a0 x1 x2 a3 h = some r) : ∃ q : jR × jH, F_X11_led n a0 x1 x2 h = some q ∧ ∀ {g : jGh} {Γ : Nat → Option Nat}, jW (jKd g) Γ q.2 → Γ a3 = some 40 → jW (jKd g) Γ r.2 := by
  unfold FL_led at hf
  obtain ⟨q, e, hf⟩ := jbind hf
  refine ⟨q, (jcv_o e).2, ?_⟩
  obtain ⟨q1, q2⟩ := q
  rcases q1 with v | k
  · obtain ⟨h2, e2, hf⟩ := jbind hf
    cases hf
    intro g Γ w to; exact t_asl e2 w to
  · replace hf : (if k = 2 then some ((1 : Int32), q2) else none) = some r := hf
    replace hf := jite hf
    rcases hf with ⟨-, hf⟩ | ⟨-, hf⟩
    · cases hf; intro g Γ w _; exact w
    cases hf
theorem FLw_log {n : Nat} {a0 : Nat} {x1 : Int32} {x2 : Int32} {a3 : Nat} {h : jH} {r : Int32 × jH} (hf : FL_log n a0 x1 x2 a3 h = some r) : ∃ q : jR × jH, F_X11_log n a0 x1 x2 h = some q ∧ ∀ {g : jGh} {Γ : Nat → Option Nat}, jW (jKd g) Γ q.2 → Γ a3 = some 40 → jW (jKd g) Γ r.2 := by
  unfold FL_log at hf
  obtain ⟨q, e, hf⟩ := jbind hf
  refine ⟨q, (jcv_o e).2, ?_⟩
  obtain ⟨q1, q2⟩ := q
  rcases q1 with v | k
  · obtain ⟨h2, e2, hf⟩ := jbind hf
    cases hf
    intro g Γ w to; exact t_asl e2 w to
  · replace hf : (if k = 4 then some ((1 : Int32), q2) else none) = some r := hf
    replace hf := jite hf
    rcases hf with ⟨-, hf⟩ | ⟨-, hf⟩
    · cases hf; intro g Γ w _; exact w
    cases hf
