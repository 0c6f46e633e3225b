/-! the law's own cells: what it writes to its long row does not show -/
theorem oc_asl {h h2 : jH} {a : Nat} {i : Int32} {v : Int64} (e : jasl h a i v = some h2) : oc h2 = oc h ∧ h2.1 = h.1 := by
  obtain ⟨n, f, e1, -, rfl⟩ := jasl_o e
  refine ⟨funext fun b => funext fun j => ?_, rfl⟩
  by_cases hb : b = a
  · subst hb
    unfold oc
    rw [e1]
    have e2 : (jup h b (.inr (.inr (.inr (n, vp_updL f i.toNatClampNeg v))))).2 b = some (.inr (.inr (.inr (n, vp_updL f i.toNatClampNeg v)))) := by
      show (if b = b then some _ else h.2 b) = _
      rw [if_pos rfl]
    rw [e2]
  · unfold oc
    have e2 : (jup h a (.inr (.inr (.inr (n, vp_updL f i.toNatClampNeg v))))).2 b = h.2 b := by
      show (if b = a then some _ else h.2 b) = _
      rw [if_neg hb]
    rw [e2]
theorem eq_oc {x nx r L : Nat} {W : jWd} {h h2 : jH} (E : eqS x nx r L W h) (ho : oc h2 = oc h) (hz : h.1 ≤ h2.1) : eqS x nx r L W h2 := eq_qr0 E (fun a k _ => by rw [ho]) hz (by rw [ho]; exact E.2.2.1.2.1)
theorem eq_z {x nx r L : Nat} {W : jWd} {h : jH} (E : eqS x nx r L W h) {z : Nat} (hz : h.1 ≤ z) : eqS x nx r L W (z, h.2) := eq_oc E rfl hz
theorem FLo_pole {n : Nat} {a0 : Nat} {a1 : Nat} {h : jH} {r : Int32 × jH} (hf : FL_pole n a0 a1 h = some r) : ∃ q : jR × jH, F_X11_pole n a0 h = some q ∧ oc r.2 = oc q.2 ∧ r.2.1 = q.2.1 := by
  unfold FL_pole at hf
  obtain ⟨q, e, hf⟩ := jbind hf
  refine ⟨q, (jcv_o e).2, ?_⟩
  obtain ⟨q1, q2⟩ := q
  rcases q1 with v | k
  · obtain ⟨h2, e2, hf⟩ := jbind hf
    cases hf
    exact oc_asl e2
  · replace hf : (if k = 0 then some ((1 : Int32), q2) else if k = 3 then some ((2 : Int32), q2) else none) = some r := hf
    replace hf := jite hf
    rcases hf with ⟨-, hf⟩ | ⟨-, hf⟩
    · cases hf; exact ⟨rfl, rfl⟩
    replace hf := jite hf
    rcases hf with ⟨-, hf⟩ | ⟨-, hf⟩
    · cases hf; exact ⟨rfl, rfl⟩
    cases hf
theorem FLo_law {n : Nat} {a0 : Nat} {a1 : Nat} {h : jH} {r : Int32 × jH} (hf : FL_law n a0 a1 h = some r) : ∃ q : jR × jH, F_X11_law n a0 h = some q ∧ oc r.2 = oc q.2 ∧ r.2.1 = q.2.1 := by
  unfold FL_law at hf
  obtain ⟨q, e, hf⟩ := jbind hf
  refine ⟨q, (jcv_o e).2, ?_⟩
  obtain ⟨q1, q2⟩ := q
  rcases q1 with v | k
  · obtain ⟨h2, e2, hf⟩ := jbind hf
    cases hf
    exact oc_asl e2
  · replace hf : (if k = 0 then some ((1 : Int32), q2) else none) = some r := hf
    replace hf := jite hf
    rcases hf with ⟨-, hf⟩ | ⟨-, hf⟩
    · cases hf; exact ⟨rfl, rfl⟩
    cases hf
theorem FLo_ring {n : Nat} {a0 : Nat} {x1 : Int32} {x2 : Int32} {a3 : Nat} {h : jH} {r : Int32 × jH} (hf : FL_ring n a0 x1 x2 a3 h = some r) : ∃ q : jR × jH, F_X11_ring n a0 x1 x2 h = some q ∧ oc r.2 = oc q.2 ∧ r.2.1 = q.2.1 := by
  unfold FL_ring at hf
  obtain ⟨q, e, hf⟩ := jbind hf
  refine ⟨q, (jcv_o e).2, ?_⟩
  obtain ⟨q1, q2⟩ := q
  rcases q1 with v | k
  · obtain ⟨h2, e2, hf⟩ := jbind hf
    cases hf
    exact oc_asl e2
  · replace hf : (if k = 2 then some ((1 : Int32), q2) else if k = 4 then some ((2 : Int32), q2) else none) = some r := hf
    replace hf := jite hf
    rcases hf with ⟨-, hf⟩ | ⟨-, hf⟩
    · cases hf; exact ⟨rfl, rfl⟩
    replace hf := jite hf
    rcases hf with ⟨-, hf⟩ | ⟨-, hf⟩
    · cases hf; exact ⟨rfl, rfl⟩
    cases hf
theorem FLo_pull {n : Nat} {a0 : Nat} {x1 : Int32} {x2 : Int32} {x3 : Int32} {a4 : Nat} {h : jH} {r : Int32 × jH} (hf : FL_pull n a0 x1 x2 x3 a4 h = some r) : ∃ q : jR × jH, F_X11_pull n a0 x1 x2 x3 h = some q ∧ oc r.2 = oc q.2 ∧ r.2.1 = q.2.1 := by
  unfold FL_pull at hf
  obtain ⟨q, e, hf⟩ := jbind hf
  refine ⟨q, (jcv_o e).2, ?_⟩
  obtain ⟨q1, q2⟩ := q
  rcases q1 with v | k
  · obtain ⟨h2, e2, hf⟩ := jbind hf
    cases hf
    exact oc_asl e2
  · replace hf : (if k = 2 then some ((1 : Int32), q2) else if k = 0 then some ((2 : Int32), q2) else none) = some r := hf
    replace hf := jite hf
    rcases hf with ⟨-, hf⟩ | ⟨-, hf⟩
    · cases hf; exact ⟨rfl, rfl⟩
    replace hf := jite hf
    rcases hf with ⟨-, hf⟩ | ⟨-, hf⟩
    · cases hf; exact ⟨rfl, rfl⟩
    cases hf
theorem FLo_free {n : Nat} {a0 : Nat} {x1 : Int32} {a2 : Nat} {h : jH} {r : Int32 × jH} (hf : FL_free n a0 x1 a2 h = some r) : ∃ q : jR × jH, F_X11_free n a0 x1 h = some q ∧ oc r.2 = oc q.2 ∧ r.2.1 = q.2.1 := by
  unfold FL_free at hf
  obtain ⟨q, e, hf⟩ := jbind hf
  refine ⟨q, (jcv_o e).2, ?_⟩
  obtain ⟨q1, q2⟩ := q
  rcases q1 with v | k
  · obtain ⟨h2, e2, hf⟩ := jbind hf
    cases hf
    exact oc_asl e2
  · replace hf : (if k = 2 then some ((1 : Int32), q2) else if k = 1 then some ((2 : Int32), q2) else none) = some r := hf
    replace hf := jite hf
    rcases hf with ⟨-, hf⟩ | ⟨-, hf⟩
    · cases hf; exact ⟨rfl, rfl⟩
    replace hf := jite hf
    rcases hf with ⟨-, hf⟩ | ⟨-, hf⟩
    · cases hf; exact ⟨rfl, rfl⟩
    cases hf
theorem FLo_snag {n : Nat} {a0 : Nat} {x1 : Int32} {a2 : Nat} {h : jH} {r : Int32 × jH} (hf : FL_snag n a0 x1 a2 h = some r) : ∃ q : jR × jH, F_X11_snag n a0 x1 h = some q ∧ oc r.2 = oc q.2 ∧ r.2.1 = q.2.1 := by
  unfold FL_snag at hf
  obtain ⟨q, e, hf⟩ := jbind hf
  refine ⟨q, (jcv_o e).2, ?_⟩
  obtain ⟨q1, q2⟩ := q
  rcases q1 with v | k
  · obtain ⟨h2, e2, hf⟩ := jbind hf
    cases hf
    exact oc_asl e2
  · replace hf : (if k = 2 then some ((1 : Int32), q2) else if k = 1 then some ((2 : Int32), q2) else none) = some r := hf
    replace hf := jite hf
    rcases hf with ⟨-, hf⟩ | ⟨-, hf⟩
    · cases hf; exact ⟨rfl, rfl⟩
    replace hf := jite hf
    rcases hf with ⟨-, hf⟩ | ⟨-, hf⟩
    · cases hf; exact ⟨rfl, rfl⟩
    cases hf
theorem FLo_hook {n : Nat} {a0 : Nat} {x1 : Int32} {x2 : Int32} {a3 : Nat} {h : jH} {r : Int32 × jH} (hf : FL_hook n a0 x1 x2 a3 h = some r) : ∃ q : jR × jH, F_X11_hook n a0 x1 x2 h = some q ∧ oc r.2 = oc q.2 ∧ r.2.1 = q.2.1 := by
  unfold FL_hook at hf
  obtain ⟨q, e, hf⟩ := jbind hf
  refine ⟨q, (jcv_o e).2, ?_⟩
  obtain ⟨q1, q2⟩ := q
  rcases q1 with v | k
  · obtain ⟨h2, e2, hf⟩ := jbind hf
    cases hf
    exact oc_asl e2
  · replace hf : (if k = 2 then some ((1 : Int32), q2) else none) = some r := hf
    replace hf := jite hf
    rcases hf with ⟨-, hf⟩ | ⟨-, hf⟩
    · cases hf; exact ⟨rfl, rfl⟩
    cases hf
theorem FLo_sew {n : Nat} {a0 : Nat} {x1 : Int32} {x2 : Int32} {a3 : Nat} {h : jH} {r : Int32 × jH} (hf : FL_sew n a0 x1 x2 a3 h = some r) : ∃ q : jR × jH, F_X11_sew n a0 x1 x2 h = some q ∧ oc r.2 = oc q.2 ∧ r.2.1 = q.2.1 := by
  unfold FL_sew at hf
  obtain ⟨q, e, hf⟩ := jbind hf
  refine ⟨q, (jcv_o e).2, ?_⟩
  obtain ⟨q1, q2⟩ := q
  rcases q1 with v | k
  · obtain ⟨h2, e2, hf⟩ := jbind hf
    cases hf
    exact oc_asl e2
  · replace hf : (if k = 2 then some ((1 : Int32), q2) else if k = 0 then some ((2 : Int32), q2) else if k = 1 then some ((3 : Int32), q2) else none) = some r := hf
    replace hf := jite hf
    rcases hf with ⟨-, hf⟩ | ⟨-, hf⟩
    · cases hf; exact ⟨rfl, rfl⟩
    replace hf := jite hf
    rcases hf with ⟨-, hf⟩ | ⟨-, hf⟩
    · cases hf; exact ⟨rfl, rfl⟩
    replace hf := jite hf
    rcases hf with ⟨-, hf⟩ | ⟨-, hf⟩
    · cases hf; exact ⟨rfl, rfl⟩
    cases hf
theorem FLo_let {n : Nat} {a0 : Nat} {x1 : Int32} {x2 : Int32} {a3 : Nat} {h : jH} {r : Int32 × jH} (hf : FL_let n a0 x1 x2 a3 h = some r) : ∃ q : jR × jH, F_X11_let n a0 x1 x2 h = some q ∧ oc r.2 = oc q.2 ∧ r.2.1 = q.2.1 := by
  unfold FL_let at hf
  obtain ⟨q, e, hf⟩ := jbind hf
  refine ⟨q, (jcv_o e).2, ?_⟩
  obtain ⟨q1, q2⟩ := q
  rcases q1 with v | k
  · obtain ⟨h2, e2, hf⟩ := jbind hf
    cases hf
    exact oc_asl e2
  · replace hf : (if k = 2 then some ((1 : Int32), q2) else if k = 0 then some ((2 : Int32), q2) else none) = some r := hf
    replace hf := jite hf
    rcases hf with ⟨-, hf⟩ | ⟨-, hf⟩
    · cases hf; exact ⟨rfl, rfl⟩
    replace hf := jite hf
    rcases hf with ⟨-, hf⟩ | ⟨-, hf⟩
    · cases hf; exact ⟨rfl, rfl⟩
    cases hf
theorem FLo_chair {n : Nat} {a0 : Nat} {x1 : Int32} {x2 : Int32} {a3 : Nat} {h : jH} {r : Int32 × jH} (hf : FL_chair n a0 x1 x2 a3 h = some r) : ∃ q : jR × jH, F_X11_chair n a0 x1 x2 h = some q ∧ oc r.2 = oc q.2 ∧ r.2.1 = q.2.1 := by
  unfold FL_chair at hf
  obtain ⟨q, e, hf⟩ := jbind hf
  refine ⟨q, (jcv_o e).2, ?_⟩
  obtain ⟨q1, q2⟩ := q
  rcases q1 with v | k
  · obtain ⟨h2, e2, hf⟩ := jbind hf
    cases hf
    exact oc_asl e2
  · replace hf : (if k = 2 then some ((1 : Int32), q2) else none) = some r := hf
    replace hf := jite hf
    rcases hf with ⟨-, hf⟩ | ⟨-, hf⟩
    · cases hf; exact ⟨rfl, rfl⟩
    cases hf
theorem FLo_hours {n : Nat} {a0 : Nat} {x1 : Int32} {a2 : Nat} {h : jH} {r : Int32 × jH} (hf : FL_hours n a0 x1 a2 h = some r) : ∃ q : jR × jH, F_X11_hours n a0 x1 h = some q ∧ oc r.2 = oc q.2 ∧ r.2.1 = q.2.1 := by
  unfold FL_hours at hf
  obtain ⟨q, e, hf⟩ := jbind hf
  refine ⟨q, (jcv_o e).2, ?_⟩
  obtain ⟨q1, q2⟩ := q
  rcases q1 with v | k
  · obtain ⟨h2, e2, hf⟩ := jbind hf
    cases hf
    exact oc_asl e2
  · replace hf : (if k = 0 then some ((1 : Int32), q2) else none) = some r := hf
    replace hf := jite hf
    rcases hf with ⟨-, hf⟩ | ⟨-, hf⟩
    · cases hf; exact ⟨rfl, rfl⟩
    cases hf
theorem FLo_goes {n : Nat} {a0 : Nat} {x1 : Int32} {x2 : Int32} {a3 : Nat} {h : jH} {r : Int32 × jH} (hf : FL_goes n a0 x1 x2 a3 h = some r) : ∃ q : jR × jH, F_X11_goes n a0 x1 x2 h = some q ∧ oc r.2 = oc q.2 ∧ r.2.1 = q.2.1 := by
  unfold FL_goes at hf
  obtain ⟨q, e, hf⟩ := jbind hf
  refine ⟨q, (jcv_o e).2, ?_⟩
  obtain ⟨q1, q2⟩ := q
  rcases q1 with v | k
  · obtain ⟨h2, e2, hf⟩ := jbind hf
    cases hf
    exact oc_asl e2
  · replace hf : (if k = 2 then some ((1 : Int32), q2) else none) = some r := hf
    replace hf := jite hf
    rcases hf with ⟨-, hf⟩ | ⟨-, hf⟩
    · cases hf; exact ⟨rfl, rfl⟩
    cases hf
theorem FLo_with {n : Nat} {a0 : Nat} {x1 : Int32} {x2 : Int32} {a3 : Nat} {h : jH} {r : Int32 × jH} (hf : FL_with n a0 x1 x2 a3 h = some r) : ∃ q : jR × jH, F_X11_with n a0 x1 x2 h = some q ∧ oc r.2 = oc q.2 ∧ r.2.1 = q.2.1 := by
  unfold FL_with at hf
  obtain ⟨q, e, hf⟩ := jbind hf
  refine ⟨q, (jcv_o e).2, ?_⟩
  obtain ⟨q1, q2⟩ := q
  rcases q1 with v | k
  · obtain ⟨h2, e2, hf⟩ := jbind hf
    cases hf
    exact oc_asl e2
  · replace hf : (if k = 2 then some ((1 : Int32), q2) else none) = some r := hf
    replace hf := jite hf
    rcases hf with ⟨-, hf⟩ | ⟨-, hf⟩
    · cases hf; exact ⟨rfl, rfl⟩
    cases hf
theorem FLo_would {n : Nat} {a0 : Nat} {x1 : Int32} {x2 : Int32} {x3 : Int32} {x4 : Int32} {a5 : Nat} {h : jH} {r : Int32 × jH} (hf : FL_would n a0 x1 x2 x3 x4 a5 h = some r) : ∃ q : jR × jH, F_X11_would n a0 x1 x2 x3 x4 h = some q ∧ oc r.2 = oc q.2 ∧ r.2.1 = q.2.1 := by
  unfold FL_would at hf
  obtain ⟨q, e, hf⟩ := jbind hf
  refine ⟨q, (jcv_o e).2, ?_⟩
  obtain ⟨q1, q2⟩ := q
  rcases q1 with v | k
  · obtain ⟨h2, e2, hf⟩ := jbind hf
    cases hf
    exact oc_asl e2
  · replace hf : (if k = 2 then some ((1 : Int32), q2) else if k = 0 then some ((2 : Int32), q2) else none) = some r := hf
    replace hf := jite hf
    rcases hf with ⟨-, hf⟩ | ⟨-, hf⟩
    · cases hf; exact ⟨rfl, rfl⟩
    replace hf := jite hf
    rcases hf with ⟨-, hf⟩ | ⟨-, hf⟩
    · cases hf; exact ⟨rfl, rfl⟩
    cases hf
theorem FLo_snags {n : Nat} {a0 : Nat} {x1 : Int32} {a2 : Nat} {h : jH} {r : Int32 × jH} (hf : FL_snags n a0 x1 a2 h = some r) : ∃ q : jR × jH, F_X11_snags n a0 x1 h = some q ∧ oc r.2 = oc q.2 ∧ r.2.1 = q.2.1 := by
  unfold FL_snags at hf
  obtain ⟨q, e, hf⟩ := jbind hf
  refine ⟨q, (jcv_o e).2, ?_⟩
  obtain ⟨q1, q2⟩ := q
  rcases q1 with v | k
  · obtain ⟨h2, e2, hf⟩ := jbind hf
    cases hf
    exact oc_asl e2
  · replace hf : (if k = 0 then some ((1 : Int32), q2) else none) = some r := hf
    replace hf := jite hf
    rcases hf with ⟨-, hf⟩ | ⟨-, hf⟩
    · cases hf; exact ⟨rfl, rfl⟩
    cases hf
theorem FLo_tries {n : Nat} {a0 : Nat} {a1 : Nat} {h : jH} {r : Int32 × jH} (hf : FL_tries n a0 a1 h = some r) : ∃ q : jR × jH, F_X11_tries n a0 h = some q ∧ oc r.2 = oc q.2 ∧ r.2.1 = q.2.1 := by
  unfold FL_tries at hf
  obtain ⟨q, e, hf⟩ := jbind hf
  refine ⟨q, (jcv_o e).2, ?_⟩
  obtain ⟨q1, q2⟩ := q
  rcases q1 with v | k
  · obtain ⟨h2, e2, hf⟩ := jbind hf
    cases hf
    exact oc_asl e2
  · replace hf : (if k = 0 then some ((1 : Int32), q2) else none) = some r := hf
    replace hf := jite hf
    rcases hf with ⟨-, hf⟩ | ⟨-, hf⟩
    · cases hf; exact ⟨rfl, rfl⟩
    cases hf
theorem FLo_loosen {n : Nat} {a0 : Nat} {x1 : Int32} {x2 : Int32} {x3 : Int32} {a4 : Nat} {h : jH} {r : Int32 × jH} (hf : FL_loosen n a0 x1 x2 x3 a4 h = some r) : ∃ q : jR × jH, F_X11_loosen n a0 x1 x2 x3 h = some q ∧ oc r.2 = oc q.2 ∧ r.2.1 = q.2.1 := by
  unfold FL_loosen at hf
  obtain ⟨q, e, hf⟩ := jbind hf
  refine ⟨q, (jcv_o e).2, ?_⟩
  obtain ⟨q1, q2⟩ := q
  rcases q1 with v | k
  · obtain ⟨h2, e2, hf⟩ := jbind hf
    cases hf
    exact oc_asl e2
  · replace hf : (if k = 2 then some ((1 : Int32), q2) else if k = 0 then some ((2 : Int32), q2) else none) = some r := hf
    replace hf := jite hf
    rcases hf with ⟨-, hf⟩ | ⟨-, hf⟩
    · cases hf; exact ⟨rfl, rfl⟩
    replace hf := jite hf
    rcases hf with ⟨-, hf⟩ | ⟨-, hf⟩
    · cases hf; exact ⟨rfl, rfl⟩
    cases hf
theorem FLo_tight {n : Nat} {a0 : Nat} {x1 : Int32} {a2 : Nat} {h : jH} {r : Int32 × jH} (hf : FL_tight n a0 x1 a2 h = some r) : ∃ q : jR × jH, F_X11_tight n a0 x1 h = some q ∧ oc r.2 = oc q.2 ∧ r.2.1 = q.2.1 := by
  unfold FL_tight at hf
  obtain ⟨q, e, hf⟩ := jbind hf
  refine ⟨q, (jcv_o e).2, ?_⟩
  obtain ⟨q1, q2⟩ := q
  rcases q1 with v | k
  · obtain ⟨h2, e2, hf⟩ := jbind hf
    cases hf
    exact oc_asl e2
  · replace hf : (if k = 0 then some ((1 : Int32), q2) else none) = some r := hf
    replace hf := jite hf
    rcases hf with ⟨-, hf⟩ | ⟨-, hf⟩
    · cases hf; exact ⟨rfl, rfl⟩
    cases hf
theorem FLo_lit {n : Nat} {a0 : Nat} {x1 : Int32} {a2 : Nat} {h : jH} {r : Int32 × jH} (hf : FL_lit n a0 x1 a2 h = some r) : ∃ q : jR × jH, F_X11_lit n a0 x1 h = some q ∧ oc r.2 = oc q.2 ∧ r.2.1 = q.2.1 := by
  unfold FL_lit at hf
  obtain ⟨q, e, hf⟩ := jbind hf
  refine ⟨q, (jcv_o e).2, ?_⟩
  obtain ⟨q1, q2⟩ := q
  rcases q1 with v | k
  · obtain ⟨h2, e2, hf⟩ := jbind hf
    cases hf
    exact oc_asl e2
  · replace hf : (if k = 2 then some ((1 : Int32), q2) else none) = some r := hf
    replace hf := jite hf
    rcases hf with ⟨-, hf⟩ | ⟨-, hf⟩
    · cases hf; exact ⟨rfl, rfl⟩
    cases hf
theorem FLo_faded {n : Nat} {a0 : Nat} {x1 : Int32} {a2 : Nat} {h : jH} {r : Int32 × jH} (hf : FL_faded n a0 x1 a2 h = some r) : ∃ q : jR × jH, F_X11_faded n a0 x1 h = some q ∧ oc r.2 = oc q.2 ∧ r.2.1 = q.2.1 := by
  unfold FL_faded at hf
  obtain ⟨q, e, hf⟩ := jbind hf
  refine ⟨q, (jcv_o e).2, ?_⟩
  obtain ⟨q1, q2⟩ := q
  rcases q1 with v | k
  · obtain ⟨h2, e2, hf⟩ := jbind hf
    cases hf
    exact oc_asl e2
  · replace hf : (if k = 0 then some ((1 : Int32), q2) else none) = some r := hf
    replace hf := jite hf
    rcases hf with ⟨-, hf⟩ | ⟨-, hf⟩
    · cases hf; exact ⟨rfl, rfl⟩
    cases hf
theorem FLo_lets {n : Nat} {a0 : Nat} {x1 : Int32} {x2 : Int32} {a3 : Nat} {h : jH} {r : Int32 × jH} (hf : FL_lets n a0 x1 x2 a3 h = some r) : ∃ q : jR × jH, F_X11_lets n a0 x1 x2 h = some q ∧ oc r.2 = oc q.2 ∧ r.2.1 = q.2.1 := by
  unfold FL_lets at hf
  obtain ⟨q, e, hf⟩ := jbind hf
  refine ⟨q, (jcv_o e).2, ?_⟩
  obtain ⟨q1, q2⟩ := q
  rcases q1 with v | k
  · obtain ⟨h2, e2, hf⟩ := jbind hf
    cases hf
    exact oc_asl e2
  · replace hf : (if k = 2 then some ((1 : Int32), q2) else if k = 0 then some ((2 : Int32), q2) else none) = some r := hf
    replace hf := jite hf
    rcases hf with ⟨-, hf⟩ | ⟨-, hf⟩
    · cases hf; exact ⟨rfl, rfl⟩
    replace hf := jite hf
    rcases hf with ⟨-, hf⟩ | ⟨-, hf⟩
    · cases hf; exact ⟨rfl, rfl⟩
    cases hf
theorem FLo_rests {n : Nat} {a0 : Nat} {x1 : Int32} {a2 : Nat} {h : jH} {r : Int32 × jH} (hf : FL_rests n a0 x1 a2 h = some r) : ∃ q : jR × jH, F_X11_rests n a0 x1 h = some q ∧ oc r.2 = oc q.2 ∧ r.2.1 = q.2.1 := by
  unfold FL_rests at hf
  obtain ⟨q, e, hf⟩ := jbind hf
  refine ⟨q, (jcv_o e).2, ?_⟩
  obtain ⟨q1, q2⟩ := q
  rcases q1 with v | k
  · obtain ⟨h2, e2, hf⟩ := jbind hf
    cases hf
    exact oc_asl e2
  · replace hf : (if k = 2 then some ((1 : Int32), q2) else none) = some r := hf
    replace hf := jite hf
    rcases hf with ⟨-, hf⟩ | ⟨-, hf⟩
    · cases hf; exact ⟨rfl, rfl⟩
    cases hf
theorem FLo_odds {n : Nat} {a0 : Nat} {x1 : Int32} {x2 : Int32} {a3 : Nat} {h : jH} {r : Int32 × jH} (hf : FL_odds n a0 x1 x2 a3 h = some r) : ∃ q : jR × jH, F_X11_odds n a0 x1 x2 h = some q ∧ oc r.2 = oc q.2 ∧ r.2.1 = q.2.1 := by
  unfold FL_odds at hf
  obtain ⟨q, e, hf⟩ := jbind hf
  refine ⟨q, (jcv_o e).2, ?_⟩
  obtain ⟨q1, q2⟩ := q
  rcases q1 with v | k
  · obtain ⟨h2, e2, hf⟩ := jbind hf
    cases hf
    exact oc_asl e2
  · replace hf : (if k = 2 then some ((1 : Int32), q2) else if k = 0 then some ((2 : Int32), q2) else none) = some r := hf
    replace hf := jite hf
    rcases hf with ⟨-, hf⟩ | ⟨-, hf⟩
    · cases hf; exact ⟨rfl, rfl⟩
    replace hf := jite hf
    rcases hf with ⟨-, hf⟩ | ⟨-, hf⟩
    · cases hf; exact ⟨rfl, rfl⟩
    cases hf
theorem FLo_ahead {n : Nat} {a0 : Nat} {x1 : Int32} {x2 : Int32} {a3 : Nat} {h : jH} {r : Int32 × jH} (hf : FL_ahead n a0 x1 x2 a3 h = some r) : ∃ q : jR × jH, F_X11_ahead n a0 x1 x2 h = some q ∧ oc r.2 = oc q.2 ∧ r.2.1 = q.2.1 := by
  unfold FL_ahead at hf
  obtain ⟨q, e, hf⟩ := jbind hf
  refine ⟨q, (jcv_o e).2, ?_⟩
  obtain ⟨q1, q2⟩ := q
  rcases q1 with v | k
  · obtain ⟨h2, e2, hf⟩ := jbind hf
    cases hf
    exact oc_asl e2
  · replace hf : (if k = 2 then some ((1 : Int32), q2) else if k = 0 then some ((2 : Int32), q2) else none) = some r := hf
    replace hf := jite hf
    rcases hf with ⟨-, hf⟩ | ⟨-, hf⟩
    · cases hf; exact ⟨rfl, rfl⟩
    replace hf := jite hf
    rcases hf with ⟨-, hf⟩ | ⟨-, hf⟩
    · cases hf; exact ⟨rfl, rfl⟩
    cases hf
theorem FLo_trial {n : Nat} {a0 : Nat} {x1 : Int32} {x2 : Int32} {a3 : Nat} {h : jH} {r : Int32 × jH} (hf : FL_trial n a0 x1 x2 a3 h = some r) : ∃ q : jR × jH, F_X11_trial n a0 x1 x2 h = some q ∧ oc r.2 = oc q.2 ∧ r.2.1 = q.2.1 := by
  unfold FL_trial at hf
  obtain ⟨q, e, hf⟩ := jbind hf
  refine ⟨q, (jcv_o e).2, ?_⟩
  obtain ⟨q1, q2⟩ := q
  rcases q1 with v | k
  · obtain ⟨h2, e2, hf⟩ := jbind hf
    cases hf
    exact oc_asl e2
  · replace hf : (if k = 0 then some ((1 : Int32), q2) else none) = some r := hf
    replace hf := jite hf
    rcases hf with ⟨-, hf⟩ | ⟨-, hf⟩
    · cases hf; exact ⟨rfl, rfl⟩
    cases hf
theorem FLo_span {n : Nat} {a0 : Nat} {x1 : Int32} {x2 : Int32} {a3 : Nat} {h : jH} {r : Int32 × jH} (hf : FL_span n a0 x1 x2 a3 h = some r) : ∃ q : jR × jH, F_X11_span n a0 x1 x2 h = some q ∧ oc r.2 = oc q.2 ∧ r.2.1 = q.2.1 := by
  unfold FL_span at hf
  obtain ⟨q, e, hf⟩ := jbind hf
  refine ⟨q, (jcv_o e).2, ?_⟩
  obtain ⟨q1, q2⟩ := q
  rcases q1 with v | k
  · obtain ⟨h2, e2, hf⟩ := jbind hf
    cases hf
    exact oc_asl e2
  · replace hf : (if k = 0 then some ((1 : Int32), q2) else none) = some r := hf
    replace hf := jite hf
    rcases hf with ⟨-, hf⟩ | ⟨-, hf⟩
    · cases hf; exact ⟨rfl, rfl⟩
    cases hf
theorem FLo_led {n : Nat} {a0 : Nat} {x1 : Int32} {x2 : Int32} {a3 : Nat} {h : jH} {r : Int32 × jH} (hf : FL_led n a0 x1 x2 a3 h = some r) : ∃ q : jR × jH, F_X11_led n a0 x1 x2 h = some q ∧ oc r.2 = oc q.2 ∧ r.2.1 = q.2.1 := by
  unfold FL_led at hf
  obtain ⟨q, e, hf⟩ := jbind hf
  refine ⟨q, (jcv_o e).2, ?_⟩
  obtain ⟨q1, q2⟩ := q
  rcases q1 with v | k
  · obtain ⟨h2, e2, hf⟩ := jbind hf
    cases hf
    exact oc_asl e2
  · replace hf : (if k = 2 then some ((1 : Int32), q2) else none) = some r := hf
    replace hf := jite hf
    rcases hf with ⟨-, hf⟩ | ⟨-, hf⟩
    · cases hf; exact ⟨rfl, rfl⟩
    cases hf
theorem FLo_log {n : Nat} {a0 : Nat} {x1 : Int32} {x2 : Int32} {a3 : Nat} {h : jH} {r : Int32 × jH} (hf : FL_log n a0 x1 x2 a3 h = some r) : ∃ q : jR × jH, F_X11_log n a0 x1 x2 h = some q ∧ oc r.2 = oc q.2 ∧ r.2.1 = q.2.1 := by
  unfold FL_log at hf
  obtain ⟨q, e, hf⟩ := jbind hf
  refine ⟨q, (jcv_o e).2, ?_⟩
  obtain ⟨q1, q2⟩ := q
  rcases q1 with v | k
  · obtain ⟨h2, e2, hf⟩ := jbind hf
    cases hf
    exact oc_asl e2
  · replace hf : (if k = 4 then some ((1 : Int32), q2) else none) = some r := hf
    replace hf := jite hf
    rcases hf with ⟨-, hf⟩ | ⟨-, hf⟩
    · cases hf; exact ⟨rfl, rfl⟩
    cases hf
