section
/-! questions: class alone, reference alone -/
theorem eqc {x nx r L : Nat} {W : jWd} {h h2 : jH} (E : eqS x nx r L W h) (C : frK x h h2) : eqS x nx r L W h2 := eq_Q (cs := []) (fs := []) E C frM_rfl (by decide) (by decide) rfl (fun _ => rfl)
theorem eqr_ring {x nx r L n2 : Nat} {W : jWd} {h : jH} {zx1 : Int32} {zx2 : Int32} {q : Int32 × jH} (E : eqS x nx r L W h) (e2 : F_X12_ring n2 (x + 40) zx1 zx2 h = some q) : eqS x nx r L W q.2 := eq_Q E frK_rfl (FQ_X12_ring (cls_of E).2 e2) (by decide) (by decide) (FZ_X12_ring e2) (fq_w (FQ_X12_ring (cls_of E).2 e2) (by decide))
theorem eqr_with {x nx r L n2 : Nat} {W : jWd} {h : jH} {zx1 : Int32} {zx2 : Int32} {q : Int32 × jH} (E : eqS x nx r L W h) (e2 : F_X12_with n2 (x + 40) zx1 zx2 h = some q) : eqS x nx r L W q.2 := eq_Q E frK_rfl (FQ_X12_with (cls_of E).2 e2) (by decide) (by decide) (FZ_X12_with e2) (fq_w (FQ_X12_with (cls_of E).2 e2) (by decide))
theorem eqr_tight {x nx r L n2 : Nat} {W : jWd} {h : jH} {zx1 : Int32} {q : Int32 × jH} (E : eqS x nx r L W h) (e2 : F_X12_tight n2 (x + 40) zx1 h = some q) : eqS x nx r L W q.2 := eq_Q E frK_rfl (FQ_X12_tight (cls_of E).2 e2) (by decide) (by decide) (FZ_X12_tight e2) (fq_w (FQ_X12_tight (cls_of E).2 e2) (by decide))
theorem eqr_lit {x nx r L n2 : Nat} {W : jWd} {h : jH} {zx1 : Int32} {q : Int32 × jH} (E : eqS x nx r L W h) (e2 : F_X12_lit n2 (x + 40) zx1 h = some q) : eqS x nx r L W q.2 := eq_Q E frK_rfl (FQ_X12_lit (cls_of E).2 e2) (by decide) (by decide) (FZ_X12_lit e2) (fq_w (FQ_X12_lit (cls_of E).2 e2) (by decide))
theorem eqr_lets {x nx r L n2 : Nat} {W : jWd} {h : jH} {zx1 : Int32} {zx2 : Int32} {q : Int32 × jH} (E : eqS x nx r L W h) (e2 : F_X12_lets n2 (x + 40) zx1 zx2 h = some q) : eqS x nx r L W q.2 := eq_Q E frK_rfl (FQ_X12_lets (cls_of E).2 e2) (by decide) (by decide) (FZ_X12_lets e2) (fq_w (FQ_X12_lets (cls_of E).2 e2) (by decide))
theorem eqr_rests {x nx r L n2 : Nat} {W : jWd} {h : jH} {zx1 : Int32} {q : Int32 × jH} (E : eqS x nx r L W h) (e2 : F_X12_rests n2 (x + 40) zx1 h = some q) : eqS x nx r L W q.2 := eq_Q E frK_rfl (FQ_X12_rests (cls_of E).2 e2) (by decide) (by decide) (FZ_X12_rests e2) (fq_w (FQ_X12_rests (cls_of E).2 e2) (by decide))
theorem eqr_odds {x nx r L n2 : Nat} {W : jWd} {h : jH} {zx1 : Int32} {zx2 : Int32} {q : Int32 × jH} (E : eqS x nx r L W h) (e2 : F_X12_odds n2 (x + 40) zx1 zx2 h = some q) : eqS x nx r L W q.2 := eq_Q E frK_rfl (FQ_X12_odds (cls_of E).2 e2) (by decide) (by decide) (FZ_X12_odds e2) (fq_w (FQ_X12_odds (cls_of E).2 e2) (by decide))
theorem eqr_led {x nx r L n2 : Nat} {W : jWd} {h : jH} {zx1 : Int32} {zx2 : Int32} {q : Int32 × jH} (E : eqS x nx r L W h) (e2 : F_X12_led n2 (x + 40) zx1 zx2 h = some q) : eqS x nx r L W q.2 := eq_Q E frK_rfl (FQ_X12_led (cls_of E).2 e2) (by decide) (by decide) (FZ_X12_led e2) (fq_w (FQ_X12_led (cls_of E).2 e2) (by decide))
theorem eqr_log {x nx r L n2 : Nat} {W : jWd} {h : jH} {zx1 : Int32} {zx2 : Int32} {q : Int32 × jH} (E : eqS x nx r L W h) (e2 : F_X12_log n2 (x + 40) zx1 zx2 h = some q) : eqS x nx r L W q.2 := eq_Q E frK_rfl (FQ_X12_log (cls_of E).2 e2) (by decide) (by decide) (FZ_X12_log e2) (fq_w (FQ_X12_log (cls_of E).2 e2) (by decide))
theorem eqr_goes {x nx r L n2 : Nat} {W : jWd} {h : jH} {zx1 : Int32} {zx2 : Int32} {q : Int32 × jH} (E : eqS x nx r L W h) (e2 : F_X12_goes n2 (x + 40) zx1 zx2 h = some q) {g : jGh} {Γ : Nat → Option Nat} (w2 : jW (jKd g) Γ h) (w3 : jW (jKd g) Γ q.2) (ha : Γ (x + 40 + 1) = some 21) : eqS x nx r L W q.2 := eq_Q E frK_rfl (FQ_X12_goes (cls_of E).2 e2) (by decide) (by decide) (FZ_X12_goes e2) (wr_w w2 w3 ha (BQ_X12_goes e2) (WR_X12_goes (cls_of E).2 ⟨fun _ _ _ => rfl, fun z => by cases z⟩ e2))
theorem eqr_would {x nx r L n2 : Nat} {W : jWd} {h : jH} {zx1 : Int32} {zx2 : Int32} {zx3 : Int32} {zx4 : Int32} {q : Int32 × jH} (E : eqS x nx r L W h) (e2 : F_X12_would n2 (x + 40) zx1 zx2 zx3 zx4 h = some q) {g : jGh} {Γ : Nat → Option Nat} (w2 : jW (jKd g) Γ h) (w3 : jW (jKd g) Γ q.2) (ha : Γ (x + 40 + 1) = some 21) : eqS x nx r L W q.2 := eq_Q E frK_rfl (FQ_X12_would (cls_of E).2 e2) (by decide) (by decide) (FZ_X12_would e2) (wr_w w2 w3 ha (BQ_X12_would e2) (WR_X12_would (cls_of E).2 ⟨fun _ _ _ => rfl, fun z => by cases z⟩ e2))
theorem eqr_loosen {x nx r L n2 : Nat} {W : jWd} {h : jH} {zx1 : Int32} {zx2 : Int32} {zx3 : Int32} {q : Int32 × jH} (E : eqS x nx r L W h) (e2 : F_X12_loosen n2 (x + 40) zx1 zx2 zx3 h = some q) {g : jGh} {Γ : Nat → Option Nat} (w2 : jW (jKd g) Γ h) (w3 : jW (jKd g) Γ q.2) (ha : Γ (x + 40 + 1) = some 21) : eqS x nx r L W q.2 := eq_Q E frK_rfl (FQ_X12_loosen (cls_of E).2 e2) (by decide) (by decide) (FZ_X12_loosen e2) (wr_w w2 w3 ha (BQ_X12_loosen e2) (WR_X12_loosen (cls_of E).2 ⟨fun _ _ _ => rfl, fun z => by cases z⟩ e2))
theorem eqr_faded {x nx r L n2 : Nat} {W : jWd} {h : jH} {zx1 : Int32} {q : Int32 × jH} (E : eqS x nx r L W h) (e2 : F_X12_faded n2 (x + 40) zx1 h = some q) {g : jGh} {Γ : Nat → Option Nat} (w2 : jW (jKd g) Γ h) (w3 : jW (jKd g) Γ q.2) (ha : Γ (x + 40 + 1) = some 21) : eqS x nx r L W q.2 := eq_Q E frK_rfl (FQ_X12_faded (cls_of E).2 e2) (by decide) (by decide) (FZ_X12_faded e2) (wr_w w2 w3 ha (BQ_X12_faded e2) (WR_X12_faded (cls_of E).2 ⟨fun _ _ _ => rfl, fun z => by cases z⟩ e2))
theorem eqr_ahead {x nx r L n2 : Nat} {W : jWd} {h : jH} {zx1 : Int32} {zx2 : Int32} {q : Int32 × jH} (E : eqS x nx r L W h) (e2 : F_X12_ahead n2 (x + 40) zx1 zx2 h = some q) {g : jGh} {Γ : Nat → Option Nat} (w2 : jW (jKd g) Γ h) (w3 : jW (jKd g) Γ q.2) (ha : Γ (x + 40 + 1) = some 21) : eqS x nx r L W q.2 := eq_Q E frK_rfl (FQ_X12_ahead (cls_of E).2 e2) (by decide) (by decide) (FZ_X12_ahead e2) (wr_w w2 w3 ha (BQ_X12_ahead e2) (WR_X12_ahead (cls_of E).2 ⟨fun _ _ _ => rfl, fun z => by cases z⟩ e2))
theorem eqr_trial {x nx r L n2 : Nat} {W : jWd} {h : jH} {zx1 : Int32} {zx2 : Int32} {q : Int32 × jH} (E : eqS x nx r L W h) (e2 : F_X12_trial n2 (x + 40) zx1 zx2 h = some q) {g : jGh} {Γ : Nat → Option Nat} (w2 : jW (jKd g) Γ h) (w3 : jW (jKd g) Γ q.2) (ha : Γ (x + 40 + 1) = some 21) : eqS x nx r L W q.2 := eq_Q E frK_rfl (FQ_X12_trial (cls_of E).2 e2) (by decide) (by decide) (FZ_X12_trial e2) (wr_w w2 w3 ha (BQ_X12_trial e2) (WR_X12_trial (cls_of E).2 ⟨fun _ _ _ => rfl, fun z => by cases z⟩ e2))
theorem eqr_span {x nx r L n2 : Nat} {W : jWd} {h : jH} {zx1 : Int32} {zx2 : Int32} {q : Int32 × jH} (E : eqS x nx r L W h) (e2 : F_X12_span n2 (x + 40) zx1 zx2 h = some q) {g : jGh} {Γ : Nat → Option Nat} (w2 : jW (jKd g) Γ h) (w3 : jW (jKd g) Γ q.2) (ha : Γ (x + 40 + 1) = some 21) : eqS x nx r L W q.2 := eq_Q E frK_rfl (FQ_X12_span (cls_of E).2 e2) (by decide) (by decide) (FZ_X12_span e2) (wr_w w2 w3 ha (BQ_X12_span e2) (WR_X12_span (cls_of E).2 ⟨fun _ _ _ => rfl, fun z => by cases z⟩ e2))
theorem eqr_best {x nx r L n2 : Nat} {W : jWd} {h : jH} {q : Int32 × jH} (E : eqS x nx r L W h) (e2 : F_X12_best n2 (x + 40) h = some q) {g : jGh} {Γ : Nat → Option Nat} (w2 : jW (jKd g) Γ h) (w3 : jW (jKd g) Γ q.2) (ha : Γ (x + 40 + 1) = some 21) : eqS x nx r L W q.2 := eq_Q E frK_rfl (FQ_X12_best (cls_of E).2 e2) (by decide) (by decide) (FZ_X12_best e2) (wr_w w2 w3 ha (BQ_X12_best e2) (WR_X12_best (cls_of E).2 ⟨fun _ _ _ => rfl, fun z => by cases z⟩ e2))
theorem eqr_fewest {x nx r L n2 : Nat} {W : jWd} {h : jH} {zx1 : Int32} {q : Int32 × jH} (E : eqS x nx r L W h) (e2 : F_X12_fewest n2 (x + 40) zx1 h = some q) {g : jGh} {Γ : Nat → Option Nat} (w2 : jW (jKd g) Γ h) (w3 : jW (jKd g) Γ q.2) (ha : Γ (x + 40 + 1) = some 21) : eqS x nx r L W q.2 := eq_Q E frK_rfl (FQ_X12_fewest (cls_of E).2 e2) (by decide) (by decide) (FZ_X12_fewest e2) (wr_w w2 w3 ha (BQ_X12_fewest e2) (WR_X12_fewest (cls_of E).2 ⟨fun _ _ _ => rfl, fun z => by cases z⟩ e2))
theorem eqr_first {x nx r L n2 : Nat} {W : jWd} {h : jH} {zx1 : Int32} {q : Int32 × jH} (E : eqS x nx r L W h) (e2 : F_X12_first n2 (x + 40) zx1 h = some q) {g : jGh} {Γ : Nat → Option Nat} (w2 : jW (jKd g) Γ h) (w3 : jW (jKd g) Γ q.2) (ha : Γ (x + 40 + 1) = some 21) : eqS x nx r L W q.2 := eq_Q E frK_rfl (FQ_X12_first (cls_of E).2 e2) (by decide) (by decide) (FZ_X12_first e2) (wr_w w2 w3 ha (BQ_X12_first e2) (WR_X12_first (cls_of E).2 ⟨fun _ _ _ => rfl, fun z => by cases z⟩ e2))
theorem eqr_pale {x nx r L n2 : Nat} {W : jWd} {h : jH} {q : Int32 × jH} (E : eqS x nx r L W h) (e2 : F_X12_pale n2 (x + 40) h = some q) {g : jGh} {Γ : Nat → Option Nat} (w2 : jW (jKd g) Γ h) (w3 : jW (jKd g) Γ q.2) (ha : Γ (x + 40 + 1) = some 21) : eqS x nx r L W q.2 := eq_Q E frK_rfl (FQ_X12_pale (cls_of E).2 e2) (by decide) (by decide) (FZ_X12_pale e2) (wr_w w2 w3 ha (BQ_X12_pale e2) (WR_X12_pale (cls_of E).2 ⟨fun _ _ _ => rfl, fun z => by cases z⟩ e2))
theorem eqz_snags {x nx r L n n2 : Nat} {W : jWd} {h : jH} {y z : Int32} {p : jR × jH} {q : Int32 × jH} (E : eqS x nx r L W h) (e1 : F_X11_snags n x y h = some p) {h1 : jH} (ho : oc h1 = oc p.2) (hz : p.2.1 ≤ h1.1) (e2 : F_X12_snags n2 (x + 40) z h1 = some q) {g g2 : jGh} {Γ : Nat → Option Nat} (hg : g2.2.2.2.1 = g.2.2.2.1) (w2 : jW (jKd g) Γ h1) (w3 : jW (jKd g2) Γ q.2) (ha : Γ (x + 40 + 1) = some 21) : eqS x nx r 0 W q.2 := by
  have C := FT_snags (cls_of E).1 e1
  have M2 : mS (oc h1) (x + 40) := by rw [ho]; exact cls_mT E C
  have F := FQ_X12_snags M2 e2
  have hw := wr_w2 hg w2 w3 ha (BQ_X12_snags e2) (WR_X12_snags M2 ⟨fun _ _ _ => rfl, fun z => by cases z⟩ e2)
  have u := U_snags M2 (by rw [ho]; exact h9_T E C) e2
  have s := FZ_X12_snags e2
  rw [ho] at F hw
  exact eq_z3 (z := p.2.1) (by rw [s]; exact hz) (eq_QT (h3 := (p.2.1, q.2.2)) E C F (by decide) (by decide) rfl hw u)
theorem eqz_tries {x nx r L n n2 : Nat} {W : jWd} {h : jH} {p : jR × jH} {q : Int32 × jH} (E : eqS x nx r L W h) (e1 : F_X11_tries n x h = some p) {h1 : jH} (ho : oc h1 = oc p.2) (hz : p.2.1 ≤ h1.1) (e2 : F_X12_tries n2 (x + 40) h1 = some q) {g g2 : jGh} {Γ : Nat → Option Nat} (hg : g2.2.2.2.1 = g.2.2.2.1) (w2 : jW (jKd g) Γ h1) (w3 : jW (jKd g2) Γ q.2) (ha : Γ (x + 40 + 1) = some 21) : eqS x nx r 0 W q.2 := by
  have C := FT_tries (cls_of E).1 e1
  have M2 : mS (oc h1) (x + 40) := by rw [ho]; exact cls_mT E C
  have F := FQ_X12_tries M2 e2
  have hw := wr_w2 hg w2 w3 ha (BQ_X12_tries e2) (WR_X12_tries M2 ⟨fun _ _ _ => rfl, fun z => by cases z⟩ e2)
  have u := U_tries M2 (by rw [ho]; exact h9_T E C) e2
  have s := FZ_X12_tries e2
  rw [ho] at F hw
  exact eq_z3 (z := p.2.1) (by rw [s]; exact hz) (eq_QT (h3 := (p.2.1, q.2.2)) E C F (by decide) (by decide) rfl hw u)
end
section
/-! typed heaps through the law's own methods -/
theorem t_asl {g : jGh} {Γ : Nat → Option Nat} {h h2 : jH} {out : Nat} {i : Int32} {v : Int64} (e : jasl h out i v = some h2) (w : jW (jKd g) Γ h) (to : Γ out = some 40) : jW (jKd g) Γ h2 := by
  obtain ⟨n, f, e1, -, rfl⟩ := jasl_o e
  have h3 : ∃ f : Nat → Int64, h.2 out = some (.inr (.inr (.inr (1, f)))) ∧ ((0 : Nat) = 0 ∨ (0 : Nat) % 18446744073709551616 = (f 0).toUInt64.toNat) := (w out 40 to).2
  obtain ⟨f2, e2, -⟩ := h3
  rw [e1] at e2
  cases e2
  refine t_put w (fun c hc => ?_)
  cases to.symm.trans hc
  exact okE_l
theorem t_z4 {Θ : Nat → jD} {Γ : Nat → Option Nat} {h : jH} {z : Nat} (w : jW Θ Γ h) (hz : h.1 ≤ z) : jW Θ Γ (z, h.2) := fun a c q => ⟨Nat.lt_of_lt_of_le (w a c q).1 hz, (w a c q).2⟩
theorem t_ref {g : jGh} {Γ : Nat → Option Nat} {h : jH} {a b c c2 ci k : Nat} {Fs : List jF} (w : jW (jKd g) Γ h) (ha : Γ a = some c) (hc : jKd g c = .inr (.inr (ci, Fs))) (hk : Fs[k]? = some (.inr (.inl c2))) (ho : oc h a k = .ref b) : Γ b = some c2 := by
  obtain ⟨vs, e1, -, e3⟩ := t_obj w ha hc
  obtain ⟨v, e4, d, e5, e6⟩ := e3 k _ hk
  have e7 : oc h a k = v := by
    unfold oc
    rw [e1]
    show vs.getD k .null = v
    rw [List.getD_eq_getElem?_getD, e4]
    rfl
  rw [e7, e5] at ho
  cases ho
  exact e6
theorem t_w {g : jGh} {Γ : Nat → Option Nat} {h : jH} {m : Nat} (w : jW (jKd g) Γ h) (tm : Γ m = some 20) (M : mS (oc h) m) : Γ (m + 1) = some 21 := t_ref w tm rfl rfl M.1
theorem jok_v {α : Type} {o : Option α} {P : α → Prop} {v : α} (j : jok o P) (e : o = some v) : P v := by
  obtain ⟨u, e1, p⟩ := j
  rw [e1] at e
  cases e
  exact p
theorem FLw_pole {n : Nat} {a0 : Nat} {a1 : Nat} {h : jH} {r : Int32 × jH} (hf : FL_pole n a0 a1 h = some r) : ∃ q : jR × jH, F_X11_pole n a0 h = some q ∧ ∀ {g : jGh} {Γ : Nat → Option Nat}, jW (jKd g) Γ q.2 → Γ a1 = some 40 → jW (jKd g) Γ r.2 := by
  unfold FL_pole at hf
  obtain ⟨q, e, hf⟩ := jbind hf
  refine ⟨q, (jcv_o e).2, ?_⟩
  obtain ⟨q1, q2⟩ := q
  rcases q1 with v | k
  · obtain ⟨h2, e2, hf⟩ := jbind hf
    cases hf
    intro g Γ w to; exact t_asl e2 w to
  · replace hf : (if k = 0 then some ((1 : Int32), q2) else if k = 3 then some ((2 : Int32), q2) else none) = some r := hf
    replace hf := jite hf
    rcases hf with ⟨-, hf⟩ | ⟨-, hf⟩
    · cases hf; intro g Γ w _; exact w
    replace hf := jite hf
    rcases hf with ⟨-, hf⟩ | ⟨-, hf⟩
    · cases hf; intro g Γ w _; exact w
    cases hf
theorem FLw_law {n : Nat} {a0 : Nat} {a1 : Nat} {h : jH} {r : Int32 × jH} (hf : FL_law n a0 a1 h = some r) : ∃ q : jR × jH, F_X11_law n a0 h = some q ∧ ∀ {g : jGh} {Γ : Nat → Option Nat}, jW (jKd g) Γ q.2 → Γ a1 = some 40 → jW (jKd g) Γ r.2 := by
  unfold FL_law at hf
  obtain ⟨q, e, hf⟩ := jbind hf
  refine ⟨q, (jcv_o e).2, ?_⟩
  obtain ⟨q1, q2⟩ := q
  rcases q1 with v | k
  · obtain ⟨h2, e2, hf⟩ := jbind hf
    cases hf
    intro g Γ w to; exact t_asl e2 w to
  · replace hf : (if k = 0 then some ((1 : Int32), q2) else none) = some r := hf
    replace hf := jite hf
    rcases hf with ⟨-, hf⟩ | ⟨-, hf⟩
    · cases hf; intro g Γ w _; exact w
    cases hf
theorem FLw_ring {n : Nat} {a0 : Nat} {x1 : Int32} {x2 : Int32} {a3 : Nat} {h : jH} {r : Int32 × jH} (hf : FL_ring n a0 x1 x2 a3 h = some r) : ∃ q : jR × jH, F_X11_ring n a0 x1 x2 h = some q ∧ ∀ {g : jGh} {Γ : Nat → Option Nat}, jW (jKd g) Γ q.2 → Γ a3 = some 40 → jW (jKd g) Γ r.2 := by
  unfold FL_ring at hf
  obtain ⟨q, e, hf⟩ := jbind hf
  refine ⟨q, (jcv_o e).2, ?_⟩
  obtain ⟨q1, q2⟩ := q
  rcases q1 with v | k
  · obtain ⟨h2, e2, hf⟩ := jbind hf
    cases hf
    intro g Γ w to; exact t_asl e2 w to
  · replace hf : (if k = 2 then some ((1 : Int32), q2) else if k = 4 then some ((2 : Int32), q2) else none) = some r := hf
    replace hf := jite hf
    rcases hf with ⟨-, hf⟩ | ⟨-, hf⟩
    · cases hf; intro g Γ w _; exact w
    replace hf := jite hf
    rcases hf with ⟨-, hf⟩ | ⟨-, hf⟩
    · cases hf; intro g Γ w _; exact w
    cases hf
theorem FLw_pull {n : Nat} {a0 : Nat} {x1 : Int32} {x2 : Int32} {x3 : Int32} {a4 : Nat} {h : jH} {r : Int32 × jH} (hf : FL_pull n a0 x1 x2 x3 a4 h = some r) : ∃ q : jR × jH, F_X11_pull n a0 x1 x2 x3 h = some q ∧ ∀ {g : jGh} {Γ : Nat → Option Nat}, jW (jKd g) Γ q.2 → Γ a4 = some 40 → jW (jKd g) Γ r.2 := by
  unfold FL_pull at hf
  obtain ⟨q, e, hf⟩ := jbind hf
  refine ⟨q, (jcv_o e).2, ?_⟩
  obtain ⟨q1, q2⟩ := q
  rcases q1 with v | k
  · obtain ⟨h2, e2, hf⟩ := jbind hf
    cases hf
    intro g Γ w to; exact t_asl e2 w to
  · replace hf : (if k = 2 then some ((1 : Int32), q2) else if k = 0 then some ((2 : Int32), q2) else none) = some r := hf
    replace hf := jite hf
    rcases hf with ⟨-, hf⟩ | ⟨-, hf⟩
    · cases hf; intro g Γ w _; exact w
    replace hf := jite hf
    rcases hf with ⟨-, hf⟩ | ⟨-, hf⟩
    · cases hf; intro g Γ w _; exact w
    cases hf
theorem FLw_free {n : Nat} {a0 : Nat} {x1 : Int32} {a2 : Nat} {h : jH} {r : Int32 × jH} (hf : FL_free n a0 x1 a2 h = some r) : ∃ q : jR × jH, F_X11_free n a0 x1 h = some q ∧ ∀ {g : jGh} {Γ : Nat → Option Nat}, jW (jKd g) Γ q.2 → Γ a2 = some 40 → jW (jKd g) Γ r.2 := by
  unfold FL_free at hf
  obtain ⟨q, e, hf⟩ := jbind hf
  refine ⟨q, (jcv_o e).2, ?_⟩
  obtain ⟨q1, q2⟩ := q
  rcases q1 with v | k
  · obtain ⟨h2, e2, hf⟩ := jbind hf
    cases hf
    intro g Γ w to; exact t_asl e2 w to
  · replace hf : (if k = 2 then some ((1 : Int32), q2) else if k = 1 then some ((2 : Int32), q2) else none) = some r := hf
    replace hf := jite hf
    rcases hf with ⟨-, hf⟩ | ⟨-, hf⟩
    · cases hf; intro g Γ w _; exact w
    replace hf := jite hf
    rcases hf with ⟨-, hf⟩ | ⟨-, hf⟩
    · cases hf; intro g Γ w _; exact w
    cases hf
theorem FLw_snag {n : Nat} {a0 : Nat} {x1 : Int32} {a2 : Nat} {h : jH} {r : Int32 × jH} (hf : FL_snag n a0 x1 a2 h = some r) : ∃ q : jR × jH, F_X11_snag n a0 x1 h = some q ∧ ∀ {g : jGh} {Γ : Nat → Option Nat}, jW (jKd g) Γ q.2 → Γ a2 = some 40 → jW (jKd g) Γ r.2 := by
  unfold FL_snag at hf
  obtain ⟨q, e, hf⟩ := jbind hf
  refine ⟨q, (jcv_o e).2, ?_⟩
  obtain ⟨q1, q2⟩ := q
  rcases q1 with v | k
  · obtain ⟨h2, e2, hf⟩ := jbind hf
    cases hf
    intro g Γ w to; exact t_asl e2 w to
  · replace hf : (if k = 2 then some ((1 : Int32), q2) else if k = 1 then some ((2 : Int32), q2) else none) = some r := hf
    replace hf := jite hf
    rcases hf with ⟨-, hf⟩ | ⟨-, hf⟩
    · cases hf; intro g Γ w _; exact w
    replace hf := jite hf
    rcases hf with ⟨-, hf⟩ | ⟨-, hf⟩
    · cases hf; intro g Γ w _; exact w
    cases hf
theorem FLw_hook {n : Nat} {a0 : Nat} {x1 : Int32} {x2 : Int32} {a3 : Nat} {h : jH} {r : Int32 × jH} (hf : FL_hook n a0 x1 x2 a3 h = some r) : ∃ q : jR × jH, F_X11_hook n a0 x1 x2 h = some q ∧ ∀ {g : jGh} {Γ : Nat → Option Nat}, jW (jKd g) Γ q.2 → Γ a3 = some 40 → jW (jKd g) Γ r.2 := by
  unfold FL_hook at hf
  obtain ⟨q, e, hf⟩ := jbind hf
  refine ⟨q, (jcv_o e).2, ?_⟩
  obtain ⟨q1, q2⟩ := q
  rcases q1 with v | k
  · obtain ⟨h2, e2, hf⟩ := jbind hf
    cases hf
    intro g Γ w to; exact t_asl e2 w to
  · replace hf : (if k = 2 then some ((1 : Int32), q2) else none) = some r := hf
    replace hf := jite hf
    rcases hf with ⟨-, hf⟩ | ⟨-, hf⟩
    · cases hf; intro g Γ w _; exact w
    cases hf
theorem FLw_sew {n : Nat} {a0 : Nat} {x1 : Int32} {x2 : Int32} {a3 : Nat} {h : jH} {r : Int32 × jH} (hf : FL_sew n a0 x1 x2 a3 h = some r) : ∃ q : jR × jH, F_X11_sew n a0 x1 x2 h = some q ∧ ∀ {g : jGh} {Γ : Nat → Option Nat}, jW (jKd g) Γ q.2 → Γ a3 = some 40 → jW (jKd g) Γ r.2 := by
  unfold FL_sew at hf
  obtain ⟨q, e, hf⟩ := jbind hf
  refine ⟨q, (jcv_o e).2, ?_⟩
  obtain ⟨q1, q2⟩ := q
  rcases q1 with v | k
  · obtain ⟨h2, e2, hf⟩ := jbind hf
    cases hf
    intro g Γ w to; exact t_asl e2 w to
  · replace hf : (if k = 2 then some ((1 : Int32), q2) else if k = 0 then some ((2 : Int32), q2) else if k = 1 then some ((3 : Int32), q2) else none) = some r := hf
    replace hf := jite hf
    rcases hf with ⟨-, hf⟩ | ⟨-, hf⟩
    · cases hf; intro g Γ w _; exact w
    replace hf := jite hf
    rcases hf with ⟨-, hf⟩ | ⟨-, hf⟩
    · cases hf; intro g Γ w _; exact w
    replace hf := jite hf
    rcases hf with ⟨-, hf⟩ | ⟨-, hf⟩
    · cases hf; intro g Γ w _; exact w
    cases hf
theorem FLw_let {n : Nat} {a0 : Nat} {x1 : Int32} {x2 : Int32} {a3 : Nat} {h : jH} {r : Int32 × jH} (hf : FL_let n a0 x1 x2 a3 h = some r) : ∃ q : jR × jH, F_X11_let n a0 x1 x2 h = some q ∧ ∀ {g : jGh} {Γ : Nat → Option Nat}, jW (jKd g) Γ q.2 → Γ a3 = some 40 → jW (jKd g) Γ r.2 := by
  unfold FL_let at hf
  obtain ⟨q, e, hf⟩ := jbind hf
  refine ⟨q, (jcv_o e).2, ?_⟩
  obtain ⟨q1, q2⟩ := q
  rcases q1 with v | k
  · obtain ⟨h2, e2, hf⟩ := jbind hf
    cases hf
    intro g Γ w to; exact t_asl e2 w to
  · replace hf : (if k = 2 then some ((1 : Int32), q2) else if k = 0 then some ((2 : Int32), q2) else none) = some r := hf
    replace hf := jite hf
    rcases hf with ⟨-, hf⟩ | ⟨-, hf⟩
    · cases hf; intro g Γ w _; exact w
    replace hf := jite hf
    rcases hf with ⟨-, hf⟩ | ⟨-, hf⟩
    · cases hf; intro g Γ w _; exact w
    cases hf
theorem FLw_chair {n : Nat} {a0 : Nat} {x1 : Int32} {x2 : Int32} {a3 : Nat} {h : jH} {r : Int32 × jH} (hf : FL_chair n a0 x1 x2 a3 h = some r) : ∃ q : jR × jH, F_X11_chair n a0 x1 x2 h = some q ∧ ∀ {g : jGh} {Γ : Nat → Option Nat}, jW (jKd g) Γ q.2 → Γ a3 = some 40 → jW (jKd g) Γ r.2 := by
  unfold FL_chair at hf
  obtain ⟨q, e, hf⟩ := jbind hf
  refine ⟨q, (jcv_o e).2, ?_⟩
  obtain ⟨q1, q2⟩ := q
  rcases q1 with v | k
  · obtain ⟨h2, e2, hf⟩ := jbind hf
    cases hf
    intro g Γ w to; exact t_asl e2 w to
  · replace hf : (if k = 2 then some ((1 : Int32), q2) else none) = some r := hf
    replace hf := jite hf
    rcases hf with ⟨-, hf⟩ | ⟨-, hf⟩
    · cases hf; intro g Γ w _; exact w
    cases hf
theorem FLw_hours {n : Nat} {a0 : Nat} {x1 : Int32} {a2 : Nat} {h : jH} {r : Int32 × jH} (hf : FL_hours n a0 x1 a2 h = some r) : ∃ q : jR × jH, F_X11_hours n a0 x1 h = some q ∧ ∀ {g : jGh} {Γ : Nat → Option Nat}, jW (jKd g) Γ q.2 → Γ a2 = some 40 → jW (jKd g) Γ r.2 := by
  unfold FL_hours at hf
  obtain ⟨q, e, hf⟩ := jbind hf
  refine ⟨q, (jcv_o e).2, ?_⟩
  obtain ⟨q1, q2⟩ := q
  rcases q1 with v | k
  · obtain ⟨h2, e2, hf⟩ := jbind hf
    cases hf
    intro g Γ w to; exact t_asl e2 w to
  · replace hf : (if k = 0 then some ((1 : Int32), q2) else none) = some r := hf
    replace hf := jite hf
    rcases hf with ⟨-, hf⟩ | ⟨-, hf⟩
    · cases hf; intro g Γ w _; exact w
    cases hf
theorem FLw_goes {n : Nat} {a0 : Nat} {x1 : Int32} {x2 : Int32} {a3 : Nat} {h : jH} {r : Int32 × jH} (hf : FL_goes n a0 x1 x2 a3 h = some r) : ∃ q : jR × jH, F_X11_goes n a0 x1 x2 h = some q ∧ ∀ {g : jGh} {Γ : Nat → Option Nat}, jW (jKd g) Γ q.2 → Γ a3 = some 40 → jW (jKd g) Γ r.2 := by
  unfold FL_goes at hf
  obtain ⟨q, e, hf⟩ := jbind hf
  refine ⟨q, (jcv_o e).2, ?_⟩
  obtain ⟨q1, q2⟩ := q
  rcases q1 with v | k
  · obtain ⟨h2, e2, hf⟩ := jbind hf
    cases hf
    intro g Γ w to; exact t_asl e2 w to
  · replace hf : (if k = 2 then some ((1 : Int32), q2) else none) = some r := hf
    replace hf := jite hf
    rcases hf with ⟨-, hf⟩ | ⟨-, hf⟩
    · cases hf; intro g Γ w _; exact w
    cases hf
theorem FLw_with {n : Nat} {a0 : Nat} {x1 : Int32} {x2 : Int32} {a3 : Nat} {h : jH} {r : Int32 × jH} (hf : FL_with n a0 x1 x2 a3 h = some r) : ∃ q : jR × jH, F_X11_with n a0 x1 x2 h = some q ∧ ∀ {g : jGh} {Γ : Nat → Option Nat}, jW (jKd g) Γ q.2 → Γ a3 = some 40 → jW (jKd g) Γ r.2 := by
  unfold FL_with at hf
  obtain ⟨q, e, hf⟩ := jbind hf
  refine ⟨q, (jcv_o e).2, ?_⟩
  obtain ⟨q1, q2⟩ := q
  rcases q1 with v | k
  · obtain ⟨h2, e2, hf⟩ := jbind hf
    cases hf
    intro g Γ w to; exact t_asl e2 w to
  · replace hf : (if k = 2 then some ((1 : Int32), q2) else none) = some r := hf
    replace hf := jite hf
    rcases hf with ⟨-, hf⟩ | ⟨-, hf⟩
    · cases hf; intro g Γ w _; exact w
    cases hf
theorem FLw_would {n : Nat} {a0 : Nat} {x1 : Int32} {x2 : Int32} {x3 : Int32} {x4 : Int32} {a5 : Nat} {h : jH} {r : Int32 × jH} (hf : FL_would n a0 x1 x2 x3 x4 a5 h = some r) : ∃ q : jR × jH, F_X11_would n a0 x1 x2 x3 x4 h = some q ∧ ∀ {g : jGh} {Γ : Nat → Option Nat}, jW (jKd g) Γ q.2 → Γ a5 = some 40 → jW (jKd g) Γ r.2 := by
  unfold FL_would at hf
  obtain ⟨q, e, hf⟩ := jbind hf
  refine ⟨q, (jcv_o e).2, ?_⟩
  obtain ⟨q1, q2⟩ := q
  rcases q1 with v | k
  · obtain ⟨h2, e2, hf⟩ := jbind hf
    cases hf
    intro g Γ w to; exact t_asl e2 w to
  · replace hf : (if k = 2 then some ((1 : Int32), q2) else if k = 0 then some ((2 : Int32), q2) else none) = some r := hf
    replace hf := jite hf
    rcases hf with ⟨-, hf⟩ | ⟨-, hf⟩
    · cases hf; intro g Γ w _; exact w
    replace hf := jite hf
    rcases hf with ⟨-, hf⟩ | ⟨-, hf⟩
    · cases hf; intro g Γ w _; exact w
    cases hf
theorem FLw_snags {n : Nat} {a0 : Nat} {x1 : Int32} {a2 : Nat} {h : jH} {r : Int32 × jH} (hf : FL_snags n a0 x1 a2 h = some r) : ∃ q : jR × jH, F_X11_snags n a0 x1 h = some q ∧ ∀ {g : jGh} {Γ : Nat → Option Nat}, jW (jKd g) Γ q.2 → Γ a2 = some 40 → jW (jKd g) Γ r.2 := by
  unfold FL_snags at hf
  obtain ⟨q, e, hf⟩ := jbind hf
  refine ⟨q, (jcv_o e).2, ?_⟩
  obtain ⟨q1, q2⟩ := q
  rcases q1 with v | k
  · obtain ⟨h2, e2, hf⟩ := jbind hf
    cases hf
    intro g Γ w to; exact t_asl e2 w to
  · replace hf : (if k = 0 then some ((1 : Int32), q2) else none) = some r := hf
    replace hf := jite hf
    rcases hf with ⟨-, hf⟩ | ⟨-, hf⟩
    · cases hf; intro g Γ w _; exact w
    cases hf
theorem FLw_tries {n : Nat} {a0 : Nat} {a1 : Nat} {h : jH} {r : Int32 × jH} (hf : FL_tries n a0 a1 h = some r) : ∃ q : jR × jH, F_X11_tries n a0 h = some q ∧ ∀ {g : jGh} {Γ : Nat → Option Nat}, jW (jKd g) Γ q.2 → Γ a1 = some 40 → jW (jKd g) Γ r.2 := by
  unfold FL_tries at hf
  obtain ⟨q, e, hf⟩ := jbind hf
  refine ⟨q, (jcv_o e).2, ?_⟩
  obtain ⟨q1, q2⟩ := q
  rcases q1 with v | k
  · obtain ⟨h2, e2, hf⟩ := jbind hf
    cases hf
    intro g Γ w to; exact t_asl e2 w to
  · replace hf : (if k = 0 then some ((1 : Int32), q2) else none) = some r := hf
    replace hf := jite hf
    rcases hf with ⟨-, hf⟩ | ⟨-, hf⟩
    · cases hf; intro g Γ w _; exact w
    cases hf
theorem FLw_loosen {n : Nat} {a0 : Nat} {x1 : Int32} {x2 : Int32} {x3 : Int32} {a4 : Nat} {h : jH} {r : Int32 × jH} (hf : FL_loosen n a0 x1 x2 x3 a4 h = some r) : ∃ q : jR × jH, F_X11_loosen n a0 x1 x2 x3 h = some q ∧ ∀ {g : jGh} {Γ : Nat → Option Nat}, jW (jKd g) Γ q.2 → Γ a4 = some 40 → jW (jKd g) Γ r.2 := by
  unfold FL_loosen at hf
  obtain ⟨q, e, hf⟩ := jbind hf
  refine ⟨q, (jcv_o e).2, ?_⟩
  obtain ⟨q1, q2⟩ := q
  rcases q1 with v | k
  · obtain ⟨h2, e2, hf⟩ := jbind hf
    cases hf
    intro g Γ w to; exact t_asl e2 w to
  · replace hf : (if k = 2 then some ((1 : Int32), q2) else if k = 0 then some ((2 : Int32), q2) else none) = some r := hf
    replace hf := jite hf
    rcases hf with ⟨-, hf⟩ | ⟨-, hf⟩
    · cases hf; intro g Γ w _; exact w
    replace hf := jite hf
    rcases hf with ⟨-, hf⟩ | ⟨-, hf⟩
    · cases hf; intro g Γ w _; exact w
    cases hf
theorem FLw_tight {n : Nat} {a0 : Nat} {x1 : Int32} {a2 : Nat} {h : jH} {r : Int32 × jH} (hf : FL_tight n a0 x1 a2 h = some r) : ∃ q : jR × jH, F_X11_tight n a0 x1 h = some q ∧ ∀ {g : jGh} {Γ : Nat → Option Nat}, jW (jKd g) Γ q.2 → Γ a2 = some 40 → jW (jKd g) Γ r.2 := by
  unfold FL_tight at hf
  obtain ⟨q, e, hf⟩ := jbind hf
  refine ⟨q, (jcv_o e).2, ?_⟩
  obtain ⟨q1, q2⟩ := q
  rcases q1 with v | k
  · obtain ⟨h2, e2, hf⟩ := jbind hf
    cases hf
    intro g Γ w to; exact t_asl e2 w to
  · replace hf : (if k = 0 then some ((1 : Int32), q2) else none) = some r := hf
    replace hf := jite hf
    rcases hf with ⟨-, hf⟩ | ⟨-, hf⟩
    · cases hf; intro g Γ w _; exact w
    cases hf
theorem FLw_lit {n : Nat} {a0 : Nat} {x1 : Int32} {a2 : Nat} {h : jH} {r : Int32 × jH} (hf : FL_lit n a0 x1 a2 h = some r) : ∃ q : jR × jH, F_X11_lit n a0 x1 h = some q ∧ ∀ {g : jGh} {Γ : Nat → Option Nat}, jW (jKd g) Γ q.2 → Γ a2 = some 40 → jW (jKd g) Γ r.2 := by
  unfold FL_lit at hf
  obtain ⟨q, e, hf⟩ := jbind hf
  refine ⟨q, (jcv_o e).2, ?_⟩
  obtain ⟨q1, q2⟩ := q
  rcases q1 with v | k
  · obtain ⟨h2, e2, hf⟩ := jbind hf
    cases hf
    intro g Γ w to; exact t_asl e2 w to
  · replace hf : (if k = 2 then some ((1 : Int32), q2) else none) = some r := hf
    replace hf := jite hf
    rcases hf with ⟨-, hf⟩ | ⟨-, hf⟩
    · cases hf; intro g Γ w _; exact w
    cases hf
theorem FLw_faded {n : Nat} {a0 : Nat} {x1 : Int32} {a2 : Nat} {h : jH} {r : Int32 × jH} (hf : FL_faded n a0 x1 a2 h = some r) : ∃ q : jR × jH, F_X11_faded n a0 x1 h = some q ∧ ∀ {g : jGh} {Γ : Nat → Option Nat}, jW (jKd g) Γ q.2 → Γ a2 = some 40 → jW (jKd g) Γ r.2 := by
  unfold FL_faded at hf
  obtain ⟨q, e, hf⟩ := jbind hf
  refine ⟨q, (jcv_o e).2, ?_⟩
  obtain ⟨q1, q2⟩ := q
  rcases q1 with v | k
  · obtain ⟨h2, e2, hf⟩ := jbind hf
    cases hf
    intro g Γ w to; exact t_asl e2 w to
  · replace hf : (if k = 0 then some ((1 : Int32), q2) else none) = some r := hf
    replace hf := jite hf
    rcases hf with ⟨-, hf⟩ | ⟨-, hf⟩
    · cases hf; intro g Γ w _; exact w
    cases hf
theorem FLw_lets {n : Nat} {a0 : Nat} {x1 : Int32} {x2 : Int32} {a3 : Nat} {h : jH} {r : Int32 × jH} (hf : FL_lets n a0 x1 x2 a3 h = some r) : ∃ q : jR × jH, F_X11_lets n a0 x1 x2 h = some q ∧ ∀ {g : jGh} {Γ : Nat → Option Nat}, jW (jKd g) Γ q.2 → Γ a3 = some 40 → jW (jKd g) Γ r.2 := by
  unfold FL_lets at hf
  obtain ⟨q, e, hf⟩ := jbind hf
  refine ⟨q, (jcv_o e).2, ?_⟩
  obtain ⟨q1, q2⟩ := q
  rcases q1 with v | k
  · obtain ⟨h2, e2, hf⟩ := jbind hf
    cases hf
    intro g Γ w to; exact t_asl e2 w to
  · replace hf : (if k = 2 then some ((1 : Int32), q2) else if k = 0 then some ((2 : Int32), q2) else none) = some r := hf
    replace hf := jite hf
    rcases hf with ⟨-, hf⟩ | ⟨-, hf⟩
    · cases hf; intro g Γ w _; exact w
    replace hf := jite hf
    rcases hf with ⟨-, hf⟩ | ⟨-, hf⟩
    · cases hf; intro g Γ w _; exact w
    cases hf
theorem FLw_rests {n : Nat} {a0 : Nat} {x1 : Int32} {a2 : Nat} {h : jH} {r : Int32 × jH} (hf : FL_rests n a0 x1 a2 h = some r) : ∃ q : jR × jH, F_X11_rests n a0 x1 h = some q ∧ ∀ {g : jGh} {Γ : Nat → Option Nat}, jW (jKd g) Γ q.2 → Γ a2 = some 40 → jW (jKd g) Γ r.2 := by
  unfold FL_rests at hf
  obtain ⟨q, e, hf⟩ := jbind hf
  refine ⟨q, (jcv_o e).2, ?_⟩
  obtain ⟨q1, q2⟩ := q
  rcases q1 with v | k
  · obtain ⟨h2, e2, hf⟩ := jbind hf
    cases hf
    intro g Γ w to; exact t_asl e2 w to
  · replace hf : (if k = 2 then some ((1 : Int32), q2) else none) = some r := hf
    replace hf := jite hf
    rcases hf with ⟨-, hf⟩ | ⟨-, hf⟩
    · cases hf; intro g Γ w _; exact w
    cases hf
theorem FLw_odds {n : Nat} {a0 : Nat} {x1 : Int32} {x2 : Int32} {a3 : Nat} {h : jH} {r : Int32 × jH} (hf : FL_odds n a0 x1 x2 a3 h = some r) : ∃ q : jR × jH, F_X11_odds n a0 x1 x2 h = some q ∧ ∀ {g : jGh} {Γ : Nat → Option Nat}, jW (jKd g) Γ q.2 → Γ a3 = some 40 → jW (jKd g) Γ r.2 := by
  unfold FL_odds at hf
  obtain ⟨q, e, hf⟩ := jbind hf
  refine ⟨q, (jcv_o e).2, ?_⟩
  obtain ⟨q1, q2⟩ := q
  rcases q1 with v | k
  · obtain ⟨h2, e2, hf⟩ := jbind hf
    cases hf
    intro g Γ w to; exact t_asl e2 w to
  · replace hf : (if k = 2 then some ((1 : Int32), q2) else if k = 0 then some ((2 : Int32), q2) else none) = some r := hf
    replace hf := jite hf
    rcases hf with ⟨-, hf⟩ | ⟨-, hf⟩
    · cases hf; intro g Γ w _; exact w
    replace hf := jite hf
    rcases hf with ⟨-, hf⟩ | ⟨-, hf⟩
    · cases hf; intro g Γ w _; exact w
    cases hf
theorem FLw_ahead {n : Nat} {a0 : Nat} {x1 : Int32} {x2 : Int32} {a3 : Nat} {h : jH} {r : Int32 × jH} (hf : FL_ahead n a0 x1 x2 a3 h = some r) : ∃ q : jR × jH, F_X11_ahead n a0 x1 x2 h = some q ∧ ∀ {g : jGh} {Γ : Nat → Option Nat}, jW (jKd g) Γ q.2 → Γ a3 = some 40 → jW (jKd g) Γ r.2 := by
  unfold FL_ahead at hf
  obtain ⟨q, e, hf⟩ := jbind hf
  refine ⟨q, (jcv_o e).2, ?_⟩
  obtain ⟨q1, q2⟩ := q
  rcases q1 with v | k
  · obtain ⟨h2, e2, hf⟩ := jbind hf
    cases hf
    intro g Γ w to; exact t_asl e2 w to
  · replace hf : (if k = 2 then some ((1 : Int32), q2) else if k = 0 then some ((2 : Int32), q2) else none) = some r := hf
    replace hf := jite hf
    rcases hf with ⟨-, hf⟩ | ⟨-, hf⟩
    · cases hf; intro g Γ w _; exact w
    replace hf := jite hf
    rcases hf with ⟨-, hf⟩ | ⟨-, hf⟩
    · cases hf; intro g Γ w _; exact w
    cases hf
theorem FLw_trial {n : Nat} {a0 : Nat} {x1 : Int32} {x2 : Int32} {a3 : Nat} {h : jH} {r : Int32 × jH} (hf : FL_trial n a0 x1 x2 a3 h = some r) : ∃ q : jR × jH, F_X11_trial n a0 x1 x2 h = some q ∧ ∀ {g : jGh} {Γ : Nat → Option Nat}, jW (jKd g) Γ q.2 → Γ a3 = some 40 → jW (jKd g) Γ r.2 := by
  unfold FL_trial at hf
  obtain ⟨q, e, hf⟩ := jbind hf
  refine ⟨q, (jcv_o e).2, ?_⟩
  obtain ⟨q1, q2⟩ := q
  rcases q1 with v | k
  · obtain ⟨h2, e2, hf⟩ := jbind hf
    cases hf
    intro g Γ w to; exact t_asl e2 w to
  · replace hf : (if k = 0 then some ((1 : Int32), q2) else none) = some r := hf
    replace hf := jite hf
    rcases hf with ⟨-, hf⟩ | ⟨-, hf⟩
    · cases hf; intro g Γ w _; exact w
    cases hf
theorem FLw_span {n : Nat} {a0 : Nat} {x1 : Int32} {x2 : Int32} {a3 : Nat} {h : jH} {r : Int32 × jH} (hf : FL_span n a0 x1 x2 a3 h = some r) : ∃ q : jR × jH, F_X11_span n a0 x1 x2 h = some q ∧ ∀ {g : jGh} {Γ : Nat → Option Nat}, jW (jKd g) Γ q.2 → Γ a3 = some 40 → jW (jKd g) Γ r.2 := by
  unfold FL_span at hf
  obtain ⟨q, e, hf⟩ := jbind hf
  refine ⟨q, (jcv_o e).2, ?_⟩
  obtain ⟨q1, q2⟩ := q
  rcases q1 with v | k
  · obtain ⟨h2, e2, hf⟩ := jbind hf
    cases hf
    intro g Γ w to; exact t_asl e2 w to
  · replace hf : (if k = 0 then some ((1 : Int32), q2) else none) = some r := hf
    replace hf := jite hf
    rcases hf with ⟨-, hf⟩ | ⟨-, hf⟩
    · cases hf; intro g Γ w _; exact w
    cases hf
theorem FLw_led {n : Nat} {a0 : Nat} {x1 : Int32} {x2 : Int32} {a3 : Nat} {h : jH} {r : Int32 × jH} (hf : FL_led n a0 x1 x2 a3 h = some r) : ∃ q : jR × jH, F_X11_led n a0 x1 x2 h = some q ∧ ∀ {g : jGh} {Γ : Nat → Option Nat}, jW (jKd g) Γ q.2 → Γ a3 = some 40 → jW (jKd g) Γ r.2 := by
  unfold FL_led at hf
  obtain ⟨q, e, hf⟩ := jbind hf
  refine ⟨q, (jcv_o e).2, ?_⟩
  obtain ⟨q1, q2⟩ := q
  rcases q1 with v | k
  · obtain ⟨h2, e2, hf⟩ := jbind hf
    cases hf
    intro g Γ w to; exact t_asl e2 w to
  · replace hf : (if k = 2 then some ((1 : Int32), q2) else none) = some r := hf
    replace hf := jite hf
    rcases hf with ⟨-, hf⟩ | ⟨-, hf⟩
    · cases hf; intro g Γ w _; exact w
    cases hf
theorem FLw_log {n : Nat} {a0 : Nat} {x1 : Int32} {x2 : Int32} {a3 : Nat} {h : jH} {r : Int32 × jH} (hf : FL_log n a0 x1 x2 a3 h = some r) : ∃ q : jR × jH, F_X11_log n a0 x1 x2 h = some q ∧ ∀ {g : jGh} {Γ : Nat → Option Nat}, jW (jKd g) Γ q.2 → Γ a3 = some 40 → jW (jKd g) Γ r.2 := by
  unfold FL_log at hf
  obtain ⟨q, e, hf⟩ := jbind hf
  refine ⟨q, (jcv_o e).2, ?_⟩
  obtain ⟨q1, q2⟩ := q
  rcases q1 with v | k
  · obtain ⟨h2, e2, hf⟩ := jbind hf
    cases hf
    intro g Γ w to; exact t_asl e2 w to
  · replace hf : (if k = 4 then some ((1 : Int32), q2) else none) = some r := hf
    replace hf := jite hf
    rcases hf with ⟨-, hf⟩ | ⟨-, hf⟩
    · cases hf; intro g Γ w _; exact w
    cases hf
end
section
/-! what the law wrote to out stands there still behind the reference's call -/
theorem jKd_big {g : jGh} {c : Nat} (h : 1000 ≤ c) : jKd g c = .inr (.inl (c - 999, 1000)) := by
  unfold jKd
  split <;> first | exact absurd h (by decide) | exact if_pos h
def kF : jF → Nat
  | .inl _ => 0
  | .inr (.inl c) => c
  | .inr (.inr c) => c
def no40 : jD → Bool
  | .inl _ => true
  | .inr (.inl q) => q.2 != 40
  | .inr (.inr q) => q.2.all fun F => kF F != 40
theorem jKd_no40 {g : jGh} {c : Nat} : no40 (jKd g c) = true := by
  unfold jKd
  split
  all_goals first
    | rfl
    | (show (List.all _ _) = true
       by_cases q1 : g.2.2.2.2.2.2.1 = 0 <;> by_cases q2 : g.2.2.2.2.2.2.2.1 = 0 <;> simp only [q1, q2, if_true, if_false] <;> rfl)
    | (split <;> rfl)
theorem okV_k {Γ Γ2 : Nat → Option Nat} {F : jF} {v : Value} (hF : kF F ≠ 40) (hm : ∀ a c, c ≠ 40 → Γ a = some c → Γ2 a = some c) (h : okV Γ F v) : okV Γ2 F v := by
  rcases F with P | c | c
  · exact h
  · obtain ⟨a, e, ha⟩ := h
    exact ⟨a, e, hm a c hF ha⟩
  · rcases h with h | ⟨a, e, ha⟩
    · exact Or.inl h
    · exact Or.inr ⟨a, e, hm a c hF ha⟩
theorem okE_k {Γ Γ2 : Nat → Option Nat} {D : jD} {e : Option jE} (hD : no40 D = true) (hm : ∀ a c, c ≠ 40 → Γ a = some c → Γ2 a = some c) (h : okE Γ D e) : okE Γ2 D e := by
  rcases D with q | q | q
  · exact h
  · show (if q.2 = 1000 then _ else _)
    have h2 : (if q.2 = 1000 then ∃ f : Nat → Int64, e = some (.inr (.inr (.inr (1, f)))) ∧ (q.1 = 0 ∨ q.1 % 18446744073709551616 = (f 0).toUInt64.toNat) else ∃ f : Nat → Option Nat, e = some (.inr (.inr (.inl (q.1, f)))) ∧ ∀ k a, f k = some a → Γ a = some q.2) := h
    have hq4 : q.2 ≠ 40 := by
      have h3 : (q.2 != 40) = true := hD
      simpa using h3
    by_cases hq : q.2 = 1000
    · rw [if_pos hq] at h2 ⊢
      exact h2
    · rw [if_neg hq] at h2 ⊢
      obtain ⟨f, e1, e2⟩ := h2
      exact ⟨f, e1, fun k a hk => hm a _ hq4 (e2 k a hk)⟩
  · obtain ⟨vs, e1, e2, e3⟩ := h
    have h3 : (q.2.all fun F => kF F != 40) = true := hD
    refine ⟨vs, e1, e2, fun k F hk => ?_⟩
    obtain ⟨v, f1, f2⟩ := e3 k F hk
    have h4 := List.all_eq_true.mp h3 F (List.mem_of_getElem? hk)
    exact ⟨v, f1, okV_k (by simpa using h4) hm f2⟩
theorem k_max (Γ : Nat → Option Nat) (n : Nat) : ∃ M : Nat, ∀ b c : Nat, b < n → Γ b = some c → c < M := by
  induction n with
  | zero => exact ⟨0, fun b c h => absurd h (Nat.not_lt_zero b)⟩
  | succ n ih =>
    obtain ⟨M, hM⟩ := ih
    cases hk : Γ n with
    | none =>
      refine ⟨M, fun b c hb e => ?_⟩
      by_cases q : b = n
      · subst q; rw [hk] at e; cases e
      · exact hM b c (by omega) e
    | some k =>
      refine ⟨M + k + 1, fun b c hb e => ?_⟩
      by_cases q : b = n
      · subst q; rw [hk] at e; cases e; omega
      · have := hM b c (by omega) e; omega
theorem out_keep {g : jGh} {Γ : Nat → Option Nat} {h q : jH} {out : Nat} (w : jW (jKd g) Γ h) (to : Γ out = some 40) (hu : ∀ a b c, 9 ≤ c → Γ a = some c → Γ b = some c → a = b)
    (F : ∀ Γ2 : Nat → Option Nat, (∀ a c, c ≠ 40 → Γ a = some c → Γ2 a = some c) → (∀ a b c, 9 ≤ c → Γ2 a = some c → Γ2 b = some c → a = b) → jW (jKd g) Γ2 h → ∃ g2, jW (jKd g2) Γ2 q) : jall_ q out 0 = jall_ h out 0 := by
  have h3 : ∃ f : Nat → Int64, h.2 out = some (.inr (.inr (.inr (1, f)))) ∧ ((0 : Nat) = 0 ∨ (0 : Nat) % 18446744073709551616 = (f 0).toUInt64.toNat) := (w out 40 to).2
  obtain ⟨f, e1, -⟩ := h3
  obtain ⟨M, hM⟩ := k_max Γ h.1
  obtain ⟨K, hK, hK1, hK2⟩ : ∃ K : Nat, 1000 ≤ K ∧ M < K ∧ (K - 999) % 18446744073709551616 = (f 0).toUInt64.toNat := by
    have hl : (f 0).toUInt64.toNat < 18446744073709551616 := by
      have := (f 0).toUInt64.toNat_lt
      omega
    refine ⟨999 + ((f 0).toUInt64.toNat + 18446744073709551616 * (M + 1)), by omega, by omega, ?_⟩
    rw [show 999 + ((f 0).toUInt64.toNat + 18446744073709551616 * (M + 1)) - 999 = (f 0).toUInt64.toNat + 18446744073709551616 * (M + 1) by omega, Nat.add_mul_mod_self_left, Nat.mod_eq_of_lt hl]
  have hm : ∀ a c, c ≠ 40 → Γ a = some c → (fun b => if b = out then some K else Γ b) a = some c := by
    intro a c hc ha
    have : a ≠ out := fun z => by subst z; rw [to] at ha; cases ha; exact hc rfl
    show (if a = out then some K else Γ a) = some c
    rw [if_neg this]; exact ha
  obtain ⟨g2, w2⟩ := F (fun b => if b = out then some K else Γ b) hm (fun a b c hc ha hb => by
      have ha : (if a = out then some K else Γ a) = some c := ha
      have hb : (if b = out then some K else Γ b) = some c := hb
      by_cases qa : a = out
      · by_cases qb : b = out
        · rw [qa, qb]
        · rw [if_pos qa] at ha; rw [if_neg qb] at hb; cases ha
          have := hM b K (w b K hb).1 hb; omega
      · by_cases qb : b = out
        · rw [if_neg qa] at ha; rw [if_pos qb] at hb; cases hb
          have := hM a K (w a K ha).1 ha; omega
        · rw [if_neg qa] at ha; rw [if_neg qb] at hb; exact hu a b c hc ha hb)
    (fun a c ha => by
      have ha2 : (if a = out then some K else Γ a) = some c := ha
      by_cases qa : a = out
      · rw [if_pos qa] at ha2; cases ha2
        refine ⟨by rw [qa]; exact (w out 40 to).1, ?_⟩
        rw [jKd_big hK, qa, e1]
        have h9 : (if (1000 : Nat) = 1000 then ∃ f9 : Nat → Int64, (some (.inr (.inr (.inr (1, f)))) : Option jE) = some (.inr (.inr (.inr (1, f9)))) ∧ (K - 999 = 0 ∨ (K - 999) % 18446744073709551616 = (f9 0).toUInt64.toNat) else ∃ f9 : Nat → Option Nat, (some (.inr (.inr (.inr (1, f)))) : Option jE) = some (.inr (.inr (.inl (K - 999, f9)))) ∧ ∀ k a, f9 k = some a → (fun b => if b = out then some K else Γ b) a = some 1000) := by
          rw [if_pos rfl]
          exact ⟨f, rfl, Or.inr hK2⟩
        exact h9
      · rw [if_neg qa] at ha2
        exact ⟨(w a c ha2).1, okE_k jKd_no40 hm (w a c ha2).2⟩)
  have h5 := (w2 out K (if_pos rfl)).2
  rw [jKd_big hK] at h5
  have h6 : (if (1000 : Nat) = 1000 then ∃ f2 : Nat → Int64, q.2 out = some (.inr (.inr (.inr (1, f2)))) ∧ (K - 999 = 0 ∨ (K - 999) % 18446744073709551616 = (f2 0).toUInt64.toNat) else ∃ f2 : Nat → Option Nat, q.2 out = some (.inr (.inr (.inl (K - 999, f2)))) ∧ ∀ k a, f2 k = some a → (if a = out then some K else Γ a) = some 1000) := h5
  rw [if_pos rfl] at h6
  obtain ⟨f2, e2, h7⟩ := h6
  have h8 : f2 0 = f 0 := by
    have h9 : (f2 0).toUInt64.toNat = (f 0).toUInt64.toNat := by
      rcases h7 with z | z
      · omega
      · rw [← z, hK2]
    have h10 := UInt64.toNat_inj.mp h9
    have inj : ∀ x y : Int64, x.toUInt64 = y.toUInt64 → x = y := fun x y h => by
      rcases x with ⟨a⟩
      rcases y with ⟨b⟩
      have h : a = b := h
      rw [h]
    exact inj _ _ h10
  unfold jall_
  rw [e1, e2]
  show (if ¬ ((0 : Int32) < 0 ∨ 1 ≤ (0 : Int32).toNatClampNeg) then some (f2 (0 : Int32).toNatClampNeg) else none) = (if ¬ ((0 : Int32) < 0 ∨ 1 ≤ (0 : Int32).toNatClampNeg) then some (f (0 : Int32).toNatClampNeg) else none)
  have e0 : (0 : Int32).toNatClampNeg = 0 := by decide
  rw [e0, h8]
theorem jasl_ll {h h2 : jH} {out : Nat} {v : Int64} (e : jasl h out 0 v = some h2) : jall_ h2 out 0 = some v := by
  unfold jasl at e
  split at e
  · rename_i x hx
    split at e
    · rename_i c
      cases e
      unfold jall_
      rw [show (jup h out (.inr (.inr (.inr (x.1, vp_updL x.2 (0 : Int32).toNatClampNeg v))))).2 out = some (.inr (.inr (.inr (x.1, vp_updL x.2 (0 : Int32).toNatClampNeg v)))) from if_pos rfl]
      dsimp only
      rw [if_pos c]
      congr 1
      all_goals (unfold vp_updL; simp)
    · cases e
  · cases e
def FK_pole : Nat → Option Int32 := fun k : Nat => if k = 0 then some (1 : Int32) else if k = 3 then some (2 : Int32) else none
theorem FLa_pole {n : Nat} {a0 : Nat} {a1 : Nat} {h : jH} {r : Int32 × jH} (hf : FL_pole n a0 a1 h = some r) : ∃ q : jR × jH, F_X11_pole n a0 h = some q ∧ ((∃ v : Int32, q.1 = .inl v ∧ r.1 = 0 ∧ jall_ r.2 a1 0 = some ((fun v : Int32 => v.toInt64) v)) ∨ ∃ k : Nat, q.1 = .inr k ∧ FK_pole k = some r.1) := by
  unfold FL_pole at hf
  obtain ⟨q, e, hf⟩ := jbind hf
  refine ⟨q, (jcv_o e).2, ?_⟩
  obtain ⟨q1, q2⟩ := q
  rcases q1 with v | k
  · obtain ⟨h2, e2, hf⟩ := jbind hf
    cases hf
    exact Or.inl ⟨v, rfl, rfl, jasl_ll e2⟩
  · refine Or.inr ⟨k, rfl, ?_⟩
    replace hf : (if k = 0 then some ((1 : Int32), q2) else if k = 3 then some ((2 : Int32), q2) else none) = some r := hf
    unfold FK_pole
    by_cases c0 : k = 0
    · rw [if_pos c0] at hf ⊢; cases hf; rfl
    rw [if_neg c0] at hf ⊢
    by_cases c1 : k = 3
    · rw [if_pos c1] at hf ⊢; cases hf; rfl
    rw [if_neg c1] at hf ⊢
    cases hf
def FK_law : Nat → Option Int32 := fun k : Nat => if k = 0 then some (1 : Int32) else none
theorem FLa_law {n : Nat} {a0 : Nat} {a1 : Nat} {h : jH} {r : Int32 × jH} (hf : FL_law n a0 a1 h = some r) : ∃ q : jR × jH, F_X11_law n a0 h = some q ∧ ((∃ v : Int32, q.1 = .inl v ∧ r.1 = 0 ∧ jall_ r.2 a1 0 = some ((fun v : Int32 => v.toInt64) v)) ∨ ∃ k : Nat, q.1 = .inr k ∧ FK_law k = some r.1) := by
  unfold FL_law at hf
  obtain ⟨q, e, hf⟩ := jbind hf
  refine ⟨q, (jcv_o e).2, ?_⟩
  obtain ⟨q1, q2⟩ := q
  rcases q1 with v | k
  · obtain ⟨h2, e2, hf⟩ := jbind hf
    cases hf
    exact Or.inl ⟨v, rfl, rfl, jasl_ll e2⟩
  · refine Or.inr ⟨k, rfl, ?_⟩
    replace hf : (if k = 0 then some ((1 : Int32), q2) else none) = some r := hf
    unfold FK_law
    by_cases c0 : k = 0
    · rw [if_pos c0] at hf ⊢; cases hf; rfl
    rw [if_neg c0] at hf ⊢
    cases hf
def FK_ring : Nat → Option Int32 := fun k : Nat => if k = 2 then some (1 : Int32) else if k = 4 then some (2 : Int32) else none
theorem FLa_ring {n : Nat} {a0 : Nat} {x1 : Int32} {x2 : Int32} {a3 : Nat} {h : jH} {r : Int32 × jH} (hf : FL_ring n a0 x1 x2 a3 h = some r) : ∃ q : jR × jH, F_X11_ring n a0 x1 x2 h = some q ∧ ((∃ v : Int32, q.1 = .inl v ∧ r.1 = 0 ∧ jall_ r.2 a3 0 = some ((fun v : Int32 => v.toInt64) v)) ∨ ∃ k : Nat, q.1 = .inr k ∧ FK_ring k = some r.1) := by
  unfold FL_ring at hf
  obtain ⟨q, e, hf⟩ := jbind hf
  refine ⟨q, (jcv_o e).2, ?_⟩
  obtain ⟨q1, q2⟩ := q
  rcases q1 with v | k
  · obtain ⟨h2, e2, hf⟩ := jbind hf
    cases hf
    exact Or.inl ⟨v, rfl, rfl, jasl_ll e2⟩
  · refine Or.inr ⟨k, rfl, ?_⟩
    replace hf : (if k = 2 then some ((1 : Int32), q2) else if k = 4 then some ((2 : Int32), q2) else none) = some r := hf
    unfold FK_ring
    by_cases c0 : k = 2
    · rw [if_pos c0] at hf ⊢; cases hf; rfl
    rw [if_neg c0] at hf ⊢
    by_cases c1 : k = 4
    · rw [if_pos c1] at hf ⊢; cases hf; rfl
    rw [if_neg c1] at hf ⊢
    cases hf
def FK_pull : Nat → Option Int32 := fun k : Nat => if k = 2 then some (1 : Int32) else if k = 0 then some (2 : Int32) else none
theorem FLa_pull {n : Nat} {a0 : Nat} {x1 : Int32} {x2 : Int32} {x3 : Int32} {a4 : Nat} {h : jH} {r : Int32 × jH} (hf : FL_pull n a0 x1 x2 x3 a4 h = some r) : ∃ q : jR × jH, F_X11_pull n a0 x1 x2 x3 h = some q ∧ ((∃ v : Int32, q.1 = .inl v ∧ r.1 = 0 ∧ jall_ r.2 a4 0 = some ((fun v : Int32 => v.toInt64) v)) ∨ ∃ k : Nat, q.1 = .inr k ∧ FK_pull k = some r.1) := by
  unfold FL_pull at hf
  obtain ⟨q, e, hf⟩ := jbind hf
  refine ⟨q, (jcv_o e).2, ?_⟩
  obtain ⟨q1, q2⟩ := q
  rcases q1 with v | k
  · obtain ⟨h2, e2, hf⟩ := jbind hf
    cases hf
    exact Or.inl ⟨v, rfl, rfl, jasl_ll e2⟩
  · refine Or.inr ⟨k, rfl, ?_⟩
    replace hf : (if k = 2 then some ((1 : Int32), q2) else if k = 0 then some ((2 : Int32), q2) else none) = some r := hf
    unfold FK_pull
    by_cases c0 : k = 2
    · rw [if_pos c0] at hf ⊢; cases hf; rfl
    rw [if_neg c0] at hf ⊢
    by_cases c1 : k = 0
    · rw [if_pos c1] at hf ⊢; cases hf; rfl
    rw [if_neg c1] at hf ⊢
    cases hf
def FK_free : Nat → Option Int32 := fun k : Nat => if k = 2 then some (1 : Int32) else if k = 1 then some (2 : Int32) else none
theorem FLa_free {n : Nat} {a0 : Nat} {x1 : Int32} {a2 : Nat} {h : jH} {r : Int32 × jH} (hf : FL_free n a0 x1 a2 h = some r) : ∃ q : jR × jH, F_X11_free n a0 x1 h = some q ∧ ((∃ v : Int32, q.1 = .inl v ∧ r.1 = 0 ∧ jall_ r.2 a2 0 = some ((fun v : Int32 => v.toInt64) v)) ∨ ∃ k : Nat, q.1 = .inr k ∧ FK_free k = some r.1) := by
  unfold FL_free at hf
  obtain ⟨q, e, hf⟩ := jbind hf
  refine ⟨q, (jcv_o e).2, ?_⟩
  obtain ⟨q1, q2⟩ := q
  rcases q1 with v | k
  · obtain ⟨h2, e2, hf⟩ := jbind hf
    cases hf
    exact Or.inl ⟨v, rfl, rfl, jasl_ll e2⟩
  · refine Or.inr ⟨k, rfl, ?_⟩
    replace hf : (if k = 2 then some ((1 : Int32), q2) else if k = 1 then some ((2 : Int32), q2) else none) = some r := hf
    unfold FK_free
    by_cases c0 : k = 2
    · rw [if_pos c0] at hf ⊢; cases hf; rfl
    rw [if_neg c0] at hf ⊢
    by_cases c1 : k = 1
    · rw [if_pos c1] at hf ⊢; cases hf; rfl
    rw [if_neg c1] at hf ⊢
    cases hf
def FK_snag : Nat → Option Int32 := fun k : Nat => if k = 2 then some (1 : Int32) else if k = 1 then some (2 : Int32) else none
theorem FLa_snag {n : Nat} {a0 : Nat} {x1 : Int32} {a2 : Nat} {h : jH} {r : Int32 × jH} (hf : FL_snag n a0 x1 a2 h = some r) : ∃ q : jR × jH, F_X11_snag n a0 x1 h = some q ∧ ((∃ v : Int32, q.1 = .inl v ∧ r.1 = 0 ∧ jall_ r.2 a2 0 = some ((fun v : Int32 => v.toInt64) v)) ∨ ∃ k : Nat, q.1 = .inr k ∧ FK_snag k = some r.1) := by
  unfold FL_snag at hf
  obtain ⟨q, e, hf⟩ := jbind hf
  refine ⟨q, (jcv_o e).2, ?_⟩
  obtain ⟨q1, q2⟩ := q
  rcases q1 with v | k
  · obtain ⟨h2, e2, hf⟩ := jbind hf
    cases hf
    exact Or.inl ⟨v, rfl, rfl, jasl_ll e2⟩
  · refine Or.inr ⟨k, rfl, ?_⟩
    replace hf : (if k = 2 then some ((1 : Int32), q2) else if k = 1 then some ((2 : Int32), q2) else none) = some r := hf
    unfold FK_snag
    by_cases c0 : k = 2
    · rw [if_pos c0] at hf ⊢; cases hf; rfl
    rw [if_neg c0] at hf ⊢
    by_cases c1 : k = 1
    · rw [if_pos c1] at hf ⊢; cases hf; rfl
    rw [if_neg c1] at hf ⊢
    cases hf
def FK_hook : Nat → Option Int32 := fun k : Nat => if k = 2 then some (1 : Int32) else none
theorem FLa_hook {n : Nat} {a0 : Nat} {x1 : Int32} {x2 : Int32} {a3 : Nat} {h : jH} {r : Int32 × jH} (hf : FL_hook n a0 x1 x2 a3 h = some r) : ∃ q : jR × jH, F_X11_hook n a0 x1 x2 h = some q ∧ ((∃ v : Int32, q.1 = .inl v ∧ r.1 = 0 ∧ jall_ r.2 a3 0 = some ((fun v : Int32 => if v = 0 then (0 : Int64) else 1) v)) ∨ ∃ k : Nat, q.1 = .inr k ∧ FK_hook k = some r.1) := by
  unfold FL_hook at hf
  obtain ⟨q, e, hf⟩ := jbind hf
  refine ⟨q, (jcv_o e).2, ?_⟩
  obtain ⟨q1, q2⟩ := q
  rcases q1 with v | k
  · obtain ⟨h2, e2, hf⟩ := jbind hf
    cases hf
    exact Or.inl ⟨v, rfl, rfl, jasl_ll e2⟩
  · refine Or.inr ⟨k, rfl, ?_⟩
    replace hf : (if k = 2 then some ((1 : Int32), q2) else none) = some r := hf
    unfold FK_hook
    by_cases c0 : k = 2
    · rw [if_pos c0] at hf ⊢; cases hf; rfl
    rw [if_neg c0] at hf ⊢
    cases hf
def FK_sew : Nat → Option Int32 := fun k : Nat => if k = 2 then some (1 : Int32) else if k = 0 then some (2 : Int32) else if k = 1 then some (3 : Int32) else none
theorem FLa_sew {n : Nat} {a0 : Nat} {x1 : Int32} {x2 : Int32} {a3 : Nat} {h : jH} {r : Int32 × jH} (hf : FL_sew n a0 x1 x2 a3 h = some r) : ∃ q : jR × jH, F_X11_sew n a0 x1 x2 h = some q ∧ ((∃ v : Int32, q.1 = .inl v ∧ r.1 = 0 ∧ jall_ r.2 a3 0 = some ((fun v : Int32 => v.toInt64) v)) ∨ ∃ k : Nat, q.1 = .inr k ∧ FK_sew k = some r.1) := by
  unfold FL_sew at hf
  obtain ⟨q, e, hf⟩ := jbind hf
  refine ⟨q, (jcv_o e).2, ?_⟩
  obtain ⟨q1, q2⟩ := q
  rcases q1 with v | k
  · obtain ⟨h2, e2, hf⟩ := jbind hf
    cases hf
    exact Or.inl ⟨v, rfl, rfl, jasl_ll e2⟩
  · refine Or.inr ⟨k, rfl, ?_⟩
    replace hf : (if k = 2 then some ((1 : Int32), q2) else if k = 0 then some ((2 : Int32), q2) else if k = 1 then some ((3 : Int32), q2) else none) = some r := hf
    unfold FK_sew
    by_cases c0 : k = 2
    · rw [if_pos c0] at hf ⊢; cases hf; rfl
    rw [if_neg c0] at hf ⊢
    by_cases c1 : k = 0
    · rw [if_pos c1] at hf ⊢; cases hf; rfl
    rw [if_neg c1] at hf ⊢
    by_cases c2 : k = 1
    · rw [if_pos c2] at hf ⊢; cases hf; rfl
    rw [if_neg c2] at hf ⊢
    cases hf
def FK_let : Nat → Option Int32 := fun k : Nat => if k = 2 then some (1 : Int32) else if k = 0 then some (2 : Int32) else none
theorem FLa_let {n : Nat} {a0 : Nat} {x1 : Int32} {x2 : Int32} {a3 : Nat} {h : jH} {r : Int32 × jH} (hf : FL_let n a0 x1 x2 a3 h = some r) : ∃ q : jR × jH, F_X11_let n a0 x1 x2 h = some q ∧ ((∃ v : Int32, q.1 = .inl v ∧ r.1 = 0 ∧ jall_ r.2 a3 0 = some ((fun v : Int32 => v.toInt64) v)) ∨ ∃ k : Nat, q.1 = .inr k ∧ FK_let k = some r.1) := by
  unfold FL_let at hf
  obtain ⟨q, e, hf⟩ := jbind hf
  refine ⟨q, (jcv_o e).2, ?_⟩
  obtain ⟨q1, q2⟩ := q
  rcases q1 with v | k
  · obtain ⟨h2, e2, hf⟩ := jbind hf
    cases hf
    exact Or.inl ⟨v, rfl, rfl, jasl_ll e2⟩
  · refine Or.inr ⟨k, rfl, ?_⟩
    replace hf : (if k = 2 then some ((1 : Int32), q2) else if k = 0 then some ((2 : Int32), q2) else none) = some r := hf
    unfold FK_let
    by_cases c0 : k = 2
    · rw [if_pos c0] at hf ⊢; cases hf; rfl
    rw [if_neg c0] at hf ⊢
    by_cases c1 : k = 0
    · rw [if_pos c1] at hf ⊢; cases hf; rfl
    rw [if_neg c1] at hf ⊢
    cases hf
def FK_chair : Nat → Option Int32 := fun k : Nat => if k = 2 then some (1 : Int32) else none
theorem FLa_chair {n : Nat} {a0 : Nat} {x1 : Int32} {x2 : Int32} {a3 : Nat} {h : jH} {r : Int32 × jH} (hf : FL_chair n a0 x1 x2 a3 h = some r) : ∃ q : jR × jH, F_X11_chair n a0 x1 x2 h = some q ∧ ((∃ v : Int32, q.1 = .inl v ∧ r.1 = 0 ∧ jall_ r.2 a3 0 = some ((fun v : Int32 => if v = 0 then (0 : Int64) else 1) v)) ∨ ∃ k : Nat, q.1 = .inr k ∧ FK_chair k = some r.1) := by
  unfold FL_chair at hf
  obtain ⟨q, e, hf⟩ := jbind hf
  refine ⟨q, (jcv_o e).2, ?_⟩
  obtain ⟨q1, q2⟩ := q
  rcases q1 with v | k
  · obtain ⟨h2, e2, hf⟩ := jbind hf
    cases hf
    exact Or.inl ⟨v, rfl, rfl, jasl_ll e2⟩
  · refine Or.inr ⟨k, rfl, ?_⟩
    replace hf : (if k = 2 then some ((1 : Int32), q2) else none) = some r := hf
    unfold FK_chair
    by_cases c0 : k = 2
    · rw [if_pos c0] at hf ⊢; cases hf; rfl
    rw [if_neg c0] at hf ⊢
    cases hf
def FK_hours : Nat → Option Int32 := fun k : Nat => if k = 0 then some (1 : Int32) else none
theorem FLa_hours {n : Nat} {a0 : Nat} {x1 : Int32} {a2 : Nat} {h : jH} {r : Int32 × jH} (hf : FL_hours n a0 x1 a2 h = some r) : ∃ q : jR × jH, F_X11_hours n a0 x1 h = some q ∧ ((∃ v : Int32, q.1 = .inl v ∧ r.1 = 0 ∧ jall_ r.2 a2 0 = some ((fun v : Int32 => v.toInt64) v)) ∨ ∃ k : Nat, q.1 = .inr k ∧ FK_hours k = some r.1) := by
  unfold FL_hours at hf
  obtain ⟨q, e, hf⟩ := jbind hf
  refine ⟨q, (jcv_o e).2, ?_⟩
  obtain ⟨q1, q2⟩ := q
  rcases q1 with v | k
  · obtain ⟨h2, e2, hf⟩ := jbind hf
    cases hf
    exact Or.inl ⟨v, rfl, rfl, jasl_ll e2⟩
  · refine Or.inr ⟨k, rfl, ?_⟩
    replace hf : (if k = 0 then some ((1 : Int32), q2) else none) = some r := hf
    unfold FK_hours
    by_cases c0 : k = 0
    · rw [if_pos c0] at hf ⊢; cases hf; rfl
    rw [if_neg c0] at hf ⊢
    cases hf
def FK_goes : Nat → Option Int32 := fun k : Nat => if k = 2 then some (1 : Int32) else none
theorem FLa_goes {n : Nat} {a0 : Nat} {x1 : Int32} {x2 : Int32} {a3 : Nat} {h : jH} {r : Int32 × jH} (hf : FL_goes n a0 x1 x2 a3 h = some r) : ∃ q : jR × jH, F_X11_goes n a0 x1 x2 h = some q ∧ ((∃ v : Int32, q.1 = .inl v ∧ r.1 = 0 ∧ jall_ r.2 a3 0 = some ((fun v : Int32 => v.toInt64) v)) ∨ ∃ k : Nat, q.1 = .inr k ∧ FK_goes k = some r.1) := by
  unfold FL_goes at hf
  obtain ⟨q, e, hf⟩ := jbind hf
  refine ⟨q, (jcv_o e).2, ?_⟩
  obtain ⟨q1, q2⟩ := q
  rcases q1 with v | k
  · obtain ⟨h2, e2, hf⟩ := jbind hf
    cases hf
    exact Or.inl ⟨v, rfl, rfl, jasl_ll e2⟩
  · refine Or.inr ⟨k, rfl, ?_⟩
    replace hf : (if k = 2 then some ((1 : Int32), q2) else none) = some r := hf
    unfold FK_goes
    by_cases c0 : k = 2
    · rw [if_pos c0] at hf ⊢; cases hf; rfl
    rw [if_neg c0] at hf ⊢
    cases hf
def FK_with : Nat → Option Int32 := fun k : Nat => if k = 2 then some (1 : Int32) else none
theorem FLa_with {n : Nat} {a0 : Nat} {x1 : Int32} {x2 : Int32} {a3 : Nat} {h : jH} {r : Int32 × jH} (hf : FL_with n a0 x1 x2 a3 h = some r) : ∃ q : jR × jH, F_X11_with n a0 x1 x2 h = some q ∧ ((∃ v : Int32, q.1 = .inl v ∧ r.1 = 0 ∧ jall_ r.2 a3 0 = some ((fun v : Int32 => v.toInt64) v)) ∨ ∃ k : Nat, q.1 = .inr k ∧ FK_with k = some r.1) := by
  unfold FL_with at hf
  obtain ⟨q, e, hf⟩ := jbind hf
  refine ⟨q, (jcv_o e).2, ?_⟩
  obtain ⟨q1, q2⟩ := q
  rcases q1 with v | k
  · obtain ⟨h2, e2, hf⟩ := jbind hf
    cases hf
    exact Or.inl ⟨v, rfl, rfl, jasl_ll e2⟩
  · refine Or.inr ⟨k, rfl, ?_⟩
    replace hf : (if k = 2 then some ((1 : Int32), q2) else none) = some r := hf
    unfold FK_with
    by_cases c0 : k = 2
    · rw [if_pos c0] at hf ⊢; cases hf; rfl
    rw [if_neg c0] at hf ⊢
    cases hf
def FK_would : Nat → Option Int32 := fun k : Nat => if k = 2 then some (1 : Int32) else if k = 0 then some (2 : Int32) else none
theorem FLa_would {n : Nat} {a0 : Nat} {x1 : Int32} {x2 : Int32} {x3 : Int32} {x4 : Int32} {a5 : Nat} {h : jH} {r : Int32 × jH} (hf : FL_would n a0 x1 x2 x3 x4 a5 h = some r) : ∃ q : jR × jH, F_X11_would n a0 x1 x2 x3 x4 h = some q ∧ ((∃ v : Int32, q.1 = .inl v ∧ r.1 = 0 ∧ jall_ r.2 a5 0 = some ((fun v : Int32 => v.toInt64) v)) ∨ ∃ k : Nat, q.1 = .inr k ∧ FK_would k = some r.1) := by
  unfold FL_would at hf
  obtain ⟨q, e, hf⟩ := jbind hf
  refine ⟨q, (jcv_o e).2, ?_⟩
  obtain ⟨q1, q2⟩ := q
  rcases q1 with v | k
  · obtain ⟨h2, e2, hf⟩ := jbind hf
    cases hf
    exact Or.inl ⟨v, rfl, rfl, jasl_ll e2⟩
  · refine Or.inr ⟨k, rfl, ?_⟩
    replace hf : (if k = 2 then some ((1 : Int32), q2) else if k = 0 then some ((2 : Int32), q2) else none) = some r := hf
    unfold FK_would
    by_cases c0 : k = 2
    · rw [if_pos c0] at hf ⊢; cases hf; rfl
    rw [if_neg c0] at hf ⊢
    by_cases c1 : k = 0
    · rw [if_pos c1] at hf ⊢; cases hf; rfl
    rw [if_neg c1] at hf ⊢
    cases hf
def FK_snags : Nat → Option Int32 := fun k : Nat => if k = 0 then some (1 : Int32) else none
theorem FLa_snags {n : Nat} {a0 : Nat} {x1 : Int32} {a2 : Nat} {h : jH} {r : Int32 × jH} (hf : FL_snags n a0 x1 a2 h = some r) : ∃ q : jR × jH, F_X11_snags n a0 x1 h = some q ∧ ((∃ v : Int32, q.1 = .inl v ∧ r.1 = 0 ∧ jall_ r.2 a2 0 = some ((fun v : Int32 => v.toInt64) v)) ∨ ∃ k : Nat, q.1 = .inr k ∧ FK_snags k = some r.1) := by
  unfold FL_snags at hf
  obtain ⟨q, e, hf⟩ := jbind hf
  refine ⟨q, (jcv_o e).2, ?_⟩
  obtain ⟨q1, q2⟩ := q
  rcases q1 with v | k
  · obtain ⟨h2, e2, hf⟩ := jbind hf
    cases hf
    exact Or.inl ⟨v, rfl, rfl, jasl_ll e2⟩
  · refine Or.inr ⟨k, rfl, ?_⟩
    replace hf : (if k = 0 then some ((1 : Int32), q2) else none) = some r := hf
    unfold FK_snags
    by_cases c0 : k = 0
    · rw [if_pos c0] at hf ⊢; cases hf; rfl
    rw [if_neg c0] at hf ⊢
    cases hf
def FK_tries : Nat → Option Int32 := fun k : Nat => if k = 0 then some (1 : Int32) else none
theorem FLa_tries {n : Nat} {a0 : Nat} {a1 : Nat} {h : jH} {r : Int32 × jH} (hf : FL_tries n a0 a1 h = some r) : ∃ q : jR × jH, F_X11_tries n a0 h = some q ∧ ((∃ v : Int32, q.1 = .inl v ∧ r.1 = 0 ∧ jall_ r.2 a1 0 = some ((fun v : Int32 => v.toInt64) v)) ∨ ∃ k : Nat, q.1 = .inr k ∧ FK_tries k = some r.1) := by
  unfold FL_tries at hf
  obtain ⟨q, e, hf⟩ := jbind hf
  refine ⟨q, (jcv_o e).2, ?_⟩
  obtain ⟨q1, q2⟩ := q
  rcases q1 with v | k
  · obtain ⟨h2, e2, hf⟩ := jbind hf
    cases hf
    exact Or.inl ⟨v, rfl, rfl, jasl_ll e2⟩
  · refine Or.inr ⟨k, rfl, ?_⟩
    replace hf : (if k = 0 then some ((1 : Int32), q2) else none) = some r := hf
    unfold FK_tries
    by_cases c0 : k = 0
    · rw [if_pos c0] at hf ⊢; cases hf; rfl
    rw [if_neg c0] at hf ⊢
    cases hf
def FK_loosen : Nat → Option Int32 := fun k : Nat => if k = 2 then some (1 : Int32) else if k = 0 then some (2 : Int32) else none
theorem FLa_loosen {n : Nat} {a0 : Nat} {x1 : Int32} {x2 : Int32} {x3 : Int32} {a4 : Nat} {h : jH} {r : Int32 × jH} (hf : FL_loosen n a0 x1 x2 x3 a4 h = some r) : ∃ q : jR × jH, F_X11_loosen n a0 x1 x2 x3 h = some q ∧ ((∃ v : Int32, q.1 = .inl v ∧ r.1 = 0 ∧ jall_ r.2 a4 0 = some ((fun v : Int32 => v.toInt64) v)) ∨ ∃ k : Nat, q.1 = .inr k ∧ FK_loosen k = some r.1) := by
  unfold FL_loosen at hf
  obtain ⟨q, e, hf⟩ := jbind hf
  refine ⟨q, (jcv_o e).2, ?_⟩
  obtain ⟨q1, q2⟩ := q
  rcases q1 with v | k
  · obtain ⟨h2, e2, hf⟩ := jbind hf
    cases hf
    exact Or.inl ⟨v, rfl, rfl, jasl_ll e2⟩
  · refine Or.inr ⟨k, rfl, ?_⟩
    replace hf : (if k = 2 then some ((1 : Int32), q2) else if k = 0 then some ((2 : Int32), q2) else none) = some r := hf
    unfold FK_loosen
    by_cases c0 : k = 2
    · rw [if_pos c0] at hf ⊢; cases hf; rfl
    rw [if_neg c0] at hf ⊢
    by_cases c1 : k = 0
    · rw [if_pos c1] at hf ⊢; cases hf; rfl
    rw [if_neg c1] at hf ⊢
    cases hf
def FK_tight : Nat → Option Int32 := fun k : Nat => if k = 0 then some (1 : Int32) else none
theorem FLa_tight {n : Nat} {a0 : Nat} {x1 : Int32} {a2 : Nat} {h : jH} {r : Int32 × jH} (hf : FL_tight n a0 x1 a2 h = some r) : ∃ q : jR × jH, F_X11_tight n a0 x1 h = some q ∧ ((∃ v : Int32, q.1 = .inl v ∧ r.1 = 0 ∧ jall_ r.2 a2 0 = some ((fun v : Int32 => v.toInt64) v)) ∨ ∃ k : Nat, q.1 = .inr k ∧ FK_tight k = some r.1) := by
  unfold FL_tight at hf
  obtain ⟨q, e, hf⟩ := jbind hf
  refine ⟨q, (jcv_o e).2, ?_⟩
  obtain ⟨q1, q2⟩ := q
  rcases q1 with v | k
  · obtain ⟨h2, e2, hf⟩ := jbind hf
    cases hf
    exact Or.inl ⟨v, rfl, rfl, jasl_ll e2⟩
  · refine Or.inr ⟨k, rfl, ?_⟩
    replace hf : (if k = 0 then some ((1 : Int32), q2) else none) = some r := hf
    unfold FK_tight
    by_cases c0 : k = 0
    · rw [if_pos c0] at hf ⊢; cases hf; rfl
    rw [if_neg c0] at hf ⊢
    cases hf
def FK_lit : Nat → Option Int32 := fun k : Nat => if k = 2 then some (1 : Int32) else none
theorem FLa_lit {n : Nat} {a0 : Nat} {x1 : Int32} {a2 : Nat} {h : jH} {r : Int32 × jH} (hf : FL_lit n a0 x1 a2 h = some r) : ∃ q : jR × jH, F_X11_lit n a0 x1 h = some q ∧ ((∃ v : Int32, q.1 = .inl v ∧ r.1 = 0 ∧ jall_ r.2 a2 0 = some ((fun v : Int32 => v.toInt64) v)) ∨ ∃ k : Nat, q.1 = .inr k ∧ FK_lit k = some r.1) := by
  unfold FL_lit at hf
  obtain ⟨q, e, hf⟩ := jbind hf
  refine ⟨q, (jcv_o e).2, ?_⟩
  obtain ⟨q1, q2⟩ := q
  rcases q1 with v | k
  · obtain ⟨h2, e2, hf⟩ := jbind hf
    cases hf
    exact Or.inl ⟨v, rfl, rfl, jasl_ll e2⟩
  · refine Or.inr ⟨k, rfl, ?_⟩
    replace hf : (if k = 2 then some ((1 : Int32), q2) else none) = some r := hf
    unfold FK_lit
    by_cases c0 : k = 2
    · rw [if_pos c0] at hf ⊢; cases hf; rfl
    rw [if_neg c0] at hf ⊢
    cases hf
def FK_faded : Nat → Option Int32 := fun k : Nat => if k = 0 then some (1 : Int32) else none
theorem FLa_faded {n : Nat} {a0 : Nat} {x1 : Int32} {a2 : Nat} {h : jH} {r : Int32 × jH} (hf : FL_faded n a0 x1 a2 h = some r) : ∃ q : jR × jH, F_X11_faded n a0 x1 h = some q ∧ ((∃ v : Int32, q.1 = .inl v ∧ r.1 = 0 ∧ jall_ r.2 a2 0 = some ((fun v : Int32 => v.toInt64) v)) ∨ ∃ k : Nat, q.1 = .inr k ∧ FK_faded k = some r.1) := by
  unfold FL_faded at hf
  obtain ⟨q, e, hf⟩ := jbind hf
  refine ⟨q, (jcv_o e).2, ?_⟩
  obtain ⟨q1, q2⟩ := q
  rcases q1 with v | k
  · obtain ⟨h2, e2, hf⟩ := jbind hf
    cases hf
    exact Or.inl ⟨v, rfl, rfl, jasl_ll e2⟩
  · refine Or.inr ⟨k, rfl, ?_⟩
    replace hf : (if k = 0 then some ((1 : Int32), q2) else none) = some r := hf
    unfold FK_faded
    by_cases c0 : k = 0
    · rw [if_pos c0] at hf ⊢; cases hf; rfl
    rw [if_neg c0] at hf ⊢
    cases hf
def FK_lets : Nat → Option Int32 := fun k : Nat => if k = 2 then some (1 : Int32) else if k = 0 then some (2 : Int32) else none
theorem FLa_lets {n : Nat} {a0 : Nat} {x1 : Int32} {x2 : Int32} {a3 : Nat} {h : jH} {r : Int32 × jH} (hf : FL_lets n a0 x1 x2 a3 h = some r) : ∃ q : jR × jH, F_X11_lets n a0 x1 x2 h = some q ∧ ((∃ v : Int32, q.1 = .inl v ∧ r.1 = 0 ∧ jall_ r.2 a3 0 = some ((fun v : Int32 => v.toInt64) v)) ∨ ∃ k : Nat, q.1 = .inr k ∧ FK_lets k = some r.1) := by
  unfold FL_lets at hf
  obtain ⟨q, e, hf⟩ := jbind hf
  refine ⟨q, (jcv_o e).2, ?_⟩
  obtain ⟨q1, q2⟩ := q
  rcases q1 with v | k
  · obtain ⟨h2, e2, hf⟩ := jbind hf
    cases hf
    exact Or.inl ⟨v, rfl, rfl, jasl_ll e2⟩
  · refine Or.inr ⟨k, rfl, ?_⟩
    replace hf : (if k = 2 then some ((1 : Int32), q2) else if k = 0 then some ((2 : Int32), q2) else none) = some r := hf
    unfold FK_lets
    by_cases c0 : k = 2
    · rw [if_pos c0] at hf ⊢; cases hf; rfl
    rw [if_neg c0] at hf ⊢
    by_cases c1 : k = 0
    · rw [if_pos c1] at hf ⊢; cases hf; rfl
    rw [if_neg c1] at hf ⊢
    cases hf
def FK_rests : Nat → Option Int32 := fun k : Nat => if k = 2 then some (1 : Int32) else none
theorem FLa_rests {n : Nat} {a0 : Nat} {x1 : Int32} {a2 : Nat} {h : jH} {r : Int32 × jH} (hf : FL_rests n a0 x1 a2 h = some r) : ∃ q : jR × jH, F_X11_rests n a0 x1 h = some q ∧ ((∃ v : Int32, q.1 = .inl v ∧ r.1 = 0 ∧ jall_ r.2 a2 0 = some ((fun v : Int32 => v.toInt64) v)) ∨ ∃ k : Nat, q.1 = .inr k ∧ FK_rests k = some r.1) := by
  unfold FL_rests at hf
  obtain ⟨q, e, hf⟩ := jbind hf
  refine ⟨q, (jcv_o e).2, ?_⟩
  obtain ⟨q1, q2⟩ := q
  rcases q1 with v | k
  · obtain ⟨h2, e2, hf⟩ := jbind hf
    cases hf
    exact Or.inl ⟨v, rfl, rfl, jasl_ll e2⟩
  · refine Or.inr ⟨k, rfl, ?_⟩
    replace hf : (if k = 2 then some ((1 : Int32), q2) else none) = some r := hf
    unfold FK_rests
    by_cases c0 : k = 2
    · rw [if_pos c0] at hf ⊢; cases hf; rfl
    rw [if_neg c0] at hf ⊢
    cases hf
def FK_odds : Nat → Option Int32 := fun k : Nat => if k = 2 then some (1 : Int32) else if k = 0 then some (2 : Int32) else none
theorem FLa_odds {n : Nat} {a0 : Nat} {x1 : Int32} {x2 : Int32} {a3 : Nat} {h : jH} {r : Int32 × jH} (hf : FL_odds n a0 x1 x2 a3 h = some r) : ∃ q : jR × jH, F_X11_odds n a0 x1 x2 h = some q ∧ ((∃ v : Int32, q.1 = .inl v ∧ r.1 = 0 ∧ jall_ r.2 a3 0 = some ((fun v : Int32 => v.toInt64) v)) ∨ ∃ k : Nat, q.1 = .inr k ∧ FK_odds k = some r.1) := by
  unfold FL_odds at hf
  obtain ⟨q, e, hf⟩ := jbind hf
  refine ⟨q, (jcv_o e).2, ?_⟩
  obtain ⟨q1, q2⟩ := q
  rcases q1 with v | k
  · obtain ⟨h2, e2, hf⟩ := jbind hf
    cases hf
    exact Or.inl ⟨v, rfl, rfl, jasl_ll e2⟩
  · refine Or.inr ⟨k, rfl, ?_⟩
    replace hf : (if k = 2 then some ((1 : Int32), q2) else if k = 0 then some ((2 : Int32), q2) else none) = some r := hf
    unfold FK_odds
    by_cases c0 : k = 2
    · rw [if_pos c0] at hf ⊢; cases hf; rfl
    rw [if_neg c0] at hf ⊢
    by_cases c1 : k = 0
    · rw [if_pos c1] at hf ⊢; cases hf; rfl
    rw [if_neg c1] at hf ⊢
    cases hf
def FK_ahead : Nat → Option Int32 := fun k : Nat => if k = 2 then some (1 : Int32) else if k = 0 then some (2 : Int32) else none
theorem FLa_ahead {n : Nat} {a0 : Nat} {x1 : Int32} {x2 : Int32} {a3 : Nat} {h : jH} {r : Int32 × jH} (hf : FL_ahead n a0 x1 x2 a3 h = some r) : ∃ q : jR × jH, F_X11_ahead n a0 x1 x2 h = some q ∧ ((∃ v : Int32, q.1 = .inl v ∧ r.1 = 0 ∧ jall_ r.2 a3 0 = some ((fun v : Int32 => v.toInt64) v)) ∨ ∃ k : Nat, q.1 = .inr k ∧ FK_ahead k = some r.1) := by
  unfold FL_ahead at hf
  obtain ⟨q, e, hf⟩ := jbind hf
  refine ⟨q, (jcv_o e).2, ?_⟩
  obtain ⟨q1, q2⟩ := q
  rcases q1 with v | k
  · obtain ⟨h2, e2, hf⟩ := jbind hf
    cases hf
    exact Or.inl ⟨v, rfl, rfl, jasl_ll e2⟩
  · refine Or.inr ⟨k, rfl, ?_⟩
    replace hf : (if k = 2 then some ((1 : Int32), q2) else if k = 0 then some ((2 : Int32), q2) else none) = some r := hf
    unfold FK_ahead
    by_cases c0 : k = 2
    · rw [if_pos c0] at hf ⊢; cases hf; rfl
    rw [if_neg c0] at hf ⊢
    by_cases c1 : k = 0
    · rw [if_pos c1] at hf ⊢; cases hf; rfl
    rw [if_neg c1] at hf ⊢
    cases hf
def FK_trial : Nat → Option Int32 := fun k : Nat => if k = 0 then some (1 : Int32) else none
theorem FLa_trial {n : Nat} {a0 : Nat} {x1 : Int32} {x2 : Int32} {a3 : Nat} {h : jH} {r : Int32 × jH} (hf : FL_trial n a0 x1 x2 a3 h = some r) : ∃ q : jR × jH, F_X11_trial n a0 x1 x2 h = some q ∧ ((∃ v : Int32, q.1 = .inl v ∧ r.1 = 0 ∧ jall_ r.2 a3 0 = some ((fun v : Int32 => v.toInt64) v)) ∨ ∃ k : Nat, q.1 = .inr k ∧ FK_trial k = some r.1) := by
  unfold FL_trial at hf
  obtain ⟨q, e, hf⟩ := jbind hf
  refine ⟨q, (jcv_o e).2, ?_⟩
  obtain ⟨q1, q2⟩ := q
  rcases q1 with v | k
  · obtain ⟨h2, e2, hf⟩ := jbind hf
    cases hf
    exact Or.inl ⟨v, rfl, rfl, jasl_ll e2⟩
  · refine Or.inr ⟨k, rfl, ?_⟩
    replace hf : (if k = 0 then some ((1 : Int32), q2) else none) = some r := hf
    unfold FK_trial
    by_cases c0 : k = 0
    · rw [if_pos c0] at hf ⊢; cases hf; rfl
    rw [if_neg c0] at hf ⊢
    cases hf
def FK_span : Nat → Option Int32 := fun k : Nat => if k = 0 then some (1 : Int32) else none
theorem FLa_span {n : Nat} {a0 : Nat} {x1 : Int32} {x2 : Int32} {a3 : Nat} {h : jH} {r : Int32 × jH} (hf : FL_span n a0 x1 x2 a3 h = some r) : ∃ q : jR × jH, F_X11_span n a0 x1 x2 h = some q ∧ ((∃ v : Int32, q.1 = .inl v ∧ r.1 = 0 ∧ jall_ r.2 a3 0 = some ((fun v : Int32 => v.toInt64) v)) ∨ ∃ k : Nat, q.1 = .inr k ∧ FK_span k = some r.1) := by
  unfold FL_span at hf
  obtain ⟨q, e, hf⟩ := jbind hf
  refine ⟨q, (jcv_o e).2, ?_⟩
  obtain ⟨q1, q2⟩ := q
  rcases q1 with v | k
  · obtain ⟨h2, e2, hf⟩ := jbind hf
    cases hf
    exact Or.inl ⟨v, rfl, rfl, jasl_ll e2⟩
  · refine Or.inr ⟨k, rfl, ?_⟩
    replace hf : (if k = 0 then some ((1 : Int32), q2) else none) = some r := hf
    unfold FK_span
    by_cases c0 : k = 0
    · rw [if_pos c0] at hf ⊢; cases hf; rfl
    rw [if_neg c0] at hf ⊢
    cases hf
def FK_led : Nat → Option Int32 := fun k : Nat => if k = 2 then some (1 : Int32) else none
theorem FLa_led {n : Nat} {a0 : Nat} {x1 : Int32} {x2 : Int32} {a3 : Nat} {h : jH} {r : Int32 × jH} (hf : FL_led n a0 x1 x2 a3 h = some r) : ∃ q : jR × jH, F_X11_led n a0 x1 x2 h = some q ∧ ((∃ v : Int32, q.1 = .inl v ∧ r.1 = 0 ∧ jall_ r.2 a3 0 = some ((fun v : Int32 => v.toInt64) v)) ∨ ∃ k : Nat, q.1 = .inr k ∧ FK_led k = some r.1) := by
  unfold FL_led at hf
  obtain ⟨q, e, hf⟩ := jbind hf
  refine ⟨q, (jcv_o e).2, ?_⟩
  obtain ⟨q1, q2⟩ := q
  rcases q1 with v | k
  · obtain ⟨h2, e2, hf⟩ := jbind hf
    cases hf
    exact Or.inl ⟨v, rfl, rfl, jasl_ll e2⟩
  · refine Or.inr ⟨k, rfl, ?_⟩
    replace hf : (if k = 2 then some ((1 : Int32), q2) else none) = some r := hf
    unfold FK_led
    by_cases c0 : k = 2
    · rw [if_pos c0] at hf ⊢; cases hf; rfl
    rw [if_neg c0] at hf ⊢
    cases hf
def FK_log : Nat → Option Int32 := fun k : Nat => if k = 4 then some (1 : Int32) else none
theorem FLa_log {n : Nat} {a0 : Nat} {x1 : Int32} {x2 : Int32} {a3 : Nat} {h : jH} {r : Int32 × jH} (hf : FL_log n a0 x1 x2 a3 h = some r) : ∃ q : jR × jH, F_X11_log n a0 x1 x2 h = some q ∧ ((∃ v : Int32, q.1 = .inl v ∧ r.1 = 0 ∧ jall_ r.2 a3 0 = some ((fun v : Int32 => v.toInt64) v)) ∨ ∃ k : Nat, q.1 = .inr k ∧ FK_log k = some r.1) := by
  unfold FL_log at hf
  obtain ⟨q, e, hf⟩ := jbind hf
  refine ⟨q, (jcv_o e).2, ?_⟩
  obtain ⟨q1, q2⟩ := q
  rcases q1 with v | k
  · obtain ⟨h2, e2, hf⟩ := jbind hf
    cases hf
    exact Or.inl ⟨v, rfl, rfl, jasl_ll e2⟩
  · refine Or.inr ⟨k, rfl, ?_⟩
    replace hf : (if k = 4 then some ((1 : Int32), q2) else none) = some r := hf
    unfold FK_log
    by_cases c0 : k = 4
    · rw [if_pos c0] at hf ⊢; cases hf; rfl
    rw [if_neg c0] at hf ⊢
    cases hf
/-- what class and law say, beside what the reference says -/
theorem ans_B {l : List (Nat × Int32)} {a : jR} {b f c : Int32} {out : Nat} {H0 H1 : jH} {cv : Int32 → Int64} {code : Nat → Option Int32} (A : ansE l a b f) (B : (∃ v : Int32, a = .inl v ∧ c = 0 ∧ jall_ H0 out 0 = some (cv v)) ∨ ∃ k : Nat, a = .inr k ∧ code k = some c) (hc : ∀ p ∈ l, code p.1 = some p.2 ∧ p.2 ≠ 0) (ok : jall_ H1 out 0 = jall_ H0 out 0) : f = c ∧ (c = 0 → jall_ H1 out 0 = some (cv b)) := by
  rcases A with ⟨a1, f1⟩ | ⟨p, hp, a1, b1, f1⟩
  · rcases B with ⟨v, b2, c2, j⟩ | ⟨k, b2, c2⟩
    · rw [a1] at b2
      cases b2
      exact ⟨f1.trans c2.symm, fun _ => ok.trans j⟩
    · rw [a1] at b2
      cases b2
  · rcases B with ⟨v, b2, c2, j⟩ | ⟨k, b2, c2⟩
    · rw [a1] at b2
      cases b2
    · rw [a1] at b2
      cases b2
      obtain ⟨c3, c4⟩ := hc p hp
      have c5 : p.2 = c := Option.some.inj (c3.symm.trans c2)
      exact ⟨f1.trans c5, fun z => absurd (c5.trans z) c4⟩
end
section
-- the steps of the law keep jInv
theorem t_z {Θ : Nat → jD} {Γ : Nat → Option Nat} {h : jH} {z : Nat} (w : jW Θ Γ h) (hz : h.1 ≤ z) : jW Θ Γ (z, h.2) := fun a c q => ⟨Nat.lt_of_lt_of_le (w a c q).1 hz, (w a c q).2⟩
theorem j00 : 0 ≤ (0 : Int32).toInt ∧ (0 : Int32).toInt ≤ 400 := by decide
theorem t_out {g : jGh} {Γ : Nat → Option Nat} {h : jH} {out : Nat} (w : jW (jKd g) Γ h) (to : Γ out = some 40) (v : Int64) : ∃ h2, jasl h out 0 v = some h2 ∧ jW (jKd g) Γ h2 := by
  have h2 := (w out 40 to).2
  have h3 : ∃ f : Nat → Int64, h.2 out = some (.inr (.inr (.inr (1, f)))) ∧ ((0 : Nat) = 0 ∨ (0 : Nat) % 18446744073709551616 = (f 0).toUInt64.toNat) := h2
  obtain ⟨f, e1, -⟩ := h3
  refine ⟨jup h out (.inr (.inr (.inr (1, vp_updL f (0 : Int32).toNatClampNeg v)))), ?_, t_put w (fun c hc => ?_)⟩
  · unfold jasl
    rw [e1]
    dsimp only
    rw [if_pos (by decide)]
  · cases to.symm.trans hc
    exact okE_l
theorem t_f1 {out a1 : Nat} {Q : jH → Prop} (hq : ∀ h v, Q h → ∃ h2, jasl h out 0 v = some h2 ∧ Q h2) {q : jR × jH} (f : Int32 → Int64) {R : Int32 → Prop} (q2 : Q q.2) (hx : jXok [a1] R q.1) : ∃ r : Int32 × jH, (match q.1 with | .inl v => (jasl q.2 out 0 (f v)).bind fun h2 => some ((0 : Int32), h2) | .inr k => if k = a1 then some ((1 : Int32), q.2) else none) = some r ∧ Q r.2 := by
  obtain ⟨r, h⟩ := q
  cases r with
  | inl v =>
    obtain ⟨h2, e2, w2⟩ := hq h (f v) q2
    exact ⟨(0, h2), by show (jasl h out 0 (f v)).bind _ = _; rw [e2]; rfl, w2⟩
  | inr k =>
    have hk : k ∈ [a1] := hx
    have hk : k = a1 := by simpa using hk
    exact ⟨(1, h), if_pos hk, q2⟩
theorem t_f2 {out a1 a2 : Nat} {Q : jH → Prop} (hq : ∀ h v, Q h → ∃ h2, jasl h out 0 v = some h2 ∧ Q h2) {q : jR × jH} (f : Int32 → Int64) {R : Int32 → Prop} (q2 : Q q.2) (hx : jXok [a1, a2] R q.1) : ∃ r : Int32 × jH, (match q.1 with | .inl v => (jasl q.2 out 0 (f v)).bind fun h2 => some ((0 : Int32), h2) | .inr k => if k = a1 then some ((1 : Int32), q.2) else if k = a2 then some ((2 : Int32), q.2) else none) = some r ∧ Q r.2 := by
  obtain ⟨r, h⟩ := q
  cases r with
  | inl v =>
    obtain ⟨h2, e2, w2⟩ := hq h (f v) q2
    exact ⟨(0, h2), by show (jasl h out 0 (f v)).bind _ = _; rw [e2]; rfl, w2⟩
  | inr k =>
    have hk : k ∈ [a1, a2] := hx
    have hk : k = a1 ∨ k = a2 := by simpa using hk
    by_cases c : k = a1
    · exact ⟨(1, h), if_pos c, q2⟩
    · exact ⟨(2, h), (if_neg c).trans (if_pos (hk.resolve_left c)), q2⟩
theorem t_f3 {out a1 a2 a3 : Nat} {Q : jH → Prop} (hq : ∀ h v, Q h → ∃ h2, jasl h out 0 v = some h2 ∧ Q h2) {q : jR × jH} (f : Int32 → Int64) {R : Int32 → Prop} (q2 : Q q.2) (hx : jXok [a1, a2, a3] R q.1) : ∃ r : Int32 × jH, (match q.1 with | .inl v => (jasl q.2 out 0 (f v)).bind fun h2 => some ((0 : Int32), h2) | .inr k => if k = a1 then some ((1 : Int32), q.2) else if k = a2 then some ((2 : Int32), q.2) else if k = a3 then some ((3 : Int32), q.2) else none) = some r ∧ Q r.2 := by
  obtain ⟨r, h⟩ := q
  cases r with
  | inl v =>
    obtain ⟨h2, e2, w2⟩ := hq h (f v) q2
    exact ⟨(0, h2), by show (jasl h out 0 (f v)).bind _ = _; rw [e2]; rfl, w2⟩
  | inr k =>
    have hk : k ∈ [a1, a2, a3] := hx
    have hk : k = a1 ∨ k = a2 ∨ k = a3 := by simpa using hk
    by_cases c : k = a1
    · exact ⟨(1, h), if_pos c, q2⟩
    · have hk := hk.resolve_left c
      by_cases c2 : k = a2
      · exact ⟨(2, h), (if_neg c).trans (if_pos c2), q2⟩
      · exact ⟨(3, h), (if_neg c).trans ((if_neg c2).trans (if_pos (hk.resolve_left c2))), q2⟩
theorem St_0 {x m out : Nat} {a : Nat → Int32} {h : jH} (v : jInv x m out h) : SL_0 6000 x m out a h (jInv x m out) := by
  obtain ⟨g, Γ, hg, w, tx, tm, to, hu, h41, hl, hI⟩ := v
  unfold SL_0
  rw [t_cv w tx rfl]
  obtain ⟨r0, e0, p0⟩ := S_X11_feed (Nat.le_refl _) hg w tx hu
  obtain ⟨⟨B, w1⟩, q0⟩ := p0
  have hg1 : jgok (if 380 < g.1 then g.1 else g.1 + 20, B, g.2.2) := ⟨by obtain ⟨⟨y1, y2⟩, -⟩ := id hg; dsimp only; split <;> omega, hg.2⟩
  refine ⟨r0, e0, ?_⟩
  rw [t_cv w1 tm rfl]
  obtain ⟨r1, e1, p1⟩ := S_X12_feed (Nat.le_refl _) hg1 w1 tm hu
  obtain ⟨w2, q1⟩ := p1
  have hl9 : g.1 = g.2.2.1 := hl
  refine ⟨r1, e1, ?_⟩
  refine ⟨_, Γ, ?_, w2, tx, tm, to, hu, h41, ?_, ?_⟩
  · refine ⟨hg1.1, ?_⟩
    obtain ⟨-, y1, y2, y3⟩ := id hg
    refine ⟨?_, ?_, y3⟩ <;> (dsimp only; split <;> omega)
  · dsimp only
    rw [hl9]
  · exact hI
theorem St_1 {x m out : Nat} {a : Nat → Int32} {h : jH} (v : jInv x m out h) : SL_1 6000 x m out a h (jInv x m out) := by
  obtain ⟨g, Γ, hg, w, tx, tm, to, hu, h41, hl, hI⟩ := v
  unfold SL_1
  rw [t_cv w tx rfl]
  obtain ⟨r0, e0, p0⟩ := S_X11_end w tx hu
  obtain ⟨p0, q0⟩ := p0
  have hg1 : jgok (if 0 ≤ (a 1).toInt ∧ (a 1).toInt ≤ g.1 then (a 1).toInt else g.1, g.2) := ⟨by obtain ⟨⟨y1, y2⟩, -⟩ := id hg; dsimp only; split <;> omega, hg.2⟩
  refine ⟨r0, e0, ?_⟩
  rw [t_cv p0 tm rfl]
  obtain ⟨r1, e1, p1⟩ := S_X12_end p0 tm hu
  have hl9 : g.1 = g.2.2.1 := hl
  obtain ⟨p1, q1⟩ := p1
  refine ⟨r1, e1, ?_⟩
  refine ⟨_, Γ, ?_, p1, tx, tm, to, hu, h41, ?_, ?_⟩
  · refine ⟨hg1.1, ?_⟩
    obtain ⟨-, y1, y2, y3⟩ := id hg
    refine ⟨?_, ?_, y3⟩ <;> (dsimp only; split <;> omega)
  · dsimp only
    rw [hl9]
  · exact hI
theorem St_2 {x m out : Nat} {a : Nat → Int32} {h : jH} (v : jInv x m out h) : SL_2 6000 x m out a h (jInv x m out) := by
  obtain ⟨g, Γ, hg, w, tx, tm, to, hu, h41, hl, hI⟩ := v
  unfold SL_2
  obtain ⟨r0, e0, p0⟩ := S_X11_pole (Nat.le_refl _) hg w tx (fun a b p q => hu a b 10 (by decide) p q)
  obtain ⟨w1, hx⟩ := p0
  have hg1 : jgok ((0 : Int32).toInt, g.2) := ⟨j00, hg.2⟩
  obtain ⟨r9, e9, w9⟩ := t_f2 (Q := fun h => jW (jKd ((0 : Int32).toInt, g.2)) Γ h) (out := out) (fun h v w => t_out w to v) (q := r0) (fun v => v.toInt64) w1 hx
  refine ⟨r9, ?_, fun z0 hz => ?_⟩
  · unfold FL_pole
    rw [t_cv w tx rfl, e0]
    exact e9
  have wz := t_z w9 hz
  rw [t_cv wz tm rfl]
  obtain ⟨r1, e1, p1⟩ := S_X12_pole (Nat.le_refl _) hg1 wz tm hu
  refine ⟨r1, e1, ?_⟩
  obtain ⟨E2, w2⟩ := p1
  refine ⟨_, Γ, ?_, w2, tx, tm, to, hu, h41, ?_, ?_⟩
  · exact ⟨j00, j00.1, j00.2, hg.2.2.2⟩
  · exact rfl
  · exact hI
theorem St_3 {x m out : Nat} {a : Nat → Int32} {h : jH} (v : jInv x m out h) : SL_3 6000 x m out a h (jInv x m out) := by
  obtain ⟨g, Γ, hg, w, tx, tm, to, hu, h41, hl, hI⟩ := v
  unfold SL_3
  obtain ⟨r0, e0, p0⟩ := S_X11_law (Nat.le_refl _) hg w tx (fun a b p q => hu a b 10 (by decide) p q)
  obtain ⟨w1, hx⟩ := p0
  have hg1 : jgok ((0 : Int32).toInt, g.2) := ⟨j00, hg.2⟩
  obtain ⟨r9, e9, w9⟩ := t_f1 (Q := fun h => jW (jKd ((0 : Int32).toInt, g.2)) Γ h) (out := out) (fun h v w => t_out w to v) (q := r0) (fun v => v.toInt64) w1 hx
  refine ⟨r9, ?_, fun z0 hz => ?_⟩
  · unfold FL_law
    rw [t_cv w tx rfl, e0]
    exact e9
  have wz := t_z w9 hz
  rw [t_cv wz tm rfl]
  obtain ⟨r1, e1, p1⟩ := S_X12_law (Nat.le_refl _) hg1 wz tm hu
  refine ⟨r1, e1, ?_⟩
  obtain ⟨C2, c2, w2⟩ := p1
  refine ⟨_, Γ, ?_, w2, tx, tm, to, hu, h41, ?_, ?_⟩
  · exact ⟨j00, j00.1, j00.2, c2⟩
  · exact rfl
  · exact hI
theorem St_4 {x m out : Nat} {a : Nat → Int32} {h : jH} (v : jInv x m out h) : SL_4 6000 x m out a h (jInv x m out) := by
  obtain ⟨g, Γ, hg, w, tx, tm, to, hu, h41, hl, hI⟩ := v
  unfold SL_4
  rw [t_cv w tx rfl]
  obtain ⟨r0, e0, p0⟩ := S_X11_fault (Nat.le_refl _) hg w tx
  refine ⟨r0, e0, ?_⟩
  rw [t_cv w tm rfl]
  obtain ⟨r1, e1, p1⟩ := S_X12_fault (Nat.le_refl _) hg w tm
  refine ⟨r1, e1, ?_⟩
  obtain ⟨w2, -⟩ := p1
  refine ⟨_, Γ, ?_, w2, tx, tm, to, hu, h41, ?_, ?_⟩
  · exact hg
  · exact hl
  · exact hI
theorem St_5 {x m out : Nat} {a : Nat → Int32} {h : jH} (v : jInv x m out h) : SL_5 6000 x m out a h (jInv x m out) := by
  obtain ⟨g, Γ, hg, w, tx, tm, to, hu, h41, hl, hI⟩ := v
  unfold SL_5
  obtain ⟨r0, e0, p0⟩ := S_X11_ring (Nat.le_refl _) hg w tx
  obtain ⟨w1, hx⟩ := p0
  obtain ⟨r9, e9, w9⟩ := t_f2 (Q := fun h => jW (jKd g) Γ h) (out := out) (fun h v w => t_out w to v) (q := r0) (fun v => v.toInt64) w1 hx
  refine ⟨r9, ?_, fun z0 hz => ?_⟩
  · unfold FL_ring
    rw [t_cv w tx rfl, e0]
    exact e9
  have wz := t_z w9 hz
  rw [t_cv wz tm rfl]
  obtain ⟨r1, e1, p1⟩ := S_X12_ring (Nat.le_refl _) hg wz tm
  refine ⟨r1, e1, ?_⟩
  obtain ⟨w2, -⟩ := p1
  refine ⟨_, Γ, ?_, w2, tx, tm, to, hu, h41, ?_, ?_⟩
  · exact hg
  · exact hl
  · exact hI
theorem St_6 {x m out : Nat} {a : Nat → Int32} {h : jH} (v : jInv x m out h) : SL_6 6000 x m out a h (jInv x m out) := by
  obtain ⟨g, Γ, hg, w, tx, tm, to, hu, h41, hl, hI⟩ := v
  unfold SL_6
  obtain ⟨r0, e0, p0⟩ := S_X11_pull (Nat.le_refl _) hg w tx
  obtain ⟨Γ2, l2, w1, hx⟩ := p0
  have tx2 := l2.1 _ _ tx
  have tm2 := l2.1 _ _ tm
  have to2 := l2.1 _ _ to
  have hu2 : ∀ a b c, 9 ≤ c → Γ2 a = some c → Γ2 b = some c → a = b := fun a b c k p q => hu a b c k (l2.2 a c k p) (l2.2 b c k q)
  have h412 : ∀ b, Γ2 b ≠ some 41 := fun b q => h41 b (l2.2 b 41 (by decide) q)
  obtain ⟨r9, e9, w9⟩ := t_f2 (Q := fun h => jW (jKd g) Γ2 h) (out := out) (fun h v w => t_out w to2 v) (q := r0) (fun v => v.toInt64) w1 hx
  refine ⟨r9, ?_, fun z0 hz => ?_⟩
  · unfold FL_pull
    rw [t_cv w tx rfl, e0]
    exact e9
  have wz := t_z w9 hz
  rw [t_cv wz tm2 rfl]
  obtain ⟨r1, e1, p1⟩ := S_X12_pull (Nat.le_refl _) hg wz tm2
  refine ⟨r1, e1, ?_⟩
  obtain ⟨w2, -⟩ := p1
  refine ⟨_, Γ2, ?_, w2, tx2, tm2, to2, hu2, h412, ?_, ?_⟩
  · exact hg
  · exact hl
  · exact hI
theorem St_7 {x m out : Nat} {a : Nat → Int32} {h : jH} (v : jInv x m out h) : SL_7 6000 x m out a h (jInv x m out) := by
  obtain ⟨g, Γ, hg, w, tx, tm, to, hu, h41, hl, hI⟩ := v
  unfold SL_7
  obtain ⟨r0, e0, p0⟩ := S_X11_free (Nat.le_refl _) hg w tx
  obtain ⟨Γ2, l2, w1, hx⟩ := p0
  have tx2 := l2.1 _ _ tx
  have tm2 := l2.1 _ _ tm
  have to2 := l2.1 _ _ to
  have hu2 : ∀ a b c, 9 ≤ c → Γ2 a = some c → Γ2 b = some c → a = b := fun a b c k p q => hu a b c k (l2.2 a c k p) (l2.2 b c k q)
  have h412 : ∀ b, Γ2 b ≠ some 41 := fun b q => h41 b (l2.2 b 41 (by decide) q)
  obtain ⟨r9, e9, w9⟩ := t_f2 (Q := fun h => jW (jKd g) Γ2 h) (out := out) (fun h v w => t_out w to2 v) (q := r0) (fun v => v.toInt64) w1 hx
  refine ⟨r9, ?_, fun z0 hz => ?_⟩
  · unfold FL_free
    rw [t_cv w tx rfl, e0]
    exact e9
  have wz := t_z w9 hz
  rw [t_cv wz tm2 rfl]
  obtain ⟨r1, e1, p1⟩ := S_X12_free (Nat.le_refl _) hg wz tm2
  refine ⟨r1, e1, ?_⟩
  obtain ⟨w2, -⟩ := p1
  refine ⟨_, Γ2, ?_, w2, tx2, tm2, to2, hu2, h412, ?_, ?_⟩
  · exact hg
  · exact hl
  · exact hI
theorem St_8 {x m out : Nat} {a : Nat → Int32} {h : jH} (v : jInv x m out h) : SL_8 6000 x m out a h (jInv x m out) := by
  obtain ⟨g, Γ, hg, w, tx, tm, to, hu, h41, hl, hI⟩ := v
  unfold SL_8
  obtain ⟨r0, e0, p0⟩ := S_X11_snag (Nat.le_refl _) hg w tx
  obtain ⟨Γ2, l2, w1, hx⟩ := p0
  have tx2 := l2.1 _ _ tx
  have tm2 := l2.1 _ _ tm
  have to2 := l2.1 _ _ to
  have hu2 : ∀ a b c, 9 ≤ c → Γ2 a = some c → Γ2 b = some c → a = b := fun a b c k p q => hu a b c k (l2.2 a c k p) (l2.2 b c k q)
  have h412 : ∀ b, Γ2 b ≠ some 41 := fun b q => h41 b (l2.2 b 41 (by decide) q)
  obtain ⟨r9, e9, w9⟩ := t_f2 (Q := fun h => jW (jKd g) Γ2 h) (out := out) (fun h v w => t_out w to2 v) (q := r0) (fun v => v.toInt64) w1 hx
  refine ⟨r9, ?_, fun z0 hz => ?_⟩
  · unfold FL_snag
    rw [t_cv w tx rfl, e0]
    exact e9
  have wz := t_z w9 hz
  rw [t_cv wz tm2 rfl]
  obtain ⟨r1, e1, p1⟩ := S_X12_snag (Nat.le_refl _) hg wz tm2
  refine ⟨r1, e1, ?_⟩
  obtain ⟨w2, -⟩ := p1
  refine ⟨_, Γ2, ?_, w2, tx2, tm2, to2, hu2, h412, ?_, ?_⟩
  · exact hg
  · exact hl
  · exact hI
theorem St_9 {x m out : Nat} {a : Nat → Int32} {h : jH} (v : jInv x m out h) : SL_9 6000 x m out a h (jInv x m out) := by
  obtain ⟨g, Γ, hg, w, tx, tm, to, hu, h41, hl, hI⟩ := v
  unfold SL_9
  obtain ⟨r0, e0, p0⟩ := S_X11_hook (Nat.le_refl _) hg w tx
  obtain ⟨Γ2, l2, w1, hx⟩ := p0
  have tx2 := l2.1 _ _ tx
  have tm2 := l2.1 _ _ tm
  have to2 := l2.1 _ _ to
  have hu2 : ∀ a b c, 9 ≤ c → Γ2 a = some c → Γ2 b = some c → a = b := fun a b c k p q => hu a b c k (l2.2 a c k p) (l2.2 b c k q)
  have h412 : ∀ b, Γ2 b ≠ some 41 := fun b q => h41 b (l2.2 b 41 (by decide) q)
  obtain ⟨r9, e9, w9⟩ := t_f1 (Q := fun h => jW (jKd g) Γ2 h) (out := out) (fun h v w => t_out w to2 v) (q := r0) (fun v => if v = 0 then 0 else 1) w1 hx
  refine ⟨r9, ?_, fun z0 hz => ?_⟩
  · unfold FL_hook
    rw [t_cv w tx rfl, e0]
    exact e9
  have wz := t_z w9 hz
  rw [t_cv wz tm2 rfl]
  obtain ⟨r1, e1, p1⟩ := S_X12_hook (Nat.le_refl _) hg wz tm2
  refine ⟨r1, e1, ?_⟩
  obtain ⟨w2, -⟩ := p1
  refine ⟨_, Γ2, ?_, w2, tx2, tm2, to2, hu2, h412, ?_, ?_⟩
  · exact hg
  · exact hl
  · exact hI
theorem St_10 {x m out : Nat} {a : Nat → Int32} {h : jH} (v : jInv x m out h) : SL_10 6000 x m out a h (jInv x m out) := by
  obtain ⟨g, Γ, hg, w, tx, tm, to, hu, h41, hl, hI⟩ := v
  unfold SL_10
  obtain ⟨r0, e0, p0⟩ := S_X11_sew (Nat.le_refl _) hg w tx
  obtain ⟨Γ2, l2, w1, hx⟩ := p0
  have tx2 := l2.1 _ _ tx
  have tm2 := l2.1 _ _ tm
  have to2 := l2.1 _ _ to
  have hu2 : ∀ a b c, 9 ≤ c → Γ2 a = some c → Γ2 b = some c → a = b := fun a b c k p q => hu a b c k (l2.2 a c k p) (l2.2 b c k q)
  have h412 : ∀ b, Γ2 b ≠ some 41 := fun b q => h41 b (l2.2 b 41 (by decide) q)
  obtain ⟨r9, e9, w9⟩ := t_f3 (Q := fun h => jW (jKd g) Γ2 h) (out := out) (fun h v w => t_out w to2 v) (q := r0) (fun v => v.toInt64) w1 hx
  refine ⟨r9, ?_, fun z0 hz => ?_⟩
  · unfold FL_sew
    rw [t_cv w tx rfl, e0]
    exact e9
  have wz := t_z w9 hz
  rw [t_cv wz tm2 rfl]
  obtain ⟨r1, e1, p1⟩ := S_X12_sew (Nat.le_refl _) hg wz tm2
  refine ⟨r1, e1, ?_⟩
  refine ⟨_, Γ2, ?_, p1, tx2, tm2, to2, hu2, h412, ?_, ?_⟩
  · exact hg
  · exact hl
  · exact hI
theorem St_11 {x m out : Nat} {a : Nat → Int32} {h : jH} (v : jInv x m out h) : SL_11 6000 x m out a h (jInv x m out) := by
  obtain ⟨g, Γ, hg, w, tx, tm, to, hu, h41, hl, hI⟩ := v
  unfold SL_11
  obtain ⟨r0, e0, p0⟩ := S_X11_let (Nat.le_refl _) hg w tx
  obtain ⟨Γ2, l2, w1, hx⟩ := p0
  have tx2 := l2.1 _ _ tx
  have tm2 := l2.1 _ _ tm
  have to2 := l2.1 _ _ to
  have hu2 : ∀ a b c, 9 ≤ c → Γ2 a = some c → Γ2 b = some c → a = b := fun a b c k p q => hu a b c k (l2.2 a c k p) (l2.2 b c k q)
  have h412 : ∀ b, Γ2 b ≠ some 41 := fun b q => h41 b (l2.2 b 41 (by decide) q)
  obtain ⟨r9, e9, w9⟩ := t_f2 (Q := fun h => jW (jKd g) Γ2 h) (out := out) (fun h v w => t_out w to2 v) (q := r0) (fun v => v.toInt64) w1 hx
  refine ⟨r9, ?_, fun z0 hz => ?_⟩
  · unfold FL_let
    rw [t_cv w tx rfl, e0]
    exact e9
  have wz := t_z w9 hz
  rw [t_cv wz tm2 rfl]
  obtain ⟨r1, e1, p1⟩ := S_X12_let (Nat.le_refl _) hg wz tm2
  refine ⟨r1, e1, ?_⟩
  obtain ⟨w2, -⟩ := p1
  refine ⟨_, Γ2, ?_, w2, tx2, tm2, to2, hu2, h412, ?_, ?_⟩
  · exact hg
  · exact hl
  · exact hI
theorem St_12 {x m out : Nat} {a : Nat → Int32} {h : jH} (v : jInv x m out h) : SL_12 6000 x m out a h (jInv x m out) := by
  obtain ⟨g, Γ, hg, w, tx, tm, to, hu, h41, hl, hI⟩ := v
  unfold SL_12
  obtain ⟨r0, e0, p0⟩ := S_X11_chair (Nat.le_refl _) hg w tx
  obtain ⟨Γ2, l2, w1, hx⟩ := p0
  have tx2 := l2.1 _ _ tx
  have tm2 := l2.1 _ _ tm
  have to2 := l2.1 _ _ to
  have hu2 : ∀ a b c, 9 ≤ c → Γ2 a = some c → Γ2 b = some c → a = b := fun a b c k p q => hu a b c k (l2.2 a c k p) (l2.2 b c k q)
  have h412 : ∀ b, Γ2 b ≠ some 41 := fun b q => h41 b (l2.2 b 41 (by decide) q)
  obtain ⟨r9, e9, w9⟩ := t_f1 (Q := fun h => jW (jKd g) Γ2 h) (out := out) (fun h v w => t_out w to2 v) (q := r0) (fun v => if v = 0 then 0 else 1) w1 hx
  refine ⟨r9, ?_, fun z0 hz => ?_⟩
  · unfold FL_chair
    rw [t_cv w tx rfl, e0]
    exact e9
  have wz := t_z w9 hz
  rw [t_cv wz tm2 rfl]
  obtain ⟨r1, e1, p1⟩ := S_X12_chair (Nat.le_refl _) hg wz tm2
  refine ⟨r1, e1, ?_⟩
  obtain ⟨w2, -⟩ := p1
  refine ⟨_, Γ2, ?_, w2, tx2, tm2, to2, hu2, h412, ?_, ?_⟩
  · exact hg
  · exact hl
  · exact hI
theorem St_13 {x m out : Nat} {a : Nat → Int32} {h : jH} (v : jInv x m out h) : SL_13 6000 x m out a h (jInv x m out) := by
  obtain ⟨g, Γ, hg, w, tx, tm, to, hu, h41, hl, hI⟩ := v
  unfold SL_13
  obtain ⟨r0, e0, p0⟩ := S_X11_hours (Nat.le_refl _) hg w tx
  obtain ⟨Γ2, l2, w1, hx⟩ := p0
  have tx2 := l2.1 _ _ tx
  have tm2 := l2.1 _ _ tm
  have to2 := l2.1 _ _ to
  have hu2 : ∀ a b c, 9 ≤ c → Γ2 a = some c → Γ2 b = some c → a = b := fun a b c k p q => hu a b c k (l2.2 a c k p) (l2.2 b c k q)
  have h412 : ∀ b, Γ2 b ≠ some 41 := fun b q => h41 b (l2.2 b 41 (by decide) q)
  obtain ⟨r9, e9, w9⟩ := t_f1 (Q := fun h => jW (jKd g) Γ2 h) (out := out) (fun h v w => t_out w to2 v) (q := r0) (fun v => v.toInt64) w1 hx
  refine ⟨r9, ?_, fun z0 hz => ?_⟩
  · unfold FL_hours
    rw [t_cv w tx rfl, e0]
    exact e9
  have wz := t_z w9 hz
  rw [t_cv wz tm2 rfl]
  obtain ⟨r1, e1, p1⟩ := S_X12_hours (Nat.le_refl _) hg wz tm2
  refine ⟨r1, e1, ?_⟩
  obtain ⟨w2, -⟩ := p1
  refine ⟨_, Γ2, ?_, w2, tx2, tm2, to2, hu2, h412, ?_, ?_⟩
  · exact hg
  · exact hl
  · exact hI
theorem St_14 {x m out : Nat} {a : Nat → Int32} {h : jH} (v : jInv x m out h) : SL_14 6000 x m out a h (jInv x m out) := by
  obtain ⟨g, Γ, hg, w, tx, tm, to, hu, h41, hl, hI⟩ := v
  unfold SL_14
  rw [t_cv w tx rfl]
  obtain ⟨r0, e0, p0⟩ := S_X11_shade (Nat.le_refl _) hg w tx
  refine ⟨r0, e0, ?_⟩
  rw [t_cv w tm rfl]
  obtain ⟨r1, e1, p1⟩ := S_X12_shade (Nat.le_refl _) hg w tm
  refine ⟨r1, e1, ?_⟩
  obtain ⟨w2, -⟩ := p1
  refine ⟨_, Γ, ?_, w2, tx, tm, to, hu, h41, ?_, ?_⟩
  · exact hg
  · exact hl
  · exact hI
theorem St_15 {x m out : Nat} {a : Nat → Int32} {h : jH} (v : jInv x m out h) : SL_15 6000 x m out a h (jInv x m out) := by
  obtain ⟨g, Γ, hg, w, tx, tm, to, hu, h41, hl, hI⟩ := v
  unfold SL_15
  rw [t_cv w tx rfl]
  obtain ⟨r0, e0, p0⟩ := S_X11_dark (Nat.le_refl _) hg w tx
  refine ⟨r0, e0, ?_⟩
  rw [t_cv w tm rfl]
  obtain ⟨r1, e1, p1⟩ := S_X12_dark (Nat.le_refl _) hg w tm
  refine ⟨r1, e1, ?_⟩
  obtain ⟨w2, -⟩ := p1
  refine ⟨_, Γ, ?_, w2, tx, tm, to, hu, h41, ?_, ?_⟩
  · exact hg
  · exact hl
  · exact hI
theorem St_16 {x m out : Nat} {a : Nat → Int32} {h : jH} (v : jInv x m out h) : SL_16 6000 x m out a h (jInv x m out) := by
  obtain ⟨g, Γ, hg, w, tx, tm, to, hu, h41, hl, hI⟩ := v
  unfold SL_16
  rw [t_cv w tx rfl]
  obtain ⟨r0, e0, p0⟩ := S_X11_bare (Nat.le_refl _) hg w tx
  refine ⟨r0, e0, ?_⟩
  rw [t_cv w tm rfl]
  obtain ⟨r1, e1, p1⟩ := S_X12_bare (Nat.le_refl _) hg w tm
  refine ⟨r1, e1, ?_⟩
  obtain ⟨w2, -⟩ := p1
  refine ⟨_, Γ, ?_, w2, tx, tm, to, hu, h41, ?_, ?_⟩
  · exact hg
  · exact hl
  · exact hI
theorem St_17 {x m out : Nat} {a : Nat → Int32} {h : jH} (v : jInv x m out h) : SL_17 6000 x m out a h (jInv x m out) := by
  obtain ⟨g, Γ, hg, w, tx, tm, to, hu, h41, hl, hI⟩ := v
  unfold SL_17
  obtain ⟨r0, e0, p0⟩ := S_X11_goes (Nat.le_refl _) hg w tx
  obtain ⟨w1, hx⟩ := p0
  obtain ⟨r9, e9, w9⟩ := t_f1 (Q := fun h => jW (jKd g) Γ h) (out := out) (fun h v w => t_out w to v) (q := r0) (fun v => v.toInt64) w1 hx
  refine ⟨r9, ?_, fun z0 hz => ?_⟩
  · unfold FL_goes
    rw [t_cv w tx rfl, e0]
    exact e9
  have wz := t_z w9 hz
  rw [t_cv wz tm rfl]
  obtain ⟨r1, e1, p1⟩ := S_X12_goes (Nat.le_refl _) hg wz tm
  refine ⟨r1, e1, ?_⟩
  obtain ⟨w2, -⟩ := p1
  refine ⟨_, Γ, ?_, w2, tx, tm, to, hu, h41, ?_, ?_⟩
  · exact hg
  · exact hl
  · exact hI
theorem St_18 {x m out : Nat} {a : Nat → Int32} {h : jH} (v : jInv x m out h) : SL_18 6000 x m out a h (jInv x m out) := by
  obtain ⟨g, Γ, hg, w, tx, tm, to, hu, h41, hl, hI⟩ := v
  unfold SL_18
  obtain ⟨r0, e0, p0⟩ := S_X11_with (Nat.le_refl _) hg w tx
  obtain ⟨w1, hx⟩ := p0
  obtain ⟨r9, e9, w9⟩ := t_f1 (Q := fun h => jW (jKd g) Γ h) (out := out) (fun h v w => t_out w to v) (q := r0) (fun v => v.toInt64) w1 hx
  refine ⟨r9, ?_, fun z0 hz => ?_⟩
  · unfold FL_with
    rw [t_cv w tx rfl, e0]
    exact e9
  have wz := t_z w9 hz
  rw [t_cv wz tm rfl]
  obtain ⟨r1, e1, p1⟩ := S_X12_with (Nat.le_refl _) hg wz tm
  refine ⟨r1, e1, ?_⟩
  obtain ⟨w2, -⟩ := p1
  refine ⟨_, Γ, ?_, w2, tx, tm, to, hu, h41, ?_, ?_⟩
  · exact hg
  · exact hl
  · exact hI
theorem St_19 {x m out : Nat} {a : Nat → Int32} {h : jH} (v : jInv x m out h) : SL_19 6000 x m out a h (jInv x m out) := by
  obtain ⟨g, Γ, hg, w, tx, tm, to, hu, h41, hl, hI⟩ := v
  unfold SL_19
  obtain ⟨r0, e0, p0⟩ := S_X11_would (Nat.le_refl _) hg w tx
  obtain ⟨w1, hx⟩ := p0
  obtain ⟨r9, e9, w9⟩ := t_f2 (Q := fun h => jW (jKd g) Γ h) (out := out) (fun h v w => t_out w to v) (q := r0) (fun v => v.toInt64) w1 hx
  refine ⟨r9, ?_, fun z0 hz => ?_⟩
  · unfold FL_would
    rw [t_cv w tx rfl, e0]
    exact e9
  have wz := t_z w9 hz
  rw [t_cv wz tm rfl]
  obtain ⟨r1, e1, p1⟩ := S_X12_would (Nat.le_refl _) hg wz tm
  refine ⟨r1, e1, ?_⟩
  obtain ⟨w2, -⟩ := p1
  refine ⟨_, Γ, ?_, w2, tx, tm, to, hu, h41, ?_, ?_⟩
  · exact hg
  · exact hl
  · exact hI
theorem St_20 {x m out : Nat} {a : Nat → Int32} {h : jH} (v : jInv x m out h) : SL_20 6000 x m out a h (jInv x m out) := by
  obtain ⟨g, Γ, hg, w, tx, tm, to, hu, h41, hl, hI⟩ := v
  unfold SL_20
  rw [t_cv w tx rfl]
  obtain ⟨r0, e0, p0⟩ := S_X11_best (Nat.le_refl _) hg w tx
  obtain ⟨w1, hx⟩ := p0
  refine ⟨r0, e0, ?_⟩
  rw [t_cv w1 tm rfl]
  obtain ⟨r1, e1, p1⟩ := S_X12_best (Nat.le_refl _) hg w1 tm
  refine ⟨r1, e1, ?_⟩
  obtain ⟨w2, -⟩ := p1
  refine ⟨_, Γ, ?_, w2, tx, tm, to, hu, h41, ?_, ?_⟩
  · exact hg
  · exact hl
  · exact hI
theorem St_21 {x m out : Nat} {a : Nat → Int32} {h : jH} (v : jInv x m out h) : SL_21 6000 x m out a h (jInv x m out) := by
  obtain ⟨g, Γ, hg, w, tx, tm, to, hu, h41, hl, hI⟩ := v
  unfold SL_21
  rw [t_cv w tx rfl]
  obtain ⟨r0, e0, p0⟩ := S_X11_fewest (Nat.le_refl _) hg w tx
  obtain ⟨w1, hx⟩ := p0
  refine ⟨r0, e0, ?_⟩
  rw [t_cv w1 tm rfl]
  obtain ⟨r1, e1, p1⟩ := S_X12_fewest (Nat.le_refl _) hg w1 tm
  refine ⟨r1, e1, ?_⟩
  obtain ⟨w2, -⟩ := p1
  refine ⟨_, Γ, ?_, w2, tx, tm, to, hu, h41, ?_, ?_⟩
  · exact hg
  · exact hl
  · exact hI
theorem St_22 {x m out : Nat} {a : Nat → Int32} {h : jH} (v : jInv x m out h) : SL_22 6000 x m out a h (jInv x m out) := by
  obtain ⟨g, Γ, hg, w, tx, tm, to, hu, h41, hl, hI⟩ := v
  unfold SL_22
  rw [t_cv w tx rfl]
  obtain ⟨r0, e0, p0⟩ := S_X11_first (Nat.le_refl _) hg w tx
  obtain ⟨w1, hx⟩ := p0
  refine ⟨r0, e0, ?_⟩
  rw [t_cv w1 tm rfl]
  obtain ⟨r1, e1, p1⟩ := S_X12_first (Nat.le_refl _) hg w1 tm
  refine ⟨r1, e1, ?_⟩
  obtain ⟨w2, -⟩ := p1
  refine ⟨_, Γ, ?_, w2, tx, tm, to, hu, h41, ?_, ?_⟩
  · exact hg
  · exact hl
  · exact hI
theorem St_23 {x m out : Nat} {a : Nat → Int32} {h : jH} (v : jInv x m out h) : SL_23 6000 x m out a h (jInv x m out) := by
  obtain ⟨g, Γ, hg, w, tx, tm, to, hu, h41, hl, hI⟩ := v
  unfold SL_23
  obtain ⟨r0, e0, p0⟩ := S_X11_snags (Nat.le_refl _) hg w tx (fun a b p q => hu a b 10 (by decide) p q)
  obtain ⟨w1, hx⟩ := p0
  have hg1 : jgok ((0 : Int32).toInt, g.2) := ⟨j00, hg.2⟩
  obtain ⟨r9, e9, w9⟩ := t_f1 (Q := fun h => jW (jKd ((0 : Int32).toInt, g.2)) Γ h) (out := out) (fun h v w => t_out w to v) (q := r0) (fun v => v.toInt64) w1 hx
  refine ⟨r9, ?_, fun z0 hz => ?_⟩
  · unfold FL_snags
    rw [t_cv w tx rfl, e0]
    exact e9
  have wz := t_z w9 hz
  rw [t_cv wz tm rfl]
  obtain ⟨r1, e1, p1⟩ := S_X12_snags (Nat.le_refl _) hg1 wz tm hu
  refine ⟨r1, e1, ?_⟩
  obtain ⟨w2, -⟩ := p1
  refine ⟨_, Γ, ?_, w2, tx, tm, to, hu, h41, ?_, ?_⟩
  · exact ⟨j00, j00.1, j00.2, hg.2.2.2⟩
  · exact rfl
  · exact hI
theorem St_24 {x m out : Nat} {a : Nat → Int32} {h : jH} (v : jInv x m out h) : SL_24 6000 x m out a h (jInv x m out) := by
  obtain ⟨g, Γ, hg, w, tx, tm, to, hu, h41, hl, hI⟩ := v
  unfold SL_24
  obtain ⟨r0, e0, p0⟩ := S_X11_tries (Nat.le_refl _) hg w tx (fun a b p q => hu a b 10 (by decide) p q)
  obtain ⟨w1, hx⟩ := p0
  have hg1 : jgok ((0 : Int32).toInt, g.2) := ⟨j00, hg.2⟩
  obtain ⟨r9, e9, w9⟩ := t_f1 (Q := fun h => jW (jKd ((0 : Int32).toInt, g.2)) Γ h) (out := out) (fun h v w => t_out w to v) (q := r0) (fun v => v.toInt64) w1 hx
  refine ⟨r9, ?_, fun z0 hz => ?_⟩
  · unfold FL_tries
    rw [t_cv w tx rfl, e0]
    exact e9
  have wz := t_z w9 hz
  rw [t_cv wz tm rfl]
  obtain ⟨r1, e1, p1⟩ := S_X12_tries (Nat.le_refl _) hg1 wz tm hu
  refine ⟨r1, e1, ?_⟩
  obtain ⟨w2, -⟩ := p1
  refine ⟨_, Γ, ?_, w2, tx, tm, to, hu, h41, ?_, ?_⟩
  · exact ⟨j00, j00.1, j00.2, hg.2.2.2⟩
  · exact rfl
  · exact hI
/-- call 25 without its comparison -/
def SU_25 (n x m out : Nat) (a : Nat → Int32) (h : jH) (P : jH → Prop) : Prop :=
  ∃ r0, FL_loosen n x (a 1) (if (a 2) = 0 then 0 else 1) (a 3) out h = some r0 ∧ ∀ z0, r0.2.1 ≤ z0 → ∃ r1, jcv 10 (z0, r0.2.2) m (F_X12_loosen n m (a 1) (if (a 2) = 0 then 0 else 1) (a 3) (z0, r0.2.2)) = some r1 ∧ jall_ r1.2 out 0 = jall_ (z0, r0.2.2) out 0 ∧ P r1.2
theorem St_25 {x m out : Nat} {a : Nat → Int32} {h : jH} (v : jInv x m out h) : SU_25 6000 x m out a h (jInv x m out) := by
  obtain ⟨g, Γ, hg, w, tx, tm, to, hu, h41, hl, hI⟩ := v
  unfold SU_25
  obtain ⟨r0, e0, p0⟩ := S_X11_loosen (Nat.le_refl _) hg w tx
  obtain ⟨w1, hx⟩ := p0
  obtain ⟨r9, e9, w9⟩ := t_f2 (Q := fun h => jW (jKd g) Γ h) (out := out) (fun h v w => t_out w to v) (q := r0) (fun v => v.toInt64) w1 hx
  refine ⟨r9, ?_, fun z0 hz => ?_⟩
  · unfold FL_loosen
    rw [t_cv w tx rfl, e0]
    exact e9
  have wz := t_z w9 hz
  rw [t_cv wz tm rfl]
  obtain ⟨r1, e1, p1⟩ := S_X12_loosen (x1 := (a 1)) (x2 := (if (a 2) = 0 then 0 else 1)) (x3 := (a 3)) (Nat.le_refl _) hg wz tm
  have ok : jall_ r1.2 out 0 = jall_ (z0, r9.2.2) out 0 := out_keep wz to hu (fun Γ8 hm8 hu8 w8 => by
    obtain ⟨r8, e8, p8⟩ := S_X12_loosen (x1 := (a 1)) (x2 := (if (a 2) = 0 then 0 else 1)) (x3 := (a 3)) (Nat.le_refl _) hg w8 (hm8 _ _ (by decide) tm)
    cases (e1.symm.trans e8)
    obtain ⟨w2, -⟩ := p8
    exact ⟨_, w2⟩)
  refine ⟨r1, e1, ok, ?_⟩
  obtain ⟨w2, -⟩ := p1
  refine ⟨_, Γ, ?_, w2, tx, tm, to, hu, h41, ?_, ?_⟩
  · exact hg
  · exact hl
  · exact hI
theorem St_26 {x m out : Nat} {a : Nat → Int32} {h : jH} (v : jInv x m out h) : SL_26 6000 x m out a h (jInv x m out) := by
  obtain ⟨g, Γ, hg, w, tx, tm, to, hu, h41, hl, hI⟩ := v
  unfold SL_26
  rw [t_cv w tx rfl]
  obtain ⟨r0, e0, p0⟩ := S_X11_order (Nat.le_refl _) hg w tx
  refine ⟨r0, e0, ?_⟩
  rw [t_cv w tm rfl]
  obtain ⟨r1, e1, p1⟩ := S_X12_order (Nat.le_refl _) hg w tm
  refine ⟨r1, e1, ?_⟩
  obtain ⟨w2, -⟩ := p1
  refine ⟨_, Γ, ?_, w2, tx, tm, to, hu, h41, ?_, ?_⟩
  · exact hg
  · exact hl
  · exact hI
theorem St_27 {x m out : Nat} {a : Nat → Int32} {h : jH} (v : jInv x m out h) : SL_27 6000 x m out a h (jInv x m out) := by
  obtain ⟨g, Γ, hg, w, tx, tm, to, hu, h41, hl, hI⟩ := v
  unfold SL_27
  obtain ⟨r0, e0, p0⟩ := S_X11_tight (Nat.le_refl _) hg w tx
  obtain ⟨w1, hx⟩ := p0
  obtain ⟨r9, e9, w9⟩ := t_f1 (Q := fun h => jW (jKd g) Γ h) (out := out) (fun h v w => t_out w to v) (q := r0) (fun v => v.toInt64) w1 hx
  refine ⟨r9, ?_, fun z0 hz => ?_⟩
  · unfold FL_tight
    rw [t_cv w tx rfl, e0]
    exact e9
  have wz := t_z w9 hz
  rw [t_cv wz tm rfl]
  obtain ⟨r1, e1, p1⟩ := S_X12_tight (Nat.le_refl _) hg wz tm
  refine ⟨r1, e1, ?_⟩
  obtain ⟨w2, -⟩ := p1
  refine ⟨_, Γ, ?_, w2, tx, tm, to, hu, h41, ?_, ?_⟩
  · exact hg
  · exact hl
  · exact hI
theorem St_28 {x m out : Nat} {a : Nat → Int32} {h : jH} (v : jInv x m out h) : SL_28 6000 x m out a h (jInv x m out) := by
  obtain ⟨g, Γ, hg, w, tx, tm, to, hu, h41, hl, hI⟩ := v
  unfold SL_28
  rw [t_cv w tx rfl]
  obtain ⟨r0, e0, p0⟩ := S_X11_slack (Nat.le_refl _) hg w tx
  refine ⟨r0, e0, ?_⟩
  rw [t_cv w tm rfl]
  obtain ⟨r1, e1, p1⟩ := S_X12_slack (Nat.le_refl _) hg w tm
  refine ⟨r1, e1, ?_⟩
  obtain ⟨w2, -⟩ := p1
  refine ⟨_, Γ, ?_, w2, tx, tm, to, hu, h41, ?_, ?_⟩
  · exact hg
  · exact hl
  · exact hI
theorem St_29 {x m out : Nat} {a : Nat → Int32} {h : jH} (v : jInv x m out h) : SL_29 6000 x m out a h (jInv x m out) := by
  obtain ⟨g, Γ, hg, w, tx, tm, to, hu, h41, hl, hI⟩ := v
  unfold SL_29
  rw [t_cv w tx rfl]
  obtain ⟨r0, e0, p0⟩ := S_X11_taut (Nat.le_refl _) hg w tx
  refine ⟨r0, e0, ?_⟩
  rw [t_cv w tm rfl]
  obtain ⟨r1, e1, p1⟩ := S_X12_taut (Nat.le_refl _) hg w tm
  refine ⟨r1, e1, ?_⟩
  obtain ⟨w2, -⟩ := p1
  refine ⟨_, Γ, ?_, w2, tx, tm, to, hu, h41, ?_, ?_⟩
  · exact hg
  · exact hl
  · exact hI
theorem St_30 {x m out : Nat} {a : Nat → Int32} {h : jH} (v : jInv x m out h) : SL_30 6000 x m out a h (jInv x m out) := by
  obtain ⟨g, Γ, hg, w, tx, tm, to, hu, h41, hl, hI⟩ := v
  unfold SL_30
  obtain ⟨r0, e0, p0⟩ := S_X11_lit (Nat.le_refl _) hg w tx
  obtain ⟨w1, hx⟩ := p0
  obtain ⟨r9, e9, w9⟩ := t_f1 (Q := fun h => jW (jKd g) Γ h) (out := out) (fun h v w => t_out w to v) (q := r0) (fun v => v.toInt64) w1 hx
  refine ⟨r9, ?_, fun z0 hz => ?_⟩
  · unfold FL_lit
    rw [t_cv w tx rfl, e0]
    exact e9
  have wz := t_z w9 hz
  rw [t_cv wz tm rfl]
  obtain ⟨r1, e1, p1⟩ := S_X12_lit (Nat.le_refl _) hg wz tm
  refine ⟨r1, e1, ?_⟩
  obtain ⟨w2, -⟩ := p1
  refine ⟨_, Γ, ?_, w2, tx, tm, to, hu, h41, ?_, ?_⟩
  · exact hg
  · exact hl
  · exact hI
theorem St_31 {x m out : Nat} {a : Nat → Int32} {h : jH} (v : jInv x m out h) : SL_31 6000 x m out a h (jInv x m out) := by
  obtain ⟨g, Γ, hg, w, tx, tm, to, hu, h41, hl, hI⟩ := v
  unfold SL_31
  rw [t_cv w tx rfl]
  obtain ⟨r0, e0, p0⟩ := S_X11_sunny (Nat.le_refl _) hg w tx
  refine ⟨r0, e0, ?_⟩
  rw [t_cv w tm rfl]
  obtain ⟨r1, e1, p1⟩ := S_X12_sunny (Nat.le_refl _) hg w tm
  refine ⟨r1, e1, ?_⟩
  obtain ⟨w2, -⟩ := p1
  refine ⟨_, Γ, ?_, w2, tx, tm, to, hu, h41, ?_, ?_⟩
  · exact hg
  · exact hl
  · exact hI
theorem St_32 {x m out : Nat} {a : Nat → Int32} {h : jH} (v : jInv x m out h) : SL_32 6000 x m out a h (jInv x m out) := by
  obtain ⟨g, Γ, hg, w, tx, tm, to, hu, h41, hl, hI⟩ := v
  unfold SL_32
  obtain ⟨r0, e0, p0⟩ := S_X11_faded (Nat.le_refl _) hg w tx
  obtain ⟨w1, hx⟩ := p0
  obtain ⟨r9, e9, w9⟩ := t_f1 (Q := fun h => jW (jKd g) Γ h) (out := out) (fun h v w => t_out w to v) (q := r0) (fun v => v.toInt64) w1 hx
  refine ⟨r9, ?_, fun z0 hz => ?_⟩
  · unfold FL_faded
    rw [t_cv w tx rfl, e0]
    exact e9
  have wz := t_z w9 hz
  rw [t_cv wz tm rfl]
  obtain ⟨r1, e1, p1⟩ := S_X12_faded (Nat.le_refl _) hg wz tm
  refine ⟨r1, e1, ?_⟩
  obtain ⟨w2, -⟩ := p1
  refine ⟨_, Γ, ?_, w2, tx, tm, to, hu, h41, ?_, ?_⟩
  · exact hg
  · exact hl
  · exact hI
theorem St_33 {x m out : Nat} {a : Nat → Int32} {h : jH} (v : jInv x m out h) : SL_33 6000 x m out a h (jInv x m out) := by
  obtain ⟨g, Γ, hg, w, tx, tm, to, hu, h41, hl, hI⟩ := v
  unfold SL_33
  rw [t_cv w tx rfl]
  obtain ⟨r0, e0, p0⟩ := S_X11_pale (Nat.le_refl _) hg w tx
  obtain ⟨w1, hx⟩ := p0
  refine ⟨r0, e0, ?_⟩
  rw [t_cv w1 tm rfl]
  obtain ⟨r1, e1, p1⟩ := S_X12_pale (Nat.le_refl _) hg w1 tm
  refine ⟨r1, e1, ?_⟩
  obtain ⟨w2, -⟩ := p1
  refine ⟨_, Γ, ?_, w2, tx, tm, to, hu, h41, ?_, ?_⟩
  · exact hg
  · exact hl
  · exact hI
theorem St_34 {x m out : Nat} {a : Nat → Int32} {h : jH} (v : jInv x m out h) : SL_34 6000 x m out a h (jInv x m out) := by
  obtain ⟨g, Γ, hg, w, tx, tm, to, hu, h41, hl, hI⟩ := v
  unfold SL_34
  obtain ⟨r0, e0, p0⟩ := S_X11_lets (Nat.le_refl _) hg w tx
  obtain ⟨w1, hx⟩ := p0
  obtain ⟨r9, e9, w9⟩ := t_f2 (Q := fun h => jW (jKd g) Γ h) (out := out) (fun h v w => t_out w to v) (q := r0) (fun v => v.toInt64) w1 hx
  refine ⟨r9, ?_, fun z0 hz => ?_⟩
  · unfold FL_lets
    rw [t_cv w tx rfl, e0]
    exact e9
  have wz := t_z w9 hz
  rw [t_cv wz tm rfl]
  obtain ⟨r1, e1, p1⟩ := S_X12_lets (Nat.le_refl _) hg wz tm
  refine ⟨r1, e1, ?_⟩
  refine ⟨_, Γ, ?_, p1, tx, tm, to, hu, h41, ?_, ?_⟩
  · exact hg
  · exact hl
  · exact hI
theorem St_35 {x m out : Nat} {a : Nat → Int32} {h : jH} (v : jInv x m out h) : SL_35 6000 x m out a h (jInv x m out) := by
  obtain ⟨g, Γ, hg, w, tx, tm, to, hu, h41, hl, hI⟩ := v
  unfold SL_35
  rw [t_cv w tx rfl]
  obtain ⟨r0, e0, p0⟩ := S_X11_envy (Nat.le_refl _) hg w tx
  refine ⟨r0, e0, ?_⟩
  rw [t_cv w tm rfl]
  obtain ⟨r1, e1, p1⟩ := S_X12_envy (Nat.le_refl _) hg w tm
  refine ⟨r1, e1, ?_⟩
  obtain ⟨w2, -⟩ := p1
  refine ⟨_, Γ, ?_, w2, tx, tm, to, hu, h41, ?_, ?_⟩
  · exact hg
  · exact hl
  · exact hI
theorem St_36 {x m out : Nat} {a : Nat → Int32} {h : jH} (v : jInv x m out h) : SL_36 6000 x m out a h (jInv x m out) := by
  obtain ⟨g, Γ, hg, w, tx, tm, to, hu, h41, hl, hI⟩ := v
  unfold SL_36
  obtain ⟨r0, e0, p0⟩ := S_X11_rests (Nat.le_refl _) hg w tx
  obtain ⟨w1, hx⟩ := p0
  obtain ⟨r9, e9, w9⟩ := t_f1 (Q := fun h => jW (jKd g) Γ h) (out := out) (fun h v w => t_out w to v) (q := r0) (fun v => v.toInt64) w1 hx
  refine ⟨r9, ?_, fun z0 hz => ?_⟩
  · unfold FL_rests
    rw [t_cv w tx rfl, e0]
    exact e9
  have wz := t_z w9 hz
  rw [t_cv wz tm rfl]
  obtain ⟨r1, e1, p1⟩ := S_X12_rests (Nat.le_refl _) hg wz tm
  refine ⟨r1, e1, ?_⟩
  obtain ⟨w2, -⟩ := p1
  refine ⟨_, Γ, ?_, w2, tx, tm, to, hu, h41, ?_, ?_⟩
  · exact hg
  · exact hl
  · exact hI
theorem St_37 {x m out : Nat} {a : Nat → Int32} {h : jH} (v : jInv x m out h) : SL_37 6000 x m out a h (jInv x m out) := by
  obtain ⟨g, Γ, hg, w, tx, tm, to, hu, h41, hl, hI⟩ := v
  unfold SL_37
  rw [t_cv w tx rfl]
  obtain ⟨r0, e0, p0⟩ := S_X11_bunch (Nat.le_refl _) hg w tx
  refine ⟨r0, e0, ?_⟩
  rw [t_cv w tm rfl]
  obtain ⟨r1, e1, p1⟩ := S_X12_bunch (Nat.le_refl _) hg w tm
  refine ⟨r1, e1, ?_⟩
  obtain ⟨w2, -⟩ := p1
  refine ⟨_, Γ, ?_, w2, tx, tm, to, hu, h41, ?_, ?_⟩
  · exact hg
  · exact hl
  · exact hI
theorem St_38 {x m out : Nat} {a : Nat → Int32} {h : jH} (v : jInv x m out h) : SL_38 6000 x m out a h (jInv x m out) := by
  obtain ⟨g, Γ, hg, w, tx, tm, to, hu, h41, hl, hI⟩ := v
  unfold SL_38
  rw [t_cv w tx rfl]
  obtain ⟨r0, e0, p0⟩ := S_X11_wooden (Nat.le_refl _) hg w tx
  refine ⟨r0, e0, ?_⟩
  rw [t_cv w tm rfl]
  obtain ⟨r1, e1, p1⟩ := S_X12_wooden (Nat.le_refl _) hg w tm
  refine ⟨r1, e1, ?_⟩
  obtain ⟨w2, -⟩ := p1
  refine ⟨_, Γ, ?_, w2, tx, tm, to, hu, h41, ?_, ?_⟩
  · exact hg
  · exact hl
  · exact hI
theorem St_39 {x m out : Nat} {a : Nat → Int32} {h : jH} (v : jInv x m out h) : SL_39 6000 x m out a h (jInv x m out) := by
  obtain ⟨g, Γ, hg, w, tx, tm, to, hu, h41, hl, hI⟩ := v
  unfold SL_39
  rw [t_cv w tx rfl]
  obtain ⟨r0, e0, p0⟩ := S_X11_caught (Nat.le_refl _) hg w tx
  refine ⟨r0, e0, ?_⟩
  rw [t_cv w tm rfl]
  obtain ⟨r1, e1, p1⟩ := S_X12_caught (Nat.le_refl _) hg w tm
  refine ⟨r1, e1, ?_⟩
  obtain ⟨w2, -⟩ := p1
  refine ⟨_, Γ, ?_, w2, tx, tm, to, hu, h41, ?_, ?_⟩
  · exact hg
  · exact hl
  · exact hI
theorem St_40 {x m out : Nat} {a : Nat → Int32} {h : jH} (v : jInv x m out h) : SL_40 6000 x m out a h (jInv x m out) := by
  obtain ⟨g, Γ, hg, w, tx, tm, to, hu, h41, hl, hI⟩ := v
  unfold SL_40
  rw [t_cv w tx rfl]
  obtain ⟨r0, e0, p0⟩ := S_X11_loose (Nat.le_refl _) hg w tx
  refine ⟨r0, e0, ?_⟩
  rw [t_cv w tm rfl]
  obtain ⟨r1, e1, p1⟩ := S_X12_loose (Nat.le_refl _) hg w tm
  refine ⟨r1, e1, ?_⟩
  obtain ⟨w2, -⟩ := p1
  refine ⟨_, Γ, ?_, w2, tx, tm, to, hu, h41, ?_, ?_⟩
  · exact hg
  · exact hl
  · exact hI
theorem St_41 {x m out : Nat} {a : Nat → Int32} {h : jH} (v : jInv x m out h) : SL_41 6000 x m out a h (jInv x m out) := by
  obtain ⟨g, Γ, hg, w, tx, tm, to, hu, h41, hl, hI⟩ := v
  unfold SL_41
  rw [t_cv w tx rfl]
  obtain ⟨r0, e0, p0⟩ := S_X11_beyond (Nat.le_refl _) hg w tx
  refine ⟨r0, e0, ?_⟩
  rw [t_cv w tm rfl]
  obtain ⟨r1, e1, p1⟩ := S_X12_beyond (Nat.le_refl _) hg w tm
  refine ⟨r1, e1, ?_⟩
  obtain ⟨w2, -⟩ := p1
  refine ⟨_, Γ, ?_, w2, tx, tm, to, hu, h41, ?_, ?_⟩
  · exact hg
  · exact hl
  · exact hI
theorem St_42 {x m out : Nat} {a : Nat → Int32} {h : jH} (v : jInv x m out h) : SL_42 6000 x m out a h (jInv x m out) := by
  obtain ⟨g, Γ, hg, w, tx, tm, to, hu, h41, hl, hI⟩ := v
  unfold SL_42
  obtain ⟨r0, e0, p0⟩ := S_X11_odds (Nat.le_refl _) hg w tx
  obtain ⟨w1, hx⟩ := p0
  obtain ⟨r9, e9, w9⟩ := t_f2 (Q := fun h => jW (jKd g) Γ h) (out := out) (fun h v w => t_out w to v) (q := r0) (fun v => v.toInt64) w1 hx
  refine ⟨r9, ?_, fun z0 hz => ?_⟩
  · unfold FL_odds
    rw [t_cv w tx rfl, e0]
    exact e9
  have wz := t_z w9 hz
  rw [t_cv wz tm rfl]
  obtain ⟨r1, e1, p1⟩ := S_X12_odds (Nat.le_refl _) hg wz tm
  refine ⟨r1, e1, ?_⟩
  obtain ⟨w2, -⟩ := p1
  refine ⟨_, Γ, ?_, w2, tx, tm, to, hu, h41, ?_, ?_⟩
  · exact hg
  · exact hl
  · exact hI
theorem St_43 {x m out : Nat} {a : Nat → Int32} {h : jH} (v : jInv x m out h) : SL_43 6000 x m out a h (jInv x m out) := by
  obtain ⟨g, Γ, hg, w, tx, tm, to, hu, h41, hl, hI⟩ := v
  unfold SL_43
  rw [t_cv w tx rfl]
  obtain ⟨r0, e0, p0⟩ := S_X11_twins (Nat.le_refl _) hg w tx
  refine ⟨r0, e0, ?_⟩
  rw [t_cv w tm rfl]
  obtain ⟨r1, e1, p1⟩ := S_X12_twins (Nat.le_refl _) hg w tm
  refine ⟨r1, e1, ?_⟩
  obtain ⟨w2, -⟩ := p1
  refine ⟨_, Γ, ?_, w2, tx, tm, to, hu, h41, ?_, ?_⟩
  · exact hg
  · exact hl
  · exact hI
theorem St_44 {x m out : Nat} {a : Nat → Int32} {h : jH} (v : jInv x m out h) : SL_44 6000 x m out a h (jInv x m out) := by
  obtain ⟨g, Γ, hg, w, tx, tm, to, hu, h41, hl, hI⟩ := v
  unfold SL_44
  obtain ⟨r0, e0, p0⟩ := S_X11_ahead (Nat.le_refl _) hg w tx
  obtain ⟨w1, hx⟩ := p0
  obtain ⟨r9, e9, w9⟩ := t_f2 (Q := fun h => jW (jKd g) Γ h) (out := out) (fun h v w => t_out w to v) (q := r0) (fun v => v.toInt64) w1 hx
  refine ⟨r9, ?_, fun z0 hz => ?_⟩
  · unfold FL_ahead
    rw [t_cv w tx rfl, e0]
    exact e9
  have wz := t_z w9 hz
  rw [t_cv wz tm rfl]
  obtain ⟨r1, e1, p1⟩ := S_X12_ahead (Nat.le_refl _) hg wz tm
  refine ⟨r1, e1, ?_⟩
  obtain ⟨w2, -⟩ := p1
  refine ⟨_, Γ, ?_, w2, tx, tm, to, hu, h41, ?_, ?_⟩
  · exact hg
  · exact hl
  · exact hI
theorem St_45 {x m out : Nat} {a : Nat → Int32} {h : jH} (v : jInv x m out h) : SL_45 6000 x m out a h (jInv x m out) := by
  obtain ⟨g, Γ, hg, w, tx, tm, to, hu, h41, hl, hI⟩ := v
  unfold SL_45
  obtain ⟨r0, e0, p0⟩ := S_X11_trial (Nat.le_refl _) hg w tx
  obtain ⟨w1, hx⟩ := p0
  obtain ⟨r9, e9, w9⟩ := t_f1 (Q := fun h => jW (jKd g) Γ h) (out := out) (fun h v w => t_out w to v) (q := r0) (fun v => v.toInt64) w1 hx
  refine ⟨r9, ?_, fun z0 hz => ?_⟩
  · unfold FL_trial
    rw [t_cv w tx rfl, e0]
    exact e9
  have wz := t_z w9 hz
  rw [t_cv wz tm rfl]
  obtain ⟨r1, e1, p1⟩ := S_X12_trial (Nat.le_refl _) hg wz tm
  refine ⟨r1, e1, ?_⟩
  obtain ⟨w2, -⟩ := p1
  refine ⟨_, Γ, ?_, w2, tx, tm, to, hu, h41, ?_, ?_⟩
  · exact hg
  · exact hl
  · exact hI
theorem St_46 {x m out : Nat} {a : Nat → Int32} {h : jH} (v : jInv x m out h) : SL_46 6000 x m out a h (jInv x m out) := by
  obtain ⟨g, Γ, hg, w, tx, tm, to, hu, h41, hl, hI⟩ := v
  unfold SL_46
  obtain ⟨r0, e0, p0⟩ := S_X11_span (Nat.le_refl _) hg w tx
  obtain ⟨w1, hx⟩ := p0
  obtain ⟨r9, e9, w9⟩ := t_f1 (Q := fun h => jW (jKd g) Γ h) (out := out) (fun h v w => t_out w to v) (q := r0) (fun v => v.toInt64) w1 hx
  refine ⟨r9, ?_, fun z0 hz => ?_⟩
  · unfold FL_span
    rw [t_cv w tx rfl, e0]
    exact e9
  have wz := t_z w9 hz
  rw [t_cv wz tm rfl]
  obtain ⟨r1, e1, p1⟩ := S_X12_span (Nat.le_refl _) hg wz tm
  refine ⟨r1, e1, ?_⟩
  obtain ⟨w2, -⟩ := p1
  refine ⟨_, Γ, ?_, w2, tx, tm, to, hu, h41, ?_, ?_⟩
  · exact hg
  · exact hl
  · exact hI
theorem St_47 {x m out : Nat} {a : Nat → Int32} {h : jH} (v : jInv x m out h) : SL_47 6000 x m out a h (jInv x m out) := by
  obtain ⟨g, Γ, hg, w, tx, tm, to, hu, h41, hl, hI⟩ := v
  unfold SL_47
  obtain ⟨r0, e0, p0⟩ := S_X11_led (Nat.le_refl _) hg w tx
  obtain ⟨w1, hx⟩ := p0
  obtain ⟨r9, e9, w9⟩ := t_f1 (Q := fun h => jW (jKd g) Γ h) (out := out) (fun h v w => t_out w to v) (q := r0) (fun v => v.toInt64) w1 hx
  refine ⟨r9, ?_, fun z0 hz => ?_⟩
  · unfold FL_led
    rw [t_cv w tx rfl, e0]
    exact e9
  have wz := t_z w9 hz
  rw [t_cv wz tm rfl]
  obtain ⟨r1, e1, p1⟩ := S_X12_led (Nat.le_refl _) hg wz tm
  refine ⟨r1, e1, ?_⟩
  obtain ⟨w2, -⟩ := p1
  refine ⟨_, Γ, ?_, w2, tx, tm, to, hu, h41, ?_, ?_⟩
  · exact hg
  · exact hl
  · exact hI
theorem St_48 {x m out : Nat} {a : Nat → Int32} {h : jH} (v : jInv x m out h) : SL_48 6000 x m out a h (jInv x m out) := by
  obtain ⟨g, Γ, hg, w, tx, tm, to, hu, h41, hl, hI⟩ := v
  unfold SL_48
  obtain ⟨r0, e0, p0⟩ := S_X11_log (Nat.le_refl _) hg w tx
  obtain ⟨w1, hx⟩ := p0
  obtain ⟨r9, e9, w9⟩ := t_f1 (Q := fun h => jW (jKd g) Γ h) (out := out) (fun h v w => t_out w to v) (q := r0) (fun v => v.toInt64) w1 hx
  refine ⟨r9, ?_, fun z0 hz => ?_⟩
  · unfold FL_log
    rw [t_cv w tx rfl, e0]
    exact e9
  have wz := t_z w9 hz
  rw [t_cv wz tm rfl]
  obtain ⟨r1, e1, p1⟩ := S_X12_log (Nat.le_refl _) hg wz tm
  refine ⟨r1, e1, ?_⟩
  obtain ⟨w2, -⟩ := p1
  refine ⟨_, Γ, ?_, w2, tx, tm, to, hu, h41, ?_, ?_⟩
  · exact hg
  · exact hl
  · exact hI
theorem St_49 {x m out : Nat} {a : Nat → Int32} {h : jH} (v : jInv x m out h) : SL_49 6000 x m out a h (jInv x m out) := by
  obtain ⟨g, Γ, hg, w, tx, tm, to, hu, h41, hl, hI⟩ := v
  unfold SL_49
  rw [t_cv w tx rfl]
  obtain ⟨r0, e0, p0⟩ := S_X11_seed (Nat.le_refl _) hg w tx
  obtain ⟨w1, hx⟩ := p0
  refine ⟨r0, e0, ?_⟩
  rw [t_cv w1 tm rfl]
  obtain ⟨r1, e1, p1⟩ := S_X12_seed (Nat.le_refl _) hg w1 tm
  refine ⟨r1, e1, ?_⟩
  obtain ⟨w2, -⟩ := p1
  refine ⟨_, Γ, ?_, w2, tx, tm, to, hu, h41, ?_, ?_⟩
  · exact hg
  · exact hl
  · exact hI
theorem St_50 {x m out : Nat} {a : Nat → Int32} {h : jH} (v : jInv x m out h) : SL_50 6000 x m out a h (jInv x m out) := by
  obtain ⟨g, Γ, hg, w, tx, tm, to, hu, h41, hl, hI⟩ := v
  unfold SL_50
  rw [t_cv w tx rfl]
  obtain ⟨r0, e0, p0⟩ := S_X11_undo (Nat.le_refl _) hg w tx
  refine ⟨r0, e0, ?_⟩
  rw [t_cv p0 tm rfl]
  obtain ⟨r1, e1, p1⟩ := S_X12_undo (Nat.le_refl _) hg p0 tm
  refine ⟨r1, e1, ?_⟩
  obtain ⟨w2, -⟩ := p1
  refine ⟨_, Γ, ?_, w2, tx, tm, to, hu, h41, ?_, ?_⟩
  · exact hg
  · exact hl
  · exact hI
theorem St_51 {x m out : Nat} {a : Nat → Int32} {h : jH} (v : jInv x m out h) : SL_51 6000 x m out a h (jInv x m out) := by
  obtain ⟨g, Γ, hg, w, tx, tm, to, hu, h41, hl, hI⟩ := v
  unfold SL_51
  rw [t_cv w tx rfl]
  obtain ⟨r0, e0, p0⟩ := S_X11_image (Nat.le_refl _) hg w tx hu h41
  obtain ⟨Γ2, u, v, l2, zu, zv, w1⟩ := p0
  have hg1 : jgok (jghF g u v) := hg
  have tx2 := l2.1 _ _ tx
  have tm2 := l2.1 _ _ tm
  have to2 := l2.1 _ _ to
  have hu2 : ∀ a b c, 9 ≤ c → Γ2 a = some c → Γ2 b = some c → a = b := fun a b c k p q => hu a b c k (l2.2 a c k p) (l2.2 b c k q)
  have h412 : ∀ b, Γ2 b ≠ some 41 := fun b q => h41 b (l2.2 b 41 (by decide) q)
  refine ⟨r0, e0, ?_⟩
  rw [t_cv w1 tm2 rfl]
  obtain ⟨r1, e1, p1⟩ := S_X12_image (Nat.le_refl _) hg1 w1 tm2 hu2
  refine ⟨r1, e1, ?_⟩
  obtain ⟨C2, w2⟩ := p1
  refine ⟨_, Γ2, ?_, w2, tx2, tm2, to2, hu2, h412, ?_, ?_⟩
  · exact hg1
  · exact hl
  · exact ⟨⟨fun q => absurd q zu, fun q => absurd q (show ¬ (1 : Int32) = 0 by decide)⟩, ⟨fun q => absurd q zv, fun q => absurd q (show ¬ (1 : Int32) = 0 by decide)⟩⟩
theorem St_52 {x m out : Nat} {a : Nat → Int32} {h : jH} (v : jInv x m out h) : SL_52 6000 x m out a h (jInv x m out) := by
  obtain ⟨g, Γ, hg, w, tx, tm, to, hu, h41, hl, hI⟩ := v
  unfold SL_52
  rw [t_cv w tx rfl]
  obtain ⟨r0, e0, p0⟩ := S_X11_back (Nat.le_refl _) hg w tx h41
  obtain ⟨w1, q0⟩ := p0
  refine ⟨r0, e0, ?_⟩
  rw [t_cv w1 tm rfl]
  obtain ⟨r1, e1, p1⟩ := S_X12_back (Nat.le_refl _) hg w1 tm hu
  obtain ⟨⟨C2, c2, w2⟩, q1⟩ := p1
  refine ⟨r1, e1, ?_⟩
  refine ⟨_, Γ, ?_, w2, tx, tm, to, hu, h41, ?_, ?_⟩
  · exact ⟨hg.1, hg.2.1, hg.2.2.1, c2⟩
  · exact hl
  · exact hI
theorem St_53 {x m out : Nat} {a : Nat → Int32} {h : jH} (v : jInv x m out h) : SL_53 6000 x m out a h (jInv x m out) := by
  obtain ⟨g, Γ, hg, w, tx, tm, to, hu, h41, hl, hI⟩ := v
  unfold SL_53
  rw [t_cv w tx rfl]
  obtain ⟨r0, e0, p0⟩ := S_X11_count (Nat.le_refl _) hg w tx
  refine ⟨r0, e0, ?_⟩
  rw [t_cv w tm rfl]
  obtain ⟨r1, e1, p1⟩ := S_X12_count (Nat.le_refl _) hg w tm
  refine ⟨r1, e1, ?_⟩
  obtain ⟨w2, -⟩ := p1
  refine ⟨_, Γ, ?_, w2, tx, tm, to, hu, h41, ?_, ?_⟩
  · exact hg
  · exact hl
  · exact hI
end
section
/-! the run: jInv and the likeness go on -/
def jEq (x m : Nat) (h : jH) : Prop := m = x + 40 ∧ ∃ (nx r L : Nat) (W : jWd), eqS x nx r L W h
def jInE (x m out : Nat) (h : jH) : Prop := jInv x m out h ∧ jEq x m h
theorem t_hB {g : jGh} {Γ : Nat → Option Nat} {h : jH} {m : Nat} (w : jW (jKd g) Γ h) (tm : Γ m = some 20) (M : mS (oc h) m) : ∀ i, i < 400 → -128 ≤ (oi (oc h) (m + 6) i).toInt ∧ (oi (oc h) (m + 6) i).toInt ≤ 127 := by
  intro i hi
  have ta : Γ (m + 6) = some 26 := t_ref w tm rfl rfl M.2.2.2.2.2.1
  obtain ⟨f, e1, p⟩ := t_arr (t := 1) (N := 400) (R := fun _ => jI (-128) 127) w ta rfl
  have e : oi (oc h) (m + 6) i = f i := by
    unfold oi oc
    rw [e1]
    rfl
  rw [e]
  exact p i hi
theorem t_l8 {g : jGh} {Γ : Nat → Option Nat} {h : jH} {a : Nat} (w : jW (jKd g) Γ h) (ta : Γ a = some 0) : jlen h a = some 8 := by
  obtain ⟨f, e1, p⟩ := t_arr (t := 0) (N := 8) (R := fun _ => jAny) w ta rfl
  unfold jlen
  rw [e1]
  rfl
theorem t_J {g : jGh} {Γ : Nat → Option Nat} {h : jH} {x : Nat} (w : jW (jKd g) Γ h) (tx : Γ x = some 19) (S : rdrS (oc h) x) : jlen h (x + 24) = some 8 ∧ jlen h (x + 25) = some 8 := by
  have t21 : Γ (x + 21) = some 3 := t_ref w tx rfl rfl S.1.2.1
  exact ⟨t_l8 w (t_ref w t21 rfl rfl S.2.2.2.2.1.2.2.1), t_l8 w (t_ref w t21 rfl rfl S.2.2.2.2.1.2.2.2.1)⟩
theorem i01 {v : Int32} : (if v = 0 then (0 : Int32) else 1) = 0 ∨ (if v = 0 then (0 : Int32) else 1) = 1 := by
  split
  · exact Or.inl rfl
  · exact Or.inr rfl
theorem idI {v : Int32} : (if v = 0 then (0 : Int32) else 1) = dI (!decide (v = 0)) := by
  unfold dI
  by_cases q : v = 0
  · rw [if_pos q]; simp [q]
  · rw [if_neg q]; simp [q]
theorem Sq_0 {x m out : Nat} {a : Nat → Int32} {h : jH} (v : jInE x m out h) : SL_0 6000 x m out a h (jInE x m out) := by
  obtain ⟨v, rfl, nx, r, L, W, E⟩ := v
  obtain ⟨r0, e0, r1, e1, p⟩ := St_0 (a := a) v
  obtain ⟨L2, E2⟩ := (eq_feed E (jcv_o e0).2 (jcv_o e1).2).1
  exact ⟨r0, e0, r1, e1, p, rfl, _, _, _, _, E2⟩
theorem Sq_1 {x m out : Nat} {a : Nat → Int32} {h : jH} (v : jInE x m out h) : SL_1 6000 x m out a h (jInE x m out) := by
  obtain ⟨v, rfl, nx, r, L, W, E⟩ := v
  obtain ⟨r0, e0, r1, e1, p⟩ := St_1 (a := a) v
  obtain ⟨L2, E2⟩ := (eq_end E (jcv_o e0).2 (jcv_o e1).2).1
  exact ⟨r0, e0, r1, e1, p, rfl, _, _, _, _, E2⟩
theorem Sq_2 {x m out : Nat} {a : Nat → Int32} {h : jH} (v : jInE x m out h) : SL_2 6000 x m out a h (jInE x m out) := by
  obtain ⟨v, rfl, nx, r, L, W, E⟩ := v
  obtain ⟨r0, e0, t0⟩ := St_2 (a := a) v
  refine ⟨r0, e0, fun z0 hz0 => ?_⟩
  obtain ⟨r1, e1, p⟩ := t0 z0 hz0
  obtain ⟨q, y, ho, hz⟩ := FLo_pole e0
  have sz : q.2.1 ≤ (z0, r0.2.2).1 := by rw [← hz]; exact hz0
  have ho2 : oc (z0, r0.2.2) = oc q.2 := ho
  obtain ⟨g, Γ, hg, w, tx, tm, to, hu, -⟩ := id v
  have hB := t_hB w tm (cls_of E).2
  obtain ⟨r2, W2, E2⟩ := (eqz_pole E (t_J w tx (cls_of E).1.2.2.2.2.2) hB y ho2 sz (jcv_o e1).2).1
  exact ⟨r1, e1, p, rfl, _, _, _, _, E2⟩
theorem Sq_3 {x m out : Nat} {a : Nat → Int32} {h : jH} (v : jInE x m out h) : SL_3 6000 x m out a h (jInE x m out) := by
  obtain ⟨v, rfl, nx, r, L, W, E⟩ := v
  obtain ⟨r0, e0, t0⟩ := St_3 (a := a) v
  refine ⟨r0, e0, fun z0 hz0 => ?_⟩
  obtain ⟨r1, e1, p⟩ := t0 z0 hz0
  obtain ⟨q, y, ho, hz⟩ := FLo_law e0
  have sz : q.2.1 ≤ (z0, r0.2.2).1 := by rw [← hz]; exact hz0
  have ho2 : oc (z0, r0.2.2) = oc q.2 := ho
  obtain ⟨g, Γ, hg, w, tx, tm, to, hu, -⟩ := id v
  have hB := t_hB w tm (cls_of E).2
  obtain ⟨r2, W2, E2⟩ := (eqz_law E hB y ho2 sz (jcv_o e1).2).1
  exact ⟨r1, e1, p, rfl, _, _, _, _, E2⟩
theorem Sq_4 {x m out : Nat} {a : Nat → Int32} {h : jH} (v : jInE x m out h) : SL_4 6000 x m out a h (jInE x m out) := by
  obtain ⟨v, rfl, nx, r, L, W, E⟩ := v
  obtain ⟨r0, e0, r1, e1, p⟩ := St_4 (a := a) v
  exact ⟨r0, e0, r1, e1, p, rfl, _, _, _, _, eqq_fault E (jcv_o e1).2⟩
theorem Sq_5 {x m out : Nat} {a : Nat → Int32} {h : jH} (v : jInE x m out h) : SL_5 6000 x m out a h (jInE x m out) := by
  obtain ⟨v, rfl, nx, r, L, W, E⟩ := v
  obtain ⟨r0, e0, t0⟩ := St_5 (a := a) v
  refine ⟨r0, e0, fun z0 hz0 => ?_⟩
  obtain ⟨r1, e1, p⟩ := t0 z0 hz0
  obtain ⟨q, y, ho, hz⟩ := FLo_ring e0
  have sz : q.2.1 ≤ (z0, r0.2.2).1 := by rw [← hz]; exact hz0
  have ho2 : oc (z0, r0.2.2) = oc q.2 := ho
  have E1 := eq_oc (eqc E (FC_X11_ring_0 (cls_of E).1 y)) ho2 sz
  exact ⟨r1, e1, p, rfl, _, _, _, _, eqr_ring E1 (jcv_o e1).2⟩
theorem Sq_6 {x m out : Nat} {a : Nat → Int32} {h : jH} (v : jInE x m out h) : SL_6 6000 x m out a h (jInE x m out) := by
  obtain ⟨v, rfl, nx, r, L, W, E⟩ := v
  obtain ⟨r0, e0, t0⟩ := St_6 (a := a) v
  refine ⟨r0, e0, fun z0 hz0 => ?_⟩
  obtain ⟨r1, e1, p⟩ := t0 z0 hz0
  obtain ⟨q, y, ho, hz⟩ := FLo_pull e0
  have sz : q.2.1 ≤ (z0, r0.2.2).1 := by rw [← hz]; exact hz0
  have ho2 : oc (z0, r0.2.2) = oc q.2 := ho
  obtain ⟨nx2, r2, W2, E2⟩ := (eqz_pull idI E y ho2 sz (jcv_o e1).2).1
  exact ⟨r1, e1, p, rfl, _, _, _, _, E2⟩
theorem Sq_7 {x m out : Nat} {a : Nat → Int32} {h : jH} (v : jInE x m out h) : SL_7 6000 x m out a h (jInE x m out) := by
  obtain ⟨v, rfl, nx, r, L, W, E⟩ := v
  obtain ⟨r0, e0, t0⟩ := St_7 (a := a) v
  refine ⟨r0, e0, fun z0 hz0 => ?_⟩
  obtain ⟨r1, e1, p⟩ := t0 z0 hz0
  obtain ⟨q, y, ho, hz⟩ := FLo_free e0
  have sz : q.2.1 ≤ (z0, r0.2.2).1 := by rw [← hz]; exact hz0
  have ho2 : oc (z0, r0.2.2) = oc q.2 := ho
  obtain ⟨nx2, r2, W2, E2⟩ := (eqz_free E y ho2 sz (jcv_o e1).2).1
  exact ⟨r1, e1, p, rfl, _, _, _, _, E2⟩
theorem Sq_8 {x m out : Nat} {a : Nat → Int32} {h : jH} (v : jInE x m out h) : SL_8 6000 x m out a h (jInE x m out) := by
  obtain ⟨v, rfl, nx, r, L, W, E⟩ := v
  obtain ⟨r0, e0, t0⟩ := St_8 (a := a) v
  refine ⟨r0, e0, fun z0 hz0 => ?_⟩
  obtain ⟨r1, e1, p⟩ := t0 z0 hz0
  obtain ⟨q, y, ho, hz⟩ := FLo_snag e0
  have sz : q.2.1 ≤ (z0, r0.2.2).1 := by rw [← hz]; exact hz0
  have ho2 : oc (z0, r0.2.2) = oc q.2 := ho
  obtain ⟨nx2, r2, W2, E2⟩ := (eqz_snag E y ho2 sz (jcv_o e1).2).1
  exact ⟨r1, e1, p, rfl, _, _, _, _, E2⟩
theorem Sq_9 {x m out : Nat} {a : Nat → Int32} {h : jH} (v : jInE x m out h) : SL_9 6000 x m out a h (jInE x m out) := by
  obtain ⟨v, rfl, nx, r, L, W, E⟩ := v
  obtain ⟨r0, e0, t0⟩ := St_9 (a := a) v
  refine ⟨r0, e0, fun z0 hz0 => ?_⟩
  obtain ⟨r1, e1, p⟩ := t0 z0 hz0
  obtain ⟨q, y, ho, hz⟩ := FLo_hook e0
  have sz : q.2.1 ≤ (z0, r0.2.2).1 := by rw [← hz]; exact hz0
  have ho2 : oc (z0, r0.2.2) = oc q.2 := ho
  obtain ⟨nx2, r2, W2, E2⟩ := (eqz_hook i01 E y ho2 sz (jcv_o e1).2).1
  exact ⟨r1, e1, p, rfl, _, _, _, _, E2⟩
theorem Sq_10 {x m out : Nat} {a : Nat → Int32} {h : jH} (v : jInE x m out h) : SL_10 6000 x m out a h (jInE x m out) := by
  obtain ⟨v, rfl, nx, r, L, W, E⟩ := v
  obtain ⟨r0, e0, t0⟩ := St_10 (a := a) v
  refine ⟨r0, e0, fun z0 hz0 => ?_⟩
  obtain ⟨r1, e1, p⟩ := t0 z0 hz0
  obtain ⟨q, y, ho, hz⟩ := FLo_sew e0
  have sz : q.2.1 ≤ (z0, r0.2.2).1 := by rw [← hz]; exact hz0
  have ho2 : oc (z0, r0.2.2) = oc q.2 := ho
  obtain ⟨nx2, r2, W2, E2⟩ := (eqz_sew E y ho2 sz (jcv_o e1).2).1
  exact ⟨r1, e1, p, rfl, _, _, _, _, E2⟩
theorem Sq_11 {x m out : Nat} {a : Nat → Int32} {h : jH} (v : jInE x m out h) : SL_11 6000 x m out a h (jInE x m out) := by
  obtain ⟨v, rfl, nx, r, L, W, E⟩ := v
  obtain ⟨r0, e0, t0⟩ := St_11 (a := a) v
  refine ⟨r0, e0, fun z0 hz0 => ?_⟩
  obtain ⟨r1, e1, p⟩ := t0 z0 hz0
  obtain ⟨q, y, ho, hz⟩ := FLo_let e0
  have sz : q.2.1 ≤ (z0, r0.2.2).1 := by rw [← hz]; exact hz0
  have ho2 : oc (z0, r0.2.2) = oc q.2 := ho
  obtain ⟨nx2, r2, W2, E2⟩ := (eqz_let E y ho2 sz (jcv_o e1).2).1
  exact ⟨r1, e1, p, rfl, _, _, _, _, E2⟩
theorem Sq_12 {x m out : Nat} {a : Nat → Int32} {h : jH} (v : jInE x m out h) : SL_12 6000 x m out a h (jInE x m out) := by
  obtain ⟨v, rfl, nx, r, L, W, E⟩ := v
  obtain ⟨r0, e0, t0⟩ := St_12 (a := a) v
  refine ⟨r0, e0, fun z0 hz0 => ?_⟩
  obtain ⟨r1, e1, p⟩ := t0 z0 hz0
  obtain ⟨q, y, ho, hz⟩ := FLo_chair e0
  have sz : q.2.1 ≤ (z0, r0.2.2).1 := by rw [← hz]; exact hz0
  have ho2 : oc (z0, r0.2.2) = oc q.2 := ho
  obtain ⟨nx2, r2, W2, E2⟩ := (eqz_chair i01 E y ho2 sz (jcv_o e1).2).1
  exact ⟨r1, e1, p, rfl, _, _, _, _, E2⟩
theorem Sq_13 {x m out : Nat} {a : Nat → Int32} {h : jH} (v : jInE x m out h) : SL_13 6000 x m out a h (jInE x m out) := by
  obtain ⟨v, rfl, nx, r, L, W, E⟩ := v
  obtain ⟨r0, e0, t0⟩ := St_13 (a := a) v
  refine ⟨r0, e0, fun z0 hz0 => ?_⟩
  obtain ⟨r1, e1, p⟩ := t0 z0 hz0
  obtain ⟨q, y, ho, hz⟩ := FLo_hours e0
  have sz : q.2.1 ≤ (z0, r0.2.2).1 := by rw [← hz]; exact hz0
  have ho2 : oc (z0, r0.2.2) = oc q.2 := ho
  obtain ⟨nx2, r2, W2, E2⟩ := (eqz_hours E y ho2 sz (jcv_o e1).2).1
  exact ⟨r1, e1, p, rfl, _, _, _, _, E2⟩
theorem Sq_14 {x m out : Nat} {a : Nat → Int32} {h : jH} (v : jInE x m out h) : SL_14 6000 x m out a h (jInE x m out) := by
  obtain ⟨v, rfl, nx, r, L, W, E⟩ := v
  obtain ⟨r0, e0, r1, e1, p⟩ := St_14 (a := a) v
  exact ⟨r0, e0, r1, e1, p, rfl, _, _, _, _, eqq_shade E (jcv_o e1).2⟩
theorem Sq_15 {x m out : Nat} {a : Nat → Int32} {h : jH} (v : jInE x m out h) : SL_15 6000 x m out a h (jInE x m out) := by
  obtain ⟨v, rfl, nx, r, L, W, E⟩ := v
  obtain ⟨r0, e0, r1, e1, p⟩ := St_15 (a := a) v
  exact ⟨r0, e0, r1, e1, p, rfl, _, _, _, _, eqq_dark E (jcv_o e1).2⟩
theorem Sq_16 {x m out : Nat} {a : Nat → Int32} {h : jH} (v : jInE x m out h) : SL_16 6000 x m out a h (jInE x m out) := by
  obtain ⟨v, rfl, nx, r, L, W, E⟩ := v
  obtain ⟨r0, e0, r1, e1, p⟩ := St_16 (a := a) v
  exact ⟨r0, e0, r1, e1, p, rfl, _, _, _, _, eqq_bare E (jcv_o e1).2⟩
theorem Sq_17 {x m out : Nat} {a : Nat → Int32} {h : jH} (v : jInE x m out h) : SL_17 6000 x m out a h (jInE x m out) := by
  obtain ⟨v, rfl, nx, r, L, W, E⟩ := v
  obtain ⟨r0, e0, t0⟩ := St_17 (a := a) v
  refine ⟨r0, e0, fun z0 hz0 => ?_⟩
  obtain ⟨r1, e1, p⟩ := t0 z0 hz0
  obtain ⟨q, y, ho, hz⟩ := FLo_goes e0
  have sz : q.2.1 ≤ (z0, r0.2.2).1 := by rw [← hz]; exact hz0
  have ho2 : oc (z0, r0.2.2) = oc q.2 := ho
  obtain ⟨g, Γ, hg, w, tx, tm, to, hu, -⟩ := id v
  obtain ⟨q9, y9, wq⟩ := FLw_goes e0
  have w1 := wq (jok_v (S_X11_goes (Nat.le_refl _) hg w tx) y9).1 to
  have wz := t_z4 w1 hz0
  have w2 := (jok_v (S_X12_goes (Nat.le_refl _) hg wz tm) (jcv_o e1).2).1
  have E1 := eq_oc (eqc E (FC_X11_goes_0 (cls_of E).1 y)) ho2 sz
  exact ⟨r1, e1, p, rfl, _, _, _, _, eqr_goes E1 (jcv_o e1).2 wz w2 (t_w w tm (cls_of E).2)⟩
theorem Sq_18 {x m out : Nat} {a : Nat → Int32} {h : jH} (v : jInE x m out h) : SL_18 6000 x m out a h (jInE x m out) := by
  obtain ⟨v, rfl, nx, r, L, W, E⟩ := v
  obtain ⟨r0, e0, t0⟩ := St_18 (a := a) v
  refine ⟨r0, e0, fun z0 hz0 => ?_⟩
  obtain ⟨r1, e1, p⟩ := t0 z0 hz0
  obtain ⟨q, y, ho, hz⟩ := FLo_with e0
  have sz : q.2.1 ≤ (z0, r0.2.2).1 := by rw [← hz]; exact hz0
  have ho2 : oc (z0, r0.2.2) = oc q.2 := ho
  have E1 := eq_oc (eqc E (FC_X11_with_0 (cls_of E).1 y)) ho2 sz
  exact ⟨r1, e1, p, rfl, _, _, _, _, eqr_with E1 (jcv_o e1).2⟩
theorem Sq_19 {x m out : Nat} {a : Nat → Int32} {h : jH} (v : jInE x m out h) : SL_19 6000 x m out a h (jInE x m out) := by
  obtain ⟨v, rfl, nx, r, L, W, E⟩ := v
  obtain ⟨r0, e0, t0⟩ := St_19 (a := a) v
  refine ⟨r0, e0, fun z0 hz0 => ?_⟩
  obtain ⟨r1, e1, p⟩ := t0 z0 hz0
  obtain ⟨q, y, ho, hz⟩ := FLo_would e0
  have sz : q.2.1 ≤ (z0, r0.2.2).1 := by rw [← hz]; exact hz0
  have ho2 : oc (z0, r0.2.2) = oc q.2 := ho
  obtain ⟨g, Γ, hg, w, tx, tm, to, hu, -⟩ := id v
  obtain ⟨q9, y9, wq⟩ := FLw_would e0
  have w1 := wq (jok_v (S_X11_would (Nat.le_refl _) hg w tx) y9).1 to
  have wz := t_z4 w1 hz0
  have w2 := (jok_v (S_X12_would (Nat.le_refl _) hg wz tm) (jcv_o e1).2).1
  have E1 := eq_oc (eqc E (FC_X11_would_0 (cls_of E).1 y)) ho2 sz
  exact ⟨r1, e1, p, rfl, _, _, _, _, eqr_would E1 (jcv_o e1).2 wz w2 (t_w w tm (cls_of E).2)⟩
theorem Sq_20 {x m out : Nat} {a : Nat → Int32} {h : jH} (v : jInE x m out h) : SL_20 6000 x m out a h (jInE x m out) := by
  obtain ⟨v, rfl, nx, r, L, W, E⟩ := v
  obtain ⟨r0, e0, r1, e1, p⟩ := St_20 (a := a) v
  obtain ⟨g, Γ, hg, w, tx, tm, to, hu, -⟩ := id v
  have w1 := (jok_v (S_X11_best (Nat.le_refl _) hg w tx) (jcv_o e0).2).1
  have w2 := (jok_v (S_X12_best (Nat.le_refl _) hg w1 tm) (jcv_o e1).2).1
  exact ⟨r0, e0, r1, e1, p, rfl, _, _, _, _, eqq_best E (jcv_o e0).2 (jcv_o e1).2 w1 w2 (t_w w tm (cls_of E).2)⟩
theorem Sq_21 {x m out : Nat} {a : Nat → Int32} {h : jH} (v : jInE x m out h) : SL_21 6000 x m out a h (jInE x m out) := by
  obtain ⟨v, rfl, nx, r, L, W, E⟩ := v
  obtain ⟨r0, e0, r1, e1, p⟩ := St_21 (a := a) v
  obtain ⟨g, Γ, hg, w, tx, tm, to, hu, -⟩ := id v
  have w1 := (jok_v (S_X11_fewest (Nat.le_refl _) hg w tx) (jcv_o e0).2).1
  have w2 := (jok_v (S_X12_fewest (Nat.le_refl _) hg w1 tm) (jcv_o e1).2).1
  exact ⟨r0, e0, r1, e1, p, rfl, _, _, _, _, eqq_fewest E (jcv_o e0).2 (jcv_o e1).2 w1 w2 (t_w w tm (cls_of E).2)⟩
theorem Sq_22 {x m out : Nat} {a : Nat → Int32} {h : jH} (v : jInE x m out h) : SL_22 6000 x m out a h (jInE x m out) := by
  obtain ⟨v, rfl, nx, r, L, W, E⟩ := v
  obtain ⟨r0, e0, r1, e1, p⟩ := St_22 (a := a) v
  obtain ⟨g, Γ, hg, w, tx, tm, to, hu, -⟩ := id v
  have w1 := (jok_v (S_X11_first (Nat.le_refl _) hg w tx) (jcv_o e0).2).1
  have w2 := (jok_v (S_X12_first (Nat.le_refl _) hg w1 tm) (jcv_o e1).2).1
  exact ⟨r0, e0, r1, e1, p, rfl, _, _, _, _, eqq_first E (jcv_o e0).2 (jcv_o e1).2 w1 w2 (t_w w tm (cls_of E).2)⟩
theorem Sq_23 {x m out : Nat} {a : Nat → Int32} {h : jH} (v : jInE x m out h) : SL_23 6000 x m out a h (jInE x m out) := by
  obtain ⟨v, rfl, nx, r, L, W, E⟩ := v
  obtain ⟨r0, e0, t0⟩ := St_23 (a := a) v
  refine ⟨r0, e0, fun z0 hz0 => ?_⟩
  obtain ⟨r1, e1, p⟩ := t0 z0 hz0
  obtain ⟨q, y, ho, hz⟩ := FLo_snags e0
  have sz : q.2.1 ≤ (z0, r0.2.2).1 := by rw [← hz]; exact hz0
  have ho2 : oc (z0, r0.2.2) = oc q.2 := ho
  obtain ⟨g, Γ, hg, w, tx, tm, to, hu, -⟩ := id v
  obtain ⟨q9, y9, wq⟩ := FLw_snags e0
  have w1 := wq (jok_v (S_X11_snags (Nat.le_refl _) hg w tx (fun a b => hu a b 10 (by omega))) y9).1 to
  have wz := t_z4 w1 hz0
  have hg1 : jgok ((0 : Int32).toInt, g.2) := ⟨j00, hg.2⟩
  have w2 := (jok_v (S_X12_snags (Nat.le_refl _) hg1 wz tm hu) (jcv_o e1).2).1
  exact ⟨r1, e1, p, rfl, _, _, _, _, eqz_snags E y ho2 sz (jcv_o e1).2 (g := ((0 : Int32).toInt, g.2)) (g2 := ((0 : Int32).toInt, g.2.1, (0 : Int32).toInt, g.2.2.2)) rfl wz w2 (t_w w tm (cls_of E).2)⟩
theorem Sq_24 {x m out : Nat} {a : Nat → Int32} {h : jH} (v : jInE x m out h) : SL_24 6000 x m out a h (jInE x m out) := by
  obtain ⟨v, rfl, nx, r, L, W, E⟩ := v
  obtain ⟨r0, e0, t0⟩ := St_24 (a := a) v
  refine ⟨r0, e0, fun z0 hz0 => ?_⟩
  obtain ⟨r1, e1, p⟩ := t0 z0 hz0
  obtain ⟨q, y, ho, hz⟩ := FLo_tries e0
  have sz : q.2.1 ≤ (z0, r0.2.2).1 := by rw [← hz]; exact hz0
  have ho2 : oc (z0, r0.2.2) = oc q.2 := ho
  obtain ⟨g, Γ, hg, w, tx, tm, to, hu, -⟩ := id v
  obtain ⟨q9, y9, wq⟩ := FLw_tries e0
  have w1 := wq (jok_v (S_X11_tries (Nat.le_refl _) hg w tx (fun a b => hu a b 10 (by omega))) y9).1 to
  have wz := t_z4 w1 hz0
  have hg1 : jgok ((0 : Int32).toInt, g.2) := ⟨j00, hg.2⟩
  have w2 := (jok_v (S_X12_tries (Nat.le_refl _) hg1 wz tm hu) (jcv_o e1).2).1
  exact ⟨r1, e1, p, rfl, _, _, _, _, eqz_tries E y ho2 sz (jcv_o e1).2 (g := ((0 : Int32).toInt, g.2)) (g2 := ((0 : Int32).toInt, g.2.1, (0 : Int32).toInt, g.2.2.2)) rfl wz w2 (t_w w tm (cls_of E).2)⟩
theorem Sq_26 {x m out : Nat} {a : Nat → Int32} {h : jH} (v : jInE x m out h) : SL_26 6000 x m out a h (jInE x m out) := by
  obtain ⟨v, rfl, nx, r, L, W, E⟩ := v
  obtain ⟨r0, e0, r1, e1, p⟩ := St_26 (a := a) v
  exact ⟨r0, e0, r1, e1, p, rfl, _, _, _, _, eqq_order E (jcv_o e1).2⟩
theorem Sq_27 {x m out : Nat} {a : Nat → Int32} {h : jH} (v : jInE x m out h) : SL_27 6000 x m out a h (jInE x m out) := by
  obtain ⟨v, rfl, nx, r, L, W, E⟩ := v
  obtain ⟨r0, e0, t0⟩ := St_27 (a := a) v
  refine ⟨r0, e0, fun z0 hz0 => ?_⟩
  obtain ⟨r1, e1, p⟩ := t0 z0 hz0
  obtain ⟨q, y, ho, hz⟩ := FLo_tight e0
  have sz : q.2.1 ≤ (z0, r0.2.2).1 := by rw [← hz]; exact hz0
  have ho2 : oc (z0, r0.2.2) = oc q.2 := ho
  have E1 := eq_oc (eqc E (FC_X11_tight_0 (cls_of E).1 y)) ho2 sz
  exact ⟨r1, e1, p, rfl, _, _, _, _, eqr_tight E1 (jcv_o e1).2⟩
theorem Sq_28 {x m out : Nat} {a : Nat → Int32} {h : jH} (v : jInE x m out h) : SL_28 6000 x m out a h (jInE x m out) := by
  obtain ⟨v, rfl, nx, r, L, W, E⟩ := v
  obtain ⟨r0, e0, r1, e1, p⟩ := St_28 (a := a) v
  exact ⟨r0, e0, r1, e1, p, rfl, _, _, _, _, eqq_slack E (jcv_o e1).2⟩
theorem Sq_29 {x m out : Nat} {a : Nat → Int32} {h : jH} (v : jInE x m out h) : SL_29 6000 x m out a h (jInE x m out) := by
  obtain ⟨v, rfl, nx, r, L, W, E⟩ := v
  obtain ⟨r0, e0, r1, e1, p⟩ := St_29 (a := a) v
  exact ⟨r0, e0, r1, e1, p, rfl, _, _, _, _, eqq_taut E (jcv_o e1).2⟩
theorem Sq_30 {x m out : Nat} {a : Nat → Int32} {h : jH} (v : jInE x m out h) : SL_30 6000 x m out a h (jInE x m out) := by
  obtain ⟨v, rfl, nx, r, L, W, E⟩ := v
  obtain ⟨r0, e0, t0⟩ := St_30 (a := a) v
  refine ⟨r0, e0, fun z0 hz0 => ?_⟩
  obtain ⟨r1, e1, p⟩ := t0 z0 hz0
  obtain ⟨q, y, ho, hz⟩ := FLo_lit e0
  have sz : q.2.1 ≤ (z0, r0.2.2).1 := by rw [← hz]; exact hz0
  have ho2 : oc (z0, r0.2.2) = oc q.2 := ho
  have E1 := eq_oc (eqc E (FC_X11_lit_0 (cls_of E).1 y)) ho2 sz
  exact ⟨r1, e1, p, rfl, _, _, _, _, eqr_lit E1 (jcv_o e1).2⟩
theorem Sq_31 {x m out : Nat} {a : Nat → Int32} {h : jH} (v : jInE x m out h) : SL_31 6000 x m out a h (jInE x m out) := by
  obtain ⟨v, rfl, nx, r, L, W, E⟩ := v
  obtain ⟨r0, e0, r1, e1, p⟩ := St_31 (a := a) v
  exact ⟨r0, e0, r1, e1, p, rfl, _, _, _, _, eqq_sunny E (jcv_o e1).2⟩
theorem Sq_32 {x m out : Nat} {a : Nat → Int32} {h : jH} (v : jInE x m out h) : SL_32 6000 x m out a h (jInE x m out) := by
  obtain ⟨v, rfl, nx, r, L, W, E⟩ := v
  obtain ⟨r0, e0, t0⟩ := St_32 (a := a) v
  refine ⟨r0, e0, fun z0 hz0 => ?_⟩
  obtain ⟨r1, e1, p⟩ := t0 z0 hz0
  obtain ⟨q, y, ho, hz⟩ := FLo_faded e0
  have sz : q.2.1 ≤ (z0, r0.2.2).1 := by rw [← hz]; exact hz0
  have ho2 : oc (z0, r0.2.2) = oc q.2 := ho
  obtain ⟨g, Γ, hg, w, tx, tm, to, hu, -⟩ := id v
  obtain ⟨q9, y9, wq⟩ := FLw_faded e0
  have w1 := wq (jok_v (S_X11_faded (Nat.le_refl _) hg w tx) y9).1 to
  have wz := t_z4 w1 hz0
  have w2 := (jok_v (S_X12_faded (Nat.le_refl _) hg wz tm) (jcv_o e1).2).1
  have E1 := eq_oc (eqc E (FC_X11_faded_0 (cls_of E).1 y)) ho2 sz
  exact ⟨r1, e1, p, rfl, _, _, _, _, eqr_faded E1 (jcv_o e1).2 wz w2 (t_w w tm (cls_of E).2)⟩
theorem Sq_33 {x m out : Nat} {a : Nat → Int32} {h : jH} (v : jInE x m out h) : SL_33 6000 x m out a h (jInE x m out) := by
  obtain ⟨v, rfl, nx, r, L, W, E⟩ := v
  obtain ⟨r0, e0, r1, e1, p⟩ := St_33 (a := a) v
  obtain ⟨g, Γ, hg, w, tx, tm, to, hu, -⟩ := id v
  have w1 := (jok_v (S_X11_pale (Nat.le_refl _) hg w tx) (jcv_o e0).2).1
  have w2 := (jok_v (S_X12_pale (Nat.le_refl _) hg w1 tm) (jcv_o e1).2).1
  exact ⟨r0, e0, r1, e1, p, rfl, _, _, _, _, eqq_pale E (jcv_o e0).2 (jcv_o e1).2 w1 w2 (t_w w tm (cls_of E).2)⟩
theorem Sq_34 {x m out : Nat} {a : Nat → Int32} {h : jH} (v : jInE x m out h) : SL_34 6000 x m out a h (jInE x m out) := by
  obtain ⟨v, rfl, nx, r, L, W, E⟩ := v
  obtain ⟨r0, e0, t0⟩ := St_34 (a := a) v
  refine ⟨r0, e0, fun z0 hz0 => ?_⟩
  obtain ⟨r1, e1, p⟩ := t0 z0 hz0
  obtain ⟨q, y, ho, hz⟩ := FLo_lets e0
  have sz : q.2.1 ≤ (z0, r0.2.2).1 := by rw [← hz]; exact hz0
  have ho2 : oc (z0, r0.2.2) = oc q.2 := ho
  have E1 := eq_oc (eqc E (FC_X11_lets_0 (cls_of E).1 y)) ho2 sz
  exact ⟨r1, e1, p, rfl, _, _, _, _, eqr_lets E1 (jcv_o e1).2⟩
theorem Sq_35 {x m out : Nat} {a : Nat → Int32} {h : jH} (v : jInE x m out h) : SL_35 6000 x m out a h (jInE x m out) := by
  obtain ⟨v, rfl, nx, r, L, W, E⟩ := v
  obtain ⟨r0, e0, r1, e1, p⟩ := St_35 (a := a) v
  exact ⟨r0, e0, r1, e1, p, rfl, _, _, _, _, eqq_envy E (jcv_o e1).2⟩
theorem Sq_36 {x m out : Nat} {a : Nat → Int32} {h : jH} (v : jInE x m out h) : SL_36 6000 x m out a h (jInE x m out) := by
  obtain ⟨v, rfl, nx, r, L, W, E⟩ := v
  obtain ⟨r0, e0, t0⟩ := St_36 (a := a) v
  refine ⟨r0, e0, fun z0 hz0 => ?_⟩
  obtain ⟨r1, e1, p⟩ := t0 z0 hz0
  obtain ⟨q, y, ho, hz⟩ := FLo_rests e0
  have sz : q.2.1 ≤ (z0, r0.2.2).1 := by rw [← hz]; exact hz0
  have ho2 : oc (z0, r0.2.2) = oc q.2 := ho
  have E1 := eq_oc (eqc E (FC_X11_rests_0 (cls_of E).1 y)) ho2 sz
  exact ⟨r1, e1, p, rfl, _, _, _, _, eqr_rests E1 (jcv_o e1).2⟩
theorem Sq_37 {x m out : Nat} {a : Nat → Int32} {h : jH} (v : jInE x m out h) : SL_37 6000 x m out a h (jInE x m out) := by
  obtain ⟨v, rfl, nx, r, L, W, E⟩ := v
  obtain ⟨r0, e0, r1, e1, p⟩ := St_37 (a := a) v
  exact ⟨r0, e0, r1, e1, p, rfl, _, _, _, _, eqq_bunch E (jcv_o e1).2⟩
theorem Sq_38 {x m out : Nat} {a : Nat → Int32} {h : jH} (v : jInE x m out h) : SL_38 6000 x m out a h (jInE x m out) := by
  obtain ⟨v, rfl, nx, r, L, W, E⟩ := v
  obtain ⟨r0, e0, r1, e1, p⟩ := St_38 (a := a) v
  exact ⟨r0, e0, r1, e1, p, rfl, _, _, _, _, eqq_wooden E (jcv_o e1).2⟩
theorem Sq_39 {x m out : Nat} {a : Nat → Int32} {h : jH} (v : jInE x m out h) : SL_39 6000 x m out a h (jInE x m out) := by
  obtain ⟨v, rfl, nx, r, L, W, E⟩ := v
  obtain ⟨r0, e0, r1, e1, p⟩ := St_39 (a := a) v
  exact ⟨r0, e0, r1, e1, p, rfl, _, _, _, _, eqq_caught E (jcv_o e1).2⟩
theorem Sq_40 {x m out : Nat} {a : Nat → Int32} {h : jH} (v : jInE x m out h) : SL_40 6000 x m out a h (jInE x m out) := by
  obtain ⟨v, rfl, nx, r, L, W, E⟩ := v
  obtain ⟨r0, e0, r1, e1, p⟩ := St_40 (a := a) v
  exact ⟨r0, e0, r1, e1, p, rfl, _, _, _, _, eqq_loose E (jcv_o e1).2⟩
theorem Sq_41 {x m out : Nat} {a : Nat → Int32} {h : jH} (v : jInE x m out h) : SL_41 6000 x m out a h (jInE x m out) := by
  obtain ⟨v, rfl, nx, r, L, W, E⟩ := v
  obtain ⟨r0, e0, r1, e1, p⟩ := St_41 (a := a) v
  exact ⟨r0, e0, r1, e1, p, rfl, _, _, _, _, eqq_beyond E (jcv_o e1).2⟩
theorem Sq_42 {x m out : Nat} {a : Nat → Int32} {h : jH} (v : jInE x m out h) : SL_42 6000 x m out a h (jInE x m out) := by
  obtain ⟨v, rfl, nx, r, L, W, E⟩ := v
  obtain ⟨r0, e0, t0⟩ := St_42 (a := a) v
  refine ⟨r0, e0, fun z0 hz0 => ?_⟩
  obtain ⟨r1, e1, p⟩ := t0 z0 hz0
  obtain ⟨q, y, ho, hz⟩ := FLo_odds e0
  have sz : q.2.1 ≤ (z0, r0.2.2).1 := by rw [← hz]; exact hz0
  have ho2 : oc (z0, r0.2.2) = oc q.2 := ho
  have E1 := eq_oc (eqc E (FC_X11_odds_0 (cls_of E).1 y)) ho2 sz
  exact ⟨r1, e1, p, rfl, _, _, _, _, eqr_odds E1 (jcv_o e1).2⟩
theorem Sq_43 {x m out : Nat} {a : Nat → Int32} {h : jH} (v : jInE x m out h) : SL_43 6000 x m out a h (jInE x m out) := by
  obtain ⟨v, rfl, nx, r, L, W, E⟩ := v
  obtain ⟨r0, e0, r1, e1, p⟩ := St_43 (a := a) v
  exact ⟨r0, e0, r1, e1, p, rfl, _, _, _, _, eqq_twins E (jcv_o e1).2⟩
theorem Sq_44 {x m out : Nat} {a : Nat → Int32} {h : jH} (v : jInE x m out h) : SL_44 6000 x m out a h (jInE x m out) := by
  obtain ⟨v, rfl, nx, r, L, W, E⟩ := v
  obtain ⟨r0, e0, t0⟩ := St_44 (a := a) v
  refine ⟨r0, e0, fun z0 hz0 => ?_⟩
  obtain ⟨r1, e1, p⟩ := t0 z0 hz0
  obtain ⟨q, y, ho, hz⟩ := FLo_ahead e0
  have sz : q.2.1 ≤ (z0, r0.2.2).1 := by rw [← hz]; exact hz0
  have ho2 : oc (z0, r0.2.2) = oc q.2 := ho
  obtain ⟨g, Γ, hg, w, tx, tm, to, hu, -⟩ := id v
  obtain ⟨q9, y9, wq⟩ := FLw_ahead e0
  have w1 := wq (jok_v (S_X11_ahead (Nat.le_refl _) hg w tx) y9).1 to
  have wz := t_z4 w1 hz0
  have w2 := (jok_v (S_X12_ahead (Nat.le_refl _) hg wz tm) (jcv_o e1).2).1
  have E1 := eq_oc (eqc E (FC_X11_ahead_0 (cls_of E).1 y)) ho2 sz
  exact ⟨r1, e1, p, rfl, _, _, _, _, eqr_ahead E1 (jcv_o e1).2 wz w2 (t_w w tm (cls_of E).2)⟩
theorem Sq_45 {x m out : Nat} {a : Nat → Int32} {h : jH} (v : jInE x m out h) : SL_45 6000 x m out a h (jInE x m out) := by
  obtain ⟨v, rfl, nx, r, L, W, E⟩ := v
  obtain ⟨r0, e0, t0⟩ := St_45 (a := a) v
  refine ⟨r0, e0, fun z0 hz0 => ?_⟩
  obtain ⟨r1, e1, p⟩ := t0 z0 hz0
  obtain ⟨q, y, ho, hz⟩ := FLo_trial e0
  have sz : q.2.1 ≤ (z0, r0.2.2).1 := by rw [← hz]; exact hz0
  have ho2 : oc (z0, r0.2.2) = oc q.2 := ho
  obtain ⟨g, Γ, hg, w, tx, tm, to, hu, -⟩ := id v
  obtain ⟨q9, y9, wq⟩ := FLw_trial e0
  have w1 := wq (jok_v (S_X11_trial (Nat.le_refl _) hg w tx) y9).1 to
  have wz := t_z4 w1 hz0
  have w2 := (jok_v (S_X12_trial (Nat.le_refl _) hg wz tm) (jcv_o e1).2).1
  have E1 := eq_oc (eqc E (FC_X11_trial_0 (cls_of E).1 y)) ho2 sz
  exact ⟨r1, e1, p, rfl, _, _, _, _, eqr_trial E1 (jcv_o e1).2 wz w2 (t_w w tm (cls_of E).2)⟩
theorem Sq_46 {x m out : Nat} {a : Nat → Int32} {h : jH} (v : jInE x m out h) : SL_46 6000 x m out a h (jInE x m out) := by
  obtain ⟨v, rfl, nx, r, L, W, E⟩ := v
  obtain ⟨r0, e0, t0⟩ := St_46 (a := a) v
  refine ⟨r0, e0, fun z0 hz0 => ?_⟩
  obtain ⟨r1, e1, p⟩ := t0 z0 hz0
  obtain ⟨q, y, ho, hz⟩ := FLo_span e0
  have sz : q.2.1 ≤ (z0, r0.2.2).1 := by rw [← hz]; exact hz0
  have ho2 : oc (z0, r0.2.2) = oc q.2 := ho
  obtain ⟨g, Γ, hg, w, tx, tm, to, hu, -⟩ := id v
  obtain ⟨q9, y9, wq⟩ := FLw_span e0
  have w1 := wq (jok_v (S_X11_span (Nat.le_refl _) hg w tx) y9).1 to
  have wz := t_z4 w1 hz0
  have w2 := (jok_v (S_X12_span (Nat.le_refl _) hg wz tm) (jcv_o e1).2).1
  have E1 := eq_oc (eqc E (FC_X11_span_0 (cls_of E).1 y)) ho2 sz
  exact ⟨r1, e1, p, rfl, _, _, _, _, eqr_span E1 (jcv_o e1).2 wz w2 (t_w w tm (cls_of E).2)⟩
theorem Sq_47 {x m out : Nat} {a : Nat → Int32} {h : jH} (v : jInE x m out h) : SL_47 6000 x m out a h (jInE x m out) := by
  obtain ⟨v, rfl, nx, r, L, W, E⟩ := v
  obtain ⟨r0, e0, t0⟩ := St_47 (a := a) v
  refine ⟨r0, e0, fun z0 hz0 => ?_⟩
  obtain ⟨r1, e1, p⟩ := t0 z0 hz0
  obtain ⟨q, y, ho, hz⟩ := FLo_led e0
  have sz : q.2.1 ≤ (z0, r0.2.2).1 := by rw [← hz]; exact hz0
  have ho2 : oc (z0, r0.2.2) = oc q.2 := ho
  have E1 := eq_oc (eqc E (FC_X11_led_0 (cls_of E).1 y)) ho2 sz
  exact ⟨r1, e1, p, rfl, _, _, _, _, eqr_led E1 (jcv_o e1).2⟩
theorem Sq_48 {x m out : Nat} {a : Nat → Int32} {h : jH} (v : jInE x m out h) : SL_48 6000 x m out a h (jInE x m out) := by
  obtain ⟨v, rfl, nx, r, L, W, E⟩ := v
  obtain ⟨r0, e0, t0⟩ := St_48 (a := a) v
  refine ⟨r0, e0, fun z0 hz0 => ?_⟩
  obtain ⟨r1, e1, p⟩ := t0 z0 hz0
  obtain ⟨q, y, ho, hz⟩ := FLo_log e0
  have sz : q.2.1 ≤ (z0, r0.2.2).1 := by rw [← hz]; exact hz0
  have ho2 : oc (z0, r0.2.2) = oc q.2 := ho
  have E1 := eq_oc (eqc E (FC_X11_log_0 (cls_of E).1 y)) ho2 sz
  exact ⟨r1, e1, p, rfl, _, _, _, _, eqr_log E1 (jcv_o e1).2⟩
theorem Sq_49 {x m out : Nat} {a : Nat → Int32} {h : jH} (v : jInE x m out h) : SL_49 6000 x m out a h (jInE x m out) := by
  obtain ⟨v, rfl, nx, r, L, W, E⟩ := v
  obtain ⟨r0, e0, r1, e1, p⟩ := St_49 (a := a) v
  obtain ⟨W2, E2⟩ := (eq_seed E (jcv_o e0).2 (jcv_o e1).2).1
  exact ⟨r0, e0, r1, e1, p, rfl, _, _, _, _, E2⟩
theorem Sq_50 {x m out : Nat} {a : Nat → Int32} {h : jH} (v : jInE x m out h) : SL_50 6000 x m out a h (jInE x m out) := by
  obtain ⟨v, rfl, nx, r, L, W, E⟩ := v
  obtain ⟨r0, e0, r1, e1, p⟩ := St_50 (a := a) v
  obtain ⟨nx2, r2, W2, E2⟩ := (eq_undo E (jcv_o e0).2 (jcv_o e1).2).1
  exact ⟨r0, e0, r1, e1, p, rfl, _, _, _, _, E2⟩
theorem Sq_51 {x m out : Nat} {a : Nat → Int32} {h : jH} (v : jInE x m out h) : SL_51 6000 x m out a h (jInE x m out) := by
  obtain ⟨v, rfl, nx, r, L, W, E⟩ := v
  obtain ⟨r0, e0, r1, e1, p⟩ := St_51 (a := a) v
  exact ⟨r0, e0, r1, e1, p, rfl, _, _, _, _, (eq_image E (jcv_o e0).2 (jcv_o e1).2).1⟩
theorem Sq_52 {x m out : Nat} {a : Nat → Int32} {h : jH} (v : jInE x m out h) : SL_52 6000 x m out a h (jInE x m out) := by
  obtain ⟨v, rfl, nx, r, L, W, E⟩ := v
  obtain ⟨r0, e0, r1, e1, p⟩ := St_52 (a := a) v
  obtain ⟨r2, W2, E2⟩ := (eq_back E (jcv_o e0).2 (jcv_o e1).2).1
  exact ⟨r0, e0, r1, e1, p, rfl, _, _, _, _, E2⟩
theorem Sq_53 {x m out : Nat} {a : Nat → Int32} {h : jH} (v : jInE x m out h) : SL_53 6000 x m out a h (jInE x m out) := by
  obtain ⟨v, rfl, nx, r, L, W, E⟩ := v
  obtain ⟨r0, e0, r1, e1, p⟩ := St_53 (a := a) v
  exact ⟨r0, e0, r1, e1, p, rfl, _, _, _, _, eqq_count E (jcv_o e1).2⟩
end
