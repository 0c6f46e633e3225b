section
/-! every question keeps the relation -/
theorem cls_of {x nx r L : Nat} {W : jWd} {h : jH} (E : eqS x nx r L W h) : clsS (oc h) x ∧ mS (oc h) (x + 40) := ⟨⟨E.1.1, E.1.2.1, E.1.2.2.2.1, E.1.2.2.2.2.1, E.2.2.1.2.2.2.1.1.2.2.2.2, E.2.2.2.2.2.2.2.1⟩, E.1.2.2.2.2.2.2.2⟩
theorem cls_m {x nx r L : Nat} {W : jWd} {h h2 : jH} (E : eqS x nx r L W h) (C : frK x h h2) : mS (oc h2) (x + 40) := by
  obtain ⟨s1, s2, s3, s4, s5, s8, s15, s17, s19, s20, s21⟩ := (cls_of E).2
  have k : ∀ k : Nat, oc h2 (x + 40) k = oc h (x + 40) k := fun k => C.1 _ _ (by unfold qcc; omega)
  exact ⟨(k _).trans s1, (k _).trans s2, (k _).trans s3, (k _).trans s4, (k _).trans s5, (k _).trans s8, (k _).trans s15, (k _).trans s17, (k _).trans s19, (k _).trans s20, (k _).trans s21⟩
theorem eq_Q {x nx r L : Nat} {W : jWd} {h h2 h3 : jH} {cs fs : List Nat} (E : eqS x nx r L W h) (C : frK x h h2) (F : frM (x + 40) cs fs (oc h2) (oc h3)) (hc : ∀ c ∈ cs, c = 1 ∨ c = 4 ∨ (8 ≤ c ∧ c ≤ 11)) (hf : ∀ k ∈ fs, k = 0 ∨ k = 18) (hz : h3.1 = h2.1) (hw : ∀ k : Nat, oi (oc h3) (x + 41) k = oi (oc h2) (x + 41) k) : eqS x nx r L W h3 := by
  refine eq_qr0 E (fun a k z => ?_) (by rw [hz, C.2]; omega) ?_
  · have z1 : ¬ qcc x a k := by unfold qcc; unfold qrc at z; omega
    exact (F a k (fun c hc2 e => by have := hc c hc2; unfold qrc at z; omega) (fun e hk => by have := hf k hk; unfold qrc at z; omega)).trans (C.1 a k z1)
  · rw [← E.2.2.1.2.1]
    funext k
    refine (hw k).trans ?_
    show oi _ _ _ = oi _ _ _
    unfold oi
    rw [C.1 _ _ (by unfold qcc; omega)]
theorem fq_w {m : Nat} {cs fs : List Nat} {O O2 : jO} (F : frM m cs fs O O2) (h : 1 ∉ cs) (k : Nat) : oi O2 (m + 1) k = oi O (m + 1) k := by
  unfold oi
  rw [F (m + 1) k (fun c hc e => h ((show c = 1 by omega) ▸ hc)) (fun e => by omega)]
theorem wr_w {g : jGh} {Γ : Nat → Option Nat} {h h2 : jH} {m : Nat} (w : jW (jKd g) Γ h) (w2 : jW (jKd g) Γ h2) (ha : Γ (m + 1) = some 21) (B : jbq h h2) {t : Bool} (K : wK true t m (wl (oc h) m) (oc h2)) (k : Nat) : oi (oc h2) (m + 1) k = oi (oc h) (m + 1) k := by
  by_cases y : k < 435
  · exact K.1 rfl k y
  · exact wl_hi w w2 ha B (by omega)
theorem eqq_fault {x nx r L n : Nat} {W : jWd} {h : jH} {q : Int32 × jH} (E : eqS x nx r L W h) (e2 : F_X12_fault n (x + 40) h = some q) : eqS x nx r L W q.2 := eq_Q E frK_rfl (FQ_X12_fault (cls_of E).2 e2) (by decide) (by decide) (FZ_X12_fault e2) (fq_w (FQ_X12_fault (cls_of E).2 e2) (by decide))
theorem eqq_shade {x nx r L n : Nat} {W : jWd} {h : jH} {q : Int32 × jH} (E : eqS x nx r L W h) (e2 : F_X12_shade n (x + 40) h = some q) : eqS x nx r L W q.2 := eq_Q E frK_rfl (FQ_X12_shade (cls_of E).2 e2) (by decide) (by decide) (FZ_X12_shade e2) (fq_w (FQ_X12_shade (cls_of E).2 e2) (by decide))
theorem eqq_dark {x nx r L n : Nat} {W : jWd} {h : jH} {q : Int32 × jH} (E : eqS x nx r L W h) (e2 : F_X12_dark n (x + 40) h = some q) : eqS x nx r L W q.2 := eq_Q E frK_rfl (FQ_X12_dark (cls_of E).2 e2) (by decide) (by decide) (FZ_X12_dark e2) (fq_w (FQ_X12_dark (cls_of E).2 e2) (by decide))
theorem eqq_bare {x nx r L n : Nat} {W : jWd} {h : jH} {q : Int32 × jH} (E : eqS x nx r L W h) (e2 : F_X12_bare n (x + 40) h = some q) : eqS x nx r L W q.2 := eq_Q E frK_rfl (FQ_X12_bare (cls_of E).2 e2) (by decide) (by decide) (FZ_X12_bare e2) (fq_w (FQ_X12_bare (cls_of E).2 e2) (by decide))
theorem eqq_order {x nx r L n : Nat} {W : jWd} {h : jH} {q : Int32 × jH} (E : eqS x nx r L W h) (e2 : F_X12_order n (x + 40) h = some q) : eqS x nx r L W q.2 := eq_Q E frK_rfl (FQ_X12_order (cls_of E).2 e2) (by decide) (by decide) (FZ_X12_order e2) (fq_w (FQ_X12_order (cls_of E).2 e2) (by decide))
theorem eqq_slack {x nx r L n : Nat} {W : jWd} {h : jH} {q : Int32 × jH} (E : eqS x nx r L W h) (e2 : F_X12_slack n (x + 40) h = some q) : eqS x nx r L W q.2 := eq_Q E frK_rfl (FQ_X12_slack (cls_of E).2 e2) (by decide) (by decide) (FZ_X12_slack e2) (fq_w (FQ_X12_slack (cls_of E).2 e2) (by decide))
theorem eqq_taut {x nx r L n : Nat} {W : jWd} {h : jH} {q : Int32 × jH} (E : eqS x nx r L W h) (e2 : F_X12_taut n (x + 40) h = some q) : eqS x nx r L W q.2 := eq_Q E frK_rfl (FQ_X12_taut (cls_of E).2 e2) (by decide) (by decide) (FZ_X12_taut e2) (fq_w (FQ_X12_taut (cls_of E).2 e2) (by decide))
theorem eqq_sunny {x nx r L n : Nat} {W : jWd} {h : jH} {q : Int32 × jH} (E : eqS x nx r L W h) (e2 : F_X12_sunny n (x + 40) h = some q) : eqS x nx r L W q.2 := eq_Q E frK_rfl (FQ_X12_sunny (cls_of E).2 e2) (by decide) (by decide) (FZ_X12_sunny e2) (fq_w (FQ_X12_sunny (cls_of E).2 e2) (by decide))
theorem eqq_envy {x nx r L n : Nat} {W : jWd} {h : jH} {q : Int32 × jH} (E : eqS x nx r L W h) (e2 : F_X12_envy n (x + 40) h = some q) : eqS x nx r L W q.2 := eq_Q E frK_rfl (FQ_X12_envy (cls_of E).2 e2) (by decide) (by decide) (FZ_X12_envy e2) (fq_w (FQ_X12_envy (cls_of E).2 e2) (by decide))
theorem eqq_bunch {x nx r L n : Nat} {W : jWd} {h : jH} {q : Int32 × jH} (E : eqS x nx r L W h) (e2 : F_X12_bunch n (x + 40) h = some q) : eqS x nx r L W q.2 := eq_Q E frK_rfl (FQ_X12_bunch (cls_of E).2 e2) (by decide) (by decide) (FZ_X12_bunch e2) (fq_w (FQ_X12_bunch (cls_of E).2 e2) (by decide))
theorem eqq_wooden {x nx r L n : Nat} {W : jWd} {h : jH} {q : Int32 × jH} (E : eqS x nx r L W h) (e2 : F_X12_wooden n (x + 40) h = some q) : eqS x nx r L W q.2 := eq_Q E frK_rfl (FQ_X12_wooden (cls_of E).2 e2) (by decide) (by decide) (FZ_X12_wooden e2) (fq_w (FQ_X12_wooden (cls_of E).2 e2) (by decide))
theorem eqq_caught {x nx r L n : Nat} {W : jWd} {h : jH} {q : Int32 × jH} (E : eqS x nx r L W h) (e2 : F_X12_caught n (x + 40) h = some q) : eqS x nx r L W q.2 := eq_Q E frK_rfl (FQ_X12_caught (cls_of E).2 e2) (by decide) (by decide) (FZ_X12_caught e2) (fq_w (FQ_X12_caught (cls_of E).2 e2) (by decide))
theorem eqq_loose {x nx r L n : Nat} {W : jWd} {h : jH} {q : Int32 × jH} (E : eqS x nx r L W h) (e2 : F_X12_loose n (x + 40) h = some q) : eqS x nx r L W q.2 := eq_Q E frK_rfl (FQ_X12_loose (cls_of E).2 e2) (by decide) (by decide) (FZ_X12_loose e2) (fq_w (FQ_X12_loose (cls_of E).2 e2) (by decide))
theorem eqq_beyond {x nx r L n : Nat} {W : jWd} {h : jH} {q : Int32 × jH} (E : eqS x nx r L W h) (e2 : F_X12_beyond n (x + 40) h = some q) : eqS x nx r L W q.2 := eq_Q E frK_rfl (FQ_X12_beyond (cls_of E).2 e2) (by decide) (by decide) (FZ_X12_beyond e2) (fq_w (FQ_X12_beyond (cls_of E).2 e2) (by decide))
theorem eqq_twins {x nx r L n : Nat} {W : jWd} {h : jH} {q : Int32 × jH} (E : eqS x nx r L W h) (e2 : F_X12_twins n (x + 40) h = some q) : eqS x nx r L W q.2 := eq_Q E frK_rfl (FQ_X12_twins (cls_of E).2 e2) (by decide) (by decide) (FZ_X12_twins e2) (fq_w (FQ_X12_twins (cls_of E).2 e2) (by decide))
theorem eqq_count {x nx r L n : Nat} {W : jWd} {h : jH} {zx1 : Int32} {q : Int32 × jH} (E : eqS x nx r L W h) (e2 : F_X12_count n (x + 40) zx1 h = some q) : eqS x nx r L W q.2 := eq_Q E frK_rfl (FQ_X12_count (cls_of E).2 e2) (by decide) (by decide) (FZ_X12_count e2) (fq_w (FQ_X12_count (cls_of E).2 e2) (by decide))
theorem eqq_ring {x nx r L n n2 : Nat} {W : jWd} {h : jH} {yx1 : Int32} {yx2 : Int32} {zx1 : Int32} {zx2 : Int32} {p : jR × jH} {q : Int32 × jH} (E : eqS x nx r L W h) (e1 : F_X11_ring n x yx1 yx2 h = some p) (e2 : F_X12_ring n2 (x + 40) zx1 zx2 p.2 = some q) : eqS x nx r L W q.2 := by
  have C := FC_X11_ring_0 (cls_of E).1 e1
  have M2 := cls_m E C
  exact eq_Q E C (FQ_X12_ring M2 e2) (by decide) (by decide) (FZ_X12_ring e2) (fq_w (FQ_X12_ring M2 e2) (by decide))
theorem eqq_with {x nx r L n n2 : Nat} {W : jWd} {h : jH} {yx1 : Int32} {yx2 : Int32} {zx1 : Int32} {zx2 : Int32} {p : jR × jH} {q : Int32 × jH} (E : eqS x nx r L W h) (e1 : F_X11_with n x yx1 yx2 h = some p) (e2 : F_X12_with n2 (x + 40) zx1 zx2 p.2 = some q) : eqS x nx r L W q.2 := by
  have C := FC_X11_with_0 (cls_of E).1 e1
  have M2 := cls_m E C
  exact eq_Q E C (FQ_X12_with M2 e2) (by decide) (by decide) (FZ_X12_with e2) (fq_w (FQ_X12_with M2 e2) (by decide))
theorem eqq_tight {x nx r L n n2 : Nat} {W : jWd} {h : jH} {yx1 : Int32} {zx1 : Int32} {p : jR × jH} {q : Int32 × jH} (E : eqS x nx r L W h) (e1 : F_X11_tight n x yx1 h = some p) (e2 : F_X12_tight n2 (x + 40) zx1 p.2 = some q) : eqS x nx r L W q.2 := by
  have C := FC_X11_tight_0 (cls_of E).1 e1
  have M2 := cls_m E C
  exact eq_Q E C (FQ_X12_tight M2 e2) (by decide) (by decide) (FZ_X12_tight e2) (fq_w (FQ_X12_tight M2 e2) (by decide))
theorem eqq_lit {x nx r L n n2 : Nat} {W : jWd} {h : jH} {yx1 : Int32} {zx1 : Int32} {p : jR × jH} {q : Int32 × jH} (E : eqS x nx r L W h) (e1 : F_X11_lit n x yx1 h = some p) (e2 : F_X12_lit n2 (x + 40) zx1 p.2 = some q) : eqS x nx r L W q.2 := by
  have C := FC_X11_lit_0 (cls_of E).1 e1
  have M2 := cls_m E C
  exact eq_Q E C (FQ_X12_lit M2 e2) (by decide) (by decide) (FZ_X12_lit e2) (fq_w (FQ_X12_lit M2 e2) (by decide))
theorem eqq_lets {x nx r L n n2 : Nat} {W : jWd} {h : jH} {yx1 : Int32} {yx2 : Int32} {zx1 : Int32} {zx2 : Int32} {p : jR × jH} {q : Int32 × jH} (E : eqS x nx r L W h) (e1 : F_X11_lets n x yx1 yx2 h = some p) (e2 : F_X12_lets n2 (x + 40) zx1 zx2 p.2 = some q) : eqS x nx r L W q.2 := by
  have C := FC_X11_lets_0 (cls_of E).1 e1
  have M2 := cls_m E C
  exact eq_Q E C (FQ_X12_lets M2 e2) (by decide) (by decide) (FZ_X12_lets e2) (fq_w (FQ_X12_lets M2 e2) (by decide))
theorem eqq_rests {x nx r L n n2 : Nat} {W : jWd} {h : jH} {yx1 : Int32} {zx1 : Int32} {p : jR × jH} {q : Int32 × jH} (E : eqS x nx r L W h) (e1 : F_X11_rests n x yx1 h = some p) (e2 : F_X12_rests n2 (x + 40) zx1 p.2 = some q) : eqS x nx r L W q.2 := by
  have C := FC_X11_rests_0 (cls_of E).1 e1
  have M2 := cls_m E C
  exact eq_Q E C (FQ_X12_rests M2 e2) (by decide) (by decide) (FZ_X12_rests e2) (fq_w (FQ_X12_rests M2 e2) (by decide))
theorem eqq_odds {x nx r L n n2 : Nat} {W : jWd} {h : jH} {yx1 : Int32} {yx2 : Int32} {zx1 : Int32} {zx2 : Int32} {p : jR × jH} {q : Int32 × jH} (E : eqS x nx r L W h) (e1 : F_X11_odds n x yx1 yx2 h = some p) (e2 : F_X12_odds n2 (x + 40) zx1 zx2 p.2 = some q) : eqS x nx r L W q.2 := by
  have C := FC_X11_odds_0 (cls_of E).1 e1
  have M2 := cls_m E C
  exact eq_Q E C (FQ_X12_odds M2 e2) (by decide) (by decide) (FZ_X12_odds e2) (fq_w (FQ_X12_odds M2 e2) (by decide))
theorem eqq_led {x nx r L n n2 : Nat} {W : jWd} {h : jH} {yx1 : Int32} {yx2 : Int32} {zx1 : Int32} {zx2 : Int32} {p : jR × jH} {q : Int32 × jH} (E : eqS x nx r L W h) (e1 : F_X11_led n x yx1 yx2 h = some p) (e2 : F_X12_led n2 (x + 40) zx1 zx2 p.2 = some q) : eqS x nx r L W q.2 := by
  have C := FC_X11_led_0 (cls_of E).1 e1
  have M2 := cls_m E C
  exact eq_Q E C (FQ_X12_led M2 e2) (by decide) (by decide) (FZ_X12_led e2) (fq_w (FQ_X12_led M2 e2) (by decide))
theorem eqq_log {x nx r L n n2 : Nat} {W : jWd} {h : jH} {yx1 : Int32} {yx2 : Int32} {zx1 : Int32} {zx2 : Int32} {p : jR × jH} {q : Int32 × jH} (E : eqS x nx r L W h) (e1 : F_X11_log n x yx1 yx2 h = some p) (e2 : F_X12_log n2 (x + 40) zx1 zx2 p.2 = some q) : eqS x nx r L W q.2 := by
  have C := FC_X11_log_0 (cls_of E).1 e1
  have M2 := cls_m E C
  exact eq_Q E C (FQ_X12_log M2 e2) (by decide) (by decide) (FZ_X12_log e2) (fq_w (FQ_X12_log M2 e2) (by decide))
theorem eqq_goes {x nx r L n n2 : Nat} {W : jWd} {h : jH} {yx1 : Int32} {yx2 : Int32} {zx1 : Int32} {zx2 : Int32} {p : jR × jH} {q : Int32 × jH} (E : eqS x nx r L W h) (e1 : F_X11_goes n x yx1 yx2 h = some p) (e2 : F_X12_goes n2 (x + 40) zx1 zx2 p.2 = some q) {g : jGh} {Γ : Nat → Option Nat} (w2 : jW (jKd g) Γ p.2) (w3 : jW (jKd g) Γ q.2) (ha : Γ (x + 40 + 1) = some 21) : eqS x nx r L W q.2 := by
  have C := FC_X11_goes_0 (cls_of E).1 e1
  have M2 := cls_m E C
  exact eq_Q E C (FQ_X12_goes M2 e2) (by decide) (by decide) (FZ_X12_goes e2) (wr_w w2 w3 ha (BQ_X12_goes e2) (WR_X12_goes M2 ⟨fun _ _ _ => rfl, fun z => by cases z⟩ e2))
theorem eqq_would {x nx r L n n2 : Nat} {W : jWd} {h : jH} {yx1 : Int32} {yx2 : Int32} {yx3 : Int32} {yx4 : Int32} {zx1 : Int32} {zx2 : Int32} {zx3 : Int32} {zx4 : Int32} {p : jR × jH} {q : Int32 × jH} (E : eqS x nx r L W h) (e1 : F_X11_would n x yx1 yx2 yx3 yx4 h = some p) (e2 : F_X12_would n2 (x + 40) zx1 zx2 zx3 zx4 p.2 = some q) {g : jGh} {Γ : Nat → Option Nat} (w2 : jW (jKd g) Γ p.2) (w3 : jW (jKd g) Γ q.2) (ha : Γ (x + 40 + 1) = some 21) : eqS x nx r L W q.2 := by
  have C := FC_X11_would_0 (cls_of E).1 e1
  have M2 := cls_m E C
  exact eq_Q E C (FQ_X12_would M2 e2) (by decide) (by decide) (FZ_X12_would e2) (wr_w w2 w3 ha (BQ_X12_would e2) (WR_X12_would M2 ⟨fun _ _ _ => rfl, fun z => by cases z⟩ e2))
theorem eqq_loosen {x nx r L n n2 : Nat} {W : jWd} {h : jH} {yx1 : Int32} {yx2 : Int32} {yx3 : Int32} {zx1 : Int32} {zx2 : Int32} {zx3 : Int32} {p : jR × jH} {q : Int32 × jH} (E : eqS x nx r L W h) (e1 : F_X11_loosen n x yx1 yx2 yx3 h = some p) (e2 : F_X12_loosen n2 (x + 40) zx1 zx2 zx3 p.2 = some q) {g : jGh} {Γ : Nat → Option Nat} (w2 : jW (jKd g) Γ p.2) (w3 : jW (jKd g) Γ q.2) (ha : Γ (x + 40 + 1) = some 21) : eqS x nx r L W q.2 := by
  have C := FC_X11_loosen_0 (cls_of E).1 e1
  have M2 := cls_m E C
  exact eq_Q E C (FQ_X12_loosen M2 e2) (by decide) (by decide) (FZ_X12_loosen e2) (wr_w w2 w3 ha (BQ_X12_loosen e2) (WR_X12_loosen M2 ⟨fun _ _ _ => rfl, fun z => by cases z⟩ e2))
theorem eqq_faded {x nx r L n n2 : Nat} {W : jWd} {h : jH} {yx1 : Int32} {zx1 : Int32} {p : jR × jH} {q : Int32 × jH} (E : eqS x nx r L W h) (e1 : F_X11_faded n x yx1 h = some p) (e2 : F_X12_faded n2 (x + 40) zx1 p.2 = some q) {g : jGh} {Γ : Nat → Option Nat} (w2 : jW (jKd g) Γ p.2) (w3 : jW (jKd g) Γ q.2) (ha : Γ (x + 40 + 1) = some 21) : eqS x nx r L W q.2 := by
  have C := FC_X11_faded_0 (cls_of E).1 e1
  have M2 := cls_m E C
  exact eq_Q E C (FQ_X12_faded M2 e2) (by decide) (by decide) (FZ_X12_faded e2) (wr_w w2 w3 ha (BQ_X12_faded e2) (WR_X12_faded M2 ⟨fun _ _ _ => rfl, fun z => by cases z⟩ e2))
theorem eqq_ahead {x nx r L n n2 : Nat} {W : jWd} {h : jH} {yx1 : Int32} {yx2 : Int32} {zx1 : Int32} {zx2 : Int32} {p : jR × jH} {q : Int32 × jH} (E : eqS x nx r L W h) (e1 : F_X11_ahead n x yx1 yx2 h = some p) (e2 : F_X12_ahead n2 (x + 40) zx1 zx2 p.2 = some q) {g : jGh} {Γ : Nat → Option Nat} (w2 : jW (jKd g) Γ p.2) (w3 : jW (jKd g) Γ q.2) (ha : Γ (x + 40 + 1) = some 21) : eqS x nx r L W q.2 := by
  have C := FC_X11_ahead_0 (cls_of E).1 e1
  have M2 := cls_m E C
  exact eq_Q E C (FQ_X12_ahead M2 e2) (by decide) (by decide) (FZ_X12_ahead e2) (wr_w w2 w3 ha (BQ_X12_ahead e2) (WR_X12_ahead M2 ⟨fun _ _ _ => rfl, fun z => by cases z⟩ e2))
theorem eqq_trial {x nx r L n n2 : Nat} {W : jWd} {h : jH} {yx1 : Int32} {yx2 : Int32} {zx1 : Int32} {zx2 : Int32} {p : jR × jH} {q : Int32 × jH} (E : eqS x nx r L W h) (e1 : F_X11_trial n x yx1 yx2 h = some p) (e2 : F_X12_trial n2 (x + 40) zx1 zx2 p.2 = some q) {g : jGh} {Γ : Nat → Option Nat} (w2 : jW (jKd g) Γ p.2) (w3 : jW (jKd g) Γ q.2) (ha : Γ (x + 40 + 1) = some 21) : eqS x nx r L W q.2 := by
  have C := FC_X11_trial_0 (cls_of E).1 e1
  have M2 := cls_m E C
  exact eq_Q E C (FQ_X12_trial M2 e2) (by decide) (by decide) (FZ_X12_trial e2) (wr_w w2 w3 ha (BQ_X12_trial e2) (WR_X12_trial M2 ⟨fun _ _ _ => rfl, fun z => by cases z⟩ e2))
theorem eqq_span {x nx r L n n2 : Nat} {W : jWd} {h : jH} {yx1 : Int32} {yx2 : Int32} {zx1 : Int32} {zx2 : Int32} {p : jR × jH} {q : Int32 × jH} (E : eqS x nx r L W h) (e1 : F_X11_span n x yx1 yx2 h = some p) (e2 : F_X12_span n2 (x + 40) zx1 zx2 p.2 = some q) {g : jGh} {Γ : Nat → Option Nat} (w2 : jW (jKd g) Γ p.2) (w3 : jW (jKd g) Γ q.2) (ha : Γ (x + 40 + 1) = some 21) : eqS x nx r L W q.2 := by
  have C := FC_X11_span_0 (cls_of E).1 e1
  have M2 := cls_m E C
  exact eq_Q E C (FQ_X12_span M2 e2) (by decide) (by decide) (FZ_X12_span e2) (wr_w w2 w3 ha (BQ_X12_span e2) (WR_X12_span M2 ⟨fun _ _ _ => rfl, fun z => by cases z⟩ e2))
theorem eqq_best {x nx r L n n2 : Nat} {W : jWd} {h : jH} {p : Int32 × jH} {q : Int32 × jH} (E : eqS x nx r L W h) (e1 : F_X11_best n x h = some p) (e2 : F_X12_best n2 (x + 40) p.2 = some q) {g : jGh} {Γ : Nat → Option Nat} (w2 : jW (jKd g) Γ p.2) (w3 : jW (jKd g) Γ q.2) (ha : Γ (x + 40 + 1) = some 21) : eqS x nx r L W q.2 := by
  have C := FC_X11_best_0 (cls_of E).1 e1
  have M2 := cls_m E C
  exact eq_Q E C (FQ_X12_best M2 e2) (by decide) (by decide) (FZ_X12_best e2) (wr_w w2 w3 ha (BQ_X12_best e2) (WR_X12_best M2 ⟨fun _ _ _ => rfl, fun z => by cases z⟩ e2))
theorem eqq_fewest {x nx r L n n2 : Nat} {W : jWd} {h : jH} {yx1 : Int32} {zx1 : Int32} {p : Int32 × jH} {q : Int32 × jH} (E : eqS x nx r L W h) (e1 : F_X11_fewest n x yx1 h = some p) (e2 : F_X12_fewest n2 (x + 40) zx1 p.2 = some q) {g : jGh} {Γ : Nat → Option Nat} (w2 : jW (jKd g) Γ p.2) (w3 : jW (jKd g) Γ q.2) (ha : Γ (x + 40 + 1) = some 21) : eqS x nx r L W q.2 := by
  have C := FC_X11_fewest_0 (cls_of E).1 e1
  have M2 := cls_m E C
  exact eq_Q E C (FQ_X12_fewest M2 e2) (by decide) (by decide) (FZ_X12_fewest e2) (wr_w w2 w3 ha (BQ_X12_fewest e2) (WR_X12_fewest M2 ⟨fun _ _ _ => rfl, fun z => by cases z⟩ e2))
theorem eqq_first {x nx r L n n2 : Nat} {W : jWd} {h : jH} {yx1 : Int32} {zx1 : Int32} {p : Int32 × jH} {q : Int32 × jH} (E : eqS x nx r L W h) (e1 : F_X11_first n x yx1 h = some p) (e2 : F_X12_first n2 (x + 40) zx1 p.2 = some q) {g : jGh} {Γ : Nat → Option Nat} (w2 : jW (jKd g) Γ p.2) (w3 : jW (jKd g) Γ q.2) (ha : Γ (x + 40 + 1) = some 21) : eqS x nx r L W q.2 := by
  have C := FC_X11_first_0 (cls_of E).1 e1
  have M2 := cls_m E C
  exact eq_Q E C (FQ_X12_first M2 e2) (by decide) (by decide) (FZ_X12_first e2) (wr_w w2 w3 ha (BQ_X12_first e2) (WR_X12_first M2 ⟨fun _ _ _ => rfl, fun z => by cases z⟩ e2))
theorem eqq_pale {x nx r L n n2 : Nat} {W : jWd} {h : jH} {p : Int32 × jH} {q : Int32 × jH} (E : eqS x nx r L W h) (e1 : F_X11_pale n x h = some p) (e2 : F_X12_pale n2 (x + 40) p.2 = some q) {g : jGh} {Γ : Nat → Option Nat} (w2 : jW (jKd g) Γ p.2) (w3 : jW (jKd g) Γ q.2) (ha : Γ (x + 40 + 1) = some 21) : eqS x nx r L W q.2 := by
  have C := FC_X11_pale_0 (cls_of E).1 e1
  have M2 := cls_m E C
  exact eq_Q E C (FQ_X12_pale M2 e2) (by decide) (by decide) (FZ_X12_pale e2) (wr_w w2 w3 ha (BQ_X12_pale e2) (WR_X12_pale M2 ⟨fun _ _ _ => rfl, fun z => by cases z⟩ e2))
end
section
/-! snags and tries: they use up the tape -/
theorem wl_hi2 {g g2 : jGh} {Γ : Nat → Option Nat} {h h2 : jH} {a : Nat} (hg : g2.2.2.2.1 = g.2.2.2.1) (w : jW (jKd g) Γ h) (w2 : jW (jKd g2) Γ h2) (ha : Γ a = some 21) (B : jbq h h2) {k : Nat} (hk : 435 ≤ k) : oi (oc h2) a k = oi (oc h) a k := by
  obtain ⟨f, e1, p1⟩ := t_arr (t := 0) (N := 2133) (R := fun k x => jRw g k x) w ha rfl
  obtain ⟨f2, e2, p2⟩ := t_arr (t := 0) (N := 2133) (R := fun k x => jRw g2 k x) w2 ha rfl
  obtain ⟨f3, e3, p3⟩ := B a 0 2133 f e1
  rw [e2] at e3
  cases e3
  have q : f2 k = f k := by
    by_cases y : k < 2133
    · have y1 := (p1 k y).2
      have y2 := (p2 k y).2
      rcases y1 with y1 | y1
      · omega
      rcases y2 with y2 | y2
      · omega
      rw [hg] at y2
      exact y2.trans y1.symm
    · exact p3 k (by omega)
  unfold oi oc
  rw [e1, e2]
  show (match Value.int (f2 k) with | .int x => x | _ => 0) = (match Value.int (f k) with | .int x => x | _ => 0)
  rw [q]
def frT (x : Nat) (h h2 : jH) : Prop := (∀ a k : Nat, ¬ (qcc x a k ∨ (a = x + 1 ∧ k = 6)) → oc h2 a k = oc h a k) ∧ h2.1 = h.1 ∧ oi (oc h2) (x + 1) 6 = 0
theorem frT_w {x : Nat} {h h1 h2 : jH} {ci : Nat} (F : frK x h h1) (e : jpf ci h1 (x + 1) 6 (.int 0) = some h2) : frT x h h2 := by
  obtain ⟨q1, q2⟩ := oc_pf e
  refine ⟨fun a k z => ?_, q2.trans F.2, ?_⟩
  · rw [q1, u2_ne (by omega)]
    exact F.1 a k (fun y => z (Or.inl y))
  · rw [q1]; exact oi_eq
theorem frT_k {x : Nat} {h h1 h2 : jH} (T : frT x h h1) (F : frK x h1 h2) : frT x h h2 := by
  refine ⟨fun a k z => (F.1 a k (fun y => z (Or.inl y))).trans (T.1 a k z), F.2.trans T.2.1, ?_⟩
  rw [← T.2.2]
  unfold oi
  rw [F.1 _ _ (by unfold qcc; omega)]
theorem clsS_T {x : Nat} {h h2 : jH} (S : clsS (oc h) x) (F : frT x h h2) : clsS (oc h2) x := by
  obtain ⟨a0, a1, a8, a36, a13, ⟨u1, u2, u3, u4, u5, u6⟩, ⟨v1, v2, v3⟩, ⟨w1, w2, w3⟩, ⟨y1, y2, y3, y4, y5⟩, ⟨o0, o1, o2, o3, o4, o5⟩, ⟨k0, k1, k2, k3, k4⟩⟩ := S
  have f := F.1
  refine ⟨(f _ _ (by unfold qcc; omega)).trans a0, (f _ _ (by unfold qcc; omega)).trans a1, (f _ _ (by unfold qcc; omega)).trans a8, (f _ _ (by unfold qcc; omega)).trans a36, (f _ _ (by unfold qcc; omega)).trans a13, ⟨?_, ?_, ?_, ?_, ?_, ?_⟩, ⟨?_, ?_, ?_⟩, ⟨?_, ?_, ?_⟩, ⟨?_, ?_, ?_, ?_, ?_⟩, ⟨?_, ?_, ?_, ?_, ?_, ?_⟩, ⟨?_, ?_, ?_, ?_, ?_⟩⟩
  · exact (f _ _ (by unfold qcc; omega)).trans u1
  · exact (f _ _ (by unfold qcc; omega)).trans u2
  · exact (f _ _ (by unfold qcc; omega)).trans u3
  · exact (f _ _ (by unfold qcc; omega)).trans u4
  · exact (f _ _ (by unfold qcc; omega)).trans u5
  · exact (f _ _ (by unfold qcc; omega)).trans u6
  · exact (f _ _ (by unfold qcc; omega)).trans v1
  · exact (f _ _ (by unfold qcc; omega)).trans v2
  · exact (f _ _ (by unfold qcc; omega)).trans v3
  · exact (f _ _ (by unfold qcc; omega)).trans w1
  · exact (f _ _ (by unfold qcc; omega)).trans w2
  · exact (f _ _ (by unfold qcc; omega)).trans w3
  · exact (f _ _ (by unfold qcc; omega)).trans y1
  · exact (f _ _ (by unfold qcc; omega)).trans y2
  · exact (f _ _ (by unfold qcc; omega)).trans y3
  · exact (f _ _ (by unfold qcc; omega)).trans y4
  · exact (f _ _ (by unfold qcc; omega)).trans y5
  · exact (f _ _ (by unfold qcc; omega)).trans o0
  · exact (f _ _ (by unfold qcc; omega)).trans o1
  · exact (f _ _ (by unfold qcc; omega)).trans o2
  · exact (f _ _ (by unfold qcc; omega)).trans o3
  · exact (f _ _ (by unfold qcc; omega)).trans o4
  · exact (f _ _ (by unfold qcc; omega)).trans o5
  · exact (f _ _ (by unfold qcc; omega)).trans k0
  · exact (f _ _ (by unfold qcc; omega)).trans k1
  · exact (f _ _ (by unfold qcc; omega)).trans k2
  · exact (f _ _ (by unfold qcc; omega)).trans k3
  · exact (f _ _ (by unfold qcc; omega)).trans k4
theorem FT_readSnags {n x : Nat} {h : jH} {q : jR × jH} (M : clsS (oc h) x) (hf : F_X11_readSnags n x h = some q) : frT x h q.2 := by
  unfold F_X11_readSnags at hf
  obtain ⟨p1, e1, hf⟩ := jbind hf
  obtain ⟨p5, e2, hf⟩ := jbind hf
  obtain ⟨v8, e3, hf⟩ := jbind hf
  obtain ⟨v11, e4, hf⟩ := jbind hf
  replace hf := jite hf
  rcases hf with ⟨-, hf⟩ | ⟨-, hf⟩
  · obtain ⟨p31, e5, hf⟩ := jbind hf
    have r5 := oc_gR e5
    rw [M.1] at r5
    cases r5
    obtain ⟨h35, e6, hf⟩ := jbind hf
    have T := frT_w frK_rfl e6
    replace hf := jite hf
    rcases hf with ⟨-, hf⟩ | ⟨-, hf⟩
    · cases hf; exact T
    · cases hf; exact T
  · obtain ⟨p20, e7, hf⟩ := jbind hf
    have r7 := oc_gR e7
    rw [M.2.2.2.2.2.1.2.2.2.2.2] at r7
    cases r7
    obtain ⟨p24, e8, hf⟩ := jbind hf
    have r8 := oc_gR e8
    rw [M.2.1] at r8
    cases r8
    obtain ⟨h27, e9, hf⟩ := jbind hf
    have F := FC_X7_seekSnags_37_6 M (jcv_o e9).2
    have m := clsS_fr M F
    obtain ⟨p31, e5, hf⟩ := jbind hf
    have r5 := oc_gR e5
    rw [m.1] at r5
    cases r5
    obtain ⟨h35, e6, hf⟩ := jbind hf
    have T := frT_w F e6
    replace hf := jite hf
    rcases hf with ⟨-, hf⟩ | ⟨-, hf⟩
    · cases hf; exact T
    · cases hf; exact T
theorem FT_snags {n x : Nat} {y : Int32} {h : jH} {q : jR × jH} (M : clsS (oc h) x) (hf : F_X11_snags n x y h = some q) : frT x h q.2 := by
  unfold F_X11_snags at hf
  obtain ⟨q1, e1, hf⟩ := jbind hf
  have T := FT_readSnags M (jcv_o e1).2
  obtain ⟨r1, h1⟩ := q1
  rcases r1 with r1 | r1
  · replace hf := jthL hf
    replace hf := jite hf
    rcases hf with ⟨-, hf⟩ | ⟨-, hf⟩
    · obtain ⟨p19, e2, hf⟩ := jbind hf
      obtain ⟨v22, e3, hf⟩ := jbind hf
      cases hf; exact T
    · obtain ⟨p19, e2, hf⟩ := jbind hf
      obtain ⟨v22, e3, hf⟩ := jbind hf
      cases hf; exact T
  · cases jthR hf; exact T
theorem FT_tries {n x : Nat} {h : jH} {q : jR × jH} (M : clsS (oc h) x) (hf : F_X11_tries n x h = some q) : frT x h q.2 := by
  unfold F_X11_tries at hf
  obtain ⟨q1, e1, hf⟩ := jbind hf
  have T := FT_readSnags M (jcv_o e1).2
  obtain ⟨r1, h1⟩ := q1
  have m := clsS_T M T
  rcases r1 with r1 | r1
  · replace hf := jthL hf
    obtain ⟨p5, e2, hf⟩ := jbind hf
    have r2 := oc_gR e2
    rw [m.2.2.2.2.2.1.2.2.2.2.2] at r2
    cases r2
    obtain ⟨p9, e3, hf⟩ := jbind hf
    have r3 := oc_gR e3
    rw [m.2.1] at r3
    cases r3
    obtain ⟨q12, e4, hf⟩ := jbind hf
    have F := FC_X7_partingPull_37_6 m (jcv_o e4).2
    cases hf
    exact frT_k T F
  · cases jthR hf; exact T
theorem U_snags {n a0 L : Nat} {z : Int32} {h : jH} {q : Int32 × jH} (M : mS (oc h) a0) (h9 : oi (oc h) a0 9 = nI L) (hf : F_X12_snags n a0 z h = some q) : oi (oc q.2) a0 9 = 0 := by
  unfold F_X12_snags at hf
  obtain ⟨h1, e1, hf⟩ := jbind hf
  obtain ⟨-, u9, -, -, F, -⟩ := E_X12_uses h9 (jcv_o e1).2
  have m := mS_fr M F (by decide) (by decide)
  obtain ⟨v6, e2, hf⟩ := jbind hf
  replace hf := jite hf
  rcases hf with ⟨-, hf⟩ | ⟨-, hf⟩
  · rw [frM_oi (FQ_X12_snags_17 rfl m hf) (by decide) (by decide)]; exact u9
  · rw [frM_oi (FQ_X12_snags_17 rfl m hf) (by decide) (by decide)]; exact u9
theorem U_tries {n a0 L : Nat} {h : jH} {q : Int32 × jH} (M : mS (oc h) a0) (h9 : oi (oc h) a0 9 = nI L) (hf : F_X12_tries n a0 h = some q) : oi (oc q.2) a0 9 = 0 := by
  unfold F_X12_tries at hf
  obtain ⟨h1, e1, hf⟩ := jbind hf
  obtain ⟨-, u9, -, -, F, -⟩ := E_X12_uses h9 (jcv_o e1).2
  have m := mS_fr M F (by decide) (by decide)
  obtain ⟨v6, e2, hf⟩ := jbind hf
  replace hf := jite hf
  rcases hf with ⟨-, hf⟩ | ⟨-, hf⟩
  · rw [frM_oi (FQ_X12_tries_17 rfl m hf) (by decide) (by decide)]; exact u9
  · rw [frM_oi (FQ_X12_tries_17 rfl m hf) (by decide) (by decide)]; exact u9
theorem cls_mT {x nx r L : Nat} {W : jWd} {h h2 : jH} (E : eqS x nx r L W h) (C : frT x h h2) : mS (oc h2) (x + 40) := by
  obtain ⟨s1, s2, s3, s4, s5, s8, s15, s17, s19, s20, s21⟩ := (cls_of E).2
  have k : ∀ k : Nat, oc h2 (x + 40) k = oc h (x + 40) k := fun k => C.1 _ _ (by unfold qcc; omega)
  exact ⟨(k _).trans s1, (k _).trans s2, (k _).trans s3, (k _).trans s4, (k _).trans s5, (k _).trans s8, (k _).trans s15, (k _).trans s17, (k _).trans s19, (k _).trans s20, (k _).trans s21⟩
theorem eq_QT {x nx r L : Nat} {W : jWd} {h h2 h3 : jH} {cs fs : List Nat} (E : eqS x nx r L W h) (C : frT x h h2) (F : frM (x + 40) cs fs (oc h2) (oc h3)) (hc : ∀ c ∈ cs, c = 1 ∨ c = 4 ∨ (8 ≤ c ∧ c ≤ 11)) (hf : ∀ k ∈ fs, k = 0 ∨ k = 9 ∨ k = 10 ∨ k = 11 ∨ k = 18) (hz : h3.1 = h2.1) (hw : ∀ k : Nat, oi (oc h3) (x + 41) k = oi (oc h2) (x + 41) k) (h9 : oi (oc h3) (x + 40) 9 = 0) : eqS x nx r 0 W h3 := by
  refine eq_qry E (fun a k z => ?_) (by rw [hz, C.2.1]; omega) ?_ ⟨?_, h9, by omega⟩
  · exact (F a k (fun c hc2 e => by have := hc c hc2; unfold qrc at z; omega) (fun e hk => by have := hf k hk; unfold qrc at z; omega)).trans (C.1 a k (by unfold qcc; unfold qrc at z; omega))
  · rw [← E.2.2.1.2.1]
    funext k
    refine (hw k).trans ?_
    show oi _ _ _ = oi _ _ _
    unfold oi
    rw [C.1 _ _ (by unfold qcc; omega)]
  · have e : oc h3 (x + 1) 6 = oc h2 (x + 1) 6 := F _ _ (fun c hc2 e => by omega) (fun e => by omega)
    have c := C.2.2
    unfold oi at c ⊢
    rw [e]; exact c
theorem wr_w2 {g g2 : jGh} {Γ : Nat → Option Nat} {h h2 : jH} {m : Nat} (hg : g2.2.2.2.1 = g.2.2.2.1) (w : jW (jKd g) Γ h) (w2 : jW (jKd g2) Γ h2) (ha : Γ (m + 1) = some 21) (B : jbq h h2) {t : Bool} (K : wK true t m (wl (oc h) m) (oc h2)) (k : Nat) : oi (oc h2) (m + 1) k = oi (oc h) (m + 1) k := by
  by_cases y : k < 435
  · exact K.1 rfl k y
  · exact wl_hi2 hg w w2 ha B (by omega)
theorem h9_T {x nx r L : Nat} {W : jWd} {h h2 : jH} (E : eqS x nx r L W h) (C : frT x h h2) : oi (oc h2) (x + 40) 9 = nI L := by
  rw [← E.2.2.2.2.1]
  unfold oi
  rw [C.1 _ _ (by unfold qcc; omega)]
theorem eqq_snags {x nx r L n n2 : Nat} {W : jWd} {h : jH} {y z : Int32} {p : jR × jH} {q : Int32 × jH} (E : eqS x nx r L W h) (e1 : F_X11_snags n x y h = some p) (e2 : F_X12_snags n2 (x + 40) z p.2 = some q) {g g2 : jGh} {Γ : Nat → Option Nat} (hg : g2.2.2.2.1 = g.2.2.2.1) (w2 : jW (jKd g) Γ p.2) (w3 : jW (jKd g2) Γ q.2) (ha : Γ (x + 40 + 1) = some 21) : eqS x nx r 0 W q.2 := by
  have C := FT_snags (cls_of E).1 e1
  have M2 := cls_mT E C
  exact eq_QT E C (FQ_X12_snags M2 e2) (by decide) (by decide) (FZ_X12_snags e2) (wr_w2 hg w2 w3 ha (BQ_X12_snags e2) (WR_X12_snags M2 ⟨fun _ _ _ => rfl, fun z => by cases z⟩ e2)) (U_snags M2 (h9_T E C) e2)
theorem eqq_tries {x nx r L n n2 : Nat} {W : jWd} {h : jH} {p : jR × jH} {q : Int32 × jH} (E : eqS x nx r L W h) (e1 : F_X11_tries n x h = some p) (e2 : F_X12_tries n2 (x + 40) p.2 = some q) {g g2 : jGh} {Γ : Nat → Option Nat} (hg : g2.2.2.2.1 = g.2.2.2.1) (w2 : jW (jKd g) Γ p.2) (w3 : jW (jKd g2) Γ q.2) (ha : Γ (x + 40 + 1) = some 21) : eqS x nx r 0 W q.2 := by
  have C := FT_tries (cls_of E).1 e1
  have M2 := cls_mT E C
  exact eq_QT E C (FQ_X12_tries M2 e2) (by decide) (by decide) (FZ_X12_tries e2) (wr_w2 hg w2 w3 ha (BQ_X12_tries e2) (WR_X12_tries M2 ⟨fun _ _ _ => rfl, fun z => by cases z⟩ e2)) (U_tries M2 (h9_T E C) e2)
end
section
/-! the law's own cells: what it writes to its long row does not show -/
theorem oc_asl {h h2 : jH} {a : Nat} {i : Int32} {v : Int64} (e : jasl h a i v = some h2) : oc h2 = oc h ∧ h2.1 = h.1 := by
  obtain ⟨n, f, e1, -, rfl⟩ := jasl_o e
  refine ⟨funext fun b => funext fun j => ?_, rfl⟩
  by_cases hb : b = a
  · subst hb
    unfold oc
    rw [e1]
    have e2 : (jup h b (.inr (.inr (.inr (n, vp_updL f i.toNatClampNeg v))))).2 b = some (.inr (.inr (.inr (n, vp_updL f i.toNatClampNeg v)))) := by
      show (if b = b then some _ else h.2 b) = _
      rw [if_pos rfl]
    rw [e2]
  · unfold oc
    have e2 : (jup h a (.inr (.inr (.inr (n, vp_updL f i.toNatClampNeg v))))).2 b = h.2 b := by
      show (if b = a then some _ else h.2 b) = _
      rw [if_neg hb]
    rw [e2]
theorem eq_oc {x nx r L : Nat} {W : jWd} {h h2 : jH} (E : eqS x nx r L W h) (ho : oc h2 = oc h) (hz : h.1 ≤ h2.1) : eqS x nx r L W h2 := eq_qr0 E (fun a k _ => by rw [ho]) hz (by rw [ho]; exact E.2.2.1.2.1)
theorem eq_z {x nx r L : Nat} {W : jWd} {h : jH} (E : eqS x nx r L W h) {z : Nat} (hz : h.1 ≤ z) : eqS x nx r L W (z, h.2) := eq_oc E rfl hz
theorem FLo_pole {n : Nat} {a0 : Nat} {a1 : Nat} {h : jH} {r : Int32 × jH} (hf : FL_pole n a0 a1 h = some r) : ∃ q : jR × jH, F_X11_pole n a0 h = some q ∧ oc r.2 = oc q.2 ∧ r.2.1 = q.2.1 := by
  unfold FL_pole at hf
  obtain ⟨q, e, hf⟩ := jbind hf
  refine ⟨q, (jcv_o e).2, ?_⟩
  obtain ⟨q1, q2⟩ := q
  rcases q1 with v | k
  · obtain ⟨h2, e2, hf⟩ := jbind hf
    cases hf
    exact oc_asl e2
  · replace hf : (if k = 0 then some ((1 : Int32), q2) else if k = 3 then some ((2 : Int32), q2) else none) = some r := hf
    replace hf := jite hf
    rcases hf with ⟨-, hf⟩ | ⟨-, hf⟩
    · cases hf; exact ⟨rfl, rfl⟩
    replace hf := jite hf
    rcases hf with ⟨-, hf⟩ | ⟨-, hf⟩
    · cases hf; exact ⟨rfl, rfl⟩
    cases hf
theorem FLo_law {n : Nat} {a0 : Nat} {a1 : Nat} {h : jH} {r : Int32 × jH} (hf : FL_law n a0 a1 h = some r) : ∃ q : jR × jH, F_X11_law n a0 h = some q ∧ oc r.2 = oc q.2 ∧ r.2.1 = q.2.1 := by
  unfold FL_law at hf
  obtain ⟨q, e, hf⟩ := jbind hf
  refine ⟨q, (jcv_o e).2, ?_⟩
  obtain ⟨q1, q2⟩ := q
  rcases q1 with v | k
  · obtain ⟨h2, e2, hf⟩ := jbind hf
    cases hf
    exact oc_asl e2
  · replace hf : (if k = 0 then some ((1 : Int32), q2) else none) = some r := hf
    replace hf := jite hf
    rcases hf with ⟨-, hf⟩ | ⟨-, hf⟩
    · cases hf; exact ⟨rfl, rfl⟩
    cases hf
theorem FLo_ring {n : Nat} {a0 : Nat} {x1 : Int32} {x2 : Int32} {a3 : Nat} {h : jH} {r : Int32 × jH} (hf : FL_ring n a0 x1 x2 a3 h = some r) : ∃ q : jR × jH, F_X11_ring n a0 x1 x2 h = some q ∧ oc r.2 = oc q.2 ∧ r.2.1 = q.2.1 := by
  unfold FL_ring at hf
  obtain ⟨q, e, hf⟩ := jbind hf
  refine ⟨q, (jcv_o e).2, ?_⟩
  obtain ⟨q1, q2⟩ := q
  rcases q1 with v | k
  · obtain ⟨h2, e2, hf⟩ := jbind hf
    cases hf
    exact oc_asl e2
  · replace hf : (if k = 2 then some ((1 : Int32), q2) else if k = 4 then some ((2 : Int32), q2) else none) = some r := hf
    replace hf := jite hf
    rcases hf with ⟨-, hf⟩ | ⟨-, hf⟩
    · cases hf; exact ⟨rfl, rfl⟩
    replace hf := jite hf
    rcases hf with ⟨-, hf⟩ | ⟨-, hf⟩
    · cases hf; exact ⟨rfl, rfl⟩
    cases hf
theorem FLo_pull {n : Nat} {a0 : Nat} {x1 : Int32} {x2 : Int32} {x3 : Int32} {a4 : Nat} {h : jH} {r : Int32 × jH} (hf : FL_pull n a0 x1 x2 x3 a4 h = some r) : ∃ q : jR × jH, F_X11_pull n a0 x1 x2 x3 h = some q ∧ oc r.2 = oc q.2 ∧ r.2.1 = q.2.1 := by
  unfold FL_pull at hf
  obtain ⟨q, e, hf⟩ := jbind hf
  refine ⟨q, (jcv_o e).2, ?_⟩
  obtain ⟨q1, q2⟩ := q
  rcases q1 with v | k
  · obtain ⟨h2, e2, hf⟩ := jbind hf
    cases hf
    exact oc_asl e2
  · replace hf : (if k = 2 then some ((1 : Int32), q2) else if k = 0 then some ((2 : Int32), q2) else none) = some r := hf
    replace hf := jite hf
    rcases hf with ⟨-, hf⟩ | ⟨-, hf⟩
    · cases hf; exact ⟨rfl, rfl⟩
    replace hf := jite hf
    rcases hf with ⟨-, hf⟩ | ⟨-, hf⟩
    · cases hf; exact ⟨rfl, rfl⟩
    cases hf
theorem FLo_free {n : Nat} {a0 : Nat} {x1 : Int32} {a2 : Nat} {h : jH} {r : Int32 × jH} (hf : FL_free n a0 x1 a2 h = some r) : ∃ q : jR × jH, F_X11_free n a0 x1 h = some q ∧ oc r.2 = oc q.2 ∧ r.2.1 = q.2.1 := by
  unfold FL_free at hf
  obtain ⟨q, e, hf⟩ := jbind hf
  refine ⟨q, (jcv_o e).2, ?_⟩
  obtain ⟨q1, q2⟩ := q
  rcases q1 with v | k
  · obtain ⟨h2, e2, hf⟩ := jbind hf
    cases hf
    exact oc_asl e2
  · replace hf : (if k = 2 then some ((1 : Int32), q2) else if k = 1 then some ((2 : Int32), q2) else none) = some r := hf
    replace hf := jite hf
    rcases hf with ⟨-, hf⟩ | ⟨-, hf⟩
    · cases hf; exact ⟨rfl, rfl⟩
    replace hf := jite hf
    rcases hf with ⟨-, hf⟩ | ⟨-, hf⟩
    · cases hf; exact ⟨rfl, rfl⟩
    cases hf
theorem FLo_snag {n : Nat} {a0 : Nat} {x1 : Int32} {a2 : Nat} {h : jH} {r : Int32 × jH} (hf : FL_snag n a0 x1 a2 h = some r) : ∃ q : jR × jH, F_X11_snag n a0 x1 h = some q ∧ oc r.2 = oc q.2 ∧ r.2.1 = q.2.1 := by
  unfold FL_snag at hf
  obtain ⟨q, e, hf⟩ := jbind hf
  refine ⟨q, (jcv_o e).2, ?_⟩
  obtain ⟨q1, q2⟩ := q
  rcases q1 with v | k
  · obtain ⟨h2, e2, hf⟩ := jbind hf
    cases hf
    exact oc_asl e2
  · replace hf : (if k = 2 then some ((1 : Int32), q2) else if k = 1 then some ((2 : Int32), q2) else none) = some r := hf
    replace hf := jite hf
    rcases hf with ⟨-, hf⟩ | ⟨-, hf⟩
    · cases hf; exact ⟨rfl, rfl⟩
    replace hf := jite hf
    rcases hf with ⟨-, hf⟩ | ⟨-, hf⟩
    · cases hf; exact ⟨rfl, rfl⟩
    cases hf
theorem FLo_hook {n : Nat} {a0 : Nat} {x1 : Int32} {x2 : Int32} {a3 : Nat} {h : jH} {r : Int32 × jH} (hf : FL_hook n a0 x1 x2 a3 h = some r) : ∃ q : jR × jH, F_X11_hook n a0 x1 x2 h = some q ∧ oc r.2 = oc q.2 ∧ r.2.1 = q.2.1 := by
  unfold FL_hook at hf
  obtain ⟨q, e, hf⟩ := jbind hf
  refine ⟨q, (jcv_o e).2, ?_⟩
  obtain ⟨q1, q2⟩ := q
  rcases q1 with v | k
  · obtain ⟨h2, e2, hf⟩ := jbind hf
    cases hf
    exact oc_asl e2
  · replace hf : (if k = 2 then some ((1 : Int32), q2) else none) = some r := hf
    replace hf := jite hf
    rcases hf with ⟨-, hf⟩ | ⟨-, hf⟩
    · cases hf; exact ⟨rfl, rfl⟩
    cases hf
theorem FLo_sew {n : Nat} {a0 : Nat} {x1 : Int32} {x2 : Int32} {a3 : Nat} {h : jH} {r : Int32 × jH} (hf : FL_sew n a0 x1 x2 a3 h = some r) : ∃ q : jR × jH, F_X11_sew n a0 x1 x2 h = some q ∧ oc r.2 = oc q.2 ∧ r.2.1 = q.2.1 := by
  unfold FL_sew at hf
  obtain ⟨q, e, hf⟩ := jbind hf
  refine ⟨q, (jcv_o e).2, ?_⟩
  obtain ⟨q1, q2⟩ := q
  rcases q1 with v | k
  · obtain ⟨h2, e2, hf⟩ := jbind hf
    cases hf
    exact oc_asl e2
  · replace hf : (if k = 2 then some ((1 : Int32), q2) else if k = 0 then some ((2 : Int32), q2) else if k = 1 then some ((3 : Int32), q2) else none) = some r := hf
    replace hf := jite hf
    rcases hf with ⟨-, hf⟩ | ⟨-, hf⟩
    · cases hf; exact ⟨rfl, rfl⟩
    replace hf := jite hf
    rcases hf with ⟨-, hf⟩ | ⟨-, hf⟩
    · cases hf; exact ⟨rfl, rfl⟩
    replace hf := jite hf
    rcases hf with ⟨-, hf⟩ | ⟨-, hf⟩
    · cases hf; exact ⟨rfl, rfl⟩
    cases hf
theorem FLo_let {n : Nat} {a0 : Nat} {x1 : Int32} {x2 : Int32} {a3 : Nat} {h : jH} {r : Int32 × jH} (hf : FL_let n a0 x1 x2 a3 h = some r) : ∃ q : jR × jH, F_X11_let n a0 x1 x2 h = some q ∧ oc r.2 = oc q.2 ∧ r.2.1 = q.2.1 := by
  unfold FL_let at hf
  obtain ⟨q, e, hf⟩ := jbind hf
  refine ⟨q, (jcv_o e).2, ?_⟩
  obtain ⟨q1, q2⟩ := q
  rcases q1 with v | k
  · obtain ⟨h2, e2, hf⟩ := jbind hf
    cases hf
    exact oc_asl e2
  · replace hf : (if k = 2 then some ((1 : Int32), q2) else if k = 0 then some ((2 : Int32), q2) else none) = some r := hf
    replace hf := jite hf
    rcases hf with ⟨-, hf⟩ | ⟨-, hf⟩
    · cases hf; exact ⟨rfl, rfl⟩
    replace hf := jite hf
    rcases hf with ⟨-, hf⟩ | ⟨-, hf⟩
    · cases hf; exact ⟨rfl, rfl⟩
    cases hf
theorem FLo_chair {n : Nat} {a0 : Nat} {x1 : Int32} {x2 : Int32} {a3 : Nat} {h : jH} {r : Int32 × jH} (hf : FL_chair n a0 x1 x2 a3 h = some r) : ∃ q : jR × jH, F_X11_chair n a0 x1 x2 h = some q ∧ oc r.2 = oc q.2 ∧ r.2.1 = q.2.1 := by
  unfold FL_chair at hf
  obtain ⟨q, e, hf⟩ := jbind hf
  refine ⟨q, (jcv_o e).2, ?_⟩
  obtain ⟨q1, q2⟩ := q
  rcases q1 with v | k
  · obtain ⟨h2, e2, hf⟩ := jbind hf
    cases hf
    exact oc_asl e2
  · replace hf : (if k = 2 then some ((1 : Int32), q2) else none) = some r := hf
    replace hf := jite hf
    rcases hf with ⟨-, hf⟩ | ⟨-, hf⟩
    · cases hf; exact ⟨rfl, rfl⟩
    cases hf
theorem FLo_hours {n : Nat} {a0 : Nat} {x1 : Int32} {a2 : Nat} {h : jH} {r : Int32 × jH} (hf : FL_hours n a0 x1 a2 h = some r) : ∃ q : jR × jH, F_X11_hours n a0 x1 h = some q ∧ oc r.2 = oc q.2 ∧ r.2.1 = q.2.1 := by
  unfold FL_hours at hf
  obtain ⟨q, e, hf⟩ := jbind hf
  refine ⟨q, (jcv_o e).2, ?_⟩
  obtain ⟨q1, q2⟩ := q
  rcases q1 with v | k
  · obtain ⟨h2, e2, hf⟩ := jbind hf
    cases hf
    exact oc_asl e2
  · replace hf : (if k = 0 then some ((1 : Int32), q2) else none) = some r := hf
    replace hf := jite hf
    rcases hf with ⟨-, hf⟩ | ⟨-, hf⟩
    · cases hf; exact ⟨rfl, rfl⟩
    cases hf
theorem FLo_goes {n : Nat} {a0 : Nat} {x1 : Int32} {x2 : Int32} {a3 : Nat} {h : jH} {r : Int32 × jH} (hf : FL_goes n a0 x1 x2 a3 h = some r) : ∃ q : jR × jH, F_X11_goes n a0 x1 x2 h = some q ∧ oc r.2 = oc q.2 ∧ r.2.1 = q.2.1 := by
  unfold FL_goes at hf
  obtain ⟨q, e, hf⟩ := jbind hf
  refine ⟨q, (jcv_o e).2, ?_⟩
  obtain ⟨q1, q2⟩ := q
  rcases q1 with v | k
  · obtain ⟨h2, e2, hf⟩ := jbind hf
    cases hf
    exact oc_asl e2
  · replace hf : (if k = 2 then some ((1 : Int32), q2) else none) = some r := hf
    replace hf := jite hf
    rcases hf with ⟨-, hf⟩ | ⟨-, hf⟩
    · cases hf; exact ⟨rfl, rfl⟩
    cases hf
theorem FLo_with {n : Nat} {a0 : Nat} {x1 : Int32} {x2 : Int32} {a3 : Nat} {h : jH} {r : Int32 × jH} (hf : FL_with n a0 x1 x2 a3 h = some r) : ∃ q : jR × jH, F_X11_with n a0 x1 x2 h = some q ∧ oc r.2 = oc q.2 ∧ r.2.1 = q.2.1 := by
  unfold FL_with at hf
  obtain ⟨q, e, hf⟩ := jbind hf
  refine ⟨q, (jcv_o e).2, ?_⟩
  obtain ⟨q1, q2⟩ := q
  rcases q1 with v | k
  · obtain ⟨h2, e2, hf⟩ := jbind hf
    cases hf
    exact oc_asl e2
  · replace hf : (if k = 2 then some ((1 : Int32), q2) else none) = some r := hf
    replace hf := jite hf
    rcases hf with ⟨-, hf⟩ | ⟨-, hf⟩
    · cases hf; exact ⟨rfl, rfl⟩
    cases hf
theorem FLo_would {n : Nat} {a0 : Nat} {x1 : Int32} {x2 : Int32} {x3 : Int32} {x4 : Int32} {a5 : Nat} {h : jH} {r : Int32 × jH} (hf : FL_would n a0 x1 x2 x3 x4 a5 h = some r) : ∃ q : jR × jH, F_X11_would n a0 x1 x2 x3 x4 h = some q ∧ oc r.2 = oc q.2 ∧ r.2.1 = q.2.1 := by
  unfold FL_would at hf
  obtain ⟨q, e, hf⟩ := jbind hf
  refine ⟨q, (jcv_o e).2, ?_⟩
  obtain ⟨q1, q2⟩ := q
  rcases q1 with v | k
  · obtain ⟨h2, e2, hf⟩ := jbind hf
    cases hf
    exact oc_asl e2
  · replace hf : (if k = 2 then some ((1 : Int32), q2) else if k = 0 then some ((2 : Int32), q2) else none) = some r := hf
    replace hf := jite hf
    rcases hf with ⟨-, hf⟩ | ⟨-, hf⟩
    · cases hf; exact ⟨rfl, rfl⟩
    replace hf := jite hf
    rcases hf with ⟨-, hf⟩ | ⟨-, hf⟩
    · cases hf; exact ⟨rfl, rfl⟩
    cases hf
theorem FLo_snags {n : Nat} {a0 : Nat} {x1 : Int32} {a2 : Nat} {h : jH} {r : Int32 × jH} (hf : FL_snags n a0 x1 a2 h = some r) : ∃ q : jR × jH, F_X11_snags n a0 x1 h = some q ∧ oc r.2 = oc q.2 ∧ r.2.1 = q.2.1 := by
  unfold FL_snags at hf
  obtain ⟨q, e, hf⟩ := jbind hf
  refine ⟨q, (jcv_o e).2, ?_⟩
  obtain ⟨q1, q2⟩ := q
  rcases q1 with v | k
  · obtain ⟨h2, e2, hf⟩ := jbind hf
    cases hf
    exact oc_asl e2
  · replace hf : (if k = 0 then some ((1 : Int32), q2) else none) = some r := hf
    replace hf := jite hf
    rcases hf with ⟨-, hf⟩ | ⟨-, hf⟩
    · cases hf; exact ⟨rfl, rfl⟩
    cases hf
theorem FLo_tries {n : Nat} {a0 : Nat} {a1 : Nat} {h : jH} {r : Int32 × jH} (hf : FL_tries n a0 a1 h = some r) : ∃ q : jR × jH, F_X11_tries n a0 h = some q ∧ oc r.2 = oc q.2 ∧ r.2.1 = q.2.1 := by
  unfold FL_tries at hf
  obtain ⟨q, e, hf⟩ := jbind hf
  refine ⟨q, (jcv_o e).2, ?_⟩
  obtain ⟨q1, q2⟩ := q
  rcases q1 with v | k
  · obtain ⟨h2, e2, hf⟩ := jbind hf
    cases hf
    exact oc_asl e2
  · replace hf : (if k = 0 then some ((1 : Int32), q2) else none) = some r := hf
    replace hf := jite hf
    rcases hf with ⟨-, hf⟩ | ⟨-, hf⟩
    · cases hf; exact ⟨rfl, rfl⟩
    cases hf
theorem FLo_loosen {n : Nat} {a0 : Nat} {x1 : Int32} {x2 : Int32} {x3 : Int32} {a4 : Nat} {h : jH} {r : Int32 × jH} (hf : FL_loosen n a0 x1 x2 x3 a4 h = some r) : ∃ q : jR × jH, F_X11_loosen n a0 x1 x2 x3 h = some q ∧ oc r.2 = oc q.2 ∧ r.2.1 = q.2.1 := by
  unfold FL_loosen at hf
  obtain ⟨q, e, hf⟩ := jbind hf
  refine ⟨q, (jcv_o e).2, ?_⟩
  obtain ⟨q1, q2⟩ := q
  rcases q1 with v | k
  · obtain ⟨h2, e2, hf⟩ := jbind hf
    cases hf
    exact oc_asl e2
  · replace hf : (if k = 2 then some ((1 : Int32), q2) else if k = 0 then some ((2 : Int32), q2) else none) = some r := hf
    replace hf := jite hf
    rcases hf with ⟨-, hf⟩ | ⟨-, hf⟩
    · cases hf; exact ⟨rfl, rfl⟩
    replace hf := jite hf
    rcases hf with ⟨-, hf⟩ | ⟨-, hf⟩
    · cases hf; exact ⟨rfl, rfl⟩
    cases hf
theorem FLo_tight {n : Nat} {a0 : Nat} {x1 : Int32} {a2 : Nat} {h : jH} {r : Int32 × jH} (hf : FL_tight n a0 x1 a2 h = some r) : ∃ q : jR × jH, F_X11_tight n a0 x1 h = some q ∧ oc r.2 = oc q.2 ∧ r.2.1 = q.2.1 := by
  unfold FL_tight at hf
  obtain ⟨q, e, hf⟩ := jbind hf
  refine ⟨q, (jcv_o e).2, ?_⟩
  obtain ⟨q1, q2⟩ := q
  rcases q1 with v | k
  · obtain ⟨h2, e2, hf⟩ := jbind hf
    cases hf
    exact oc_asl e2
  · replace hf : (if k = 0 then some ((1 : Int32), q2) else none) = some r := hf
    replace hf := jite hf
    rcases hf with ⟨-, hf⟩ | ⟨-, hf⟩
    · cases hf; exact ⟨rfl, rfl⟩
    cases hf
theorem FLo_lit {n : Nat} {a0 : Nat} {x1 : Int32} {a2 : Nat} {h : jH} {r : Int32 × jH} (hf : FL_lit n a0 x1 a2 h = some r) : ∃ q : jR × jH, F_X11_lit n a0 x1 h = some q ∧ oc r.2 = oc q.2 ∧ r.2.1 = q.2.1 := by
  unfold FL_lit at hf
  obtain ⟨q, e, hf⟩ := jbind hf
  refine ⟨q, (jcv_o e).2, ?_⟩
  obtain ⟨q1, q2⟩ := q
  rcases q1 with v | k
  · obtain ⟨h2, e2, hf⟩ := jbind hf
    cases hf
    exact oc_asl e2
  · replace hf : (if k = 2 then some ((1 : Int32), q2) else none) = some r := hf
    replace hf := jite hf
    rcases hf with ⟨-, hf⟩ | ⟨-, hf⟩
    · cases hf; exact ⟨rfl, rfl⟩
    cases hf
theorem FLo_faded {n : Nat} {a0 : Nat} {x1 : Int32} {a2 : Nat} {h : jH} {r : Int32 × jH} (hf : FL_faded n a0 x1 a2 h = some r) : ∃ q : jR × jH, F_X11_faded n a0 x1 h = some q ∧ oc r.2 = oc q.2 ∧ r.2.1 = q.2.1 := by
  unfold FL_faded at hf
  obtain ⟨q, e, hf⟩ := jbind hf
  refine ⟨q, (jcv_o e).2, ?_⟩
  obtain ⟨q1, q2⟩ := q
  rcases q1 with v | k
  · obtain ⟨h2, e2, hf⟩ := jbind hf
    cases hf
    exact oc_asl e2
  · replace hf : (if k = 0 then some ((1 : Int32), q2) else none) = some r := hf
    replace hf := jite hf
    rcases hf with ⟨-, hf⟩ | ⟨-, hf⟩
    · cases hf; exact ⟨rfl, rfl⟩
    cases hf
theorem FLo_lets {n : Nat} {a0 : Nat} {x1 : Int32} {x2 : Int32} {a3 : Nat} {h : jH} {r : Int32 × jH} (hf : FL_lets n a0 x1 x2 a3 h = some r) : ∃ q : jR × jH, F_X11_lets n a0 x1 x2 h = some q ∧ oc r.2 = oc q.2 ∧ r.2.1 = q.2.1 := by
  unfold FL_lets at hf
  obtain ⟨q, e, hf⟩ := jbind hf
  refine ⟨q, (jcv_o e).2, ?_⟩
  obtain ⟨q1, q2⟩ := q
  rcases q1 with v | k
  · obtain ⟨h2, e2, hf⟩ := jbind hf
    cases hf
    exact oc_asl e2
  · replace hf : (if k = 2 then some ((1 : Int32), q2) else if k = 0 then some ((2 : Int32), q2) else none) = some r := hf
    replace hf := jite hf
    rcases hf with ⟨-, hf⟩ | ⟨-, hf⟩
    · cases hf; exact ⟨rfl, rfl⟩
    replace hf := jite hf
    rcases hf with ⟨-, hf⟩ | ⟨-, hf⟩
    · cases hf; exact ⟨rfl, rfl⟩
    cases hf
theorem FLo_rests {n : Nat} {a0 : Nat} {x1 : Int32} {a2 : Nat} {h : jH} {r : Int32 × jH} (hf : FL_rests n a0 x1 a2 h = some r) : ∃ q : jR × jH, F_X11_rests n a0 x1 h = some q ∧ oc r.2 = oc q.2 ∧ r.2.1 = q.2.1 := by
  unfold FL_rests at hf
  obtain ⟨q, e, hf⟩ := jbind hf
  refine ⟨q, (jcv_o e).2, ?_⟩
  obtain ⟨q1, q2⟩ := q
  rcases q1 with v | k
  · obtain ⟨h2, e2, hf⟩ := jbind hf
    cases hf
    exact oc_asl e2
  · replace hf : (if k = 2 then some ((1 : Int32), q2) else none) = some r := hf
    replace hf := jite hf
    rcases hf with ⟨-, hf⟩ | ⟨-, hf⟩
    · cases hf; exact ⟨rfl, rfl⟩
    cases hf
theorem FLo_odds {n : Nat} {a0 : Nat} {x1 : Int32} {x2 : Int32} {a3 : Nat} {h : jH} {r : Int32 × jH} (hf : FL_odds n a0 x1 x2 a3 h = some r) : ∃ q : jR × jH, F_X11_odds n a0 x1 x2 h = some q ∧ oc r.2 = oc q.2 ∧ r.2.1 = q.2.1 := by
  unfold FL_odds at hf
  obtain ⟨q, e, hf⟩ := jbind hf
  refine ⟨q, (jcv_o e).2, ?_⟩
  obtain ⟨q1, q2⟩ := q
  rcases q1 with v | k
  · obtain ⟨h2, e2, hf⟩ := jbind hf
    cases hf
    exact oc_asl e2
  · replace hf : (if k = 2 then some ((1 : Int32), q2) else if k = 0 then some ((2 : Int32), q2) else none) = some r := hf
    replace hf := jite hf
    rcases hf with ⟨-, hf⟩ | ⟨-, hf⟩
    · cases hf; exact ⟨rfl, rfl⟩
    replace hf := jite hf
    rcases hf with ⟨-, hf⟩ | ⟨-, hf⟩
    · cases hf; exact ⟨rfl, rfl⟩
    cases hf
theorem FLo_ahead {n : Nat} {a0 : Nat} {x1 : Int32} {x2 : Int32} {a3 : Nat} {h : jH} {r : Int32 × jH} (hf : FL_ahead n a0 x1 x2 a3 h = some r) : ∃ q : jR × jH, F_X11_ahead n a0 x1 x2 h = some q ∧ oc r.2 = oc q.2 ∧ r.2.1 = q.2.1 := by
  unfold FL_ahead at hf
  obtain ⟨q, e, hf⟩ := jbind hf
  refine ⟨q, (jcv_o e).2, ?_⟩
  obtain ⟨q1, q2⟩ := q
  rcases q1 with v | k
  · obtain ⟨h2, e2, hf⟩ := jbind hf
    cases hf
    exact oc_asl e2
  · replace hf : (if k = 2 then some ((1 : Int32), q2) else if k = 0 then some ((2 : Int32), q2) else none) = some r := hf
    replace hf := jite hf
    rcases hf with ⟨-, hf⟩ | ⟨-, hf⟩
    · cases hf; exact ⟨rfl, rfl⟩
    replace hf := jite hf
    rcases hf with ⟨-, hf⟩ | ⟨-, hf⟩
    · cases hf; exact ⟨rfl, rfl⟩
    cases hf
theorem FLo_trial {n : Nat} {a0 : Nat} {x1 : Int32} {x2 : Int32} {a3 : Nat} {h : jH} {r : Int32 × jH} (hf : FL_trial n a0 x1 x2 a3 h = some r) : ∃ q : jR × jH, F_X11_trial n a0 x1 x2 h = some q ∧ oc r.2 = oc q.2 ∧ r.2.1 = q.2.1 := by
  unfold FL_trial at hf
  obtain ⟨q, e, hf⟩ := jbind hf
  refine ⟨q, (jcv_o e).2, ?_⟩
  obtain ⟨q1, q2⟩ := q
  rcases q1 with v | k
  · obtain ⟨h2, e2, hf⟩ := jbind hf
    cases hf
    exact oc_asl e2
  · replace hf : (if k = 0 then some ((1 : Int32), q2) else none) = some r := hf
    replace hf := jite hf
    rcases hf with ⟨-, hf⟩ | ⟨-, hf⟩
    · cases hf; exact ⟨rfl, rfl⟩
    cases hf
theorem FLo_span {n : Nat} {a0 : Nat} {x1 : Int32} {x2 : Int32} {a3 : Nat} {h : jH} {r : Int32 × jH} (hf : FL_span n a0 x1 x2 a3 h = some r) : ∃ q : jR × jH, F_X11_span n a0 x1 x2 h = some q ∧ oc r.2 = oc q.2 ∧ r.2.1 = q.2.1 := by
  unfold FL_span at hf
  obtain ⟨q, e, hf⟩ := jbind hf
  refine ⟨q, (jcv_o e).2, ?_⟩
  obtain ⟨q1, q2⟩ := q
  rcases q1 with v | k
  · obtain ⟨h2, e2, hf⟩ := jbind hf
    cases hf
    exact oc_asl e2
  · replace hf : (if k = 0 then some ((1 : Int32), q2) else none) = some r := hf
    replace hf := jite hf
    rcases hf with ⟨-, hf⟩ | ⟨-, hf⟩
    · cases hf; exact ⟨rfl, rfl⟩
    cases hf
theorem FLo_led {n : Nat} {a0 : Nat} {x1 : Int32} {x2 : Int32} {a3 : Nat} {h : jH} {r : Int32 × jH} (hf : FL_led n a0 x1 x2 a3 h = some r) : ∃ q : jR × jH, F_X11_led n a0 x1 x2 h = some q ∧ oc r.2 = oc q.2 ∧ r.2.1 = q.2.1 := by
  unfold FL_led at hf
  obtain ⟨q, e, hf⟩ := jbind hf
  refine ⟨q, (jcv_o e).2, ?_⟩
  obtain ⟨q1, q2⟩ := q
  rcases q1 with v | k
  · obtain ⟨h2, e2, hf⟩ := jbind hf
    cases hf
    exact oc_asl e2
  · replace hf : (if k = 2 then some ((1 : Int32), q2) else none) = some r := hf
    replace hf := jite hf
    rcases hf with ⟨-, hf⟩ | ⟨-, hf⟩
    · cases hf; exact ⟨rfl, rfl⟩
    cases hf
theorem FLo_log {n : Nat} {a0 : Nat} {x1 : Int32} {x2 : Int32} {a3 : Nat} {h : jH} {r : Int32 × jH} (hf : FL_log n a0 x1 x2 a3 h = some r) : ∃ q : jR × jH, F_X11_log n a0 x1 x2 h = some q ∧ oc r.2 = oc q.2 ∧ r.2.1 = q.2.1 := by
  unfold FL_log at hf
  obtain ⟨q, e, hf⟩ := jbind hf
  refine ⟨q, (jcv_o e).2, ?_⟩
  obtain ⟨q1, q2⟩ := q
  rcases q1 with v | k
  · obtain ⟨h2, e2, hf⟩ := jbind hf
    cases hf
    exact oc_asl e2
  · replace hf : (if k = 4 then some ((1 : Int32), q2) else none) = some r := hf
    replace hf := jite hf
    rcases hf with ⟨-, hf⟩ | ⟨-, hf⟩
    · cases hf; exact ⟨rfl, rfl⟩
    cases hf
end
section
/-! the calls that the law makes through its own methods: between class and reference stands what the law wrote -/
theorem rAct_oc {m r : Nat} {W2 : jWd} {h h1 p : jH} (ho : oc h1 = oc h) (D : rAct m r W2 h1 p) : rAct m r W2 h (h.1, p.2) := by
  obtain ⟨a, b, c, d, e, f, g⟩ := D
  rw [ho] at d e f
  exact ⟨a, b, c, d, e, f, rfl⟩
theorem eq_z2 {x nx r L : Nat} {W : jWd} {h1 h2 p : jH} (hz : h2.1 ≤ h1.1) (s : p.1 = h1.1) (E : eqS x nx r L W (h2.1, p.2)) : eqS x nx r L W p := eq_oc E rfl (by rw [s]; exact hz)
theorem eqz_let {x nx r L n : Nat} {W : jWd} {v w : Int32} {h : jH} {q : jR × jH} {p : Int32 × jH} (E : eqS x nx r L W h) (e1 : F_X11_let n x v w h = some q) {h1 : jH} (ho : oc h1 = oc q.2) (hz : q.2.1 ≤ h1.1) (e2 : F_X12_let n (x + 40) v w h1 = some p) : (∃ nx2 r2 W2, eqS x nx2 r2 L W2 p.2) ∧ ansE [(2, 1), (0, 2)] q.1 p.1 (oi (oc p.2) (x + 40) 0) := by
  have C := eq_pre E
  obtain ⟨⟨-, -, -, -, -, -, -, M⟩, ⟨-, -, -, n4, n5, -⟩, ⟨-, hw, K, -, LK, LB⟩, -⟩ := id E
  rcases E_X11_let C e1 with ⟨P, y, z⟩ | ⟨i, h8, hi, hi0, ⟨P, y, z⟩ | ⟨P, y, A⟩⟩
  · rw [z] at ho hz
    have E1 := eq_oc E ho hz
    obtain ⟨⟨-, -, -, -, -, -, -, M⟩, ⟨-, -, -, n4, n5, -⟩, ⟨-, hw, K, -, LK, LB⟩, -⟩ := id E1
    rcases E_X12_let M hw K n4 n5 e2 with ⟨-, y2, T⟩ | ⟨j, j8, hj, hj0, -⟩
    · exact ⟨⟨_, _, _, eq_thr E1 T⟩, Or.inr ⟨(2, 1), by simp, y, y2, T.1⟩⟩
    · exact absurd (no_ring K j8 hj hj0) P
  · rw [z] at ho hz
    have E1 := eq_oc E ho hz
    obtain ⟨⟨-, -, -, -, -, -, -, M⟩, ⟨-, -, -, n4, n5, -⟩, ⟨-, hw, K, -, LK, LB⟩, -⟩ := id E1
    rcases E_X12_let M hw K n4 n5 e2 with ⟨P2, -, -⟩ | ⟨j, j8, hj, hj0, ⟨-, y2, T⟩ | ⟨P2, -, -⟩⟩
    · exact absurd (no_ring K h8 hi hi0) P2
    · exact ⟨⟨_, _, _, eq_thr E1 T⟩, Or.inr ⟨(0, 2), by simp, y, y2, T.1⟩⟩
    · exact absurd P2 P
  · obtain ⟨M2, w2, g2⟩ := eq_mid E A
    rw [← ho] at M2 w2 g2
    rcases E_X12_let M2 w2 K g2 n5 e2 with ⟨P2, -, -⟩ | ⟨j, j8, hj, hj0, ⟨P2, -, -⟩ | ⟨-, y2, D⟩⟩
    · exact absurd (no_ring K h8 hi hi0) P2
    · exact absurd P P2
    · have ij : j = i := (nI_eq (by omega) (by omega)).mp (hj.symm.trans hi)
      subst ij
      have hl := up_law (W := W) (i := 16 + 8 * j) (x := w) ⟨by omega, by omega⟩
      exact ⟨⟨_, _, _, eq_z2 hz D.2.2.2.2.2.2 (eq_act E A (rAct_oc ho D) (wOK_ln K P) hl (lawK_cg LK hl) (lawB_cg LB hl))⟩, Or.inl ⟨by rw [y, y2], D.1⟩⟩
theorem eqz_hook {x nx r L n : Nat} {W : jWd} {v w : Int32} {h : jH} {q : jR × jH} {p : Int32 × jH} (hw2 : w = 0 ∨ w = 1) (E : eqS x nx r L W h) (e1 : F_X11_hook n x v w h = some q) {h1 : jH} (ho : oc h1 = oc q.2) (hz : q.2.1 ≤ h1.1) (e2 : F_X12_hook n (x + 40) v w h1 = some p) : (∃ nx2 r2 W2, eqS x nx2 r2 L W2 p.2) ∧ ansE [(2, 1)] q.1 p.1 (oi (oc p.2) (x + 40) 0) := by
  have C := eq_pre E
  obtain ⟨⟨-, -, -, -, -, -, -, M⟩, ⟨-, -, -, n4, n5, -⟩, ⟨-, hw, K, -, LK, LB⟩, -⟩ := id E
  rcases E_X11_hook C hw2 e1 with ⟨P, y, z⟩ | ⟨i, h8, hi, hi0, y, A⟩
  · rw [z] at ho hz
    have E1 := eq_oc E ho hz
    obtain ⟨⟨-, -, -, -, -, -, -, M⟩, ⟨-, -, -, n4, n5, -⟩, ⟨-, hw, K, -, LK, LB⟩, -⟩ := id E1
    rcases E_X12_hook M hw K n4 n5 hw2 e2 with ⟨-, y2, T⟩ | ⟨j, j8, hj, hj0, -⟩
    · exact ⟨⟨_, _, _, eq_thr E1 T⟩, Or.inr ⟨(2, 1), by simp, y, y2, T.1⟩⟩
    · exact absurd (no_ring K j8 hj hj0) P
  · obtain ⟨M2, w2, g2⟩ := eq_mid E A
    rw [← ho] at M2 w2 g2
    rcases E_X12_hook M2 w2 K g2 n5 hw2 e2 with ⟨P2, -, -⟩ | ⟨j, j8, hj, hj0, y2, D⟩
    · exact absurd (no_ring K h8 hi hi0) P2
    · have ij : j = i := (nI_eq (by omega) (by omega)).mp (hj.symm.trans hi)
      subst ij
      have hl := up_law (W := W) (i := 17 + 8 * j) (x := w) ⟨by omega, by omega⟩
      exact ⟨⟨_, _, _, eq_z2 hz D.2.2.2.2.2.2 (eq_act E A (rAct_oc ho D) (wOK_hk K hw2) hl (lawK_cg LK hl) (lawB_cg LB hl))⟩, Or.inl ⟨by rw [y, y2], D.1⟩⟩
theorem eqz_chair {x nx r L n : Nat} {W : jWd} {v w : Int32} {h : jH} {q : jR × jH} {p : Int32 × jH} (hw2 : w = 0 ∨ w = 1) (E : eqS x nx r L W h) (e1 : F_X11_chair n x v w h = some q) {h1 : jH} (ho : oc h1 = oc q.2) (hz : q.2.1 ≤ h1.1) (e2 : F_X12_chair n (x + 40) v w h1 = some p) : (∃ nx2 r2 W2, eqS x nx2 r2 L W2 p.2) ∧ ansE [(2, 1)] q.1 p.1 (oi (oc p.2) (x + 40) 0) := by
  have C := eq_pre E
  obtain ⟨⟨-, -, -, -, -, -, -, M⟩, ⟨-, -, -, n4, n5, -⟩, ⟨-, hw, K, -, LK, LB⟩, -⟩ := id E
  have pl : ∀ i : Nat, i < 32 → v = nI i → 0 ≤ v.toInt ∧ v.toInt ≤ 31 := fun i h1 h2 => by rw [h2, nI_toInt (by omega)]; omega
  rcases E_X11_chair C e1 with ⟨P, y, z⟩ | ⟨i, h8, hi, y, A⟩
  · rw [z] at ho hz
    have E1 := eq_oc E ho hz
    obtain ⟨⟨-, -, -, -, -, -, -, M⟩, ⟨-, -, -, n4, n5, -⟩, ⟨-, hw, K, -, LK, LB⟩, -⟩ := id E1
    rcases E_X12_chair M hw K n4 n5 hw2 e2 with ⟨-, y2, T⟩ | ⟨j, j8, hj, -⟩
    · exact ⟨⟨_, _, _, eq_thr E1 T⟩, Or.inr ⟨(2, 1), by simp, y, y2, T.1⟩⟩
    · exact absurd (pl j j8 hj) P
  · obtain ⟨M2, w2, g2⟩ := eq_mid E A
    rw [← ho] at M2 w2 g2
    rcases E_X12_chair M2 w2 K g2 n5 hw2 e2 with ⟨P2, -, -⟩ | ⟨j, j8, hj, y2, D⟩
    · exact absurd (pl i h8 hi) P2
    · have ij : j = i := (nI_eq (by omega) (by omega)).mp (hj.symm.trans hi)
      subst ij
      have hl := up_law (W := W) (i := 7) (x := chV (W 7) j w) ⟨by omega, by omega⟩
      exact ⟨⟨_, _, _, eq_z2 hz D.2.2.2.2.2.2 (eq_act E A (rAct_oc ho D) (wOK_7 K) hl (lawK_cg LK hl) (lawB_cg LB hl))⟩, Or.inl ⟨by rw [y, y2], D.1⟩⟩
theorem eqz_free {x nx r L n : Nat} {W : jWd} {v : Int32} {h : jH} {q : jR × jH} {p : Int32 × jH} (E : eqS x nx r L W h) (e1 : F_X11_free n x v h = some q) {h1 : jH} (ho : oc h1 = oc q.2) (hz : q.2.1 ≤ h1.1) (e2 : F_X12_free n (x + 40) v h1 = some p) : (∃ nx2 r2 W2, eqS x nx2 r2 L W2 p.2) ∧ ansE [(2, 1), (1, 2)] q.1 p.1 (oi (oc p.2) (x + 40) 0) := by
  have C := eq_pre E
  obtain ⟨⟨-, -, -, -, -, -, -, M⟩, ⟨-, -, -, n4, n5, -⟩, ⟨-, hw, K, -, LK, LB⟩, -⟩ := id E
  rcases E_X11_free C e1 with ⟨P, y, z⟩ | ⟨i, h8, hi, hi0, ⟨P, y, z⟩ | ⟨P, P3, y, A⟩⟩
  · rw [z] at ho hz
    have E1 := eq_oc E ho hz
    obtain ⟨⟨-, -, -, -, -, -, -, M⟩, ⟨-, -, -, n4, n5, -⟩, ⟨-, hw, K, -, LK, LB⟩, -⟩ := id E1
    rcases E_X12_free M hw K n4 n5 e2 with ⟨-, y2, T⟩ | ⟨j, j8, hj, hj0, -⟩
    · exact ⟨⟨_, _, _, eq_thr E1 T⟩, Or.inr ⟨(2, 1), by simp, y, y2, T.1⟩⟩
    · exact absurd (no_ring K j8 hj hj0) P
  · rw [z] at ho hz
    have E1 := eq_oc E ho hz
    obtain ⟨⟨-, -, -, -, -, -, -, M⟩, ⟨-, -, -, n4, n5, -⟩, ⟨-, hw, K, -, LK, LB⟩, -⟩ := id E1
    rcases E_X12_free M hw K n4 n5 e2 with ⟨P2, -, -⟩ | ⟨j, j8, hj, hj0, ⟨-, y2, T⟩ | ⟨P2, -, -, -⟩⟩
    · exact absurd (no_ring K h8 hi hi0) P2
    · exact ⟨⟨_, _, _, eq_thr E1 T⟩, Or.inr ⟨(1, 2), by simp, y, y2, T.1⟩⟩
    · have ij : j = i := (nI_eq (by omega) (by omega)).mp (hj.symm.trans hi)
      subst ij
      exact absurd P P2
  · obtain ⟨M2, w2, g2⟩ := eq_mid E A
    rw [← ho] at M2 w2 g2
    rcases E_X12_free M2 w2 K g2 n5 e2 with ⟨P2, -, -⟩ | ⟨j, j8, hj, hj0, ⟨P2, -, -⟩ | ⟨-, -, y2, D⟩⟩
    · exact absurd (no_ring K h8 hi hi0) P2
    · have ij : j = i := (nI_eq (by omega) (by omega)).mp (hj.symm.trans hi)
      subst ij
      exact absurd P2 P
    · have ij : j = i := (nI_eq (by omega) (by omega)).mp (hj.symm.trans hi)
      subst ij
      have hl := up_law (W := W) (i := 18 + 8 * j) (x := 0) ⟨by omega, by omega⟩
      exact ⟨⟨_, _, _, eq_z2 hz D.2.2.2.2.2.2 (eq_act E A (rAct_oc ho D) (wOK_ct K (Or.inl rfl)) hl (lawK_cg LK hl) (lawB_cg LB hl))⟩, Or.inl ⟨by rw [y, y2], D.1⟩⟩
theorem eqz_snag {x nx r L n : Nat} {W : jWd} {v : Int32} {h : jH} {q : jR × jH} {p : Int32 × jH} (E : eqS x nx r L W h) (e1 : F_X11_snag n x v h = some q) {h1 : jH} (ho : oc h1 = oc q.2) (hz : q.2.1 ≤ h1.1) (e2 : F_X12_snag n (x + 40) v h1 = some p) : (∃ nx2 r2 W2, eqS x nx2 r2 L W2 p.2) ∧ ansE [(2, 1), (1, 2)] q.1 p.1 (oi (oc p.2) (x + 40) 0) := by
  have C := eq_pre E
  obtain ⟨⟨-, -, -, -, -, -, -, M⟩, ⟨-, -, -, n4, n5, -⟩, ⟨-, hw, K, -, LK, LB⟩, -⟩ := id E
  rcases E_X11_snag C e1 with ⟨P, y, z⟩ | ⟨i, h8, hi, hi0, ⟨P, y, z⟩ | ⟨P, P3, y, A⟩⟩
  · rw [z] at ho hz
    have E1 := eq_oc E ho hz
    obtain ⟨⟨-, -, -, -, -, -, -, M⟩, ⟨-, -, -, n4, n5, -⟩, ⟨-, hw, K, -, LK, LB⟩, -⟩ := id E1
    rcases E_X12_snag M hw K n4 n5 e2 with ⟨-, y2, T⟩ | ⟨j, j8, hj, hj0, -⟩
    · exact ⟨⟨_, _, _, eq_thr E1 T⟩, Or.inr ⟨(2, 1), by simp, y, y2, T.1⟩⟩
    · exact absurd (no_ring K j8 hj hj0) P
  · rw [z] at ho hz
    have E1 := eq_oc E ho hz
    obtain ⟨⟨-, -, -, -, -, -, -, M⟩, ⟨-, -, -, n4, n5, -⟩, ⟨-, hw, K, -, LK, LB⟩, -⟩ := id E1
    rcases E_X12_snag M hw K n4 n5 e2 with ⟨P2, -, -⟩ | ⟨j, j8, hj, hj0, ⟨-, y2, T⟩ | ⟨P2, -, -, -⟩⟩
    · exact absurd (no_ring K h8 hi hi0) P2
    · exact ⟨⟨_, _, _, eq_thr E1 T⟩, Or.inr ⟨(1, 2), by simp, y, y2, T.1⟩⟩
    · have ij : j = i := (nI_eq (by omega) (by omega)).mp (hj.symm.trans hi)
      subst ij
      exact absurd P P2
  · obtain ⟨M2, w2, g2⟩ := eq_mid E A
    rw [← ho] at M2 w2 g2
    rcases E_X12_snag M2 w2 K g2 n5 e2 with ⟨P2, -, -⟩ | ⟨j, j8, hj, hj0, ⟨P2, -, -⟩ | ⟨-, -, y2, D⟩⟩
    · exact absurd (no_ring K h8 hi hi0) P2
    · have ij : j = i := (nI_eq (by omega) (by omega)).mp (hj.symm.trans hi)
      subst ij
      exact absurd P2 P
    · have ij : j = i := (nI_eq (by omega) (by omega)).mp (hj.symm.trans hi)
      subst ij
      have hl := up_law (W := W) (i := 18 + 8 * j) (x := 1) ⟨by omega, by omega⟩
      exact ⟨⟨_, _, _, eq_z2 hz D.2.2.2.2.2.2 (eq_act E A (rAct_oc ho D) (wOK_ct K (Or.inr ⟨rfl, P3⟩)) hl (lawK_cg LK hl) (lawB_cg LB hl))⟩, Or.inl ⟨by rw [y, y2], D.1⟩⟩
theorem eqz_pull {x nx r L n : Nat} {W : jWd} {d : Bool} {v s w : Int32} {h : jH} {q : jR × jH} {p : Int32 × jH} (hd : s = dI d) (E : eqS x nx r L W h) (e1 : F_X11_pull n x v s w h = some q) {h1 : jH} (ho : oc h1 = oc q.2) (hz : q.2.1 ≤ h1.1) (e2 : F_X12_pull n (x + 40) v s w h1 = some p) : (∃ nx2 r2 W2, eqS x nx2 r2 L W2 p.2) ∧ ansE [(2, 1), (0, 2)] q.1 p.1 (oi (oc p.2) (x + 40) 0) := by
  have C := eq_pre E
  obtain ⟨⟨-, -, -, -, -, -, -, M⟩, ⟨-, -, -, n4, n5, -⟩, ⟨-, hw, K, -, LK, LB⟩, -⟩ := id E
  have st : ∀ N : Nat, N < 32 → 1 ≤ N → w = nI N → 1 ≤ w.toInt ∧ w.toInt ≤ 31 := fun i h1 h2 h3 => by rw [h3, nI_toInt (by omega)]; omega
  rcases E_X11_pull C hd e1 with ⟨P, y, z⟩ | ⟨i, h8, hi, hi0, ⟨P, y, z⟩ | ⟨N, f, hN, hN1, h3, F, y, K3, A⟩⟩
  · rw [z] at ho hz
    have E1 := eq_oc E ho hz
    obtain ⟨⟨-, -, -, -, -, -, -, M⟩, ⟨-, -, -, n4, n5, -⟩, ⟨-, hw, K, -, LK, LB⟩, -⟩ := id E1
    rcases E_X12_pull M hw K n4 n5 hd e2 with ⟨-, y2, T⟩ | ⟨j, j8, hj, hj0, -⟩
    · exact ⟨⟨_, _, _, eq_thr E1 T⟩, Or.inr ⟨(2, 1), by simp, y, y2, T.1⟩⟩
    · exact absurd (no_ring K j8 hj hj0) P
  · rw [z] at ho hz
    have E1 := eq_oc E ho hz
    obtain ⟨⟨-, -, -, -, -, -, -, M⟩, ⟨-, -, -, n4, n5, -⟩, ⟨-, hw, K, -, LK, LB⟩, -⟩ := id E1
    rcases E_X12_pull M hw K n4 n5 hd e2 with ⟨P2, -, -⟩ | ⟨j, j8, hj, hj0, ⟨-, y2, T⟩ | ⟨N, f, hN, hN1, h3, -⟩⟩
    · exact absurd (no_ring K h8 hi hi0) P2
    · exact ⟨⟨_, _, _, eq_thr E1 T⟩, Or.inr ⟨(0, 2), by simp, y, y2, T.1⟩⟩
    · exact absurd (st N hN hN1 h3) P
  · obtain ⟨M2, w2, g2⟩ := eq_mid E A
    rw [← ho] at M2 w2 g2
    rcases E_X12_pull M2 w2 K g2 n5 hd e2 with ⟨P2, -, -⟩ | ⟨j, j8, hj, hj0, ⟨P2, -, -⟩ | ⟨N2, f2, hN2, hN12, h32, F2, y2, D⟩⟩
    · exact absurd (no_ring K h8 hi hi0) P2
    · exact absurd (st N hN hN1 h3) P2
    · have ij : j = i := (nI_eq (by omega) (by omega)).mp (hj.symm.trans hi)
      subst ij
      have NN : N2 = N := (nI_eq (by omega) (by omega)).mp (h32.symm.trans h3)
      subst NN
      have ff := isF_u F2 F
      subst ff
      have hl := pl_law (W := W) (r := j) (i := j) (f := f2) (d := d) (x := nI j) (y := 0) (z := nI f2)
      exact ⟨⟨_, _, _, eq_z2 hz D.2.2.2.2.2.2 (eq_act E A (rAct_oc ho D) (wOK_tl K3) hl (lawK_cg LK hl) (lawB_cg LB hl))⟩, Or.inl ⟨by rw [y, y2], D.1⟩⟩
theorem eqz_sew {x nx r L n : Nat} {W : jWd} {v w : Int32} {h : jH} {q : jR × jH} {p : Int32 × jH} (E : eqS x nx r L W h) (e1 : F_X11_sew n x v w h = some q) {h1 : jH} (ho : oc h1 = oc q.2) (hz : q.2.1 ≤ h1.1) (e2 : F_X12_sew n (x + 40) v w h1 = some p) : (∃ nx2 r2 W2, eqS x nx2 r2 L W2 p.2) ∧ ansE [(2, 1), (0, 2), (1, 3)] q.1 p.1 (oi (oc p.2) (x + 40) 0) := by
  have C := eq_pre E
  obtain ⟨⟨-, -, -, -, -, -, -, M⟩, ⟨-, -, -, n4, n5, -⟩, ⟨-, hw, K, -, LK, LB⟩, -⟩ := id E
  rcases E_X11_sew C e1 with ⟨P, y, z⟩ | ⟨P, ⟨Q, y, z⟩ | ⟨Q, ⟨U, y, z⟩ | ⟨U, y, A⟩⟩⟩
  · rw [z] at ho hz
    have E1 := eq_oc E ho hz
    obtain ⟨⟨-, -, -, -, -, -, -, M⟩, ⟨-, -, -, n4, n5, -⟩, ⟨-, hw, K, -, LK, LB⟩, -⟩ := id E1
    rcases E_X12_sew M hw K n4 n5 e2 with ⟨-, y2, T⟩ | ⟨P2, -⟩
    · exact ⟨⟨_, _, _, eq_thr E1 T⟩, Or.inr ⟨(2, 1), by simp, y, y2, T.1⟩⟩
    · exact absurd P2 P
  · rw [z] at ho hz
    have E1 := eq_oc E ho hz
    obtain ⟨⟨-, -, -, -, -, -, -, M⟩, ⟨-, -, -, n4, n5, -⟩, ⟨-, hw, K, -, LK, LB⟩, -⟩ := id E1
    rcases E_X12_sew M hw K n4 n5 e2 with ⟨P2, -⟩ | ⟨-, ⟨-, y2, T⟩ | ⟨Q2, -⟩⟩
    · exact absurd P P2
    · exact ⟨⟨_, _, _, eq_thr E1 T⟩, Or.inr ⟨(0, 2), by simp, y, y2, T.1⟩⟩
    · exact absurd Q2 Q
  · rw [z] at ho hz
    have E1 := eq_oc E ho hz
    obtain ⟨⟨-, -, -, -, -, -, -, M⟩, ⟨-, -, -, n4, n5, -⟩, ⟨-, hw, K, -, LK, LB⟩, -⟩ := id E1
    rcases E_X12_sew M hw K n4 n5 e2 with ⟨P2, -⟩ | ⟨-, ⟨Q2, -⟩ | ⟨-, ⟨-, y2, T⟩ | ⟨U2, -⟩⟩⟩
    · exact absurd P P2
    · exact absurd Q Q2
    · exact ⟨⟨_, _, _, eq_thr E1 T⟩, Or.inr ⟨(1, 3), by simp, y, y2, T.1⟩⟩
    · exact absurd U2 U
  · obtain ⟨M2, w2, g2⟩ := eq_mid E A
    rw [← ho] at M2 w2 g2
    rcases E_X12_sew M2 w2 K g2 n5 e2 with ⟨P2, -⟩ | ⟨-, ⟨Q2, -⟩ | ⟨-, ⟨U2, -⟩ | ⟨-, y2, D⟩⟩⟩
    · exact absurd P P2
    · exact absurd Q Q2
    · exact absurd U U2
    · have hl := hg_law (W := W) (x := v) (y := w) (cN_lt K U.1)
      exact ⟨⟨_, _, _, eq_z2 hz D.2.2.2.2.2.2 (eq_act E A (rAct_oc ho D) (wOK_hg K P Q U) hl (lawK_cg LK hl) (lawB_cg LB hl))⟩, Or.inl ⟨by rw [y, y2], D.1⟩⟩
theorem eqz_hours {x nx r L n : Nat} {W : jWd} {v : Int32} {h : jH} {q : jR × jH} {p : Int32 × jH} (E : eqS x nx r L W h) (e1 : F_X11_hours n x v h = some q) {h1 : jH} (ho : oc h1 = oc q.2) (hz : q.2.1 ≤ h1.1) (e2 : F_X12_hours n (x + 40) v h1 = some p) : (∃ nx2 r2 W2, eqS x nx2 r2 L W2 p.2) ∧ ansE [(0, 1)] q.1 p.1 (oi (oc p.2) (x + 40) 0) := by
  have C := eq_pre E
  obtain ⟨⟨-, -, -, e8, e36, -, -, M⟩, ⟨-, -, -, n4, n5, -⟩, ⟨-, hw, K, LE, LK, LB⟩, -⟩ := id E
  have hr : ∀ m : Nat, m ≤ 80 → 1 ≤ m → v = nI m → 1 ≤ v.toInt ∧ v.toInt ≤ 80 := fun m h1 h2 h3 => by rw [h3, nI_toInt (by omega)]; omega
  rcases E_X11_hours C e8 e36 LE e1 with ⟨P, y, z⟩ | ⟨m, h8, h1, hi, y, A, CE⟩
  · rw [z] at ho hz
    have E1 := eq_oc E ho hz
    obtain ⟨⟨-, -, -, -, -, -, -, M⟩, ⟨-, -, -, n4, n5, -⟩, ⟨-, hw, K, -, LK, LB⟩, -⟩ := id E1
    rcases E_X12_hours M hw K n4 n5 LK LB e2 with ⟨-, y2, T⟩ | ⟨j, j8, j1, hj, -⟩
    · exact ⟨⟨_, _, _, eq_thr E1 T⟩, Or.inr ⟨(0, 1), by simp, y, y2, T.1⟩⟩
    · exact absurd (hr j j8 j1 hj) P
  · obtain ⟨M2, w2, g2⟩ := eq_mid E A
    rw [← ho] at M2 w2 g2
    rcases E_X12_hours M2 w2 K g2 n5 LK LB e2 with ⟨P2, -, -⟩ | ⟨j, j8, j1, hj, y2, D, RK⟩
    · exact absurd (hr m h8 h1 hi) P2
    · have ij : j = m := (nI_eq (by omega) (by omega)).mp (hj.symm.trans hi)
      subst ij
      exact ⟨⟨_, _, _, eq_z2 hz D.2.2.2.2.2.2 (eq_actL E A (rAct_oc ho D) CE.2.2.2 CE.2.2.1 RK.2.2.2.1 RK.2.2.2.2)⟩, Or.inl ⟨by rw [y, y2], D.1⟩⟩
end
