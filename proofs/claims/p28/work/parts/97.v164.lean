/-! every question keeps the relation -/
theorem cls_of {x nx r L : Nat} {W : jWd} {h : jH} (E : eqS x nx r L W h) : clsS (oc h) x ∧ mS (oc h) (x + 40) := ⟨⟨E.1.1, E.1.2.1, E.1.2.2.2.1, E.1.2.2.2.2.1, E.2.2.1.2.2.2.1.1.2.2.2.2, E.2.2.2.2.2.2.2.1⟩, E.1.2.2.2.2.2.2.2⟩
theorem cls_m {x nx r L : Nat} {W : jWd} {h h2 : jH} (E : eqS x nx r L W h) (C : frK x h h2) : mS (oc h2) (x + 40) := by
  obtain ⟨s1, s2, s3, s4, s5, s8, s15, s17, s19, s20, s21⟩ := (cls_of E).2
  have k : ∀ k : Nat, oc h2 (x + 40) k = oc h (x + 40) k := fun k => C.1 _ _ (by unfold qcc; omega)
  exact ⟨(k _).trans s1, (k _).trans s2, (k _).trans s3, (k _).trans s4, (k _).trans s5, (k _).trans s8, (k _).trans s15, (k _).trans s17, (k _).trans s19, (k _).trans s20, (k _).trans s21⟩
theorem eq_Q {x nx r L : Nat} {W : jWd} {h h2 h3 : jH} {cs fs : List Nat} (E : eqS x nx r L W h) (C : frK x h h2) (F : frM (x + 40) cs fs (oc h2) (oc h3)) (hc : ∀ c ∈ cs, c = 1 ∨ c = 4 ∨ (8 ≤ c ∧ c ≤ 11)) (hf : ∀ k ∈ fs, k = 0 ∨ k = 18) (hz : h3.1 = h2.1) (hw : ∀ k : Nat, oi (oc h3) (x + 41) k = oi (oc h2) (x + 41) k) : eqS x nx r L W h3 := by
  refine eq_qr0 E (fun a k z => ?_) (by rw [hz, C.2]; omega) ?_
  · have z1 : ¬ qcc x a k := by unfold qcc; unfold qrc at z; omega
    exact (F a k (fun c hc2 e => by have := hc c hc2; unfold qrc at z; omega) (fun e hk => by have := hf k hk; unfold qrc at z; omega)).trans (C.1 a k z1)
  · rw [← E.2.2.1.2.1]
    funext k
    refine (hw k).trans ?_
    show oi _ _ _ = oi _ _ _
    unfold oi
    rw [C.1 _ _ (by unfold qcc; omega)]
theorem fq_w {m : Nat} {cs fs : List Nat} {O O2 : jO} (F : frM m cs fs O O2) (h : 1 ∉ cs) (k : Nat) : oi O2 (m + 1) k = oi O (m + 1) k := by
  unfold oi
  rw [F (m + 1) k (fun c hc e => h ((show c = 1 by omega) ▸ hc)) (fun e => by omega)]
theorem wr_w {g : jGh} {Γ : Nat → Option Nat} {h h2 : jH} {m : Nat} (w : jW (jKd g) Γ h) (w2 : jW (jKd g) Γ h2) (ha : Γ (m + 1) = some 21) (B : jbq h h2) {t : Bool} (K : wK true t m (wl (oc h) m) (oc h2)) (k : Nat) : oi (oc h2) (m + 1) k = oi (oc h) (m + 1) k := by
  by_cases y : k < 435
  · exact K.1 rfl k y
  · exact wl_hi w w2 ha B (by omega)
theorem eqq_fault {x nx r L n : Nat} {W : jWd} {h : jH} {q : Int32 × jH} (E : eqS x nx r L W h) (e2 : F_X12_fault n (x + 40) h = some q) : eqS x nx r L W q.2 := eq_Q E frK_rfl (FQ_X12_fault (cls_of E).2 e2) (by decide) (by decide) (FZ_X12_fault e2) (fq_w (FQ_X12_fault (cls_of E).2 e2) (by decide))
theorem eqq_shade {x nx r L n : Nat} {W : jWd} {h : jH} {q : Int32 × jH} (E : eqS x nx r L W h) (e2 : F_X12_shade n (x + 40) h = some q) : eqS x nx r L W q.2 := eq_Q E frK_rfl (FQ_X12_shade (cls_of E).2 e2) (by decide) (by decide) (FZ_X12_shade e2) (fq_w (FQ_X12_shade (cls_of E).2 e2) (by decide))
theorem eqq_dark {x nx r L n : Nat} {W : jWd} {h : jH} {q : Int32 × jH} (E : eqS x nx r L W h) (e2 : F_X12_dark n (x + 40) h = some q) : eqS x nx r L W q.2 := eq_Q E frK_rfl (FQ_X12_dark (cls_of E).2 e2) (by decide) (by decide) (FZ_X12_dark e2) (fq_w (FQ_X12_dark (cls_of E).2 e2) (by decide))
theorem eqq_bare {x nx r L n : Nat} {W : jWd} {h : jH} {q : Int32 × jH} (E : eqS x nx r L W h) (e2 : F_X12_bare n (x + 40) h = some q) : eqS x nx r L W q.2 := eq_Q E frK_rfl (FQ_X12_bare (cls_of E).2 e2) (by decide) (by decide) (FZ_X12_bare e2) (fq_w (FQ_X12_bare (cls_of E).2 e2) (by decide))
theorem eqq_order {x nx r L n : Nat} {W : jWd} {h : jH} {q : Int32 × jH} (E : eqS x nx r L W h) (e2 : F_X12_order n (x + 40) h = some q) : eqS x nx r L W q.2 := eq_Q E frK_rfl (FQ_X12_order (cls_of E).2 e2) (by decide) (by decide) (FZ_X12_order e2) (fq_w (FQ_X12_order (cls_of E).2 e2) (by decide))
theorem eqq_slack {x nx r L n : Nat} {W : jWd} {h : jH} {q : Int32 × jH} (E : eqS x nx r L W h) (e2 : F_X12_slack n (x + 40) h = some q) : eqS x nx r L W q.2 := eq_Q E frK_rfl (FQ_X12_slack (cls_of E).2 e2) (by decide) (by decide) (FZ_X12_slack e2) (fq_w (FQ_X12_slack (cls_of E).2 e2) (by decide))
theorem eqq_taut {x nx r L n : Nat} {W : jWd} {h : jH} {q : Int32 × jH} (E : eqS x nx r L W h) (e2 : F_X12_taut n (x + 40) h = some q) : eqS x nx r L W q.2 := eq_Q E frK_rfl (FQ_X12_taut (cls_of E).2 e2) (by decide) (by decide) (FZ_X12_taut e2) (fq_w (FQ_X12_taut (cls_of E).2 e2) (by decide))
theorem eqq_sunny {x nx r L n : Nat} {W : jWd} {h : jH} {q : Int32 × jH} (E : eqS x nx r L W h) (e2 : F_X12_sunny n (x + 40) h = some q) : eqS x nx r L W q.2 := eq_Q E frK_rfl (FQ_X12_sunny (cls_of E).2 e2) (by decide) (by decide) (FZ_X12_sunny e2) (fq_w (FQ_X12_sunny (cls_of E).2 e2) (by decide))
theorem eqq_envy {x nx r L n : Nat} {W : jWd} {h : jH} {q : Int32 × jH} (E : eqS x nx r L W h) (e2 : F_X12_envy n (x + 40) h = some q) : eqS x nx r L W q.2 := eq_Q E frK_rfl (FQ_X12_envy (cls_of E).2 e2) (by decide) (by decide) (FZ_X12_envy e2) (fq_w (FQ_X12_envy (cls_of E).2 e2) (by decide))
theorem eqq_bunch {x nx r L n : Nat} {W : jWd} {h : jH} {q : Int32 × jH} (E : eqS x nx r L W h) (e2 : F_X12_bunch n (x + 40) h = some q) : eqS x nx r L W q.2 := eq_Q E frK_rfl (FQ_X12_bunch (cls_of E).2 e2) (by decide) (by decide) (FZ_X12_bunch e2) (fq_w (FQ_X12_bunch (cls_of E).2 e2) (by decide))
theorem eqq_wooden {x nx r L n : Nat} {W : jWd} {h : jH} {q : Int32 × jH} (E : eqS x nx r L W h) (e2 : F_X12_wooden n (x + 40) h = some q) : eqS x nx r L W q.2 := eq_Q E frK_rfl (FQ_X12_wooden (cls_of E).2 e2) (by decide) (by decide) (FZ_X12_wooden e2) (fq_w (FQ_X12_wooden (cls_of E).2 e2) (by decide))
theorem eqq_caught {x nx r L n : Nat} {W : jWd} {h : jH} {q : Int32 × jH} (E : eqS x nx r L W h) (e2 : F_X12_caught n (x + 40) h = some q) : eqS x nx r L W q.2 := eq_Q E frK_rfl (FQ_X12_caught (cls_of E).2 e2) (by decide) (by decide) (FZ_X12_caught e2) (fq_w (FQ_X12_caught (cls_of E).2 e2) (by decide))
theorem eqq_loose {x nx r L n : Nat} {W : jWd} {h : jH} {q : Int32 × jH} (E : eqS x nx r L W h) (e2 : F_X12_loose n (x + 40) h = some q) : eqS x nx r L W q.2 := eq_Q E frK_rfl (FQ_X12_loose (cls_of E).2 e2) (by decide) (by decide) (FZ_X12_loose e2) (fq_w (FQ_X12_loose (cls_of E).2 e2) (by decide))
theorem eqq_beyond {x nx r L n : Nat} {W : jWd} {h : jH} {q : Int32 × jH} (E : eqS x nx r L W h) (e2 : F_X12_beyond n (x + 40) h = some q) : eqS x nx r L W q.2 := eq_Q E frK_rfl (FQ_X12_beyond (cls_of E).2 e2) (by decide) (by decide) (FZ_X12_beyond e2) (fq_w (FQ_X12_beyond (cls_of E).2 e2) (by decide))
theorem eqq_twins {x nx r L n : Nat} {W : jWd} {h : jH} {q : Int32 × jH} (E : eqS x nx r L W h) (e2 : F_X12_twins n (x + 40) h = some q) : eqS x nx r L W q.2 := eq_Q E frK_rfl (FQ_X12_twins (cls_of E).2 e2) (by decide) (by decide) (FZ_X12_twins e2) (fq_w (FQ_X12_twins (cls_of E).2 e2) (by decide))
theorem eqq_count {x nx r L n : Nat} {W : jWd} {h : jH} {zx1 : Int32} {q : Int32 × jH} (E : eqS x nx r L W h) (e2 : F_X12_count n (x + 40) zx1 h = some q) : eqS x nx r L W q.2 := eq_Q E frK_rfl (FQ_X12_count (cls_of E).2 e2) (by decide) (by decide) (FZ_X12_count e2) (fq_w (FQ_X12_count (cls_of E).2 e2) (by decide))
theorem eqq_ring {x nx r L n n2 : Nat} {W : jWd} {h : jH} {yx1 : Int32} {yx2 : Int32} {zx1 : Int32} {zx2 : Int32} {p : jR × jH} {q : Int32 × jH} (E : eqS x nx r L W h) (e1 : F_X11_ring n x yx1 yx2 h = some p) (e2 : F_X12_ring n2 (x + 40) zx1 zx2 p.2 = some q) : eqS x nx r L W q.2 := by
  have C := FC_X11_ring_0 (cls_of E).1 e1
  have M2 := cls_m E C
  exact eq_Q E C (FQ_X12_ring M2 e2) (by decide) (by decide) (FZ_X12_ring e2) (fq_w (FQ_X12_ring M2 e2) (by decide))
theorem eqq_with {x nx r L n n2 : Nat} {W : jWd} {h : jH} {yx1 : Int32} {yx2 : Int32} {zx1 : Int32} {zx2 : Int32} {p : jR × jH} {q : Int32 × jH} (E : eqS x nx r L W h) (e1 : F_X11_with n x yx1 yx2 h = some p) (e2 : F_X12_with n2 (x + 40) zx1 zx2 p.2 = some q) : eqS x nx r L W q.2 := by
  have C := FC_X11_with_0 (cls_of E).1 e1
  have M2 := cls_m E C
  exact eq_Q E C (FQ_X12_with M2 e2) (by decide) (by decide) (FZ_X12_with e2) (fq_w (FQ_X12_with M2 e2) (by decide))
theorem eqq_tight {x nx r L n n2 : Nat} {W : jWd} {h : jH} {yx1 : Int32} {zx1 : Int32} {p : jR × jH} {q : Int32 × jH} (E : eqS x nx r L W h) (e1 : F_X11_tight n x yx1 h = some p) (e2 : F_X12_tight n2 (x + 40) zx1 p.2 = some q) : eqS x nx r L W q.2 := by
  have C := FC_X11_tight_0 (cls_of E).1 e1
  have M2 := cls_m E C
  exact eq_Q E C (FQ_X12_tight M2 e2) (by decide) (by decide) (FZ_X12_tight e2) (fq_w (FQ_X12_tight M2 e2) (by decide))
theorem eqq_lit {x nx r L n n2 : Nat} {W : jWd} {h : jH} {yx1 : Int32} {zx1 : Int32} {p : jR × jH} {q : Int32 × jH} (E : eqS x nx r L W h) (e1 : F_X11_lit n x yx1 h = some p) (e2 : F_X12_lit n2 (x + 40) zx1 p.2 = some q) : eqS x nx r L W q.2 := by
  have C := FC_X11_lit_0 (cls_of E).1 e1
  have M2 := cls_m E C
  exact eq_Q E C (FQ_X12_lit M2 e2) (by decide) (by decide) (FZ_X12_lit e2) (fq_w (FQ_X12_lit M2 e2) (by decide))
theorem eqq_lets {x nx r L n n2 : Nat} {W : jWd} {h : jH} {yx1 : Int32} {yx2 : Int32} {zx1 : Int32} {zx2 : Int32} {p : jR × jH} {q : Int32 × jH} (E : eqS x nx r L W h) (e1 : F_X11_lets n x yx1 yx2 h = some p) (e2 : F_X12_lets n2 (x + 40) zx1 zx2 p.2 = some q) : eqS x nx r L W q.2 := by
  have C := FC_X11_lets_0 (cls_of E).1 e1
  have M2 := cls_m E C
  exact eq_Q E C (FQ_X12_lets M2 e2) (by decide) (by decide) (FZ_X12_lets e2) (fq_w (FQ_X12_lets M2 e2) (by decide))
theorem eqq_rests {x nx r L n n2 : Nat} {W : jWd} {h : jH} {yx1 : Int32} {zx1 : Int32} {p : jR × jH} {q : Int32 × jH} (E : eqS x nx r L W h) (e1 : F_X11_rests n x yx1 h = some p) (e2 : F_X12_rests n2 (x + 40) zx1 p.2 = some q) : eqS x nx r L W q.2 := by
  have C := FC_X11_rests_0 (cls_of E).1 e1
  have M2 := cls_m E C
  exact eq_Q E C (FQ_X12_rests M2 e2) (by decide) (by decide) (FZ_X12_rests e2) (fq_w (FQ_X12_rests M2 e2) (by decide))
theorem eqq_odds {x nx r L n n2 : Nat} {W : jWd} {h : jH} {yx1 : Int32} {yx2 : Int32} {zx1 : Int32} {zx2 : Int32} {p : jR × jH} {q : Int32 × jH} (E : eqS x nx r L W h) (e1 : F_X11_odds n x yx1 yx2 h = some p) (e2 : F_X12_odds n2 (x + 40) zx1 zx2 p.2 = some q) : eqS x nx r L W q.2 := by
  have C := FC_X11_odds_0 (cls_of E).1 e1
  have M2 := cls_m E C
  exact eq_Q E C (FQ_X12_odds M2 e2) (by decide) (by decide) (FZ_X12_odds e2) (fq_w (FQ_X12_odds M2 e2) (by decide))
theorem eqq_led {x nx r L n n2 : Nat} {W : jWd} {h : jH} {yx1 : Int32} {yx2 : Int32} {zx1 : Int32} {zx2 : Int32} {p : jR × jH} {q : Int32 × jH} (E : eqS x nx r L W h) (e1 : F_X11_led n x yx1 yx2 h = some p) (e2 : F_X12_led n2 (x + 40) zx1 zx2 p.2 = some q) : eqS x nx r L W q.2 := by
  have C := FC_X11_led_0 (cls_of E).1 e1
  have M2 := cls_m E C
  exact eq_Q E C (FQ_X12_led M2 e2) (by decide) (by decide) (FZ_X12_led e2) (fq_w (FQ_X12_led M2 e2) (by decide))
theorem eqq_log {x nx r L n n2 : Nat} {W : jWd} {h : jH} {yx1 : Int32} {yx2 : Int32} {zx1 : Int32} {zx2 : Int32} {p : jR × jH} {q : Int32 × jH} (E : eqS x nx r L W h) (e1 : F_X11_log n x yx1 yx2 h = some p) (e2 : F_X12_log n2 (x + 40) zx1 zx2 p.2 = some q) : eqS x nx r L W q.2 := by
  have C := FC_X11_log_0 (cls_of E).1 e1
  have M2 := cls_m E C
  exact eq_Q E C (FQ_X12_log M2 e2) (by decide) (by decide) (FZ_X12_log e2) (fq_w (FQ_X12_log M2 e2) (by decide))
theorem eqq_goes {x nx r L n n2 : Nat} {W : jWd} {h : jH} {yx1 : Int32} {yx2 : Int32} {zx1 : Int32} {zx2 : Int32} {p : jR × jH} {q : Int32 × jH} (E : eqS x nx r L W h) (e1 : F_X11_goes n x yx1 yx2 h = some p) (e2 : F_X12_goes n2 (x + 40) zx1 zx2 p.2 = some q) {g : jGh} {Γ : Nat → Option Nat} (w2 : jW (jKd g) Γ p.2) (w3 : jW (jKd g) Γ q.2) (ha : Γ (x + 40 + 1) = some 21) : eqS x nx r L W q.2 := by
  have C := FC_X11_goes_0 (cls_of E).1 e1
  have M2 := cls_m E C
  exact eq_Q E C (FQ_X12_goes M2 e2) (by decide) (by decide) (FZ_X12_goes e2) (wr_w w2 w3 ha (BQ_X12_goes e2) (WR_X12_goes M2 ⟨fun _ _ _ => rfl, fun z => by cases z⟩ e2))
theorem eqq_would {x nx r L n n2 : Nat} {W : jWd} {h : jH} {yx1 : Int32} {yx2 : Int32} {yx3 : Int32} {yx4 : Int32} {zx1 : Int32} {zx2 : Int32} {zx3 : Int32} {zx4 : Int32} {p : jR × jH} {q : Int32 × jH} (E : eqS x nx r L W h) (e1 : F_X11_would n x yx1 yx2 yx3 yx4 h = some p) (e2 : F_X12_would n2 (x + 40) zx1 zx2 zx3 zx4 p.2 = some q) {g : jGh} {Γ : Nat → Option Nat} (w2 : jW (jKd g) Γ p.2) (w3 : jW (jKd g) Γ q.2) (ha : Γ (x + 40 + 1) = some 21) : eqS x nx r L W q.2 := by
  have C := FC_X11_would_0 (cls_of E).1 e1
  have M2 := cls_m E C
  exact eq_Q E C (FQ_X12_would M2 e2) (by decide) (by decide) (FZ_X12_would e2) (wr_w w2 w3 ha (BQ_X12_would e2) (WR_X12_would M2 ⟨fun _ _ _ => rfl, fun z => by cases z⟩ e2))
theorem eqq_loosen {x nx r L n n2 : Nat} {W : jWd} {h : jH} {yx1 : Int32} {yx2 : Int32} {yx3 : Int32} {zx1 : Int32} {zx2 : Int32} {zx3 : Int32} {p : jR × jH} {q : Int32 × jH} (E : eqS x nx r L W h) (e1 : F_X11_loosen n x yx1 yx2 yx3 h = some p) (e2 : F_X12_loosen n2 (x + 40) zx1 zx2 zx3 p.2 = some q) {g : jGh} {Γ : Nat → Option Nat} (w2 : jW (jKd g) Γ p.2) (w3 : jW (jKd g) Γ q.2) (ha : Γ (x + 40 + 1) = some 21) : eqS x nx r L W q.2 := by
  have C := FC_X11_loosen_0 (cls_of E).1 e1
  have M2 := cls_m E C
  exact eq_Q E C (FQ_X12_loosen M2 e2) (by decide) (by decide) (FZ_X12_loosen e2) (wr_w w2 w3 ha (BQ_X12_loosen e2) (WR_X12_loosen M2 ⟨fun _ _ _ => rfl, fun z => by cases z⟩ e2))
theorem eqq_faded {x nx r L n n2 : Nat} {W : jWd} {h : jH} {yx1 : Int32} {zx1 : Int32} {p : jR × jH} {q : Int32 × jH} (E : eqS x nx r L W h) (e1 : F_X11_faded n x yx1 h = some p) (e2 : F_X12_faded n2 (x + 40) zx1 p.2 = some q) {g : jGh} {Γ : Nat → Option Nat} (w2 : jW (jKd g) Γ p.2) (w3 : jW (jKd g) Γ q.2) (ha : Γ (x + 40 + 1) = some 21) : eqS x nx r L W q.2 := by
  have C := FC_X11_faded_0 (cls_of E).1 e1
  have M2 := cls_m E C
  exact eq_Q E C (FQ_X12_faded M2 e2) (by decide) (by decide) (FZ_X12_faded e2) (wr_w w2 w3 ha (BQ_X12_faded e2) (WR_X12_faded M2 ⟨fun _ _ _ => rfl, fun z => by cases z⟩ e2))
theorem eqq_ahead {x nx r L n n2 : Nat} {W : jWd} {h : jH} {yx1 : Int32} {yx2 : Int32} {zx1 : Int32} {zx2 : Int32} {p : jR × jH} {q : Int32 × jH} (E : eqS x nx r L W h) (e1 : F_X11_ahead n x yx1 yx2 h = some p) (e2 : F_X12_ahead n2 (x + 40) zx1 zx2 p.2 = some q) {g : jGh} {Γ : Nat → Option Nat} (w2 : jW (jKd g) Γ p.2) (w3 : jW (jKd g) Γ q.2) (ha : Γ (x + 40 + 1) = some 21) : eqS x nx r L W q.2 := by
  have C := FC_X11_ahead_0 (cls_of E).1 e1
  have M2 := cls_m E C
  exact eq_Q E C (FQ_X12_ahead M2 e2) (by decide) (by decide) (FZ_X12_ahead e2) (wr_w w2 w3 ha (BQ_X12_ahead e2) (WR_X12_ahead M2 ⟨fun _ _ _ => rfl, fun z => by cases z⟩ e2))
theorem eqq_trial {x nx r L n n2 : Nat} {W : jWd} {h : jH} {yx1 : Int32} {yx2 : Int32} {zx1 : Int32} {zx2 : Int32} {p : jR × jH} {q : Int32 × jH} (E : eqS x nx r L W h) (e1 : F_X11_trial n x yx1 yx2 h = some p) (e2 : F_X12_trial n2 (x + 40) zx1 zx2 p.2 = some q) {g : jGh} {Γ : Nat → Option Nat} (w2 : jW (jKd g) Γ p.2) (w3 : jW (jKd g) Γ q.2) (ha : Γ (x + 40 + 1) = some 21) : eqS x nx r L W q.2 := by
  have C := FC_X11_trial_0 (cls_of E).1 e1
  have M2 := cls_m E C
  exact eq_Q E C (FQ_X12_trial M2 e2) (by decide) (by decide) (FZ_X12_trial e2) (wr_w w2 w3 ha (BQ_X12_trial e2) (WR_X12_trial M2 ⟨fun _ _ _ => rfl, fun z => by cases z⟩ e2))
theorem eqq_span {x nx r L n n2 : Nat} {W : jWd} {h : jH} {yx1 : Int32} {yx2 : Int32} {zx1 : Int32} {zx2 : Int32} {p : jR × jH} {q : Int32 × jH} (E : eqS x nx r L W h) (e1 : F_X11_span n x yx1 yx2 h = some p) (e2 : F_X12_span n2 (x + 40) zx1 zx2 p.2 = some q) {g : jGh} {Γ : Nat → Option Nat} (w2 : jW (jKd g) Γ p.2) (w3 : jW (jKd g) Γ q.2) (ha : Γ (x + 40 + 1) = some 21) : eqS x nx r L W q.2 := by
  have C := FC_X11_span_0 (cls_of E).1 e1
  have M2 := cls_m E C
  exact eq_Q E C (FQ_X12_span M2 e2) (by decide) (by decide) (FZ_X12_span e2) (wr_w w2 w3 ha (BQ_X12_span e2) (WR_X12_span M2 ⟨fun _ _ _ => rfl, fun z => by cases z⟩ e2))
theorem eqq_best {x nx r L n n2 : Nat} {W : jWd} {h : jH} {p : Int32 × jH} {q : Int32 × jH} (E : eqS x nx r L W h) (e1 : F_X11_best n x h = some p) (e2 : F_X12_best n2 (x + 40) p.2 = some q) {g : jGh} {Γ : Nat → Option Nat} (w2 : jW (jKd g) Γ p.2) (w3 : jW (jKd g) Γ q.2) (ha : Γ (x + 40 + 1) = some 21) : eqS x nx r L W q.2 := by
  have C := FC_X11_best_0 (cls_of E).1 e1
  have M2 := cls_m E C
  exact eq_Q E C (FQ_X12_best M2 e2) (by decide) (by decide) (FZ_X12_best e2) (wr_w w2 w3 ha (BQ_X12_best e2) (WR_X12_best M2 ⟨fun _ _ _ => rfl, fun z => by cases z⟩ e2))
theorem eqq_fewest {x nx r L n n2 : Nat} {W : jWd} {h : jH} {yx1 : Int32} {zx1 : Int32} {p : Int32 × jH} {q : Int32 × jH} (E : eqS x nx r L W h) (e1 : F_X11_fewest n x yx1 h = some p) (e2 : F_X12_fewest n2 (x + 40) zx1 p.2 = some q) {g : jGh} {Γ : Nat → Option Nat} (w2 : jW (jKd g) Γ p.2) (w3 : jW (jKd g) Γ q.2) (ha : Γ (x + 40 + 1) = some 21) : eqS x nx r L W q.2 := by
  have C := FC_X11_fewest_0 (cls_of E).1 e1
  have M2 := cls_m E C
  exact eq_Q E C (FQ_X12_fewest M2 e2) (by decide) (by decide) (FZ_X12_fewest e2) (wr_w w2 w3 ha (BQ_X12_fewest e2) (WR_X12_fewest M2 ⟨fun _ _ _ => rfl, fun z => by cases z⟩ e2))
theorem eqq_first {x nx r L n n2 : Nat} {W : jWd} {h : jH} {yx1 : Int32} {zx1 : Int32} {p : Int32 × jH} {q : Int32 × jH} (E : eqS x nx r L W h) (e1 : F_X11_first n x yx1 h = some p) (e2 : F_X12_first n2 (x + 40) zx1 p.2 = some q) {g : jGh} {Γ : Nat → Option Nat} (w2 : jW (jKd g) Γ p.2) (w3 : jW (jKd g) Γ q.2) (ha : Γ (x + 40 + 1) = some 21) : eqS x nx r L W q.2 := by
  have C := FC_X11_first_0 (cls_of E).1 e1
  have M2 := cls_m E C
  exact eq_Q E C (FQ_X12_first M2 e2) (by decide) (by decide) (FZ_X12_first e2) (wr_w w2 w3 ha (BQ_X12_first e2) (WR_X12_first M2 ⟨fun _ _ _ => rfl, fun z => by cases z⟩ e2))
theorem eqq_pale {x nx r L n n2 : Nat} {W : jWd} {h : jH} {p : Int32 × jH} {q : Int32 × jH} (E : eqS x nx r L W h) (e1 : F_X11_pale n x h = some p) (e2 : F_X12_pale n2 (x + 40) p.2 = some q) {g : jGh} {Γ : Nat → Option Nat} (w2 : jW (jKd g) Γ p.2) (w3 : jW (jKd g) Γ q.2) (ha : Γ (x + 40 + 1) = some 21) : eqS x nx r L W q.2 := by
  have C := FC_X11_pale_0 (cls_of E).1 e1
  have M2 := cls_m E C
  exact eq_Q E C (FQ_X12_pale M2 e2) (by decide) (by decide) (FZ_X12_pale e2) (wr_w w2 w3 ha (BQ_X12_pale e2) (WR_X12_pale M2 ⟨fun _ _ _ => rfl, fun z => by cases z⟩ e2))
