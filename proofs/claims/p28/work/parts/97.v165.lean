/-! snags and tries: they use up the tape -/
theorem wl_hi2 {g g2 : jGh} {Γ : Nat → Option Nat} {h h2 : jH} {a : Nat} (hg : g2.2.2.2.1 = g.2.2.2.1) (w : jW (jKd g) Γ h) (w2 : jW (jKd g2) Γ h2) (ha : Γ a = some 21) (B : jbq h h2) {k : Nat} (hk : 435 ≤ k) : oi (oc h2) a k = oi (oc h) a k := by
  obtain ⟨f, e1, p1⟩ := t_arr (t := 0) (N := 2133) (R := fun k x => jRw g k x) w ha rfl
  obtain ⟨f2, e2, p2⟩ := t_arr (t := 0) (N := 2133) (R := fun k x => jRw g2 k x) w2 ha rfl
  obtain ⟨f3, e3, p3⟩ := B a 0 2133 f e1
  rw [e2] at e3
  cases e3
  have q : f2 k = f k := by
    by_cases y : k < 2133
    · have y1 := (p1 k y).2
      have y2 := (p2 k y).2
      rcases y1 with y1 | y1
      · omega
      rcases y2 with y2 | y2
      · omega
      rw [hg] at y2
      exact y2.trans y1.symm
    · exact p3 k (by omega)
  unfold oi oc
  rw [e1, e2]
  show (match Value.int (f2 k) with | .int x => x | _ => 0) = (match Value.int (f k) with | .int x => x | _ => 0)
  rw [q]
def frT (x : Nat) (h h2 : jH) : Prop := (∀ a k : Nat, ¬ (qcc x a k ∨ (a = x + 1 ∧ k = 6)) → oc h2 a k = oc h a k) ∧ h2.1 = h.1 ∧ oi (oc h2) (x + 1) 6 = 0
theorem frT_w {x : Nat} {h h1 h2 : jH} {ci : Nat} (F : frK x h h1) (e : jpf ci h1 (x + 1) 6 (.int 0) = some h2) : frT x h h2 := by
  obtain ⟨q1, q2⟩ := oc_pf e
  refine ⟨fun a k z => ?_, q2.trans F.2, ?_⟩
  · rw [q1, u2_ne (by omega)]
    exact F.1 a k (fun y => z (Or.inl y))
  · rw [q1]; exact oi_eq
theorem frT_k {x : Nat} {h h1 h2 : jH} (T : frT x h h1) (F : frK x h1 h2) : frT x h h2 := by
  refine ⟨fun a k z => (F.1 a k (fun y => z (Or.inl y))).trans (T.1 a k z), F.2.trans T.2.1, ?_⟩
  rw [← T.2.2]
  unfold oi
  rw [F.1 _ _ (by unfold qcc; omega)]
theorem clsS_T {x : Nat} {h h2 : jH} (S : clsS (oc h) x) (F : frT x h h2) : clsS (oc h2) x := by
  obtain ⟨a0, a1, a8, a36, a13, ⟨u1, u2, u3, u4, u5, u6⟩, ⟨v1, v2, v3⟩, ⟨w1, w2, w3⟩, ⟨y1, y2, y3, y4, y5⟩, ⟨o0, o1, o2, o3, o4, o5⟩, ⟨k0, k1, k2, k3, k4⟩⟩ := S
  have f := F.1
  refine ⟨(f _ _ (by unfold qcc; omega)).trans a0, (f _ _ (by unfold qcc; omega)).trans a1, (f _ _ (by unfold qcc; omega)).trans a8, (f _ _ (by unfold qcc; omega)).trans a36, (f _ _ (by unfold qcc; omega)).trans a13, ⟨?_, ?_, ?_, ?_, ?_, ?_⟩, ⟨?_, ?_, ?_⟩, ⟨?_, ?_, ?_⟩, ⟨?_, ?_, ?_, ?_, ?_⟩, ⟨?_, ?_, ?_, ?_, ?_, ?_⟩, ⟨?_, ?_, ?_, ?_, ?_⟩⟩
  · exact (f _ _ (by unfold qcc; omega)).trans u1
  · exact (f _ _ (by unfold qcc; omega)).trans u2
  · exact (f _ _ (by unfold qcc; omega)).trans u3
  · exact (f _ _ (by unfold qcc; omega)).trans u4
  · exact (f _ _ (by unfold qcc; omega)).trans u5
  · exact (f _ _ (by unfold qcc; omega)).trans u6
  · exact (f _ _ (by unfold qcc; omega)).trans v1
  · exact (f _ _ (by unfold qcc; omega)).trans v2
  · exact (f _ _ (by unfold qcc; omega)).trans v3
  · exact (f _ _ (by unfold qcc; omega)).trans w1
  · exact (f _ _ (by unfold qcc; omega)).trans w2
  · exact (f _ _ (by unfold qcc; omega)).trans w3
  · exact (f _ _ (by unfold qcc; omega)).trans y1
  · exact (f _ _ (by unfold qcc; omega)).trans y2
  · exact (f _ _ (by unfold qcc; omega)).trans y3
  · exact (f _ _ (by unfold qcc; omega)).trans y4
  · exact (f _ _ (by unfold qcc; omega)).trans y5
  · exact (f _ _ (by unfold qcc; omega)).trans o0
  · exact (f _ _ (by unfold qcc; omega)).trans o1
  · exact (f _ _ (by unfold qcc; omega)).trans o2
  · exact (f _ _ (by unfold qcc; omega)).trans o3
  · exact (f _ _ (by unfold qcc; omega)).trans o4
  · exact (f _ _ (by unfold qcc; omega)).trans o5
  · exact (f _ _ (by unfold qcc; omega)).trans k0
  · exact (f _ _ (by unfold qcc; omega)).trans k1
  · exact (f _ _ (by unfold qcc; omega)).trans k2
  · exact (f _ _ (by unfold qcc; omega)).trans k3
  · exact (f _ _ (by unfold qcc; omega)).trans k4
theorem FT_readSnags {n x : Nat} {h : jH} {q : jR × jH} (M : clsS (oc h) x) (hf : F_X11_readSnags n x h = some q) : frT x h q.2 := by
  unfold F_X11_readSnags at hf
  obtain ⟨p1, e1, hf⟩ := jbind hf
  obtain ⟨p5, e2, hf⟩ := jbind hf
  obtain ⟨v8, e3, hf⟩ := jbind hf
  obtain ⟨v11, e4, hf⟩ := jbind hf
  replace hf := jite hf
  rcases hf with ⟨-, hf⟩ | ⟨-, hf⟩
  · obtain ⟨p31, e5, hf⟩ := jbind hf
    have r5 := oc_gR e5
    rw [M.1] at r5
    cases r5
    obtain ⟨h35, e6, hf⟩ := jbind hf
    have T := frT_w frK_rfl e6
    replace hf := jite hf
    rcases hf with ⟨-, hf⟩ | ⟨-, hf⟩
    · cases hf; exact T
    · cases hf; exact T
  · obtain ⟨p20, e7, hf⟩ := jbind hf
    have r7 := oc_gR e7
    rw [M.2.2.2.2.2.1.2.2.2.2.2] at r7
    cases r7
    obtain ⟨p24, e8, hf⟩ := jbind hf
    have r8 := oc_gR e8
    rw [M.2.1] at r8
    cases r8
    obtain ⟨h27, e9, hf⟩ := jbind hf
    have F := FC_X7_seekSnags_37_6 M (jcv_o e9).2
    have m := clsS_fr M F
    obtain ⟨p31, e5, hf⟩ := jbind hf
    have r5 := oc_gR e5
    rw [m.1] at r5
    cases r5
    obtain ⟨h35, e6, hf⟩ := jbind hf
    have T := frT_w F e6
    replace hf := jite hf
    rcases hf with ⟨-, hf⟩ | ⟨-, hf⟩
    · cases hf; exact T
    · cases hf; exact T
theorem FT_snags {n x : Nat} {y : Int32} {h : jH} {q : jR × jH} (M : clsS (oc h) x) (hf : F_X11_snags n x y h = some q) : frT x h q.2 := by
  unfold F_X11_snags at hf
  obtain ⟨q1, e1, hf⟩ := jbind hf
  have T := FT_readSnags M (jcv_o e1).2
  obtain ⟨r1, h1⟩ := q1
  rcases r1 with r1 | r1
  · replace hf := jthL hf
    replace hf := jite hf
    rcases hf with ⟨-, hf⟩ | ⟨-, hf⟩
    · obtain ⟨p19, e2, hf⟩ := jbind hf
      obtain ⟨v22, e3, hf⟩ := jbind hf
      cases hf; exact T
    · obtain ⟨p19, e2, hf⟩ := jbind hf
      obtain ⟨v22, e3, hf⟩ := jbind hf
      cases hf; exact T
  · cases jthR hf; exact T
theorem FT_tries {n x : Nat} {h : jH} {q : jR × jH} (M : clsS (oc h) x) (hf : F_X11_tries n x h = some q) : frT x h q.2 := by
  unfold F_X11_tries at hf
  obtain ⟨q1, e1, hf⟩ := jbind hf
  have T := FT_readSnags M (jcv_o e1).2
  obtain ⟨r1, h1⟩ := q1
  have m := clsS_T M T
  rcases r1 with r1 | r1
  · replace hf := jthL hf
    obtain ⟨p5, e2, hf⟩ := jbind hf
    have r2 := oc_gR e2
    rw [m.2.2.2.2.2.1.2.2.2.2.2] at r2
    cases r2
    obtain ⟨p9, e3, hf⟩ := jbind hf
    have r3 := oc_gR e3
    rw [m.2.1] at r3
    cases r3
    obtain ⟨q12, e4, hf⟩ := jbind hf
    have F := FC_X7_partingPull_37_6 m (jcv_o e4).2
    cases hf
    exact frT_k T F
  · cases jthR hf; exact T
theorem U_snags {n a0 L : Nat} {z : Int32} {h : jH} {q : Int32 × jH} (M : mS (oc h) a0) (h9 : oi (oc h) a0 9 = nI L) (hf : F_X12_snags n a0 z h = some q) : oi (oc q.2) a0 9 = 0 := by
  unfold F_X12_snags at hf
  obtain ⟨h1, e1, hf⟩ := jbind hf
  obtain ⟨-, u9, -, -, F, -⟩ := E_X12_uses h9 (jcv_o e1).2
  have m := mS_fr M F (by decide) (by decide)
  obtain ⟨v6, e2, hf⟩ := jbind hf
  replace hf := jite hf
  rcases hf with ⟨-, hf⟩ | ⟨-, hf⟩
  · rw [frM_oi (FQ_X12_snags_17 rfl m hf) (by decide) (by decide)]; exact u9
  · rw [frM_oi (FQ_X12_snags_17 rfl m hf) (by decide) (by decide)]; exact u9
theorem U_tries {n a0 L : Nat} {h : jH} {q : Int32 × jH} (M : mS (oc h) a0) (h9 : oi (oc h) a0 9 = nI L) (hf : F_X12_tries n a0 h = some q) : oi (oc q.2) a0 9 = 0 := by
  unfold F_X12_tries at hf
  obtain ⟨h1, e1, hf⟩ := jbind hf
  obtain ⟨-, u9, -, -, F, -⟩ := E_X12_uses h9 (jcv_o e1).2
  have m := mS_fr M F (by decide) (by decide)
  obtain ⟨v6, e2, hf⟩ := jbind hf
  replace hf := jite hf
  rcases hf with ⟨-, hf⟩ | ⟨-, hf⟩
  · rw [frM_oi (FQ_X12_tries_17 rfl m hf) (by decide) (by decide)]; exact u9
  · rw [frM_oi (FQ_X12_tries_17 rfl m hf) (by decide) (by decide)]; exact u9
theorem cls_mT {x nx r L : Nat} {W : jWd} {h h2 : jH} (E : eqS x nx r L W h) (C : frT x h h2) : mS (oc h2) (x + 40) := by
  obtain ⟨s1, s2, s3, s4, s5, s8, s15, s17, s19, s20, s21⟩ := (cls_of E).2
  have k : ∀ k : Nat, oc h2 (x + 40) k = oc h (x + 40) k := fun k => C.1 _ _ (by unfold qcc; omega)
  exact ⟨(k _).trans s1, (k _).trans s2, (k _).trans s3, (k _).trans s4, (k _).trans s5, (k _).trans s8, (k _).trans s15, (k _).trans s17, (k _).trans s19, (k _).trans s20, (k _).trans s21⟩
theorem eq_QT {x nx r L : Nat} {W : jWd} {h h2 h3 : jH} {cs fs : List Nat} (E : eqS x nx r L W h) (C : frT x h h2) (F : frM (x + 40) cs fs (oc h2) (oc h3)) (hc : ∀ c ∈ cs, c = 1 ∨ c = 4 ∨ (8 ≤ c ∧ c ≤ 11)) (hf : ∀ k ∈ fs, k = 0 ∨ k = 9 ∨ k = 10 ∨ k = 11 ∨ k = 18) (hz : h3.1 = h2.1) (hw : ∀ k : Nat, oi (oc h3) (x + 41) k = oi (oc h2) (x + 41) k) (h9 : oi (oc h3) (x + 40) 9 = 0) : eqS x nx r 0 W h3 := by
  refine eq_qry E (fun a k z => ?_) (by rw [hz, C.2.1]; omega) ?_ ⟨?_, h9, by omega⟩
  · exact (F a k (fun c hc2 e => by have := hc c hc2; unfold qrc at z; omega) (fun e hk => by have := hf k hk; unfold qrc at z; omega)).trans (C.1 a k (by unfold qcc; unfold qrc at z; omega))
  · rw [← E.2.2.1.2.1]
    funext k
    refine (hw k).trans ?_
    show oi _ _ _ = oi _ _ _
    unfold oi
    rw [C.1 _ _ (by unfold qcc; omega)]
  · have e : oc h3 (x + 1) 6 = oc h2 (x + 1) 6 := F _ _ (fun c hc2 e => by omega) (fun e => by omega)
    have c := C.2.2
    unfold oi at c ⊢
    rw [e]; exact c
theorem wr_w2 {g g2 : jGh} {Γ : Nat → Option Nat} {h h2 : jH} {m : Nat} (hg : g2.2.2.2.1 = g.2.2.2.1) (w : jW (jKd g) Γ h) (w2 : jW (jKd g2) Γ h2) (ha : Γ (m + 1) = some 21) (B : jbq h h2) {t : Bool} (K : wK true t m (wl (oc h) m) (oc h2)) (k : Nat) : oi (oc h2) (m + 1) k = oi (oc h) (m + 1) k := by
  by_cases y : k < 435
  · exact K.1 rfl k y
  · exact wl_hi2 hg w w2 ha B (by omega)
theorem h9_T {x nx r L : Nat} {W : jWd} {h h2 : jH} (E : eqS x nx r L W h) (C : frT x h h2) : oi (oc h2) (x + 40) 9 = nI L := by
  rw [← E.2.2.2.2.1]
  unfold oi
  rw [C.1 _ _ (by unfold qcc; omega)]
theorem eqq_snags {x nx r L n n2 : Nat} {W : jWd} {h : jH} {y z : Int32} {p : jR × jH} {q : Int32 × jH} (E : eqS x nx r L W h) (e1 : F_X11_snags n x y h = some p) (e2 : F_X12_snags n2 (x + 40) z p.2 = some q) {g g2 : jGh} {Γ : Nat → Option Nat} (hg : g2.2.2.2.1 = g.2.2.2.1) (w2 : jW (jKd g) Γ p.2) (w3 : jW (jKd g2) Γ q.2) (ha : Γ (x + 40 + 1) = some 21) : eqS x nx r 0 W q.2 := by
  have C := FT_snags (cls_of E).1 e1
  have M2 := cls_mT E C
  exact eq_QT E C (FQ_X12_snags M2 e2) (by decide) (by decide) (FZ_X12_snags e2) (wr_w2 hg w2 w3 ha (BQ_X12_snags e2) (WR_X12_snags M2 ⟨fun _ _ _ => rfl, fun z => by cases z⟩ e2)) (U_snags M2 (h9_T E C) e2)
theorem eqq_tries {x nx r L n n2 : Nat} {W : jWd} {h : jH} {p : jR × jH} {q : Int32 × jH} (E : eqS x nx r L W h) (e1 : F_X11_tries n x h = some p) (e2 : F_X12_tries n2 (x + 40) p.2 = some q) {g g2 : jGh} {Γ : Nat → Option Nat} (hg : g2.2.2.2.1 = g.2.2.2.1) (w2 : jW (jKd g) Γ p.2) (w3 : jW (jKd g2) Γ q.2) (ha : Γ (x + 40 + 1) = some 21) : eqS x nx r 0 W q.2 := by
  have C := FT_tries (cls_of E).1 e1
  have M2 := cls_mT E C
  exact eq_QT E C (FQ_X12_tries M2 e2) (by decide) (by decide) (FZ_X12_tries e2) (wr_w2 hg w2 w3 ha (BQ_X12_tries e2) (WR_X12_tries M2 ⟨fun _ _ _ => rfl, fun z => by cases z⟩ e2)) (U_tries M2 (h9_T E C) e2)
