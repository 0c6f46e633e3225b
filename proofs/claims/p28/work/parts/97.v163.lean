/-! arrays are not written beyond their ends -/
def jbq (h h1 : jH) : Prop := ∀ (b t N : Nat) (f : Nat → Int32), h.2 b = some (.inr (.inl (t, N, f))) → ∃ f1 : Nat → Int32, h1.2 b = some (.inr (.inl (t, N, f1))) ∧ ∀ k : Nat, N ≤ k → f1 k = f k
theorem jbq_rfl {h : jH} : jbq h h := fun _ _ _ f e => ⟨f, e, fun _ _ => rfl⟩
theorem jbq_tr {h h1 h2 : jH} (a : jbq h h1) (b : jbq h1 h2) : jbq h h2 := fun c t N f e => by
  obtain ⟨f1, e1, g1⟩ := a c t N f e
  obtain ⟨f2, e2, g2⟩ := b c t N f1 e1
  exact ⟨f2, e2, fun k hk => (g2 k hk).trans (g1 k hk)⟩
theorem bm_pf {c : Nat} {h h1 : jH} {a k : Nat} {v : Value} (e : jpf c h a k v = some h1) : jbq h h1 := by
  obtain ⟨fs, e1, -, rfl⟩ := jpf_o e
  intro b t N f e2
  by_cases hb : b = a
  · subst hb
    rw [e1] at e2
    cases e2
  · refine ⟨f, ?_, fun _ _ => rfl⟩
    show (if b = a then some _ else h.2 b) = _
    rw [if_neg hb]
    exact e2
theorem bm_as {t a : Nat} {i x : Int32} {h h1 : jH} (e : jas t h a i x = some h1) : jbq h h1 := by
  obtain ⟨n, f, e1, e3, -, rfl⟩ := jas_o e
  intro b t2 N f2 e2
  by_cases hb : b = a
  · subst hb
    rw [e1] at e2
    cases e2
    refine ⟨upd f i.toNatClampNeg (jnar t x), ?_, fun k hk => upd_ne (fun z => e3 (Or.inr (by omega)))⟩
    show (if b = b then some _ else h.2 b) = _
    rw [if_pos rfl]
  · refine ⟨f2, ?_, fun _ _ => rfl⟩
    show (if b = a then some _ else h.2 b) = _
    rw [if_neg hb]
    exact e2
theorem BQ_X12_throwsIf {n : Nat} {a0 : Nat} {x1 : Int32} {x2 : Int32} {h : jH} {q : Int32 × jH} (hf : F_X12_throwsIf n a0 x1 x2 h = some q) : jbq h q.2 := by
  unfold F_X12_throwsIf at hf
  replace hf := jite hf
  rcases hf with ⟨-, hf⟩ | ⟨-, hf⟩
  · replace hf := jite hf
    rcases hf with ⟨-, hf⟩ | ⟨-, hf⟩
    · cases hf
      exact jbq_rfl
    · cases hf
  · obtain ⟨h6, e1, hf⟩ := jbind hf
    have f1 : jbq h h6 := bm_pf e1
    replace hf := jite hf
    rcases hf with ⟨-, hf⟩ | ⟨-, hf⟩
    · cases hf
      exact f1
    · cases hf
theorem BQ_X12_holdsLine_222 {n : Nat} {rc22 : Nat → Int32 → Int32 → Int32 → Int32 → jH → Option (Int32 × jH)} (hrc22 : ∀ {z0 : Nat} {z1 : Int32} {z2 : Int32} {z3 : Int32} {z4 : Int32} {h : jH} {q : Int32 × jH}, rc22 z0 z1 z2 z3 z4 h = some q → jbq h q.2) {a0 : Nat} {x2 : Int32} {x3 : Int32} {x4 : Int32} {x5 : Int32} {x6 : Int32} {x7 : Int32} {x8 : Int32} {s0 : Int32} {h : jH} {q : Int32 × jH} (hf : F_X12_holdsLine_222 n rc22 a0 x2 x3 x4 x5 x6 x7 x8 s0 h = some q) : jbq h q.2 := by
  unfold F_X12_holdsLine_222 at hf
  obtain ⟨p225, e1, hf⟩ := jbind hf
  replace hf := jite hf
  rcases hf with ⟨-, hf⟩ | ⟨-, hf⟩
  · obtain ⟨h256, e2, hf⟩ := jbind hf
    have f2 : jbq h h256 := bm_as e2
    exact (jbq_tr f2 (hrc22  hf))
  · replace hf := jite hf
    rcases hf with ⟨-, hf⟩ | ⟨-, hf⟩
    · obtain ⟨h256, e3, hf⟩ := jbind hf
      have f3 : jbq h h256 := bm_as e3
      exact (jbq_tr f3 (hrc22  hf))
    · obtain ⟨h256, e4, hf⟩ := jbind hf
      have f4 : jbq h h256 := bm_as e4
      exact (jbq_tr f4 (hrc22  hf))
theorem BQ_X12_holdsLine_22 {n : Nat} {k : Nat} : ∀ {a0 : Nat} {x2 : Int32} {x3 : Int32} {x4 : Int32} {x5 : Int32} {h : jH} {q : Int32 × jH}, F_X12_holdsLine_22 n k a0 x2 x3 x4 x5 h = some q → jbq h q.2 := by
  induction k with
  | zero =>
    intro a0 x2 x3 x4 x5 h q hf
    cases hf
  | succ k ih =>
    intro a0 x2 x3 x4 x5 h q hf
    replace hf : F_X12_holdsLine_22_b n (F_X12_holdsLine_22 n k) a0 x2 x3 x4 x5 h = some q := hf
    unfold F_X12_holdsLine_22_b at hf
    obtain ⟨p25, e1, hf⟩ := jbind hf
    obtain ⟨v32, e2, hf⟩ := jbind hf
    replace hf := jite hf
    rcases hf with ⟨-, hf⟩ | ⟨-, hf⟩
    · replace hf := jite hf
      rcases hf with ⟨-, hf⟩ | ⟨-, hf⟩
      · cases hf
        exact jbq_rfl
      · obtain ⟨p268, e3, hf⟩ := jbind hf
        obtain ⟨v272, e4, hf⟩ := jbind hf
        replace hf := jite hf
        rcases hf with ⟨-, hf⟩ | ⟨-, hf⟩
        · cases hf
          exact jbq_rfl
        · cases hf
          exact jbq_rfl
    · obtain ⟨p37, e5, hf⟩ := jbind hf
      obtain ⟨v48, e6, hf⟩ := jbind hf
      replace hf := jite hf
      rcases hf with ⟨-, hf⟩ | ⟨-, hf⟩
      · replace hf := jite hf
        rcases hf with ⟨-, hf⟩ | ⟨-, hf⟩
        · obtain ⟨p100, e7, hf⟩ := jbind hf
          obtain ⟨p108, e8, hf⟩ := jbind hf
          obtain ⟨v114, e9, hf⟩ := jbind hf
          obtain ⟨h116, e10, hf⟩ := jbind hf
          have f10 : jbq h h116 := bm_as e10
          exact (jbq_tr f10 (ih  hf))
        · obtain ⟨p124, e11, hf⟩ := jbind hf
          obtain ⟨v130, e12, hf⟩ := jbind hf
          obtain ⟨p134, e13, hf⟩ := jbind hf
          obtain ⟨v138, e14, hf⟩ := jbind hf
          replace hf := jite hf
          rcases hf with ⟨-, hf⟩ | ⟨-, hf⟩
          · replace hf := jite hf
            rcases hf with ⟨-, hf⟩ | ⟨-, hf⟩
            · exact (BQ_X12_holdsLine_222 ih hf)
            · exact (BQ_X12_holdsLine_222 ih hf)
          · replace hf := jite hf
            rcases hf with ⟨-, hf⟩ | ⟨-, hf⟩
            · replace hf := jite hf
              rcases hf with ⟨-, hf⟩ | ⟨-, hf⟩
              · exact (BQ_X12_holdsLine_222 ih hf)
              · exact (BQ_X12_holdsLine_222 ih hf)
            · replace hf := jite hf
              rcases hf with ⟨-, hf⟩ | ⟨-, hf⟩
              · replace hf := jite hf
                rcases hf with ⟨-, hf⟩ | ⟨-, hf⟩
                · exact (BQ_X12_holdsLine_222 ih hf)
                · exact (BQ_X12_holdsLine_222 ih hf)
              · replace hf := jite hf
                rcases hf with ⟨-, hf⟩ | ⟨-, hf⟩
                · exact (BQ_X12_holdsLine_222 ih hf)
                · exact (BQ_X12_holdsLine_222 ih hf)
      · obtain ⟨p59, e15, hf⟩ := jbind hf
        obtain ⟨p67, e16, hf⟩ := jbind hf
        obtain ⟨v80, e17, hf⟩ := jbind hf
        obtain ⟨v82, e18, hf⟩ := jbind hf
        replace e18 := (jcv_o e18).2
        obtain ⟨h85, e19, hf⟩ := jbind hf
        have f19 : jbq h h85 := bm_as e19
        exact (jbq_tr f19 (ih  hf))
theorem BQ_X12_holdsLine {n : Nat} {a0 : Nat} {x1 : Int32} {x2 : Int32} {h : jH} {q : Int32 × jH} (hf : F_X12_holdsLine n a0 x1 x2 h = some q) : jbq h q.2 := by
  unfold F_X12_holdsLine at hf
  obtain ⟨p12, e1, hf⟩ := jbind hf
  obtain ⟨v19, e2, hf⟩ := jbind hf
  exact (BQ_X12_holdsLine_22 hf)
theorem BQ_X12_sumOf_5 {n : Nat} {k : Nat} : ∀ {a0 : Nat} {x1 : Int32} {x2 : Int32} {x3 : Int32} {x4 : Int32} {h : jH} {q : Int32 × jH}, F_X12_sumOf_5 n k a0 x1 x2 x3 x4 h = some q → jbq h q.2 := by
  induction k with
  | zero =>
    intro a0 x1 x2 x3 x4 h q hf
    cases hf
  | succ k ih =>
    intro a0 x1 x2 x3 x4 h q hf
    replace hf : F_X12_sumOf_5_b n (F_X12_sumOf_5 n k) a0 x1 x2 x3 x4 h = some q := hf
    unfold F_X12_sumOf_5_b at hf
    obtain ⟨p8, e1, hf⟩ := jbind hf
    obtain ⟨v14, e2, hf⟩ := jbind hf
    replace hf := jite hf
    rcases hf with ⟨-, hf⟩ | ⟨-, hf⟩
    · cases hf
      exact jbq_rfl
    · obtain ⟨p19, e3, hf⟩ := jbind hf
      obtain ⟨v30, e4, hf⟩ := jbind hf
      replace hf := jite hf
      rcases hf with ⟨-, hf⟩ | ⟨-, hf⟩
      · obtain ⟨q39, e5, hf⟩ := jbind hf
        replace e5 := (jcv_o e5).2
        have f5 : jbq h q39.2 := (BQ_X12_holdsLine e5)
        replace hf := jite hf
        rcases hf with ⟨-, hf⟩ | ⟨-, hf⟩
        · exact (jbq_tr f5 (ih  hf))
        · obtain ⟨p47, e6, hf⟩ := jbind hf
          obtain ⟨v60, e7, hf⟩ := jbind hf
          exact (jbq_tr f5 (ih  hf))
      · exact (ih  hf)
theorem BQ_X12_sumOf {n : Nat} {a0 : Nat} {x1 : Int32} {x2 : Int32} {h : jH} {q : Int32 × jH} (hf : F_X12_sumOf n a0 x1 x2 h = some q) : jbq h q.2 := by
  unfold F_X12_sumOf at hf
  exact (BQ_X12_sumOf_5 hf)
theorem BQ_X12_byLaw {n : Nat} {a0 : Nat} {x1 : Int32} {x2 : Int32} {h : jH} {q : Int32 × jH} (hf : F_X12_byLaw n a0 x1 x2 h = some q) : jbq h q.2 := by
  unfold F_X12_byLaw at hf
  obtain ⟨p1, e1, hf⟩ := jbind hf
  obtain ⟨v5, e2, hf⟩ := jbind hf
  replace hf := jite hf
  rcases hf with ⟨-, hf⟩ | ⟨-, hf⟩
  · obtain ⟨q13, e3, hf⟩ := jbind hf
    replace e3 := (jcv_o e3).2
    have f3 : jbq h q13.2 := (BQ_X12_sumOf e3)
    cases hf
    exact f3
  · replace hf := jite hf
    rcases hf with ⟨-, hf⟩ | ⟨-, hf⟩
    · obtain ⟨p24, e4, hf⟩ := jbind hf
      obtain ⟨v28, e5, hf⟩ := jbind hf
      obtain ⟨v29, e6, hf⟩ := jbind hf
      replace e6 := (jcv_o e6).2
      replace hf := jite hf
      rcases hf with ⟨-, hf⟩ | ⟨-, hf⟩
      · cases hf
        exact jbq_rfl
      · cases hf
        exact jbq_rfl
    · replace hf := jite hf
      rcases hf with ⟨-, hf⟩ | ⟨-, hf⟩
      · cases hf
        exact jbq_rfl
      · cases hf
        exact jbq_rfl
theorem BQ_X12_ring_34 {n : Nat} {a0 : Nat} {x1 : Int32} {x2 : Int32} {sa0 : Nat} {s1 : Int32} {h : jH} {q : Int32 × jH} (hf : F_X12_ring_34 n a0 x1 x2 sa0 s1 h = some q) : jbq h q.2 := by
  unfold F_X12_ring_34 at hf
  obtain ⟨q35, e1, hf⟩ := jbind hf
  replace e1 := (jcv_o e1).2
  have f1 : jbq h q35.2 := (BQ_X12_throwsIf e1)
  replace hf := jite hf
  rcases hf with ⟨-, hf⟩ | ⟨-, hf⟩
  · replace hf := jite hf
    rcases hf with ⟨-, hf⟩ | ⟨-, hf⟩
    · obtain ⟨v86, e2, hf⟩ := jbind hf
      replace e2 := (jcv_o e2).2
      replace hf := jite hf
      rcases hf with ⟨-, hf⟩ | ⟨-, hf⟩
      · cases hf
        exact f1
      · obtain ⟨v98, e3, hf⟩ := jbind hf
        replace e3 := (jcv_o e3).2
        cases hf
        exact f1
    · replace hf := jite hf
      rcases hf with ⟨-, hf⟩ | ⟨-, hf⟩
      · obtain ⟨q105, e4, hf⟩ := jbind hf
        replace e4 := (jcv_o e4).2
        have f4 : jbq q35.2 q105.2 := (BQ_X12_byLaw e4)
        cases hf
        exact (jbq_tr f1 f4)
      · replace hf := jite hf
        rcases hf with ⟨-, hf⟩ | ⟨-, hf⟩
        · obtain ⟨q112, e5, hf⟩ := jbind hf
          replace e5 := (jcv_o e5).2
          have f5 : jbq q35.2 q112.2 := (BQ_X12_byLaw e5)
          cases hf
          exact (jbq_tr f1 f5)
        · replace hf := jite hf
          rcases hf with ⟨-, hf⟩ | ⟨-, hf⟩
          · obtain ⟨q119, e6, hf⟩ := jbind hf
            replace e6 := (jcv_o e6).2
            have f6 : jbq q35.2 q119.2 := (BQ_X12_byLaw e6)
            cases hf
            exact (jbq_tr f1 f6)
          · replace hf := jite hf
            rcases hf with ⟨-, hf⟩ | ⟨-, hf⟩
            · obtain ⟨v125, e7, hf⟩ := jbind hf
              replace e7 := (jcv_o e7).2
              cases hf
              exact f1
            · replace hf := jite hf
              rcases hf with ⟨-, hf⟩ | ⟨-, hf⟩
              · obtain ⟨v131, e8, hf⟩ := jbind hf
                replace e8 := (jcv_o e8).2
                cases hf
                exact f1
              · obtain ⟨v138, e9, hf⟩ := jbind hf
                replace e9 := (jcv_o e9).2
                cases hf
                exact f1
  · cases hf
    exact f1
theorem BQ_X12_ring {n : Nat} {a0 : Nat} {x1 : Int32} {x2 : Int32} {h : jH} {q : Int32 × jH} (hf : F_X12_ring n a0 x1 x2 h = some q) : jbq h q.2 := by
  unfold F_X12_ring at hf
  obtain ⟨h2, e1, hf⟩ := jbind hf
  have f1 : jbq h h2 := bm_pf e1
  obtain ⟨v8, e2, hf⟩ := jbind hf
  replace e2 := (jcv_o e2).2
  obtain ⟨q12, e3, hf⟩ := jbind hf
  replace e3 := (jcv_o e3).2
  have f3 : jbq h2 q12.2 := (BQ_X12_throwsIf e3)
  replace hf := jite hf
  rcases hf with ⟨-, hf⟩ | ⟨-, hf⟩
  · obtain ⟨v23, e4, hf⟩ := jbind hf
    replace hf := jite hf
    rcases hf with ⟨-, hf⟩ | ⟨-, hf⟩
    · exact (jbq_tr (jbq_tr f1 f3) (BQ_X12_ring_34 hf))
    · exact (jbq_tr (jbq_tr f1 f3) (BQ_X12_ring_34 hf))
  · cases hf
    exact (jbq_tr f1 f3)
theorem BQ_X12_keepsAll_2 {n : Nat} {k : Nat} : ∀ {a0 : Nat} {x1 : Int32} {h : jH} {q : jH}, F_X12_keepsAll_2 n k a0 x1 h = some q → jbq h q := by
  induction k with
  | zero =>
    intro a0 x1 h q hf
    cases hf
  | succ k ih =>
    intro a0 x1 h q hf
    replace hf : F_X12_keepsAll_2_b n (F_X12_keepsAll_2 n k) a0 x1 h = some q := hf
    unfold F_X12_keepsAll_2_b at hf
    replace hf := jite hf
    rcases hf with ⟨-, hf⟩ | ⟨-, hf⟩
    · cases hf
      exact jbq_rfl
    · obtain ⟨p10, e1, hf⟩ := jbind hf
      obtain ⟨p15, e2, hf⟩ := jbind hf
      obtain ⟨v19, e3, hf⟩ := jbind hf
      obtain ⟨h20, e4, hf⟩ := jbind hf
      have f4 : jbq h h20 := bm_as e4
      exact (jbq_tr f4 (ih  hf))
theorem BQ_X12_keepsAll {n : Nat} {a0 : Nat} {h : jH} {q : jH} (hf : F_X12_keepsAll n a0 h = some q) : jbq h q := by
  unfold F_X12_keepsAll at hf
  exact (BQ_X12_keepsAll_2 hf)
theorem BQ_X12_pulls_29 {n : Nat} {a0 : Nat} {x4 : Int32} {h : jH} {q : Int32 × jH} (hf : F_X12_pulls_29 n a0 x4 h = some q) : jbq h q.2 := by
  unfold F_X12_pulls_29 at hf
  obtain ⟨p30, e1, hf⟩ := jbind hf
  obtain ⟨p39, e2, hf⟩ := jbind hf
  obtain ⟨v44, e3, hf⟩ := jbind hf
  obtain ⟨v46, e4, hf⟩ := jbind hf
  obtain ⟨h53, e5, hf⟩ := jbind hf
  have f5 : jbq h h53 := bm_as e5
  cases hf
  exact f5
theorem BQ_X12_goesOne_52 {n : Nat} {rc10 : Nat → Int32 → Int32 → Int32 → jH → Option (Int32 × jH)} (hrc10 : ∀ {z0 : Nat} {z1 : Int32} {z2 : Int32} {z3 : Int32} {h : jH} {q : Int32 × jH}, rc10 z0 z1 z2 z3 h = some q → jbq h q.2) {a0 : Nat} {x2 : Int32} {x3 : Int32} {x4 : Int32} {sa0 : Nat} {s1 : Int32} {s2 : Int32} {s3 : Int32} {h : jH} {q : Int32 × jH} (hf : F_X12_goesOne_52 n rc10 a0 x2 x3 x4 sa0 s1 s2 s3 h = some q) : jbq h q.2 := by
  unfold F_X12_goesOne_52 at hf
  obtain ⟨h53, e1, hf⟩ := jbind hf
  have f1 : jbq h h53 := bm_as e1
  obtain ⟨v56, e2, hf⟩ := jbind hf
  obtain ⟨v63, e3, hf⟩ := jbind hf
  replace e3 := (jcv_o e3).2
  replace hf := jite hf
  rcases hf with ⟨-, hf⟩ | ⟨-, hf⟩
  · obtain ⟨h75, e4, hf⟩ := jbind hf
    have f4 : jbq h53 h75 := bm_pf e4
    exact (jbq_tr (jbq_tr f1 f4) (hrc10  hf))
  · obtain ⟨h75, e5, hf⟩ := jbind hf
    have f5 : jbq h53 h75 := bm_pf e5
    exact (jbq_tr (jbq_tr f1 f5) (hrc10  hf))
theorem BQ_X12_goesOne_10 {n : Nat} {k : Nat} : ∀ {a0 : Nat} {x2 : Int32} {x3 : Int32} {x4 : Int32} {h : jH} {q : Int32 × jH}, F_X12_goesOne_10 n k a0 x2 x3 x4 h = some q → jbq h q.2 := by
  induction k with
  | zero =>
    intro a0 x2 x3 x4 h q hf
    cases hf
  | succ k ih =>
    intro a0 x2 x3 x4 h q hf
    replace hf : F_X12_goesOne_10_b n (F_X12_goesOne_10 n k) a0 x2 x3 x4 h = some q := hf
    unfold F_X12_goesOne_10_b at hf
    obtain ⟨v13, e1, hf⟩ := jbind hf
    replace e1 := (jcv_o e1).2
    replace hf := jite hf
    rcases hf with ⟨-, hf⟩ | ⟨-, hf⟩
    · replace hf := jite hf
      rcases hf with ⟨-, hf⟩ | ⟨-, hf⟩
      · cases hf
        exact jbq_rfl
      · cases hf
        exact jbq_rfl
    · obtain ⟨v22, e2, hf⟩ := jbind hf
      replace hf := jite hf
      rcases hf with ⟨-, hf⟩ | ⟨-, hf⟩
      · exact (ih  hf)
      · obtain ⟨p32, e3, hf⟩ := jbind hf
        obtain ⟨v38, e4, hf⟩ := jbind hf
        obtain ⟨v42, e5, hf⟩ := jbind hf
        replace hf := jite hf
        rcases hf with ⟨-, hf⟩ | ⟨-, hf⟩
        · exact (BQ_X12_goesOne_52 ih hf)
        · exact (BQ_X12_goesOne_52 ih hf)
theorem BQ_X12_goesOne {n : Nat} {a0 : Nat} {x1 : Int32} {x2 : Int32} {h : jH} {q : Int32 × jH} (hf : F_X12_goesOne n a0 x1 x2 h = some q) : jbq h q.2 := by
  unfold F_X12_goesOne at hf
  obtain ⟨v3, e1, hf⟩ := jbind hf
  replace e1 := (jcv_o e1).2
  exact (BQ_X12_goesOne_10 hf)
theorem BQ_X12_pulls_8 {n : Nat} {k : Nat} : ∀ {a0 : Nat} {x1 : Int32} {x2 : Int32} {x3 : Int32} {x4 : Int32} {h : jH} {q : Int32 × jH}, F_X12_pulls_8 n k a0 x1 x2 x3 x4 h = some q → jbq h q.2 := by
  induction k with
  | zero =>
    intro a0 x1 x2 x3 x4 h q hf
    cases hf
  | succ k ih =>
    intro a0 x1 x2 x3 x4 h q hf
    replace hf : F_X12_pulls_8_b n (F_X12_pulls_8 n k) a0 x1 x2 x3 x4 h = some q := hf
    unfold F_X12_pulls_8_b at hf
    replace hf := jite hf
    rcases hf with ⟨-, hf⟩ | ⟨-, hf⟩
    · exact (BQ_X12_pulls_29 hf)
    · obtain ⟨q17, e1, hf⟩ := jbind hf
      replace e1 := (jcv_o e1).2
      have f1 : jbq h q17.2 := (BQ_X12_goesOne e1)
      replace hf := jite hf
      rcases hf with ⟨-, hf⟩ | ⟨-, hf⟩
      · exact (jbq_tr f1 (BQ_X12_pulls_29 hf))
      · exact (jbq_tr f1 (ih  hf))
theorem BQ_X12_pulls {n : Nat} {a0 : Nat} {x1 : Int32} {x2 : Int32} {x3 : Int32} {h : jH} {q : Int32 × jH} (hf : F_X12_pulls n a0 x1 x2 x3 h = some q) : jbq h q.2 := by
  unfold F_X12_pulls at hf
  obtain ⟨h2, e1, hf⟩ := jbind hf
  have f1 : jbq h h2 := bm_pf e1
  exact (jbq_tr f1 (BQ_X12_pulls_8 hf))
theorem BQ_X12_bringsBack_2 {n : Nat} {k : Nat} : ∀ {a0 : Nat} {x1 : Int32} {h : jH} {q : jH}, F_X12_bringsBack_2 n k a0 x1 h = some q → jbq h q := by
  induction k with
  | zero =>
    intro a0 x1 h q hf
    cases hf
  | succ k ih =>
    intro a0 x1 h q hf
    replace hf : F_X12_bringsBack_2_b n (F_X12_bringsBack_2 n k) a0 x1 h = some q := hf
    unfold F_X12_bringsBack_2_b at hf
    replace hf := jite hf
    rcases hf with ⟨-, hf⟩ | ⟨-, hf⟩
    · cases hf
      exact jbq_rfl
    · obtain ⟨p10, e1, hf⟩ := jbind hf
      obtain ⟨p15, e2, hf⟩ := jbind hf
      obtain ⟨v19, e3, hf⟩ := jbind hf
      obtain ⟨h20, e4, hf⟩ := jbind hf
      have f4 : jbq h h20 := bm_as e4
      exact (jbq_tr f4 (ih  hf))
theorem BQ_X12_bringsBack {n : Nat} {a0 : Nat} {h : jH} {q : jH} (hf : F_X12_bringsBack n a0 h = some q) : jbq h q := by
  unfold F_X12_bringsBack at hf
  exact (BQ_X12_bringsBack_2 hf)
theorem BQ_X12_goes {n : Nat} {a0 : Nat} {x1 : Int32} {x2 : Int32} {h : jH} {q : Int32 × jH} (hf : F_X12_goes n a0 x1 x2 h = some q) : jbq h q.2 := by
  unfold F_X12_goes at hf
  obtain ⟨h2, e1, hf⟩ := jbind hf
  have f1 : jbq h h2 := bm_pf e1
  obtain ⟨v8, e2, hf⟩ := jbind hf
  replace e2 := (jcv_o e2).2
  obtain ⟨q12, e3, hf⟩ := jbind hf
  replace e3 := (jcv_o e3).2
  have f3 : jbq h2 q12.2 := (BQ_X12_throwsIf e3)
  replace hf := jite hf
  rcases hf with ⟨-, hf⟩ | ⟨-, hf⟩
  · obtain ⟨h21, e4, hf⟩ := jbind hf
    replace e4 := (jcv_o e4).2
    have f4 : jbq q12.2 h21 := (BQ_X12_keepsAll e4)
    obtain ⟨q29, e5, hf⟩ := jbind hf
    replace e5 := (jcv_o e5).2
    have f5 : jbq h21 q29.2 := (BQ_X12_pulls e5)
    obtain ⟨h34, e6, hf⟩ := jbind hf
    replace e6 := (jcv_o e6).2
    have f6 : jbq q29.2 h34 := (BQ_X12_bringsBack e6)
    cases hf
    exact (jbq_tr (jbq_tr (jbq_tr (jbq_tr f1 f3) f4) f5) f6)
  · cases hf
    exact (jbq_tr f1 f3)
theorem BQ_X12_with {n : Nat} {a0 : Nat} {x1 : Int32} {x2 : Int32} {h : jH} {q : Int32 × jH} (hf : F_X12_with n a0 x1 x2 h = some q) : jbq h q.2 := by
  unfold F_X12_with at hf
  obtain ⟨h2, e1, hf⟩ := jbind hf
  have f1 : jbq h h2 := bm_pf e1
  obtain ⟨v8, e2, hf⟩ := jbind hf
  replace e2 := (jcv_o e2).2
  obtain ⟨q12, e3, hf⟩ := jbind hf
  replace e3 := (jcv_o e3).2
  have f3 : jbq h2 q12.2 := (BQ_X12_throwsIf e3)
  replace hf := jite hf
  rcases hf with ⟨-, hf⟩ | ⟨-, hf⟩
  · obtain ⟨v25, e4, hf⟩ := jbind hf
    replace e4 := (jcv_o e4).2
    cases hf
    exact (jbq_tr f1 f3)
  · cases hf
    exact (jbq_tr f1 f3)
theorem BQ_X12_would_60 {n : Nat} {a0 : Nat} {s0 : Int32} {h : jH} {q : Int32 × jH} (hf : F_X12_would_60 n a0 s0 h = some q) : jbq h q.2 := by
  unfold F_X12_would_60 at hf
  obtain ⟨h63, e1, hf⟩ := jbind hf
  replace e1 := (jcv_o e1).2
  have f1 : jbq h h63 := (BQ_X12_bringsBack e1)
  cases hf
  exact f1
theorem BQ_X12_would {n : Nat} {a0 : Nat} {x1 : Int32} {x2 : Int32} {x3 : Int32} {x4 : Int32} {h : jH} {q : Int32 × jH} (hf : F_X12_would n a0 x1 x2 x3 x4 h = some q) : jbq h q.2 := by
  unfold F_X12_would at hf
  obtain ⟨h2, e1, hf⟩ := jbind hf
  have f1 : jbq h h2 := bm_pf e1
  obtain ⟨v8, e2, hf⟩ := jbind hf
  replace e2 := (jcv_o e2).2
  obtain ⟨q12, e3, hf⟩ := jbind hf
  replace e3 := (jcv_o e3).2
  have f3 : jbq h2 q12.2 := (BQ_X12_throwsIf e3)
  replace hf := jite hf
  rcases hf with ⟨-, hf⟩ | ⟨-, hf⟩
  · obtain ⟨v20, e4, hf⟩ := jbind hf
    obtain ⟨q24, e5, hf⟩ := jbind hf
    replace e5 := (jcv_o e5).2
    have f5 : jbq q12.2 q24.2 := (BQ_X12_throwsIf e5)
    replace hf := jite hf
    rcases hf with ⟨-, hf⟩ | ⟨-, hf⟩
    · obtain ⟨h33, e6, hf⟩ := jbind hf
      replace e6 := (jcv_o e6).2
      have f6 : jbq q24.2 h33 := (BQ_X12_keepsAll e6)
      obtain ⟨q40, e7, hf⟩ := jbind hf
      replace e7 := (jcv_o e7).2
      have f7 : jbq h33 q40.2 := (BQ_X12_pulls e7)
      replace hf := jite hf
      rcases hf with ⟨-, hf⟩ | ⟨-, hf⟩
      · obtain ⟨v57, e8, hf⟩ := jbind hf
        replace e8 := (jcv_o e8).2
        exact (jbq_tr (jbq_tr (jbq_tr (jbq_tr (jbq_tr f1 f3) f5) f6) f7) (BQ_X12_would_60 hf))
      · obtain ⟨v50, e9, hf⟩ := jbind hf
        exact (jbq_tr (jbq_tr (jbq_tr (jbq_tr (jbq_tr f1 f3) f5) f6) f7) (BQ_X12_would_60 hf))
    · cases hf
      exact (jbq_tr (jbq_tr f1 f3) f5)
  · cases hf
    exact (jbq_tr f1 f3)
theorem BQ_X12_uses {n : Nat} {a0 : Nat} {h : jH} {q : jH} (hf : F_X12_uses n a0 h = some q) : jbq h q := by
  unfold F_X12_uses at hf
  obtain ⟨h2, e1, hf⟩ := jbind hf
  have f1 : jbq h h2 := bm_pf e1
  obtain ⟨v7, e2, hf⟩ := jbind hf
  obtain ⟨h10, e3, hf⟩ := jbind hf
  have f3 : jbq h2 h10 := bm_pf e3
  obtain ⟨h15, e4, hf⟩ := jbind hf
  have f4 : jbq h10 h15 := bm_pf e4
  obtain ⟨h20, e5, hf⟩ := jbind hf
  have f5 : jbq h15 h20 := bm_pf e5
  cases hf
  exact (jbq_tr (jbq_tr (jbq_tr f1 f3) f4) f5)
theorem BQ_X12_areCaught_2 {n : Nat} {k : Nat} : ∀ {a0 : Nat} {x1 : Int32} {x2 : Int32} {h : jH} {q : jH}, F_X12_areCaught_2 n k a0 x1 x2 h = some q → jbq h q := by
  induction k with
  | zero =>
    intro a0 x1 x2 h q hf
    cases hf
  | succ k ih =>
    intro a0 x1 x2 h q hf
    replace hf : F_X12_areCaught_2_b n (F_X12_areCaught_2 n k) a0 x1 x2 h = some q := hf
    unfold F_X12_areCaught_2_b at hf
    obtain ⟨v4, e1, hf⟩ := jbind hf
    replace e1 := (jcv_o e1).2
    replace hf := jite hf
    rcases hf with ⟨-, hf⟩ | ⟨-, hf⟩
    · cases hf
      exact jbq_rfl
    · obtain ⟨p11, e2, hf⟩ := jbind hf
      obtain ⟨v17, e3, hf⟩ := jbind hf
      obtain ⟨v22, e4, hf⟩ := jbind hf
      replace hf := jite hf
      rcases hf with ⟨-, hf⟩ | ⟨-, hf⟩
      · obtain ⟨h33, e5, hf⟩ := jbind hf
        have f5 : jbq h h33 := bm_as e5
        exact (jbq_tr f5 (ih  hf))
      · obtain ⟨h33, e6, hf⟩ := jbind hf
        have f6 : jbq h h33 := bm_as e6
        exact (jbq_tr f6 (ih  hf))
theorem BQ_X12_areCaught {n : Nat} {a0 : Nat} {x1 : Int32} {h : jH} {q : jH} (hf : F_X12_areCaught n a0 x1 h = some q) : jbq h q := by
  unfold F_X12_areCaught at hf
  exact (BQ_X12_areCaught_2 hf)
theorem BQ_X12_wentWith {n : Nat} {a0 : Nat} {x1 : Int32} {x2 : Int32} {x3 : Int32} {x4 : Int32} {h : jH} {q : Int32 × jH} (hf : F_X12_wentWith n a0 x1 x2 x3 x4 h = some q) : jbq h q.2 := by
  unfold F_X12_wentWith at hf
  obtain ⟨h1, e1, hf⟩ := jbind hf
  replace e1 := (jcv_o e1).2
  have f1 : jbq h h1 := (BQ_X12_keepsAll e1)
  obtain ⟨h6, e2, hf⟩ := jbind hf
  replace e2 := (jcv_o e2).2
  have f2 : jbq h1 h6 := (BQ_X12_areCaught e2)
  obtain ⟨q14, e3, hf⟩ := jbind hf
  replace e3 := (jcv_o e3).2
  have f3 : jbq h6 q14.2 := (BQ_X12_pulls e3)
  obtain ⟨h20, e4, hf⟩ := jbind hf
  replace e4 := (jcv_o e4).2
  have f4 : jbq q14.2 h20 := (BQ_X12_bringsBack e4)
  cases hf
  exact (jbq_tr (jbq_tr (jbq_tr f1 f2) f3) f4)
theorem BQ_X12_fits_41 {n : Nat} {rc4 : Nat → Int32 → Int32 → Int32 → jH → Option (Int32 × jH)} (hrc4 : ∀ {z0 : Nat} {z1 : Int32} {z2 : Int32} {z3 : Int32} {h : jH} {q : Int32 × jH}, rc4 z0 z1 z2 z3 h = some q → jbq h q.2) {a0 : Nat} {x1 : Int32} {x3 : Int32} {sa0 : Nat} {s1 : Int32} {s2 : Int32} {s3 : Int32} {h : jH} {q : Int32 × jH} (hf : F_X12_fits_41 n rc4 a0 x1 x3 sa0 s1 s2 s3 h = some q) : jbq h q.2 := by
  unfold F_X12_fits_41 at hf
  obtain ⟨p42, e1, hf⟩ := jbind hf
  obtain ⟨v48, e2, hf⟩ := jbind hf
  obtain ⟨q49, e3, hf⟩ := jbind hf
  replace e3 := (jcv_o e3).2
  have f3 : jbq h q49.2 := (BQ_X12_wentWith e3)
  obtain ⟨p53, e4, hf⟩ := jbind hf
  obtain ⟨v59, e5, hf⟩ := jbind hf
  replace hf := jite hf
  rcases hf with ⟨-, hf⟩ | ⟨-, hf⟩
  · exact (jbq_tr f3 (hrc4  hf))
  · exact (jbq_tr f3 (hrc4  hf))
theorem BQ_X12_fits_4 {n : Nat} {k : Nat} : ∀ {a0 : Nat} {x1 : Int32} {x2 : Int32} {x3 : Int32} {h : jH} {q : Int32 × jH}, F_X12_fits_4 n k a0 x1 x2 x3 h = some q → jbq h q.2 := by
  induction k with
  | zero =>
    intro a0 x1 x2 x3 h q hf
    cases hf
  | succ k ih =>
    intro a0 x1 x2 x3 h q hf
    replace hf : F_X12_fits_4_b n (F_X12_fits_4 n k) a0 x1 x2 x3 h = some q := hf
    unfold F_X12_fits_4_b at hf
    obtain ⟨v6, e1, hf⟩ := jbind hf
    replace hf := jite hf
    rcases hf with ⟨-, hf⟩ | ⟨-, hf⟩
    · replace hf := jite hf
      rcases hf with ⟨-, hf⟩ | ⟨-, hf⟩
      · cases hf
        exact jbq_rfl
      · cases hf
    · replace hf := jite hf
      rcases hf with ⟨-, hf⟩ | ⟨-, hf⟩
      · replace hf := jite hf
        rcases hf with ⟨-, hf⟩ | ⟨-, hf⟩
        · cases hf
          exact jbq_rfl
        · cases hf
      · obtain ⟨p19, e2, hf⟩ := jbind hf
        obtain ⟨v23, e3, hf⟩ := jbind hf
        obtain ⟨p25, e4, hf⟩ := jbind hf
        obtain ⟨v31, e5, hf⟩ := jbind hf
        replace hf := jite hf
        rcases hf with ⟨-, hf⟩ | ⟨-, hf⟩
        · exact (BQ_X12_fits_41 ih hf)
        · exact (BQ_X12_fits_41 ih hf)
theorem BQ_X12_fits {n : Nat} {a0 : Nat} {x1 : Int32} {h : jH} {q : Int32 × jH} (hf : F_X12_fits n a0 x1 h = some q) : jbq h q.2 := by
  unfold F_X12_fits at hf
  exact (BQ_X12_fits_4 hf)
theorem BQ_X12_snags_36 {n : Nat} {k : Nat} : ∀ {a0 : Nat} {x1 : Int32} {x2 : Int32} {x3 : Int32} {x4 : Int32} {h : jH} {q : Int32 × jH}, F_X12_snags_36 n k a0 x1 x2 x3 x4 h = some q → jbq h q.2 := by
  induction k with
  | zero =>
    intro a0 x1 x2 x3 x4 h q hf
    cases hf
  | succ k ih =>
    intro a0 x1 x2 x3 x4 h q hf
    replace hf : F_X12_snags_36_b n (F_X12_snags_36 n k) a0 x1 x2 x3 x4 h = some q := hf
    unfold F_X12_snags_36_b at hf
    obtain ⟨v39, e1, hf⟩ := jbind hf
    replace e1 := (jcv_o e1).2
    replace hf := jite hf
    rcases hf with ⟨-, hf⟩ | ⟨-, hf⟩
    · replace hf := jite hf
      rcases hf with ⟨-, hf⟩ | ⟨-, hf⟩
      · cases hf
        exact jbq_rfl
      · replace hf := jite hf
        rcases hf with ⟨-, hf⟩ | ⟨-, hf⟩
        · cases hf
          exact jbq_rfl
        · cases hf
          exact jbq_rfl
    · obtain ⟨q48, e2, hf⟩ := jbind hf
      replace e2 := (jcv_o e2).2
      have f2 : jbq h q48.2 := (BQ_X12_fits e2)
      replace hf := jite hf
      rcases hf with ⟨-, hf⟩ | ⟨-, hf⟩
      · exact (jbq_tr f2 (ih  hf))
      · exact (jbq_tr f2 (ih  hf))
theorem BQ_X12_snags_17 {n : Nat} {a0 : Nat} {x1 : Int32} {sa0 : Nat} {s1 : Int32} {h : jH} {q : Int32 × jH} (hf : F_X12_snags_17 n a0 x1 sa0 s1 h = some q) : jbq h q.2 := by
  unfold F_X12_snags_17 at hf
  obtain ⟨q18, e1, hf⟩ := jbind hf
  replace e1 := (jcv_o e1).2
  have f1 : jbq h q18.2 := (BQ_X12_throwsIf e1)
  replace hf := jite hf
  rcases hf with ⟨-, hf⟩ | ⟨-, hf⟩
  · obtain ⟨v29, e2, hf⟩ := jbind hf
    replace e2 := (jcv_o e2).2
    exact (jbq_tr f1 (BQ_X12_snags_36 hf))
  · cases hf
    exact f1
theorem BQ_X12_snags {n : Nat} {a0 : Nat} {x1 : Int32} {h : jH} {q : Int32 × jH} (hf : F_X12_snags n a0 x1 h = some q) : jbq h q.2 := by
  unfold F_X12_snags at hf
  obtain ⟨h1, e1, hf⟩ := jbind hf
  replace e1 := (jcv_o e1).2
  have f1 : jbq h h1 := (BQ_X12_uses e1)
  obtain ⟨v6, e2, hf⟩ := jbind hf
  replace e2 := (jcv_o e2).2
  replace hf := jite hf
  rcases hf with ⟨-, hf⟩ | ⟨-, hf⟩
  · exact (jbq_tr f1 (BQ_X12_snags_17 hf))
  · exact (jbq_tr f1 (BQ_X12_snags_17 hf))
theorem BQ_X12_partBy_29 {n : Nat} {k : Nat} : ∀ {a0 : Nat} {x1 : Int32} {x2 : Int32} {x3 : Int32} {x4 : Int32} {h : jH} {q : Int32 × jH}, F_X12_partBy_29 n k a0 x1 x2 x3 x4 h = some q → jbq h q.2 := by
  induction k with
  | zero =>
    intro a0 x1 x2 x3 x4 h q hf
    cases hf
  | succ k ih =>
    intro a0 x1 x2 x3 x4 h q hf
    replace hf : F_X12_partBy_29_b n (F_X12_partBy_29 n k) a0 x1 x2 x3 x4 h = some q := hf
    unfold F_X12_partBy_29_b at hf
    obtain ⟨v32, e1, hf⟩ := jbind hf
    replace e1 := (jcv_o e1).2
    replace hf := jite hf
    rcases hf with ⟨-, hf⟩ | ⟨-, hf⟩
    · cases hf
      exact jbq_rfl
    · obtain ⟨p39, e2, hf⟩ := jbind hf
      obtain ⟨v44, e3, hf⟩ := jbind hf
      replace hf := jite hf
      rcases hf with ⟨-, hf⟩ | ⟨-, hf⟩
      · exact (ih  hf)
      · obtain ⟨q58, e4, hf⟩ := jbind hf
        replace e4 := (jcv_o e4).2
        have f4 : jbq h q58.2 := (BQ_X12_wentWith e4)
        obtain ⟨p64, e5, hf⟩ := jbind hf
        obtain ⟨v70, e6, hf⟩ := jbind hf
        obtain ⟨h73, e7, hf⟩ := jbind hf
        have f7 : jbq q58.2 h73 := bm_as e7
        obtain ⟨p76, e8, hf⟩ := jbind hf
        obtain ⟨v81, e9, hf⟩ := jbind hf
        exact (jbq_tr (jbq_tr f4 f7) (ih  hf))
theorem BQ_X12_partBy_5 {n : Nat} {k : Nat} : ∀ {a0 : Nat} {x1 : Int32} {x2 : Int32} {x3 : Int32} {x4 : Int32} {h : jH} {q : Int32 × jH}, F_X12_partBy_5 n k a0 x1 x2 x3 x4 h = some q → jbq h q.2 := by
  induction k with
  | zero =>
    intro a0 x1 x2 x3 x4 h q hf
    cases hf
  | succ k ih =>
    intro a0 x1 x2 x3 x4 h q hf
    replace hf : F_X12_partBy_5_b n (F_X12_partBy_5 n k) a0 x1 x2 x3 x4 h = some q := hf
    unfold F_X12_partBy_5_b at hf
    replace hf := jite hf
    rcases hf with ⟨-, hf⟩ | ⟨-, hf⟩
    · exact (BQ_X12_partBy_29 hf)
    · obtain ⟨p13, e1, hf⟩ := jbind hf
      obtain ⟨h19, e2, hf⟩ := jbind hf
      have f2 : jbq h h19 := bm_as e2
      exact (jbq_tr f2 (ih  hf))
theorem BQ_X12_partBy {n : Nat} {a0 : Nat} {x1 : Int32} {x2 : Int32} {h : jH} {q : Int32 × jH} (hf : F_X12_partBy n a0 x1 x2 h = some q) : jbq h q.2 := by
  unfold F_X12_partBy at hf
  exact (BQ_X12_partBy_5 hf)
theorem BQ_X12_tries_132 {n : Nat} {rc81 : Nat → Int32 → Int32 → Int32 → Int32 → jH → Option (Int32 × jH)} (hrc81 : ∀ {z0 : Nat} {z1 : Int32} {z2 : Int32} {z3 : Int32} {z4 : Int32} {h : jH} {q : Int32 × jH}, rc81 z0 z1 z2 z3 z4 h = some q → jbq h q.2) {a0 : Nat} {x1 : Int32} {x3 : Int32} {x4 : Int32} {x5 : Int32} {s0 : Int32} {h : jH} {q : Int32 × jH} (hf : F_X12_tries_132 n rc81 a0 x1 x3 x4 x5 s0 h = some q) : jbq h q.2 := by
  unfold F_X12_tries_132 at hf
  exact (hrc81  hf)
theorem BQ_X12_tries_115 {n : Nat} {rc81 : Nat → Int32 → Int32 → Int32 → Int32 → jH → Option (Int32 × jH)} (hrc81 : ∀ {z0 : Nat} {z1 : Int32} {z2 : Int32} {z3 : Int32} {z4 : Int32} {h : jH} {q : Int32 × jH}, rc81 z0 z1 z2 z3 z4 h = some q → jbq h q.2) {a0 : Nat} {x1 : Int32} {x2 : Int32} {x3 : Int32} {x4 : Int32} {sa0 : Nat} {s1 : Int32} {s2 : Int32} {h : jH} {q : Int32 × jH} (hf : F_X12_tries_115 n rc81 a0 x1 x2 x3 x4 sa0 s1 s2 h = some q) : jbq h q.2 := by
  unfold F_X12_tries_115 at hf
  obtain ⟨q115, e1, hf⟩ := jbind hf
  replace e1 := (jcv_o e1).2
  have f1 : jbq h q115.2 := (BQ_X12_partBy e1)
  replace hf := jite hf
  rcases hf with ⟨-, hf⟩ | ⟨-, hf⟩
  · exact (jbq_tr f1 (BQ_X12_tries_132 hrc81 hf))
  · exact (jbq_tr f1 (BQ_X12_tries_132 hrc81 hf))
theorem BQ_X12_tries_81 {n : Nat} {k : Nat} : ∀ {a0 : Nat} {x1 : Int32} {x2 : Int32} {x3 : Int32} {x4 : Int32} {h : jH} {q : Int32 × jH}, F_X12_tries_81 n k a0 x1 x2 x3 x4 h = some q → jbq h q.2 := by
  induction k with
  | zero =>
    intro a0 x1 x2 x3 x4 h q hf
    cases hf
  | succ k ih =>
    intro a0 x1 x2 x3 x4 h q hf
    replace hf : F_X12_tries_81_b n (F_X12_tries_81 n k) a0 x1 x2 x3 x4 h = some q := hf
    unfold F_X12_tries_81_b at hf
    obtain ⟨v85, e1, hf⟩ := jbind hf
    replace e1 := (jcv_o e1).2
    replace hf := jite hf
    rcases hf with ⟨-, hf⟩ | ⟨-, hf⟩
    · cases hf
      exact jbq_rfl
    · replace hf := jite hf
      rcases hf with ⟨-, hf⟩ | ⟨-, hf⟩
      · cases hf
        exact jbq_rfl
      · replace hf := jite hf
        rcases hf with ⟨-, hf⟩ | ⟨-, hf⟩
        · exact (BQ_X12_tries_115 ih hf)
        · exact (BQ_X12_tries_115 ih hf)
theorem BQ_X12_tries_30 {n : Nat} {k : Nat} : ∀ {a0 : Nat} {x1 : Int32} {x2 : Int32} {h : jH} {q : Int32 × jH}, F_X12_tries_30 n k a0 x1 x2 h = some q → jbq h q.2 := by
  induction k with
  | zero =>
    intro a0 x1 x2 h q hf
    cases hf
  | succ k ih =>
    intro a0 x1 x2 h q hf
    replace hf : F_X12_tries_30_b n (F_X12_tries_30 n k) a0 x1 x2 h = some q := hf
    unfold F_X12_tries_30_b at hf
    obtain ⟨v32, e1, hf⟩ := jbind hf
    replace e1 := (jcv_o e1).2
    replace hf := jite hf
    rcases hf with ⟨-, hf⟩ | ⟨-, hf⟩
    · exact (BQ_X12_tries_81 hf)
    · obtain ⟨p39, e2, hf⟩ := jbind hf
      obtain ⟨q45, e3, hf⟩ := jbind hf
      replace e3 := (jcv_o e3).2
      have f3 : jbq h q45.2 := (BQ_X12_fits e3)
      obtain ⟨h48, e4, hf⟩ := jbind hf
      have f4 : jbq q45.2 h48 := bm_as e4
      obtain ⟨p51, e5, hf⟩ := jbind hf
      obtain ⟨v55, e6, hf⟩ := jbind hf
      replace hf := jite hf
      rcases hf with ⟨-, hf⟩ | ⟨-, hf⟩
      · exact (jbq_tr (jbq_tr f3 f4) (ih  hf))
      · exact (jbq_tr (jbq_tr f3 f4) (ih  hf))
theorem BQ_X12_tries_17 {n : Nat} {a0 : Nat} {sa0 : Nat} {s1 : Int32} {h : jH} {q : Int32 × jH} (hf : F_X12_tries_17 n a0 sa0 s1 h = some q) : jbq h q.2 := by
  unfold F_X12_tries_17 at hf
  obtain ⟨q18, e1, hf⟩ := jbind hf
  replace e1 := (jcv_o e1).2
  have f1 : jbq h q18.2 := (BQ_X12_throwsIf e1)
  replace hf := jite hf
  rcases hf with ⟨-, hf⟩ | ⟨-, hf⟩
  · exact (jbq_tr f1 (BQ_X12_tries_30 hf))
  · cases hf
    exact f1
theorem BQ_X12_tries {n : Nat} {a0 : Nat} {h : jH} {q : Int32 × jH} (hf : F_X12_tries n a0 h = some q) : jbq h q.2 := by
  unfold F_X12_tries at hf
  obtain ⟨h1, e1, hf⟩ := jbind hf
  replace e1 := (jcv_o e1).2
  have f1 : jbq h h1 := (BQ_X12_uses e1)
  obtain ⟨v6, e2, hf⟩ := jbind hf
  replace e2 := (jcv_o e2).2
  replace hf := jite hf
  rcases hf with ⟨-, hf⟩ | ⟨-, hf⟩
  · exact (jbq_tr f1 (BQ_X12_tries_17 hf))
  · exact (jbq_tr f1 (BQ_X12_tries_17 hf))
theorem BQ_X12_loosen_51 {n : Nat} {k : Nat} : ∀ {a0 : Nat} {x1 : Int32} {x2 : Int32} {x3 : Int32} {x4 : Int32} {x5 : Int32} {x6 : Int32} {x7 : Int32} {h : jH} {q : Int32 × jH}, F_X12_loosen_51 n k a0 x1 x2 x3 x4 x5 x6 x7 h = some q → jbq h q.2 := by
  induction k with
  | zero =>
    intro a0 x1 x2 x3 x4 x5 x6 x7 h q hf
    cases hf
  | succ k ih =>
    intro a0 x1 x2 x3 x4 x5 x6 x7 h q hf
    replace hf : F_X12_loosen_51_b n (F_X12_loosen_51 n k) a0 x1 x2 x3 x4 x5 x6 x7 h = some q := hf
    unfold F_X12_loosen_51_b at hf
    replace hf := jite hf
    rcases hf with ⟨-, hf⟩ | ⟨-, hf⟩
    · cases hf
      exact jbq_rfl
    · replace hf := jite hf
      rcases hf with ⟨-, hf⟩ | ⟨-, hf⟩
      · obtain ⟨v70, e1, hf⟩ := jbind hf
        replace hf := jite hf
        rcases hf with ⟨-, hf⟩ | ⟨-, hf⟩
        · exact (ih  hf)
        · obtain ⟨q89, e2, hf⟩ := jbind hf
          replace e2 := (jcv_o e2).2
          have f2 : jbq h q89.2 := (BQ_X12_wentWith e2)
          replace hf := jite hf
          rcases hf with ⟨-, hf⟩ | ⟨-, hf⟩
          · obtain ⟨v105, e3, hf⟩ := jbind hf
            exact (jbq_tr f2 (ih  hf))
          · exact (jbq_tr f2 (ih  hf))
      · exact (ih  hf)
theorem BQ_X12_loosen {n : Nat} {a0 : Nat} {x1 : Int32} {x2 : Int32} {x3 : Int32} {h : jH} {q : Int32 × jH} (hf : F_X12_loosen n a0 x1 x2 x3 h = some q) : jbq h q.2 := by
  unfold F_X12_loosen at hf
  obtain ⟨h2, e1, hf⟩ := jbind hf
  have f1 : jbq h h2 := bm_pf e1
  obtain ⟨v8, e2, hf⟩ := jbind hf
  replace e2 := (jcv_o e2).2
  obtain ⟨q12, e3, hf⟩ := jbind hf
  replace e3 := (jcv_o e3).2
  have f3 : jbq h2 q12.2 := (BQ_X12_throwsIf e3)
  replace hf := jite hf
  rcases hf with ⟨-, hf⟩ | ⟨-, hf⟩
  · obtain ⟨v20, e4, hf⟩ := jbind hf
    obtain ⟨q24, e5, hf⟩ := jbind hf
    replace e5 := (jcv_o e5).2
    have f5 : jbq q12.2 q24.2 := (BQ_X12_throwsIf e5)
    replace hf := jite hf
    rcases hf with ⟨-, hf⟩ | ⟨-, hf⟩
    · obtain ⟨v35, e6, hf⟩ := jbind hf
      replace e6 := (jcv_o e6).2
      exact (jbq_tr (jbq_tr (jbq_tr f1 f3) f5) (BQ_X12_loosen_51 hf))
    · cases hf
      exact (jbq_tr (jbq_tr f1 f3) f5)
  · cases hf
    exact (jbq_tr f1 f3)
theorem BQ_X12_tight_83 {n : Nat} {rc39 : Nat → Int32 → Int32 → Int32 → Int32 → jH → Option (Int32 × jH)} (hrc39 : ∀ {z0 : Nat} {z1 : Int32} {z2 : Int32} {z3 : Int32} {z4 : Int32} {h : jH} {q : Int32 × jH}, rc39 z0 z1 z2 z3 z4 h = some q → jbq h q.2) {a0 : Nat} {x1 : Int32} {x3 : Int32} {x4 : Int32} {x5 : Int32} {s0 : Int32} {h : jH} {q : Int32 × jH} (hf : F_X12_tight_83 n rc39 a0 x1 x3 x4 x5 s0 h = some q) : jbq h q.2 := by
  unfold F_X12_tight_83 at hf
  exact (hrc39  hf)
theorem BQ_X12_tight_39 {n : Nat} {k : Nat} : ∀ {a0 : Nat} {x1 : Int32} {x2 : Int32} {x3 : Int32} {x4 : Int32} {h : jH} {q : Int32 × jH}, F_X12_tight_39 n k a0 x1 x2 x3 x4 h = some q → jbq h q.2 := by
  induction k with
  | zero =>
    intro a0 x1 x2 x3 x4 h q hf
    cases hf
  | succ k ih =>
    intro a0 x1 x2 x3 x4 h q hf
    replace hf : F_X12_tight_39_b n (F_X12_tight_39 n k) a0 x1 x2 x3 x4 h = some q := hf
    unfold F_X12_tight_39_b at hf
    obtain ⟨v44, e1, hf⟩ := jbind hf
    replace e1 := (jcv_o e1).2
    replace hf := jite hf
    rcases hf with ⟨-, hf⟩ | ⟨-, hf⟩
    · cases hf
      exact jbq_rfl
    · obtain ⟨v58, e2, hf⟩ := jbind hf
      replace e2 := (jcv_o e2).2
      obtain ⟨v65, e3, hf⟩ := jbind hf
      replace e3 := (jcv_o e3).2
      replace hf := jite hf
      rcases hf with ⟨-, hf⟩ | ⟨-, hf⟩
      · exact (BQ_X12_tight_83 ih hf)
      · exact (BQ_X12_tight_83 ih hf)
theorem BQ_X12_tight_21 {n : Nat} {a0 : Nat} {x1 : Int32} {sa0 : Nat} {s1 : Int32} {h : jH} {q : Int32 × jH} (hf : F_X12_tight_21 n a0 x1 sa0 s1 h = some q) : jbq h q.2 := by
  unfold F_X12_tight_21 at hf
  obtain ⟨q22, e1, hf⟩ := jbind hf
  replace e1 := (jcv_o e1).2
  have f1 : jbq h q22.2 := (BQ_X12_throwsIf e1)
  replace hf := jite hf
  rcases hf with ⟨-, hf⟩ | ⟨-, hf⟩
  · exact (jbq_tr f1 (BQ_X12_tight_39 hf))
  · cases hf
    exact f1
theorem BQ_X12_tight {n : Nat} {a0 : Nat} {x1 : Int32} {h : jH} {q : Int32 × jH} (hf : F_X12_tight n a0 x1 h = some q) : jbq h q.2 := by
  unfold F_X12_tight at hf
  obtain ⟨h2, e1, hf⟩ := jbind hf
  have f1 : jbq h h2 := bm_pf e1
  obtain ⟨v10, e2, hf⟩ := jbind hf
  replace hf := jite hf
  rcases hf with ⟨-, hf⟩ | ⟨-, hf⟩
  · exact (jbq_tr f1 (BQ_X12_tight_21 hf))
  · exact (jbq_tr f1 (BQ_X12_tight_21 hf))
theorem BQ_X12_lit_21 {n : Nat} {a0 : Nat} {x1 : Int32} {sa0 : Nat} {s1 : Int32} {h : jH} {q : Int32 × jH} (hf : F_X12_lit_21 n a0 x1 sa0 s1 h = some q) : jbq h q.2 := by
  unfold F_X12_lit_21 at hf
  obtain ⟨q22, e1, hf⟩ := jbind hf
  replace e1 := (jcv_o e1).2
  have f1 : jbq h q22.2 := (BQ_X12_throwsIf e1)
  replace hf := jite hf
  rcases hf with ⟨-, hf⟩ | ⟨-, hf⟩
  · obtain ⟨v34, e2, hf⟩ := jbind hf
    replace e2 := (jcv_o e2).2
    cases hf
    exact f1
  · cases hf
    exact f1
theorem BQ_X12_lit {n : Nat} {a0 : Nat} {x1 : Int32} {h : jH} {q : Int32 × jH} (hf : F_X12_lit n a0 x1 h = some q) : jbq h q.2 := by
  unfold F_X12_lit at hf
  obtain ⟨h2, e1, hf⟩ := jbind hf
  have f1 : jbq h h2 := bm_pf e1
  obtain ⟨v10, e2, hf⟩ := jbind hf
  replace hf := jite hf
  rcases hf with ⟨-, hf⟩ | ⟨-, hf⟩
  · exact (jbq_tr f1 (BQ_X12_lit_21 hf))
  · exact (jbq_tr f1 (BQ_X12_lit_21 hf))
theorem BQ_X12_drawn {n : Nat} {a0 : Nat} {x1 : Int32} {h : jH} {q : Int32 × jH} (hf : F_X12_drawn n a0 x1 h = some q) : jbq h q.2 := by
  unfold F_X12_drawn at hf
  obtain ⟨p1, e1, hf⟩ := jbind hf
  obtain ⟨p9, e2, hf⟩ := jbind hf
  obtain ⟨v14, e3, hf⟩ := jbind hf
  obtain ⟨h20, e4, hf⟩ := jbind hf
  have f4 : jbq h h20 := bm_as e4
  obtain ⟨p22, e5, hf⟩ := jbind hf
  obtain ⟨v27, e6, hf⟩ := jbind hf
  replace hf := jite hf
  rcases hf with ⟨-, hf⟩ | ⟨-, hf⟩
  · cases hf
  · cases hf
    exact f4
theorem BQ_X12_tells_5 {n : Nat} {k : Nat} : ∀ {a0 : Nat} {x1 : Int32} {x2 : Int32} {x3 : Int32} {x4 : Int32} {h : jH} {q : jH}, F_X12_tells_5 n k a0 x1 x2 x3 x4 h = some q → jbq h q := by
  induction k with
  | zero =>
    intro a0 x1 x2 x3 x4 h q hf
    cases hf
  | succ k ih =>
    intro a0 x1 x2 x3 x4 h q hf
    replace hf : F_X12_tells_5_b n (F_X12_tells_5 n k) a0 x1 x2 x3 x4 h = some q := hf
    unfold F_X12_tells_5_b at hf
    replace hf := jite hf
    rcases hf with ⟨-, hf⟩ | ⟨-, hf⟩
    · obtain ⟨p42, e1, hf⟩ := jbind hf
      obtain ⟨p48, e2, hf⟩ := jbind hf
      obtain ⟨v52, e3, hf⟩ := jbind hf
      obtain ⟨h53, e4, hf⟩ := jbind hf
      have f4 : jbq h h53 := bm_as e4
      obtain ⟨p55, e5, hf⟩ := jbind hf
      obtain ⟨p61, e6, hf⟩ := jbind hf
      obtain ⟨v65, e7, hf⟩ := jbind hf
      obtain ⟨h66, e8, hf⟩ := jbind hf
      have f8 : jbq h53 h66 := bm_as e8
      obtain ⟨p68, e9, hf⟩ := jbind hf
      obtain ⟨h74, e10, hf⟩ := jbind hf
      have f10 : jbq h66 h74 := bm_as e10
      obtain ⟨p76, e11, hf⟩ := jbind hf
      obtain ⟨h82, e12, hf⟩ := jbind hf
      have f12 : jbq h74 h82 := bm_as e12
      obtain ⟨p84, e13, hf⟩ := jbind hf
      obtain ⟨h90, e14, hf⟩ := jbind hf
      have f14 : jbq h82 h90 := bm_as e14
      obtain ⟨p92, e15, hf⟩ := jbind hf
      obtain ⟨v100, e16, hf⟩ := jbind hf
      replace e16 := (jcv_o e16).2
      obtain ⟨h103, e17, hf⟩ := jbind hf
      have f17 : jbq h90 h103 := bm_as e17
      obtain ⟨p105, e18, hf⟩ := jbind hf
      obtain ⟨p113, e19, hf⟩ := jbind hf
      obtain ⟨v118, e20, hf⟩ := jbind hf
      obtain ⟨h124, e21, hf⟩ := jbind hf
      have f21 : jbq h103 h124 := bm_as e21
      cases hf
      exact (jbq_tr (jbq_tr (jbq_tr (jbq_tr (jbq_tr (jbq_tr f4 f8) f10) f12) f14) f17) f21)
    · obtain ⟨p13, e22, hf⟩ := jbind hf
      obtain ⟨p22, e23, hf⟩ := jbind hf
      obtain ⟨v33, e24, hf⟩ := jbind hf
      obtain ⟨h34, e25, hf⟩ := jbind hf
      have f25 : jbq h h34 := bm_as e25
      exact (jbq_tr f25 (ih  hf))
theorem BQ_X12_tells {n : Nat} {a0 : Nat} {x1 : Int32} {x2 : Int32} {x3 : Int32} {h : jH} {q : jH} (hf : F_X12_tells n a0 x1 x2 x3 h = some q) : jbq h q := by
  unfold F_X12_tells at hf
  exact (BQ_X12_tells_5 hf)
theorem BQ_X12_catches_4 {n : Nat} {k : Nat} : ∀ {a0 : Nat} {x1 : Int32} {x2 : Int32} {h : jH} {q : Int32 × jH}, F_X12_catches_4 n k a0 x1 x2 h = some q → jbq h q.2 := by
  induction k with
  | zero =>
    intro a0 x1 x2 h q hf
    cases hf
  | succ k ih =>
    intro a0 x1 x2 h q hf
    replace hf : F_X12_catches_4_b n (F_X12_catches_4 n k) a0 x1 x2 h = some q := hf
    unfold F_X12_catches_4_b at hf
    obtain ⟨v6, e1, hf⟩ := jbind hf
    replace e1 := (jcv_o e1).2
    replace hf := jite hf
    rcases hf with ⟨-, hf⟩ | ⟨-, hf⟩
    · cases hf
      exact jbq_rfl
    · obtain ⟨v14, e2, hf⟩ := jbind hf
      replace e2 := (jcv_o e2).2
      replace hf := jite hf
      rcases hf with ⟨-, hf⟩ | ⟨-, hf⟩
      · obtain ⟨v25, e3, hf⟩ := jbind hf
        replace e3 := (jcv_o e3).2
        replace hf := jite hf
        rcases hf with ⟨-, hf⟩ | ⟨-, hf⟩
        · obtain ⟨q34, e4, hf⟩ := jbind hf
          replace e4 := (jcv_o e4).2
          have f4 : jbq h q34.2 := (BQ_X12_drawn e4)
          obtain ⟨q40, e5, hf⟩ := jbind hf
          replace e5 := (jcv_o e5).2
          have f5 : jbq q34.2 q40.2 := (BQ_X12_byLaw e5)
          replace hf := jite hf
          rcases hf with ⟨-, hf⟩ | ⟨-, hf⟩
          · obtain ⟨p50, e6, hf⟩ := jbind hf
            obtain ⟨v56, e7, hf⟩ := jbind hf
            obtain ⟨h60, e8, hf⟩ := jbind hf
            have f8 : jbq q40.2 h60 := bm_as e8
            obtain ⟨h65, e9, hf⟩ := jbind hf
            replace e9 := (jcv_o e9).2
            have f9 : jbq h60 h65 := (BQ_X12_tells e9)
            exact (jbq_tr (jbq_tr (jbq_tr (jbq_tr f4 f5) f8) f9) (ih  hf))
          · exact (jbq_tr (jbq_tr f4 f5) (ih  hf))
        · exact (ih  hf)
      · exact (ih  hf)
theorem BQ_X12_catches {n : Nat} {a0 : Nat} {h : jH} {q : Int32 × jH} (hf : F_X12_catches n a0 h = some q) : jbq h q.2 := by
  unfold F_X12_catches at hf
  exact (BQ_X12_catches_4 hf)
theorem BQ_X12_falls_4 {n : Nat} {k : Nat} : ∀ {a0 : Nat} {x1 : Int32} {x2 : Int32} {h : jH} {q : Int32 × jH}, F_X12_falls_4 n k a0 x1 x2 h = some q → jbq h q.2 := by
  induction k with
  | zero =>
    intro a0 x1 x2 h q hf
    cases hf
  | succ k ih =>
    intro a0 x1 x2 h q hf
    replace hf : F_X12_falls_4_b n (F_X12_falls_4 n k) a0 x1 x2 h = some q := hf
    unfold F_X12_falls_4_b at hf
    obtain ⟨v6, e1, hf⟩ := jbind hf
    replace e1 := (jcv_o e1).2
    replace hf := jite hf
    rcases hf with ⟨-, hf⟩ | ⟨-, hf⟩
    · cases hf
      exact jbq_rfl
    · obtain ⟨v16, e2, hf⟩ := jbind hf
      replace e2 := (jcv_o e2).2
      replace hf := jite hf
      rcases hf with ⟨-, hf⟩ | ⟨-, hf⟩
      · exact (ih  hf)
      · obtain ⟨q25, e3, hf⟩ := jbind hf
        replace e3 := (jcv_o e3).2
        have f3 : jbq h q25.2 := (BQ_X12_drawn e3)
        obtain ⟨q31, e4, hf⟩ := jbind hf
        replace e4 := (jcv_o e4).2
        have f4 : jbq q25.2 q31.2 := (BQ_X12_byLaw e4)
        replace hf := jite hf
        rcases hf with ⟨-, hf⟩ | ⟨-, hf⟩
        · obtain ⟨p41, e5, hf⟩ := jbind hf
          obtain ⟨v47, e6, hf⟩ := jbind hf
          obtain ⟨h51, e7, hf⟩ := jbind hf
          have f7 : jbq q31.2 h51 := bm_as e7
          obtain ⟨h56, e8, hf⟩ := jbind hf
          replace e8 := (jcv_o e8).2
          have f8 : jbq h51 h56 := (BQ_X12_tells e8)
          exact (jbq_tr (jbq_tr (jbq_tr (jbq_tr f3 f4) f7) f8) (ih  hf))
        · exact (jbq_tr (jbq_tr f3 f4) (ih  hf))
theorem BQ_X12_falls {n : Nat} {a0 : Nat} {h : jH} {q : Int32 × jH} (hf : F_X12_falls n a0 h = some q) : jbq h q.2 := by
  unfold F_X12_falls at hf
  exact (BQ_X12_falls_4 hf)
theorem BQ_X12_oneHour_61 {n : Nat} {a0 : Nat} {s0 : Int32} {h : jH} {q : Int32 × jH} (hf : F_X12_oneHour_61 n a0 s0 h = some q) : jbq h q.2 := by
  unfold F_X12_oneHour_61 at hf
  obtain ⟨p63, e1, hf⟩ := jbind hf
  obtain ⟨v68, e2, hf⟩ := jbind hf
  obtain ⟨h71, e3, hf⟩ := jbind hf
  have f3 : jbq h h71 := bm_as e3
  obtain ⟨p73, e4, hf⟩ := jbind hf
  obtain ⟨v77, e5, hf⟩ := jbind hf
  replace hf := jite hf
  rcases hf with ⟨-, hf⟩ | ⟨-, hf⟩
  · obtain ⟨p84, e6, hf⟩ := jbind hf
    obtain ⟨h89, e7, hf⟩ := jbind hf
    have f7 : jbq h71 h89 := bm_as e7
    obtain ⟨p91, e8, hf⟩ := jbind hf
    obtain ⟨p99, e9, hf⟩ := jbind hf
    obtain ⟨v103, e10, hf⟩ := jbind hf
    obtain ⟨h109, e11, hf⟩ := jbind hf
    have f11 : jbq h89 h109 := bm_as e11
    cases hf
    exact (jbq_tr (jbq_tr f3 f7) f11)
  · cases hf
    exact f3
theorem BQ_X12_oneHour_2 {n : Nat} {k : Nat} : ∀ {a0 : Nat} {x1 : Int32} {x2 : Int32} {h : jH} {q : Int32 × jH}, F_X12_oneHour_2 n k a0 x1 x2 h = some q → jbq h q.2 := by
  induction k with
  | zero =>
    intro a0 x1 x2 h q hf
    cases hf
  | succ k ih =>
    intro a0 x1 x2 h q hf
    replace hf : F_X12_oneHour_2_b n (F_X12_oneHour_2 n k) a0 x1 x2 h = some q := hf
    unfold F_X12_oneHour_2_b at hf
    obtain ⟨v4, e1, hf⟩ := jbind hf
    replace e1 := (jcv_o e1).2
    replace hf := jite hf
    rcases hf with ⟨-, hf⟩ | ⟨-, hf⟩
    · replace hf := jite hf
      rcases hf with ⟨-, hf⟩ | ⟨-, hf⟩
      · obtain ⟨q53, e2, hf⟩ := jbind hf
        replace e2 := (jcv_o e2).2
        have f2 : jbq h q53.2 := (BQ_X12_catches e2)
        obtain ⟨q57, e3, hf⟩ := jbind hf
        replace e3 := (jcv_o e3).2
        have f3 : jbq q53.2 q57.2 := (BQ_X12_falls e3)
        exact (jbq_tr (jbq_tr f2 f3) (BQ_X12_oneHour_61 hf))
      · exact (BQ_X12_oneHour_61 hf)
    · obtain ⟨p11, e4, hf⟩ := jbind hf
      obtain ⟨v16, e5, hf⟩ := jbind hf
      obtain ⟨v24, e6, hf⟩ := jbind hf
      replace e6 := (jcv_o e6).2
      obtain ⟨q30, e7, hf⟩ := jbind hf
      replace e7 := (jcv_o e7).2
      have f7 : jbq h q30.2 := (BQ_X12_byLaw e7)
      obtain ⟨h37, e8, hf⟩ := jbind hf
      have f8 : jbq q30.2 h37 := bm_as e8
      exact (jbq_tr (jbq_tr f7 f8) (ih  hf))
theorem BQ_X12_oneHour {n : Nat} {a0 : Nat} {x1 : Int32} {h : jH} {q : Int32 × jH} (hf : F_X12_oneHour n a0 x1 h = some q) : jbq h q.2 := by
  unfold F_X12_oneHour at hf
  exact (BQ_X12_oneHour_2 hf)
theorem BQ_X12_goesOn_5 {n : Nat} {k : Nat} : ∀ {a0 : Nat} {x1 : Int32} {x2 : Int32} {x3 : Int32} {x4 : Int32} {h : jH} {q : Int32 × jH}, F_X12_goesOn_5 n k a0 x1 x2 x3 x4 h = some q → jbq h q.2 := by
  induction k with
  | zero =>
    intro a0 x1 x2 x3 x4 h q hf
    cases hf
  | succ k ih =>
    intro a0 x1 x2 x3 x4 h q hf
    replace hf : F_X12_goesOn_5_b n (F_X12_goesOn_5 n k) a0 x1 x2 x3 x4 h = some q := hf
    unfold F_X12_goesOn_5_b at hf
    replace hf := jite hf
    rcases hf with ⟨-, hf⟩ | ⟨-, hf⟩
    · cases hf
      exact jbq_rfl
    · obtain ⟨q14, e1, hf⟩ := jbind hf
      replace e1 := (jcv_o e1).2
      have f1 : jbq h q14.2 := (BQ_X12_oneHour e1)
      exact (jbq_tr f1 (ih  hf))
theorem BQ_X12_goesOn {n : Nat} {a0 : Nat} {x1 : Int32} {x2 : Int32} {h : jH} {q : Int32 × jH} (hf : F_X12_goesOn n a0 x1 x2 h = some q) : jbq h q.2 := by
  unfold F_X12_goesOn at hf
  exact (BQ_X12_goesOn_5 hf)
theorem BQ_X12_faded {n : Nat} {a0 : Nat} {x1 : Int32} {h : jH} {q : Int32 × jH} (hf : F_X12_faded n a0 x1 h = some q) : jbq h q.2 := by
  unfold F_X12_faded at hf
  obtain ⟨h2, e1, hf⟩ := jbind hf
  have f1 : jbq h h2 := bm_pf e1
  obtain ⟨v7, e2, hf⟩ := jbind hf
  obtain ⟨q11, e3, hf⟩ := jbind hf
  replace e3 := (jcv_o e3).2
  have f3 : jbq h2 q11.2 := (BQ_X12_throwsIf e3)
  replace hf := jite hf
  rcases hf with ⟨-, hf⟩ | ⟨-, hf⟩
  · obtain ⟨h20, e4, hf⟩ := jbind hf
    replace e4 := (jcv_o e4).2
    have f4 : jbq q11.2 h20 := (BQ_X12_keepsAll e4)
    obtain ⟨q26, e5, hf⟩ := jbind hf
    replace e5 := (jcv_o e5).2
    have f5 : jbq h20 q26.2 := (BQ_X12_goesOn e5)
    obtain ⟨v31, e6, hf⟩ := jbind hf
    replace e6 := (jcv_o e6).2
    obtain ⟨h36, e7, hf⟩ := jbind hf
    replace e7 := (jcv_o e7).2
    have f7 : jbq q26.2 h36 := (BQ_X12_bringsBack e7)
    cases hf
    exact (jbq_tr (jbq_tr (jbq_tr (jbq_tr f1 f3) f4) f5) f7)
  · cases hf
    exact (jbq_tr f1 f3)
theorem BQ_X12_lets_103 {n : Nat} {x1 : Int32} {x2 : Int32} {x4 : Int32} {x5 : Int32} {s0 : Int32} {h : jH} {q : Int32 × jH} (hf : F_X12_lets_103 n x1 x2 x4 x5 s0 h = some q) : jbq h q.2 := by
  unfold F_X12_lets_103 at hf
  replace hf := jite hf
  rcases hf with ⟨-, hf⟩ | ⟨-, hf⟩
  · replace hf := jite hf
    rcases hf with ⟨-, hf⟩ | ⟨-, hf⟩
    · cases hf
      exact jbq_rfl
    · cases hf
      exact jbq_rfl
  · cases hf
    exact jbq_rfl
theorem BQ_X12_lets_48 {n : Nat} {k : Nat} : ∀ {a0 : Nat} {x1 : Int32} {x2 : Int32} {x3 : Int32} {x4 : Int32} {h : jH} {q : Int32 × jH}, F_X12_lets_48 n k a0 x1 x2 x3 x4 h = some q → jbq h q.2 := by
  induction k with
  | zero =>
    intro a0 x1 x2 x3 x4 h q hf
    cases hf
  | succ k ih =>
    intro a0 x1 x2 x3 x4 h q hf
    replace hf : F_X12_lets_48_b n (F_X12_lets_48 n k) a0 x1 x2 x3 x4 h = some q := hf
    unfold F_X12_lets_48_b at hf
    obtain ⟨v51, e1, hf⟩ := jbind hf
    replace e1 := (jcv_o e1).2
    replace hf := jite hf
    rcases hf with ⟨-, hf⟩ | ⟨-, hf⟩
    · obtain ⟨v75, e2, hf⟩ := jbind hf
      replace e2 := (jcv_o e2).2
      replace hf := jite hf
      rcases hf with ⟨-, hf⟩ | ⟨-, hf⟩
      · cases hf
      · obtain ⟨v83, e3, hf⟩ := jbind hf
        replace e3 := (jcv_o e3).2
        replace hf := jite hf
        rcases hf with ⟨-, hf⟩ | ⟨-, hf⟩
        · cases hf
        · replace hf := jite hf
          rcases hf with ⟨-, hf⟩ | ⟨-, hf⟩
          · exact (BQ_X12_lets_103 hf)
          · exact (BQ_X12_lets_103 hf)
    · obtain ⟨v62, e4, hf⟩ := jbind hf
      replace e4 := (jcv_o e4).2
      exact (ih  hf)
theorem BQ_X12_lets_34 {n : Nat} {a0 : Nat} {x1 : Int32} {x2 : Int32} {sa0 : Nat} {s1 : Int32} {h : jH} {q : Int32 × jH} (hf : F_X12_lets_34 n a0 x1 x2 sa0 s1 h = some q) : jbq h q.2 := by
  unfold F_X12_lets_34 at hf
  obtain ⟨q35, e1, hf⟩ := jbind hf
  replace e1 := (jcv_o e1).2
  have f1 : jbq h q35.2 := (BQ_X12_throwsIf e1)
  replace hf := jite hf
  rcases hf with ⟨-, hf⟩ | ⟨-, hf⟩
  · exact (jbq_tr f1 (BQ_X12_lets_48 hf))
  · cases hf
    exact f1
theorem BQ_X12_lets {n : Nat} {a0 : Nat} {x1 : Int32} {x2 : Int32} {h : jH} {q : Int32 × jH} (hf : F_X12_lets n a0 x1 x2 h = some q) : jbq h q.2 := by
  unfold F_X12_lets at hf
  obtain ⟨h2, e1, hf⟩ := jbind hf
  have f1 : jbq h h2 := bm_pf e1
  obtain ⟨v8, e2, hf⟩ := jbind hf
  replace e2 := (jcv_o e2).2
  obtain ⟨q12, e3, hf⟩ := jbind hf
  replace e3 := (jcv_o e3).2
  have f3 : jbq h2 q12.2 := (BQ_X12_throwsIf e3)
  replace hf := jite hf
  rcases hf with ⟨-, hf⟩ | ⟨-, hf⟩
  · obtain ⟨v23, e4, hf⟩ := jbind hf
    replace hf := jite hf
    rcases hf with ⟨-, hf⟩ | ⟨-, hf⟩
    · exact (jbq_tr (jbq_tr f1 f3) (BQ_X12_lets_34 hf))
    · exact (jbq_tr (jbq_tr f1 f3) (BQ_X12_lets_34 hf))
  · cases hf
    exact (jbq_tr f1 f3)
theorem BQ_X12_rests_42 {n : Nat} {rc34 : Nat → Int32 → Int32 → Int32 → jH → Option (Int32 × jH)} (hrc34 : ∀ {z0 : Nat} {z1 : Int32} {z2 : Int32} {z3 : Int32} {h : jH} {q : Int32 × jH}, rc34 z0 z1 z2 z3 h = some q → jbq h q.2) {k : Nat} : ∀ {a0 : Nat} {x1 : Int32} {x2 : Int32} {x3 : Int32} {x4 : Int32} {h : jH} {q : Int32 × jH}, F_X12_rests_42 n rc34 k a0 x1 x2 x3 x4 h = some q → jbq h q.2 := by
  induction k with
  | zero =>
    intro a0 x1 x2 x3 x4 h q hf
    cases hf
  | succ k ih =>
    intro a0 x1 x2 x3 x4 h q hf
    replace hf : F_X12_rests_42_b n rc34 (F_X12_rests_42 n rc34 k) a0 x1 x2 x3 x4 h = some q := hf
    unfold F_X12_rests_42_b at hf
    replace hf := jite hf
    rcases hf with ⟨-, hf⟩ | ⟨-, hf⟩
    · exact (hrc34  hf)
    · obtain ⟨v54, e1, hf⟩ := jbind hf
      replace e1 := (jcv_o e1).2
      obtain ⟨v64, e2, hf⟩ := jbind hf
      replace e2 := (jcv_o e2).2
      replace hf := jite hf
      rcases hf with ⟨-, hf⟩ | ⟨-, hf⟩
      · exact (ih  hf)
      · obtain ⟨v75, e3, hf⟩ := jbind hf
        replace e3 := (jcv_o e3).2
        obtain ⟨v85, e4, hf⟩ := jbind hf
        replace e4 := (jcv_o e4).2
        replace hf := jite hf
        rcases hf with ⟨-, hf⟩ | ⟨-, hf⟩
        · exact (ih  hf)
        · exact (ih  hf)
theorem BQ_X12_rests_34 {n : Nat} {k : Nat} : ∀ {a0 : Nat} {x1 : Int32} {x2 : Int32} {x3 : Int32} {h : jH} {q : Int32 × jH}, F_X12_rests_34 n k a0 x1 x2 x3 h = some q → jbq h q.2 := by
  induction k with
  | zero =>
    intro a0 x1 x2 x3 h q hf
    cases hf
  | succ k ih =>
    intro a0 x1 x2 x3 h q hf
    replace hf : F_X12_rests_34_b n (F_X12_rests_34 n k) a0 x1 x2 x3 h = some q := hf
    unfold F_X12_rests_34_b at hf
    replace hf := jite hf
    rcases hf with ⟨-, hf⟩ | ⟨-, hf⟩
    · cases hf
      exact jbq_rfl
    · exact (BQ_X12_rests_42 ih hf)
theorem BQ_X12_rests {n : Nat} {a0 : Nat} {x1 : Int32} {h : jH} {q : Int32 × jH} (hf : F_X12_rests n a0 x1 h = some q) : jbq h q.2 := by
  unfold F_X12_rests at hf
  obtain ⟨h2, e1, hf⟩ := jbind hf
  have f1 : jbq h h2 := bm_pf e1
  obtain ⟨v8, e2, hf⟩ := jbind hf
  replace e2 := (jcv_o e2).2
  obtain ⟨q12, e3, hf⟩ := jbind hf
  replace e3 := (jcv_o e3).2
  have f3 : jbq h2 q12.2 := (BQ_X12_throwsIf e3)
  replace hf := jite hf
  rcases hf with ⟨-, hf⟩ | ⟨-, hf⟩
  · obtain ⟨v22, e4, hf⟩ := jbind hf
    replace e4 := (jcv_o e4).2
    replace hf := jite hf
    rcases hf with ⟨-, hf⟩ | ⟨-, hf⟩
    · cases hf
      exact (jbq_tr f1 f3)
    · exact (jbq_tr (jbq_tr f1 f3) (BQ_X12_rests_34 hf))
  · cases hf
    exact (jbq_tr f1 f3)
theorem BQ_X12_odds_65 {n : Nat} {k : Nat} : ∀ {x2 : Int32} {x3 : Int32} {x4 : Int32} {x5 : Int32} {h : jH} {q : Int32 × jH}, F_X12_odds_65 n k x2 x3 x4 x5 h = some q → jbq h q.2 := by
  induction k with
  | zero =>
    intro x2 x3 x4 x5 h q hf
    cases hf
  | succ k ih =>
    intro x2 x3 x4 x5 h q hf
    replace hf : F_X12_odds_65_b n (F_X12_odds_65 n k) x2 x3 x4 x5 h = some q := hf
    unfold F_X12_odds_65_b at hf
    replace hf := jite hf
    rcases hf with ⟨-, hf⟩ | ⟨-, hf⟩
    · cases hf
      exact jbq_rfl
    · exact (ih  hf)
theorem BQ_X12_odds_33 {n : Nat} {a0 : Nat} {x1 : Int32} {x2 : Int32} {sa0 : Nat} {s1 : Int32} {h : jH} {q : Int32 × jH} (hf : F_X12_odds_33 n a0 x1 x2 sa0 s1 h = some q) : jbq h q.2 := by
  unfold F_X12_odds_33 at hf
  obtain ⟨q34, e1, hf⟩ := jbind hf
  replace e1 := (jcv_o e1).2
  have f1 : jbq h q34.2 := (BQ_X12_throwsIf e1)
  replace hf := jite hf
  rcases hf with ⟨-, hf⟩ | ⟨-, hf⟩
  · obtain ⟨q49, e2, hf⟩ := jbind hf
    replace e2 := (jcv_o e2).2
    have f2 : jbq q34.2 q49.2 := (BQ_X12_byLaw e2)
    exact (jbq_tr (jbq_tr f1 f2) (BQ_X12_odds_65 hf))
  · cases hf
    exact f1
theorem BQ_X12_odds {n : Nat} {a0 : Nat} {x1 : Int32} {x2 : Int32} {h : jH} {q : Int32 × jH} (hf : F_X12_odds n a0 x1 x2 h = some q) : jbq h q.2 := by
  unfold F_X12_odds at hf
  obtain ⟨h2, e1, hf⟩ := jbind hf
  have f1 : jbq h h2 := bm_pf e1
  obtain ⟨v8, e2, hf⟩ := jbind hf
  replace e2 := (jcv_o e2).2
  obtain ⟨q12, e3, hf⟩ := jbind hf
  replace e3 := (jcv_o e3).2
  have f3 : jbq h2 q12.2 := (BQ_X12_throwsIf e3)
  replace hf := jite hf
  rcases hf with ⟨-, hf⟩ | ⟨-, hf⟩
  · obtain ⟨v22, e4, hf⟩ := jbind hf
    replace hf := jite hf
    rcases hf with ⟨-, hf⟩ | ⟨-, hf⟩
    · exact (jbq_tr (jbq_tr f1 f3) (BQ_X12_odds_33 hf))
    · exact (jbq_tr (jbq_tr f1 f3) (BQ_X12_odds_33 hf))
  · cases hf
    exact (jbq_tr f1 f3)
theorem BQ_X12_ahead {n : Nat} {a0 : Nat} {x1 : Int32} {x2 : Int32} {h : jH} {q : Int32 × jH} (hf : F_X12_ahead n a0 x1 x2 h = some q) : jbq h q.2 := by
  unfold F_X12_ahead at hf
  obtain ⟨h2, e1, hf⟩ := jbind hf
  have f1 : jbq h h2 := bm_pf e1
  obtain ⟨v8, e2, hf⟩ := jbind hf
  replace e2 := (jcv_o e2).2
  obtain ⟨q12, e3, hf⟩ := jbind hf
  replace e3 := (jcv_o e3).2
  have f3 : jbq h2 q12.2 := (BQ_X12_throwsIf e3)
  replace hf := jite hf
  rcases hf with ⟨-, hf⟩ | ⟨-, hf⟩
  · obtain ⟨v20, e4, hf⟩ := jbind hf
    obtain ⟨q24, e5, hf⟩ := jbind hf
    replace e5 := (jcv_o e5).2
    have f5 : jbq q12.2 q24.2 := (BQ_X12_throwsIf e5)
    replace hf := jite hf
    rcases hf with ⟨-, hf⟩ | ⟨-, hf⟩
    · obtain ⟨h33, e6, hf⟩ := jbind hf
      replace e6 := (jcv_o e6).2
      have f6 : jbq q24.2 h33 := (BQ_X12_keepsAll e6)
      obtain ⟨q39, e7, hf⟩ := jbind hf
      replace e7 := (jcv_o e7).2
      have f7 : jbq h33 q39.2 := (BQ_X12_goesOn e7)
      obtain ⟨v46, e8, hf⟩ := jbind hf
      replace e8 := (jcv_o e8).2
      obtain ⟨h51, e9, hf⟩ := jbind hf
      replace e9 := (jcv_o e9).2
      have f9 : jbq q39.2 h51 := (BQ_X12_bringsBack e9)
      cases hf
      exact (jbq_tr (jbq_tr (jbq_tr (jbq_tr (jbq_tr f1 f3) f5) f6) f7) f9)
    · cases hf
      exact (jbq_tr (jbq_tr f1 f3) f5)
  · cases hf
    exact (jbq_tr f1 f3)
theorem BQ_X12_trial_47 {n : Nat} {a0 : Nat} {s0 : Int32} {h : jH} {q : Int32 × jH} (hf : F_X12_trial_47 n a0 s0 h = some q) : jbq h q.2 := by
  unfold F_X12_trial_47 at hf
  obtain ⟨h49, e1, hf⟩ := jbind hf
  replace e1 := (jcv_o e1).2
  have f1 : jbq h h49 := (BQ_X12_bringsBack e1)
  cases hf
  exact f1
theorem BQ_X12_trial {n : Nat} {a0 : Nat} {x1 : Int32} {x2 : Int32} {h : jH} {q : Int32 × jH} (hf : F_X12_trial n a0 x1 x2 h = some q) : jbq h q.2 := by
  unfold F_X12_trial at hf
  obtain ⟨h2, e1, hf⟩ := jbind hf
  have f1 : jbq h h2 := bm_pf e1
  obtain ⟨v7, e2, hf⟩ := jbind hf
  obtain ⟨q11, e3, hf⟩ := jbind hf
  replace e3 := (jcv_o e3).2
  have f3 : jbq h2 q11.2 := (BQ_X12_throwsIf e3)
  replace hf := jite hf
  rcases hf with ⟨-, hf⟩ | ⟨-, hf⟩
  · obtain ⟨h20, e4, hf⟩ := jbind hf
    replace e4 := (jcv_o e4).2
    have f4 : jbq q11.2 h20 := (BQ_X12_keepsAll e4)
    obtain ⟨q26, e5, hf⟩ := jbind hf
    replace e5 := (jcv_o e5).2
    have f5 : jbq h20 q26.2 := (BQ_X12_goesOn e5)
    replace hf := jite hf
    rcases hf with ⟨-, hf⟩ | ⟨-, hf⟩
    · obtain ⟨v44, e6, hf⟩ := jbind hf
      replace e6 := (jcv_o e6).2
      exact (jbq_tr (jbq_tr (jbq_tr (jbq_tr f1 f3) f4) f5) (BQ_X12_trial_47 hf))
    · obtain ⟨v35, e7, hf⟩ := jbind hf
      replace e7 := (jcv_o e7).2
      exact (jbq_tr (jbq_tr (jbq_tr (jbq_tr f1 f3) f4) f5) (BQ_X12_trial_47 hf))
  · cases hf
    exact (jbq_tr f1 f3)
theorem BQ_X12_span_28 {n : Nat} {k : Nat} : ∀ {a0 : Nat} {x1 : Int32} {x2 : Int32} {x3 : Int32} {x4 : Int32} {h : jH} {q : Int32 × jH}, F_X12_span_28 n k a0 x1 x2 x3 x4 h = some q → jbq h q.2 := by
  induction k with
  | zero =>
    intro a0 x1 x2 x3 x4 h q hf
    cases hf
  | succ k ih =>
    intro a0 x1 x2 x3 x4 h q hf
    replace hf : F_X12_span_28_b n (F_X12_span_28 n k) a0 x1 x2 x3 x4 h = some q := hf
    unfold F_X12_span_28_b at hf
    replace hf := jite hf
    rcases hf with ⟨-, hf⟩ | ⟨-, hf⟩
    · cases hf
      exact jbq_rfl
    · obtain ⟨p36, e1, hf⟩ := jbind hf
      obtain ⟨h43, e2, hf⟩ := jbind hf
      have f2 : jbq h h43 := bm_as e2
      obtain ⟨q47, e3, hf⟩ := jbind hf
      replace e3 := (jcv_o e3).2
      have f3 : jbq h43 q47.2 := (BQ_X12_goesOn e3)
      obtain ⟨v54, e4, hf⟩ := jbind hf
      replace e4 := (jcv_o e4).2
      obtain ⟨v57, e5, hf⟩ := jbind hf
      obtain ⟨v61, e6, hf⟩ := jbind hf
      replace e6 := (jcv_o e6).2
      obtain ⟨v64, e7, hf⟩ := jbind hf
      obtain ⟨h71, e8, hf⟩ := jbind hf
      replace e8 := (jcv_o e8).2
      have f8 : jbq q47.2 h71 := (BQ_X12_bringsBack e8)
      replace hf := jite hf
      rcases hf with ⟨-, hf⟩ | ⟨-, hf⟩
      · replace hf := jite hf
        rcases hf with ⟨-, hf⟩ | ⟨-, hf⟩
        · exact (jbq_tr (jbq_tr (jbq_tr f2 f3) f8) (ih  hf))
        · exact (jbq_tr (jbq_tr (jbq_tr f2 f3) f8) (ih  hf))
      · exact (jbq_tr (jbq_tr (jbq_tr f2 f3) f8) (ih  hf))
theorem BQ_X12_span {n : Nat} {a0 : Nat} {x1 : Int32} {x2 : Int32} {h : jH} {q : Int32 × jH} (hf : F_X12_span n a0 x1 x2 h = some q) : jbq h q.2 := by
  unfold F_X12_span at hf
  obtain ⟨h2, e1, hf⟩ := jbind hf
  have f1 : jbq h h2 := bm_pf e1
  obtain ⟨v7, e2, hf⟩ := jbind hf
  obtain ⟨q11, e3, hf⟩ := jbind hf
  replace e3 := (jcv_o e3).2
  have f3 : jbq h2 q11.2 := (BQ_X12_throwsIf e3)
  replace hf := jite hf
  rcases hf with ⟨-, hf⟩ | ⟨-, hf⟩
  · obtain ⟨h20, e4, hf⟩ := jbind hf
    replace e4 := (jcv_o e4).2
    have f4 : jbq q11.2 h20 := (BQ_X12_keepsAll e4)
    exact (jbq_tr (jbq_tr (jbq_tr f1 f3) f4) (BQ_X12_span_28 hf))
  · cases hf
    exact (jbq_tr f1 f3)
theorem BQ_X12_led_36 {n : Nat} {k : Nat} : ∀ {a0 : Nat} {x1 : Int32} {x2 : Int32} {x3 : Int32} {x4 : Int32} {x5 : Int32} {h : jH} {q : Int32 × jH}, F_X12_led_36 n k a0 x1 x2 x3 x4 x5 h = some q → jbq h q.2 := by
  induction k with
  | zero =>
    intro a0 x1 x2 x3 x4 x5 h q hf
    cases hf
  | succ k ih =>
    intro a0 x1 x2 x3 x4 x5 h q hf
    replace hf : F_X12_led_36_b n (F_X12_led_36 n k) a0 x1 x2 x3 x4 x5 h = some q := hf
    unfold F_X12_led_36_b at hf
    replace hf := jite hf
    rcases hf with ⟨-, hf⟩ | ⟨-, hf⟩
    · replace hf := jite hf
      rcases hf with ⟨-, hf⟩ | ⟨-, hf⟩
      · cases hf
        exact jbq_rfl
      · cases hf
        exact jbq_rfl
    · obtain ⟨v45, e1, hf⟩ := jbind hf
      replace e1 := (jcv_o e1).2
      replace hf := jite hf
      rcases hf with ⟨-, hf⟩ | ⟨-, hf⟩
      · obtain ⟨v62, e2, hf⟩ := jbind hf
        replace e2 := (jcv_o e2).2
        exact (ih  hf)
      · exact (ih  hf)
theorem BQ_X12_led {n : Nat} {a0 : Nat} {x1 : Int32} {x2 : Int32} {h : jH} {q : Int32 × jH} (hf : F_X12_led n a0 x1 x2 h = some q) : jbq h q.2 := by
  unfold F_X12_led at hf
  obtain ⟨h2, e1, hf⟩ := jbind hf
  have f1 : jbq h h2 := bm_pf e1
  obtain ⟨v8, e2, hf⟩ := jbind hf
  replace e2 := (jcv_o e2).2
  obtain ⟨q12, e3, hf⟩ := jbind hf
  replace e3 := (jcv_o e3).2
  have f3 : jbq h2 q12.2 := (BQ_X12_throwsIf e3)
  replace hf := jite hf
  rcases hf with ⟨-, hf⟩ | ⟨-, hf⟩
  · obtain ⟨p26, e4, hf⟩ := jbind hf
    obtain ⟨v31, e5, hf⟩ := jbind hf
    exact (jbq_tr (jbq_tr f1 f3) (BQ_X12_led_36 hf))
  · cases hf
    exact (jbq_tr f1 f3)
theorem BQ_X12_log_20 {n : Nat} {a0 : Nat} {x1 : Int32} {x2 : Int32} {sa0 : Nat} {s1 : Int32} {h : jH} {q : Int32 × jH} (hf : F_X12_log_20 n a0 x1 x2 sa0 s1 h = some q) : jbq h q.2 := by
  unfold F_X12_log_20 at hf
  obtain ⟨q21, e1, hf⟩ := jbind hf
  replace e1 := (jcv_o e1).2
  have f1 : jbq h q21.2 := (BQ_X12_throwsIf e1)
  replace hf := jite hf
  rcases hf with ⟨-, hf⟩ | ⟨-, hf⟩
  · obtain ⟨p32, e2, hf⟩ := jbind hf
    obtain ⟨v37, e3, hf⟩ := jbind hf
    obtain ⟨v40, e4, hf⟩ := jbind hf
    replace hf := jite hf
    rcases hf with ⟨-, hf⟩ | ⟨-, hf⟩
    · cases hf
      exact f1
    · obtain ⟨v49, e5, hf⟩ := jbind hf
      replace e5 := (jcv_o e5).2
      cases hf
      exact f1
  · cases hf
    exact f1
theorem BQ_X12_log {n : Nat} {a0 : Nat} {x1 : Int32} {x2 : Int32} {h : jH} {q : Int32 × jH} (hf : F_X12_log n a0 x1 x2 h = some q) : jbq h q.2 := by
  unfold F_X12_log at hf
  obtain ⟨h2, e1, hf⟩ := jbind hf
  have f1 : jbq h h2 := bm_pf e1
  obtain ⟨v9, e2, hf⟩ := jbind hf
  replace hf := jite hf
  rcases hf with ⟨-, hf⟩ | ⟨-, hf⟩
  · exact (jbq_tr f1 (BQ_X12_log_20 hf))
  · exact (jbq_tr f1 (BQ_X12_log_20 hf))
theorem BQ_X12_best_113 {n : Nat} {rc14 : Nat → Int32 → Int32 → Int32 → jH → Option (Int32 × jH)} (hrc14 : ∀ {z0 : Nat} {z1 : Int32} {z2 : Int32} {z3 : Int32} {h : jH} {q : Int32 × jH}, rc14 z0 z1 z2 z3 h = some q → jbq h q.2) {a0 : Nat} {x1 : Int32} {x2 : Int32} {x3 : Int32} {h : jH} {q : Int32 × jH} (hf : F_X12_best_113 n rc14 a0 x1 x2 x3 h = some q) : jbq h q.2 := by
  unfold F_X12_best_113 at hf
  obtain ⟨h114, e1, hf⟩ := jbind hf
  replace e1 := (jcv_o e1).2
  have f1 : jbq h h114 := (BQ_X12_bringsBack e1)
  exact (jbq_tr f1 (hrc14  hf))
theorem BQ_X12_best_99 {n : Nat} {rc14 : Nat → Int32 → Int32 → Int32 → jH → Option (Int32 × jH)} (hrc14 : ∀ {z0 : Nat} {z1 : Int32} {z2 : Int32} {z3 : Int32} {h : jH} {q : Int32 × jH}, rc14 z0 z1 z2 z3 h = some q → jbq h q.2) {rc34 : Nat → Int32 → Int32 → Int32 → Int32 → Int32 → jH → Option (Int32 × jH)} (hrc34 : ∀ {z0 : Nat} {z1 : Int32} {z2 : Int32} {z3 : Int32} {z4 : Int32} {z5 : Int32} {h : jH} {q : Int32 × jH}, rc34 z0 z1 z2 z3 z4 z5 h = some q → jbq h q.2) {a0 : Nat} {x2 : Int32} {x3 : Int32} {x4 : Int32} {x5 : Int32} {x6 : Int32} {s0 : Int32} {h : jH} {q : Int32 × jH} (hf : F_X12_best_99 n rc14 rc34 a0 x2 x3 x4 x5 x6 s0 h = some q) : jbq h q.2 := by
  unfold F_X12_best_99 at hf
  exact (hrc34  hf)
theorem BQ_X12_best_62 {n : Nat} {rc14 : Nat → Int32 → Int32 → Int32 → jH → Option (Int32 × jH)} (hrc14 : ∀ {z0 : Nat} {z1 : Int32} {z2 : Int32} {z3 : Int32} {h : jH} {q : Int32 × jH}, rc14 z0 z1 z2 z3 h = some q → jbq h q.2) {rc34 : Nat → Int32 → Int32 → Int32 → Int32 → Int32 → jH → Option (Int32 × jH)} (hrc34 : ∀ {z0 : Nat} {z1 : Int32} {z2 : Int32} {z3 : Int32} {z4 : Int32} {z5 : Int32} {h : jH} {q : Int32 × jH}, rc34 z0 z1 z2 z3 z4 z5 h = some q → jbq h q.2) {a0 : Nat} {x1 : Int32} {x2 : Int32} {x3 : Int32} {x5 : Int32} {sa0 : Nat} {s1 : Int32} {s2 : Int32} {h : jH} {q : Int32 × jH} (hf : F_X12_best_62 n rc14 rc34 a0 x1 x2 x3 x5 sa0 s1 s2 h = some q) : jbq h q.2 := by
  unfold F_X12_best_62 at hf
  obtain ⟨q62, e1, hf⟩ := jbind hf
  replace e1 := (jcv_o e1).2
  have f1 : jbq h q62.2 := (BQ_X12_goesOne e1)
  replace hf := jite hf
  rcases hf with ⟨-, hf⟩ | ⟨-, hf⟩
  · replace hf := jite hf
    rcases hf with ⟨-, hf⟩ | ⟨-, hf⟩
    · exact (jbq_tr f1 (BQ_X12_best_99 hrc14 hrc34 hf))
    · exact (jbq_tr f1 (BQ_X12_best_99 hrc14 hrc34 hf))
  · obtain ⟨v73, e2, hf⟩ := jbind hf
    replace e2 := (jcv_o e2).2
    replace hf := jite hf
    rcases hf with ⟨-, hf⟩ | ⟨-, hf⟩
    · exact (jbq_tr f1 (BQ_X12_best_99 hrc14 hrc34 hf))
    · exact (jbq_tr f1 (BQ_X12_best_99 hrc14 hrc34 hf))
theorem BQ_X12_best_34 {n : Nat} {rc14 : Nat → Int32 → Int32 → Int32 → jH → Option (Int32 × jH)} (hrc14 : ∀ {z0 : Nat} {z1 : Int32} {z2 : Int32} {z3 : Int32} {h : jH} {q : Int32 × jH}, rc14 z0 z1 z2 z3 h = some q → jbq h q.2) {k : Nat} : ∀ {a0 : Nat} {x1 : Int32} {x2 : Int32} {x3 : Int32} {x4 : Int32} {x5 : Int32} {h : jH} {q : Int32 × jH}, F_X12_best_34 n rc14 k a0 x1 x2 x3 x4 x5 h = some q → jbq h q.2 := by
  induction k with
  | zero =>
    intro a0 x1 x2 x3 x4 x5 h q hf
    cases hf
  | succ k ih =>
    intro a0 x1 x2 x3 x4 x5 h q hf
    replace hf : F_X12_best_34_b n rc14 (F_X12_best_34 n rc14 k) a0 x1 x2 x3 x4 x5 h = some q := hf
    unfold F_X12_best_34_b at hf
    replace hf := jite hf
    rcases hf with ⟨-, hf⟩ | ⟨-, hf⟩
    · exact (BQ_X12_best_113 hrc14 hf)
    · replace hf := jite hf
      rcases hf with ⟨-, hf⟩ | ⟨-, hf⟩
      · exact (BQ_X12_best_113 hrc14 hf)
      · replace hf := jite hf
        rcases hf with ⟨-, hf⟩ | ⟨-, hf⟩
        · exact (BQ_X12_best_62 hrc14 ih hf)
        · exact (BQ_X12_best_62 hrc14 ih hf)
theorem BQ_X12_best_14 {n : Nat} {k : Nat} : ∀ {a0 : Nat} {x1 : Int32} {x2 : Int32} {x3 : Int32} {h : jH} {q : Int32 × jH}, F_X12_best_14 n k a0 x1 x2 x3 h = some q → jbq h q.2 := by
  induction k with
  | zero =>
    intro a0 x1 x2 x3 h q hf
    cases hf
  | succ k ih =>
    intro a0 x1 x2 x3 h q hf
    replace hf : F_X12_best_14_b n (F_X12_best_14 n k) a0 x1 x2 x3 h = some q := hf
    unfold F_X12_best_14_b at hf
    obtain ⟨v17, e1, hf⟩ := jbind hf
    replace e1 := (jcv_o e1).2
    replace hf := jite hf
    rcases hf with ⟨-, hf⟩ | ⟨-, hf⟩
    · cases hf
      exact jbq_rfl
    · obtain ⟨h28, e2, hf⟩ := jbind hf
      replace e2 := (jcv_o e2).2
      have f2 : jbq h h28 := (BQ_X12_keepsAll e2)
      exact (jbq_tr f2 (BQ_X12_best_34 ih hf))
theorem BQ_X12_best {n : Nat} {a0 : Nat} {h : jH} {q : Int32 × jH} (hf : F_X12_best n a0 h = some q) : jbq h q.2 := by
  unfold F_X12_best at hf
  obtain ⟨h2, e1, hf⟩ := jbind hf
  have f1 : jbq h h2 := bm_pf e1
  obtain ⟨v8, e2, hf⟩ := jbind hf
  replace e2 := (jcv_o e2).2
  exact (jbq_tr f1 (BQ_X12_best_14 hf))
theorem BQ_X12_stepsTo_72 {n : Nat} {a0 : Nat} {x4 : Int32} {h : jH} {q : Int32 × jH} (hf : F_X12_stepsTo_72 n a0 x4 h = some q) : jbq h q.2 := by
  unfold F_X12_stepsTo_72 at hf
  obtain ⟨h73, e1, hf⟩ := jbind hf
  replace e1 := (jcv_o e1).2
  have f1 : jbq h h73 := (BQ_X12_bringsBack e1)
  cases hf
  exact f1
theorem BQ_X12_stepsTo_15 {n : Nat} {k : Nat} : ∀ {a0 : Nat} {x1 : Int32} {x2 : Int32} {x3 : Int32} {x4 : Int32} {x5 : Int32} {x6 : Int32} {h : jH} {q : Int32 × jH}, F_X12_stepsTo_15 n k a0 x1 x2 x3 x4 x5 x6 h = some q → jbq h q.2 := by
  induction k with
  | zero =>
    intro a0 x1 x2 x3 x4 x5 x6 h q hf
    cases hf
  | succ k ih =>
    intro a0 x1 x2 x3 x4 x5 x6 h q hf
    replace hf : F_X12_stepsTo_15_b n (F_X12_stepsTo_15 n k) a0 x1 x2 x3 x4 x5 x6 h = some q := hf
    unfold F_X12_stepsTo_15_b at hf
    replace hf := jite hf
    rcases hf with ⟨-, hf⟩ | ⟨-, hf⟩
    · exact (BQ_X12_stepsTo_72 hf)
    · replace hf := jite hf
      rcases hf with ⟨-, hf⟩ | ⟨-, hf⟩
      · exact (BQ_X12_stepsTo_72 hf)
      · replace hf := jite hf
        rcases hf with ⟨-, hf⟩ | ⟨-, hf⟩
        · obtain ⟨q38, e1, hf⟩ := jbind hf
          replace e1 := (jcv_o e1).2
          have f1 : jbq h q38.2 := (BQ_X12_goesOne e1)
          replace hf := jite hf
          rcases hf with ⟨-, hf⟩ | ⟨-, hf⟩
          · exact (jbq_tr f1 (ih  hf))
          · obtain ⟨v50, e2, hf⟩ := jbind hf
            replace e2 := (jcv_o e2).2
            replace hf := jite hf
            rcases hf with ⟨-, hf⟩ | ⟨-, hf⟩
            · exact (jbq_tr f1 (ih  hf))
            · exact (jbq_tr f1 (ih  hf))
        · exact (BQ_X12_stepsTo_72 hf)
theorem BQ_X12_stepsTo {n : Nat} {a0 : Nat} {x1 : Int32} {x2 : Int32} {x3 : Int32} {h : jH} {q : Int32 × jH} (hf : F_X12_stepsTo n a0 x1 x2 x3 h = some q) : jbq h q.2 := by
  unfold F_X12_stepsTo at hf
  obtain ⟨h9, e1, hf⟩ := jbind hf
  replace e1 := (jcv_o e1).2
  have f1 : jbq h h9 := (BQ_X12_keepsAll e1)
  exact (jbq_tr f1 (BQ_X12_stepsTo_15 hf))
theorem BQ_X12_fewestTo_58 {n : Nat} {rc10 : Nat → Int32 → Int32 → Int32 → Int32 → Int32 → jH → Option (Int32 × jH)} (hrc10 : ∀ {z0 : Nat} {z1 : Int32} {z2 : Int32} {z3 : Int32} {z4 : Int32} {z5 : Int32} {h : jH} {q : Int32 × jH}, rc10 z0 z1 z2 z3 z4 z5 h = some q → jbq h q.2) {a0 : Nat} {x1 : Int32} {x2 : Int32} {x4 : Int32} {x5 : Int32} {x6 : Int32} {s0 : Int32} {h : jH} {q : Int32 × jH} (hf : F_X12_fewestTo_58 n rc10 a0 x1 x2 x4 x5 x6 s0 h = some q) : jbq h q.2 := by
  unfold F_X12_fewestTo_58 at hf
  exact (hrc10  hf)
theorem BQ_X12_fewestTo_40 {n : Nat} {rc10 : Nat → Int32 → Int32 → Int32 → Int32 → Int32 → jH → Option (Int32 × jH)} (hrc10 : ∀ {z0 : Nat} {z1 : Int32} {z2 : Int32} {z3 : Int32} {z4 : Int32} {z5 : Int32} {h : jH} {q : Int32 × jH}, rc10 z0 z1 z2 z3 z4 z5 h = some q → jbq h q.2) {a0 : Nat} {x1 : Int32} {x2 : Int32} {x3 : Int32} {x4 : Int32} {x5 : Int32} {sa0 : Nat} {s1 : Int32} {s2 : Int32} {s3 : Int32} {h : jH} {q : Int32 × jH} (hf : F_X12_fewestTo_40 n rc10 a0 x1 x2 x3 x4 x5 sa0 s1 s2 s3 h = some q) : jbq h q.2 := by
  unfold F_X12_fewestTo_40 at hf
  obtain ⟨q40, e1, hf⟩ := jbind hf
  replace e1 := (jcv_o e1).2
  have f1 : jbq h q40.2 := (BQ_X12_stepsTo e1)
  replace hf := jite hf
  rcases hf with ⟨-, hf⟩ | ⟨-, hf⟩
  · exact (jbq_tr f1 (BQ_X12_fewestTo_58 hrc10 hf))
  · exact (jbq_tr f1 (BQ_X12_fewestTo_58 hrc10 hf))
theorem BQ_X12_fewestTo_10 {n : Nat} {k : Nat} : ∀ {a0 : Nat} {x1 : Int32} {x2 : Int32} {x3 : Int32} {x4 : Int32} {x5 : Int32} {h : jH} {q : Int32 × jH}, F_X12_fewestTo_10 n k a0 x1 x2 x3 x4 x5 h = some q → jbq h q.2 := by
  induction k with
  | zero =>
    intro a0 x1 x2 x3 x4 x5 h q hf
    cases hf
  | succ k ih =>
    intro a0 x1 x2 x3 x4 x5 h q hf
    replace hf : F_X12_fewestTo_10_b n (F_X12_fewestTo_10 n k) a0 x1 x2 x3 x4 x5 h = some q := hf
    unfold F_X12_fewestTo_10_b at hf
    obtain ⟨v14, e1, hf⟩ := jbind hf
    replace e1 := (jcv_o e1).2
    replace hf := jite hf
    rcases hf with ⟨-, hf⟩ | ⟨-, hf⟩
    · replace hf := jite hf
      rcases hf with ⟨-, hf⟩ | ⟨-, hf⟩
      · replace hf := jite hf
        rcases hf with ⟨-, hf⟩ | ⟨-, hf⟩
        · cases hf
          exact jbq_rfl
        · cases hf
          exact jbq_rfl
      · cases hf
        exact jbq_rfl
    · replace hf := jite hf
      rcases hf with ⟨-, hf⟩ | ⟨-, hf⟩
      · exact (BQ_X12_fewestTo_40 ih hf)
      · exact (BQ_X12_fewestTo_40 ih hf)
theorem BQ_X12_fewestTo {n : Nat} {a0 : Nat} {x1 : Int32} {x2 : Int32} {h : jH} {q : Int32 × jH} (hf : F_X12_fewestTo n a0 x1 x2 h = some q) : jbq h q.2 := by
  unfold F_X12_fewestTo at hf
  exact (BQ_X12_fewestTo_10 hf)
theorem BQ_X12_fewest {n : Nat} {a0 : Nat} {x1 : Int32} {h : jH} {q : Int32 × jH} (hf : F_X12_fewest n a0 x1 h = some q) : jbq h q.2 := by
  unfold F_X12_fewest at hf
  obtain ⟨h2, e1, hf⟩ := jbind hf
  have f1 : jbq h h2 := bm_pf e1
  obtain ⟨v7, e2, hf⟩ := jbind hf
  replace e2 := (jcv_o e2).2
  replace hf := jite hf
  rcases hf with ⟨-, hf⟩ | ⟨-, hf⟩
  · obtain ⟨q20, e3, hf⟩ := jbind hf
    replace e3 := (jcv_o e3).2
    have f3 : jbq h2 q20.2 := (BQ_X12_fewestTo e3)
    cases hf
    exact (jbq_tr f1 f3)
  · cases hf
    exact f1
theorem BQ_X12_first {n : Nat} {a0 : Nat} {x1 : Int32} {h : jH} {q : Int32 × jH} (hf : F_X12_first n a0 x1 h = some q) : jbq h q.2 := by
  unfold F_X12_first at hf
  obtain ⟨h2, e1, hf⟩ := jbind hf
  have f1 : jbq h h2 := bm_pf e1
  obtain ⟨v7, e2, hf⟩ := jbind hf
  replace e2 := (jcv_o e2).2
  replace hf := jite hf
  rcases hf with ⟨-, hf⟩ | ⟨-, hf⟩
  · obtain ⟨q20, e3, hf⟩ := jbind hf
    replace e3 := (jcv_o e3).2
    have f3 : jbq h2 q20.2 := (BQ_X12_fewestTo e3)
    cases hf
    exact (jbq_tr f1 f3)
  · cases hf
    exact f1
theorem BQ_X12_pale_49 {n : Nat} {a0 : Nat} {x1 : Int32} {h : jH} {q : Int32 × jH} (hf : F_X12_pale_49 n a0 x1 h = some q) : jbq h q.2 := by
  unfold F_X12_pale_49 at hf
  obtain ⟨h50, e1, hf⟩ := jbind hf
  replace e1 := (jcv_o e1).2
  have f1 : jbq h h50 := (BQ_X12_bringsBack e1)
  cases hf
  exact f1
theorem BQ_X12_pale_36 {n : Nat} {rc13 : Nat → Int32 → Int32 → jH → Option (Int32 × jH)} (hrc13 : ∀ {z0 : Nat} {z1 : Int32} {z2 : Int32} {h : jH} {q : Int32 × jH}, rc13 z0 z1 z2 h = some q → jbq h q.2) {a0 : Nat} {x2 : Int32} {s0 : Int32} {h : jH} {q : Int32 × jH} (hf : F_X12_pale_36 n rc13 a0 x2 s0 h = some q) : jbq h q.2 := by
  unfold F_X12_pale_36 at hf
  obtain ⟨q39, e1, hf⟩ := jbind hf
  replace e1 := (jcv_o e1).2
  have f1 : jbq h q39.2 := (BQ_X12_oneHour e1)
  exact (jbq_tr f1 (hrc13  hf))
theorem BQ_X12_pale_13 {n : Nat} {k : Nat} : ∀ {a0 : Nat} {x1 : Int32} {x2 : Int32} {h : jH} {q : Int32 × jH}, F_X12_pale_13 n k a0 x1 x2 h = some q → jbq h q.2 := by
  induction k with
  | zero =>
    intro a0 x1 x2 h q hf
    cases hf
  | succ k ih =>
    intro a0 x1 x2 h q hf
    replace hf : F_X12_pale_13_b n (F_X12_pale_13 n k) a0 x1 x2 h = some q := hf
    unfold F_X12_pale_13_b at hf
    replace hf := jite hf
    rcases hf with ⟨-, hf⟩ | ⟨-, hf⟩
    · exact (BQ_X12_pale_49 hf)
    · replace hf := jite hf
      rcases hf with ⟨-, hf⟩ | ⟨-, hf⟩
      · obtain ⟨v25, e1, hf⟩ := jbind hf
        replace e1 := (jcv_o e1).2
        replace hf := jite hf
        rcases hf with ⟨-, hf⟩ | ⟨-, hf⟩
        · exact (BQ_X12_pale_36 ih hf)
        · exact (BQ_X12_pale_36 ih hf)
      · exact (BQ_X12_pale_49 hf)
theorem BQ_X12_pale {n : Nat} {a0 : Nat} {h : jH} {q : Int32 × jH} (hf : F_X12_pale n a0 h = some q) : jbq h q.2 := by
  unfold F_X12_pale at hf
  obtain ⟨h2, e1, hf⟩ := jbind hf
  have f1 : jbq h h2 := bm_pf e1
  obtain ⟨h8, e2, hf⟩ := jbind hf
  replace e2 := (jcv_o e2).2
  have f2 : jbq h2 h8 := (BQ_X12_keepsAll e2)
  exact (jbq_tr (jbq_tr f1 f2) (BQ_X12_pale_13 hf))
theorem BQ_X12_fault {n : Nat} {a0 : Nat} {h : jH} {q : Int32 × jH} (hf : F_X12_fault n a0 h = some q) : jbq h q.2 := by
  unfold F_X12_fault at hf
  obtain ⟨h2, e1, hf⟩ := jbind hf
  have f1 : jbq h h2 := bm_pf e1
  obtain ⟨v6, e2, hf⟩ := jbind hf
  cases hf
  exact f1
theorem BQ_X12_shade {n : Nat} {a0 : Nat} {h : jH} {q : Int32 × jH} (hf : F_X12_shade n a0 h = some q) : jbq h q.2 := by
  unfold F_X12_shade at hf
  obtain ⟨h2, e1, hf⟩ := jbind hf
  have f1 : jbq h h2 := bm_pf e1
  obtain ⟨v6, e2, hf⟩ := jbind hf
  replace e2 := (jcv_o e2).2
  cases hf
  exact f1
theorem BQ_X12_dark {n : Nat} {a0 : Nat} {h : jH} {q : Int32 × jH} (hf : F_X12_dark n a0 h = some q) : jbq h q.2 := by
  unfold F_X12_dark at hf
  obtain ⟨h2, e1, hf⟩ := jbind hf
  have f1 : jbq h h2 := bm_pf e1
  obtain ⟨v6, e2, hf⟩ := jbind hf
  replace e2 := (jcv_o e2).2
  cases hf
  exact f1
theorem BQ_X12_bare {n : Nat} {a0 : Nat} {h : jH} {q : Int32 × jH} (hf : F_X12_bare n a0 h = some q) : jbq h q.2 := by
  unfold F_X12_bare at hf
  obtain ⟨h2, e1, hf⟩ := jbind hf
  have f1 : jbq h h2 := bm_pf e1
  obtain ⟨p6, e2, hf⟩ := jbind hf
  obtain ⟨v11, e3, hf⟩ := jbind hf
  obtain ⟨v13, e4, hf⟩ := jbind hf
  replace e4 := (jcv_o e4).2
  cases hf
  exact f1
theorem BQ_X12_order_26 {n : Nat} {rc9 : Nat → Int32 → Int32 → jH → Option (Int32 × jH)} (hrc9 : ∀ {z0 : Nat} {z1 : Int32} {z2 : Int32} {h : jH} {q : Int32 × jH}, rc9 z0 z1 z2 h = some q → jbq h q.2) {k : Nat} : ∀ {a0 : Nat} {x1 : Int32} {x2 : Int32} {x3 : Int32} {h : jH} {q : Int32 × jH}, F_X12_order_26 n rc9 k a0 x1 x2 x3 h = some q → jbq h q.2 := by
  induction k with
  | zero =>
    intro a0 x1 x2 x3 h q hf
    cases hf
  | succ k ih =>
    intro a0 x1 x2 x3 h q hf
    replace hf : F_X12_order_26_b n rc9 (F_X12_order_26 n rc9 k) a0 x1 x2 x3 h = some q := hf
    unfold F_X12_order_26_b at hf
    replace hf := jite hf
    rcases hf with ⟨-, hf⟩ | ⟨-, hf⟩
    · obtain ⟨p86, e1, hf⟩ := jbind hf
      obtain ⟨v90, e2, hf⟩ := jbind hf
      exact (hrc9  hf)
    · obtain ⟨p32, e3, hf⟩ := jbind hf
      obtain ⟨v39, e4, hf⟩ := jbind hf
      replace e4 := (jcv_o e4).2
      obtain ⟨v45, e5, hf⟩ := jbind hf
      replace e5 := (jcv_o e5).2
      replace hf := jite hf
      rcases hf with ⟨-, hf⟩ | ⟨-, hf⟩
      · obtain ⟨p72, e6, hf⟩ := jbind hf
        obtain ⟨v76, e7, hf⟩ := jbind hf
        obtain ⟨h77, e8, hf⟩ := jbind hf
        have f8 : jbq h h77 := bm_as e8
        exact (jbq_tr f8 (ih  hf))
      · obtain ⟨p52, e9, hf⟩ := jbind hf
        obtain ⟨v56, e10, hf⟩ := jbind hf
        obtain ⟨p58, e11, hf⟩ := jbind hf
        obtain ⟨v62, e12, hf⟩ := jbind hf
        obtain ⟨h77, e13, hf⟩ := jbind hf
        have f13 : jbq h h77 := bm_as e13
        exact (jbq_tr f13 (ih  hf))
theorem BQ_X12_order_9 {n : Nat} {k : Nat} : ∀ {a0 : Nat} {x1 : Int32} {x2 : Int32} {h : jH} {q : Int32 × jH}, F_X12_order_9 n k a0 x1 x2 h = some q → jbq h q.2 := by
  induction k with
  | zero =>
    intro a0 x1 x2 h q hf
    cases hf
  | succ k ih =>
    intro a0 x1 x2 h q hf
    replace hf : F_X12_order_9_b n (F_X12_order_9 n k) a0 x1 x2 h = some q := hf
    unfold F_X12_order_9_b at hf
    obtain ⟨v11, e1, hf⟩ := jbind hf
    replace e1 := (jcv_o e1).2
    replace hf := jite hf
    rcases hf with ⟨-, hf⟩ | ⟨-, hf⟩
    · obtain ⟨v102, e2, hf⟩ := jbind hf
      replace e2 := (jcv_o e2).2
      cases hf
      exact jbq_rfl
    · obtain ⟨p18, e3, hf⟩ := jbind hf
      obtain ⟨h23, e4, hf⟩ := jbind hf
      have f4 : jbq h h23 := bm_as e4
      exact (jbq_tr f4 (BQ_X12_order_26 ih hf))
theorem BQ_X12_order {n : Nat} {a0 : Nat} {h : jH} {q : Int32 × jH} (hf : F_X12_order n a0 h = some q) : jbq h q.2 := by
  unfold F_X12_order at hf
  obtain ⟨h2, e1, hf⟩ := jbind hf
  have f1 : jbq h h2 := bm_pf e1
  exact (jbq_tr f1 (BQ_X12_order_9 hf))
theorem BQ_X12_slack_9 {n : Nat} {k : Nat} : ∀ {a0 : Nat} {x1 : Int32} {x2 : Int32} {h : jH} {q : Int32 × jH}, F_X12_slack_9 n k a0 x1 x2 h = some q → jbq h q.2 := by
  induction k with
  | zero =>
    intro a0 x1 x2 h q hf
    cases hf
  | succ k ih =>
    intro a0 x1 x2 h q hf
    replace hf : F_X12_slack_9_b n (F_X12_slack_9 n k) a0 x1 x2 h = some q := hf
    unfold F_X12_slack_9_b at hf
    obtain ⟨v11, e1, hf⟩ := jbind hf
    replace e1 := (jcv_o e1).2
    replace hf := jite hf
    rcases hf with ⟨-, hf⟩ | ⟨-, hf⟩
    · cases hf
      exact jbq_rfl
    · obtain ⟨v21, e2, hf⟩ := jbind hf
      replace e2 := (jcv_o e2).2
      obtain ⟨v26, e3, hf⟩ := jbind hf
      replace e3 := (jcv_o e3).2
      exact (ih  hf)
theorem BQ_X12_slack {n : Nat} {a0 : Nat} {h : jH} {q : Int32 × jH} (hf : F_X12_slack n a0 h = some q) : jbq h q.2 := by
  unfold F_X12_slack at hf
  obtain ⟨h2, e1, hf⟩ := jbind hf
  have f1 : jbq h h2 := bm_pf e1
  exact (jbq_tr f1 (BQ_X12_slack_9 hf))
theorem BQ_X12_taut_9 {n : Nat} {k : Nat} : ∀ {a0 : Nat} {x1 : Int32} {x2 : Int32} {h : jH} {q : Int32 × jH}, F_X12_taut_9 n k a0 x1 x2 h = some q → jbq h q.2 := by
  induction k with
  | zero =>
    intro a0 x1 x2 h q hf
    cases hf
  | succ k ih =>
    intro a0 x1 x2 h q hf
    replace hf : F_X12_taut_9_b n (F_X12_taut_9 n k) a0 x1 x2 h = some q := hf
    unfold F_X12_taut_9_b at hf
    obtain ⟨v11, e1, hf⟩ := jbind hf
    replace e1 := (jcv_o e1).2
    replace hf := jite hf
    rcases hf with ⟨-, hf⟩ | ⟨-, hf⟩
    · cases hf
      exact jbq_rfl
    · obtain ⟨v20, e2, hf⟩ := jbind hf
      replace e2 := (jcv_o e2).2
      obtain ⟨v26, e3, hf⟩ := jbind hf
      replace e3 := (jcv_o e3).2
      replace hf := jite hf
      rcases hf with ⟨-, hf⟩ | ⟨-, hf⟩
      · exact (ih  hf)
      · exact (ih  hf)
theorem BQ_X12_taut {n : Nat} {a0 : Nat} {h : jH} {q : Int32 × jH} (hf : F_X12_taut n a0 h = some q) : jbq h q.2 := by
  unfold F_X12_taut at hf
  obtain ⟨h2, e1, hf⟩ := jbind hf
  have f1 : jbq h h2 := bm_pf e1
  exact (jbq_tr f1 (BQ_X12_taut_9 hf))
theorem BQ_X12_sunny_69 {n : Nat} {rc11 : Nat → Int32 → Int32 → Int32 → jH → Option (Int32 × jH)} (hrc11 : ∀ {z0 : Nat} {z1 : Int32} {z2 : Int32} {z3 : Int32} {h : jH} {q : Int32 × jH}, rc11 z0 z1 z2 z3 h = some q → jbq h q.2) {a0 : Nat} {x2 : Int32} {x3 : Int32} {x4 : Int32} {s0 : Int32} {h : jH} {q : Int32 × jH} (hf : F_X12_sunny_69 n rc11 a0 x2 x3 x4 s0 h = some q) : jbq h q.2 := by
  unfold F_X12_sunny_69 at hf
  exact (hrc11  hf)
theorem BQ_X12_sunny_25 {n : Nat} {rc11 : Nat → Int32 → Int32 → Int32 → jH → Option (Int32 × jH)} (hrc11 : ∀ {z0 : Nat} {z1 : Int32} {z2 : Int32} {z3 : Int32} {h : jH} {q : Int32 × jH}, rc11 z0 z1 z2 z3 h = some q → jbq h q.2) {k : Nat} : ∀ {a0 : Nat} {x1 : Int32} {x2 : Int32} {x3 : Int32} {x4 : Int32} {x5 : Int32} {h : jH} {q : Int32 × jH}, F_X12_sunny_25 n rc11 k a0 x1 x2 x3 x4 x5 h = some q → jbq h q.2 := by
  induction k with
  | zero =>
    intro a0 x1 x2 x3 x4 x5 h q hf
    cases hf
  | succ k ih =>
    intro a0 x1 x2 x3 x4 x5 h q hf
    replace hf : F_X12_sunny_25_b n rc11 (F_X12_sunny_25 n rc11 k) a0 x1 x2 x3 x4 x5 h = some q := hf
    unfold F_X12_sunny_25_b at hf
    replace hf := jite hf
    rcases hf with ⟨-, hf⟩ | ⟨-, hf⟩
    · replace hf := jite hf
      rcases hf with ⟨-, hf⟩ | ⟨-, hf⟩
      · exact (BQ_X12_sunny_69 hrc11 hf)
      · exact (BQ_X12_sunny_69 hrc11 hf)
    · obtain ⟨v38, e1, hf⟩ := jbind hf
      replace e1 := (jcv_o e1).2
      replace hf := jite hf
      rcases hf with ⟨-, hf⟩ | ⟨-, hf⟩
      · exact (ih  hf)
      · exact (ih  hf)
theorem BQ_X12_sunny_11 {n : Nat} {k : Nat} : ∀ {a0 : Nat} {x1 : Int32} {x2 : Int32} {x3 : Int32} {h : jH} {q : Int32 × jH}, F_X12_sunny_11 n k a0 x1 x2 x3 h = some q → jbq h q.2 := by
  induction k with
  | zero =>
    intro a0 x1 x2 x3 h q hf
    cases hf
  | succ k ih =>
    intro a0 x1 x2 x3 h q hf
    replace hf : F_X12_sunny_11_b n (F_X12_sunny_11 n k) a0 x1 x2 x3 h = some q := hf
    unfold F_X12_sunny_11_b at hf
    obtain ⟨v13, e1, hf⟩ := jbind hf
    replace e1 := (jcv_o e1).2
    replace hf := jite hf
    rcases hf with ⟨-, hf⟩ | ⟨-, hf⟩
    · cases hf
      exact jbq_rfl
    · exact (BQ_X12_sunny_25 ih hf)
theorem BQ_X12_sunny {n : Nat} {a0 : Nat} {h : jH} {q : Int32 × jH} (hf : F_X12_sunny n a0 h = some q) : jbq h q.2 := by
  unfold F_X12_sunny at hf
  obtain ⟨h2, e1, hf⟩ := jbind hf
  have f1 : jbq h h2 := bm_pf e1
  exact (jbq_tr f1 (BQ_X12_sunny_11 hf))
theorem BQ_X12_envy_9 {n : Nat} {k : Nat} : ∀ {a0 : Nat} {x1 : Int32} {x2 : Int32} {h : jH} {q : Int32 × jH}, F_X12_envy_9 n k a0 x1 x2 h = some q → jbq h q.2 := by
  induction k with
  | zero =>
    intro a0 x1 x2 h q hf
    cases hf
  | succ k ih =>
    intro a0 x1 x2 h q hf
    replace hf : F_X12_envy_9_b n (F_X12_envy_9 n k) a0 x1 x2 h = some q := hf
    unfold F_X12_envy_9_b at hf
    obtain ⟨v11, e1, hf⟩ := jbind hf
    replace e1 := (jcv_o e1).2
    replace hf := jite hf
    rcases hf with ⟨-, hf⟩ | ⟨-, hf⟩
    · cases hf
      exact jbq_rfl
    · obtain ⟨v21, e2, hf⟩ := jbind hf
      replace e2 := (jcv_o e2).2
      obtain ⟨v29, e3, hf⟩ := jbind hf
      replace e3 := (jcv_o e3).2
      replace hf := jite hf
      rcases hf with ⟨-, hf⟩ | ⟨-, hf⟩
      · exact (ih  hf)
      · exact (ih  hf)
theorem BQ_X12_envy {n : Nat} {a0 : Nat} {h : jH} {q : Int32 × jH} (hf : F_X12_envy n a0 h = some q) : jbq h q.2 := by
  unfold F_X12_envy at hf
  obtain ⟨h2, e1, hf⟩ := jbind hf
  have f1 : jbq h h2 := bm_pf e1
  exact (jbq_tr f1 (BQ_X12_envy_9 hf))
theorem BQ_X12_bunch_41 {n : Nat} {rc11 : Nat → Int32 → Int32 → Int32 → jH → Option (Int32 × jH)} (hrc11 : ∀ {z0 : Nat} {z1 : Int32} {z2 : Int32} {z3 : Int32} {h : jH} {q : Int32 × jH}, rc11 z0 z1 z2 z3 h = some q → jbq h q.2) {a0 : Nat} {x1 : Int32} {x3 : Int32} {s0 : Int32} {h : jH} {q : Int32 × jH} (hf : F_X12_bunch_41 n rc11 a0 x1 x3 s0 h = some q) : jbq h q.2 := by
  unfold F_X12_bunch_41 at hf
  exact (hrc11  hf)
theorem BQ_X12_bunch_11 {n : Nat} {k : Nat} : ∀ {a0 : Nat} {x1 : Int32} {x2 : Int32} {x3 : Int32} {h : jH} {q : Int32 × jH}, F_X12_bunch_11 n k a0 x1 x2 x3 h = some q → jbq h q.2 := by
  induction k with
  | zero =>
    intro a0 x1 x2 x3 h q hf
    cases hf
  | succ k ih =>
    intro a0 x1 x2 x3 h q hf
    replace hf : F_X12_bunch_11_b n (F_X12_bunch_11 n k) a0 x1 x2 x3 h = some q := hf
    unfold F_X12_bunch_11_b at hf
    obtain ⟨v13, e1, hf⟩ := jbind hf
    replace e1 := (jcv_o e1).2
    replace hf := jite hf
    rcases hf with ⟨-, hf⟩ | ⟨-, hf⟩
    · cases hf
      exact jbq_rfl
    · replace hf := jite hf
      rcases hf with ⟨-, hf⟩ | ⟨-, hf⟩
      · exact (BQ_X12_bunch_41 ih hf)
      · obtain ⟨v27, e2, hf⟩ := jbind hf
        replace e2 := (jcv_o e2).2
        replace hf := jite hf
        rcases hf with ⟨-, hf⟩ | ⟨-, hf⟩
        · exact (BQ_X12_bunch_41 ih hf)
        · exact (BQ_X12_bunch_41 ih hf)
theorem BQ_X12_bunch {n : Nat} {a0 : Nat} {h : jH} {q : Int32 × jH} (hf : F_X12_bunch n a0 h = some q) : jbq h q.2 := by
  unfold F_X12_bunch at hf
  obtain ⟨h2, e1, hf⟩ := jbind hf
  have f1 : jbq h h2 := bm_pf e1
  exact (jbq_tr f1 (BQ_X12_bunch_11 hf))
theorem BQ_X12_wooden {n : Nat} {a0 : Nat} {h : jH} {q : Int32 × jH} (hf : F_X12_wooden n a0 h = some q) : jbq h q.2 := by
  unfold F_X12_wooden at hf
  obtain ⟨h2, e1, hf⟩ := jbind hf
  have f1 : jbq h h2 := bm_pf e1
  obtain ⟨v7, e2, hf⟩ := jbind hf
  replace e2 := (jcv_o e2).2
  cases hf
  exact f1
theorem BQ_X12_caught {n : Nat} {a0 : Nat} {h : jH} {q : Int32 × jH} (hf : F_X12_caught n a0 h = some q) : jbq h q.2 := by
  unfold F_X12_caught at hf
  obtain ⟨h2, e1, hf⟩ := jbind hf
  have f1 : jbq h h2 := bm_pf e1
  obtain ⟨v8, e2, hf⟩ := jbind hf
  replace e2 := (jcv_o e2).2
  cases hf
  exact f1
theorem BQ_X12_loose {n : Nat} {a0 : Nat} {h : jH} {q : Int32 × jH} (hf : F_X12_loose n a0 h = some q) : jbq h q.2 := by
  unfold F_X12_loose at hf
  obtain ⟨h2, e1, hf⟩ := jbind hf
  have f1 : jbq h h2 := bm_pf e1
  obtain ⟨v6, e2, hf⟩ := jbind hf
  replace e2 := (jcv_o e2).2
  cases hf
  exact f1
theorem BQ_X12_beyond_9 {n : Nat} {k : Nat} : ∀ {a0 : Nat} {x1 : Int32} {x2 : Int32} {h : jH} {q : Int32 × jH}, F_X12_beyond_9 n k a0 x1 x2 h = some q → jbq h q.2 := by
  induction k with
  | zero =>
    intro a0 x1 x2 h q hf
    cases hf
  | succ k ih =>
    intro a0 x1 x2 h q hf
    replace hf : F_X12_beyond_9_b n (F_X12_beyond_9 n k) a0 x1 x2 h = some q := hf
    unfold F_X12_beyond_9_b at hf
    obtain ⟨v11, e1, hf⟩ := jbind hf
    replace e1 := (jcv_o e1).2
    replace hf := jite hf
    rcases hf with ⟨-, hf⟩ | ⟨-, hf⟩
    · cases hf
      exact jbq_rfl
    · obtain ⟨v21, e2, hf⟩ := jbind hf
      replace e2 := (jcv_o e2).2
      replace hf := jite hf
      rcases hf with ⟨-, hf⟩ | ⟨-, hf⟩
      · exact (ih  hf)
      · obtain ⟨v30, e3, hf⟩ := jbind hf
        replace e3 := (jcv_o e3).2
        obtain ⟨p34, e4, hf⟩ := jbind hf
        obtain ⟨v38, e5, hf⟩ := jbind hf
        replace hf := jite hf
        rcases hf with ⟨-, hf⟩ | ⟨-, hf⟩
        · exact (ih  hf)
        · exact (ih  hf)
theorem BQ_X12_beyond {n : Nat} {a0 : Nat} {h : jH} {q : Int32 × jH} (hf : F_X12_beyond n a0 h = some q) : jbq h q.2 := by
  unfold F_X12_beyond at hf
  obtain ⟨h2, e1, hf⟩ := jbind hf
  have f1 : jbq h h2 := bm_pf e1
  exact (jbq_tr f1 (BQ_X12_beyond_9 hf))
theorem BQ_X12_twins_19 {n : Nat} {rc9 : Nat → Int32 → Int32 → jH → Option (Int32 × jH)} (hrc9 : ∀ {z0 : Nat} {z1 : Int32} {z2 : Int32} {h : jH} {q : Int32 × jH}, rc9 z0 z1 z2 h = some q → jbq h q.2) {k : Nat} : ∀ {a0 : Nat} {x1 : Int32} {x2 : Int32} {x3 : Int32} {h : jH} {q : Int32 × jH}, F_X12_twins_19 n rc9 k a0 x1 x2 x3 h = some q → jbq h q.2 := by
  induction k with
  | zero =>
    intro a0 x1 x2 x3 h q hf
    cases hf
  | succ k ih =>
    intro a0 x1 x2 x3 h q hf
    replace hf : F_X12_twins_19_b n rc9 (F_X12_twins_19 n rc9 k) a0 x1 x2 x3 h = some q := hf
    unfold F_X12_twins_19_b at hf
    replace hf := jite hf
    rcases hf with ⟨-, hf⟩ | ⟨-, hf⟩
    · exact (hrc9  hf)
    · obtain ⟨v28, e1, hf⟩ := jbind hf
      replace e1 := (jcv_o e1).2
      replace hf := jite hf
      rcases hf with ⟨-, hf⟩ | ⟨-, hf⟩
      · exact (ih  hf)
      · exact (ih  hf)
theorem BQ_X12_twins_9 {n : Nat} {k : Nat} : ∀ {a0 : Nat} {x1 : Int32} {x2 : Int32} {h : jH} {q : Int32 × jH}, F_X12_twins_9 n k a0 x1 x2 h = some q → jbq h q.2 := by
  induction k with
  | zero =>
    intro a0 x1 x2 h q hf
    cases hf
  | succ k ih =>
    intro a0 x1 x2 h q hf
    replace hf : F_X12_twins_9_b n (F_X12_twins_9 n k) a0 x1 x2 h = some q := hf
    unfold F_X12_twins_9_b at hf
    obtain ⟨v11, e1, hf⟩ := jbind hf
    replace e1 := (jcv_o e1).2
    replace hf := jite hf
    rcases hf with ⟨-, hf⟩ | ⟨-, hf⟩
    · cases hf
      exact jbq_rfl
    · exact (BQ_X12_twins_19 ih hf)
theorem BQ_X12_twins {n : Nat} {a0 : Nat} {h : jH} {q : Int32 × jH} (hf : F_X12_twins n a0 h = some q) : jbq h q.2 := by
  unfold F_X12_twins at hf
  obtain ⟨h2, e1, hf⟩ := jbind hf
  have f1 : jbq h h2 := bm_pf e1
  exact (jbq_tr f1 (BQ_X12_twins_9 hf))
theorem BQ_X12_count {n : Nat} {a0 : Nat} {x1 : Int32} {h : jH} {q : Int32 × jH} (hf : F_X12_count n a0 x1 h = some q) : jbq h q.2 := by
  unfold F_X12_count at hf
  obtain ⟨h2, e1, hf⟩ := jbind hf
  have f1 : jbq h h2 := bm_pf e1
  replace hf := jite hf
  rcases hf with ⟨-, hf⟩ | ⟨-, hf⟩
  · obtain ⟨p41, e2, hf⟩ := jbind hf
    obtain ⟨v45, e3, hf⟩ := jbind hf
    replace hf := jite hf
    rcases hf with ⟨-, hf⟩ | ⟨-, hf⟩
    · obtain ⟨p51, e4, hf⟩ := jbind hf
      obtain ⟨v57, e5, hf⟩ := jbind hf
      cases hf
      exact f1
    · cases hf
      exact f1
  · replace hf := jite hf
    rcases hf with ⟨-, hf⟩ | ⟨-, hf⟩
    · obtain ⟨p64, e6, hf⟩ := jbind hf
      obtain ⟨v69, e7, hf⟩ := jbind hf
      cases hf
      exact f1
    · replace hf := jite hf
      rcases hf with ⟨-, hf⟩ | ⟨-, hf⟩
      · obtain ⟨v72, e8, hf⟩ := jbind hf
        cases hf
        exact f1
      · obtain ⟨v80, e9, hf⟩ := jbind hf
        replace hf := jite hf
        rcases hf with ⟨-, hf⟩ | ⟨-, hf⟩
        · cases hf
          exact f1
        · obtain ⟨p87, e10, hf⟩ := jbind hf
          obtain ⟨v91, e11, hf⟩ := jbind hf
          cases hf
          exact f1
/-- typed heaps of the same ghosts behind a question: the world from 435 on is the same -/
theorem wl_hi {g : jGh} {Γ : Nat → Option Nat} {h h2 : jH} {a : Nat} (w : jW (jKd g) Γ h) (w2 : jW (jKd g) Γ h2) (ha : Γ a = some 21) (B : jbq h h2) {k : Nat} (hk : 435 ≤ k) : oi (oc h2) a k = oi (oc h) a k := by
  obtain ⟨f, e1, p1⟩ := t_arr (t := 0) (N := 2133) (R := fun k x => jRw g k x) w ha rfl
  obtain ⟨f2, e2, p2⟩ := t_arr (t := 0) (N := 2133) (R := fun k x => jRw g k x) w2 ha rfl
  obtain ⟨f3, e3, p3⟩ := B a 0 2133 f e1
  rw [e2] at e3
  cases e3
  have q : f2 k = f k := by
    by_cases y : k < 2133
    · have y1 := (p1 k y).2
      have y2 := (p2 k y).2
      rcases y1 with y1 | y1
      · omega
      rcases y2 with y2 | y2
      · omega
      exact y2.trans y1.symm
    · exact p3 k (by omega)
  unfold oi oc
  rw [e1, e2]
  show (match Value.int (f2 k) with | .int x => x | _ => 0) = (match Value.int (f k) with | .int x => x | _ => 0)
  rw [q]
