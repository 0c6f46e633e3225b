section
/-! what tries on the world brings it back: w: the world below 435 is V; t: the trial is V -/
def wK (w t : Bool) (m : Nat) (V : jWd) (O : jO) : Prop := (w = true → ∀ j : Nat, j < 435 → oi O (m + 1) j = V j) ∧ (t = true → ∀ j : Nat, j < 435 → oi O (m + 4) j = V j)
theorem wk_le {w t w2 t2 : Bool} {m : Nat} {V : jWd} {O : jO} (K : wK w t m V O) (hw : w2 = true → w = true) (ht : t2 = true → t = true) : wK w2 t2 m V O := ⟨fun z => K.1 (hw z), fun z => K.2 (ht z)⟩
theorem wk_fr {w t w2 t2 : Bool} {m : Nat} {V : jWd} {O O2 : jO} {cs fs : List Nat} (K : wK w t m V O) (F : frM m cs fs O O2) (hw : w2 = true → w = true ∧ 1 ∉ cs) (ht : t2 = true → t = true ∧ 4 ∉ cs) : wK w2 t2 m V O2 := by
  refine ⟨fun z j hj => ?_, fun z j hj => ?_⟩
  · rw [← K.1 (hw z).1 j hj]; unfold oi
    rw [F (m + 1) j (fun c h e => (hw z).2 ((show c = 1 by omega) ▸ h)) (fun e => by omega)]
  · rw [← K.2 (ht z).1 j hj]; unfold oi
    rw [F (m + 4) j (fun c h e => (ht z).2 ((show c = 4 by omega) ▸ h)) (fun e => by omega)]
theorem wk_keep {t : Bool} {m n : Nat} {V : jWd} {h q : jH} (M : mS (oc h) m) (K : wK true t m V (oc h)) (hf : F_X12_keepsAll n m h = some q) : wK true true m V (oc q) := by
  unfold F_X12_keepsAll at hf
  obtain ⟨a, b, c⟩ := E_X12_keepsAll_2 n 0 M rfl (by omega) hf
  refine ⟨fun z j hj => ?_, fun z j hj => ?_⟩
  · rw [← K.1 rfl j hj]; unfold oi
    rw [b (m + 1) j (fun c h e => by simp at h; omega) (fun e => by omega)]
  · rw [a j, if_pos ⟨by omega, hj⟩]; exact K.1 rfl j hj
theorem wk_back {w : Bool} {m n : Nat} {V : jWd} {h q : jH} (M : mS (oc h) m) (K : wK w true m V (oc h)) (hf : F_X12_bringsBack n m h = some q) : wK true true m V (oc q) := by
  unfold F_X12_bringsBack at hf
  obtain ⟨a, b, c⟩ := E_X12_bringsBack_2 n 0 M rfl (by omega) hf
  refine ⟨fun z j hj => ?_, fun z j hj => ?_⟩
  · rw [a j, if_pos ⟨by omega, hj⟩]; exact K.2 rfl j hj
  · rw [← K.2 rfl j hj]; unfold oi
    rw [b (m + 4) j (fun c h e => by simp at h; omega) (fun e => by omega)]
theorem WR_X12_goes {V : jWd} {n : Nat} {a0 : Nat} {x1 : Int32} {x2 : Int32} {h : jH} {q : Int32 × jH} (M : mS (oc h) a0) (K : wK true false a0 V (oc h)) (hf : F_X12_goes n a0 x1 x2 h = some q) : wK true false a0 V (oc q.2) := by
  unfold F_X12_goes at hf
  obtain ⟨h2, e1, hf⟩ := jbind hf
  have f1 : frM a0 [] [0] (oc h) (oc h2) := by rw [(oc_pf e1).1]; exact frM_f (by decide)
  have m1 := mS_fr M f1 (by decide) (by decide)
  have k1 : wK true false a0 V (oc h2) := wk_fr K f1 (by decide) (by decide)
  obtain ⟨v8, e2, hf⟩ := jbind hf
  replace e2 := (jcv_o e2).2
  obtain ⟨q12, e3, hf⟩ := jbind hf
  replace e3 := (jcv_o e3).2
  have f3 := FQ_X12_throwsIf m1 e3
  have m3 := mS_fr m1 f3 (by decide) (by decide)
  have k3 : wK true false a0 V (oc q12.2) := wk_fr k1 f3 (by decide) (by decide)
  replace hf := jite hf
  rcases hf with ⟨-, hf⟩ | ⟨-, hf⟩
  · obtain ⟨h21, e4, hf⟩ := jbind hf
    replace e4 := (jcv_o e4).2
    have f4 := FQ_X12_keepsAll m3 e4
    have m4 := mS_fr m3 f4 (by decide) (by decide)
    have k4 := wk_keep m3 k3 e4
    obtain ⟨q29, e5, hf⟩ := jbind hf
    replace e5 := (jcv_o e5).2
    have f5 := FQ_X12_pulls m4 e5
    have m5 := mS_fr m4 f5 (by decide) (by decide)
    have k5 : wK false true a0 V (oc q29.2) := wk_fr k4 f5 (by decide) (by decide)
    obtain ⟨h34, e6, hf⟩ := jbind hf
    replace e6 := (jcv_o e6).2
    have f6 := FQ_X12_bringsBack m5 e6
    have m6 := mS_fr m5 f6 (by decide) (by decide)
    have k6 := wk_back m5 k5 e6
    cases hf
    exact wk_le k6 (by decide) (by decide)
  · cases hf
    exact wk_le k3 (by decide) (by decide)
theorem WR_X12_would_60 {V : jWd} {n : Nat} {a0 : Nat} {s0 : Int32} {h : jH} {q : Int32 × jH} (M : mS (oc h) a0) (K : wK false true a0 V (oc h)) (hf : F_X12_would_60 n a0 s0 h = some q) : wK true true a0 V (oc q.2) := by
  unfold F_X12_would_60 at hf
  obtain ⟨h63, e1, hf⟩ := jbind hf
  replace e1 := (jcv_o e1).2
  have f1 := FQ_X12_bringsBack M e1
  have m1 := mS_fr M f1 (by decide) (by decide)
  have k1 := wk_back M K e1
  cases hf
  exact wk_le k1 (by decide) (by decide)
theorem WR_X12_would {V : jWd} {n : Nat} {a0 : Nat} {x1 : Int32} {x2 : Int32} {x3 : Int32} {x4 : Int32} {h : jH} {q : Int32 × jH} (M : mS (oc h) a0) (K : wK true false a0 V (oc h)) (hf : F_X12_would n a0 x1 x2 x3 x4 h = some q) : wK true false a0 V (oc q.2) := by
  unfold F_X12_would at hf
  obtain ⟨h2, e1, hf⟩ := jbind hf
  have f1 : frM a0 [] [0] (oc h) (oc h2) := by rw [(oc_pf e1).1]; exact frM_f (by decide)
  have m1 := mS_fr M f1 (by decide) (by decide)
  have k1 : wK true false a0 V (oc h2) := wk_fr K f1 (by decide) (by decide)
  obtain ⟨v8, e2, hf⟩ := jbind hf
  replace e2 := (jcv_o e2).2
  obtain ⟨q12, e3, hf⟩ := jbind hf
  replace e3 := (jcv_o e3).2
  have f3 := FQ_X12_throwsIf m1 e3
  have m3 := mS_fr m1 f3 (by decide) (by decide)
  have k3 : wK true false a0 V (oc q12.2) := wk_fr k1 f3 (by decide) (by decide)
  replace hf := jite hf
  rcases hf with ⟨-, hf⟩ | ⟨-, hf⟩
  · obtain ⟨v20, e4, hf⟩ := jbind hf
    obtain ⟨q24, e5, hf⟩ := jbind hf
    replace e5 := (jcv_o e5).2
    have f5 := FQ_X12_throwsIf m3 e5
    have m5 := mS_fr m3 f5 (by decide) (by decide)
    have k5 : wK true false a0 V (oc q24.2) := wk_fr k3 f5 (by decide) (by decide)
    replace hf := jite hf
    rcases hf with ⟨-, hf⟩ | ⟨-, hf⟩
    · obtain ⟨h33, e6, hf⟩ := jbind hf
      replace e6 := (jcv_o e6).2
      have f6 := FQ_X12_keepsAll m5 e6
      have m6 := mS_fr m5 f6 (by decide) (by decide)
      have k6 := wk_keep m5 k5 e6
      obtain ⟨q40, e7, hf⟩ := jbind hf
      replace e7 := (jcv_o e7).2
      have f7 := FQ_X12_pulls m6 e7
      have m7 := mS_fr m6 f7 (by decide) (by decide)
      have k7 : wK false true a0 V (oc q40.2) := wk_fr k6 f7 (by decide) (by decide)
      replace hf := jite hf
      rcases hf with ⟨-, hf⟩ | ⟨-, hf⟩
      · obtain ⟨v57, e8, hf⟩ := jbind hf
        replace e8 := (jcv_o e8).2
        exact wk_le ((WR_X12_would_60 m7 (wk_le k7 (by decide) (by decide)) hf)) (by decide) (by decide)
      · obtain ⟨v50, e9, hf⟩ := jbind hf
        exact wk_le ((WR_X12_would_60 m7 (wk_le k7 (by decide) (by decide)) hf)) (by decide) (by decide)
    · cases hf
      exact wk_le k5 (by decide) (by decide)
  · cases hf
    exact wk_le k3 (by decide) (by decide)
theorem WR_X12_wentWith {V : jWd} {n : Nat} {a0 : Nat} {x1 : Int32} {x2 : Int32} {x3 : Int32} {x4 : Int32} {h : jH} {q : Int32 × jH} (M : mS (oc h) a0) (K : wK true false a0 V (oc h)) (hf : F_X12_wentWith n a0 x1 x2 x3 x4 h = some q) : wK true true a0 V (oc q.2) := by
  unfold F_X12_wentWith at hf
  obtain ⟨h1, e1, hf⟩ := jbind hf
  replace e1 := (jcv_o e1).2
  have f1 := FQ_X12_keepsAll M e1
  have m1 := mS_fr M f1 (by decide) (by decide)
  have k1 := wk_keep M K e1
  obtain ⟨h6, e2, hf⟩ := jbind hf
  replace e2 := (jcv_o e2).2
  have f2 := FQ_X12_areCaught m1 e2
  have m2 := mS_fr m1 f2 (by decide) (by decide)
  have k2 : wK false true a0 V (oc h6) := wk_fr k1 f2 (by decide) (by decide)
  obtain ⟨q14, e3, hf⟩ := jbind hf
  replace e3 := (jcv_o e3).2
  have f3 := FQ_X12_pulls m2 e3
  have m3 := mS_fr m2 f3 (by decide) (by decide)
  have k3 : wK false true a0 V (oc q14.2) := wk_fr k2 f3 (by decide) (by decide)
  obtain ⟨h20, e4, hf⟩ := jbind hf
  replace e4 := (jcv_o e4).2
  have f4 := FQ_X12_bringsBack m3 e4
  have m4 := mS_fr m3 f4 (by decide) (by decide)
  have k4 := wk_back m3 k3 e4
  cases hf
  exact wk_le k4 (by decide) (by decide)
theorem WR_X12_loosen_51 {V : jWd} {n : Nat} {k : Nat} : ∀ {a0 : Nat} {x1 : Int32} {x2 : Int32} {x3 : Int32} {x4 : Int32} {x5 : Int32} {x6 : Int32} {x7 : Int32} {h : jH} {q : Int32 × jH}, mS (oc h) a0 → wK true false a0 V (oc h) → F_X12_loosen_51 n k a0 x1 x2 x3 x4 x5 x6 x7 h = some q → wK true false a0 V (oc q.2) := by
  induction k with
  | zero =>
    intro a0 x1 x2 x3 x4 x5 x6 x7 h q M K hf
    cases hf
  | succ k ih =>
    intro a0 x1 x2 x3 x4 x5 x6 x7 h q M K hf
    replace hf : F_X12_loosen_51_b n (F_X12_loosen_51 n k) a0 x1 x2 x3 x4 x5 x6 x7 h = some q := hf
    unfold F_X12_loosen_51_b at hf
    replace hf := jite hf
    rcases hf with ⟨-, hf⟩ | ⟨-, hf⟩
    · cases hf
      exact wk_le K (by decide) (by decide)
    · replace hf := jite hf
      rcases hf with ⟨-, hf⟩ | ⟨-, hf⟩
      · obtain ⟨v70, e1, hf⟩ := jbind hf
        replace hf := jite hf
        rcases hf with ⟨-, hf⟩ | ⟨-, hf⟩
        · exact wk_le ((ih) M (wk_le K (by decide) (by decide)) hf) (by decide) (by decide)
        · obtain ⟨q89, e2, hf⟩ := jbind hf
          replace e2 := (jcv_o e2).2
          have f2 := FQ_X12_wentWith M e2
          have m2 := mS_fr M f2 (by decide) (by decide)
          have k2 := (WR_X12_wentWith M (wk_le K (by decide) (by decide)) e2)
          replace hf := jite hf
          rcases hf with ⟨-, hf⟩ | ⟨-, hf⟩
          · obtain ⟨v105, e3, hf⟩ := jbind hf
            exact wk_le ((ih) m2 (wk_le k2 (by decide) (by decide)) hf) (by decide) (by decide)
          · exact wk_le ((ih) m2 (wk_le k2 (by decide) (by decide)) hf) (by decide) (by decide)
      · exact wk_le ((ih) M (wk_le K (by decide) (by decide)) hf) (by decide) (by decide)
theorem WR_X12_loosen {V : jWd} {n : Nat} {a0 : Nat} {x1 : Int32} {x2 : Int32} {x3 : Int32} {h : jH} {q : Int32 × jH} (M : mS (oc h) a0) (K : wK true false a0 V (oc h)) (hf : F_X12_loosen n a0 x1 x2 x3 h = some q) : wK true false a0 V (oc q.2) := by
  unfold F_X12_loosen at hf
  obtain ⟨h2, e1, hf⟩ := jbind hf
  have f1 : frM a0 [] [0] (oc h) (oc h2) := by rw [(oc_pf e1).1]; exact frM_f (by decide)
  have m1 := mS_fr M f1 (by decide) (by decide)
  have k1 : wK true false a0 V (oc h2) := wk_fr K f1 (by decide) (by decide)
  obtain ⟨v8, e2, hf⟩ := jbind hf
  replace e2 := (jcv_o e2).2
  obtain ⟨q12, e3, hf⟩ := jbind hf
  replace e3 := (jcv_o e3).2
  have f3 := FQ_X12_throwsIf m1 e3
  have m3 := mS_fr m1 f3 (by decide) (by decide)
  have k3 : wK true false a0 V (oc q12.2) := wk_fr k1 f3 (by decide) (by decide)
  replace hf := jite hf
  rcases hf with ⟨-, hf⟩ | ⟨-, hf⟩
  · obtain ⟨v20, e4, hf⟩ := jbind hf
    obtain ⟨q24, e5, hf⟩ := jbind hf
    replace e5 := (jcv_o e5).2
    have f5 := FQ_X12_throwsIf m3 e5
    have m5 := mS_fr m3 f5 (by decide) (by decide)
    have k5 : wK true false a0 V (oc q24.2) := wk_fr k3 f5 (by decide) (by decide)
    replace hf := jite hf
    rcases hf with ⟨-, hf⟩ | ⟨-, hf⟩
    · obtain ⟨v35, e6, hf⟩ := jbind hf
      replace e6 := (jcv_o e6).2
      exact wk_le ((WR_X12_loosen_51 m5 (wk_le k5 (by decide) (by decide)) hf)) (by decide) (by decide)
    · cases hf
      exact wk_le k5 (by decide) (by decide)
  · cases hf
    exact wk_le k3 (by decide) (by decide)
theorem WR_X12_fits_41 {V : jWd} {n : Nat} {rc4 : Nat → Int32 → Int32 → Int32 → jH → Option (Int32 × jH)} (hrc4 : ∀ {z0 : Nat} {z1 : Int32} {z2 : Int32} {z3 : Int32} {h : jH} {q : Int32 × jH}, mS (oc h) z0 → rc4 z0 z1 z2 z3 h = some q → frM z0 [1, 4] [18] (oc h) (oc q.2)) (wrc4 : ∀ {z0 : Nat} {z1 : Int32} {z2 : Int32} {z3 : Int32} {h : jH} {q : Int32 × jH}, mS (oc h) z0 → wK true false z0 V (oc h) → rc4 z0 z1 z2 z3 h = some q → wK true false z0 V (oc q.2)) {a0 : Nat} {x1 : Int32} {x3 : Int32} {sa0 : Nat} {s1 : Int32} {s2 : Int32} {s3 : Int32} {h : jH} {q : Int32 × jH} (hs : a0 = sa0) (M : mS (oc h) a0) (K : wK true false a0 V (oc h)) (hf : F_X12_fits_41 n rc4 a0 x1 x3 sa0 s1 s2 s3 h = some q) : wK true false a0 V (oc q.2) := by
  unfold F_X12_fits_41 at hf
  subst hs
  obtain ⟨p42, e1, hf⟩ := jbind hf
  have r1 := oc_gR e1
  rw [M.2.2.2.2.2.1] at r1
  cases r1
  obtain ⟨v48, e2, hf⟩ := jbind hf
  obtain ⟨q49, e3, hf⟩ := jbind hf
  replace e3 := (jcv_o e3).2
  have f3 := FQ_X12_wentWith M e3
  have m3 := mS_fr M f3 (by decide) (by decide)
  have k3 := (WR_X12_wentWith M (wk_le K (by decide) (by decide)) e3)
  obtain ⟨p53, e4, hf⟩ := jbind hf
  have r4 := oc_gR e4
  rw [m3.2.2.2.2.2.1] at r4
  cases r4
  obtain ⟨v59, e5, hf⟩ := jbind hf
  replace hf := jite hf
  rcases hf with ⟨-, hf⟩ | ⟨-, hf⟩
  · exact wk_le (wrc4 m3 (wk_le k3 (by decide) (by decide)) hf) (by decide) (by decide)
  · exact wk_le (wrc4 m3 (wk_le k3 (by decide) (by decide)) hf) (by decide) (by decide)
theorem WR_X12_fits_4 {V : jWd} {n : Nat} {k : Nat} : ∀ {a0 : Nat} {x1 : Int32} {x2 : Int32} {x3 : Int32} {h : jH} {q : Int32 × jH}, mS (oc h) a0 → wK true false a0 V (oc h) → F_X12_fits_4 n k a0 x1 x2 x3 h = some q → wK true false a0 V (oc q.2) := by
  induction k with
  | zero =>
    intro a0 x1 x2 x3 h q M K hf
    cases hf
  | succ k ih =>
    intro a0 x1 x2 x3 h q M K hf
    replace hf : F_X12_fits_4_b n (F_X12_fits_4 n k) a0 x1 x2 x3 h = some q := hf
    unfold F_X12_fits_4_b at hf
    obtain ⟨v6, e1, hf⟩ := jbind hf
    replace hf := jite hf
    rcases hf with ⟨-, hf⟩ | ⟨-, hf⟩
    · replace hf := jite hf
      rcases hf with ⟨-, hf⟩ | ⟨-, hf⟩
      · cases hf
        exact wk_le K (by decide) (by decide)
      · cases hf
    · replace hf := jite hf
      rcases hf with ⟨-, hf⟩ | ⟨-, hf⟩
      · replace hf := jite hf
        rcases hf with ⟨-, hf⟩ | ⟨-, hf⟩
        · cases hf
          exact wk_le K (by decide) (by decide)
        · cases hf
      · obtain ⟨p19, e2, hf⟩ := jbind hf
        have r2 := oc_gR e2
        rw [M.2.2.2.2.2.1] at r2
        cases r2
        obtain ⟨v23, e3, hf⟩ := jbind hf
        obtain ⟨p25, e4, hf⟩ := jbind hf
        have r4 := oc_gR e4
        rw [M.2.2.2.2.2.1] at r4
        cases r4
        obtain ⟨v31, e5, hf⟩ := jbind hf
        replace hf := jite hf
        rcases hf with ⟨-, hf⟩ | ⟨-, hf⟩
        · exact wk_le ((WR_X12_fits_41 (FQ_X12_fits_4) (ih) rfl M (wk_le K (by decide) (by decide)) hf)) (by decide) (by decide)
        · exact wk_le ((WR_X12_fits_41 (FQ_X12_fits_4) (ih) rfl M (wk_le K (by decide) (by decide)) hf)) (by decide) (by decide)
theorem WR_X12_fits {V : jWd} {n : Nat} {a0 : Nat} {x1 : Int32} {h : jH} {q : Int32 × jH} (M : mS (oc h) a0) (K : wK true false a0 V (oc h)) (hf : F_X12_fits n a0 x1 h = some q) : wK true false a0 V (oc q.2) := by
  unfold F_X12_fits at hf
  exact wk_le ((WR_X12_fits_4 M (wk_le K (by decide) (by decide)) hf)) (by decide) (by decide)
theorem WR_X12_snags_36 {V : jWd} {n : Nat} {k : Nat} : ∀ {a0 : Nat} {x1 : Int32} {x2 : Int32} {x3 : Int32} {x4 : Int32} {h : jH} {q : Int32 × jH}, mS (oc h) a0 → wK true false a0 V (oc h) → F_X12_snags_36 n k a0 x1 x2 x3 x4 h = some q → wK true false a0 V (oc q.2) := by
  induction k with
  | zero =>
    intro a0 x1 x2 x3 x4 h q M K hf
    cases hf
  | succ k ih =>
    intro a0 x1 x2 x3 x4 h q M K hf
    replace hf : F_X12_snags_36_b n (F_X12_snags_36 n k) a0 x1 x2 x3 x4 h = some q := hf
    unfold F_X12_snags_36_b at hf
    obtain ⟨v39, e1, hf⟩ := jbind hf
    replace e1 := (jcv_o e1).2
    replace hf := jite hf
    rcases hf with ⟨-, hf⟩ | ⟨-, hf⟩
    · replace hf := jite hf
      rcases hf with ⟨-, hf⟩ | ⟨-, hf⟩
      · cases hf
        exact wk_le K (by decide) (by decide)
      · replace hf := jite hf
        rcases hf with ⟨-, hf⟩ | ⟨-, hf⟩
        · cases hf
          exact wk_le K (by decide) (by decide)
        · cases hf
          exact wk_le K (by decide) (by decide)
    · obtain ⟨q48, e2, hf⟩ := jbind hf
      replace e2 := (jcv_o e2).2
      have f2 := FQ_X12_fits M e2
      have m2 := mS_fr M f2 (by decide) (by decide)
      have k2 := (WR_X12_fits M (wk_le K (by decide) (by decide)) e2)
      replace hf := jite hf
      rcases hf with ⟨-, hf⟩ | ⟨-, hf⟩
      · exact wk_le ((ih) m2 (wk_le k2 (by decide) (by decide)) hf) (by decide) (by decide)
      · exact wk_le ((ih) m2 (wk_le k2 (by decide) (by decide)) hf) (by decide) (by decide)
theorem WR_X12_snags_17 {V : jWd} {n : Nat} {a0 : Nat} {x1 : Int32} {sa0 : Nat} {s1 : Int32} {h : jH} {q : Int32 × jH} (hs : a0 = sa0) (M : mS (oc h) a0) (K : wK true false a0 V (oc h)) (hf : F_X12_snags_17 n a0 x1 sa0 s1 h = some q) : wK true false a0 V (oc q.2) := by
  unfold F_X12_snags_17 at hf
  subst hs
  obtain ⟨q18, e1, hf⟩ := jbind hf
  replace e1 := (jcv_o e1).2
  have f1 := FQ_X12_throwsIf M e1
  have m1 := mS_fr M f1 (by decide) (by decide)
  have k1 : wK true false a0 V (oc q18.2) := wk_fr K f1 (by decide) (by decide)
  replace hf := jite hf
  rcases hf with ⟨-, hf⟩ | ⟨-, hf⟩
  · obtain ⟨v29, e2, hf⟩ := jbind hf
    replace e2 := (jcv_o e2).2
    exact wk_le ((WR_X12_snags_36 m1 (wk_le k1 (by decide) (by decide)) hf)) (by decide) (by decide)
  · cases hf
    exact wk_le k1 (by decide) (by decide)
theorem WR_X12_snags {V : jWd} {n : Nat} {a0 : Nat} {x1 : Int32} {h : jH} {q : Int32 × jH} (M : mS (oc h) a0) (K : wK true false a0 V (oc h)) (hf : F_X12_snags n a0 x1 h = some q) : wK true false a0 V (oc q.2) := by
  unfold F_X12_snags at hf
  obtain ⟨h1, e1, hf⟩ := jbind hf
  replace e1 := (jcv_o e1).2
  have f1 := FQ_X12_uses M e1
  have m1 := mS_fr M f1 (by decide) (by decide)
  have k1 : wK true false a0 V (oc h1) := wk_fr K f1 (by decide) (by decide)
  obtain ⟨v6, e2, hf⟩ := jbind hf
  replace e2 := (jcv_o e2).2
  replace hf := jite hf
  rcases hf with ⟨-, hf⟩ | ⟨-, hf⟩
  · exact wk_le ((WR_X12_snags_17 rfl m1 (wk_le k1 (by decide) (by decide)) hf)) (by decide) (by decide)
  · exact wk_le ((WR_X12_snags_17 rfl m1 (wk_le k1 (by decide) (by decide)) hf)) (by decide) (by decide)
theorem WR_X12_partBy_29 {V : jWd} {n : Nat} {k : Nat} : ∀ {a0 : Nat} {x1 : Int32} {x2 : Int32} {x3 : Int32} {x4 : Int32} {h : jH} {q : Int32 × jH}, mS (oc h) a0 → wK true false a0 V (oc h) → F_X12_partBy_29 n k a0 x1 x2 x3 x4 h = some q → wK true false a0 V (oc q.2) := by
  induction k with
  | zero =>
    intro a0 x1 x2 x3 x4 h q M K hf
    cases hf
  | succ k ih =>
    intro a0 x1 x2 x3 x4 h q M K hf
    replace hf : F_X12_partBy_29_b n (F_X12_partBy_29 n k) a0 x1 x2 x3 x4 h = some q := hf
    unfold F_X12_partBy_29_b at hf
    obtain ⟨v32, e1, hf⟩ := jbind hf
    replace e1 := (jcv_o e1).2
    replace hf := jite hf
    rcases hf with ⟨-, hf⟩ | ⟨-, hf⟩
    · cases hf
      exact wk_le K (by decide) (by decide)
    · obtain ⟨p39, e2, hf⟩ := jbind hf
      have r2 := oc_gR e2
      rw [M.2.2.2.2.2.2.2.2.1] at r2
      cases r2
      obtain ⟨v44, e3, hf⟩ := jbind hf
      replace hf := jite hf
      rcases hf with ⟨-, hf⟩ | ⟨-, hf⟩
      · exact wk_le ((ih) M (wk_le K (by decide) (by decide)) hf) (by decide) (by decide)
      · obtain ⟨q58, e4, hf⟩ := jbind hf
        replace e4 := (jcv_o e4).2
        have f4 := FQ_X12_wentWith M e4
        have m4 := mS_fr M f4 (by decide) (by decide)
        have k4 := (WR_X12_wentWith M (wk_le K (by decide) (by decide)) e4)
        obtain ⟨p64, e5, hf⟩ := jbind hf
        have r5 := oc_gR e5
        rw [m4.2.2.2.2.2.2.2.2.2.1] at r5
        cases r5
        obtain ⟨v70, e6, hf⟩ := jbind hf
        obtain ⟨h73, e7, hf⟩ := jbind hf
        have f7 : frM a0 [10] [] (oc q58.2) (oc h73) := by rw [(oc_as e7).1]; exact frM_c (by decide)
        have m7 := mS_fr m4 f7 (by decide) (by decide)
        have k7 : wK true true a0 V (oc h73) := wk_fr k4 f7 (by decide) (by decide)
        obtain ⟨p76, e8, hf⟩ := jbind hf
        have r8 := oc_gR e8
        rw [m7.2.2.2.2.2.2.2.2.2.1] at r8
        cases r8
        obtain ⟨v81, e9, hf⟩ := jbind hf
        exact wk_le ((ih) m7 (wk_le k7 (by decide) (by decide)) hf) (by decide) (by decide)
theorem WR_X12_partBy_5 {V : jWd} {n : Nat} {k : Nat} : ∀ {a0 : Nat} {x1 : Int32} {x2 : Int32} {x3 : Int32} {x4 : Int32} {h : jH} {q : Int32 × jH}, mS (oc h) a0 → wK true false a0 V (oc h) → F_X12_partBy_5 n k a0 x1 x2 x3 x4 h = some q → wK true false a0 V (oc q.2) := by
  induction k with
  | zero =>
    intro a0 x1 x2 x3 x4 h q M K hf
    cases hf
  | succ k ih =>
    intro a0 x1 x2 x3 x4 h q M K hf
    replace hf : F_X12_partBy_5_b n (F_X12_partBy_5 n k) a0 x1 x2 x3 x4 h = some q := hf
    unfold F_X12_partBy_5_b at hf
    replace hf := jite hf
    rcases hf with ⟨-, hf⟩ | ⟨-, hf⟩
    · exact wk_le ((WR_X12_partBy_29 M (wk_le K (by decide) (by decide)) hf)) (by decide) (by decide)
    · obtain ⟨p13, e1, hf⟩ := jbind hf
      have r1 := oc_gR e1
      rw [M.2.2.2.2.2.2.2.2.2.1] at r1
      cases r1
      obtain ⟨h19, e2, hf⟩ := jbind hf
      have f2 : frM a0 [10] [] (oc h) (oc h19) := by rw [(oc_as e2).1]; exact frM_c (by decide)
      have m2 := mS_fr M f2 (by decide) (by decide)
      have k2 : wK true false a0 V (oc h19) := wk_fr K f2 (by decide) (by decide)
      exact wk_le ((ih) m2 (wk_le k2 (by decide) (by decide)) hf) (by decide) (by decide)
theorem WR_X12_partBy {V : jWd} {n : Nat} {a0 : Nat} {x1 : Int32} {x2 : Int32} {h : jH} {q : Int32 × jH} (M : mS (oc h) a0) (K : wK true false a0 V (oc h)) (hf : F_X12_partBy n a0 x1 x2 h = some q) : wK true false a0 V (oc q.2) := by
  unfold F_X12_partBy at hf
  exact wk_le ((WR_X12_partBy_5 M (wk_le K (by decide) (by decide)) hf)) (by decide) (by decide)
theorem WR_X12_tries_132 {V : jWd} {n : Nat} {rc81 : Nat → Int32 → Int32 → Int32 → Int32 → jH → Option (Int32 × jH)} (hrc81 : ∀ {z0 : Nat} {z1 : Int32} {z2 : Int32} {z3 : Int32} {z4 : Int32} {h : jH} {q : Int32 × jH}, mS (oc h) z0 → rc81 z0 z1 z2 z3 z4 h = some q → frM z0 [1, 4, 10] [18] (oc h) (oc q.2)) (wrc81 : ∀ {z0 : Nat} {z1 : Int32} {z2 : Int32} {z3 : Int32} {z4 : Int32} {h : jH} {q : Int32 × jH}, mS (oc h) z0 → wK true false z0 V (oc h) → rc81 z0 z1 z2 z3 z4 h = some q → wK true false z0 V (oc q.2)) {a0 : Nat} {x1 : Int32} {x3 : Int32} {x4 : Int32} {x5 : Int32} {s0 : Int32} {h : jH} {q : Int32 × jH} (M : mS (oc h) a0) (K : wK true false a0 V (oc h)) (hf : F_X12_tries_132 n rc81 a0 x1 x3 x4 x5 s0 h = some q) : wK true false a0 V (oc q.2) := by
  unfold F_X12_tries_132 at hf
  exact wk_le (wrc81 M (wk_le K (by decide) (by decide)) hf) (by decide) (by decide)
theorem WR_X12_tries_115 {V : jWd} {n : Nat} {rc81 : Nat → Int32 → Int32 → Int32 → Int32 → jH → Option (Int32 × jH)} (hrc81 : ∀ {z0 : Nat} {z1 : Int32} {z2 : Int32} {z3 : Int32} {z4 : Int32} {h : jH} {q : Int32 × jH}, mS (oc h) z0 → rc81 z0 z1 z2 z3 z4 h = some q → frM z0 [1, 4, 10] [18] (oc h) (oc q.2)) (wrc81 : ∀ {z0 : Nat} {z1 : Int32} {z2 : Int32} {z3 : Int32} {z4 : Int32} {h : jH} {q : Int32 × jH}, mS (oc h) z0 → wK true false z0 V (oc h) → rc81 z0 z1 z2 z3 z4 h = some q → wK true false z0 V (oc q.2)) {a0 : Nat} {x1 : Int32} {x2 : Int32} {x3 : Int32} {x4 : Int32} {sa0 : Nat} {s1 : Int32} {s2 : Int32} {h : jH} {q : Int32 × jH} (hs : a0 = sa0) (M : mS (oc h) a0) (K : wK true false a0 V (oc h)) (hf : F_X12_tries_115 n rc81 a0 x1 x2 x3 x4 sa0 s1 s2 h = some q) : wK true false a0 V (oc q.2) := by
  unfold F_X12_tries_115 at hf
  subst hs
  obtain ⟨q115, e1, hf⟩ := jbind hf
  replace e1 := (jcv_o e1).2
  have f1 := FQ_X12_partBy M e1
  have m1 := mS_fr M f1 (by decide) (by decide)
  have k1 := (WR_X12_partBy M (wk_le K (by decide) (by decide)) e1)
  replace hf := jite hf
  rcases hf with ⟨-, hf⟩ | ⟨-, hf⟩
  · exact wk_le ((WR_X12_tries_132 hrc81 wrc81 m1 (wk_le k1 (by decide) (by decide)) hf)) (by decide) (by decide)
  · exact wk_le ((WR_X12_tries_132 hrc81 wrc81 m1 (wk_le k1 (by decide) (by decide)) hf)) (by decide) (by decide)
theorem WR_X12_tries_81 {V : jWd} {n : Nat} {k : Nat} : ∀ {a0 : Nat} {x1 : Int32} {x2 : Int32} {x3 : Int32} {x4 : Int32} {h : jH} {q : Int32 × jH}, mS (oc h) a0 → wK true false a0 V (oc h) → F_X12_tries_81 n k a0 x1 x2 x3 x4 h = some q → wK true false a0 V (oc q.2) := by
  induction k with
  | zero =>
    intro a0 x1 x2 x3 x4 h q M K hf
    cases hf
  | succ k ih =>
    intro a0 x1 x2 x3 x4 h q M K hf
    replace hf : F_X12_tries_81_b n (F_X12_tries_81 n k) a0 x1 x2 x3 x4 h = some q := hf
    unfold F_X12_tries_81_b at hf
    obtain ⟨v85, e1, hf⟩ := jbind hf
    replace e1 := (jcv_o e1).2
    replace hf := jite hf
    rcases hf with ⟨-, hf⟩ | ⟨-, hf⟩
    · cases hf
      exact wk_le K (by decide) (by decide)
    · replace hf := jite hf
      rcases hf with ⟨-, hf⟩ | ⟨-, hf⟩
      · cases hf
        exact wk_le K (by decide) (by decide)
      · replace hf := jite hf
        rcases hf with ⟨-, hf⟩ | ⟨-, hf⟩
        · exact wk_le ((WR_X12_tries_115 (FQ_X12_tries_81) (ih) rfl M (wk_le K (by decide) (by decide)) hf)) (by decide) (by decide)
        · exact wk_le ((WR_X12_tries_115 (FQ_X12_tries_81) (ih) rfl M (wk_le K (by decide) (by decide)) hf)) (by decide) (by decide)
theorem WR_X12_tries_30 {V : jWd} {n : Nat} {k : Nat} : ∀ {a0 : Nat} {x1 : Int32} {x2 : Int32} {h : jH} {q : Int32 × jH}, mS (oc h) a0 → wK true false a0 V (oc h) → F_X12_tries_30 n k a0 x1 x2 h = some q → wK true false a0 V (oc q.2) := by
  induction k with
  | zero =>
    intro a0 x1 x2 h q M K hf
    cases hf
  | succ k ih =>
    intro a0 x1 x2 h q M K hf
    replace hf : F_X12_tries_30_b n (F_X12_tries_30 n k) a0 x1 x2 h = some q := hf
    unfold F_X12_tries_30_b at hf
    obtain ⟨v32, e1, hf⟩ := jbind hf
    replace e1 := (jcv_o e1).2
    replace hf := jite hf
    rcases hf with ⟨-, hf⟩ | ⟨-, hf⟩
    · exact wk_le ((WR_X12_tries_81 M (wk_le K (by decide) (by decide)) hf)) (by decide) (by decide)
    · obtain ⟨p39, e2, hf⟩ := jbind hf
      have r2 := oc_gR e2
      rw [M.2.2.2.2.2.2.2.2.1] at r2
      cases r2
      obtain ⟨q45, e3, hf⟩ := jbind hf
      replace e3 := (jcv_o e3).2
      have f3 := FQ_X12_fits M e3
      have m3 := mS_fr M f3 (by decide) (by decide)
      have k3 := (WR_X12_fits M (wk_le K (by decide) (by decide)) e3)
      obtain ⟨h48, e4, hf⟩ := jbind hf
      have f4 : frM a0 [9] [] (oc q45.2) (oc h48) := by rw [(oc_as e4).1]; exact frM_c (by decide)
      have m4 := mS_fr m3 f4 (by decide) (by decide)
      have k4 : wK true false a0 V (oc h48) := wk_fr k3 f4 (by decide) (by decide)
      obtain ⟨p51, e5, hf⟩ := jbind hf
      have r5 := oc_gR e5
      rw [m4.2.2.2.2.2.2.2.2.1] at r5
      cases r5
      obtain ⟨v55, e6, hf⟩ := jbind hf
      replace hf := jite hf
      rcases hf with ⟨-, hf⟩ | ⟨-, hf⟩
      · exact wk_le ((ih) m4 (wk_le k4 (by decide) (by decide)) hf) (by decide) (by decide)
      · exact wk_le ((ih) m4 (wk_le k4 (by decide) (by decide)) hf) (by decide) (by decide)
theorem WR_X12_tries_17 {V : jWd} {n : Nat} {a0 : Nat} {sa0 : Nat} {s1 : Int32} {h : jH} {q : Int32 × jH} (hs : a0 = sa0) (M : mS (oc h) a0) (K : wK true false a0 V (oc h)) (hf : F_X12_tries_17 n a0 sa0 s1 h = some q) : wK true false a0 V (oc q.2) := by
  unfold F_X12_tries_17 at hf
  subst hs
  obtain ⟨q18, e1, hf⟩ := jbind hf
  replace e1 := (jcv_o e1).2
  have f1 := FQ_X12_throwsIf M e1
  have m1 := mS_fr M f1 (by decide) (by decide)
  have k1 : wK true false a0 V (oc q18.2) := wk_fr K f1 (by decide) (by decide)
  replace hf := jite hf
  rcases hf with ⟨-, hf⟩ | ⟨-, hf⟩
  · exact wk_le ((WR_X12_tries_30 m1 (wk_le k1 (by decide) (by decide)) hf)) (by decide) (by decide)
  · cases hf
    exact wk_le k1 (by decide) (by decide)
theorem WR_X12_tries {V : jWd} {n : Nat} {a0 : Nat} {h : jH} {q : Int32 × jH} (M : mS (oc h) a0) (K : wK true false a0 V (oc h)) (hf : F_X12_tries n a0 h = some q) : wK true false a0 V (oc q.2) := by
  unfold F_X12_tries at hf
  obtain ⟨h1, e1, hf⟩ := jbind hf
  replace e1 := (jcv_o e1).2
  have f1 := FQ_X12_uses M e1
  have m1 := mS_fr M f1 (by decide) (by decide)
  have k1 : wK true false a0 V (oc h1) := wk_fr K f1 (by decide) (by decide)
  obtain ⟨v6, e2, hf⟩ := jbind hf
  replace e2 := (jcv_o e2).2
  replace hf := jite hf
  rcases hf with ⟨-, hf⟩ | ⟨-, hf⟩
  · exact wk_le ((WR_X12_tries_17 rfl m1 (wk_le k1 (by decide) (by decide)) hf)) (by decide) (by decide)
  · exact wk_le ((WR_X12_tries_17 rfl m1 (wk_le k1 (by decide) (by decide)) hf)) (by decide) (by decide)
theorem WR_X12_faded {V : jWd} {n : Nat} {a0 : Nat} {x1 : Int32} {h : jH} {q : Int32 × jH} (M : mS (oc h) a0) (K : wK true false a0 V (oc h)) (hf : F_X12_faded n a0 x1 h = some q) : wK true false a0 V (oc q.2) := by
  unfold F_X12_faded at hf
  obtain ⟨h2, e1, hf⟩ := jbind hf
  have f1 : frM a0 [] [0] (oc h) (oc h2) := by rw [(oc_pf e1).1]; exact frM_f (by decide)
  have m1 := mS_fr M f1 (by decide) (by decide)
  have k1 : wK true false a0 V (oc h2) := wk_fr K f1 (by decide) (by decide)
  obtain ⟨v7, e2, hf⟩ := jbind hf
  obtain ⟨q11, e3, hf⟩ := jbind hf
  replace e3 := (jcv_o e3).2
  have f3 := FQ_X12_throwsIf m1 e3
  have m3 := mS_fr m1 f3 (by decide) (by decide)
  have k3 : wK true false a0 V (oc q11.2) := wk_fr k1 f3 (by decide) (by decide)
  replace hf := jite hf
  rcases hf with ⟨-, hf⟩ | ⟨-, hf⟩
  · obtain ⟨h20, e4, hf⟩ := jbind hf
    replace e4 := (jcv_o e4).2
    have f4 := FQ_X12_keepsAll m3 e4
    have m4 := mS_fr m3 f4 (by decide) (by decide)
    have k4 := wk_keep m3 k3 e4
    obtain ⟨q26, e5, hf⟩ := jbind hf
    replace e5 := (jcv_o e5).2
    have f5 := FQ_X12_goesOn m4 e5
    have m5 := mS_fr m4 f5 (by decide) (by decide)
    have k5 : wK false true a0 V (oc q26.2) := wk_fr k4 f5 (by decide) (by decide)
    obtain ⟨v31, e6, hf⟩ := jbind hf
    replace e6 := (jcv_o e6).2
    obtain ⟨h36, e7, hf⟩ := jbind hf
    replace e7 := (jcv_o e7).2
    have f7 := FQ_X12_bringsBack m5 e7
    have m7 := mS_fr m5 f7 (by decide) (by decide)
    have k7 := wk_back m5 k5 e7
    cases hf
    exact wk_le k7 (by decide) (by decide)
  · cases hf
    exact wk_le k3 (by decide) (by decide)
theorem WR_X12_ahead {V : jWd} {n : Nat} {a0 : Nat} {x1 : Int32} {x2 : Int32} {h : jH} {q : Int32 × jH} (M : mS (oc h) a0) (K : wK true false a0 V (oc h)) (hf : F_X12_ahead n a0 x1 x2 h = some q) : wK true false a0 V (oc q.2) := by
  unfold F_X12_ahead at hf
  obtain ⟨h2, e1, hf⟩ := jbind hf
  have f1 : frM a0 [] [0] (oc h) (oc h2) := by rw [(oc_pf e1).1]; exact frM_f (by decide)
  have m1 := mS_fr M f1 (by decide) (by decide)
  have k1 : wK true false a0 V (oc h2) := wk_fr K f1 (by decide) (by decide)
  obtain ⟨v8, e2, hf⟩ := jbind hf
  replace e2 := (jcv_o e2).2
  obtain ⟨q12, e3, hf⟩ := jbind hf
  replace e3 := (jcv_o e3).2
  have f3 := FQ_X12_throwsIf m1 e3
  have m3 := mS_fr m1 f3 (by decide) (by decide)
  have k3 : wK true false a0 V (oc q12.2) := wk_fr k1 f3 (by decide) (by decide)
  replace hf := jite hf
  rcases hf with ⟨-, hf⟩ | ⟨-, hf⟩
  · obtain ⟨v20, e4, hf⟩ := jbind hf
    obtain ⟨q24, e5, hf⟩ := jbind hf
    replace e5 := (jcv_o e5).2
    have f5 := FQ_X12_throwsIf m3 e5
    have m5 := mS_fr m3 f5 (by decide) (by decide)
    have k5 : wK true false a0 V (oc q24.2) := wk_fr k3 f5 (by decide) (by decide)
    replace hf := jite hf
    rcases hf with ⟨-, hf⟩ | ⟨-, hf⟩
    · obtain ⟨h33, e6, hf⟩ := jbind hf
      replace e6 := (jcv_o e6).2
      have f6 := FQ_X12_keepsAll m5 e6
      have m6 := mS_fr m5 f6 (by decide) (by decide)
      have k6 := wk_keep m5 k5 e6
      obtain ⟨q39, e7, hf⟩ := jbind hf
      replace e7 := (jcv_o e7).2
      have f7 := FQ_X12_goesOn m6 e7
      have m7 := mS_fr m6 f7 (by decide) (by decide)
      have k7 : wK false true a0 V (oc q39.2) := wk_fr k6 f7 (by decide) (by decide)
      obtain ⟨v46, e8, hf⟩ := jbind hf
      replace e8 := (jcv_o e8).2
      obtain ⟨h51, e9, hf⟩ := jbind hf
      replace e9 := (jcv_o e9).2
      have f9 := FQ_X12_bringsBack m7 e9
      have m9 := mS_fr m7 f9 (by decide) (by decide)
      have k9 := wk_back m7 k7 e9
      cases hf
      exact wk_le k9 (by decide) (by decide)
    · cases hf
      exact wk_le k5 (by decide) (by decide)
  · cases hf
    exact wk_le k3 (by decide) (by decide)
theorem WR_X12_trial_47 {V : jWd} {n : Nat} {a0 : Nat} {s0 : Int32} {h : jH} {q : Int32 × jH} (M : mS (oc h) a0) (K : wK false true a0 V (oc h)) (hf : F_X12_trial_47 n a0 s0 h = some q) : wK true true a0 V (oc q.2) := by
  unfold F_X12_trial_47 at hf
  obtain ⟨h49, e1, hf⟩ := jbind hf
  replace e1 := (jcv_o e1).2
  have f1 := FQ_X12_bringsBack M e1
  have m1 := mS_fr M f1 (by decide) (by decide)
  have k1 := wk_back M K e1
  cases hf
  exact wk_le k1 (by decide) (by decide)
theorem WR_X12_trial {V : jWd} {n : Nat} {a0 : Nat} {x1 : Int32} {x2 : Int32} {h : jH} {q : Int32 × jH} (M : mS (oc h) a0) (K : wK true false a0 V (oc h)) (hf : F_X12_trial n a0 x1 x2 h = some q) : wK true false a0 V (oc q.2) := by
  unfold F_X12_trial at hf
  obtain ⟨h2, e1, hf⟩ := jbind hf
  have f1 : frM a0 [] [0] (oc h) (oc h2) := by rw [(oc_pf e1).1]; exact frM_f (by decide)
  have m1 := mS_fr M f1 (by decide) (by decide)
  have k1 : wK true false a0 V (oc h2) := wk_fr K f1 (by decide) (by decide)
  obtain ⟨v7, e2, hf⟩ := jbind hf
  obtain ⟨q11, e3, hf⟩ := jbind hf
  replace e3 := (jcv_o e3).2
  have f3 := FQ_X12_throwsIf m1 e3
  have m3 := mS_fr m1 f3 (by decide) (by decide)
  have k3 : wK true false a0 V (oc q11.2) := wk_fr k1 f3 (by decide) (by decide)
  replace hf := jite hf
  rcases hf with ⟨-, hf⟩ | ⟨-, hf⟩
  · obtain ⟨h20, e4, hf⟩ := jbind hf
    replace e4 := (jcv_o e4).2
    have f4 := FQ_X12_keepsAll m3 e4
    have m4 := mS_fr m3 f4 (by decide) (by decide)
    have k4 := wk_keep m3 k3 e4
    obtain ⟨q26, e5, hf⟩ := jbind hf
    replace e5 := (jcv_o e5).2
    have f5 := FQ_X12_goesOn m4 e5
    have m5 := mS_fr m4 f5 (by decide) (by decide)
    have k5 : wK false true a0 V (oc q26.2) := wk_fr k4 f5 (by decide) (by decide)
    replace hf := jite hf
    rcases hf with ⟨-, hf⟩ | ⟨-, hf⟩
    · obtain ⟨v44, e6, hf⟩ := jbind hf
      replace e6 := (jcv_o e6).2
      exact wk_le ((WR_X12_trial_47 m5 (wk_le k5 (by decide) (by decide)) hf)) (by decide) (by decide)
    · obtain ⟨v35, e7, hf⟩ := jbind hf
      replace e7 := (jcv_o e7).2
      exact wk_le ((WR_X12_trial_47 m5 (wk_le k5 (by decide) (by decide)) hf)) (by decide) (by decide)
  · cases hf
    exact wk_le k3 (by decide) (by decide)
theorem WR_X12_span_28 {V : jWd} {n : Nat} {k : Nat} : ∀ {a0 : Nat} {x1 : Int32} {x2 : Int32} {x3 : Int32} {x4 : Int32} {h : jH} {q : Int32 × jH}, mS (oc h) a0 → wK true true a0 V (oc h) → F_X12_span_28 n k a0 x1 x2 x3 x4 h = some q → wK true true a0 V (oc q.2) := by
  induction k with
  | zero =>
    intro a0 x1 x2 x3 x4 h q M K hf
    cases hf
  | succ k ih =>
    intro a0 x1 x2 x3 x4 h q M K hf
    replace hf : F_X12_span_28_b n (F_X12_span_28 n k) a0 x1 x2 x3 x4 h = some q := hf
    unfold F_X12_span_28_b at hf
    replace hf := jite hf
    rcases hf with ⟨-, hf⟩ | ⟨-, hf⟩
    · cases hf
      exact wk_le K (by decide) (by decide)
    · obtain ⟨p36, e1, hf⟩ := jbind hf
      have r1 := oc_gR e1
      rw [M.1] at r1
      cases r1
      obtain ⟨h43, e2, hf⟩ := jbind hf
      have f2 : frM a0 [1] [] (oc h) (oc h43) := by rw [(oc_as e2).1]; exact frM_c (by decide)
      have m2 := mS_fr M f2 (by decide) (by decide)
      have k2 : wK false true a0 V (oc h43) := wk_fr K f2 (by decide) (by decide)
      obtain ⟨q47, e3, hf⟩ := jbind hf
      replace e3 := (jcv_o e3).2
      have f3 := FQ_X12_goesOn m2 e3
      have m3 := mS_fr m2 f3 (by decide) (by decide)
      have k3 : wK false true a0 V (oc q47.2) := wk_fr k2 f3 (by decide) (by decide)
      obtain ⟨v54, e4, hf⟩ := jbind hf
      replace e4 := (jcv_o e4).2
      obtain ⟨v57, e5, hf⟩ := jbind hf
      obtain ⟨v61, e6, hf⟩ := jbind hf
      replace e6 := (jcv_o e6).2
      obtain ⟨v64, e7, hf⟩ := jbind hf
      obtain ⟨h71, e8, hf⟩ := jbind hf
      replace e8 := (jcv_o e8).2
      have f8 := FQ_X12_bringsBack m3 e8
      have m8 := mS_fr m3 f8 (by decide) (by decide)
      have k8 := wk_back m3 k3 e8
      replace hf := jite hf
      rcases hf with ⟨-, hf⟩ | ⟨-, hf⟩
      · replace hf := jite hf
        rcases hf with ⟨-, hf⟩ | ⟨-, hf⟩
        · exact wk_le ((ih) m8 (wk_le k8 (by decide) (by decide)) hf) (by decide) (by decide)
        · exact wk_le ((ih) m8 (wk_le k8 (by decide) (by decide)) hf) (by decide) (by decide)
      · exact wk_le ((ih) m8 (wk_le k8 (by decide) (by decide)) hf) (by decide) (by decide)
theorem WR_X12_span {V : jWd} {n : Nat} {a0 : Nat} {x1 : Int32} {x2 : Int32} {h : jH} {q : Int32 × jH} (M : mS (oc h) a0) (K : wK true false a0 V (oc h)) (hf : F_X12_span n a0 x1 x2 h = some q) : wK true false a0 V (oc q.2) := by
  unfold F_X12_span at hf
  obtain ⟨h2, e1, hf⟩ := jbind hf
  have f1 : frM a0 [] [0] (oc h) (oc h2) := by rw [(oc_pf e1).1]; exact frM_f (by decide)
  have m1 := mS_fr M f1 (by decide) (by decide)
  have k1 : wK true false a0 V (oc h2) := wk_fr K f1 (by decide) (by decide)
  obtain ⟨v7, e2, hf⟩ := jbind hf
  obtain ⟨q11, e3, hf⟩ := jbind hf
  replace e3 := (jcv_o e3).2
  have f3 := FQ_X12_throwsIf m1 e3
  have m3 := mS_fr m1 f3 (by decide) (by decide)
  have k3 : wK true false a0 V (oc q11.2) := wk_fr k1 f3 (by decide) (by decide)
  replace hf := jite hf
  rcases hf with ⟨-, hf⟩ | ⟨-, hf⟩
  · obtain ⟨h20, e4, hf⟩ := jbind hf
    replace e4 := (jcv_o e4).2
    have f4 := FQ_X12_keepsAll m3 e4
    have m4 := mS_fr m3 f4 (by decide) (by decide)
    have k4 := wk_keep m3 k3 e4
    exact wk_le ((WR_X12_span_28 m4 (wk_le k4 (by decide) (by decide)) hf)) (by decide) (by decide)
  · cases hf
    exact wk_le k3 (by decide) (by decide)
theorem WR_X12_best_113 {V : jWd} {n : Nat} {rc14 : Nat → Int32 → Int32 → Int32 → jH → Option (Int32 × jH)} (hrc14 : ∀ {z0 : Nat} {z1 : Int32} {z2 : Int32} {z3 : Int32} {h : jH} {q : Int32 × jH}, mS (oc h) z0 → rc14 z0 z1 z2 z3 h = some q → frM z0 [1, 4] [18] (oc h) (oc q.2)) (wrc14 : ∀ {z0 : Nat} {z1 : Int32} {z2 : Int32} {z3 : Int32} {h : jH} {q : Int32 × jH}, mS (oc h) z0 → wK true false z0 V (oc h) → rc14 z0 z1 z2 z3 h = some q → wK true false z0 V (oc q.2)) {a0 : Nat} {x1 : Int32} {x2 : Int32} {x3 : Int32} {h : jH} {q : Int32 × jH} (M : mS (oc h) a0) (K : wK false true a0 V (oc h)) (hf : F_X12_best_113 n rc14 a0 x1 x2 x3 h = some q) : wK true false a0 V (oc q.2) := by
  unfold F_X12_best_113 at hf
  obtain ⟨h114, e1, hf⟩ := jbind hf
  replace e1 := (jcv_o e1).2
  have f1 := FQ_X12_bringsBack M e1
  have m1 := mS_fr M f1 (by decide) (by decide)
  have k1 := wk_back M K e1
  exact wk_le (wrc14 m1 (wk_le k1 (by decide) (by decide)) hf) (by decide) (by decide)
theorem WR_X12_best_99 {V : jWd} {n : Nat} {rc14 : Nat → Int32 → Int32 → Int32 → jH → Option (Int32 × jH)} (hrc14 : ∀ {z0 : Nat} {z1 : Int32} {z2 : Int32} {z3 : Int32} {h : jH} {q : Int32 × jH}, mS (oc h) z0 → rc14 z0 z1 z2 z3 h = some q → frM z0 [1, 4] [18] (oc h) (oc q.2)) (wrc14 : ∀ {z0 : Nat} {z1 : Int32} {z2 : Int32} {z3 : Int32} {h : jH} {q : Int32 × jH}, mS (oc h) z0 → wK true false z0 V (oc h) → rc14 z0 z1 z2 z3 h = some q → wK true false z0 V (oc q.2)) {rc34 : Nat → Int32 → Int32 → Int32 → Int32 → Int32 → jH → Option (Int32 × jH)} (hrc34 : ∀ {z0 : Nat} {z1 : Int32} {z2 : Int32} {z3 : Int32} {z4 : Int32} {z5 : Int32} {h : jH} {q : Int32 × jH}, mS (oc h) z0 → rc34 z0 z1 z2 z3 z4 z5 h = some q → frM z0 [1, 4] [18] (oc h) (oc q.2)) (wrc34 : ∀ {z0 : Nat} {z1 : Int32} {z2 : Int32} {z3 : Int32} {z4 : Int32} {z5 : Int32} {h : jH} {q : Int32 × jH}, mS (oc h) z0 → wK false true z0 V (oc h) → rc34 z0 z1 z2 z3 z4 z5 h = some q → wK true false z0 V (oc q.2)) {a0 : Nat} {x2 : Int32} {x3 : Int32} {x4 : Int32} {x5 : Int32} {x6 : Int32} {s0 : Int32} {h : jH} {q : Int32 × jH} (M : mS (oc h) a0) (K : wK false true a0 V (oc h)) (hf : F_X12_best_99 n rc14 rc34 a0 x2 x3 x4 x5 x6 s0 h = some q) : wK true false a0 V (oc q.2) := by
  unfold F_X12_best_99 at hf
  exact wk_le (wrc34 M (wk_le K (by decide) (by decide)) hf) (by decide) (by decide)
theorem WR_X12_best_62 {V : jWd} {n : Nat} {rc14 : Nat → Int32 → Int32 → Int32 → jH → Option (Int32 × jH)} (hrc14 : ∀ {z0 : Nat} {z1 : Int32} {z2 : Int32} {z3 : Int32} {h : jH} {q : Int32 × jH}, mS (oc h) z0 → rc14 z0 z1 z2 z3 h = some q → frM z0 [1, 4] [18] (oc h) (oc q.2)) (wrc14 : ∀ {z0 : Nat} {z1 : Int32} {z2 : Int32} {z3 : Int32} {h : jH} {q : Int32 × jH}, mS (oc h) z0 → wK true false z0 V (oc h) → rc14 z0 z1 z2 z3 h = some q → wK true false z0 V (oc q.2)) {rc34 : Nat → Int32 → Int32 → Int32 → Int32 → Int32 → jH → Option (Int32 × jH)} (hrc34 : ∀ {z0 : Nat} {z1 : Int32} {z2 : Int32} {z3 : Int32} {z4 : Int32} {z5 : Int32} {h : jH} {q : Int32 × jH}, mS (oc h) z0 → rc34 z0 z1 z2 z3 z4 z5 h = some q → frM z0 [1, 4] [18] (oc h) (oc q.2)) (wrc34 : ∀ {z0 : Nat} {z1 : Int32} {z2 : Int32} {z3 : Int32} {z4 : Int32} {z5 : Int32} {h : jH} {q : Int32 × jH}, mS (oc h) z0 → wK false true z0 V (oc h) → rc34 z0 z1 z2 z3 z4 z5 h = some q → wK true false z0 V (oc q.2)) {a0 : Nat} {x1 : Int32} {x2 : Int32} {x3 : Int32} {x5 : Int32} {sa0 : Nat} {s1 : Int32} {s2 : Int32} {h : jH} {q : Int32 × jH} (hs : a0 = sa0) (M : mS (oc h) a0) (K : wK false true a0 V (oc h)) (hf : F_X12_best_62 n rc14 rc34 a0 x1 x2 x3 x5 sa0 s1 s2 h = some q) : wK true false a0 V (oc q.2) := by
  unfold F_X12_best_62 at hf
  subst hs
  obtain ⟨q62, e1, hf⟩ := jbind hf
  replace e1 := (jcv_o e1).2
  have f1 := FQ_X12_goesOne M e1
  have m1 := mS_fr M f1 (by decide) (by decide)
  have k1 : wK false true a0 V (oc q62.2) := wk_fr K f1 (by decide) (by decide)
  replace hf := jite hf
  rcases hf with ⟨-, hf⟩ | ⟨-, hf⟩
  · replace hf := jite hf
    rcases hf with ⟨-, hf⟩ | ⟨-, hf⟩
    · exact wk_le ((WR_X12_best_99 hrc14 wrc14 hrc34 wrc34 m1 (wk_le k1 (by decide) (by decide)) hf)) (by decide) (by decide)
    · exact wk_le ((WR_X12_best_99 hrc14 wrc14 hrc34 wrc34 m1 (wk_le k1 (by decide) (by decide)) hf)) (by decide) (by decide)
  · obtain ⟨v73, e2, hf⟩ := jbind hf
    replace e2 := (jcv_o e2).2
    replace hf := jite hf
    rcases hf with ⟨-, hf⟩ | ⟨-, hf⟩
    · exact wk_le ((WR_X12_best_99 hrc14 wrc14 hrc34 wrc34 m1 (wk_le k1 (by decide) (by decide)) hf)) (by decide) (by decide)
    · exact wk_le ((WR_X12_best_99 hrc14 wrc14 hrc34 wrc34 m1 (wk_le k1 (by decide) (by decide)) hf)) (by decide) (by decide)
theorem WR_X12_best_34 {V : jWd} {n : Nat} {rc14 : Nat → Int32 → Int32 → Int32 → jH → Option (Int32 × jH)} (hrc14 : ∀ {z0 : Nat} {z1 : Int32} {z2 : Int32} {z3 : Int32} {h : jH} {q : Int32 × jH}, mS (oc h) z0 → rc14 z0 z1 z2 z3 h = some q → frM z0 [1, 4] [18] (oc h) (oc q.2)) (wrc14 : ∀ {z0 : Nat} {z1 : Int32} {z2 : Int32} {z3 : Int32} {h : jH} {q : Int32 × jH}, mS (oc h) z0 → wK true false z0 V (oc h) → rc14 z0 z1 z2 z3 h = some q → wK true false z0 V (oc q.2)) {k : Nat} : ∀ {a0 : Nat} {x1 : Int32} {x2 : Int32} {x3 : Int32} {x4 : Int32} {x5 : Int32} {h : jH} {q : Int32 × jH}, mS (oc h) a0 → wK false true a0 V (oc h) → F_X12_best_34 n rc14 k a0 x1 x2 x3 x4 x5 h = some q → wK true false a0 V (oc q.2) := by
  induction k with
  | zero =>
    intro a0 x1 x2 x3 x4 x5 h q M K hf
    cases hf
  | succ k ih =>
    intro a0 x1 x2 x3 x4 x5 h q M K hf
    replace hf : F_X12_best_34_b n rc14 (F_X12_best_34 n rc14 k) a0 x1 x2 x3 x4 x5 h = some q := hf
    unfold F_X12_best_34_b at hf
    replace hf := jite hf
    rcases hf with ⟨-, hf⟩ | ⟨-, hf⟩
    · exact wk_le ((WR_X12_best_113 hrc14 wrc14 M (wk_le K (by decide) (by decide)) hf)) (by decide) (by decide)
    · replace hf := jite hf
      rcases hf with ⟨-, hf⟩ | ⟨-, hf⟩
      · exact wk_le ((WR_X12_best_113 hrc14 wrc14 M (wk_le K (by decide) (by decide)) hf)) (by decide) (by decide)
      · replace hf := jite hf
        rcases hf with ⟨-, hf⟩ | ⟨-, hf⟩
        · exact wk_le ((WR_X12_best_62 hrc14 wrc14 (FQ_X12_best_34 hrc14) (ih) rfl M (wk_le K (by decide) (by decide)) hf)) (by decide) (by decide)
        · exact wk_le ((WR_X12_best_62 hrc14 wrc14 (FQ_X12_best_34 hrc14) (ih) rfl M (wk_le K (by decide) (by decide)) hf)) (by decide) (by decide)
theorem WR_X12_best_14 {V : jWd} {n : Nat} {k : Nat} : ∀ {a0 : Nat} {x1 : Int32} {x2 : Int32} {x3 : Int32} {h : jH} {q : Int32 × jH}, mS (oc h) a0 → wK true false a0 V (oc h) → F_X12_best_14 n k a0 x1 x2 x3 h = some q → wK true false a0 V (oc q.2) := by
  induction k with
  | zero =>
    intro a0 x1 x2 x3 h q M K hf
    cases hf
  | succ k ih =>
    intro a0 x1 x2 x3 h q M K hf
    replace hf : F_X12_best_14_b n (F_X12_best_14 n k) a0 x1 x2 x3 h = some q := hf
    unfold F_X12_best_14_b at hf
    obtain ⟨v17, e1, hf⟩ := jbind hf
    replace e1 := (jcv_o e1).2
    replace hf := jite hf
    rcases hf with ⟨-, hf⟩ | ⟨-, hf⟩
    · cases hf
      exact wk_le K (by decide) (by decide)
    · obtain ⟨h28, e2, hf⟩ := jbind hf
      replace e2 := (jcv_o e2).2
      have f2 := FQ_X12_keepsAll M e2
      have m2 := mS_fr M f2 (by decide) (by decide)
      have k2 := wk_keep M K e2
      exact wk_le ((WR_X12_best_34 (FQ_X12_best_14) (ih) m2 (wk_le k2 (by decide) (by decide)) hf)) (by decide) (by decide)
theorem WR_X12_best {V : jWd} {n : Nat} {a0 : Nat} {h : jH} {q : Int32 × jH} (M : mS (oc h) a0) (K : wK true false a0 V (oc h)) (hf : F_X12_best n a0 h = some q) : wK true false a0 V (oc q.2) := by
  unfold F_X12_best at hf
  obtain ⟨h2, e1, hf⟩ := jbind hf
  have f1 : frM a0 [] [0] (oc h) (oc h2) := by rw [(oc_pf e1).1]; exact frM_f (by decide)
  have m1 := mS_fr M f1 (by decide) (by decide)
  have k1 : wK true false a0 V (oc h2) := wk_fr K f1 (by decide) (by decide)
  obtain ⟨v8, e2, hf⟩ := jbind hf
  replace e2 := (jcv_o e2).2
  exact wk_le ((WR_X12_best_14 m1 (wk_le k1 (by decide) (by decide)) hf)) (by decide) (by decide)
theorem WR_X12_stepsTo_72 {V : jWd} {n : Nat} {a0 : Nat} {x4 : Int32} {h : jH} {q : Int32 × jH} (M : mS (oc h) a0) (K : wK false true a0 V (oc h)) (hf : F_X12_stepsTo_72 n a0 x4 h = some q) : wK true true a0 V (oc q.2) := by
  unfold F_X12_stepsTo_72 at hf
  obtain ⟨h73, e1, hf⟩ := jbind hf
  replace e1 := (jcv_o e1).2
  have f1 := FQ_X12_bringsBack M e1
  have m1 := mS_fr M f1 (by decide) (by decide)
  have k1 := wk_back M K e1
  cases hf
  exact wk_le k1 (by decide) (by decide)
theorem WR_X12_stepsTo_15 {V : jWd} {n : Nat} {k : Nat} : ∀ {a0 : Nat} {x1 : Int32} {x2 : Int32} {x3 : Int32} {x4 : Int32} {x5 : Int32} {x6 : Int32} {h : jH} {q : Int32 × jH}, mS (oc h) a0 → wK false true a0 V (oc h) → F_X12_stepsTo_15 n k a0 x1 x2 x3 x4 x5 x6 h = some q → wK true true a0 V (oc q.2) := by
  induction k with
  | zero =>
    intro a0 x1 x2 x3 x4 x5 x6 h q M K hf
    cases hf
  | succ k ih =>
    intro a0 x1 x2 x3 x4 x5 x6 h q M K hf
    replace hf : F_X12_stepsTo_15_b n (F_X12_stepsTo_15 n k) a0 x1 x2 x3 x4 x5 x6 h = some q := hf
    unfold F_X12_stepsTo_15_b at hf
    replace hf := jite hf
    rcases hf with ⟨-, hf⟩ | ⟨-, hf⟩
    · exact wk_le ((WR_X12_stepsTo_72 M (wk_le K (by decide) (by decide)) hf)) (by decide) (by decide)
    · replace hf := jite hf
      rcases hf with ⟨-, hf⟩ | ⟨-, hf⟩
      · exact wk_le ((WR_X12_stepsTo_72 M (wk_le K (by decide) (by decide)) hf)) (by decide) (by decide)
      · replace hf := jite hf
        rcases hf with ⟨-, hf⟩ | ⟨-, hf⟩
        · obtain ⟨q38, e1, hf⟩ := jbind hf
          replace e1 := (jcv_o e1).2
          have f1 := FQ_X12_goesOne M e1
          have m1 := mS_fr M f1 (by decide) (by decide)
          have k1 : wK false true a0 V (oc q38.2) := wk_fr K f1 (by decide) (by decide)
          replace hf := jite hf
          rcases hf with ⟨-, hf⟩ | ⟨-, hf⟩
          · exact wk_le ((ih) m1 (wk_le k1 (by decide) (by decide)) hf) (by decide) (by decide)
          · obtain ⟨v50, e2, hf⟩ := jbind hf
            replace e2 := (jcv_o e2).2
            replace hf := jite hf
            rcases hf with ⟨-, hf⟩ | ⟨-, hf⟩
            · exact wk_le ((ih) m1 (wk_le k1 (by decide) (by decide)) hf) (by decide) (by decide)
            · exact wk_le ((ih) m1 (wk_le k1 (by decide) (by decide)) hf) (by decide) (by decide)
        · exact wk_le ((WR_X12_stepsTo_72 M (wk_le K (by decide) (by decide)) hf)) (by decide) (by decide)
theorem WR_X12_stepsTo {V : jWd} {n : Nat} {a0 : Nat} {x1 : Int32} {x2 : Int32} {x3 : Int32} {h : jH} {q : Int32 × jH} (M : mS (oc h) a0) (K : wK true false a0 V (oc h)) (hf : F_X12_stepsTo n a0 x1 x2 x3 h = some q) : wK true true a0 V (oc q.2) := by
  unfold F_X12_stepsTo at hf
  obtain ⟨h9, e1, hf⟩ := jbind hf
  replace e1 := (jcv_o e1).2
  have f1 := FQ_X12_keepsAll M e1
  have m1 := mS_fr M f1 (by decide) (by decide)
  have k1 := wk_keep M K e1
  exact wk_le ((WR_X12_stepsTo_15 m1 (wk_le k1 (by decide) (by decide)) hf)) (by decide) (by decide)
theorem WR_X12_fewestTo_58 {V : jWd} {n : Nat} {rc10 : Nat → Int32 → Int32 → Int32 → Int32 → Int32 → jH → Option (Int32 × jH)} (hrc10 : ∀ {z0 : Nat} {z1 : Int32} {z2 : Int32} {z3 : Int32} {z4 : Int32} {z5 : Int32} {h : jH} {q : Int32 × jH}, mS (oc h) z0 → rc10 z0 z1 z2 z3 z4 z5 h = some q → frM z0 [1, 4] [18] (oc h) (oc q.2)) (wrc10 : ∀ {z0 : Nat} {z1 : Int32} {z2 : Int32} {z3 : Int32} {z4 : Int32} {z5 : Int32} {h : jH} {q : Int32 × jH}, mS (oc h) z0 → wK true false z0 V (oc h) → rc10 z0 z1 z2 z3 z4 z5 h = some q → wK true false z0 V (oc q.2)) {a0 : Nat} {x1 : Int32} {x2 : Int32} {x4 : Int32} {x5 : Int32} {x6 : Int32} {s0 : Int32} {h : jH} {q : Int32 × jH} (M : mS (oc h) a0) (K : wK true true a0 V (oc h)) (hf : F_X12_fewestTo_58 n rc10 a0 x1 x2 x4 x5 x6 s0 h = some q) : wK true false a0 V (oc q.2) := by
  unfold F_X12_fewestTo_58 at hf
  exact wk_le (wrc10 M (wk_le K (by decide) (by decide)) hf) (by decide) (by decide)
theorem WR_X12_fewestTo_40 {V : jWd} {n : Nat} {rc10 : Nat → Int32 → Int32 → Int32 → Int32 → Int32 → jH → Option (Int32 × jH)} (hrc10 : ∀ {z0 : Nat} {z1 : Int32} {z2 : Int32} {z3 : Int32} {z4 : Int32} {z5 : Int32} {h : jH} {q : Int32 × jH}, mS (oc h) z0 → rc10 z0 z1 z2 z3 z4 z5 h = some q → frM z0 [1, 4] [18] (oc h) (oc q.2)) (wrc10 : ∀ {z0 : Nat} {z1 : Int32} {z2 : Int32} {z3 : Int32} {z4 : Int32} {z5 : Int32} {h : jH} {q : Int32 × jH}, mS (oc h) z0 → wK true false z0 V (oc h) → rc10 z0 z1 z2 z3 z4 z5 h = some q → wK true false z0 V (oc q.2)) {a0 : Nat} {x1 : Int32} {x2 : Int32} {x3 : Int32} {x4 : Int32} {x5 : Int32} {sa0 : Nat} {s1 : Int32} {s2 : Int32} {s3 : Int32} {h : jH} {q : Int32 × jH} (hs : a0 = sa0) (M : mS (oc h) a0) (K : wK true false a0 V (oc h)) (hf : F_X12_fewestTo_40 n rc10 a0 x1 x2 x3 x4 x5 sa0 s1 s2 s3 h = some q) : wK true false a0 V (oc q.2) := by
  unfold F_X12_fewestTo_40 at hf
  subst hs
  obtain ⟨q40, e1, hf⟩ := jbind hf
  replace e1 := (jcv_o e1).2
  have f1 := FQ_X12_stepsTo M e1
  have m1 := mS_fr M f1 (by decide) (by decide)
  have k1 := (WR_X12_stepsTo M (wk_le K (by decide) (by decide)) e1)
  replace hf := jite hf
  rcases hf with ⟨-, hf⟩ | ⟨-, hf⟩
  · exact wk_le ((WR_X12_fewestTo_58 hrc10 wrc10 m1 (wk_le k1 (by decide) (by decide)) hf)) (by decide) (by decide)
  · exact wk_le ((WR_X12_fewestTo_58 hrc10 wrc10 m1 (wk_le k1 (by decide) (by decide)) hf)) (by decide) (by decide)
theorem WR_X12_fewestTo_10 {V : jWd} {n : Nat} {k : Nat} : ∀ {a0 : Nat} {x1 : Int32} {x2 : Int32} {x3 : Int32} {x4 : Int32} {x5 : Int32} {h : jH} {q : Int32 × jH}, mS (oc h) a0 → wK true false a0 V (oc h) → F_X12_fewestTo_10 n k a0 x1 x2 x3 x4 x5 h = some q → wK true false a0 V (oc q.2) := by
  induction k with
  | zero =>
    intro a0 x1 x2 x3 x4 x5 h q M K hf
    cases hf
  | succ k ih =>
    intro a0 x1 x2 x3 x4 x5 h q M K hf
    replace hf : F_X12_fewestTo_10_b n (F_X12_fewestTo_10 n k) a0 x1 x2 x3 x4 x5 h = some q := hf
    unfold F_X12_fewestTo_10_b at hf
    obtain ⟨v14, e1, hf⟩ := jbind hf
    replace e1 := (jcv_o e1).2
    replace hf := jite hf
    rcases hf with ⟨-, hf⟩ | ⟨-, hf⟩
    · replace hf := jite hf
      rcases hf with ⟨-, hf⟩ | ⟨-, hf⟩
      · replace hf := jite hf
        rcases hf with ⟨-, hf⟩ | ⟨-, hf⟩
        · cases hf
          exact wk_le K (by decide) (by decide)
        · cases hf
          exact wk_le K (by decide) (by decide)
      · cases hf
        exact wk_le K (by decide) (by decide)
    · replace hf := jite hf
      rcases hf with ⟨-, hf⟩ | ⟨-, hf⟩
      · exact wk_le ((WR_X12_fewestTo_40 (FQ_X12_fewestTo_10) (ih) rfl M (wk_le K (by decide) (by decide)) hf)) (by decide) (by decide)
      · exact wk_le ((WR_X12_fewestTo_40 (FQ_X12_fewestTo_10) (ih) rfl M (wk_le K (by decide) (by decide)) hf)) (by decide) (by decide)
theorem WR_X12_fewestTo {V : jWd} {n : Nat} {a0 : Nat} {x1 : Int32} {x2 : Int32} {h : jH} {q : Int32 × jH} (M : mS (oc h) a0) (K : wK true false a0 V (oc h)) (hf : F_X12_fewestTo n a0 x1 x2 h = some q) : wK true false a0 V (oc q.2) := by
  unfold F_X12_fewestTo at hf
  exact wk_le ((WR_X12_fewestTo_10 M (wk_le K (by decide) (by decide)) hf)) (by decide) (by decide)
theorem WR_X12_fewest {V : jWd} {n : Nat} {a0 : Nat} {x1 : Int32} {h : jH} {q : Int32 × jH} (M : mS (oc h) a0) (K : wK true false a0 V (oc h)) (hf : F_X12_fewest n a0 x1 h = some q) : wK true false a0 V (oc q.2) := by
  unfold F_X12_fewest at hf
  obtain ⟨h2, e1, hf⟩ := jbind hf
  have f1 : frM a0 [] [0] (oc h) (oc h2) := by rw [(oc_pf e1).1]; exact frM_f (by decide)
  have m1 := mS_fr M f1 (by decide) (by decide)
  have k1 : wK true false a0 V (oc h2) := wk_fr K f1 (by decide) (by decide)
  obtain ⟨v7, e2, hf⟩ := jbind hf
  replace e2 := (jcv_o e2).2
  replace hf := jite hf
  rcases hf with ⟨-, hf⟩ | ⟨-, hf⟩
  · obtain ⟨q20, e3, hf⟩ := jbind hf
    replace e3 := (jcv_o e3).2
    have f3 := FQ_X12_fewestTo m1 e3
    have m3 := mS_fr m1 f3 (by decide) (by decide)
    have k3 := (WR_X12_fewestTo m1 (wk_le k1 (by decide) (by decide)) e3)
    cases hf
    exact wk_le k3 (by decide) (by decide)
  · cases hf
    exact wk_le k1 (by decide) (by decide)
theorem WR_X12_first {V : jWd} {n : Nat} {a0 : Nat} {x1 : Int32} {h : jH} {q : Int32 × jH} (M : mS (oc h) a0) (K : wK true false a0 V (oc h)) (hf : F_X12_first n a0 x1 h = some q) : wK true false a0 V (oc q.2) := by
  unfold F_X12_first at hf
  obtain ⟨h2, e1, hf⟩ := jbind hf
  have f1 : frM a0 [] [0] (oc h) (oc h2) := by rw [(oc_pf e1).1]; exact frM_f (by decide)
  have m1 := mS_fr M f1 (by decide) (by decide)
  have k1 : wK true false a0 V (oc h2) := wk_fr K f1 (by decide) (by decide)
  obtain ⟨v7, e2, hf⟩ := jbind hf
  replace e2 := (jcv_o e2).2
  replace hf := jite hf
  rcases hf with ⟨-, hf⟩ | ⟨-, hf⟩
  · obtain ⟨q20, e3, hf⟩ := jbind hf
    replace e3 := (jcv_o e3).2
    have f3 := FQ_X12_fewestTo m1 e3
    have m3 := mS_fr m1 f3 (by decide) (by decide)
    have k3 := (WR_X12_fewestTo m1 (wk_le k1 (by decide) (by decide)) e3)
    cases hf
    exact wk_le k3 (by decide) (by decide)
  · cases hf
    exact wk_le k1 (by decide) (by decide)
theorem WR_X12_pale_49 {V : jWd} {n : Nat} {a0 : Nat} {x1 : Int32} {h : jH} {q : Int32 × jH} (M : mS (oc h) a0) (K : wK false true a0 V (oc h)) (hf : F_X12_pale_49 n a0 x1 h = some q) : wK true true a0 V (oc q.2) := by
  unfold F_X12_pale_49 at hf
  obtain ⟨h50, e1, hf⟩ := jbind hf
  replace e1 := (jcv_o e1).2
  have f1 := FQ_X12_bringsBack M e1
  have m1 := mS_fr M f1 (by decide) (by decide)
  have k1 := wk_back M K e1
  cases hf
  exact wk_le k1 (by decide) (by decide)
theorem WR_X12_pale_36 {V : jWd} {n : Nat} {rc13 : Nat → Int32 → Int32 → jH → Option (Int32 × jH)} (hrc13 : ∀ {z0 : Nat} {z1 : Int32} {z2 : Int32} {h : jH} {q : Int32 × jH}, mS (oc h) z0 → rc13 z0 z1 z2 h = some q → frM z0 [1, 8] [] (oc h) (oc q.2)) (wrc13 : ∀ {z0 : Nat} {z1 : Int32} {z2 : Int32} {h : jH} {q : Int32 × jH}, mS (oc h) z0 → wK false true z0 V (oc h) → rc13 z0 z1 z2 h = some q → wK true true z0 V (oc q.2)) {a0 : Nat} {x2 : Int32} {s0 : Int32} {h : jH} {q : Int32 × jH} (M : mS (oc h) a0) (K : wK false true a0 V (oc h)) (hf : F_X12_pale_36 n rc13 a0 x2 s0 h = some q) : wK true true a0 V (oc q.2) := by
  unfold F_X12_pale_36 at hf
  obtain ⟨q39, e1, hf⟩ := jbind hf
  replace e1 := (jcv_o e1).2
  have f1 := FQ_X12_oneHour M e1
  have m1 := mS_fr M f1 (by decide) (by decide)
  have k1 : wK false true a0 V (oc q39.2) := wk_fr K f1 (by decide) (by decide)
  exact wk_le (wrc13 m1 (wk_le k1 (by decide) (by decide)) hf) (by decide) (by decide)
theorem WR_X12_pale_13 {V : jWd} {n : Nat} {k : Nat} : ∀ {a0 : Nat} {x1 : Int32} {x2 : Int32} {h : jH} {q : Int32 × jH}, mS (oc h) a0 → wK false true a0 V (oc h) → F_X12_pale_13 n k a0 x1 x2 h = some q → wK true true a0 V (oc q.2) := by
  induction k with
  | zero =>
    intro a0 x1 x2 h q M K hf
    cases hf
  | succ k ih =>
    intro a0 x1 x2 h q M K hf
    replace hf : F_X12_pale_13_b n (F_X12_pale_13 n k) a0 x1 x2 h = some q := hf
    unfold F_X12_pale_13_b at hf
    replace hf := jite hf
    rcases hf with ⟨-, hf⟩ | ⟨-, hf⟩
    · exact wk_le ((WR_X12_pale_49 M (wk_le K (by decide) (by decide)) hf)) (by decide) (by decide)
    · replace hf := jite hf
      rcases hf with ⟨-, hf⟩ | ⟨-, hf⟩
      · obtain ⟨v25, e1, hf⟩ := jbind hf
        replace e1 := (jcv_o e1).2
        replace hf := jite hf
        rcases hf with ⟨-, hf⟩ | ⟨-, hf⟩
        · exact wk_le ((WR_X12_pale_36 (FQ_X12_pale_13) (ih) M (wk_le K (by decide) (by decide)) hf)) (by decide) (by decide)
        · exact wk_le ((WR_X12_pale_36 (FQ_X12_pale_13) (ih) M (wk_le K (by decide) (by decide)) hf)) (by decide) (by decide)
      · exact wk_le ((WR_X12_pale_49 M (wk_le K (by decide) (by decide)) hf)) (by decide) (by decide)
theorem WR_X12_pale {V : jWd} {n : Nat} {a0 : Nat} {h : jH} {q : Int32 × jH} (M : mS (oc h) a0) (K : wK true false a0 V (oc h)) (hf : F_X12_pale n a0 h = some q) : wK true true a0 V (oc q.2) := by
  unfold F_X12_pale at hf
  obtain ⟨h2, e1, hf⟩ := jbind hf
  have f1 : frM a0 [] [0] (oc h) (oc h2) := by rw [(oc_pf e1).1]; exact frM_f (by decide)
  have m1 := mS_fr M f1 (by decide) (by decide)
  have k1 : wK true false a0 V (oc h2) := wk_fr K f1 (by decide) (by decide)
  obtain ⟨h8, e2, hf⟩ := jbind hf
  replace e2 := (jcv_o e2).2
  have f2 := FQ_X12_keepsAll m1 e2
  have m2 := mS_fr m1 f2 (by decide) (by decide)
  have k2 := wk_keep m1 k1 e2
  exact wk_le ((WR_X12_pale_13 m2 (wk_le k2 (by decide) (by decide)) hf)) (by decide) (by decide)
end
section
/-! arrays are not written beyond their ends -/
def jbq (h h1 : jH) : Prop := ∀ (b t N : Nat) (f : Nat → Int32), h.2 b = some (.inr (.inl (t, N, f))) → ∃ f1 : Nat → Int32, h1.2 b = some (.inr (.inl (t, N, f1))) ∧ ∀ k : Nat, N ≤ k → f1 k = f k
theorem jbq_rfl {h : jH} : jbq h h := fun _ _ _ f e => ⟨f, e, fun _ _ => rfl⟩
theorem jbq_tr {h h1 h2 : jH} (a : jbq h h1) (b : jbq h1 h2) : jbq h h2 := fun c t N f e => by
  obtain ⟨f1, e1, g1⟩ := a c t N f e
  obtain ⟨f2, e2, g2⟩ := b c t N f1 e1
  exact ⟨f2, e2, fun k hk => (g2 k hk).trans (g1 k hk)⟩
theorem bm_pf {c : Nat} {h h1 : jH} {a k : Nat} {v : Value} (e : jpf c h a k v = some h1) : jbq h h1 := by
  obtain ⟨fs, e1, -, rfl⟩ := jpf_o e
  intro b t N f e2
  by_cases hb : b = a
  · subst hb
    rw [e1] at e2
    cases e2
  · refine ⟨f, ?_, fun _ _ => rfl⟩
    show (if b = a then some _ else h.2 b) = _
    rw [if_neg hb]
    exact e2
theorem bm_as {t a : Nat} {i x : Int32} {h h1 : jH} (e : jas t h a i x = some h1) : jbq h h1 := by
  obtain ⟨n, f, e1, e3, -, rfl⟩ := jas_o e
  intro b t2 N f2 e2
  by_cases hb : b = a
  · subst hb
    rw [e1] at e2
    cases e2
    refine ⟨upd f i.toNatClampNeg (jnar t x), ?_, fun k hk => upd_ne (fun z => e3 (Or.inr (by omega)))⟩
    show (if b = b then some _ else h.2 b) = _
    rw [if_pos rfl]
  · refine ⟨f2, ?_, fun _ _ => rfl⟩
    show (if b = a then some _ else h.2 b) = _
    rw [if_neg hb]
    exact e2
theorem BQ_X12_throwsIf {n : Nat} {a0 : Nat} {x1 : Int32} {x2 : Int32} {h : jH} {q : Int32 × jH} (hf : F_X12_throwsIf n a0 x1 x2 h = some q) : jbq h q.2 := by
  unfold F_X12_throwsIf at hf
  replace hf := jite hf
  rcases hf with ⟨-, hf⟩ | ⟨-, hf⟩
  · replace hf := jite hf
    rcases hf with ⟨-, hf⟩ | ⟨-, hf⟩
    · cases hf
      exact jbq_rfl
    · cases hf
  · obtain ⟨h6, e1, hf⟩ := jbind hf
    have f1 : jbq h h6 := bm_pf e1
    replace hf := jite hf
    rcases hf with ⟨-, hf⟩ | ⟨-, hf⟩
    · cases hf
      exact f1
    · cases hf
theorem BQ_X12_holdsLine_222 {n : Nat} {rc22 : Nat → Int32 → Int32 → Int32 → Int32 → jH → Option (Int32 × jH)} (hrc22 : ∀ {z0 : Nat} {z1 : Int32} {z2 : Int32} {z3 : Int32} {z4 : Int32} {h : jH} {q : Int32 × jH}, rc22 z0 z1 z2 z3 z4 h = some q → jbq h q.2) {a0 : Nat} {x2 : Int32} {x3 : Int32} {x4 : Int32} {x5 : Int32} {x6 : Int32} {x7 : Int32} {x8 : Int32} {s0 : Int32} {h : jH} {q : Int32 × jH} (hf : F_X12_holdsLine_222 n rc22 a0 x2 x3 x4 x5 x6 x7 x8 s0 h = some q) : jbq h q.2 := by
  unfold F_X12_holdsLine_222 at hf
  obtain ⟨p225, e1, hf⟩ := jbind hf
  replace hf := jite hf
  rcases hf with ⟨-, hf⟩ | ⟨-, hf⟩
  · obtain ⟨h256, e2, hf⟩ := jbind hf
    have f2 : jbq h h256 := bm_as e2
    exact (jbq_tr f2 (hrc22  hf))
  · replace hf := jite hf
    rcases hf with ⟨-, hf⟩ | ⟨-, hf⟩
    · obtain ⟨h256, e3, hf⟩ := jbind hf
      have f3 : jbq h h256 := bm_as e3
      exact (jbq_tr f3 (hrc22  hf))
    · obtain ⟨h256, e4, hf⟩ := jbind hf
      have f4 : jbq h h256 := bm_as e4
      exact (jbq_tr f4 (hrc22  hf))
theorem BQ_X12_holdsLine_22 {n : Nat} {k : Nat} : ∀ {a0 : Nat} {x2 : Int32} {x3 : Int32} {x4 : Int32} {x5 : Int32} {h : jH} {q : Int32 × jH}, F_X12_holdsLine_22 n k a0 x2 x3 x4 x5 h = some q → jbq h q.2 := by
  induction k with
  | zero =>
    intro a0 x2 x3 x4 x5 h q hf
    cases hf
  | succ k ih =>
    intro a0 x2 x3 x4 x5 h q hf
    replace hf : F_X12_holdsLine_22_b n (F_X12_holdsLine_22 n k) a0 x2 x3 x4 x5 h = some q := hf
    unfold F_X12_holdsLine_22_b at hf
    obtain ⟨p25, e1, hf⟩ := jbind hf
    obtain ⟨v32, e2, hf⟩ := jbind hf
    replace hf := jite hf
    rcases hf with ⟨-, hf⟩ | ⟨-, hf⟩
    · replace hf := jite hf
      rcases hf with ⟨-, hf⟩ | ⟨-, hf⟩
      · cases hf
        exact jbq_rfl
      · obtain ⟨p268, e3, hf⟩ := jbind hf
        obtain ⟨v272, e4, hf⟩ := jbind hf
        replace hf := jite hf
        rcases hf with ⟨-, hf⟩ | ⟨-, hf⟩
        · cases hf
          exact jbq_rfl
        · cases hf
          exact jbq_rfl
    · obtain ⟨p37, e5, hf⟩ := jbind hf
      obtain ⟨v48, e6, hf⟩ := jbind hf
      replace hf := jite hf
      rcases hf with ⟨-, hf⟩ | ⟨-, hf⟩
      · replace hf := jite hf
        rcases hf with ⟨-, hf⟩ | ⟨-, hf⟩
        · obtain ⟨p100, e7, hf⟩ := jbind hf
          obtain ⟨p108, e8, hf⟩ := jbind hf
          obtain ⟨v114, e9, hf⟩ := jbind hf
          obtain ⟨h116, e10, hf⟩ := jbind hf
          have f10 : jbq h h116 := bm_as e10
          exact (jbq_tr f10 (ih  hf))
        · obtain ⟨p124, e11, hf⟩ := jbind hf
          obtain ⟨v130, e12, hf⟩ := jbind hf
          obtain ⟨p134, e13, hf⟩ := jbind hf
          obtain ⟨v138, e14, hf⟩ := jbind hf
          replace hf := jite hf
          rcases hf with ⟨-, hf⟩ | ⟨-, hf⟩
          · replace hf := jite hf
            rcases hf with ⟨-, hf⟩ | ⟨-, hf⟩
            · exact (BQ_X12_holdsLine_222 ih hf)
            · exact (BQ_X12_holdsLine_222 ih hf)
          · replace hf := jite hf
            rcases hf with ⟨-, hf⟩ | ⟨-, hf⟩
            · replace hf := jite hf
              rcases hf with ⟨-, hf⟩ | ⟨-, hf⟩
              · exact (BQ_X12_holdsLine_222 ih hf)
              · exact (BQ_X12_holdsLine_222 ih hf)
            · replace hf := jite hf
              rcases hf with ⟨-, hf⟩ | ⟨-, hf⟩
              · replace hf := jite hf
                rcases hf with ⟨-, hf⟩ | ⟨-, hf⟩
                · exact (BQ_X12_holdsLine_222 ih hf)
                · exact (BQ_X12_holdsLine_222 ih hf)
              · replace hf := jite hf
                rcases hf with ⟨-, hf⟩ | ⟨-, hf⟩
                · exact (BQ_X12_holdsLine_222 ih hf)
                · exact (BQ_X12_holdsLine_222 ih hf)
      · obtain ⟨p59, e15, hf⟩ := jbind hf
        obtain ⟨p67, e16, hf⟩ := jbind hf
        obtain ⟨v80, e17, hf⟩ := jbind hf
        obtain ⟨v82, e18, hf⟩ := jbind hf
        replace e18 := (jcv_o e18).2
        obtain ⟨h85, e19, hf⟩ := jbind hf
        have f19 : jbq h h85 := bm_as e19
        exact (jbq_tr f19 (ih  hf))
theorem BQ_X12_holdsLine {n : Nat} {a0 : Nat} {x1 : Int32} {x2 : Int32} {h : jH} {q : Int32 × jH} (hf : F_X12_holdsLine n a0 x1 x2 h = some q) : jbq h q.2 := by
  unfold F_X12_holdsLine at hf
  obtain ⟨p12, e1, hf⟩ := jbind hf
  obtain ⟨v19, e2, hf⟩ := jbind hf
  exact (BQ_X12_holdsLine_22 hf)
theorem BQ_X12_sumOf_5 {n : Nat} {k : Nat} : ∀ {a0 : Nat} {x1 : Int32} {x2 : Int32} {x3 : Int32} {x4 : Int32} {h : jH} {q : Int32 × jH}, F_X12_sumOf_5 n k a0 x1 x2 x3 x4 h = some q → jbq h q.2 := by
  induction k with
  | zero =>
    intro a0 x1 x2 x3 x4 h q hf
    cases hf
  | succ k ih =>
    intro a0 x1 x2 x3 x4 h q hf
    replace hf : F_X12_sumOf_5_b n (F_X12_sumOf_5 n k) a0 x1 x2 x3 x4 h = some q := hf
    unfold F_X12_sumOf_5_b at hf
    obtain ⟨p8, e1, hf⟩ := jbind hf
    obtain ⟨v14, e2, hf⟩ := jbind hf
    replace hf := jite hf
    rcases hf with ⟨-, hf⟩ | ⟨-, hf⟩
    · cases hf
      exact jbq_rfl
    · obtain ⟨p19, e3, hf⟩ := jbind hf
      obtain ⟨v30, e4, hf⟩ := jbind hf
      replace hf := jite hf
      rcases hf with ⟨-, hf⟩ | ⟨-, hf⟩
      · obtain ⟨q39, e5, hf⟩ := jbind hf
        replace e5 := (jcv_o e5).2
        have f5 : jbq h q39.2 := (BQ_X12_holdsLine e5)
        replace hf := jite hf
        rcases hf with ⟨-, hf⟩ | ⟨-, hf⟩
        · exact (jbq_tr f5 (ih  hf))
        · obtain ⟨p47, e6, hf⟩ := jbind hf
          obtain ⟨v60, e7, hf⟩ := jbind hf
          exact (jbq_tr f5 (ih  hf))
      · exact (ih  hf)
theorem BQ_X12_sumOf {n : Nat} {a0 : Nat} {x1 : Int32} {x2 : Int32} {h : jH} {q : Int32 × jH} (hf : F_X12_sumOf n a0 x1 x2 h = some q) : jbq h q.2 := by
  unfold F_X12_sumOf at hf
  exact (BQ_X12_sumOf_5 hf)
theorem BQ_X12_byLaw {n : Nat} {a0 : Nat} {x1 : Int32} {x2 : Int32} {h : jH} {q : Int32 × jH} (hf : F_X12_byLaw n a0 x1 x2 h = some q) : jbq h q.2 := by
  unfold F_X12_byLaw at hf
  obtain ⟨p1, e1, hf⟩ := jbind hf
  obtain ⟨v5, e2, hf⟩ := jbind hf
  replace hf := jite hf
  rcases hf with ⟨-, hf⟩ | ⟨-, hf⟩
  · obtain ⟨q13, e3, hf⟩ := jbind hf
    replace e3 := (jcv_o e3).2
    have f3 : jbq h q13.2 := (BQ_X12_sumOf e3)
    cases hf
    exact f3
  · replace hf := jite hf
    rcases hf with ⟨-, hf⟩ | ⟨-, hf⟩
    · obtain ⟨p24, e4, hf⟩ := jbind hf
      obtain ⟨v28, e5, hf⟩ := jbind hf
      obtain ⟨v29, e6, hf⟩ := jbind hf
      replace e6 := (jcv_o e6).2
      replace hf := jite hf
      rcases hf with ⟨-, hf⟩ | ⟨-, hf⟩
      · cases hf
        exact jbq_rfl
      · cases hf
        exact jbq_rfl
    · replace hf := jite hf
      rcases hf with ⟨-, hf⟩ | ⟨-, hf⟩
      · cases hf
        exact jbq_rfl
      · cases hf
        exact jbq_rfl
theorem BQ_X12_ring_34 {n : Nat} {a0 : Nat} {x1 : Int32} {x2 : Int32} {sa0 : Nat} {s1 : Int32} {h : jH} {q : Int32 × jH} (hf : F_X12_ring_34 n a0 x1 x2 sa0 s1 h = some q) : jbq h q.2 := by
  unfold F_X12_ring_34 at hf
  obtain ⟨q35, e1, hf⟩ := jbind hf
  replace e1 := (jcv_o e1).2
  have f1 : jbq h q35.2 := (BQ_X12_throwsIf e1)
  replace hf := jite hf
  rcases hf with ⟨-, hf⟩ | ⟨-, hf⟩
  · replace hf := jite hf
    rcases hf with ⟨-, hf⟩ | ⟨-, hf⟩
    · obtain ⟨v86, e2, hf⟩ := jbind hf
      replace e2 := (jcv_o e2).2
      replace hf := jite hf
      rcases hf with ⟨-, hf⟩ | ⟨-, hf⟩
      · cases hf
        exact f1
      · obtain ⟨v98, e3, hf⟩ := jbind hf
        replace e3 := (jcv_o e3).2
        cases hf
        exact f1
    · replace hf := jite hf
      rcases hf with ⟨-, hf⟩ | ⟨-, hf⟩
      · obtain ⟨q105, e4, hf⟩ := jbind hf
        replace e4 := (jcv_o e4).2
        have f4 : jbq q35.2 q105.2 := (BQ_X12_byLaw e4)
        cases hf
        exact (jbq_tr f1 f4)
      · replace hf := jite hf
        rcases hf with ⟨-, hf⟩ | ⟨-, hf⟩
        · obtain ⟨q112, e5, hf⟩ := jbind hf
          replace e5 := (jcv_o e5).2
          have f5 : jbq q35.2 q112.2 := (BQ_X12_byLaw e5)
          cases hf
          exact (jbq_tr f1 f5)
        · replace hf := jite hf
          rcases hf with ⟨-, hf⟩ | ⟨-, hf⟩
          · obtain ⟨q119, e6, hf⟩ := jbind hf
            replace e6 := (jcv_o e6).2
            have f6 : jbq q35.2 q119.2 := (BQ_X12_byLaw e6)
            cases hf
            exact (jbq_tr f1 f6)
          · replace hf := jite hf
            rcases hf with ⟨-, hf⟩ | ⟨-, hf⟩
            · obtain ⟨v125, e7, hf⟩ := jbind hf
              replace e7 := (jcv_o e7).2
              cases hf
              exact f1
            · replace hf := jite hf
              rcases hf with ⟨-, hf⟩ | ⟨-, hf⟩
              · obtain ⟨v131, e8, hf⟩ := jbind hf
                replace e8 := (jcv_o e8).2
                cases hf
                exact f1
              · obtain ⟨v138, e9, hf⟩ := jbind hf
                replace e9 := (jcv_o e9).2
                cases hf
                exact f1
  · cases hf
    exact f1
theorem BQ_X12_ring {n : Nat} {a0 : Nat} {x1 : Int32} {x2 : Int32} {h : jH} {q : Int32 × jH} (hf : F_X12_ring n a0 x1 x2 h = some q) : jbq h q.2 := by
  unfold F_X12_ring at hf
  obtain ⟨h2, e1, hf⟩ := jbind hf
  have f1 : jbq h h2 := bm_pf e1
  obtain ⟨v8, e2, hf⟩ := jbind hf
  replace e2 := (jcv_o e2).2
  obtain ⟨q12, e3, hf⟩ := jbind hf
  replace e3 := (jcv_o e3).2
  have f3 : jbq h2 q12.2 := (BQ_X12_throwsIf e3)
  replace hf := jite hf
  rcases hf with ⟨-, hf⟩ | ⟨-, hf⟩
  · obtain ⟨v23, e4, hf⟩ := jbind hf
    replace hf := jite hf
    rcases hf with ⟨-, hf⟩ | ⟨-, hf⟩
    · exact (jbq_tr (jbq_tr f1 f3) (BQ_X12_ring_34 hf))
    · exact (jbq_tr (jbq_tr f1 f3) (BQ_X12_ring_34 hf))
  · cases hf
    exact (jbq_tr f1 f3)
theorem BQ_X12_keepsAll_2 {n : Nat} {k : Nat} : ∀ {a0 : Nat} {x1 : Int32} {h : jH} {q : jH}, F_X12_keepsAll_2 n k a0 x1 h = some q → jbq h q := by
  induction k with
  | zero =>
    intro a0 x1 h q hf
    cases hf
  | succ k ih =>
    intro a0 x1 h q hf
    replace hf : F_X12_keepsAll_2_b n (F_X12_keepsAll_2 n k) a0 x1 h = some q := hf
    unfold F_X12_keepsAll_2_b at hf
    replace hf := jite hf
    rcases hf with ⟨-, hf⟩ | ⟨-, hf⟩
    · cases hf
      exact jbq_rfl
    · obtain ⟨p10, e1, hf⟩ := jbind hf
      obtain ⟨p15, e2, hf⟩ := jbind hf
      obtain ⟨v19, e3, hf⟩ := jbind hf
      obtain ⟨h20, e4, hf⟩ := jbind hf
      have f4 : jbq h h20 := bm_as e4
      exact (jbq_tr f4 (ih  hf))
theorem BQ_X12_keepsAll {n : Nat} {a0 : Nat} {h : jH} {q : jH} (hf : F_X12_keepsAll n a0 h = some q) : jbq h q := by
  unfold F_X12_keepsAll at hf
  exact (BQ_X12_keepsAll_2 hf)
theorem BQ_X12_pulls_29 {n : Nat} {a0 : Nat} {x4 : Int32} {h : jH} {q : Int32 × jH} (hf : F_X12_pulls_29 n a0 x4 h = some q) : jbq h q.2 := by
  unfold F_X12_pulls_29 at hf
  obtain ⟨p30, e1, hf⟩ := jbind hf
  obtain ⟨p39, e2, hf⟩ := jbind hf
  obtain ⟨v44, e3, hf⟩ := jbind hf
  obtain ⟨v46, e4, hf⟩ := jbind hf
  obtain ⟨h53, e5, hf⟩ := jbind hf
  have f5 : jbq h h53 := bm_as e5
  cases hf
  exact f5
theorem BQ_X12_goesOne_52 {n : Nat} {rc10 : Nat → Int32 → Int32 → Int32 → jH → Option (Int32 × jH)} (hrc10 : ∀ {z0 : Nat} {z1 : Int32} {z2 : Int32} {z3 : Int32} {h : jH} {q : Int32 × jH}, rc10 z0 z1 z2 z3 h = some q → jbq h q.2) {a0 : Nat} {x2 : Int32} {x3 : Int32} {x4 : Int32} {sa0 : Nat} {s1 : Int32} {s2 : Int32} {s3 : Int32} {h : jH} {q : Int32 × jH} (hf : F_X12_goesOne_52 n rc10 a0 x2 x3 x4 sa0 s1 s2 s3 h = some q) : jbq h q.2 := by
  unfold F_X12_goesOne_52 at hf
  obtain ⟨h53, e1, hf⟩ := jbind hf
  have f1 : jbq h h53 := bm_as e1
  obtain ⟨v56, e2, hf⟩ := jbind hf
  obtain ⟨v63, e3, hf⟩ := jbind hf
  replace e3 := (jcv_o e3).2
  replace hf := jite hf
  rcases hf with ⟨-, hf⟩ | ⟨-, hf⟩
  · obtain ⟨h75, e4, hf⟩ := jbind hf
    have f4 : jbq h53 h75 := bm_pf e4
    exact (jbq_tr (jbq_tr f1 f4) (hrc10  hf))
  · obtain ⟨h75, e5, hf⟩ := jbind hf
    have f5 : jbq h53 h75 := bm_pf e5
    exact (jbq_tr (jbq_tr f1 f5) (hrc10  hf))
theorem BQ_X12_goesOne_10 {n : Nat} {k : Nat} : ∀ {a0 : Nat} {x2 : Int32} {x3 : Int32} {x4 : Int32} {h : jH} {q : Int32 × jH}, F_X12_goesOne_10 n k a0 x2 x3 x4 h = some q → jbq h q.2 := by
  induction k with
  | zero =>
    intro a0 x2 x3 x4 h q hf
    cases hf
  | succ k ih =>
    intro a0 x2 x3 x4 h q hf
    replace hf : F_X12_goesOne_10_b n (F_X12_goesOne_10 n k) a0 x2 x3 x4 h = some q := hf
    unfold F_X12_goesOne_10_b at hf
    obtain ⟨v13, e1, hf⟩ := jbind hf
    replace e1 := (jcv_o e1).2
    replace hf := jite hf
    rcases hf with ⟨-, hf⟩ | ⟨-, hf⟩
    · replace hf := jite hf
      rcases hf with ⟨-, hf⟩ | ⟨-, hf⟩
      · cases hf
        exact jbq_rfl
      · cases hf
        exact jbq_rfl
    · obtain ⟨v22, e2, hf⟩ := jbind hf
      replace hf := jite hf
      rcases hf with ⟨-, hf⟩ | ⟨-, hf⟩
      · exact (ih  hf)
      · obtain ⟨p32, e3, hf⟩ := jbind hf
        obtain ⟨v38, e4, hf⟩ := jbind hf
        obtain ⟨v42, e5, hf⟩ := jbind hf
        replace hf := jite hf
        rcases hf with ⟨-, hf⟩ | ⟨-, hf⟩
        · exact (BQ_X12_goesOne_52 ih hf)
        · exact (BQ_X12_goesOne_52 ih hf)
theorem BQ_X12_goesOne {n : Nat} {a0 : Nat} {x1 : Int32} {x2 : Int32} {h : jH} {q : Int32 × jH} (hf : F_X12_goesOne n a0 x1 x2 h = some q) : jbq h q.2 := by
  unfold F_X12_goesOne at hf
  obtain ⟨v3, e1, hf⟩ := jbind hf
  replace e1 := (jcv_o e1).2
  exact (BQ_X12_goesOne_10 hf)
theorem BQ_X12_pulls_8 {n : Nat} {k : Nat} : ∀ {a0 : Nat} {x1 : Int32} {x2 : Int32} {x3 : Int32} {x4 : Int32} {h : jH} {q : Int32 × jH}, F_X12_pulls_8 n k a0 x1 x2 x3 x4 h = some q → jbq h q.2 := by
  induction k with
  | zero =>
    intro a0 x1 x2 x3 x4 h q hf
    cases hf
  | succ k ih =>
    intro a0 x1 x2 x3 x4 h q hf
    replace hf : F_X12_pulls_8_b n (F_X12_pulls_8 n k) a0 x1 x2 x3 x4 h = some q := hf
    unfold F_X12_pulls_8_b at hf
    replace hf := jite hf
    rcases hf with ⟨-, hf⟩ | ⟨-, hf⟩
    · exact (BQ_X12_pulls_29 hf)
    · obtain ⟨q17, e1, hf⟩ := jbind hf
      replace e1 := (jcv_o e1).2
      have f1 : jbq h q17.2 := (BQ_X12_goesOne e1)
      replace hf := jite hf
      rcases hf with ⟨-, hf⟩ | ⟨-, hf⟩
      · exact (jbq_tr f1 (BQ_X12_pulls_29 hf))
      · exact (jbq_tr f1 (ih  hf))
theorem BQ_X12_pulls {n : Nat} {a0 : Nat} {x1 : Int32} {x2 : Int32} {x3 : Int32} {h : jH} {q : Int32 × jH} (hf : F_X12_pulls n a0 x1 x2 x3 h = some q) : jbq h q.2 := by
  unfold F_X12_pulls at hf
  obtain ⟨h2, e1, hf⟩ := jbind hf
  have f1 : jbq h h2 := bm_pf e1
  exact (jbq_tr f1 (BQ_X12_pulls_8 hf))
theorem BQ_X12_bringsBack_2 {n : Nat} {k : Nat} : ∀ {a0 : Nat} {x1 : Int32} {h : jH} {q : jH}, F_X12_bringsBack_2 n k a0 x1 h = some q → jbq h q := by
  induction k with
  | zero =>
    intro a0 x1 h q hf
    cases hf
  | succ k ih =>
    intro a0 x1 h q hf
    replace hf : F_X12_bringsBack_2_b n (F_X12_bringsBack_2 n k) a0 x1 h = some q := hf
    unfold F_X12_bringsBack_2_b at hf
    replace hf := jite hf
    rcases hf with ⟨-, hf⟩ | ⟨-, hf⟩
    · cases hf
      exact jbq_rfl
    · obtain ⟨p10, e1, hf⟩ := jbind hf
      obtain ⟨p15, e2, hf⟩ := jbind hf
      obtain ⟨v19, e3, hf⟩ := jbind hf
      obtain ⟨h20, e4, hf⟩ := jbind hf
      have f4 : jbq h h20 := bm_as e4
      exact (jbq_tr f4 (ih  hf))
theorem BQ_X12_bringsBack {n : Nat} {a0 : Nat} {h : jH} {q : jH} (hf : F_X12_bringsBack n a0 h = some q) : jbq h q := by
  unfold F_X12_bringsBack at hf
  exact (BQ_X12_bringsBack_2 hf)
theorem BQ_X12_goes {n : Nat} {a0 : Nat} {x1 : Int32} {x2 : Int32} {h : jH} {q : Int32 × jH} (hf : F_X12_goes n a0 x1 x2 h = some q) : jbq h q.2 := by
  unfold F_X12_goes at hf
  obtain ⟨h2, e1, hf⟩ := jbind hf
  have f1 : jbq h h2 := bm_pf e1
  obtain ⟨v8, e2, hf⟩ := jbind hf
  replace e2 := (jcv_o e2).2
  obtain ⟨q12, e3, hf⟩ := jbind hf
  replace e3 := (jcv_o e3).2
  have f3 : jbq h2 q12.2 := (BQ_X12_throwsIf e3)
  replace hf := jite hf
  rcases hf with ⟨-, hf⟩ | ⟨-, hf⟩
  · obtain ⟨h21, e4, hf⟩ := jbind hf
    replace e4 := (jcv_o e4).2
    have f4 : jbq q12.2 h21 := (BQ_X12_keepsAll e4)
    obtain ⟨q29, e5, hf⟩ := jbind hf
    replace e5 := (jcv_o e5).2
    have f5 : jbq h21 q29.2 := (BQ_X12_pulls e5)
    obtain ⟨h34, e6, hf⟩ := jbind hf
    replace e6 := (jcv_o e6).2
    have f6 : jbq q29.2 h34 := (BQ_X12_bringsBack e6)
    cases hf
    exact (jbq_tr (jbq_tr (jbq_tr (jbq_tr f1 f3) f4) f5) f6)
  · cases hf
    exact (jbq_tr f1 f3)
theorem BQ_X12_with {n : Nat} {a0 : Nat} {x1 : Int32} {x2 : Int32} {h : jH} {q : Int32 × jH} (hf : F_X12_with n a0 x1 x2 h = some q) : jbq h q.2 := by
  unfold F_X12_with at hf
  obtain ⟨h2, e1, hf⟩ := jbind hf
  have f1 : jbq h h2 := bm_pf e1
  obtain ⟨v8, e2, hf⟩ := jbind hf
  replace e2 := (jcv_o e2).2
  obtain ⟨q12, e3, hf⟩ := jbind hf
  replace e3 := (jcv_o e3).2
  have f3 : jbq h2 q12.2 := (BQ_X12_throwsIf e3)
  replace hf := jite hf
  rcases hf with ⟨-, hf⟩ | ⟨-, hf⟩
  · obtain ⟨v25, e4, hf⟩ := jbind hf
    replace e4 := (jcv_o e4).2
    cases hf
    exact (jbq_tr f1 f3)
  · cases hf
    exact (jbq_tr f1 f3)
theorem BQ_X12_would_60 {n : Nat} {a0 : Nat} {s0 : Int32} {h : jH} {q : Int32 × jH} (hf : F_X12_would_60 n a0 s0 h = some q) : jbq h q.2 := by
  unfold F_X12_would_60 at hf
  obtain ⟨h63, e1, hf⟩ := jbind hf
  replace e1 := (jcv_o e1).2
  have f1 : jbq h h63 := (BQ_X12_bringsBack e1)
  cases hf
  exact f1
theorem BQ_X12_would {n : Nat} {a0 : Nat} {x1 : Int32} {x2 : Int32} {x3 : Int32} {x4 : Int32} {h : jH} {q : Int32 × jH} (hf : F_X12_would n a0 x1 x2 x3 x4 h = some q) : jbq h q.2 := by
  unfold F_X12_would at hf
  obtain ⟨h2, e1, hf⟩ := jbind hf
  have f1 : jbq h h2 := bm_pf e1
  obtain ⟨v8, e2, hf⟩ := jbind hf
  replace e2 := (jcv_o e2).2
  obtain ⟨q12, e3, hf⟩ := jbind hf
  replace e3 := (jcv_o e3).2
  have f3 : jbq h2 q12.2 := (BQ_X12_throwsIf e3)
  replace hf := jite hf
  rcases hf with ⟨-, hf⟩ | ⟨-, hf⟩
  · obtain ⟨v20, e4, hf⟩ := jbind hf
    obtain ⟨q24, e5, hf⟩ := jbind hf
    replace e5 := (jcv_o e5).2
    have f5 : jbq q12.2 q24.2 := (BQ_X12_throwsIf e5)
    replace hf := jite hf
    rcases hf with ⟨-, hf⟩ | ⟨-, hf⟩
    · obtain ⟨h33, e6, hf⟩ := jbind hf
      replace e6 := (jcv_o e6).2
      have f6 : jbq q24.2 h33 := (BQ_X12_keepsAll e6)
      obtain ⟨q40, e7, hf⟩ := jbind hf
      replace e7 := (jcv_o e7).2
      have f7 : jbq h33 q40.2 := (BQ_X12_pulls e7)
      replace hf := jite hf
      rcases hf with ⟨-, hf⟩ | ⟨-, hf⟩
      · obtain ⟨v57, e8, hf⟩ := jbind hf
        replace e8 := (jcv_o e8).2
        exact (jbq_tr (jbq_tr (jbq_tr (jbq_tr (jbq_tr f1 f3) f5) f6) f7) (BQ_X12_would_60 hf))
      · obtain ⟨v50, e9, hf⟩ := jbind hf
        exact (jbq_tr (jbq_tr (jbq_tr (jbq_tr (jbq_tr f1 f3) f5) f6) f7) (BQ_X12_would_60 hf))
    · cases hf
      exact (jbq_tr (jbq_tr f1 f3) f5)
  · cases hf
    exact (jbq_tr f1 f3)
theorem BQ_X12_uses {n : Nat} {a0 : Nat} {h : jH} {q : jH} (hf : F_X12_uses n a0 h = some q) : jbq h q := by
  unfold F_X12_uses at hf
  obtain ⟨h2, e1, hf⟩ := jbind hf
  have f1 : jbq h h2 := bm_pf e1
  obtain ⟨v7, e2, hf⟩ := jbind hf
  obtain ⟨h10, e3, hf⟩ := jbind hf
  have f3 : jbq h2 h10 := bm_pf e3
  obtain ⟨h15, e4, hf⟩ := jbind hf
  have f4 : jbq h10 h15 := bm_pf e4
  obtain ⟨h20, e5, hf⟩ := jbind hf
  have f5 : jbq h15 h20 := bm_pf e5
  cases hf
  exact (jbq_tr (jbq_tr (jbq_tr f1 f3) f4) f5)
theorem BQ_X12_areCaught_2 {n : Nat} {k : Nat} : ∀ {a0 : Nat} {x1 : Int32} {x2 : Int32} {h : jH} {q : jH}, F_X12_areCaught_2 n k a0 x1 x2 h = some q → jbq h q := by
  induction k with
  | zero =>
    intro a0 x1 x2 h q hf
    cases hf
  | succ k ih =>
    intro a0 x1 x2 h q hf
    replace hf : F_X12_areCaught_2_b n (F_X12_areCaught_2 n k) a0 x1 x2 h = some q := hf
    unfold F_X12_areCaught_2_b at hf
    obtain ⟨v4, e1, hf⟩ := jbind hf
    replace e1 := (jcv_o e1).2
    replace hf := jite hf
    rcases hf with ⟨-, hf⟩ | ⟨-, hf⟩
    · cases hf
      exact jbq_rfl
    · obtain ⟨p11, e2, hf⟩ := jbind hf
      obtain ⟨v17, e3, hf⟩ := jbind hf
      obtain ⟨v22, e4, hf⟩ := jbind hf
      replace hf := jite hf
      rcases hf with ⟨-, hf⟩ | ⟨-, hf⟩
      · obtain ⟨h33, e5, hf⟩ := jbind hf
        have f5 : jbq h h33 := bm_as e5
        exact (jbq_tr f5 (ih  hf))
      · obtain ⟨h33, e6, hf⟩ := jbind hf
        have f6 : jbq h h33 := bm_as e6
        exact (jbq_tr f6 (ih  hf))
theorem BQ_X12_areCaught {n : Nat} {a0 : Nat} {x1 : Int32} {h : jH} {q : jH} (hf : F_X12_areCaught n a0 x1 h = some q) : jbq h q := by
  unfold F_X12_areCaught at hf
  exact (BQ_X12_areCaught_2 hf)
theorem BQ_X12_wentWith {n : Nat} {a0 : Nat} {x1 : Int32} {x2 : Int32} {x3 : Int32} {x4 : Int32} {h : jH} {q : Int32 × jH} (hf : F_X12_wentWith n a0 x1 x2 x3 x4 h = some q) : jbq h q.2 := by
  unfold F_X12_wentWith at hf
  obtain ⟨h1, e1, hf⟩ := jbind hf
  replace e1 := (jcv_o e1).2
  have f1 : jbq h h1 := (BQ_X12_keepsAll e1)
  obtain ⟨h6, e2, hf⟩ := jbind hf
  replace e2 := (jcv_o e2).2
  have f2 : jbq h1 h6 := (BQ_X12_areCaught e2)
  obtain ⟨q14, e3, hf⟩ := jbind hf
  replace e3 := (jcv_o e3).2
  have f3 : jbq h6 q14.2 := (BQ_X12_pulls e3)
  obtain ⟨h20, e4, hf⟩ := jbind hf
  replace e4 := (jcv_o e4).2
  have f4 : jbq q14.2 h20 := (BQ_X12_bringsBack e4)
  cases hf
  exact (jbq_tr (jbq_tr (jbq_tr f1 f2) f3) f4)
theorem BQ_X12_fits_41 {n : Nat} {rc4 : Nat → Int32 → Int32 → Int32 → jH → Option (Int32 × jH)} (hrc4 : ∀ {z0 : Nat} {z1 : Int32} {z2 : Int32} {z3 : Int32} {h : jH} {q : Int32 × jH}, rc4 z0 z1 z2 z3 h = some q → jbq h q.2) {a0 : Nat} {x1 : Int32} {x3 : Int32} {sa0 : Nat} {s1 : Int32} {s2 : Int32} {s3 : Int32} {h : jH} {q : Int32 × jH} (hf : F_X12_fits_41 n rc4 a0 x1 x3 sa0 s1 s2 s3 h = some q) : jbq h q.2 := by
  unfold F_X12_fits_41 at hf
  obtain ⟨p42, e1, hf⟩ := jbind hf
  obtain ⟨v48, e2, hf⟩ := jbind hf
  obtain ⟨q49, e3, hf⟩ := jbind hf
  replace e3 := (jcv_o e3).2
  have f3 : jbq h q49.2 := (BQ_X12_wentWith e3)
  obtain ⟨p53, e4, hf⟩ := jbind hf
  obtain ⟨v59, e5, hf⟩ := jbind hf
  replace hf := jite hf
  rcases hf with ⟨-, hf⟩ | ⟨-, hf⟩
  · exact (jbq_tr f3 (hrc4  hf))
  · exact (jbq_tr f3 (hrc4  hf))
theorem BQ_X12_fits_4 {n : Nat} {k : Nat} : ∀ {a0 : Nat} {x1 : Int32} {x2 : Int32} {x3 : Int32} {h : jH} {q : Int32 × jH}, F_X12_fits_4 n k a0 x1 x2 x3 h = some q → jbq h q.2 := by
  induction k with
  | zero =>
    intro a0 x1 x2 x3 h q hf
    cases hf
  | succ k ih =>
    intro a0 x1 x2 x3 h q hf
    replace hf : F_X12_fits_4_b n (F_X12_fits_4 n k) a0 x1 x2 x3 h = some q := hf
    unfold F_X12_fits_4_b at hf
    obtain ⟨v6, e1, hf⟩ := jbind hf
    replace hf := jite hf
    rcases hf with ⟨-, hf⟩ | ⟨-, hf⟩
    · replace hf := jite hf
      rcases hf with ⟨-, hf⟩ | ⟨-, hf⟩
      · cases hf
        exact jbq_rfl
      · cases hf
    · replace hf := jite hf
      rcases hf with ⟨-, hf⟩ | ⟨-, hf⟩
      · replace hf := jite hf
        rcases hf with ⟨-, hf⟩ | ⟨-, hf⟩
        · cases hf
          exact jbq_rfl
        · cases hf
      · obtain ⟨p19, e2, hf⟩ := jbind hf
        obtain ⟨v23, e3, hf⟩ := jbind hf
        obtain ⟨p25, e4, hf⟩ := jbind hf
        obtain ⟨v31, e5, hf⟩ := jbind hf
        replace hf := jite hf
        rcases hf with ⟨-, hf⟩ | ⟨-, hf⟩
        · exact (BQ_X12_fits_41 ih hf)
        · exact (BQ_X12_fits_41 ih hf)
theorem BQ_X12_fits {n : Nat} {a0 : Nat} {x1 : Int32} {h : jH} {q : Int32 × jH} (hf : F_X12_fits n a0 x1 h = some q) : jbq h q.2 := by
  unfold F_X12_fits at hf
  exact (BQ_X12_fits_4 hf)
theorem BQ_X12_snags_36 {n : Nat} {k : Nat} : ∀ {a0 : Nat} {x1 : Int32} {x2 : Int32} {x3 : Int32} {x4 : Int32} {h : jH} {q : Int32 × jH}, F_X12_snags_36 n k a0 x1 x2 x3 x4 h = some q → jbq h q.2 := by
  induction k with
  | zero =>
    intro a0 x1 x2 x3 x4 h q hf
    cases hf
  | succ k ih =>
    intro a0 x1 x2 x3 x4 h q hf
    replace hf : F_X12_snags_36_b n (F_X12_snags_36 n k) a0 x1 x2 x3 x4 h = some q := hf
    unfold F_X12_snags_36_b at hf
    obtain ⟨v39, e1, hf⟩ := jbind hf
    replace e1 := (jcv_o e1).2
    replace hf := jite hf
    rcases hf with ⟨-, hf⟩ | ⟨-, hf⟩
    · replace hf := jite hf
      rcases hf with ⟨-, hf⟩ | ⟨-, hf⟩
      · cases hf
        exact jbq_rfl
      · replace hf := jite hf
        rcases hf with ⟨-, hf⟩ | ⟨-, hf⟩
        · cases hf
          exact jbq_rfl
        · cases hf
          exact jbq_rfl
    · obtain ⟨q48, e2, hf⟩ := jbind hf
      replace e2 := (jcv_o e2).2
      have f2 : jbq h q48.2 := (BQ_X12_fits e2)
      replace hf := jite hf
      rcases hf with ⟨-, hf⟩ | ⟨-, hf⟩
      · exact (jbq_tr f2 (ih  hf))
      · exact (jbq_tr f2 (ih  hf))
theorem BQ_X12_snags_17 {n : Nat} {a0 : Nat} {x1 : Int32} {sa0 : Nat} {s1 : Int32} {h : jH} {q : Int32 × jH} (hf : F_X12_snags_17 n a0 x1 sa0 s1 h = some q) : jbq h q.2 := by
  unfold F_X12_snags_17 at hf
  obtain ⟨q18, e1, hf⟩ := jbind hf
  replace e1 := (jcv_o e1).2
  have f1 : jbq h q18.2 := (BQ_X12_throwsIf e1)
  replace hf := jite hf
  rcases hf with ⟨-, hf⟩ | ⟨-, hf⟩
  · obtain ⟨v29, e2, hf⟩ := jbind hf
    replace e2 := (jcv_o e2).2
    exact (jbq_tr f1 (BQ_X12_snags_36 hf))
  · cases hf
    exact f1
theorem BQ_X12_snags {n : Nat} {a0 : Nat} {x1 : Int32} {h : jH} {q : Int32 × jH} (hf : F_X12_snags n a0 x1 h = some q) : jbq h q.2 := by
  unfold F_X12_snags at hf
  obtain ⟨h1, e1, hf⟩ := jbind hf
  replace e1 := (jcv_o e1).2
  have f1 : jbq h h1 := (BQ_X12_uses e1)
  obtain ⟨v6, e2, hf⟩ := jbind hf
  replace e2 := (jcv_o e2).2
  replace hf := jite hf
  rcases hf with ⟨-, hf⟩ | ⟨-, hf⟩
  · exact (jbq_tr f1 (BQ_X12_snags_17 hf))
  · exact (jbq_tr f1 (BQ_X12_snags_17 hf))
theorem BQ_X12_partBy_29 {n : Nat} {k : Nat} : ∀ {a0 : Nat} {x1 : Int32} {x2 : Int32} {x3 : Int32} {x4 : Int32} {h : jH} {q : Int32 × jH}, F_X12_partBy_29 n k a0 x1 x2 x3 x4 h = some q → jbq h q.2 := by
  induction k with
  | zero =>
    intro a0 x1 x2 x3 x4 h q hf
    cases hf
  | succ k ih =>
    intro a0 x1 x2 x3 x4 h q hf
    replace hf : F_X12_partBy_29_b n (F_X12_partBy_29 n k) a0 x1 x2 x3 x4 h = some q := hf
    unfold F_X12_partBy_29_b at hf
    obtain ⟨v32, e1, hf⟩ := jbind hf
    replace e1 := (jcv_o e1).2
    replace hf := jite hf
    rcases hf with ⟨-, hf⟩ | ⟨-, hf⟩
    · cases hf
      exact jbq_rfl
    · obtain ⟨p39, e2, hf⟩ := jbind hf
      obtain ⟨v44, e3, hf⟩ := jbind hf
      replace hf := jite hf
      rcases hf with ⟨-, hf⟩ | ⟨-, hf⟩
      · exact (ih  hf)
      · obtain ⟨q58, e4, hf⟩ := jbind hf
        replace e4 := (jcv_o e4).2
        have f4 : jbq h q58.2 := (BQ_X12_wentWith e4)
        obtain ⟨p64, e5, hf⟩ := jbind hf
        obtain ⟨v70, e6, hf⟩ := jbind hf
        obtain ⟨h73, e7, hf⟩ := jbind hf
        have f7 : jbq q58.2 h73 := bm_as e7
        obtain ⟨p76, e8, hf⟩ := jbind hf
        obtain ⟨v81, e9, hf⟩ := jbind hf
        exact (jbq_tr (jbq_tr f4 f7) (ih  hf))
theorem BQ_X12_partBy_5 {n : Nat} {k : Nat} : ∀ {a0 : Nat} {x1 : Int32} {x2 : Int32} {x3 : Int32} {x4 : Int32} {h : jH} {q : Int32 × jH}, F_X12_partBy_5 n k a0 x1 x2 x3 x4 h = some q → jbq h q.2 := by
  induction k with
  | zero =>
    intro a0 x1 x2 x3 x4 h q hf
    cases hf
  | succ k ih =>
    intro a0 x1 x2 x3 x4 h q hf
    replace hf : F_X12_partBy_5_b n (F_X12_partBy_5 n k) a0 x1 x2 x3 x4 h = some q := hf
    unfold F_X12_partBy_5_b at hf
    replace hf := jite hf
    rcases hf with ⟨-, hf⟩ | ⟨-, hf⟩
    · exact (BQ_X12_partBy_29 hf)
    · obtain ⟨p13, e1, hf⟩ := jbind hf
      obtain ⟨h19, e2, hf⟩ := jbind hf
      have f2 : jbq h h19 := bm_as e2
      exact (jbq_tr f2 (ih  hf))
theorem BQ_X12_partBy {n : Nat} {a0 : Nat} {x1 : Int32} {x2 : Int32} {h : jH} {q : Int32 × jH} (hf : F_X12_partBy n a0 x1 x2 h = some q) : jbq h q.2 := by
  unfold F_X12_partBy at hf
  exact (BQ_X12_partBy_5 hf)
theorem BQ_X12_tries_132 {n : Nat} {rc81 : Nat → Int32 → Int32 → Int32 → Int32 → jH → Option (Int32 × jH)} (hrc81 : ∀ {z0 : Nat} {z1 : Int32} {z2 : Int32} {z3 : Int32} {z4 : Int32} {h : jH} {q : Int32 × jH}, rc81 z0 z1 z2 z3 z4 h = some q → jbq h q.2) {a0 : Nat} {x1 : Int32} {x3 : Int32} {x4 : Int32} {x5 : Int32} {s0 : Int32} {h : jH} {q : Int32 × jH} (hf : F_X12_tries_132 n rc81 a0 x1 x3 x4 x5 s0 h = some q) : jbq h q.2 := by
  unfold F_X12_tries_132 at hf
  exact (hrc81  hf)
theorem BQ_X12_tries_115 {n : Nat} {rc81 : Nat → Int32 → Int32 → Int32 → Int32 → jH → Option (Int32 × jH)} (hrc81 : ∀ {z0 : Nat} {z1 : Int32} {z2 : Int32} {z3 : Int32} {z4 : Int32} {h : jH} {q : Int32 × jH}, rc81 z0 z1 z2 z3 z4 h = some q → jbq h q.2) {a0 : Nat} {x1 : Int32} {x2 : Int32} {x3 : Int32} {x4 : Int32} {sa0 : Nat} {s1 : Int32} {s2 : Int32} {h : jH} {q : Int32 × jH} (hf : F_X12_tries_115 n rc81 a0 x1 x2 x3 x4 sa0 s1 s2 h = some q) : jbq h q.2 := by
  unfold F_X12_tries_115 at hf
  obtain ⟨q115, e1, hf⟩ := jbind hf
  replace e1 := (jcv_o e1).2
  have f1 : jbq h q115.2 := (BQ_X12_partBy e1)
  replace hf := jite hf
  rcases hf with ⟨-, hf⟩ | ⟨-, hf⟩
  · exact (jbq_tr f1 (BQ_X12_tries_132 hrc81 hf))
  · exact (jbq_tr f1 (BQ_X12_tries_132 hrc81 hf))
theorem BQ_X12_tries_81 {n : Nat} {k : Nat} : ∀ {a0 : Nat} {x1 : Int32} {x2 : Int32} {x3 : Int32} {x4 : Int32} {h : jH} {q : Int32 × jH}, F_X12_tries_81 n k a0 x1 x2 x3 x4 h = some q → jbq h q.2 := by
  induction k with
  | zero =>
    intro a0 x1 x2 x3 x4 h q hf
    cases hf
  | succ k ih =>
    intro a0 x1 x2 x3 x4 h q hf
    replace hf : F_X12_tries_81_b n (F_X12_tries_81 n k) a0 x1 x2 x3 x4 h = some q := hf
    unfold F_X12_tries_81_b at hf
    obtain ⟨v85, e1, hf⟩ := jbind hf
    replace e1 := (jcv_o e1).2
    replace hf := jite hf
    rcases hf with ⟨-, hf⟩ | ⟨-, hf⟩
    · cases hf
      exact jbq_rfl
    · replace hf := jite hf
      rcases hf with ⟨-, hf⟩ | ⟨-, hf⟩
      · cases hf
        exact jbq_rfl
      · replace hf := jite hf
        rcases hf with ⟨-, hf⟩ | ⟨-, hf⟩
        · exact (BQ_X12_tries_115 ih hf)
        · exact (BQ_X12_tries_115 ih hf)
theorem BQ_X12_tries_30 {n : Nat} {k : Nat} : ∀ {a0 : Nat} {x1 : Int32} {x2 : Int32} {h : jH} {q : Int32 × jH}, F_X12_tries_30 n k a0 x1 x2 h = some q → jbq h q.2 := by
  induction k with
  | zero =>
    intro a0 x1 x2 h q hf
    cases hf
  | succ k ih =>
    intro a0 x1 x2 h q hf
    replace hf : F_X12_tries_30_b n (F_X12_tries_30 n k) a0 x1 x2 h = some q := hf
    unfold F_X12_tries_30_b at hf
    obtain ⟨v32, e1, hf⟩ := jbind hf
    replace e1 := (jcv_o e1).2
    replace hf := jite hf
    rcases hf with ⟨-, hf⟩ | ⟨-, hf⟩
    · exact (BQ_X12_tries_81 hf)
    · obtain ⟨p39, e2, hf⟩ := jbind hf
      obtain ⟨q45, e3, hf⟩ := jbind hf
      replace e3 := (jcv_o e3).2
      have f3 : jbq h q45.2 := (BQ_X12_fits e3)
      obtain ⟨h48, e4, hf⟩ := jbind hf
      have f4 : jbq q45.2 h48 := bm_as e4
      obtain ⟨p51, e5, hf⟩ := jbind hf
      obtain ⟨v55, e6, hf⟩ := jbind hf
      replace hf := jite hf
      rcases hf with ⟨-, hf⟩ | ⟨-, hf⟩
      · exact (jbq_tr (jbq_tr f3 f4) (ih  hf))
      · exact (jbq_tr (jbq_tr f3 f4) (ih  hf))
theorem BQ_X12_tries_17 {n : Nat} {a0 : Nat} {sa0 : Nat} {s1 : Int32} {h : jH} {q : Int32 × jH} (hf : F_X12_tries_17 n a0 sa0 s1 h = some q) : jbq h q.2 := by
  unfold F_X12_tries_17 at hf
  obtain ⟨q18, e1, hf⟩ := jbind hf
  replace e1 := (jcv_o e1).2
  have f1 : jbq h q18.2 := (BQ_X12_throwsIf e1)
  replace hf := jite hf
  rcases hf with ⟨-, hf⟩ | ⟨-, hf⟩
  · exact (jbq_tr f1 (BQ_X12_tries_30 hf))
  · cases hf
    exact f1
theorem BQ_X12_tries {n : Nat} {a0 : Nat} {h : jH} {q : Int32 × jH} (hf : F_X12_tries n a0 h = some q) : jbq h q.2 := by
  unfold F_X12_tries at hf
  obtain ⟨h1, e1, hf⟩ := jbind hf
  replace e1 := (jcv_o e1).2
  have f1 : jbq h h1 := (BQ_X12_uses e1)
  obtain ⟨v6, e2, hf⟩ := jbind hf
  replace e2 := (jcv_o e2).2
  replace hf := jite hf
  rcases hf with ⟨-, hf⟩ | ⟨-, hf⟩
  · exact (jbq_tr f1 (BQ_X12_tries_17 hf))
  · exact (jbq_tr f1 (BQ_X12_tries_17 hf))
theorem BQ_X12_loosen_51 {n : Nat} {k : Nat} : ∀ {a0 : Nat} {x1 : Int32} {x2 : Int32} {x3 : Int32} {x4 : Int32} {x5 : Int32} {x6 : Int32} {x7 : Int32} {h : jH} {q : Int32 × jH}, F_X12_loosen_51 n k a0 x1 x2 x3 x4 x5 x6 x7 h = some q → jbq h q.2 := by
  induction k with
  | zero =>
    intro a0 x1 x2 x3 x4 x5 x6 x7 h q hf
    cases hf
  | succ k ih =>
    intro a0 x1 x2 x3 x4 x5 x6 x7 h q hf
    replace hf : F_X12_loosen_51_b n (F_X12_loosen_51 n k) a0 x1 x2 x3 x4 x5 x6 x7 h = some q := hf
    unfold F_X12_loosen_51_b at hf
    replace hf := jite hf
    rcases hf with ⟨-, hf⟩ | ⟨-, hf⟩
    · cases hf
      exact jbq_rfl
    · replace hf := jite hf
      rcases hf with ⟨-, hf⟩ | ⟨-, hf⟩
      · obtain ⟨v70, e1, hf⟩ := jbind hf
        replace hf := jite hf
        rcases hf with ⟨-, hf⟩ | ⟨-, hf⟩
        · exact (ih  hf)
        · obtain ⟨q89, e2, hf⟩ := jbind hf
          replace e2 := (jcv_o e2).2
          have f2 : jbq h q89.2 := (BQ_X12_wentWith e2)
          replace hf := jite hf
          rcases hf with ⟨-, hf⟩ | ⟨-, hf⟩
          · obtain ⟨v105, e3, hf⟩ := jbind hf
            exact (jbq_tr f2 (ih  hf))
          · exact (jbq_tr f2 (ih  hf))
      · exact (ih  hf)
theorem BQ_X12_loosen {n : Nat} {a0 : Nat} {x1 : Int32} {x2 : Int32} {x3 : Int32} {h : jH} {q : Int32 × jH} (hf : F_X12_loosen n a0 x1 x2 x3 h = some q) : jbq h q.2 := by
  unfold F_X12_loosen at hf
  obtain ⟨h2, e1, hf⟩ := jbind hf
  have f1 : jbq h h2 := bm_pf e1
  obtain ⟨v8, e2, hf⟩ := jbind hf
  replace e2 := (jcv_o e2).2
  obtain ⟨q12, e3, hf⟩ := jbind hf
  replace e3 := (jcv_o e3).2
  have f3 : jbq h2 q12.2 := (BQ_X12_throwsIf e3)
  replace hf := jite hf
  rcases hf with ⟨-, hf⟩ | ⟨-, hf⟩
  · obtain ⟨v20, e4, hf⟩ := jbind hf
    obtain ⟨q24, e5, hf⟩ := jbind hf
    replace e5 := (jcv_o e5).2
    have f5 : jbq q12.2 q24.2 := (BQ_X12_throwsIf e5)
    replace hf := jite hf
    rcases hf with ⟨-, hf⟩ | ⟨-, hf⟩
    · obtain ⟨v35, e6, hf⟩ := jbind hf
      replace e6 := (jcv_o e6).2
      exact (jbq_tr (jbq_tr (jbq_tr f1 f3) f5) (BQ_X12_loosen_51 hf))
    · cases hf
      exact (jbq_tr (jbq_tr f1 f3) f5)
  · cases hf
    exact (jbq_tr f1 f3)
theorem BQ_X12_tight_83 {n : Nat} {rc39 : Nat → Int32 → Int32 → Int32 → Int32 → jH → Option (Int32 × jH)} (hrc39 : ∀ {z0 : Nat} {z1 : Int32} {z2 : Int32} {z3 : Int32} {z4 : Int32} {h : jH} {q : Int32 × jH}, rc39 z0 z1 z2 z3 z4 h = some q → jbq h q.2) {a0 : Nat} {x1 : Int32} {x3 : Int32} {x4 : Int32} {x5 : Int32} {s0 : Int32} {h : jH} {q : Int32 × jH} (hf : F_X12_tight_83 n rc39 a0 x1 x3 x4 x5 s0 h = some q) : jbq h q.2 := by
  unfold F_X12_tight_83 at hf
  exact (hrc39  hf)
theorem BQ_X12_tight_39 {n : Nat} {k : Nat} : ∀ {a0 : Nat} {x1 : Int32} {x2 : Int32} {x3 : Int32} {x4 : Int32} {h : jH} {q : Int32 × jH}, F_X12_tight_39 n k a0 x1 x2 x3 x4 h = some q → jbq h q.2 := by
  induction k with
  | zero =>
    intro a0 x1 x2 x3 x4 h q hf
    cases hf
  | succ k ih =>
    intro a0 x1 x2 x3 x4 h q hf
    replace hf : F_X12_tight_39_b n (F_X12_tight_39 n k) a0 x1 x2 x3 x4 h = some q := hf
    unfold F_X12_tight_39_b at hf
    obtain ⟨v44, e1, hf⟩ := jbind hf
    replace e1 := (jcv_o e1).2
    replace hf := jite hf
    rcases hf with ⟨-, hf⟩ | ⟨-, hf⟩
    · cases hf
      exact jbq_rfl
    · obtain ⟨v58, e2, hf⟩ := jbind hf
      replace e2 := (jcv_o e2).2
      obtain ⟨v65, e3, hf⟩ := jbind hf
      replace e3 := (jcv_o e3).2
      replace hf := jite hf
      rcases hf with ⟨-, hf⟩ | ⟨-, hf⟩
      · exact (BQ_X12_tight_83 ih hf)
      · exact (BQ_X12_tight_83 ih hf)
theorem BQ_X12_tight_21 {n : Nat} {a0 : Nat} {x1 : Int32} {sa0 : Nat} {s1 : Int32} {h : jH} {q : Int32 × jH} (hf : F_X12_tight_21 n a0 x1 sa0 s1 h = some q) : jbq h q.2 := by
  unfold F_X12_tight_21 at hf
  obtain ⟨q22, e1, hf⟩ := jbind hf
  replace e1 := (jcv_o e1).2
  have f1 : jbq h q22.2 := (BQ_X12_throwsIf e1)
  replace hf := jite hf
  rcases hf with ⟨-, hf⟩ | ⟨-, hf⟩
  · exact (jbq_tr f1 (BQ_X12_tight_39 hf))
  · cases hf
    exact f1
theorem BQ_X12_tight {n : Nat} {a0 : Nat} {x1 : Int32} {h : jH} {q : Int32 × jH} (hf : F_X12_tight n a0 x1 h = some q) : jbq h q.2 := by
  unfold F_X12_tight at hf
  obtain ⟨h2, e1, hf⟩ := jbind hf
  have f1 : jbq h h2 := bm_pf e1
  obtain ⟨v10, e2, hf⟩ := jbind hf
  replace hf := jite hf
  rcases hf with ⟨-, hf⟩ | ⟨-, hf⟩
  · exact (jbq_tr f1 (BQ_X12_tight_21 hf))
  · exact (jbq_tr f1 (BQ_X12_tight_21 hf))
theorem BQ_X12_lit_21 {n : Nat} {a0 : Nat} {x1 : Int32} {sa0 : Nat} {s1 : Int32} {h : jH} {q : Int32 × jH} (hf : F_X12_lit_21 n a0 x1 sa0 s1 h = some q) : jbq h q.2 := by
  unfold F_X12_lit_21 at hf
  obtain ⟨q22, e1, hf⟩ := jbind hf
  replace e1 := (jcv_o e1).2
  have f1 : jbq h q22.2 := (BQ_X12_throwsIf e1)
  replace hf := jite hf
  rcases hf with ⟨-, hf⟩ | ⟨-, hf⟩
  · obtain ⟨v34, e2, hf⟩ := jbind hf
    replace e2 := (jcv_o e2).2
    cases hf
    exact f1
  · cases hf
    exact f1
theorem BQ_X12_lit {n : Nat} {a0 : Nat} {x1 : Int32} {h : jH} {q : Int32 × jH} (hf : F_X12_lit n a0 x1 h = some q) : jbq h q.2 := by
  unfold F_X12_lit at hf
  obtain ⟨h2, e1, hf⟩ := jbind hf
  have f1 : jbq h h2 := bm_pf e1
  obtain ⟨v10, e2, hf⟩ := jbind hf
  replace hf := jite hf
  rcases hf with ⟨-, hf⟩ | ⟨-, hf⟩
  · exact (jbq_tr f1 (BQ_X12_lit_21 hf))
  · exact (jbq_tr f1 (BQ_X12_lit_21 hf))
theorem BQ_X12_drawn {n : Nat} {a0 : Nat} {x1 : Int32} {h : jH} {q : Int32 × jH} (hf : F_X12_drawn n a0 x1 h = some q) : jbq h q.2 := by
  unfold F_X12_drawn at hf
  obtain ⟨p1, e1, hf⟩ := jbind hf
  obtain ⟨p9, e2, hf⟩ := jbind hf
  obtain ⟨v14, e3, hf⟩ := jbind hf
  obtain ⟨h20, e4, hf⟩ := jbind hf
  have f4 : jbq h h20 := bm_as e4
  obtain ⟨p22, e5, hf⟩ := jbind hf
  obtain ⟨v27, e6, hf⟩ := jbind hf
  replace hf := jite hf
  rcases hf with ⟨-, hf⟩ | ⟨-, hf⟩
  · cases hf
  · cases hf
    exact f4
theorem BQ_X12_tells_5 {n : Nat} {k : Nat} : ∀ {a0 : Nat} {x1 : Int32} {x2 : Int32} {x3 : Int32} {x4 : Int32} {h : jH} {q : jH}, F_X12_tells_5 n k a0 x1 x2 x3 x4 h = some q → jbq h q := by
  induction k with
  | zero =>
    intro a0 x1 x2 x3 x4 h q hf
    cases hf
  | succ k ih =>
    intro a0 x1 x2 x3 x4 h q hf
    replace hf : F_X12_tells_5_b n (F_X12_tells_5 n k) a0 x1 x2 x3 x4 h = some q := hf
    unfold F_X12_tells_5_b at hf
    replace hf := jite hf
    rcases hf with ⟨-, hf⟩ | ⟨-, hf⟩
    · obtain ⟨p42, e1, hf⟩ := jbind hf
      obtain ⟨p48, e2, hf⟩ := jbind hf
      obtain ⟨v52, e3, hf⟩ := jbind hf
      obtain ⟨h53, e4, hf⟩ := jbind hf
      have f4 : jbq h h53 := bm_as e4
      obtain ⟨p55, e5, hf⟩ := jbind hf
      obtain ⟨p61, e6, hf⟩ := jbind hf
      obtain ⟨v65, e7, hf⟩ := jbind hf
      obtain ⟨h66, e8, hf⟩ := jbind hf
      have f8 : jbq h53 h66 := bm_as e8
      obtain ⟨p68, e9, hf⟩ := jbind hf
      obtain ⟨h74, e10, hf⟩ := jbind hf
      have f10 : jbq h66 h74 := bm_as e10
      obtain ⟨p76, e11, hf⟩ := jbind hf
      obtain ⟨h82, e12, hf⟩ := jbind hf
      have f12 : jbq h74 h82 := bm_as e12
      obtain ⟨p84, e13, hf⟩ := jbind hf
      obtain ⟨h90, e14, hf⟩ := jbind hf
      have f14 : jbq h82 h90 := bm_as e14
      obtain ⟨p92, e15, hf⟩ := jbind hf
      obtain ⟨v100, e16, hf⟩ := jbind hf
      replace e16 := (jcv_o e16).2
      obtain ⟨h103, e17, hf⟩ := jbind hf
      have f17 : jbq h90 h103 := bm_as e17
      obtain ⟨p105, e18, hf⟩ := jbind hf
      obtain ⟨p113, e19, hf⟩ := jbind hf
      obtain ⟨v118, e20, hf⟩ := jbind hf
      obtain ⟨h124, e21, hf⟩ := jbind hf
      have f21 : jbq h103 h124 := bm_as e21
      cases hf
      exact (jbq_tr (jbq_tr (jbq_tr (jbq_tr (jbq_tr (jbq_tr f4 f8) f10) f12) f14) f17) f21)
    · obtain ⟨p13, e22, hf⟩ := jbind hf
      obtain ⟨p22, e23, hf⟩ := jbind hf
      obtain ⟨v33, e24, hf⟩ := jbind hf
      obtain ⟨h34, e25, hf⟩ := jbind hf
      have f25 : jbq h h34 := bm_as e25
      exact (jbq_tr f25 (ih  hf))
theorem BQ_X12_tells {n : Nat} {a0 : Nat} {x1 : Int32} {x2 : Int32} {x3 : Int32} {h : jH} {q : jH} (hf : F_X12_tells n a0 x1 x2 x3 h = some q) : jbq h q := by
  unfold F_X12_tells at hf
  exact (BQ_X12_tells_5 hf)
theorem BQ_X12_catches_4 {n : Nat} {k : Nat} : ∀ {a0 : Nat} {x1 : Int32} {x2 : Int32} {h : jH} {q : Int32 × jH}, F_X12_catches_4 n k a0 x1 x2 h = some q → jbq h q.2 := by
  induction k with
  | zero =>
    intro a0 x1 x2 h q hf
    cases hf
  | succ k ih =>
    intro a0 x1 x2 h q hf
    replace hf : F_X12_catches_4_b n (F_X12_catches_4 n k) a0 x1 x2 h = some q := hf
    unfold F_X12_catches_4_b at hf
    obtain ⟨v6, e1, hf⟩ := jbind hf
    replace e1 := (jcv_o e1).2
    replace hf := jite hf
    rcases hf with ⟨-, hf⟩ | ⟨-, hf⟩
    · cases hf
      exact jbq_rfl
    · obtain ⟨v14, e2, hf⟩ := jbind hf
      replace e2 := (jcv_o e2).2
      replace hf := jite hf
      rcases hf with ⟨-, hf⟩ | ⟨-, hf⟩
      · obtain ⟨v25, e3, hf⟩ := jbind hf
        replace e3 := (jcv_o e3).2
        replace hf := jite hf
        rcases hf with ⟨-, hf⟩ | ⟨-, hf⟩
        · obtain ⟨q34, e4, hf⟩ := jbind hf
          replace e4 := (jcv_o e4).2
          have f4 : jbq h q34.2 := (BQ_X12_drawn e4)
          obtain ⟨q40, e5, hf⟩ := jbind hf
          replace e5 := (jcv_o e5).2
          have f5 : jbq q34.2 q40.2 := (BQ_X12_byLaw e5)
          replace hf := jite hf
          rcases hf with ⟨-, hf⟩ | ⟨-, hf⟩
          · obtain ⟨p50, e6, hf⟩ := jbind hf
            obtain ⟨v56, e7, hf⟩ := jbind hf
            obtain ⟨h60, e8, hf⟩ := jbind hf
            have f8 : jbq q40.2 h60 := bm_as e8
            obtain ⟨h65, e9, hf⟩ := jbind hf
            replace e9 := (jcv_o e9).2
            have f9 : jbq h60 h65 := (BQ_X12_tells e9)
            exact (jbq_tr (jbq_tr (jbq_tr (jbq_tr f4 f5) f8) f9) (ih  hf))
          · exact (jbq_tr (jbq_tr f4 f5) (ih  hf))
        · exact (ih  hf)
      · exact (ih  hf)
theorem BQ_X12_catches {n : Nat} {a0 : Nat} {h : jH} {q : Int32 × jH} (hf : F_X12_catches n a0 h = some q) : jbq h q.2 := by
  unfold F_X12_catches at hf
  exact (BQ_X12_catches_4 hf)
theorem BQ_X12_falls_4 {n : Nat} {k : Nat} : ∀ {a0 : Nat} {x1 : Int32} {x2 : Int32} {h : jH} {q : Int32 × jH}, F_X12_falls_4 n k a0 x1 x2 h = some q → jbq h q.2 := by
  induction k with
  | zero =>
    intro a0 x1 x2 h q hf
    cases hf
  | succ k ih =>
    intro a0 x1 x2 h q hf
    replace hf : F_X12_falls_4_b n (F_X12_falls_4 n k) a0 x1 x2 h = some q := hf
    unfold F_X12_falls_4_b at hf
    obtain ⟨v6, e1, hf⟩ := jbind hf
    replace e1 := (jcv_o e1).2
    replace hf := jite hf
    rcases hf with ⟨-, hf⟩ | ⟨-, hf⟩
    · cases hf
      exact jbq_rfl
    · obtain ⟨v16, e2, hf⟩ := jbind hf
      replace e2 := (jcv_o e2).2
      replace hf := jite hf
      rcases hf with ⟨-, hf⟩ | ⟨-, hf⟩
      · exact (ih  hf)
      · obtain ⟨q25, e3, hf⟩ := jbind hf
        replace e3 := (jcv_o e3).2
        have f3 : jbq h q25.2 := (BQ_X12_drawn e3)
        obtain ⟨q31, e4, hf⟩ := jbind hf
        replace e4 := (jcv_o e4).2
        have f4 : jbq q25.2 q31.2 := (BQ_X12_byLaw e4)
        replace hf := jite hf
        rcases hf with ⟨-, hf⟩ | ⟨-, hf⟩
        · obtain ⟨p41, e5, hf⟩ := jbind hf
          obtain ⟨v47, e6, hf⟩ := jbind hf
          obtain ⟨h51, e7, hf⟩ := jbind hf
          have f7 : jbq q31.2 h51 := bm_as e7
          obtain ⟨h56, e8, hf⟩ := jbind hf
          replace e8 := (jcv_o e8).2
          have f8 : jbq h51 h56 := (BQ_X12_tells e8)
          exact (jbq_tr (jbq_tr (jbq_tr (jbq_tr f3 f4) f7) f8) (ih  hf))
        · exact (jbq_tr (jbq_tr f3 f4) (ih  hf))
theorem BQ_X12_falls {n : Nat} {a0 : Nat} {h : jH} {q : Int32 × jH} (hf : F_X12_falls n a0 h = some q) : jbq h q.2 := by
  unfold F_X12_falls at hf
  exact (BQ_X12_falls_4 hf)
theorem BQ_X12_oneHour_61 {n : Nat} {a0 : Nat} {s0 : Int32} {h : jH} {q : Int32 × jH} (hf : F_X12_oneHour_61 n a0 s0 h = some q) : jbq h q.2 := by
  unfold F_X12_oneHour_61 at hf
  obtain ⟨p63, e1, hf⟩ := jbind hf
  obtain ⟨v68, e2, hf⟩ := jbind hf
  obtain ⟨h71, e3, hf⟩ := jbind hf
  have f3 : jbq h h71 := bm_as e3
  obtain ⟨p73, e4, hf⟩ := jbind hf
  obtain ⟨v77, e5, hf⟩ := jbind hf
  replace hf := jite hf
  rcases hf with ⟨-, hf⟩ | ⟨-, hf⟩
  · obtain ⟨p84, e6, hf⟩ := jbind hf
    obtain ⟨h89, e7, hf⟩ := jbind hf
    have f7 : jbq h71 h89 := bm_as e7
    obtain ⟨p91, e8, hf⟩ := jbind hf
    obtain ⟨p99, e9, hf⟩ := jbind hf
    obtain ⟨v103, e10, hf⟩ := jbind hf
    obtain ⟨h109, e11, hf⟩ := jbind hf
    have f11 : jbq h89 h109 := bm_as e11
    cases hf
    exact (jbq_tr (jbq_tr f3 f7) f11)
  · cases hf
    exact f3
theorem BQ_X12_oneHour_2 {n : Nat} {k : Nat} : ∀ {a0 : Nat} {x1 : Int32} {x2 : Int32} {h : jH} {q : Int32 × jH}, F_X12_oneHour_2 n k a0 x1 x2 h = some q → jbq h q.2 := by
  induction k with
  | zero =>
    intro a0 x1 x2 h q hf
    cases hf
  | succ k ih =>
    intro a0 x1 x2 h q hf
    replace hf : F_X12_oneHour_2_b n (F_X12_oneHour_2 n k) a0 x1 x2 h = some q := hf
    unfold F_X12_oneHour_2_b at hf
    obtain ⟨v4, e1, hf⟩ := jbind hf
    replace e1 := (jcv_o e1).2
    replace hf := jite hf
    rcases hf with ⟨-, hf⟩ | ⟨-, hf⟩
    · replace hf := jite hf
      rcases hf with ⟨-, hf⟩ | ⟨-, hf⟩
      · obtain ⟨q53, e2, hf⟩ := jbind hf
        replace e2 := (jcv_o e2).2
        have f2 : jbq h q53.2 := (BQ_X12_catches e2)
        obtain ⟨q57, e3, hf⟩ := jbind hf
        replace e3 := (jcv_o e3).2
        have f3 : jbq q53.2 q57.2 := (BQ_X12_falls e3)
        exact (jbq_tr (jbq_tr f2 f3) (BQ_X12_oneHour_61 hf))
      · exact (BQ_X12_oneHour_61 hf)
    · obtain ⟨p11, e4, hf⟩ := jbind hf
      obtain ⟨v16, e5, hf⟩ := jbind hf
      obtain ⟨v24, e6, hf⟩ := jbind hf
      replace e6 := (jcv_o e6).2
      obtain ⟨q30, e7, hf⟩ := jbind hf
      replace e7 := (jcv_o e7).2
      have f7 : jbq h q30.2 := (BQ_X12_byLaw e7)
      obtain ⟨h37, e8, hf⟩ := jbind hf
      have f8 : jbq q30.2 h37 := bm_as e8
      exact (jbq_tr (jbq_tr f7 f8) (ih  hf))
theorem BQ_X12_oneHour {n : Nat} {a0 : Nat} {x1 : Int32} {h : jH} {q : Int32 × jH} (hf : F_X12_oneHour n a0 x1 h = some q) : jbq h q.2 := by
  unfold F_X12_oneHour at hf
  exact (BQ_X12_oneHour_2 hf)
theorem BQ_X12_goesOn_5 {n : Nat} {k : Nat} : ∀ {a0 : Nat} {x1 : Int32} {x2 : Int32} {x3 : Int32} {x4 : Int32} {h : jH} {q : Int32 × jH}, F_X12_goesOn_5 n k a0 x1 x2 x3 x4 h = some q → jbq h q.2 := by
  induction k with
  | zero =>
    intro a0 x1 x2 x3 x4 h q hf
    cases hf
  | succ k ih =>
    intro a0 x1 x2 x3 x4 h q hf
    replace hf : F_X12_goesOn_5_b n (F_X12_goesOn_5 n k) a0 x1 x2 x3 x4 h = some q := hf
    unfold F_X12_goesOn_5_b at hf
    replace hf := jite hf
    rcases hf with ⟨-, hf⟩ | ⟨-, hf⟩
    · cases hf
      exact jbq_rfl
    · obtain ⟨q14, e1, hf⟩ := jbind hf
      replace e1 := (jcv_o e1).2
      have f1 : jbq h q14.2 := (BQ_X12_oneHour e1)
      exact (jbq_tr f1 (ih  hf))
theorem BQ_X12_goesOn {n : Nat} {a0 : Nat} {x1 : Int32} {x2 : Int32} {h : jH} {q : Int32 × jH} (hf : F_X12_goesOn n a0 x1 x2 h = some q) : jbq h q.2 := by
  unfold F_X12_goesOn at hf
  exact (BQ_X12_goesOn_5 hf)
theorem BQ_X12_faded {n : Nat} {a0 : Nat} {x1 : Int32} {h : jH} {q : Int32 × jH} (hf : F_X12_faded n a0 x1 h = some q) : jbq h q.2 := by
  unfold F_X12_faded at hf
  obtain ⟨h2, e1, hf⟩ := jbind hf
  have f1 : jbq h h2 := bm_pf e1
  obtain ⟨v7, e2, hf⟩ := jbind hf
  obtain ⟨q11, e3, hf⟩ := jbind hf
  replace e3 := (jcv_o e3).2
  have f3 : jbq h2 q11.2 := (BQ_X12_throwsIf e3)
  replace hf := jite hf
  rcases hf with ⟨-, hf⟩ | ⟨-, hf⟩
  · obtain ⟨h20, e4, hf⟩ := jbind hf
    replace e4 := (jcv_o e4).2
    have f4 : jbq q11.2 h20 := (BQ_X12_keepsAll e4)
    obtain ⟨q26, e5, hf⟩ := jbind hf
    replace e5 := (jcv_o e5).2
    have f5 : jbq h20 q26.2 := (BQ_X12_goesOn e5)
    obtain ⟨v31, e6, hf⟩ := jbind hf
    replace e6 := (jcv_o e6).2
    obtain ⟨h36, e7, hf⟩ := jbind hf
    replace e7 := (jcv_o e7).2
    have f7 : jbq q26.2 h36 := (BQ_X12_bringsBack e7)
    cases hf
    exact (jbq_tr (jbq_tr (jbq_tr (jbq_tr f1 f3) f4) f5) f7)
  · cases hf
    exact (jbq_tr f1 f3)
theorem BQ_X12_lets_103 {n : Nat} {x1 : Int32} {x2 : Int32} {x4 : Int32} {x5 : Int32} {s0 : Int32} {h : jH} {q : Int32 × jH} (hf : F_X12_lets_103 n x1 x2 x4 x5 s0 h = some q) : jbq h q.2 := by
  unfold F_X12_lets_103 at hf
  replace hf := jite hf
  rcases hf with ⟨-, hf⟩ | ⟨-, hf⟩
  · replace hf := jite hf
    rcases hf with ⟨-, hf⟩ | ⟨-, hf⟩
    · cases hf
      exact jbq_rfl
    · cases hf
      exact jbq_rfl
  · cases hf
    exact jbq_rfl
theorem BQ_X12_lets_48 {n : Nat} {k : Nat} : ∀ {a0 : Nat} {x1 : Int32} {x2 : Int32} {x3 : Int32} {x4 : Int32} {h : jH} {q : Int32 × jH}, F_X12_lets_48 n k a0 x1 x2 x3 x4 h = some q → jbq h q.2 := by
  induction k with
  | zero =>
    intro a0 x1 x2 x3 x4 h q hf
    cases hf
  | succ k ih =>
    intro a0 x1 x2 x3 x4 h q hf
    replace hf : F_X12_lets_48_b n (F_X12_lets_48 n k) a0 x1 x2 x3 x4 h = some q := hf
    unfold F_X12_lets_48_b at hf
    obtain ⟨v51, e1, hf⟩ := jbind hf
    replace e1 := (jcv_o e1).2
    replace hf := jite hf
    rcases hf with ⟨-, hf⟩ | ⟨-, hf⟩
    · obtain ⟨v75, e2, hf⟩ := jbind hf
      replace e2 := (jcv_o e2).2
      replace hf := jite hf
      rcases hf with ⟨-, hf⟩ | ⟨-, hf⟩
      · cases hf
      · obtain ⟨v83, e3, hf⟩ := jbind hf
        replace e3 := (jcv_o e3).2
        replace hf := jite hf
        rcases hf with ⟨-, hf⟩ | ⟨-, hf⟩
        · cases hf
        · replace hf := jite hf
          rcases hf with ⟨-, hf⟩ | ⟨-, hf⟩
          · exact (BQ_X12_lets_103 hf)
          · exact (BQ_X12_lets_103 hf)
    · obtain ⟨v62, e4, hf⟩ := jbind hf
      replace e4 := (jcv_o e4).2
      exact (ih  hf)
theorem BQ_X12_lets_34 {n : Nat} {a0 : Nat} {x1 : Int32} {x2 : Int32} {sa0 : Nat} {s1 : Int32} {h : jH} {q : Int32 × jH} (hf : F_X12_lets_34 n a0 x1 x2 sa0 s1 h = some q) : jbq h q.2 := by
  unfold F_X12_lets_34 at hf
  obtain ⟨q35, e1, hf⟩ := jbind hf
  replace e1 := (jcv_o e1).2
  have f1 : jbq h q35.2 := (BQ_X12_throwsIf e1)
  replace hf := jite hf
  rcases hf with ⟨-, hf⟩ | ⟨-, hf⟩
  · exact (jbq_tr f1 (BQ_X12_lets_48 hf))
  · cases hf
    exact f1
theorem BQ_X12_lets {n : Nat} {a0 : Nat} {x1 : Int32} {x2 : Int32} {h : jH} {q : Int32 × jH} (hf : F_X12_lets n a0 x1 x2 h = some q) : jbq h q.2 := by
  unfold F_X12_lets at hf
  obtain ⟨h2, e1, hf⟩ := jbind hf
  have f1 : jbq h h2 := bm_pf e1
  obtain ⟨v8, e2, hf⟩ := jbind hf
  replace e2 := (jcv_o e2).2
  obtain ⟨q12, e3, hf⟩ := jbind hf
  replace e3 := (jcv_o e3).2
  have f3 : jbq h2 q12.2 := (BQ_X12_throwsIf e3)
  replace hf := jite hf
  rcases hf with ⟨-, hf⟩ | ⟨-, hf⟩
  · obtain ⟨v23, e4, hf⟩ := jbind hf
    replace hf := jite hf
    rcases hf with ⟨-, hf⟩ | ⟨-, hf⟩
    · exact (jbq_tr (jbq_tr f1 f3) (BQ_X12_lets_34 hf))
    · exact (jbq_tr (jbq_tr f1 f3) (BQ_X12_lets_34 hf))
  · cases hf
    exact (jbq_tr f1 f3)
theorem BQ_X12_rests_42 {n : Nat} {rc34 : Nat → Int32 → Int32 → Int32 → jH → Option (Int32 × jH)} (hrc34 : ∀ {z0 : Nat} {z1 : Int32} {z2 : Int32} {z3 : Int32} {h : jH} {q : Int32 × jH}, rc34 z0 z1 z2 z3 h = some q → jbq h q.2) {k : Nat} : ∀ {a0 : Nat} {x1 : Int32} {x2 : Int32} {x3 : Int32} {x4 : Int32} {h : jH} {q : Int32 × jH}, F_X12_rests_42 n rc34 k a0 x1 x2 x3 x4 h = some q → jbq h q.2 := by
  induction k with
  | zero =>
    intro a0 x1 x2 x3 x4 h q hf
    cases hf
  | succ k ih =>
    intro a0 x1 x2 x3 x4 h q hf
    replace hf : F_X12_rests_42_b n rc34 (F_X12_rests_42 n rc34 k) a0 x1 x2 x3 x4 h = some q := hf
    unfold F_X12_rests_42_b at hf
    replace hf := jite hf
    rcases hf with ⟨-, hf⟩ | ⟨-, hf⟩
    · exact (hrc34  hf)
    · obtain ⟨v54, e1, hf⟩ := jbind hf
      replace e1 := (jcv_o e1).2
      obtain ⟨v64, e2, hf⟩ := jbind hf
      replace e2 := (jcv_o e2).2
      replace hf := jite hf
      rcases hf with ⟨-, hf⟩ | ⟨-, hf⟩
      · exact (ih  hf)
      · obtain ⟨v75, e3, hf⟩ := jbind hf
        replace e3 := (jcv_o e3).2
        obtain ⟨v85, e4, hf⟩ := jbind hf
        replace e4 := (jcv_o e4).2
        replace hf := jite hf
        rcases hf with ⟨-, hf⟩ | ⟨-, hf⟩
        · exact (ih  hf)
        · exact (ih  hf)
theorem BQ_X12_rests_34 {n : Nat} {k : Nat} : ∀ {a0 : Nat} {x1 : Int32} {x2 : Int32} {x3 : Int32} {h : jH} {q : Int32 × jH}, F_X12_rests_34 n k a0 x1 x2 x3 h = some q → jbq h q.2 := by
  induction k with
  | zero =>
    intro a0 x1 x2 x3 h q hf
    cases hf
  | succ k ih =>
    intro a0 x1 x2 x3 h q hf
    replace hf : F_X12_rests_34_b n (F_X12_rests_34 n k) a0 x1 x2 x3 h = some q := hf
    unfold F_X12_rests_34_b at hf
    replace hf := jite hf
    rcases hf with ⟨-, hf⟩ | ⟨-, hf⟩
    · cases hf
      exact jbq_rfl
    · exact (BQ_X12_rests_42 ih hf)
theorem BQ_X12_rests {n : Nat} {a0 : Nat} {x1 : Int32} {h : jH} {q : Int32 × jH} (hf : F_X12_rests n a0 x1 h = some q) : jbq h q.2 := by
  unfold F_X12_rests at hf
  obtain ⟨h2, e1, hf⟩ := jbind hf
  have f1 : jbq h h2 := bm_pf e1
  obtain ⟨v8, e2, hf⟩ := jbind hf
  replace e2 := (jcv_o e2).2
  obtain ⟨q12, e3, hf⟩ := jbind hf
  replace e3 := (jcv_o e3).2
  have f3 : jbq h2 q12.2 := (BQ_X12_throwsIf e3)
  replace hf := jite hf
  rcases hf with ⟨-, hf⟩ | ⟨-, hf⟩
  · obtain ⟨v22, e4, hf⟩ := jbind hf
    replace e4 := (jcv_o e4).2
    replace hf := jite hf
    rcases hf with ⟨-, hf⟩ | ⟨-, hf⟩
    · cases hf
      exact (jbq_tr f1 f3)
    · exact (jbq_tr (jbq_tr f1 f3) (BQ_X12_rests_34 hf))
  · cases hf
    exact (jbq_tr f1 f3)
theorem BQ_X12_odds_65 {n : Nat} {k : Nat} : ∀ {x2 : Int32} {x3 : Int32} {x4 : Int32} {x5 : Int32} {h : jH} {q : Int32 × jH}, F_X12_odds_65 n k x2 x3 x4 x5 h = some q → jbq h q.2 := by
  induction k with
  | zero =>
    intro x2 x3 x4 x5 h q hf
    cases hf
  | succ k ih =>
    intro x2 x3 x4 x5 h q hf
    replace hf : F_X12_odds_65_b n (F_X12_odds_65 n k) x2 x3 x4 x5 h = some q := hf
    unfold F_X12_odds_65_b at hf
    replace hf := jite hf
    rcases hf with ⟨-, hf⟩ | ⟨-, hf⟩
    · cases hf
      exact jbq_rfl
    · exact (ih  hf)
theorem BQ_X12_odds_33 {n : Nat} {a0 : Nat} {x1 : Int32} {x2 : Int32} {sa0 : Nat} {s1 : Int32} {h : jH} {q : Int32 × jH} (hf : F_X12_odds_33 n a0 x1 x2 sa0 s1 h = some q) : jbq h q.2 := by
  unfold F_X12_odds_33 at hf
  obtain ⟨q34, e1, hf⟩ := jbind hf
  replace e1 := (jcv_o e1).2
  have f1 : jbq h q34.2 := (BQ_X12_throwsIf e1)
  replace hf := jite hf
  rcases hf with ⟨-, hf⟩ | ⟨-, hf⟩
  · obtain ⟨q49, e2, hf⟩ := jbind hf
    replace e2 := (jcv_o e2).2
    have f2 : jbq q34.2 q49.2 := (BQ_X12_byLaw e2)
    exact (jbq_tr (jbq_tr f1 f2) (BQ_X12_odds_65 hf))
  · cases hf
    exact f1
theorem BQ_X12_odds {n : Nat} {a0 : Nat} {x1 : Int32} {x2 : Int32} {h : jH} {q : Int32 × jH} (hf : F_X12_odds n a0 x1 x2 h = some q) : jbq h q.2 := by
  unfold F_X12_odds at hf
  obtain ⟨h2, e1, hf⟩ := jbind hf
  have f1 : jbq h h2 := bm_pf e1
  obtain ⟨v8, e2, hf⟩ := jbind hf
  replace e2 := (jcv_o e2).2
  obtain ⟨q12, e3, hf⟩ := jbind hf
  replace e3 := (jcv_o e3).2
  have f3 : jbq h2 q12.2 := (BQ_X12_throwsIf e3)
  replace hf := jite hf
  rcases hf with ⟨-, hf⟩ | ⟨-, hf⟩
  · obtain ⟨v22, e4, hf⟩ := jbind hf
    replace hf := jite hf
    rcases hf with ⟨-, hf⟩ | ⟨-, hf⟩
    · exact (jbq_tr (jbq_tr f1 f3) (BQ_X12_odds_33 hf))
    · exact (jbq_tr (jbq_tr f1 f3) (BQ_X12_odds_33 hf))
  · cases hf
    exact (jbq_tr f1 f3)
theorem BQ_X12_ahead {n : Nat} {a0 : Nat} {x1 : Int32} {x2 : Int32} {h : jH} {q : Int32 × jH} (hf : F_X12_ahead n a0 x1 x2 h = some q) : jbq h q.2 := by
  unfold F_X12_ahead at hf
  obtain ⟨h2, e1, hf⟩ := jbind hf
  have f1 : jbq h h2 := bm_pf e1
  obtain ⟨v8, e2, hf⟩ := jbind hf
  replace e2 := (jcv_o e2).2
  obtain ⟨q12, e3, hf⟩ := jbind hf
  replace e3 := (jcv_o e3).2
  have f3 : jbq h2 q12.2 := (BQ_X12_throwsIf e3)
  replace hf := jite hf
  rcases hf with ⟨-, hf⟩ | ⟨-, hf⟩
  · obtain ⟨v20, e4, hf⟩ := jbind hf
    obtain ⟨q24, e5, hf⟩ := jbind hf
    replace e5 := (jcv_o e5).2
    have f5 : jbq q12.2 q24.2 := (BQ_X12_throwsIf e5)
    replace hf := jite hf
    rcases hf with ⟨-, hf⟩ | ⟨-, hf⟩
    · obtain ⟨h33, e6, hf⟩ := jbind hf
      replace e6 := (jcv_o e6).2
      have f6 : jbq q24.2 h33 := (BQ_X12_keepsAll e6)
      obtain ⟨q39, e7, hf⟩ := jbind hf
      replace e7 := (jcv_o e7).2
      have f7 : jbq h33 q39.2 := (BQ_X12_goesOn e7)
      obtain ⟨v46, e8, hf⟩ := jbind hf
      replace e8 := (jcv_o e8).2
      obtain ⟨h51, e9, hf⟩ := jbind hf
      replace e9 := (jcv_o e9).2
      have f9 : jbq q39.2 h51 := (BQ_X12_bringsBack e9)
      cases hf
      exact (jbq_tr (jbq_tr (jbq_tr (jbq_tr (jbq_tr f1 f3) f5) f6) f7) f9)
    · cases hf
      exact (jbq_tr (jbq_tr f1 f3) f5)
  · cases hf
    exact (jbq_tr f1 f3)
theorem BQ_X12_trial_47 {n : Nat} {a0 : Nat} {s0 : Int32} {h : jH} {q : Int32 × jH} (hf : F_X12_trial_47 n a0 s0 h = some q) : jbq h q.2 := by
  unfold F_X12_trial_47 at hf
  obtain ⟨h49, e1, hf⟩ := jbind hf
  replace e1 := (jcv_o e1).2
  have f1 : jbq h h49 := (BQ_X12_bringsBack e1)
  cases hf
  exact f1
theorem BQ_X12_trial {n : Nat} {a0 : Nat} {x1 : Int32} {x2 : Int32} {h : jH} {q : Int32 × jH} (hf : F_X12_trial n a0 x1 x2 h = some q) : jbq h q.2 := by
  unfold F_X12_trial at hf
  obtain ⟨h2, e1, hf⟩ := jbind hf
  have f1 : jbq h h2 := bm_pf e1
  obtain ⟨v7, e2, hf⟩ := jbind hf
  obtain ⟨q11, e3, hf⟩ := jbind hf
  replace e3 := (jcv_o e3).2
  have f3 : jbq h2 q11.2 := (BQ_X12_throwsIf e3)
  replace hf := jite hf
  rcases hf with ⟨-, hf⟩ | ⟨-, hf⟩
  · obtain ⟨h20, e4, hf⟩ := jbind hf
    replace e4 := (jcv_o e4).2
    have f4 : jbq q11.2 h20 := (BQ_X12_keepsAll e4)
    obtain ⟨q26, e5, hf⟩ := jbind hf
    replace e5 := (jcv_o e5).2
    have f5 : jbq h20 q26.2 := (BQ_X12_goesOn e5)
    replace hf := jite hf
    rcases hf with ⟨-, hf⟩ | ⟨-, hf⟩
    · obtain ⟨v44, e6, hf⟩ := jbind hf
      replace e6 := (jcv_o e6).2
      exact (jbq_tr (jbq_tr (jbq_tr (jbq_tr f1 f3) f4) f5) (BQ_X12_trial_47 hf))
    · obtain ⟨v35, e7, hf⟩ := jbind hf
      replace e7 := (jcv_o e7).2
      exact (jbq_tr (jbq_tr (jbq_tr (jbq_tr f1 f3) f4) f5) (BQ_X12_trial_47 hf))
  · cases hf
    exact (jbq_tr f1 f3)
theorem BQ_X12_span_28 {n : Nat} {k : Nat} : ∀ {a0 : Nat} {x1 : Int32} {x2 : Int32} {x3 : Int32} {x4 : Int32} {h : jH} {q : Int32 × jH}, F_X12_span_28 n k a0 x1 x2 x3 x4 h = some q → jbq h q.2 := by
  induction k with
  | zero =>
    intro a0 x1 x2 x3 x4 h q hf
    cases hf
  | succ k ih =>
    intro a0 x1 x2 x3 x4 h q hf
    replace hf : F_X12_span_28_b n (F_X12_span_28 n k) a0 x1 x2 x3 x4 h = some q := hf
    unfold F_X12_span_28_b at hf
    replace hf := jite hf
    rcases hf with ⟨-, hf⟩ | ⟨-, hf⟩
    · cases hf
      exact jbq_rfl
    · obtain ⟨p36, e1, hf⟩ := jbind hf
      obtain ⟨h43, e2, hf⟩ := jbind hf
      have f2 : jbq h h43 := bm_as e2
      obtain ⟨q47, e3, hf⟩ := jbind hf
      replace e3 := (jcv_o e3).2
      have f3 : jbq h43 q47.2 := (BQ_X12_goesOn e3)
      obtain ⟨v54, e4, hf⟩ := jbind hf
      replace e4 := (jcv_o e4).2
      obtain ⟨v57, e5, hf⟩ := jbind hf
      obtain ⟨v61, e6, hf⟩ := jbind hf
      replace e6 := (jcv_o e6).2
      obtain ⟨v64, e7, hf⟩ := jbind hf
      obtain ⟨h71, e8, hf⟩ := jbind hf
      replace e8 := (jcv_o e8).2
      have f8 : jbq q47.2 h71 := (BQ_X12_bringsBack e8)
      replace hf := jite hf
      rcases hf with ⟨-, hf⟩ | ⟨-, hf⟩
      · replace hf := jite hf
        rcases hf with ⟨-, hf⟩ | ⟨-, hf⟩
        · exact (jbq_tr (jbq_tr (jbq_tr f2 f3) f8) (ih  hf))
        · exact (jbq_tr (jbq_tr (jbq_tr f2 f3) f8) (ih  hf))
      · exact (jbq_tr (jbq_tr (jbq_tr f2 f3) f8) (ih  hf))
theorem BQ_X12_span {n : Nat} {a0 : Nat} {x1 : Int32} {x2 : Int32} {h : jH} {q : Int32 × jH} (hf : F_X12_span n a0 x1 x2 h = some q) : jbq h q.2 := by
  unfold F_X12_span at hf
  obtain ⟨h2, e1, hf⟩ := jbind hf
  have f1 : jbq h h2 := bm_pf e1
  obtain ⟨v7, e2, hf⟩ := jbind hf
  obtain ⟨q11, e3, hf⟩ := jbind hf
  replace e3 := (jcv_o e3).2
  have f3 : jbq h2 q11.2 := (BQ_X12_throwsIf e3)
  replace hf := jite hf
  rcases hf with ⟨-, hf⟩ | ⟨-, hf⟩
  · obtain ⟨h20, e4, hf⟩ := jbind hf
    replace e4 := (jcv_o e4).2
    have f4 : jbq q11.2 h20 := (BQ_X12_keepsAll e4)
    exact (jbq_tr (jbq_tr (jbq_tr f1 f3) f4) (BQ_X12_span_28 hf))
  · cases hf
    exact (jbq_tr f1 f3)
theorem BQ_X12_led_36 {n : Nat} {k : Nat} : ∀ {a0 : Nat} {x1 : Int32} {x2 : Int32} {x3 : Int32} {x4 : Int32} {x5 : Int32} {h : jH} {q : Int32 × jH}, F_X12_led_36 n k a0 x1 x2 x3 x4 x5 h = some q → jbq h q.2 := by
  induction k with
  | zero =>
    intro a0 x1 x2 x3 x4 x5 h q hf
    cases hf
  | succ k ih =>
    intro a0 x1 x2 x3 x4 x5 h q hf
    replace hf : F_X12_led_36_b n (F_X12_led_36 n k) a0 x1 x2 x3 x4 x5 h = some q := hf
    unfold F_X12_led_36_b at hf
    replace hf := jite hf
    rcases hf with ⟨-, hf⟩ | ⟨-, hf⟩
    · replace hf := jite hf
      rcases hf with ⟨-, hf⟩ | ⟨-, hf⟩
      · cases hf
        exact jbq_rfl
      · cases hf
        exact jbq_rfl
    · obtain ⟨v45, e1, hf⟩ := jbind hf
      replace e1 := (jcv_o e1).2
      replace hf := jite hf
      rcases hf with ⟨-, hf⟩ | ⟨-, hf⟩
      · obtain ⟨v62, e2, hf⟩ := jbind hf
        replace e2 := (jcv_o e2).2
        exact (ih  hf)
      · exact (ih  hf)
theorem BQ_X12_led {n : Nat} {a0 : Nat} {x1 : Int32} {x2 : Int32} {h : jH} {q : Int32 × jH} (hf : F_X12_led n a0 x1 x2 h = some q) : jbq h q.2 := by
  unfold F_X12_led at hf
  obtain ⟨h2, e1, hf⟩ := jbind hf
  have f1 : jbq h h2 := bm_pf e1
  obtain ⟨v8, e2, hf⟩ := jbind hf
  replace e2 := (jcv_o e2).2
  obtain ⟨q12, e3, hf⟩ := jbind hf
  replace e3 := (jcv_o e3).2
  have f3 : jbq h2 q12.2 := (BQ_X12_throwsIf e3)
  replace hf := jite hf
  rcases hf with ⟨-, hf⟩ | ⟨-, hf⟩
  · obtain ⟨p26, e4, hf⟩ := jbind hf
    obtain ⟨v31, e5, hf⟩ := jbind hf
    exact (jbq_tr (jbq_tr f1 f3) (BQ_X12_led_36 hf))
  · cases hf
    exact (jbq_tr f1 f3)
theorem BQ_X12_log_20 {n : Nat} {a0 : Nat} {x1 : Int32} {x2 : Int32} {sa0 : Nat} {s1 : Int32} {h : jH} {q : Int32 × jH} (hf : F_X12_log_20 n a0 x1 x2 sa0 s1 h = some q) : jbq h q.2 := by
  unfold F_X12_log_20 at hf
  obtain ⟨q21, e1, hf⟩ := jbind hf
  replace e1 := (jcv_o e1).2
  have f1 : jbq h q21.2 := (BQ_X12_throwsIf e1)
  replace hf := jite hf
  rcases hf with ⟨-, hf⟩ | ⟨-, hf⟩
  · obtain ⟨p32, e2, hf⟩ := jbind hf
    obtain ⟨v37, e3, hf⟩ := jbind hf
    obtain ⟨v40, e4, hf⟩ := jbind hf
    replace hf := jite hf
    rcases hf with ⟨-, hf⟩ | ⟨-, hf⟩
    · cases hf
      exact f1
    · obtain ⟨v49, e5, hf⟩ := jbind hf
      replace e5 := (jcv_o e5).2
      cases hf
      exact f1
  · cases hf
    exact f1
theorem BQ_X12_log {n : Nat} {a0 : Nat} {x1 : Int32} {x2 : Int32} {h : jH} {q : Int32 × jH} (hf : F_X12_log n a0 x1 x2 h = some q) : jbq h q.2 := by
  unfold F_X12_log at hf
  obtain ⟨h2, e1, hf⟩ := jbind hf
  have f1 : jbq h h2 := bm_pf e1
  obtain ⟨v9, e2, hf⟩ := jbind hf
  replace hf := jite hf
  rcases hf with ⟨-, hf⟩ | ⟨-, hf⟩
  · exact (jbq_tr f1 (BQ_X12_log_20 hf))
  · exact (jbq_tr f1 (BQ_X12_log_20 hf))
theorem BQ_X12_best_113 {n : Nat} {rc14 : Nat → Int32 → Int32 → Int32 → jH → Option (Int32 × jH)} (hrc14 : ∀ {z0 : Nat} {z1 : Int32} {z2 : Int32} {z3 : Int32} {h : jH} {q : Int32 × jH}, rc14 z0 z1 z2 z3 h = some q → jbq h q.2) {a0 : Nat} {x1 : Int32} {x2 : Int32} {x3 : Int32} {h : jH} {q : Int32 × jH} (hf : F_X12_best_113 n rc14 a0 x1 x2 x3 h = some q) : jbq h q.2 := by
  unfold F_X12_best_113 at hf
  obtain ⟨h114, e1, hf⟩ := jbind hf
  replace e1 := (jcv_o e1).2
  have f1 : jbq h h114 := (BQ_X12_bringsBack e1)
  exact (jbq_tr f1 (hrc14  hf))
theorem BQ_X12_best_99 {n : Nat} {rc14 : Nat → Int32 → Int32 → Int32 → jH → Option (Int32 × jH)} (hrc14 : ∀ {z0 : Nat} {z1 : Int32} {z2 : Int32} {z3 : Int32} {h : jH} {q : Int32 × jH}, rc14 z0 z1 z2 z3 h = some q → jbq h q.2) {rc34 : Nat → Int32 → Int32 → Int32 → Int32 → Int32 → jH → Option (Int32 × jH)} (hrc34 : ∀ {z0 : Nat} {z1 : Int32} {z2 : Int32} {z3 : Int32} {z4 : Int32} {z5 : Int32} {h : jH} {q : Int32 × jH}, rc34 z0 z1 z2 z3 z4 z5 h = some q → jbq h q.2) {a0 : Nat} {x2 : Int32} {x3 : Int32} {x4 : Int32} {x5 : Int32} {x6 : Int32} {s0 : Int32} {h : jH} {q : Int32 × jH} (hf : F_X12_best_99 n rc14 rc34 a0 x2 x3 x4 x5 x6 s0 h = some q) : jbq h q.2 := by
  unfold F_X12_best_99 at hf
  exact (hrc34  hf)
theorem BQ_X12_best_62 {n : Nat} {rc14 : Nat → Int32 → Int32 → Int32 → jH → Option (Int32 × jH)} (hrc14 : ∀ {z0 : Nat} {z1 : Int32} {z2 : Int32} {z3 : Int32} {h : jH} {q : Int32 × jH}, rc14 z0 z1 z2 z3 h = some q → jbq h q.2) {rc34 : Nat → Int32 → Int32 → Int32 → Int32 → Int32 → jH → Option (Int32 × jH)} (hrc34 : ∀ {z0 : Nat} {z1 : Int32} {z2 : Int32} {z3 : Int32} {z4 : Int32} {z5 : Int32} {h : jH} {q : Int32 × jH}, rc34 z0 z1 z2 z3 z4 z5 h = some q → jbq h q.2) {a0 : Nat} {x1 : Int32} {x2 : Int32} {x3 : Int32} {x5 : Int32} {sa0 : Nat} {s1 : Int32} {s2 : Int32} {h : jH} {q : Int32 × jH} (hf : F_X12_best_62 n rc14 rc34 a0 x1 x2 x3 x5 sa0 s1 s2 h = some q) : jbq h q.2 := by
  unfold F_X12_best_62 at hf
  obtain ⟨q62, e1, hf⟩ := jbind hf
  replace e1 := (jcv_o e1).2
  have f1 : jbq h q62.2 := (BQ_X12_goesOne e1)
  replace hf := jite hf
  rcases hf with ⟨-, hf⟩ | ⟨-, hf⟩
  · replace hf := jite hf
    rcases hf with ⟨-, hf⟩ | ⟨-, hf⟩
    · exact (jbq_tr f1 (BQ_X12_best_99 hrc14 hrc34 hf))
    · exact (jbq_tr f1 (BQ_X12_best_99 hrc14 hrc34 hf))
  · obtain ⟨v73, e2, hf⟩ := jbind hf
    replace e2 := (jcv_o e2).2
    replace hf := jite hf
    rcases hf with ⟨-, hf⟩ | ⟨-, hf⟩
    · exact (jbq_tr f1 (BQ_X12_best_99 hrc14 hrc34 hf))
    · exact (jbq_tr f1 (BQ_X12_best_99 hrc14 hrc34 hf))
theorem BQ_X12_best_34 {n : Nat} {rc14 : Nat → Int32 → Int32 → Int32 → jH → Option (Int32 × jH)} (hrc14 : ∀ {z0 : Nat} {z1 : Int32} {z2 : Int32} {z3 : Int32} {h : jH} {q : Int32 × jH}, rc14 z0 z1 z2 z3 h = some q → jbq h q.2) {k : Nat} : ∀ {a0 : Nat} {x1 : Int32} {x2 : Int32} {x3 : Int32} {x4 : Int32} {x5 : Int32} {h : jH} {q : Int32 × jH}, F_X12_best_34 n rc14 k a0 x1 x2 x3 x4 x5 h = some q → jbq h q.2 := by
  induction k with
  | zero =>
    intro a0 x1 x2 x3 x4 x5 h q hf
    cases hf
  | succ k ih =>
    intro a0 x1 x2 x3 x4 x5 h q hf
    replace hf : F_X12_best_34_b n rc14 (F_X12_best_34 n rc14 k) a0 x1 x2 x3 x4 x5 h = some q := hf
    unfold F_X12_best_34_b at hf
    replace hf := jite hf
    rcases hf with ⟨-, hf⟩ | ⟨-, hf⟩
    · exact (BQ_X12_best_113 hrc14 hf)
    · replace hf := jite hf
      rcases hf with ⟨-, hf⟩ | ⟨-, hf⟩
      · exact (BQ_X12_best_113 hrc14 hf)
      · replace hf := jite hf
        rcases hf with ⟨-, hf⟩ | ⟨-, hf⟩
        · exact (BQ_X12_best_62 hrc14 ih hf)
        · exact (BQ_X12_best_62 hrc14 ih hf)
theorem BQ_X12_best_14 {n : Nat} {k : Nat} : ∀ {a0 : Nat} {x1 : Int32} {x2 : Int32} {x3 : Int32} {h : jH} {q : Int32 × jH}, F_X12_best_14 n k a0 x1 x2 x3 h = some q → jbq h q.2 := by
  induction k with
  | zero =>
    intro a0 x1 x2 x3 h q hf
    cases hf
  | succ k ih =>
    intro a0 x1 x2 x3 h q hf
    replace hf : F_X12_best_14_b n (F_X12_best_14 n k) a0 x1 x2 x3 h = some q := hf
    unfold F_X12_best_14_b at hf
    obtain ⟨v17, e1, hf⟩ := jbind hf
    replace e1 := (jcv_o e1).2
    replace hf := jite hf
    rcases hf with ⟨-, hf⟩ | ⟨-, hf⟩
    · cases hf
      exact jbq_rfl
    · obtain ⟨h28, e2, hf⟩ := jbind hf
      replace e2 := (jcv_o e2).2
      have f2 : jbq h h28 := (BQ_X12_keepsAll e2)
      exact (jbq_tr f2 (BQ_X12_best_34 ih hf))
theorem BQ_X12_best {n : Nat} {a0 : Nat} {h : jH} {q : Int32 × jH} (hf : F_X12_best n a0 h = some q) : jbq h q.2 := by
  unfold F_X12_best at hf
  obtain ⟨h2, e1, hf⟩ := jbind hf
  have f1 : jbq h h2 := bm_pf e1
  obtain ⟨v8, e2, hf⟩ := jbind hf
  replace e2 := (jcv_o e2).2
  exact (jbq_tr f1 (BQ_X12_best_14 hf))
theorem BQ_X12_stepsTo_72 {n : Nat} {a0 : Nat} {x4 : Int32} {h : jH} {q : Int32 × jH} (hf : F_X12_stepsTo_72 n a0 x4 h = some q) : jbq h q.2 := by
  unfold F_X12_stepsTo_72 at hf
  obtain ⟨h73, e1, hf⟩ := jbind hf
  replace e1 := (jcv_o e1).2
  have f1 : jbq h h73 := (BQ_X12_bringsBack e1)
  cases hf
  exact f1
theorem BQ_X12_stepsTo_15 {n : Nat} {k : Nat} : ∀ {a0 : Nat} {x1 : Int32} {x2 : Int32} {x3 : Int32} {x4 : Int32} {x5 : Int32} {x6 : Int32} {h : jH} {q : Int32 × jH}, F_X12_stepsTo_15 n k a0 x1 x2 x3 x4 x5 x6 h = some q → jbq h q.2 := by
  induction k with
  | zero =>
    intro a0 x1 x2 x3 x4 x5 x6 h q hf
    cases hf
  | succ k ih =>
    intro a0 x1 x2 x3 x4 x5 x6 h q hf
    replace hf : F_X12_stepsTo_15_b n (F_X12_stepsTo_15 n k) a0 x1 x2 x3 x4 x5 x6 h = some q := hf
    unfold F_X12_stepsTo_15_b at hf
    replace hf := jite hf
    rcases hf with ⟨-, hf⟩ | ⟨-, hf⟩
    · exact (BQ_X12_stepsTo_72 hf)
    · replace hf := jite hf
      rcases hf with ⟨-, hf⟩ | ⟨-, hf⟩
      · exact (BQ_X12_stepsTo_72 hf)
      · replace hf := jite hf
        rcases hf with ⟨-, hf⟩ | ⟨-, hf⟩
        · obtain ⟨q38, e1, hf⟩ := jbind hf
          replace e1 := (jcv_o e1).2
          have f1 : jbq h q38.2 := (BQ_X12_goesOne e1)
          replace hf := jite hf
          rcases hf with ⟨-, hf⟩ | ⟨-, hf⟩
          · exact (jbq_tr f1 (ih  hf))
          · obtain ⟨v50, e2, hf⟩ := jbind hf
            replace e2 := (jcv_o e2).2
            replace hf := jite hf
            rcases hf with ⟨-, hf⟩ | ⟨-, hf⟩
            · exact (jbq_tr f1 (ih  hf))
            · exact (jbq_tr f1 (ih  hf))
        · exact (BQ_X12_stepsTo_72 hf)
theorem BQ_X12_stepsTo {n : Nat} {a0 : Nat} {x1 : Int32} {x2 : Int32} {x3 : Int32} {h : jH} {q : Int32 × jH} (hf : F_X12_stepsTo n a0 x1 x2 x3 h = some q) : jbq h q.2 := by
  unfold F_X12_stepsTo at hf
  obtain ⟨h9, e1, hf⟩ := jbind hf
  replace e1 := (jcv_o e1).2
  have f1 : jbq h h9 := (BQ_X12_keepsAll e1)
  exact (jbq_tr f1 (BQ_X12_stepsTo_15 hf))
theorem BQ_X12_fewestTo_58 {n : Nat} {rc10 : Nat → Int32 → Int32 → Int32 → Int32 → Int32 → jH → Option (Int32 × jH)} (hrc10 : ∀ {z0 : Nat} {z1 : Int32} {z2 : Int32} {z3 : Int32} {z4 : Int32} {z5 : Int32} {h : jH} {q : Int32 × jH}, rc10 z0 z1 z2 z3 z4 z5 h = some q → jbq h q.2) {a0 : Nat} {x1 : Int32} {x2 : Int32} {x4 : Int32} {x5 : Int32} {x6 : Int32} {s0 : Int32} {h : jH} {q : Int32 × jH} (hf : F_X12_fewestTo_58 n rc10 a0 x1 x2 x4 x5 x6 s0 h = some q) : jbq h q.2 := by
  unfold F_X12_fewestTo_58 at hf
  exact (hrc10  hf)
theorem BQ_X12_fewestTo_40 {n : Nat} {rc10 : Nat → Int32 → Int32 → Int32 → Int32 → Int32 → jH → Option (Int32 × jH)} (hrc10 : ∀ {z0 : Nat} {z1 : Int32} {z2 : Int32} {z3 : Int32} {z4 : Int32} {z5 : Int32} {h : jH} {q : Int32 × jH}, rc10 z0 z1 z2 z3 z4 z5 h = some q → jbq h q.2) {a0 : Nat} {x1 : Int32} {x2 : Int32} {x3 : Int32} {x4 : Int32} {x5 : Int32} {sa0 : Nat} {s1 : Int32} {s2 : Int32} {s3 : Int32} {h : jH} {q : Int32 × jH} (hf : F_X12_fewestTo_40 n rc10 a0 x1 x2 x3 x4 x5 sa0 s1 s2 s3 h = some q) : jbq h q.2 := by
  unfold F_X12_fewestTo_40 at hf
  obtain ⟨q40, e1, hf⟩ := jbind hf
  replace e1 := (jcv_o e1).2
  have f1 : jbq h q40.2 := (BQ_X12_stepsTo e1)
  replace hf := jite hf
  rcases hf with ⟨-, hf⟩ | ⟨-, hf⟩
  · exact (jbq_tr f1 (BQ_X12_fewestTo_58 hrc10 hf))
  · exact (jbq_tr f1 (BQ_X12_fewestTo_58 hrc10 hf))
theorem BQ_X12_fewestTo_10 {n : Nat} {k : Nat} : ∀ {a0 : Nat} {x1 : Int32} {x2 : Int32} {x3 : Int32} {x4 : Int32} {x5 : Int32} {h : jH} {q : Int32 × jH}, F_X12_fewestTo_10 n k a0 x1 x2 x3 x4 x5 h = some q → jbq h q.2 := by
  induction k with
  | zero =>
    intro a0 x1 x2 x3 x4 x5 h q hf
    cases hf
  | succ k ih =>
    intro a0 x1 x2 x3 x4 x5 h q hf
    replace hf : F_X12_fewestTo_10_b n (F_X12_fewestTo_10 n k) a0 x1 x2 x3 x4 x5 h = some q := hf
    unfold F_X12_fewestTo_10_b at hf
    obtain ⟨v14, e1, hf⟩ := jbind hf
    replace e1 := (jcv_o e1).2
    replace hf := jite hf
    rcases hf with ⟨-, hf⟩ | ⟨-, hf⟩
    · replace hf := jite hf
      rcases hf with ⟨-, hf⟩ | ⟨-, hf⟩
      · replace hf := jite hf
        rcases hf with ⟨-, hf⟩ | ⟨-, hf⟩
        · cases hf
          exact jbq_rfl
        · cases hf
          exact jbq_rfl
      · cases hf
        exact jbq_rfl
    · replace hf := jite hf
      rcases hf with ⟨-, hf⟩ | ⟨-, hf⟩
      · exact (BQ_X12_fewestTo_40 ih hf)
      · exact (BQ_X12_fewestTo_40 ih hf)
theorem BQ_X12_fewestTo {n : Nat} {a0 : Nat} {x1 : Int32} {x2 : Int32} {h : jH} {q : Int32 × jH} (hf : F_X12_fewestTo n a0 x1 x2 h = some q) : jbq h q.2 := by
  unfold F_X12_fewestTo at hf
  exact (BQ_X12_fewestTo_10 hf)
theorem BQ_X12_fewest {n : Nat} {a0 : Nat} {x1 : Int32} {h : jH} {q : Int32 × jH} (hf : F_X12_fewest n a0 x1 h = some q) : jbq h q.2 := by
  unfold F_X12_fewest at hf
  obtain ⟨h2, e1, hf⟩ := jbind hf
  have f1 : jbq h h2 := bm_pf e1
  obtain ⟨v7, e2, hf⟩ := jbind hf
  replace e2 := (jcv_o e2).2
  replace hf := jite hf
  rcases hf with ⟨-, hf⟩ | ⟨-, hf⟩
  · obtain ⟨q20, e3, hf⟩ := jbind hf
    replace e3 := (jcv_o e3).2
    have f3 : jbq h2 q20.2 := (BQ_X12_fewestTo e3)
    cases hf
    exact (jbq_tr f1 f3)
  · cases hf
    exact f1
theorem BQ_X12_first {n : Nat} {a0 : Nat} {x1 : Int32} {h : jH} {q : Int32 × jH} (hf : F_X12_first n a0 x1 h = some q) : jbq h q.2 := by
  unfold F_X12_first at hf
  obtain ⟨h2, e1, hf⟩ := jbind hf
  have f1 : jbq h h2 := bm_pf e1
  obtain ⟨v7, e2, hf⟩ := jbind hf
  replace e2 := (jcv_o e2).2
  replace hf := jite hf
  rcases hf with ⟨-, hf⟩ | ⟨-, hf⟩
  · obtain ⟨q20, e3, hf⟩ := jbind hf
    replace e3 := (jcv_o e3).2
    have f3 : jbq h2 q20.2 := (BQ_X12_fewestTo e3)
    cases hf
    exact (jbq_tr f1 f3)
  · cases hf
    exact f1
theorem BQ_X12_pale_49 {n : Nat} {a0 : Nat} {x1 : Int32} {h : jH} {q : Int32 × jH} (hf : F_X12_pale_49 n a0 x1 h = some q) : jbq h q.2 := by
  unfold F_X12_pale_49 at hf
  obtain ⟨h50, e1, hf⟩ := jbind hf
  replace e1 := (jcv_o e1).2
  have f1 : jbq h h50 := (BQ_X12_bringsBack e1)
  cases hf
  exact f1
theorem BQ_X12_pale_36 {n : Nat} {rc13 : Nat → Int32 → Int32 → jH → Option (Int32 × jH)} (hrc13 : ∀ {z0 : Nat} {z1 : Int32} {z2 : Int32} {h : jH} {q : Int32 × jH}, rc13 z0 z1 z2 h = some q → jbq h q.2) {a0 : Nat} {x2 : Int32} {s0 : Int32} {h : jH} {q : Int32 × jH} (hf : F_X12_pale_36 n rc13 a0 x2 s0 h = some q) : jbq h q.2 := by
  unfold F_X12_pale_36 at hf
  obtain ⟨q39, e1, hf⟩ := jbind hf
  replace e1 := (jcv_o e1).2
  have f1 : jbq h q39.2 := (BQ_X12_oneHour e1)
  exact (jbq_tr f1 (hrc13  hf))
theorem BQ_X12_pale_13 {n : Nat} {k : Nat} : ∀ {a0 : Nat} {x1 : Int32} {x2 : Int32} {h : jH} {q : Int32 × jH}, F_X12_pale_13 n k a0 x1 x2 h = some q → jbq h q.2 := by
  induction k with
  | zero =>
    intro a0 x1 x2 h q hf
    cases hf
  | succ k ih =>
    intro a0 x1 x2 h q hf
    replace hf : F_X12_pale_13_b n (F_X12_pale_13 n k) a0 x1 x2 h = some q := hf
    unfold F_X12_pale_13_b at hf
    replace hf := jite hf
    rcases hf with ⟨-, hf⟩ | ⟨-, hf⟩
    · exact (BQ_X12_pale_49 hf)
    · replace hf := jite hf
      rcases hf with ⟨-, hf⟩ | ⟨-, hf⟩
      · obtain ⟨v25, e1, hf⟩ := jbind hf
        replace e1 := (jcv_o e1).2
        replace hf := jite hf
        rcases hf with ⟨-, hf⟩ | ⟨-, hf⟩
        · exact (BQ_X12_pale_36 ih hf)
        · exact (BQ_X12_pale_36 ih hf)
      · exact (BQ_X12_pale_49 hf)
theorem BQ_X12_pale {n : Nat} {a0 : Nat} {h : jH} {q : Int32 × jH} (hf : F_X12_pale n a0 h = some q) : jbq h q.2 := by
  unfold F_X12_pale at hf
  obtain ⟨h2, e1, hf⟩ := jbind hf
  have f1 : jbq h h2 := bm_pf e1
  obtain ⟨h8, e2, hf⟩ := jbind hf
  replace e2 := (jcv_o e2).2
  have f2 : jbq h2 h8 := (BQ_X12_keepsAll e2)
  exact (jbq_tr (jbq_tr f1 f2) (BQ_X12_pale_13 hf))
theorem BQ_X12_fault {n : Nat} {a0 : Nat} {h : jH} {q : Int32 × jH} (hf : F_X12_fault n a0 h = some q) : jbq h q.2 := by
  unfold F_X12_fault at hf
  obtain ⟨h2, e1, hf⟩ := jbind hf
  have f1 : jbq h h2 := bm_pf e1
  obtain ⟨v6, e2, hf⟩ := jbind hf
  cases hf
  exact f1
theorem BQ_X12_shade {n : Nat} {a0 : Nat} {h : jH} {q : Int32 × jH} (hf : F_X12_shade n a0 h = some q) : jbq h q.2 := by
  unfold F_X12_shade at hf
  obtain ⟨h2, e1, hf⟩ := jbind hf
  have f1 : jbq h h2 := bm_pf e1
  obtain ⟨v6, e2, hf⟩ := jbind hf
  replace e2 := (jcv_o e2).2
  cases hf
  exact f1
theorem BQ_X12_dark {n : Nat} {a0 : Nat} {h : jH} {q : Int32 × jH} (hf : F_X12_dark n a0 h = some q) : jbq h q.2 := by
  unfold F_X12_dark at hf
  obtain ⟨h2, e1, hf⟩ := jbind hf
  have f1 : jbq h h2 := bm_pf e1
  obtain ⟨v6, e2, hf⟩ := jbind hf
  replace e2 := (jcv_o e2).2
  cases hf
  exact f1
theorem BQ_X12_bare {n : Nat} {a0 : Nat} {h : jH} {q : Int32 × jH} (hf : F_X12_bare n a0 h = some q) : jbq h q.2 := by
  unfold F_X12_bare at hf
  obtain ⟨h2, e1, hf⟩ := jbind hf
  have f1 : jbq h h2 := bm_pf e1
  obtain ⟨p6, e2, hf⟩ := jbind hf
  obtain ⟨v11, e3, hf⟩ := jbind hf
  obtain ⟨v13, e4, hf⟩ := jbind hf
  replace e4 := (jcv_o e4).2
  cases hf
  exact f1
theorem BQ_X12_order_26 {n : Nat} {rc9 : Nat → Int32 → Int32 → jH → Option (Int32 × jH)} (hrc9 : ∀ {z0 : Nat} {z1 : Int32} {z2 : Int32} {h : jH} {q : Int32 × jH}, rc9 z0 z1 z2 h = some q → jbq h q.2) {k : Nat} : ∀ {a0 : Nat} {x1 : Int32} {x2 : Int32} {x3 : Int32} {h : jH} {q : Int32 × jH}, F_X12_order_26 n rc9 k a0 x1 x2 x3 h = some q → jbq h q.2 := by
  induction k with
  | zero =>
    intro a0 x1 x2 x3 h q hf
    cases hf
  | succ k ih =>
    intro a0 x1 x2 x3 h q hf
    replace hf : F_X12_order_26_b n rc9 (F_X12_order_26 n rc9 k) a0 x1 x2 x3 h = some q := hf
    unfold F_X12_order_26_b at hf
    replace hf := jite hf
    rcases hf with ⟨-, hf⟩ | ⟨-, hf⟩
    · obtain ⟨p86, e1, hf⟩ := jbind hf
      obtain ⟨v90, e2, hf⟩ := jbind hf
      exact (hrc9  hf)
    · obtain ⟨p32, e3, hf⟩ := jbind hf
      obtain ⟨v39, e4, hf⟩ := jbind hf
      replace e4 := (jcv_o e4).2
      obtain ⟨v45, e5, hf⟩ := jbind hf
      replace e5 := (jcv_o e5).2
      replace hf := jite hf
      rcases hf with ⟨-, hf⟩ | ⟨-, hf⟩
      · obtain ⟨p72, e6, hf⟩ := jbind hf
        obtain ⟨v76, e7, hf⟩ := jbind hf
        obtain ⟨h77, e8, hf⟩ := jbind hf
        have f8 : jbq h h77 := bm_as e8
        exact (jbq_tr f8 (ih  hf))
      · obtain ⟨p52, e9, hf⟩ := jbind hf
        obtain ⟨v56, e10, hf⟩ := jbind hf
        obtain ⟨p58, e11, hf⟩ := jbind hf
        obtain ⟨v62, e12, hf⟩ := jbind hf
        obtain ⟨h77, e13, hf⟩ := jbind hf
        have f13 : jbq h h77 := bm_as e13
        exact (jbq_tr f13 (ih  hf))
theorem BQ_X12_order_9 {n : Nat} {k : Nat} : ∀ {a0 : Nat} {x1 : Int32} {x2 : Int32} {h : jH} {q : Int32 × jH}, F_X12_order_9 n k a0 x1 x2 h = some q → jbq h q.2 := by
  induction k with
  | zero =>
    intro a0 x1 x2 h q hf
    cases hf
  | succ k ih =>
    intro a0 x1 x2 h q hf
    replace hf : F_X12_order_9_b n (F_X12_order_9 n k) a0 x1 x2 h = some q := hf
    unfold F_X12_order_9_b at hf
    obtain ⟨v11, e1, hf⟩ := jbind hf
    replace e1 := (jcv_o e1).2
    replace hf := jite hf
    rcases hf with ⟨-, hf⟩ | ⟨-, hf⟩
    · obtain ⟨v102, e2, hf⟩ := jbind hf
      replace e2 := (jcv_o e2).2
      cases hf
      exact jbq_rfl
    · obtain ⟨p18, e3, hf⟩ := jbind hf
      obtain ⟨h23, e4, hf⟩ := jbind hf
      have f4 : jbq h h23 := bm_as e4
      exact (jbq_tr f4 (BQ_X12_order_26 ih hf))
theorem BQ_X12_order {n : Nat} {a0 : Nat} {h : jH} {q : Int32 × jH} (hf : F_X12_order n a0 h = some q) : jbq h q.2 := by
  unfold F_X12_order at hf
  obtain ⟨h2, e1, hf⟩ := jbind hf
  have f1 : jbq h h2 := bm_pf e1
  exact (jbq_tr f1 (BQ_X12_order_9 hf))
theorem BQ_X12_slack_9 {n : Nat} {k : Nat} : ∀ {a0 : Nat} {x1 : Int32} {x2 : Int32} {h : jH} {q : Int32 × jH}, F_X12_slack_9 n k a0 x1 x2 h = some q → jbq h q.2 := by
  induction k with
  | zero =>
    intro a0 x1 x2 h q hf
    cases hf
  | succ k ih =>
    intro a0 x1 x2 h q hf
    replace hf : F_X12_slack_9_b n (F_X12_slack_9 n k) a0 x1 x2 h = some q := hf
    unfold F_X12_slack_9_b at hf
    obtain ⟨v11, e1, hf⟩ := jbind hf
    replace e1 := (jcv_o e1).2
    replace hf := jite hf
    rcases hf with ⟨-, hf⟩ | ⟨-, hf⟩
    · cases hf
      exact jbq_rfl
    · obtain ⟨v21, e2, hf⟩ := jbind hf
      replace e2 := (jcv_o e2).2
      obtain ⟨v26, e3, hf⟩ := jbind hf
      replace e3 := (jcv_o e3).2
      exact (ih  hf)
theorem BQ_X12_slack {n : Nat} {a0 : Nat} {h : jH} {q : Int32 × jH} (hf : F_X12_slack n a0 h = some q) : jbq h q.2 := by
  unfold F_X12_slack at hf
  obtain ⟨h2, e1, hf⟩ := jbind hf
  have f1 : jbq h h2 := bm_pf e1
  exact (jbq_tr f1 (BQ_X12_slack_9 hf))
theorem BQ_X12_taut_9 {n : Nat} {k : Nat} : ∀ {a0 : Nat} {x1 : Int32} {x2 : Int32} {h : jH} {q : Int32 × jH}, F_X12_taut_9 n k a0 x1 x2 h = some q → jbq h q.2 := by
  induction k with
  | zero =>
    intro a0 x1 x2 h q hf
    cases hf
  | succ k ih =>
    intro a0 x1 x2 h q hf
    replace hf : F_X12_taut_9_b n (F_X12_taut_9 n k) a0 x1 x2 h = some q := hf
    unfold F_X12_taut_9_b at hf
    obtain ⟨v11, e1, hf⟩ := jbind hf
    replace e1 := (jcv_o e1).2
    replace hf := jite hf
    rcases hf with ⟨-, hf⟩ | ⟨-, hf⟩
    · cases hf
      exact jbq_rfl
    · obtain ⟨v20, e2, hf⟩ := jbind hf
      replace e2 := (jcv_o e2).2
      obtain ⟨v26, e3, hf⟩ := jbind hf
      replace e3 := (jcv_o e3).2
      replace hf := jite hf
      rcases hf with ⟨-, hf⟩ | ⟨-, hf⟩
      · exact (ih  hf)
      · exact (ih  hf)
theorem BQ_X12_taut {n : Nat} {a0 : Nat} {h : jH} {q : Int32 × jH} (hf : F_X12_taut n a0 h = some q) : jbq h q.2 := by
  unfold F_X12_taut at hf
  obtain ⟨h2, e1, hf⟩ := jbind hf
  have f1 : jbq h h2 := bm_pf e1
  exact (jbq_tr f1 (BQ_X12_taut_9 hf))
theorem BQ_X12_sunny_69 {n : Nat} {rc11 : Nat → Int32 → Int32 → Int32 → jH → Option (Int32 × jH)} (hrc11 : ∀ {z0 : Nat} {z1 : Int32} {z2 : Int32} {z3 : Int32} {h : jH} {q : Int32 × jH}, rc11 z0 z1 z2 z3 h = some q → jbq h q.2) {a0 : Nat} {x2 : Int32} {x3 : Int32} {x4 : Int32} {s0 : Int32} {h : jH} {q : Int32 × jH} (hf : F_X12_sunny_69 n rc11 a0 x2 x3 x4 s0 h = some q) : jbq h q.2 := by
  unfold F_X12_sunny_69 at hf
  exact (hrc11  hf)
theorem BQ_X12_sunny_25 {n : Nat} {rc11 : Nat → Int32 → Int32 → Int32 → jH → Option (Int32 × jH)} (hrc11 : ∀ {z0 : Nat} {z1 : Int32} {z2 : Int32} {z3 : Int32} {h : jH} {q : Int32 × jH}, rc11 z0 z1 z2 z3 h = some q → jbq h q.2) {k : Nat} : ∀ {a0 : Nat} {x1 : Int32} {x2 : Int32} {x3 : Int32} {x4 : Int32} {x5 : Int32} {h : jH} {q : Int32 × jH}, F_X12_sunny_25 n rc11 k a0 x1 x2 x3 x4 x5 h = some q → jbq h q.2 := by
  induction k with
  | zero =>
    intro a0 x1 x2 x3 x4 x5 h q hf
    cases hf
  | succ k ih =>
    intro a0 x1 x2 x3 x4 x5 h q hf
    replace hf : F_X12_sunny_25_b n rc11 (F_X12_sunny_25 n rc11 k) a0 x1 x2 x3 x4 x5 h = some q := hf
    unfold F_X12_sunny_25_b at hf
    replace hf := jite hf
    rcases hf with ⟨-, hf⟩ | ⟨-, hf⟩
    · replace hf := jite hf
      rcases hf with ⟨-, hf⟩ | ⟨-, hf⟩
      · exact (BQ_X12_sunny_69 hrc11 hf)
      · exact (BQ_X12_sunny_69 hrc11 hf)
    · obtain ⟨v38, e1, hf⟩ := jbind hf
      replace e1 := (jcv_o e1).2
      replace hf := jite hf
      rcases hf with ⟨-, hf⟩ | ⟨-, hf⟩
      · exact (ih  hf)
      · exact (ih  hf)
theorem BQ_X12_sunny_11 {n : Nat} {k : Nat} : ∀ {a0 : Nat} {x1 : Int32} {x2 : Int32} {x3 : Int32} {h : jH} {q : Int32 × jH}, F_X12_sunny_11 n k a0 x1 x2 x3 h = some q → jbq h q.2 := by
  induction k with
  | zero =>
    intro a0 x1 x2 x3 h q hf
    cases hf
  | succ k ih =>
    intro a0 x1 x2 x3 h q hf
    replace hf : F_X12_sunny_11_b n (F_X12_sunny_11 n k) a0 x1 x2 x3 h = some q := hf
    unfold F_X12_sunny_11_b at hf
    obtain ⟨v13, e1, hf⟩ := jbind hf
    replace e1 := (jcv_o e1).2
    replace hf := jite hf
    rcases hf with ⟨-, hf⟩ | ⟨-, hf⟩
    · cases hf
      exact jbq_rfl
    · exact (BQ_X12_sunny_25 ih hf)
theorem BQ_X12_sunny {n : Nat} {a0 : Nat} {h : jH} {q : Int32 × jH} (hf : F_X12_sunny n a0 h = some q) : jbq h q.2 := by
  unfold F_X12_sunny at hf
  obtain ⟨h2, e1, hf⟩ := jbind hf
  have f1 : jbq h h2 := bm_pf e1
  exact (jbq_tr f1 (BQ_X12_sunny_11 hf))
theorem BQ_X12_envy_9 {n : Nat} {k : Nat} : ∀ {a0 : Nat} {x1 : Int32} {x2 : Int32} {h : jH} {q : Int32 × jH}, F_X12_envy_9 n k a0 x1 x2 h = some q → jbq h q.2 := by
  induction k with
  | zero =>
    intro a0 x1 x2 h q hf
    cases hf
  | succ k ih =>
    intro a0 x1 x2 h q hf
    replace hf : F_X12_envy_9_b n (F_X12_envy_9 n k) a0 x1 x2 h = some q := hf
    unfold F_X12_envy_9_b at hf
    obtain ⟨v11, e1, hf⟩ := jbind hf
    replace e1 := (jcv_o e1).2
    replace hf := jite hf
    rcases hf with ⟨-, hf⟩ | ⟨-, hf⟩
    · cases hf
      exact jbq_rfl
    · obtain ⟨v21, e2, hf⟩ := jbind hf
      replace e2 := (jcv_o e2).2
      obtain ⟨v29, e3, hf⟩ := jbind hf
      replace e3 := (jcv_o e3).2
      replace hf := jite hf
      rcases hf with ⟨-, hf⟩ | ⟨-, hf⟩
      · exact (ih  hf)
      · exact (ih  hf)
theorem BQ_X12_envy {n : Nat} {a0 : Nat} {h : jH} {q : Int32 × jH} (hf : F_X12_envy n a0 h = some q) : jbq h q.2 := by
  unfold F_X12_envy at hf
  obtain ⟨h2, e1, hf⟩ := jbind hf
  have f1 : jbq h h2 := bm_pf e1
  exact (jbq_tr f1 (BQ_X12_envy_9 hf))
theorem BQ_X12_bunch_41 {n : Nat} {rc11 : Nat → Int32 → Int32 → Int32 → jH → Option (Int32 × jH)} (hrc11 : ∀ {z0 : Nat} {z1 : Int32} {z2 : Int32} {z3 : Int32} {h : jH} {q : Int32 × jH}, rc11 z0 z1 z2 z3 h = some q → jbq h q.2) {a0 : Nat} {x1 : Int32} {x3 : Int32} {s0 : Int32} {h : jH} {q : Int32 × jH} (hf : F_X12_bunch_41 n rc11 a0 x1 x3 s0 h = some q) : jbq h q.2 := by
  unfold F_X12_bunch_41 at hf
  exact (hrc11  hf)
theorem BQ_X12_bunch_11 {n : Nat} {k : Nat} : ∀ {a0 : Nat} {x1 : Int32} {x2 : Int32} {x3 : Int32} {h : jH} {q : Int32 × jH}, F_X12_bunch_11 n k a0 x1 x2 x3 h = some q → jbq h q.2 := by
  induction k with
  | zero =>
    intro a0 x1 x2 x3 h q hf
    cases hf
  | succ k ih =>
    intro a0 x1 x2 x3 h q hf
    replace hf : F_X12_bunch_11_b n (F_X12_bunch_11 n k) a0 x1 x2 x3 h = some q := hf
    unfold F_X12_bunch_11_b at hf
    obtain ⟨v13, e1, hf⟩ := jbind hf
    replace e1 := (jcv_o e1).2
    replace hf := jite hf
    rcases hf with ⟨-, hf⟩ | ⟨-, hf⟩
    · cases hf
      exact jbq_rfl
    · replace hf := jite hf
      rcases hf with ⟨-, hf⟩ | ⟨-, hf⟩
      · exact (BQ_X12_bunch_41 ih hf)
      · obtain ⟨v27, e2, hf⟩ := jbind hf
        replace e2 := (jcv_o e2).2
        replace hf := jite hf
        rcases hf with ⟨-, hf⟩ | ⟨-, hf⟩
        · exact (BQ_X12_bunch_41 ih hf)
        · exact (BQ_X12_bunch_41 ih hf)
theorem BQ_X12_bunch {n : Nat} {a0 : Nat} {h : jH} {q : Int32 × jH} (hf : F_X12_bunch n a0 h = some q) : jbq h q.2 := by
  unfold F_X12_bunch at hf
  obtain ⟨h2, e1, hf⟩ := jbind hf
  have f1 : jbq h h2 := bm_pf e1
  exact (jbq_tr f1 (BQ_X12_bunch_11 hf))
theorem BQ_X12_wooden {n : Nat} {a0 : Nat} {h : jH} {q : Int32 × jH} (hf : F_X12_wooden n a0 h = some q) : jbq h q.2 := by
  unfold F_X12_wooden at hf
  obtain ⟨h2, e1, hf⟩ := jbind hf
  have f1 : jbq h h2 := bm_pf e1
  obtain ⟨v7, e2, hf⟩ := jbind hf
  replace e2 := (jcv_o e2).2
  cases hf
  exact f1
theorem BQ_X12_caught {n : Nat} {a0 : Nat} {h : jH} {q : Int32 × jH} (hf : F_X12_caught n a0 h = some q) : jbq h q.2 := by
  unfold F_X12_caught at hf
  obtain ⟨h2, e1, hf⟩ := jbind hf
  have f1 : jbq h h2 := bm_pf e1
  obtain ⟨v8, e2, hf⟩ := jbind hf
  replace e2 := (jcv_o e2).2
  cases hf
  exact f1
theorem BQ_X12_loose {n : Nat} {a0 : Nat} {h : jH} {q : Int32 × jH} (hf : F_X12_loose n a0 h = some q) : jbq h q.2 := by
  unfold F_X12_loose at hf
  obtain ⟨h2, e1, hf⟩ := jbind hf
  have f1 : jbq h h2 := bm_pf e1
  obtain ⟨v6, e2, hf⟩ := jbind hf
  replace e2 := (jcv_o e2).2
  cases hf
  exact f1
theorem BQ_X12_beyond_9 {n : Nat} {k : Nat} : ∀ {a0 : Nat} {x1 : Int32} {x2 : Int32} {h : jH} {q : Int32 × jH}, F_X12_beyond_9 n k a0 x1 x2 h = some q → jbq h q.2 := by
  induction k with
  | zero =>
    intro a0 x1 x2 h q hf
    cases hf
  | succ k ih =>
    intro a0 x1 x2 h q hf
    replace hf : F_X12_beyond_9_b n (F_X12_beyond_9 n k) a0 x1 x2 h = some q := hf
    unfold F_X12_beyond_9_b at hf
    obtain ⟨v11, e1, hf⟩ := jbind hf
    replace e1 := (jcv_o e1).2
    replace hf := jite hf
    rcases hf with ⟨-, hf⟩ | ⟨-, hf⟩
    · cases hf
      exact jbq_rfl
    · obtain ⟨v21, e2, hf⟩ := jbind hf
      replace e2 := (jcv_o e2).2
      replace hf := jite hf
      rcases hf with ⟨-, hf⟩ | ⟨-, hf⟩
      · exact (ih  hf)
      · obtain ⟨v30, e3, hf⟩ := jbind hf
        replace e3 := (jcv_o e3).2
        obtain ⟨p34, e4, hf⟩ := jbind hf
        obtain ⟨v38, e5, hf⟩ := jbind hf
        replace hf := jite hf
        rcases hf with ⟨-, hf⟩ | ⟨-, hf⟩
        · exact (ih  hf)
        · exact (ih  hf)
theorem BQ_X12_beyond {n : Nat} {a0 : Nat} {h : jH} {q : Int32 × jH} (hf : F_X12_beyond n a0 h = some q) : jbq h q.2 := by
  unfold F_X12_beyond at hf
  obtain ⟨h2, e1, hf⟩ := jbind hf
  have f1 : jbq h h2 := bm_pf e1
  exact (jbq_tr f1 (BQ_X12_beyond_9 hf))
theorem BQ_X12_twins_19 {n : Nat} {rc9 : Nat → Int32 → Int32 → jH → Option (Int32 × jH)} (hrc9 : ∀ {z0 : Nat} {z1 : Int32} {z2 : Int32} {h : jH} {q : Int32 × jH}, rc9 z0 z1 z2 h = some q → jbq h q.2) {k : Nat} : ∀ {a0 : Nat} {x1 : Int32} {x2 : Int32} {x3 : Int32} {h : jH} {q : Int32 × jH}, F_X12_twins_19 n rc9 k a0 x1 x2 x3 h = some q → jbq h q.2 := by
  induction k with
  | zero =>
    intro a0 x1 x2 x3 h q hf
    cases hf
  | succ k ih =>
    intro a0 x1 x2 x3 h q hf
    replace hf : F_X12_twins_19_b n rc9 (F_X12_twins_19 n rc9 k) a0 x1 x2 x3 h = some q := hf
    unfold F_X12_twins_19_b at hf
    replace hf := jite hf
    rcases hf with ⟨-, hf⟩ | ⟨-, hf⟩
    · exact (hrc9  hf)
    · obtain ⟨v28, e1, hf⟩ := jbind hf
      replace e1 := (jcv_o e1).2
      replace hf := jite hf
      rcases hf with ⟨-, hf⟩ | ⟨-, hf⟩
      · exact (ih  hf)
      · exact (ih  hf)
theorem BQ_X12_twins_9 {n : Nat} {k : Nat} : ∀ {a0 : Nat} {x1 : Int32} {x2 : Int32} {h : jH} {q : Int32 × jH}, F_X12_twins_9 n k a0 x1 x2 h = some q → jbq h q.2 := by
  induction k with
  | zero =>
    intro a0 x1 x2 h q hf
    cases hf
  | succ k ih =>
    intro a0 x1 x2 h q hf
    replace hf : F_X12_twins_9_b n (F_X12_twins_9 n k) a0 x1 x2 h = some q := hf
    unfold F_X12_twins_9_b at hf
    obtain ⟨v11, e1, hf⟩ := jbind hf
    replace e1 := (jcv_o e1).2
    replace hf := jite hf
    rcases hf with ⟨-, hf⟩ | ⟨-, hf⟩
    · cases hf
      exact jbq_rfl
    · exact (BQ_X12_twins_19 ih hf)
theorem BQ_X12_twins {n : Nat} {a0 : Nat} {h : jH} {q : Int32 × jH} (hf : F_X12_twins n a0 h = some q) : jbq h q.2 := by
  unfold F_X12_twins at hf
  obtain ⟨h2, e1, hf⟩ := jbind hf
  have f1 : jbq h h2 := bm_pf e1
  exact (jbq_tr f1 (BQ_X12_twins_9 hf))
theorem BQ_X12_count {n : Nat} {a0 : Nat} {x1 : Int32} {h : jH} {q : Int32 × jH} (hf : F_X12_count n a0 x1 h = some q) : jbq h q.2 := by
  unfold F_X12_count at hf
  obtain ⟨h2, e1, hf⟩ := jbind hf
  have f1 : jbq h h2 := bm_pf e1
  replace hf := jite hf
  rcases hf with ⟨-, hf⟩ | ⟨-, hf⟩
  · obtain ⟨p41, e2, hf⟩ := jbind hf
    obtain ⟨v45, e3, hf⟩ := jbind hf
    replace hf := jite hf
    rcases hf with ⟨-, hf⟩ | ⟨-, hf⟩
    · obtain ⟨p51, e4, hf⟩ := jbind hf
      obtain ⟨v57, e5, hf⟩ := jbind hf
      cases hf
      exact f1
    · cases hf
      exact f1
  · replace hf := jite hf
    rcases hf with ⟨-, hf⟩ | ⟨-, hf⟩
    · obtain ⟨p64, e6, hf⟩ := jbind hf
      obtain ⟨v69, e7, hf⟩ := jbind hf
      cases hf
      exact f1
    · replace hf := jite hf
      rcases hf with ⟨-, hf⟩ | ⟨-, hf⟩
      · obtain ⟨v72, e8, hf⟩ := jbind hf
        cases hf
        exact f1
      · obtain ⟨v80, e9, hf⟩ := jbind hf
        replace hf := jite hf
        rcases hf with ⟨-, hf⟩ | ⟨-, hf⟩
        · cases hf
          exact f1
        · obtain ⟨p87, e10, hf⟩ := jbind hf
          obtain ⟨v91, e11, hf⟩ := jbind hf
          cases hf
          exact f1
/-- typed heaps of the same ghosts behind a question: the world from 435 on is the same -/
theorem wl_hi {g : jGh} {Γ : Nat → Option Nat} {h h2 : jH} {a : Nat} (w : jW (jKd g) Γ h) (w2 : jW (jKd g) Γ h2) (ha : Γ a = some 21) (B : jbq h h2) {k : Nat} (hk : 435 ≤ k) : oi (oc h2) a k = oi (oc h) a k := by
  obtain ⟨f, e1, p1⟩ := t_arr (t := 0) (N := 2133) (R := fun k x => jRw g k x) w ha rfl
  obtain ⟨f2, e2, p2⟩ := t_arr (t := 0) (N := 2133) (R := fun k x => jRw g k x) w2 ha rfl
  obtain ⟨f3, e3, p3⟩ := B a 0 2133 f e1
  rw [e2] at e3
  cases e3
  have q : f2 k = f k := by
    by_cases y : k < 2133
    · have y1 := (p1 k y).2
      have y2 := (p2 k y).2
      rcases y1 with y1 | y1
      · omega
      rcases y2 with y2 | y2
      · omega
      exact y2.trans y1.symm
    · exact p3 k (by omega)
  unfold oi oc
  rw [e1, e2]
  show (match Value.int (f2 k) with | .int x => x | _ => 0) = (match Value.int (f k) with | .int x => x | _ => 0)
  rw [q]
end
section
/-! every question keeps the relation -/
theorem cls_of {x nx r L : Nat} {W : jWd} {h : jH} (E : eqS x nx r L W h) : clsS (oc h) x ∧ mS (oc h) (x + 40) := ⟨⟨E.1.1, E.1.2.1, E.1.2.2.2.1, E.1.2.2.2.2.1, E.2.2.1.2.2.2.1.1.2.2.2.2, E.2.2.2.2.2.2.2.1⟩, E.1.2.2.2.2.2.2.2⟩
theorem cls_m {x nx r L : Nat} {W : jWd} {h h2 : jH} (E : eqS x nx r L W h) (C : frK x h h2) : mS (oc h2) (x + 40) := by
  obtain ⟨s1, s2, s3, s4, s5, s8, s15, s17, s19, s20, s21⟩ := (cls_of E).2
  have k : ∀ k : Nat, oc h2 (x + 40) k = oc h (x + 40) k := fun k => C.1 _ _ (by unfold qcc; omega)
  exact ⟨(k _).trans s1, (k _).trans s2, (k _).trans s3, (k _).trans s4, (k _).trans s5, (k _).trans s8, (k _).trans s15, (k _).trans s17, (k _).trans s19, (k _).trans s20, (k _).trans s21⟩
theorem eq_Q {x nx r L : Nat} {W : jWd} {h h2 h3 : jH} {cs fs : List Nat} (E : eqS x nx r L W h) (C : frK x h h2) (F : frM (x + 40) cs fs (oc h2) (oc h3)) (hc : ∀ c ∈ cs, c = 1 ∨ c = 4 ∨ (8 ≤ c ∧ c ≤ 11)) (hf : ∀ k ∈ fs, k = 0 ∨ k = 18) (hz : h3.1 = h2.1) (hw : ∀ k : Nat, oi (oc h3) (x + 41) k = oi (oc h2) (x + 41) k) : eqS x nx r L W h3 := by
  refine eq_qr0 E (fun a k z => ?_) (by rw [hz, C.2]; omega) ?_
  · have z1 : ¬ qcc x a k := by unfold qcc; unfold qrc at z; omega
    exact (F a k (fun c hc2 e => by have := hc c hc2; unfold qrc at z; omega) (fun e hk => by have := hf k hk; unfold qrc at z; omega)).trans (C.1 a k z1)
  · rw [← E.2.2.1.2.1]
    funext k
    refine (hw k).trans ?_
    show oi _ _ _ = oi _ _ _
    unfold oi
    rw [C.1 _ _ (by unfold qcc; omega)]
theorem fq_w {m : Nat} {cs fs : List Nat} {O O2 : jO} (F : frM m cs fs O O2) (h : 1 ∉ cs) (k : Nat) : oi O2 (m + 1) k = oi O (m + 1) k := by
  unfold oi
  rw [F (m + 1) k (fun c hc e => h ((show c = 1 by omega) ▸ hc)) (fun e => by omega)]
theorem wr_w {g : jGh} {Γ : Nat → Option Nat} {h h2 : jH} {m : Nat} (w : jW (jKd g) Γ h) (w2 : jW (jKd g) Γ h2) (ha : Γ (m + 1) = some 21) (B : jbq h h2) {t : Bool} (K : wK true t m (wl (oc h) m) (oc h2)) (k : Nat) : oi (oc h2) (m + 1) k = oi (oc h) (m + 1) k := by
  by_cases y : k < 435
  · exact K.1 rfl k y
  · exact wl_hi w w2 ha B (by omega)
theorem eqq_fault {x nx r L n : Nat} {W : jWd} {h : jH} {q : Int32 × jH} (E : eqS x nx r L W h) (e2 : F_X12_fault n (x + 40) h = some q) : eqS x nx r L W q.2 := eq_Q E frK_rfl (FQ_X12_fault (cls_of E).2 e2) (by decide) (by decide) (FZ_X12_fault e2) (fq_w (FQ_X12_fault (cls_of E).2 e2) (by decide))
theorem eqq_shade {x nx r L n : Nat} {W : jWd} {h : jH} {q : Int32 × jH} (E : eqS x nx r L W h) (e2 : F_X12_shade n (x + 40) h = some q) : eqS x nx r L W q.2 := eq_Q E frK_rfl (FQ_X12_shade (cls_of E).2 e2) (by decide) (by decide) (FZ_X12_shade e2) (fq_w (FQ_X12_shade (cls_of E).2 e2) (by decide))
theorem eqq_dark {x nx r L n : Nat} {W : jWd} {h : jH} {q : Int32 × jH} (E : eqS x nx r L W h) (e2 : F_X12_dark n (x + 40) h = some q) : eqS x nx r L W q.2 := eq_Q E frK_rfl (FQ_X12_dark (cls_of E).2 e2) (by decide) (by decide) (FZ_X12_dark e2) (fq_w (FQ_X12_dark (cls_of E).2 e2) (by decide))
theorem eqq_bare {x nx r L n : Nat} {W : jWd} {h : jH} {q : Int32 × jH} (E : eqS x nx r L W h) (e2 : F_X12_bare n (x + 40) h = some q) : eqS x nx r L W q.2 := eq_Q E frK_rfl (FQ_X12_bare (cls_of E).2 e2) (by decide) (by decide) (FZ_X12_bare e2) (fq_w (FQ_X12_bare (cls_of E).2 e2) (by decide))
theorem eqq_order {x nx r L n : Nat} {W : jWd} {h : jH} {q : Int32 × jH} (E : eqS x nx r L W h) (e2 : F_X12_order n (x + 40) h = some q) : eqS x nx r L W q.2 := eq_Q E frK_rfl (FQ_X12_order (cls_of E).2 e2) (by decide) (by decide) (FZ_X12_order e2) (fq_w (FQ_X12_order (cls_of E).2 e2) (by decide))
theorem eqq_slack {x nx r L n : Nat} {W : jWd} {h : jH} {q : Int32 × jH} (E : eqS x nx r L W h) (e2 : F_X12_slack n (x + 40) h = some q) : eqS x nx r L W q.2 := eq_Q E frK_rfl (FQ_X12_slack (cls_of E).2 e2) (by decide) (by decide) (FZ_X12_slack e2) (fq_w (FQ_X12_slack (cls_of E).2 e2) (by decide))
theorem eqq_taut {x nx r L n : Nat} {W : jWd} {h : jH} {q : Int32 × jH} (E : eqS x nx r L W h) (e2 : F_X12_taut n (x + 40) h = some q) : eqS x nx r L W q.2 := eq_Q E frK_rfl (FQ_X12_taut (cls_of E).2 e2) (by decide) (by decide) (FZ_X12_taut e2) (fq_w (FQ_X12_taut (cls_of E).2 e2) (by decide))
theorem eqq_sunny {x nx r L n : Nat} {W : jWd} {h : jH} {q : Int32 × jH} (E : eqS x nx r L W h) (e2 : F_X12_sunny n (x + 40) h = some q) : eqS x nx r L W q.2 := eq_Q E frK_rfl (FQ_X12_sunny (cls_of E).2 e2) (by decide) (by decide) (FZ_X12_sunny e2) (fq_w (FQ_X12_sunny (cls_of E).2 e2) (by decide))
theorem eqq_envy {x nx r L n : Nat} {W : jWd} {h : jH} {q : Int32 × jH} (E : eqS x nx r L W h) (e2 : F_X12_envy n (x + 40) h = some q) : eqS x nx r L W q.2 := eq_Q E frK_rfl (FQ_X12_envy (cls_of E).2 e2) (by decide) (by decide) (FZ_X12_envy e2) (fq_w (FQ_X12_envy (cls_of E).2 e2) (by decide))
theorem eqq_bunch {x nx r L n : Nat} {W : jWd} {h : jH} {q : Int32 × jH} (E : eqS x nx r L W h) (e2 : F_X12_bunch n (x + 40) h = some q) : eqS x nx r L W q.2 := eq_Q E frK_rfl (FQ_X12_bunch (cls_of E).2 e2) (by decide) (by decide) (FZ_X12_bunch e2) (fq_w (FQ_X12_bunch (cls_of E).2 e2) (by decide))
theorem eqq_wooden {x nx r L n : Nat} {W : jWd} {h : jH} {q : Int32 × jH} (E : eqS x nx r L W h) (e2 : F_X12_wooden n (x + 40) h = some q) : eqS x nx r L W q.2 := eq_Q E frK_rfl (FQ_X12_wooden (cls_of E).2 e2) (by decide) (by decide) (FZ_X12_wooden e2) (fq_w (FQ_X12_wooden (cls_of E).2 e2) (by decide))
theorem eqq_caught {x nx r L n : Nat} {W : jWd} {h : jH} {q : Int32 × jH} (E : eqS x nx r L W h) (e2 : F_X12_caught n (x + 40) h = some q) : eqS x nx r L W q.2 := eq_Q E frK_rfl (FQ_X12_caught (cls_of E).2 e2) (by decide) (by decide) (FZ_X12_caught e2) (fq_w (FQ_X12_caught (cls_of E).2 e2) (by decide))
theorem eqq_loose {x nx r L n : Nat} {W : jWd} {h : jH} {q : Int32 × jH} (E : eqS x nx r L W h) (e2 : F_X12_loose n (x + 40) h = some q) : eqS x nx r L W q.2 := eq_Q E frK_rfl (FQ_X12_loose (cls_of E).2 e2) (by decide) (by decide) (FZ_X12_loose e2) (fq_w (FQ_X12_loose (cls_of E).2 e2) (by decide))
theorem eqq_beyond {x nx r L n : Nat} {W : jWd} {h : jH} {q : Int32 × jH} (E : eqS x nx r L W h) (e2 : F_X12_beyond n (x + 40) h = some q) : eqS x nx r L W q.2 := eq_Q E frK_rfl (FQ_X12_beyond (cls_of E).2 e2) (by decide) (by decide) (FZ_X12_beyond e2) (fq_w (FQ_X12_beyond (cls_of E).2 e2) (by decide))
theorem eqq_twins {x nx r L n : Nat} {W : jWd} {h : jH} {q : Int32 × jH} (E : eqS x nx r L W h) (e2 : F_X12_twins n (x + 40) h = some q) : eqS x nx r L W q.2 := eq_Q E frK_rfl (FQ_X12_twins (cls_of E).2 e2) (by decide) (by decide) (FZ_X12_twins e2) (fq_w (FQ_X12_twins (cls_of E).2 e2) (by decide))
theorem eqq_count {x nx r L n : Nat} {W : jWd} {h : jH} {zx1 : Int32} {q : Int32 × jH} (E : eqS x nx r L W h) (e2 : F_X12_count n (x + 40) zx1 h = some q) : eqS x nx r L W q.2 := eq_Q E frK_rfl (FQ_X12_count (cls_of E).2 e2) (by decide) (by decide) (FZ_X12_count e2) (fq_w (FQ_X12_count (cls_of E).2 e2) (by decide))
theorem eqq_ring {x nx r L n n2 : Nat} {W : jWd} {h : jH} {yx1 : Int32} {yx2 : Int32} {zx1 : Int32} {zx2 : Int32} {p : jR × jH} {q : Int32 × jH} (E : eqS x nx r L W h) (e1 : F_X11_ring n x yx1 yx2 h = some p) (e2 : F_X12_ring n2 (x + 40) zx1 zx2 p.2 = some q) : eqS x nx r L W q.2 := by
  have C := FC_X11_ring_0 (cls_of E).1 e1
  have M2 := cls_m E C
  exact eq_Q E C (FQ_X12_ring M2 e2) (by decide) (by decide) (FZ_X12_ring e2) (fq_w (FQ_X12_ring M2 e2) (by decide))
theorem eqq_with {x nx r L n n2 : Nat} {W : jWd} {h : jH} {yx1 : Int32} {yx2 : Int32} {zx1 : Int32} {zx2 : Int32} {p : jR × jH} {q : Int32 × jH} (E : eqS x nx r L W h) (e1 : F_X11_with n x yx1 yx2 h = some p) (e2 : F_X12_with n2 (x + 40) zx1 zx2 p.2 = some q) : eqS x nx r L W q.2 := by
  have C := FC_X11_with_0 (cls_of E).1 e1
  have M2 := cls_m E C
  exact eq_Q E C (FQ_X12_with M2 e2) (by decide) (by decide) (FZ_X12_with e2) (fq_w (FQ_X12_with M2 e2) (by decide))
theorem eqq_tight {x nx r L n n2 : Nat} {W : jWd} {h : jH} {yx1 : Int32} {zx1 : Int32} {p : jR × jH} {q : Int32 × jH} (E : eqS x nx r L W h) (e1 : F_X11_tight n x yx1 h = some p) (e2 : F_X12_tight n2 (x + 40) zx1 p.2 = some q) : eqS x nx r L W q.2 := by
  have C := FC_X11_tight_0 (cls_of E).1 e1
  have M2 := cls_m E C
  exact eq_Q E C (FQ_X12_tight M2 e2) (by decide) (by decide) (FZ_X12_tight e2) (fq_w (FQ_X12_tight M2 e2) (by decide))
theorem eqq_lit {x nx r L n n2 : Nat} {W : jWd} {h : jH} {yx1 : Int32} {zx1 : Int32} {p : jR × jH} {q : Int32 × jH} (E : eqS x nx r L W h) (e1 : F_X11_lit n x yx1 h = some p) (e2 : F_X12_lit n2 (x + 40) zx1 p.2 = some q) : eqS x nx r L W q.2 := by
  have C := FC_X11_lit_0 (cls_of E).1 e1
  have M2 := cls_m E C
  exact eq_Q E C (FQ_X12_lit M2 e2) (by decide) (by decide) (FZ_X12_lit e2) (fq_w (FQ_X12_lit M2 e2) (by decide))
theorem eqq_lets {x nx r L n n2 : Nat} {W : jWd} {h : jH} {yx1 : Int32} {yx2 : Int32} {zx1 : Int32} {zx2 : Int32} {p : jR × jH} {q : Int32 × jH} (E : eqS x nx r L W h) (e1 : F_X11_lets n x yx1 yx2 h = some p) (e2 : F_X12_lets n2 (x + 40) zx1 zx2 p.2 = some q) : eqS x nx r L W q.2 := by
  have C := FC_X11_lets_0 (cls_of E).1 e1
  have M2 := cls_m E C
  exact eq_Q E C (FQ_X12_lets M2 e2) (by decide) (by decide) (FZ_X12_lets e2) (fq_w (FQ_X12_lets M2 e2) (by decide))
theorem eqq_rests {x nx r L n n2 : Nat} {W : jWd} {h : jH} {yx1 : Int32} {zx1 : Int32} {p : jR × jH} {q : Int32 × jH} (E : eqS x nx r L W h) (e1 : F_X11_rests n x yx1 h = some p) (e2 : F_X12_rests n2 (x + 40) zx1 p.2 = some q) : eqS x nx r L W q.2 := by
  have C := FC_X11_rests_0 (cls_of E).1 e1
  have M2 := cls_m E C
  exact eq_Q E C (FQ_X12_rests M2 e2) (by decide) (by decide) (FZ_X12_rests e2) (fq_w (FQ_X12_rests M2 e2) (by decide))
theorem eqq_odds {x nx r L n n2 : Nat} {W : jWd} {h : jH} {yx1 : Int32} {yx2 : Int32} {zx1 : Int32} {zx2 : Int32} {p : jR × jH} {q : Int32 × jH} (E : eqS x nx r L W h) (e1 : F_X11_odds n x yx1 yx2 h = some p) (e2 : F_X12_odds n2 (x + 40) zx1 zx2 p.2 = some q) : eqS x nx r L W q.2 := by
  have C := FC_X11_odds_0 (cls_of E).1 e1
  have M2 := cls_m E C
  exact eq_Q E C (FQ_X12_odds M2 e2) (by decide) (by decide) (FZ_X12_odds e2) (fq_w (FQ_X12_odds M2 e2) (by decide))
theorem eqq_led {x nx r L n n2 : Nat} {W : jWd} {h : jH} {yx1 : Int32} {yx2 : Int32} {zx1 : Int32} {zx2 : Int32} {p : jR × jH} {q : Int32 × jH} (E : eqS x nx r L W h) (e1 : F_X11_led n x yx1 yx2 h = some p) (e2 : F_X12_led n2 (x + 40) zx1 zx2 p.2 = some q) : eqS x nx r L W q.2 := by
  have C := FC_X11_led_0 (cls_of E).1 e1
  have M2 := cls_m E C
  exact eq_Q E C (FQ_X12_led M2 e2) (by decide) (by decide) (FZ_X12_led e2) (fq_w (FQ_X12_led M2 e2) (by decide))
theorem eqq_log {x nx r L n n2 : Nat} {W : jWd} {h : jH} {yx1 : Int32} {yx2 : Int32} {zx1 : Int32} {zx2 : Int32} {p : jR × jH} {q : Int32 × jH} (E : eqS x nx r L W h) (e1 : F_X11_log n x yx1 yx2 h = some p) (e2 : F_X12_log n2 (x + 40) zx1 zx2 p.2 = some q) : eqS x nx r L W q.2 := by
  have C := FC_X11_log_0 (cls_of E).1 e1
  have M2 := cls_m E C
  exact eq_Q E C (FQ_X12_log M2 e2) (by decide) (by decide) (FZ_X12_log e2) (fq_w (FQ_X12_log M2 e2) (by decide))
theorem eqq_goes {x nx r L n n2 : Nat} {W : jWd} {h : jH} {yx1 : Int32} {yx2 : Int32} {zx1 : Int32} {zx2 : Int32} {p : jR × jH} {q : Int32 × jH} (E : eqS x nx r L W h) (e1 : F_X11_goes n x yx1 yx2 h = some p) (e2 : F_X12_goes n2 (x + 40) zx1 zx2 p.2 = some q) {g : jGh} {Γ : Nat → Option Nat} (w2 : jW (jKd g) Γ p.2) (w3 : jW (jKd g) Γ q.2) (ha : Γ (x + 40 + 1) = some 21) : eqS x nx r L W q.2 := by
  have C := FC_X11_goes_0 (cls_of E).1 e1
  have M2 := cls_m E C
  exact eq_Q E C (FQ_X12_goes M2 e2) (by decide) (by decide) (FZ_X12_goes e2) (wr_w w2 w3 ha (BQ_X12_goes e2) (WR_X12_goes M2 ⟨fun _ _ _ => rfl, fun z => by cases z⟩ e2))
theorem eqq_would {x nx r L n n2 : Nat} {W : jWd} {h : jH} {yx1 : Int32} {yx2 : Int32} {yx3 : Int32} {yx4 : Int32} {zx1 : Int32} {zx2 : Int32} {zx3 : Int32} {zx4 : Int32} {p : jR × jH} {q : Int32 × jH} (E : eqS x nx r L W h) (e1 : F_X11_would n x yx1 yx2 yx3 yx4 h = some p) (e2 : F_X12_would n2 (x + 40) zx1 zx2 zx3 zx4 p.2 = some q) {g : jGh} {Γ : Nat → Option Nat} (w2 : jW (jKd g) Γ p.2) (w3 : jW (jKd g) Γ q.2) (ha : Γ (x + 40 + 1) = some 21) : eqS x nx r L W q.2 := by
  have C := FC_X11_would_0 (cls_of E).1 e1
  have M2 := cls_m E C
  exact eq_Q E C (FQ_X12_would M2 e2) (by decide) (by decide) (FZ_X12_would e2) (wr_w w2 w3 ha (BQ_X12_would e2) (WR_X12_would M2 ⟨fun _ _ _ => rfl, fun z => by cases z⟩ e2))
theorem eqq_loosen {x nx r L n n2 : Nat} {W : jWd} {h : jH} {yx1 : Int32} {yx2 : Int32} {yx3 : Int32} {zx1 : Int32} {zx2 : Int32} {zx3 : Int32} {p : jR × jH} {q : Int32 × jH} (E : eqS x nx r L W h) (e1 : F_X11_loosen n x yx1 yx2 yx3 h = some p) (e2 : F_X12_loosen n2 (x + 40) zx1 zx2 zx3 p.2 = some q) {g : jGh} {Γ : Nat → Option Nat} (w2 : jW (jKd g) Γ p.2) (w3 : jW (jKd g) Γ q.2) (ha : Γ (x + 40 + 1) = some 21) : eqS x nx r L W q.2 := by
  have C := FC_X11_loosen_0 (cls_of E).1 e1
  have M2 := cls_m E C
  exact eq_Q E C (FQ_X12_loosen M2 e2) (by decide) (by decide) (FZ_X12_loosen e2) (wr_w w2 w3 ha (BQ_X12_loosen e2) (WR_X12_loosen M2 ⟨fun _ _ _ => rfl, fun z => by cases z⟩ e2))
theorem eqq_faded {x nx r L n n2 : Nat} {W : jWd} {h : jH} {yx1 : Int32} {zx1 : Int32} {p : jR × jH} {q : Int32 × jH} (E : eqS x nx r L W h) (e1 : F_X11_faded n x yx1 h = some p) (e2 : F_X12_faded n2 (x + 40) zx1 p.2 = some q) {g : jGh} {Γ : Nat → Option Nat} (w2 : jW (jKd g) Γ p.2) (w3 : jW (jKd g) Γ q.2) (ha : Γ (x + 40 + 1) = some 21) : eqS x nx r L W q.2 := by
  have C := FC_X11_faded_0 (cls_of E).1 e1
  have M2 := cls_m E C
  exact eq_Q E C (FQ_X12_faded M2 e2) (by decide) (by decide) (FZ_X12_faded e2) (wr_w w2 w3 ha (BQ_X12_faded e2) (WR_X12_faded M2 ⟨fun _ _ _ => rfl, fun z => by cases z⟩ e2))
theorem eqq_ahead {x nx r L n n2 : Nat} {W : jWd} {h : jH} {yx1 : Int32} {yx2 : Int32} {zx1 : Int32} {zx2 : Int32} {p : jR × jH} {q : Int32 × jH} (E : eqS x nx r L W h) (e1 : F_X11_ahead n x yx1 yx2 h = some p) (e2 : F_X12_ahead n2 (x + 40) zx1 zx2 p.2 = some q) {g : jGh} {Γ : Nat → Option Nat} (w2 : jW (jKd g) Γ p.2) (w3 : jW (jKd g) Γ q.2) (ha : Γ (x + 40 + 1) = some 21) : eqS x nx r L W q.2 := by
  have C := FC_X11_ahead_0 (cls_of E).1 e1
  have M2 := cls_m E C
  exact eq_Q E C (FQ_X12_ahead M2 e2) (by decide) (by decide) (FZ_X12_ahead e2) (wr_w w2 w3 ha (BQ_X12_ahead e2) (WR_X12_ahead M2 ⟨fun _ _ _ => rfl, fun z => by cases z⟩ e2))
theorem eqq_trial {x nx r L n n2 : Nat} {W : jWd} {h : jH} {yx1 : Int32} {yx2 : Int32} {zx1 : Int32} {zx2 : Int32} {p : jR × jH} {q : Int32 × jH} (E : eqS x nx r L W h) (e1 : F_X11_trial n x yx1 yx2 h = some p) (e2 : F_X12_trial n2 (x + 40) zx1 zx2 p.2 = some q) {g : jGh} {Γ : Nat → Option Nat} (w2 : jW (jKd g) Γ p.2) (w3 : jW (jKd g) Γ q.2) (ha : Γ (x + 40 + 1) = some 21) : eqS x nx r L W q.2 := by
  have C := FC_X11_trial_0 (cls_of E).1 e1
  have M2 := cls_m E C
  exact eq_Q E C (FQ_X12_trial M2 e2) (by decide) (by decide) (FZ_X12_trial e2) (wr_w w2 w3 ha (BQ_X12_trial e2) (WR_X12_trial M2 ⟨fun _ _ _ => rfl, fun z => by cases z⟩ e2))
theorem eqq_span {x nx r L n n2 : Nat} {W : jWd} {h : jH} {yx1 : Int32} {yx2 : Int32} {zx1 : Int32} {zx2 : Int32} {p : jR × jH} {q : Int32 × jH} (E : eqS x nx r L W h) (e1 : F_X11_span n x yx1 yx2 h = some p) (e2 : F_X12_span n2 (x + 40) zx1 zx2 p.2 = some q) {g : jGh} {Γ : Nat → Option Nat} (w2 : jW (jKd g) Γ p.2) (w3 : jW (jKd g) Γ q.2) (ha : Γ (x + 40 + 1) = some 21) : eqS x nx r L W q.2 := by
  have C := FC_X11_span_0 (cls_of E).1 e1
  have M2 := cls_m E C
  exact eq_Q E C (FQ_X12_span M2 e2) (by decide) (by decide) (FZ_X12_span e2) (wr_w w2 w3 ha (BQ_X12_span e2) (WR_X12_span M2 ⟨fun _ _ _ => rfl, fun z => by cases z⟩ e2))
theorem eqq_best {x nx r L n n2 : Nat} {W : jWd} {h : jH} {p : Int32 × jH} {q : Int32 × jH} (E : eqS x nx r L W h) (e1 : F_X11_best n x h = some p) (e2 : F_X12_best n2 (x + 40) p.2 = some q) {g : jGh} {Γ : Nat → Option Nat} (w2 : jW (jKd g) Γ p.2) (w3 : jW (jKd g) Γ q.2) (ha : Γ (x + 40 + 1) = some 21) : eqS x nx r L W q.2 := by
  have C := FC_X11_best_0 (cls_of E).1 e1
  have M2 := cls_m E C
  exact eq_Q E C (FQ_X12_best M2 e2) (by decide) (by decide) (FZ_X12_best e2) (wr_w w2 w3 ha (BQ_X12_best e2) (WR_X12_best M2 ⟨fun _ _ _ => rfl, fun z => by cases z⟩ e2))
theorem eqq_fewest {x nx r L n n2 : Nat} {W : jWd} {h : jH} {yx1 : Int32} {zx1 : Int32} {p : Int32 × jH} {q : Int32 × jH} (E : eqS x nx r L W h) (e1 : F_X11_fewest n x yx1 h = some p) (e2 : F_X12_fewest n2 (x + 40) zx1 p.2 = some q) {g : jGh} {Γ : Nat → Option Nat} (w2 : jW (jKd g) Γ p.2) (w3 : jW (jKd g) Γ q.2) (ha : Γ (x + 40 + 1) = some 21) : eqS x nx r L W q.2 := by
  have C := FC_X11_fewest_0 (cls_of E).1 e1
  have M2 := cls_m E C
  exact eq_Q E C (FQ_X12_fewest M2 e2) (by decide) (by decide) (FZ_X12_fewest e2) (wr_w w2 w3 ha (BQ_X12_fewest e2) (WR_X12_fewest M2 ⟨fun _ _ _ => rfl, fun z => by cases z⟩ e2))
theorem eqq_first {x nx r L n n2 : Nat} {W : jWd} {h : jH} {yx1 : Int32} {zx1 : Int32} {p : Int32 × jH} {q : Int32 × jH} (E : eqS x nx r L W h) (e1 : F_X11_first n x yx1 h = some p) (e2 : F_X12_first n2 (x + 40) zx1 p.2 = some q) {g : jGh} {Γ : Nat → Option Nat} (w2 : jW (jKd g) Γ p.2) (w3 : jW (jKd g) Γ q.2) (ha : Γ (x + 40 + 1) = some 21) : eqS x nx r L W q.2 := by
  have C := FC_X11_first_0 (cls_of E).1 e1
  have M2 := cls_m E C
  exact eq_Q E C (FQ_X12_first M2 e2) (by decide) (by decide) (FZ_X12_first e2) (wr_w w2 w3 ha (BQ_X12_first e2) (WR_X12_first M2 ⟨fun _ _ _ => rfl, fun z => by cases z⟩ e2))
theorem eqq_pale {x nx r L n n2 : Nat} {W : jWd} {h : jH} {p : Int32 × jH} {q : Int32 × jH} (E : eqS x nx r L W h) (e1 : F_X11_pale n x h = some p) (e2 : F_X12_pale n2 (x + 40) p.2 = some q) {g : jGh} {Γ : Nat → Option Nat} (w2 : jW (jKd g) Γ p.2) (w3 : jW (jKd g) Γ q.2) (ha : Γ (x + 40 + 1) = some 21) : eqS x nx r L W q.2 := by
  have C := FC_X11_pale_0 (cls_of E).1 e1
  have M2 := cls_m E C
  exact eq_Q E C (FQ_X12_pale M2 e2) (by decide) (by decide) (FZ_X12_pale e2) (wr_w w2 w3 ha (BQ_X12_pale e2) (WR_X12_pale M2 ⟨fun _ _ _ => rfl, fun z => by cases z⟩ e2))
end
section
/-! snags and tries: they use up the tape -/
theorem wl_hi2 {g g2 : jGh} {Γ : Nat → Option Nat} {h h2 : jH} {a : Nat} (hg : g2.2.2.2.1 = g.2.2.2.1) (w : jW (jKd g) Γ h) (w2 : jW (jKd g2) Γ h2) (ha : Γ a = some 21) (B : jbq h h2) {k : Nat} (hk : 435 ≤ k) : oi (oc h2) a k = oi (oc h) a k := by
  obtain ⟨f, e1, p1⟩ := t_arr (t := 0) (N := 2133) (R := fun k x => jRw g k x) w ha rfl
  obtain ⟨f2, e2, p2⟩ := t_arr (t := 0) (N := 2133) (R := fun k x => jRw g2 k x) w2 ha rfl
  obtain ⟨f3, e3, p3⟩ := B a 0 2133 f e1
  rw [e2] at e3
  cases e3
  have q : f2 k = f k := by
    by_cases y : k < 2133
    · have y1 := (p1 k y).2
      have y2 := (p2 k y).2
      rcases y1 with y1 | y1
      · omega
      rcases y2 with y2 | y2
      · omega
      rw [hg] at y2
      exact y2.trans y1.symm
    · exact p3 k (by omega)
  unfold oi oc
  rw [e1, e2]
  show (match Value.int (f2 k) with | .int x => x | _ => 0) = (match Value.int (f k) with | .int x => x | _ => 0)
  rw [q]
def frT (x : Nat) (h h2 : jH) : Prop := (∀ a k : Nat, ¬ (qcc x a k ∨ (a = x + 1 ∧ k = 6)) → oc h2 a k = oc h a k) ∧ h2.1 = h.1 ∧ oi (oc h2) (x + 1) 6 = 0
theorem frT_w {x : Nat} {h h1 h2 : jH} {ci : Nat} (F : frK x h h1) (e : jpf ci h1 (x + 1) 6 (.int 0) = some h2) : frT x h h2 := by
  obtain ⟨q1, q2⟩ := oc_pf e
  refine ⟨fun a k z => ?_, q2.trans F.2, ?_⟩
  · rw [q1, u2_ne (by omega)]
    exact F.1 a k (fun y => z (Or.inl y))
  · rw [q1]; exact oi_eq
theorem frT_k {x : Nat} {h h1 h2 : jH} (T : frT x h h1) (F : frK x h1 h2) : frT x h h2 := by
  refine ⟨fun a k z => (F.1 a k (fun y => z (Or.inl y))).trans (T.1 a k z), F.2.trans T.2.1, ?_⟩
  rw [← T.2.2]
  unfold oi
  rw [F.1 _ _ (by unfold qcc; omega)]
theorem clsS_T {x : Nat} {h h2 : jH} (S : clsS (oc h) x) (F : frT x h h2) : clsS (oc h2) x := by
  obtain ⟨a0, a1, a8, a36, a13, ⟨u1, u2, u3, u4, u5, u6⟩, ⟨v1, v2, v3⟩, ⟨w1, w2, w3⟩, ⟨y1, y2, y3, y4, y5⟩, ⟨o0, o1, o2, o3, o4, o5⟩, ⟨k0, k1, k2, k3, k4⟩⟩ := S
  have f := F.1
  refine ⟨(f _ _ (by unfold qcc; omega)).trans a0, (f _ _ (by unfold qcc; omega)).trans a1, (f _ _ (by unfold qcc; omega)).trans a8, (f _ _ (by unfold qcc; omega)).trans a36, (f _ _ (by unfold qcc; omega)).trans a13, ⟨?_, ?_, ?_, ?_, ?_, ?_⟩, ⟨?_, ?_, ?_⟩, ⟨?_, ?_, ?_⟩, ⟨?_, ?_, ?_, ?_, ?_⟩, ⟨?_, ?_, ?_, ?_, ?_, ?_⟩, ⟨?_, ?_, ?_, ?_, ?_⟩⟩
  · exact (f _ _ (by unfold qcc; omega)).trans u1
  · exact (f _ _ (by unfold qcc; omega)).trans u2
  · exact (f _ _ (by unfold qcc; omega)).trans u3
  · exact (f _ _ (by unfold qcc; omega)).trans u4
  · exact (f _ _ (by unfold qcc; omega)).trans u5
  · exact (f _ _ (by unfold qcc; omega)).trans u6
  · exact (f _ _ (by unfold qcc; omega)).trans v1
  · exact (f _ _ (by unfold qcc; omega)).trans v2
  · exact (f _ _ (by unfold qcc; omega)).trans v3
  · exact (f _ _ (by unfold qcc; omega)).trans w1
  · exact (f _ _ (by unfold qcc; omega)).trans w2
  · exact (f _ _ (by unfold qcc; omega)).trans w3
  · exact (f _ _ (by unfold qcc; omega)).trans y1
  · exact (f _ _ (by unfold qcc; omega)).trans y2
  · exact (f _ _ (by unfold qcc; omega)).trans y3
  · exact (f _ _ (by unfold qcc; omega)).trans y4
  · exact (f _ _ (by unfold qcc; omega)).trans y5
  · exact (f _ _ (by unfold qcc; omega)).trans o0
  · exact (f _ _ (by unfold qcc; omega)).trans o1
  · exact (f _ _ (by unfold qcc; omega)).trans o2
  · exact (f _ _ (by unfold qcc; omega)).trans o3
  · exact (f _ _ (by unfold qcc; omega)).trans o4
  · exact (f _ _ (by unfold qcc; omega)).trans o5
  · exact (f _ _ (by unfold qcc; omega)).trans k0
  · exact (f _ _ (by unfold qcc; omega)).trans k1
  · exact (f _ _ (by unfold qcc; omega)).trans k2
  · exact (f _ _ (by unfold qcc; omega)).trans k3
  · exact (f _ _ (by unfold qcc; omega)).trans k4
theorem FT_readSnags {n x : Nat} {h : jH} {q : jR × jH} (M : clsS (oc h) x) (hf : F_X11_readSnags n x h = some q) : frT x h q.2 := by
  unfold F_X11_readSnags at hf
  obtain ⟨p1, e1, hf⟩ := jbind hf
  obtain ⟨p5, e2, hf⟩ := jbind hf
  obtain ⟨v8, e3, hf⟩ := jbind hf
  obtain ⟨v11, e4, hf⟩ := jbind hf
  replace hf := jite hf
  rcases hf with ⟨-, hf⟩ | ⟨-, hf⟩
  · obtain ⟨p31, e5, hf⟩ := jbind hf
    have r5 := oc_gR e5
    rw [M.1] at r5
    cases r5
    obtain ⟨h35, e6, hf⟩ := jbind hf
    have T := frT_w frK_rfl e6
    replace hf := jite hf
    rcases hf with ⟨-, hf⟩ | ⟨-, hf⟩
    · cases hf; exact T
    · cases hf; exact T
  · obtain ⟨p20, e7, hf⟩ := jbind hf
    have r7 := oc_gR e7
    rw [M.2.2.2.2.2.1.2.2.2.2.2] at r7
    cases r7
    obtain ⟨p24, e8, hf⟩ := jbind hf
    have r8 := oc_gR e8
    rw [M.2.1] at r8
    cases r8
    obtain ⟨h27, e9, hf⟩ := jbind hf
    have F := FC_X7_seekSnags_37_6 M (jcv_o e9).2
    have m := clsS_fr M F
    obtain ⟨p31, e5, hf⟩ := jbind hf
    have r5 := oc_gR e5
    rw [m.1] at r5
    cases r5
    obtain ⟨h35, e6, hf⟩ := jbind hf
    have T := frT_w F e6
    replace hf := jite hf
    rcases hf with ⟨-, hf⟩ | ⟨-, hf⟩
    · cases hf; exact T
    · cases hf; exact T
theorem FT_snags {n x : Nat} {y : Int32} {h : jH} {q : jR × jH} (M : clsS (oc h) x) (hf : F_X11_snags n x y h = some q) : frT x h q.2 := by
  unfold F_X11_snags at hf
  obtain ⟨q1, e1, hf⟩ := jbind hf
  have T := FT_readSnags M (jcv_o e1).2
  obtain ⟨r1, h1⟩ := q1
  rcases r1 with r1 | r1
  · replace hf := jthL hf
    replace hf := jite hf
    rcases hf with ⟨-, hf⟩ | ⟨-, hf⟩
    · obtain ⟨p19, e2, hf⟩ := jbind hf
      obtain ⟨v22, e3, hf⟩ := jbind hf
      cases hf; exact T
    · obtain ⟨p19, e2, hf⟩ := jbind hf
      obtain ⟨v22, e3, hf⟩ := jbind hf
      cases hf; exact T
  · cases jthR hf; exact T
theorem FT_tries {n x : Nat} {h : jH} {q : jR × jH} (M : clsS (oc h) x) (hf : F_X11_tries n x h = some q) : frT x h q.2 := by
  unfold F_X11_tries at hf
  obtain ⟨q1, e1, hf⟩ := jbind hf
  have T := FT_readSnags M (jcv_o e1).2
  obtain ⟨r1, h1⟩ := q1
  have m := clsS_T M T
  rcases r1 with r1 | r1
  · replace hf := jthL hf
    obtain ⟨p5, e2, hf⟩ := jbind hf
    have r2 := oc_gR e2
    rw [m.2.2.2.2.2.1.2.2.2.2.2] at r2
    cases r2
    obtain ⟨p9, e3, hf⟩ := jbind hf
    have r3 := oc_gR e3
    rw [m.2.1] at r3
    cases r3
    obtain ⟨q12, e4, hf⟩ := jbind hf
    have F := FC_X7_partingPull_37_6 m (jcv_o e4).2
    cases hf
    exact frT_k T F
  · cases jthR hf; exact T
theorem U_snags {n a0 L : Nat} {z : Int32} {h : jH} {q : Int32 × jH} (M : mS (oc h) a0) (h9 : oi (oc h) a0 9 = nI L) (hf : F_X12_snags n a0 z h = some q) : oi (oc q.2) a0 9 = 0 := by
  unfold F_X12_snags at hf
  obtain ⟨h1, e1, hf⟩ := jbind hf
  obtain ⟨-, u9, -, -, F, -⟩ := E_X12_uses h9 (jcv_o e1).2
  have m := mS_fr M F (by decide) (by decide)
  obtain ⟨v6, e2, hf⟩ := jbind hf
  replace hf := jite hf
  rcases hf with ⟨-, hf⟩ | ⟨-, hf⟩
  · rw [frM_oi (FQ_X12_snags_17 rfl m hf) (by decide) (by decide)]; exact u9
  · rw [frM_oi (FQ_X12_snags_17 rfl m hf) (by decide) (by decide)]; exact u9
theorem U_tries {n a0 L : Nat} {h : jH} {q : Int32 × jH} (M : mS (oc h) a0) (h9 : oi (oc h) a0 9 = nI L) (hf : F_X12_tries n a0 h = some q) : oi (oc q.2) a0 9 = 0 := by
  unfold F_X12_tries at hf
  obtain ⟨h1, e1, hf⟩ := jbind hf
  obtain ⟨-, u9, -, -, F, -⟩ := E_X12_uses h9 (jcv_o e1).2
  have m := mS_fr M F (by decide) (by decide)
  obtain ⟨v6, e2, hf⟩ := jbind hf
  replace hf := jite hf
  rcases hf with ⟨-, hf⟩ | ⟨-, hf⟩
  · rw [frM_oi (FQ_X12_tries_17 rfl m hf) (by decide) (by decide)]; exact u9
  · rw [frM_oi (FQ_X12_tries_17 rfl m hf) (by decide) (by decide)]; exact u9
theorem cls_mT {x nx r L : Nat} {W : jWd} {h h2 : jH} (E : eqS x nx r L W h) (C : frT x h h2) : mS (oc h2) (x + 40) := by
  obtain ⟨s1, s2, s3, s4, s5, s8, s15, s17, s19, s20, s21⟩ := (cls_of E).2
  have k : ∀ k : Nat, oc h2 (x + 40) k = oc h (x + 40) k := fun k => C.1 _ _ (by unfold qcc; omega)
  exact ⟨(k _).trans s1, (k _).trans s2, (k _).trans s3, (k _).trans s4, (k _).trans s5, (k _).trans s8, (k _).trans s15, (k _).trans s17, (k _).trans s19, (k _).trans s20, (k _).trans s21⟩
theorem eq_QT {x nx r L : Nat} {W : jWd} {h h2 h3 : jH} {cs fs : List Nat} (E : eqS x nx r L W h) (C : frT x h h2) (F : frM (x + 40) cs fs (oc h2) (oc h3)) (hc : ∀ c ∈ cs, c = 1 ∨ c = 4 ∨ (8 ≤ c ∧ c ≤ 11)) (hf : ∀ k ∈ fs, k = 0 ∨ k = 9 ∨ k = 10 ∨ k = 11 ∨ k = 18) (hz : h3.1 = h2.1) (hw : ∀ k : Nat, oi (oc h3) (x + 41) k = oi (oc h2) (x + 41) k) (h9 : oi (oc h3) (x + 40) 9 = 0) : eqS x nx r 0 W h3 := by
  refine eq_qry E (fun a k z => ?_) (by rw [hz, C.2.1]; omega) ?_ ⟨?_, h9, by omega⟩
  · exact (F a k (fun c hc2 e => by have := hc c hc2; unfold qrc at z; omega) (fun e hk => by have := hf k hk; unfold qrc at z; omega)).trans (C.1 a k (by unfold qcc; unfold qrc at z; omega))
  · rw [← E.2.2.1.2.1]
    funext k
    refine (hw k).trans ?_
    show oi _ _ _ = oi _ _ _
    unfold oi
    rw [C.1 _ _ (by unfold qcc; omega)]
  · have e : oc h3 (x + 1) 6 = oc h2 (x + 1) 6 := F _ _ (fun c hc2 e => by omega) (fun e => by omega)
    have c := C.2.2
    unfold oi at c ⊢
    rw [e]; exact c
theorem wr_w2 {g g2 : jGh} {Γ : Nat → Option Nat} {h h2 : jH} {m : Nat} (hg : g2.2.2.2.1 = g.2.2.2.1) (w : jW (jKd g) Γ h) (w2 : jW (jKd g2) Γ h2) (ha : Γ (m + 1) = some 21) (B : jbq h h2) {t : Bool} (K : wK true t m (wl (oc h) m) (oc h2)) (k : Nat) : oi (oc h2) (m + 1) k = oi (oc h) (m + 1) k := by
  by_cases y : k < 435
  · exact K.1 rfl k y
  · exact wl_hi2 hg w w2 ha B (by omega)
theorem h9_T {x nx r L : Nat} {W : jWd} {h h2 : jH} (E : eqS x nx r L W h) (C : frT x h h2) : oi (oc h2) (x + 40) 9 = nI L := by
  rw [← E.2.2.2.2.1]
  unfold oi
  rw [C.1 _ _ (by unfold qcc; omega)]
theorem eqq_snags {x nx r L n n2 : Nat} {W : jWd} {h : jH} {y z : Int32} {p : jR × jH} {q : Int32 × jH} (E : eqS x nx r L W h) (e1 : F_X11_snags n x y h = some p) (e2 : F_X12_snags n2 (x + 40) z p.2 = some q) {g g2 : jGh} {Γ : Nat → Option Nat} (hg : g2.2.2.2.1 = g.2.2.2.1) (w2 : jW (jKd g) Γ p.2) (w3 : jW (jKd g2) Γ q.2) (ha : Γ (x + 40 + 1) = some 21) : eqS x nx r 0 W q.2 := by
  have C := FT_snags (cls_of E).1 e1
  have M2 := cls_mT E C
  exact eq_QT E C (FQ_X12_snags M2 e2) (by decide) (by decide) (FZ_X12_snags e2) (wr_w2 hg w2 w3 ha (BQ_X12_snags e2) (WR_X12_snags M2 ⟨fun _ _ _ => rfl, fun z => by cases z⟩ e2)) (U_snags M2 (h9_T E C) e2)
theorem eqq_tries {x nx r L n n2 : Nat} {W : jWd} {h : jH} {p : jR × jH} {q : Int32 × jH} (E : eqS x nx r L W h) (e1 : F_X11_tries n x h = some p) (e2 : F_X12_tries n2 (x + 40) p.2 = some q) {g g2 : jGh} {Γ : Nat → Option Nat} (hg : g2.2.2.2.1 = g.2.2.2.1) (w2 : jW (jKd g) Γ p.2) (w3 : jW (jKd g2) Γ q.2) (ha : Γ (x + 40 + 1) = some 21) : eqS x nx r 0 W q.2 := by
  have C := FT_tries (cls_of E).1 e1
  have M2 := cls_mT E C
  exact eq_QT E C (FQ_X12_tries M2 e2) (by decide) (by decide) (FZ_X12_tries e2) (wr_w2 hg w2 w3 ha (BQ_X12_tries e2) (WR_X12_tries M2 ⟨fun _ _ _ => rfl, fun z => by cases z⟩ e2)) (U_tries M2 (h9_T E C) e2)
end
section
/-! the law's own cells: what it writes to its long row does not show -/
theorem oc_asl {h h2 : jH} {a : Nat} {i : Int32} {v : Int64} (e : jasl h a i v = some h2) : oc h2 = oc h ∧ h2.1 = h.1 := by
  obtain ⟨n, f, e1, -, rfl⟩ := jasl_o e
  refine ⟨funext fun b => funext fun j => ?_, rfl⟩
  by_cases hb : b = a
  · subst hb
    unfold oc
    rw [e1]
    have e2 : (jup h b (.inr (.inr (.inr (n, vp_updL f i.toNatClampNeg v))))).2 b = some (.inr (.inr (.inr (n, vp_updL f i.toNatClampNeg v)))) := by
      show (if b = b then some _ else h.2 b) = _
      rw [if_pos rfl]
    rw [e2]
  · unfold oc
    have e2 : (jup h a (.inr (.inr (.inr (n, vp_updL f i.toNatClampNeg v))))).2 b = h.2 b := by
      show (if b = a then some _ else h.2 b) = _
      rw [if_neg hb]
    rw [e2]
theorem eq_oc {x nx r L : Nat} {W : jWd} {h h2 : jH} (E : eqS x nx r L W h) (ho : oc h2 = oc h) (hz : h.1 ≤ h2.1) : eqS x nx r L W h2 := eq_qr0 E (fun a k _ => by rw [ho]) hz (by rw [ho]; exact E.2.2.1.2.1)
theorem eq_z {x nx r L : Nat} {W : jWd} {h : jH} (E : eqS x nx r L W h) {z : Nat} (hz : h.1 ≤ z) : eqS x nx r L W (z, h.2) := eq_oc E rfl hz
theorem FLo_pole {n : Nat} {a0 : Nat} {a1 : Nat} {h : jH} {r : Int32 × jH} (hf : FL_pole n a0 a1 h = some r) : ∃ q : jR × jH, F_X11_pole n a0 h = some q ∧ oc r.2 = oc q.2 ∧ r.2.1 = q.2.1 := by
  unfold FL_pole at hf
  obtain ⟨q, e, hf⟩ := jbind hf
  refine ⟨q, (jcv_o e).2, ?_⟩
  obtain ⟨q1, q2⟩ := q
  rcases q1 with v | k
  · obtain ⟨h2, e2, hf⟩ := jbind hf
    cases hf
    exact oc_asl e2
  · replace hf : (if k = 0 then some ((1 : Int32), q2) else if k = 3 then some ((2 : Int32), q2) else none) = some r := hf
    replace hf := jite hf
    rcases hf with ⟨-, hf⟩ | ⟨-, hf⟩
    · cases hf; exact ⟨rfl, rfl⟩
    replace hf := jite hf
    rcases hf with ⟨-, hf⟩ | ⟨-, hf⟩
    · cases hf; exact ⟨rfl, rfl⟩
    cases hf
theorem FLo_law {n : Nat} {a0 : Nat} {a1 : Nat} {h : jH} {r : Int32 × jH} (hf : FL_law n a0 a1 h = some r) : ∃ q : jR × jH, F_X11_law n a0 h = some q ∧ oc r.2 = oc q.2 ∧ r.2.1 = q.2.1 := by
  unfold FL_law at hf
  obtain ⟨q, e, hf⟩ := jbind hf
  refine ⟨q, (jcv_o e).2, ?_⟩
  obtain ⟨q1, q2⟩ := q
  rcases q1 with v | k
  · obtain ⟨h2, e2, hf⟩ := jbind hf
    cases hf
    exact oc_asl e2
  · replace hf : (if k = 0 then some ((1 : Int32), q2) else none) = some r := hf
    replace hf := jite hf
    rcases hf with ⟨-, hf⟩ | ⟨-, hf⟩
    · cases hf; exact ⟨rfl, rfl⟩
    cases hf
theorem FLo_ring {n : Nat} {a0 : Nat} {x1 : Int32} {x2 : Int32} {a3 : Nat} {h : jH} {r : Int32 × jH} (hf : FL_ring n a0 x1 x2 a3 h = some r) : ∃ q : jR × jH, F_X11_ring n a0 x1 x2 h = some q ∧ oc r.2 = oc q.2 ∧ r.2.1 = q.2.1 := by
  unfold FL_ring at hf
  obtain ⟨q, e, hf⟩ := jbind hf
  refine ⟨q, (jcv_o e).2, ?_⟩
  obtain ⟨q1, q2⟩ := q
  rcases q1 with v | k
  · obtain ⟨h2, e2, hf⟩ := jbind hf
    cases hf
    exact oc_asl e2
  · replace hf : (if k = 2 then some ((1 : Int32), q2) else if k = 4 then some ((2 : Int32), q2) else none) = some r := hf
    replace hf := jite hf
    rcases hf with ⟨-, hf⟩ | ⟨-, hf⟩
    · cases hf; exact ⟨rfl, rfl⟩
    replace hf := jite hf
    rcases hf with ⟨-, hf⟩ | ⟨-, hf⟩
    · cases hf; exact ⟨rfl, rfl⟩
    cases hf
theorem FLo_pull {n : Nat} {a0 : Nat} {x1 : Int32} {x2 : Int32} {x3 : Int32} {a4 : Nat} {h : jH} {r : Int32 × jH} (hf : FL_pull n a0 x1 x2 x3 a4 h = some r) : ∃ q : jR × jH, F_X11_pull n a0 x1 x2 x3 h = some q ∧ oc r.2 = oc q.2 ∧ r.2.1 = q.2.1 := by
  unfold FL_pull at hf
  obtain ⟨q, e, hf⟩ := jbind hf
  refine ⟨q, (jcv_o e).2, ?_⟩
  obtain ⟨q1, q2⟩ := q
  rcases q1 with v | k
  · obtain ⟨h2, e2, hf⟩ := jbind hf
    cases hf
    exact oc_asl e2
  · replace hf : (if k = 2 then some ((1 : Int32), q2) else if k = 0 then some ((2 : Int32), q2) else none) = some r := hf
    replace hf := jite hf
    rcases hf with ⟨-, hf⟩ | ⟨-, hf⟩
    · cases hf; exact ⟨rfl, rfl⟩
    replace hf := jite hf
    rcases hf with ⟨-, hf⟩ | ⟨-, hf⟩
    · cases hf; exact ⟨rfl, rfl⟩
    cases hf
theorem FLo_free {n : Nat} {a0 : Nat} {x1 : Int32} {a2 : Nat} {h : jH} {r : Int32 × jH} (hf : FL_free n a0 x1 a2 h = some r) : ∃ q : jR × jH, F_X11_free n a0 x1 h = some q ∧ oc r.2 = oc q.2 ∧ r.2.1 = q.2.1 := by
  unfold FL_free at hf
  obtain ⟨q, e, hf⟩ := jbind hf
  refine ⟨q, (jcv_o e).2, ?_⟩
  obtain ⟨q1, q2⟩ := q
  rcases q1 with v | k
  · obtain ⟨h2, e2, hf⟩ := jbind hf
    cases hf
    exact oc_asl e2
  · replace hf : (if k = 2 then some ((1 : Int32), q2) else if k = 1 then some ((2 : Int32), q2) else none) = some r := hf
    replace hf := jite hf
    rcases hf with ⟨-, hf⟩ | ⟨-, hf⟩
    · cases hf; exact ⟨rfl, rfl⟩
    replace hf := jite hf
    rcases hf with ⟨-, hf⟩ | ⟨-, hf⟩
    · cases hf; exact ⟨rfl, rfl⟩
    cases hf
theorem FLo_snag {n : Nat} {a0 : Nat} {x1 : Int32} {a2 : Nat} {h : jH} {r : Int32 × jH} (hf : FL_snag n a0 x1 a2 h = some r) : ∃ q : jR × jH, F_X11_snag n a0 x1 h = some q ∧ oc r.2 = oc q.2 ∧ r.2.1 = q.2.1 := by
  unfold FL_snag at hf
  obtain ⟨q, e, hf⟩ := jbind hf
  refine ⟨q, (jcv_o e).2, ?_⟩
  obtain ⟨q1, q2⟩ := q
  rcases q1 with v | k
  · obtain ⟨h2, e2, hf⟩ := jbind hf
    cases hf
    exact oc_asl e2
  · replace hf : (if k = 2 then some ((1 : Int32), q2) else if k = 1 then some ((2 : Int32), q2) else none) = some r := hf
    replace hf := jite hf
    rcases hf with ⟨-, hf⟩ | ⟨-, hf⟩
    · cases hf; exact ⟨rfl, rfl⟩
    replace hf := jite hf
    rcases hf with ⟨-, hf⟩ | ⟨-, hf⟩
    · cases hf; exact ⟨rfl, rfl⟩
    cases hf
theorem FLo_hook {n : Nat} {a0 : Nat} {x1 : Int32} {x2 : Int32} {a3 : Nat} {h : jH} {r : Int32 × jH} (hf : FL_hook n a0 x1 x2 a3 h = some r) : ∃ q : jR × jH, F_X11_hook n a0 x1 x2 h = some q ∧ oc r.2 = oc q.2 ∧ r.2.1 = q.2.1 := by
  unfold FL_hook at hf
  obtain ⟨q, e, hf⟩ := jbind hf
  refine ⟨q, (jcv_o e).2, ?_⟩
  obtain ⟨q1, q2⟩ := q
  rcases q1 with v | k
  · obtain ⟨h2, e2, hf⟩ := jbind hf
    cases hf
    exact oc_asl e2
  · replace hf : (if k = 2 then some ((1 : Int32), q2) else none) = some r := hf
    replace hf := jite hf
    rcases hf with ⟨-, hf⟩ | ⟨-, hf⟩
    · cases hf; exact ⟨rfl, rfl⟩
    cases hf
theorem FLo_sew {n : Nat} {a0 : Nat} {x1 : Int32} {x2 : Int32} {a3 : Nat} {h : jH} {r : Int32 × jH} (hf : FL_sew n a0 x1 x2 a3 h = some r) : ∃ q : jR × jH, F_X11_sew n a0 x1 x2 h = some q ∧ oc r.2 = oc q.2 ∧ r.2.1 = q.2.1 := by
  unfold FL_sew at hf
  obtain ⟨q, e, hf⟩ := jbind hf
  refine ⟨q, (jcv_o e).2, ?_⟩
  obtain ⟨q1, q2⟩ := q
  rcases q1 with v | k
  · obtain ⟨h2, e2, hf⟩ := jbind hf
    cases hf
    exact oc_asl e2
  · replace hf : (if k = 2 then some ((1 : Int32), q2) else if k = 0 then some ((2 : Int32), q2) else if k = 1 then some ((3 : Int32), q2) else none) = some r := hf
    replace hf := jite hf
    rcases hf with ⟨-, hf⟩ | ⟨-, hf⟩
    · cases hf; exact ⟨rfl, rfl⟩
    replace hf := jite hf
    rcases hf with ⟨-, hf⟩ | ⟨-, hf⟩
    · cases hf; exact ⟨rfl, rfl⟩
    replace hf := jite hf
    rcases hf with ⟨-, hf⟩ | ⟨-, hf⟩
    · cases hf; exact ⟨rfl, rfl⟩
    cases hf
theorem FLo_let {n : Nat} {a0 : Nat} {x1 : Int32} {x2 : Int32} {a3 : Nat} {h : jH} {r : Int32 × jH} (hf : FL_let n a0 x1 x2 a3 h = some r) : ∃ q : jR × jH, F_X11_let n a0 x1 x2 h = some q ∧ oc r.2 = oc q.2 ∧ r.2.1 = q.2.1 := by
  unfold FL_let at hf
  obtain ⟨q, e, hf⟩ := jbind hf
  refine ⟨q, (jcv_o e).2, ?_⟩
  obtain ⟨q1, q2⟩ := q
  rcases q1 with v | k
  · obtain ⟨h2, e2, hf⟩ := jbind hf
    cases hf
    exact oc_asl e2
  · replace hf : (if k = 2 then some ((1 : Int32), q2) else if k = 0 then some ((2 : Int32), q2) else none) = some r := hf
    replace hf := jite hf
    rcases hf with ⟨-, hf⟩ | ⟨-, hf⟩
    · cases hf; exact ⟨rfl, rfl⟩
    replace hf := jite hf
    rcases hf with ⟨-, hf⟩ | ⟨-, hf⟩
    · cases hf; exact ⟨rfl, rfl⟩
    cases hf
theorem FLo_chair {n : Nat} {a0 : Nat} {x1 : Int32} {x2 : Int32} {a3 : Nat} {h : jH} {r : Int32 × jH} (hf : FL_chair n a0 x1 x2 a3 h = some r) : ∃ q : jR × jH, F_X11_chair n a0 x1 x2 h = some q ∧ oc r.2 = oc q.2 ∧ r.2.1 = q.2.1 := by
  unfold FL_chair at hf
  obtain ⟨q, e, hf⟩ := jbind hf
  refine ⟨q, (jcv_o e).2, ?_⟩
  obtain ⟨q1, q2⟩ := q
  rcases q1 with v | k
  · obtain ⟨h2, e2, hf⟩ := jbind hf
    cases hf
    exact oc_asl e2
  · replace hf : (if k = 2 then some ((1 : Int32), q2) else none) = some r := hf
    replace hf := jite hf
    rcases hf with ⟨-, hf⟩ | ⟨-, hf⟩
    · cases hf; exact ⟨rfl, rfl⟩
    cases hf
theorem FLo_hours {n : Nat} {a0 : Nat} {x1 : Int32} {a2 : Nat} {h : jH} {r : Int32 × jH} (hf : FL_hours n a0 x1 a2 h = some r) : ∃ q : jR × jH, F_X11_hours n a0 x1 h = some q ∧ oc r.2 = oc q.2 ∧ r.2.1 = q.2.1 := by
  unfold FL_hours at hf
  obtain ⟨q, e, hf⟩ := jbind hf
  refine ⟨q, (jcv_o e).2, ?_⟩
  obtain ⟨q1, q2⟩ := q
  rcases q1 with v | k
  · obtain ⟨h2, e2, hf⟩ := jbind hf
    cases hf
    exact oc_asl e2
  · replace hf : (if k = 0 then some ((1 : Int32), q2) else none) = some r := hf
    replace hf := jite hf
    rcases hf with ⟨-, hf⟩ | ⟨-, hf⟩
    · cases hf; exact ⟨rfl, rfl⟩
    cases hf
theorem FLo_goes {n : Nat} {a0 : Nat} {x1 : Int32} {x2 : Int32} {a3 : Nat} {h : jH} {r : Int32 × jH} (hf : FL_goes n a0 x1 x2 a3 h = some r) : ∃ q : jR × jH, F_X11_goes n a0 x1 x2 h = some q ∧ oc r.2 = oc q.2 ∧ r.2.1 = q.2.1 := by
  unfold FL_goes at hf
  obtain ⟨q, e, hf⟩ := jbind hf
  refine ⟨q, (jcv_o e).2, ?_⟩
  obtain ⟨q1, q2⟩ := q
  rcases q1 with v | k
  · obtain ⟨h2, e2, hf⟩ := jbind hf
    cases hf
    exact oc_asl e2
  · replace hf : (if k = 2 then some ((1 : Int32), q2) else none) = some r := hf
    replace hf := jite hf
    rcases hf with ⟨-, hf⟩ | ⟨-, hf⟩
    · cases hf; exact ⟨rfl, rfl⟩
    cases hf
theorem FLo_with {n : Nat} {a0 : Nat} {x1 : Int32} {x2 : Int32} {a3 : Nat} {h : jH} {r : Int32 × jH} (hf : FL_with n a0 x1 x2 a3 h = some r) : ∃ q : jR × jH, F_X11_with n a0 x1 x2 h = some q ∧ oc r.2 = oc q.2 ∧ r.2.1 = q.2.1 := by
  unfold FL_with at hf
  obtain ⟨q, e, hf⟩ := jbind hf
  refine ⟨q, (jcv_o e).2, ?_⟩
  obtain ⟨q1, q2⟩ := q
  rcases q1 with v | k
  · obtain ⟨h2, e2, hf⟩ := jbind hf
    cases hf
    exact oc_asl e2
  · replace hf : (if k = 2 then some ((1 : Int32), q2) else none) = some r := hf
    replace hf := jite hf
    rcases hf with ⟨-, hf⟩ | ⟨-, hf⟩
    · cases hf; exact ⟨rfl, rfl⟩
    cases hf
theorem FLo_would {n : Nat} {a0 : Nat} {x1 : Int32} {x2 : Int32} {x3 : Int32} {x4 : Int32} {a5 : Nat} {h : jH} {r : Int32 × jH} (hf : FL_would n a0 x1 x2 x3 x4 a5 h = some r) : ∃ q : jR × jH, F_X11_would n a0 x1 x2 x3 x4 h = some q ∧ oc r.2 = oc q.2 ∧ r.2.1 = q.2.1 := by
  unfold FL_would at hf
  obtain ⟨q, e, hf⟩ := jbind hf
  refine ⟨q, (jcv_o e).2, ?_⟩
  obtain ⟨q1, q2⟩ := q
  rcases q1 with v | k
  · obtain ⟨h2, e2, hf⟩ := jbind hf
    cases hf
    exact oc_asl e2
  · replace hf : (if k = 2 then some ((1 : Int32), q2) else if k = 0 then some ((2 : Int32), q2) else none) = some r := hf
    replace hf := jite hf
    rcases hf with ⟨-, hf⟩ | ⟨-, hf⟩
    · cases hf; exact ⟨rfl, rfl⟩
    replace hf := jite hf
    rcases hf with ⟨-, hf⟩ | ⟨-, hf⟩
    · cases hf; exact ⟨rfl, rfl⟩
    cases hf
theorem FLo_snags {n : Nat} {a0 : Nat} {x1 : Int32} {a2 : Nat} {h : jH} {r : Int32 × jH} (hf : FL_snags n a0 x1 a2 h = some r) : ∃ q : jR × jH, F_X11_snags n a0 x1 h = some q ∧ oc r.2 = oc q.2 ∧ r.2.1 = q.2.1 := by
  unfold FL_snags at hf
  obtain ⟨q, e, hf⟩ := jbind hf
  refine ⟨q, (jcv_o e).2, ?_⟩
  obtain ⟨q1, q2⟩ := q
  rcases q1 with v | k
  · obtain ⟨h2, e2, hf⟩ := jbind hf
    cases hf
    exact oc_asl e2
  · replace hf : (if k = 0 then some ((1 : Int32), q2) else none) = some r := hf
    replace hf := jite hf
    rcases hf with ⟨-, hf⟩ | ⟨-, hf⟩
    · cases hf; exact ⟨rfl, rfl⟩
    cases hf
theorem FLo_tries {n : Nat} {a0 : Nat} {a1 : Nat} {h : jH} {r : Int32 × jH} (hf : FL_tries n a0 a1 h = some r) : ∃ q : jR × jH, F_X11_tries n a0 h = some q ∧ oc r.2 = oc q.2 ∧ r.2.1 = q.2.1 := by
  unfold FL_tries at hf
  obtain ⟨q, e, hf⟩ := jbind hf
  refine ⟨q, (jcv_o e).2, ?_⟩
  obtain ⟨q1, q2⟩ := q
  rcases q1 with v | k
  · obtain ⟨h2, e2, hf⟩ := jbind hf
    cases hf
    exact oc_asl e2
  · replace hf : (if k = 0 then some ((1 : Int32), q2) else none) = some r := hf
    replace hf := jite hf
    rcases hf with ⟨-, hf⟩ | ⟨-, hf⟩
    · cases hf; exact ⟨rfl, rfl⟩
    cases hf
theorem FLo_loosen {n : Nat} {a0 : Nat} {x1 : Int32} {x2 : Int32} {x3 : Int32} {a4 : Nat} {h : jH} {r : Int32 × jH} (hf : FL_loosen n a0 x1 x2 x3 a4 h = some r) : ∃ q : jR × jH, F_X11_loosen n a0 x1 x2 x3 h = some q ∧ oc r.2 = oc q.2 ∧ r.2.1 = q.2.1 := by
  unfold FL_loosen at hf
  obtain ⟨q, e, hf⟩ := jbind hf
  refine ⟨q, (jcv_o e).2, ?_⟩
  obtain ⟨q1, q2⟩ := q
  rcases q1 with v | k
  · obtain ⟨h2, e2, hf⟩ := jbind hf
    cases hf
    exact oc_asl e2
  · replace hf : (if k = 2 then some ((1 : Int32), q2) else if k = 0 then some ((2 : Int32), q2) else none) = some r := hf
    replace hf := jite hf
    rcases hf with ⟨-, hf⟩ | ⟨-, hf⟩
    · cases hf; exact ⟨rfl, rfl⟩
    replace hf := jite hf
    rcases hf with ⟨-, hf⟩ | ⟨-, hf⟩
    · cases hf; exact ⟨rfl, rfl⟩
    cases hf
theorem FLo_tight {n : Nat} {a0 : Nat} {x1 : Int32} {a2 : Nat} {h : jH} {r : Int32 × jH} (hf : FL_tight n a0 x1 a2 h = some r) : ∃ q : jR × jH, F_X11_tight n a0 x1 h = some q ∧ oc r.2 = oc q.2 ∧ r.2.1 = q.2.1 := by
  unfold FL_tight at hf
  obtain ⟨q, e, hf⟩ := jbind hf
  refine ⟨q, (jcv_o e).2, ?_⟩
  obtain ⟨q1, q2⟩ := q
  rcases q1 with v | k
  · obtain ⟨h2, e2, hf⟩ := jbind hf
    cases hf
    exact oc_asl e2
  · replace hf : (if k = 0 then some ((1 : Int32), q2) else none) = some r := hf
    replace hf := jite hf
    rcases hf with ⟨-, hf⟩ | ⟨-, hf⟩
    · cases hf; exact ⟨rfl, rfl⟩
    cases hf
theorem FLo_lit {n : Nat} {a0 : Nat} {x1 : Int32} {a2 : Nat} {h : jH} {r : Int32 × jH} (hf : FL_lit n a0 x1 a2 h = some r) : ∃ q : jR × jH, F_X11_lit n a0 x1 h = some q ∧ oc r.2 = oc q.2 ∧ r.2.1 = q.2.1 := by
  unfold FL_lit at hf
  obtain ⟨q, e, hf⟩ := jbind hf
  refine ⟨q, (jcv_o e).2, ?_⟩
  obtain ⟨q1, q2⟩ := q
  rcases q1 with v | k
  · obtain ⟨h2, e2, hf⟩ := jbind hf
    cases hf
    exact oc_asl e2
  · replace hf : (if k = 2 then some ((1 : Int32), q2) else none) = some r := hf
    replace hf := jite hf
    rcases hf with ⟨-, hf⟩ | ⟨-, hf⟩
    · cases hf; exact ⟨rfl, rfl⟩
    cases hf
theorem FLo_faded {n : Nat} {a0 : Nat} {x1 : Int32} {a2 : Nat} {h : jH} {r : Int32 × jH} (hf : FL_faded n a0 x1 a2 h = some r) : ∃ q : jR × jH, F_X11_faded n a0 x1 h = some q ∧ oc r.2 = oc q.2 ∧ r.2.1 = q.2.1 := by
  unfold FL_faded at hf
  obtain ⟨q, e, hf⟩ := jbind hf
  refine ⟨q, (jcv_o e).2, ?_⟩
  obtain ⟨q1, q2⟩ := q
  rcases q1 with v | k
  · obtain ⟨h2, e2, hf⟩ := jbind hf
    cases hf
    exact oc_asl e2
  · replace hf : (if k = 0 then some ((1 : Int32), q2) else none) = some r := hf
    replace hf := jite hf
    rcases hf with ⟨-, hf⟩ | ⟨-, hf⟩
    · cases hf; exact ⟨rfl, rfl⟩
    cases hf
theorem FLo_lets {n : Nat} {a0 : Nat} {x1 : Int32} {x2 : Int32} {a3 : Nat} {h : jH} {r : Int32 × jH} (hf : FL_lets n a0 x1 x2 a3 h = some r) : ∃ q : jR × jH, F_X11_lets n a0 x1 x2 h = some q ∧ oc r.2 = oc q.2 ∧ r.2.1 = q.2.1 := by
  unfold FL_lets at hf
  obtain ⟨q, e, hf⟩ := jbind hf
  refine ⟨q, (jcv_o e).2, ?_⟩
  obtain ⟨q1, q2⟩ := q
  rcases q1 with v | k
  · obtain ⟨h2, e2, hf⟩ := jbind hf
    cases hf
    exact oc_asl e2
  · replace hf : (if k = 2 then some ((1 : Int32), q2) else if k = 0 then some ((2 : Int32), q2) else none) = some r := hf
    replace hf := jite hf
    rcases hf with ⟨-, hf⟩ | ⟨-, hf⟩
    · cases hf; exact ⟨rfl, rfl⟩
    replace hf := jite hf
    rcases hf with ⟨-, hf⟩ | ⟨-, hf⟩
    · cases hf; exact ⟨rfl, rfl⟩
    cases hf
theorem FLo_rests {n : Nat} {a0 : Nat} {x1 : Int32} {a2 : Nat} {h : jH} {r : Int32 × jH} (hf : FL_rests n a0 x1 a2 h = some r) : ∃ q : jR × jH, F_X11_rests n a0 x1 h = some q ∧ oc r.2 = oc q.2 ∧ r.2.1 = q.2.1 := by
  unfold FL_rests at hf
  obtain ⟨q, e, hf⟩ := jbind hf
  refine ⟨q, (jcv_o e).2, ?_⟩
  obtain ⟨q1, q2⟩ := q
  rcases q1 with v | k
  · obtain ⟨h2, e2, hf⟩ := jbind hf
    cases hf
    exact oc_asl e2
  · replace hf : (if k = 2 then some ((1 : Int32), q2) else none) = some r := hf
    replace hf := jite hf
    rcases hf with ⟨-, hf⟩ | ⟨-, hf⟩
    · cases hf; exact ⟨rfl, rfl⟩
    cases hf
theorem FLo_odds {n : Nat} {a0 : Nat} {x1 : Int32} {x2 : Int32} {a3 : Nat} {h : jH} {r : Int32 × jH} (hf : FL_odds n a0 x1 x2 a3 h = some r) : ∃ q : jR × jH, F_X11_odds n a0 x1 x2 h = some q ∧ oc r.2 = oc q.2 ∧ r.2.1 = q.2.1 := by
  unfold FL_odds at hf
  obtain ⟨q, e, hf⟩ := jbind hf
  refine ⟨q, (jcv_o e).2, ?_⟩
  obtain ⟨q1, q2⟩ := q
  rcases q1 with v | k
  · obtain ⟨h2, e2, hf⟩ := jbind hf
    cases hf
    exact oc_asl e2
  · replace hf : (if k = 2 then some ((1 : Int32), q2) else if k = 0 then some ((2 : Int32), q2) else none) = some r := hf
    replace hf := jite hf
    rcases hf with ⟨-, hf⟩ | ⟨-, hf⟩
    · cases hf; exact ⟨rfl, rfl⟩
    replace hf := jite hf
    rcases hf with ⟨-, hf⟩ | ⟨-, hf⟩
    · cases hf; exact ⟨rfl, rfl⟩
    cases hf
theorem FLo_ahead {n : Nat} {a0 : Nat} {x1 : Int32} {x2 : Int32} {a3 : Nat} {h : jH} {r : Int32 × jH} (hf : FL_ahead n a0 x1 x2 a3 h = some r) : ∃ q : jR × jH, F_X11_ahead n a0 x1 x2 h = some q ∧ oc r.2 = oc q.2 ∧ r.2.1 = q.2.1 := by
  unfold FL_ahead at hf
  obtain ⟨q, e, hf⟩ := jbind hf
  refine ⟨q, (jcv_o e).2, ?_⟩
  obtain ⟨q1, q2⟩ := q
  rcases q1 with v | k
  · obtain ⟨h2, e2, hf⟩ := jbind hf
    cases hf
    exact oc_asl e2
  · replace hf : (if k = 2 then some ((1 : Int32), q2) else if k = 0 then some ((2 : Int32), q2) else none) = some r := hf
    replace hf := jite hf
    rcases hf with ⟨-, hf⟩ | ⟨-, hf⟩
    · cases hf; exact ⟨rfl, rfl⟩
    replace hf := jite hf
    rcases hf with ⟨-, hf⟩ | ⟨-, hf⟩
    · cases hf; exact ⟨rfl, rfl⟩
    cases hf
theorem FLo_trial {n : Nat} {a0 : Nat} {x1 : Int32} {x2 : Int32} {a3 : Nat} {h : jH} {r : Int32 × jH} (hf : FL_trial n a0 x1 x2 a3 h = some r) : ∃ q : jR × jH, F_X11_trial n a0 x1 x2 h = some q ∧ oc r.2 = oc q.2 ∧ r.2.1 = q.2.1 := by
  unfold FL_trial at hf
  obtain ⟨q, e, hf⟩ := jbind hf
  refine ⟨q, (jcv_o e).2, ?_⟩
  obtain ⟨q1, q2⟩ := q
  rcases q1 with v | k
  · obtain ⟨h2, e2, hf⟩ := jbind hf
    cases hf
    exact oc_asl e2
  · replace hf : (if k = 0 then some ((1 : Int32), q2) else none) = some r := hf
    replace hf := jite hf
    rcases hf with ⟨-, hf⟩ | ⟨-, hf⟩
    · cases hf; exact ⟨rfl, rfl⟩
    cases hf
theorem FLo_span {n : Nat} {a0 : Nat} {x1 : Int32} {x2 : Int32} {a3 : Nat} {h : jH} {r : Int32 × jH} (hf : FL_span n a0 x1 x2 a3 h = some r) : ∃ q : jR × jH, F_X11_span n a0 x1 x2 h = some q ∧ oc r.2 = oc q.2 ∧ r.2.1 = q.2.1 := by
  unfold FL_span at hf
  obtain ⟨q, e, hf⟩ := jbind hf
  refine ⟨q, (jcv_o e).2, ?_⟩
  obtain ⟨q1, q2⟩ := q
  rcases q1 with v | k
  · obtain ⟨h2, e2, hf⟩ := jbind hf
    cases hf
    exact oc_asl e2
  · replace hf : (if k = 0 then some ((1 : Int32), q2) else none) = some r := hf
    replace hf := jite hf
    rcases hf with ⟨-, hf⟩ | ⟨-, hf⟩
    · cases hf; exact ⟨rfl, rfl⟩
    cases hf
theorem FLo_led {n : Nat} {a0 : Nat} {x1 : Int32} {x2 : Int32} {a3 : Nat} {h : jH} {r : Int32 × jH} (hf : FL_led n a0 x1 x2 a3 h = some r) : ∃ q : jR × jH, F_X11_led n a0 x1 x2 h = some q ∧ oc r.2 = oc q.2 ∧ r.2.1 = q.2.1 := by
  unfold FL_led at hf
  obtain ⟨q, e, hf⟩ := jbind hf
  refine ⟨q, (jcv_o e).2, ?_⟩
  obtain ⟨q1, q2⟩ := q
  rcases q1 with v | k
  · obtain ⟨h2, e2, hf⟩ := jbind hf
    cases hf
    exact oc_asl e2
  · replace hf : (if k = 2 then some ((1 : Int32), q2) else none) = some r := hf
    replace hf := jite hf
    rcases hf with ⟨-, hf⟩ | ⟨-, hf⟩
    · cases hf; exact ⟨rfl, rfl⟩
    cases hf
theorem FLo_log {n : Nat} {a0 : Nat} {x1 : Int32} {x2 : Int32} {a3 : Nat} {h : jH} {r : Int32 × jH} (hf : FL_log n a0 x1 x2 a3 h = some r) : ∃ q : jR × jH, F_X11_log n a0 x1 x2 h = some q ∧ oc r.2 = oc q.2 ∧ r.2.1 = q.2.1 := by
  unfold FL_log at hf
  obtain ⟨q, e, hf⟩ := jbind hf
  refine ⟨q, (jcv_o e).2, ?_⟩
  obtain ⟨q1, q2⟩ := q
  rcases q1 with v | k
  · obtain ⟨h2, e2, hf⟩ := jbind hf
    cases hf
    exact oc_asl e2
  · replace hf : (if k = 4 then some ((1 : Int32), q2) else none) = some r := hf
    replace hf := jite hf
    rcases hf with ⟨-, hf⟩ | ⟨-, hf⟩
    · cases hf; exact ⟨rfl, rfl⟩
    cases hf
end
section
/-! the calls that the law makes through its own methods: between class and reference stands what the law wrote -/
theorem rAct_oc {m r : Nat} {W2 : jWd} {h h1 p : jH} (ho : oc h1 = oc h) (D : rAct m r W2 h1 p) : rAct m r W2 h (h.1, p.2) := by
  obtain ⟨a, b, c, d, e, f, g⟩ := D
  rw [ho] at d e f
  exact ⟨a, b, c, d, e, f, rfl⟩
theorem eq_z2 {x nx r L : Nat} {W : jWd} {h1 h2 p : jH} (hz : h2.1 ≤ h1.1) (s : p.1 = h1.1) (E : eqS x nx r L W (h2.1, p.2)) : eqS x nx r L W p := eq_oc E rfl (by rw [s]; exact hz)
theorem eqz_let {x nx r L n : Nat} {W : jWd} {v w : Int32} {h : jH} {q : jR × jH} {p : Int32 × jH} (E : eqS x nx r L W h) (e1 : F_X11_let n x v w h = some q) {h1 : jH} (ho : oc h1 = oc q.2) (hz : q.2.1 ≤ h1.1) (e2 : F_X12_let n (x + 40) v w h1 = some p) : (∃ nx2 r2 W2, eqS x nx2 r2 L W2 p.2) ∧ ansE [(2, 1), (0, 2)] q.1 p.1 (oi (oc p.2) (x + 40) 0) := by
  have C := eq_pre E
  obtain ⟨⟨-, -, -, -, -, -, -, M⟩, ⟨-, -, -, n4, n5, -⟩, ⟨-, hw, K, -, LK, LB⟩, -⟩ := id E
  rcases E_X11_let C e1 with ⟨P, y, z⟩ | ⟨i, h8, hi, hi0, ⟨P, y, z⟩ | ⟨P, y, A⟩⟩
  · rw [z] at ho hz
    have E1 := eq_oc E ho hz
    obtain ⟨⟨-, -, -, -, -, -, -, M⟩, ⟨-, -, -, n4, n5, -⟩, ⟨-, hw, K, -, LK, LB⟩, -⟩ := id E1
    rcases E_X12_let M hw K n4 n5 e2 with ⟨-, y2, T⟩ | ⟨j, j8, hj, hj0, -⟩
    · exact ⟨⟨_, _, _, eq_thr E1 T⟩, Or.inr ⟨(2, 1), by simp, y, y2, T.1⟩⟩
    · exact absurd (no_ring K j8 hj hj0) P
  · rw [z] at ho hz
    have E1 := eq_oc E ho hz
    obtain ⟨⟨-, -, -, -, -, -, -, M⟩, ⟨-, -, -, n4, n5, -⟩, ⟨-, hw, K, -, LK, LB⟩, -⟩ := id E1
    rcases E_X12_let M hw K n4 n5 e2 with ⟨P2, -, -⟩ | ⟨j, j8, hj, hj0, ⟨-, y2, T⟩ | ⟨P2, -, -⟩⟩
    · exact absurd (no_ring K h8 hi hi0) P2
    · exact ⟨⟨_, _, _, eq_thr E1 T⟩, Or.inr ⟨(0, 2), by simp, y, y2, T.1⟩⟩
    · exact absurd P2 P
  · obtain ⟨M2, w2, g2⟩ := eq_mid E A
    rw [← ho] at M2 w2 g2
    rcases E_X12_let M2 w2 K g2 n5 e2 with ⟨P2, -, -⟩ | ⟨j, j8, hj, hj0, ⟨P2, -, -⟩ | ⟨-, y2, D⟩⟩
    · exact absurd (no_ring K h8 hi hi0) P2
    · exact absurd P P2
    · have ij : j = i := (nI_eq (by omega) (by omega)).mp (hj.symm.trans hi)
      subst ij
      have hl := up_law (W := W) (i := 16 + 8 * j) (x := w) ⟨by omega, by omega⟩
      exact ⟨⟨_, _, _, eq_z2 hz D.2.2.2.2.2.2 (eq_act E A (rAct_oc ho D) (wOK_ln K P) hl (lawK_cg LK hl) (lawB_cg LB hl))⟩, Or.inl ⟨by rw [y, y2], D.1⟩⟩
theorem eqz_hook {x nx r L n : Nat} {W : jWd} {v w : Int32} {h : jH} {q : jR × jH} {p : Int32 × jH} (hw2 : w = 0 ∨ w = 1) (E : eqS x nx r L W h) (e1 : F_X11_hook n x v w h = some q) {h1 : jH} (ho : oc h1 = oc q.2) (hz : q.2.1 ≤ h1.1) (e2 : F_X12_hook n (x + 40) v w h1 = some p) : (∃ nx2 r2 W2, eqS x nx2 r2 L W2 p.2) ∧ ansE [(2, 1)] q.1 p.1 (oi (oc p.2) (x + 40) 0) := by
  have C := eq_pre E
  obtain ⟨⟨-, -, -, -, -, -, -, M⟩, ⟨-, -, -, n4, n5, -⟩, ⟨-, hw, K, -, LK, LB⟩, -⟩ := id E
  rcases E_X11_hook C hw2 e1 with ⟨P, y, z⟩ | ⟨i, h8, hi, hi0, y, A⟩
  · rw [z] at ho hz
    have E1 := eq_oc E ho hz
    obtain ⟨⟨-, -, -, -, -, -, -, M⟩, ⟨-, -, -, n4, n5, -⟩, ⟨-, hw, K, -, LK, LB⟩, -⟩ := id E1
    rcases E_X12_hook M hw K n4 n5 hw2 e2 with ⟨-, y2, T⟩ | ⟨j, j8, hj, hj0, -⟩
    · exact ⟨⟨_, _, _, eq_thr E1 T⟩, Or.inr ⟨(2, 1), by simp, y, y2, T.1⟩⟩
    · exact absurd (no_ring K j8 hj hj0) P
  · obtain ⟨M2, w2, g2⟩ := eq_mid E A
    rw [← ho] at M2 w2 g2
    rcases E_X12_hook M2 w2 K g2 n5 hw2 e2 with ⟨P2, -, -⟩ | ⟨j, j8, hj, hj0, y2, D⟩
    · exact absurd (no_ring K h8 hi hi0) P2
    · have ij : j = i := (nI_eq (by omega) (by omega)).mp (hj.symm.trans hi)
      subst ij
      have hl := up_law (W := W) (i := 17 + 8 * j) (x := w) ⟨by omega, by omega⟩
      exact ⟨⟨_, _, _, eq_z2 hz D.2.2.2.2.2.2 (eq_act E A (rAct_oc ho D) (wOK_hk K hw2) hl (lawK_cg LK hl) (lawB_cg LB hl))⟩, Or.inl ⟨by rw [y, y2], D.1⟩⟩
theorem eqz_chair {x nx r L n : Nat} {W : jWd} {v w : Int32} {h : jH} {q : jR × jH} {p : Int32 × jH} (hw2 : w = 0 ∨ w = 1) (E : eqS x nx r L W h) (e1 : F_X11_chair n x v w h = some q) {h1 : jH} (ho : oc h1 = oc q.2) (hz : q.2.1 ≤ h1.1) (e2 : F_X12_chair n (x + 40) v w h1 = some p) : (∃ nx2 r2 W2, eqS x nx2 r2 L W2 p.2) ∧ ansE [(2, 1)] q.1 p.1 (oi (oc p.2) (x + 40) 0) := by
  have C := eq_pre E
  obtain ⟨⟨-, -, -, -, -, -, -, M⟩, ⟨-, -, -, n4, n5, -⟩, ⟨-, hw, K, -, LK, LB⟩, -⟩ := id E
  have pl : ∀ i : Nat, i < 32 → v = nI i → 0 ≤ v.toInt ∧ v.toInt ≤ 31 := fun i h1 h2 => by rw [h2, nI_toInt (by omega)]; omega
  rcases E_X11_chair C e1 with ⟨P, y, z⟩ | ⟨i, h8, hi, y, A⟩
  · rw [z] at ho hz
    have E1 := eq_oc E ho hz
    obtain ⟨⟨-, -, -, -, -, -, -, M⟩, ⟨-, -, -, n4, n5, -⟩, ⟨-, hw, K, -, LK, LB⟩, -⟩ := id E1
    rcases E_X12_chair M hw K n4 n5 hw2 e2 with ⟨-, y2, T⟩ | ⟨j, j8, hj, -⟩
    · exact ⟨⟨_, _, _, eq_thr E1 T⟩, Or.inr ⟨(2, 1), by simp, y, y2, T.1⟩⟩
    · exact absurd (pl j j8 hj) P
  · obtain ⟨M2, w2, g2⟩ := eq_mid E A
    rw [← ho] at M2 w2 g2
    rcases E_X12_chair M2 w2 K g2 n5 hw2 e2 with ⟨P2, -, -⟩ | ⟨j, j8, hj, y2, D⟩
    · exact absurd (pl i h8 hi) P2
    · have ij : j = i := (nI_eq (by omega) (by omega)).mp (hj.symm.trans hi)
      subst ij
      have hl := up_law (W := W) (i := 7) (x := chV (W 7) j w) ⟨by omega, by omega⟩
      exact ⟨⟨_, _, _, eq_z2 hz D.2.2.2.2.2.2 (eq_act E A (rAct_oc ho D) (wOK_7 K) hl (lawK_cg LK hl) (lawB_cg LB hl))⟩, Or.inl ⟨by rw [y, y2], D.1⟩⟩
theorem eqz_free {x nx r L n : Nat} {W : jWd} {v : Int32} {h : jH} {q : jR × jH} {p : Int32 × jH} (E : eqS x nx r L W h) (e1 : F_X11_free n x v h = some q) {h1 : jH} (ho : oc h1 = oc q.2) (hz : q.2.1 ≤ h1.1) (e2 : F_X12_free n (x + 40) v h1 = some p) : (∃ nx2 r2 W2, eqS x nx2 r2 L W2 p.2) ∧ ansE [(2, 1), (1, 2)] q.1 p.1 (oi (oc p.2) (x + 40) 0) := by
  have C := eq_pre E
  obtain ⟨⟨-, -, -, -, -, -, -, M⟩, ⟨-, -, -, n4, n5, -⟩, ⟨-, hw, K, -, LK, LB⟩, -⟩ := id E
  rcases E_X11_free C e1 with ⟨P, y, z⟩ | ⟨i, h8, hi, hi0, ⟨P, y, z⟩ | ⟨P, P3, y, A⟩⟩
  · rw [z] at ho hz
    have E1 := eq_oc E ho hz
    obtain ⟨⟨-, -, -, -, -, -, -, M⟩, ⟨-, -, -, n4, n5, -⟩, ⟨-, hw, K, -, LK, LB⟩, -⟩ := id E1
    rcases E_X12_free M hw K n4 n5 e2 with ⟨-, y2, T⟩ | ⟨j, j8, hj, hj0, -⟩
    · exact ⟨⟨_, _, _, eq_thr E1 T⟩, Or.inr ⟨(2, 1), by simp, y, y2, T.1⟩⟩
    · exact absurd (no_ring K j8 hj hj0) P
  · rw [z] at ho hz
    have E1 := eq_oc E ho hz
    obtain ⟨⟨-, -, -, -, -, -, -, M⟩, ⟨-, -, -, n4, n5, -⟩, ⟨-, hw, K, -, LK, LB⟩, -⟩ := id E1
    rcases E_X12_free M hw K n4 n5 e2 with ⟨P2, -, -⟩ | ⟨j, j8, hj, hj0, ⟨-, y2, T⟩ | ⟨P2, -, -, -⟩⟩
    · exact absurd (no_ring K h8 hi hi0) P2
    · exact ⟨⟨_, _, _, eq_thr E1 T⟩, Or.inr ⟨(1, 2), by simp, y, y2, T.1⟩⟩
    · have ij : j = i := (nI_eq (by omega) (by omega)).mp (hj.symm.trans hi)
      subst ij
      exact absurd P P2
  · obtain ⟨M2, w2, g2⟩ := eq_mid E A
    rw [← ho] at M2 w2 g2
    rcases E_X12_free M2 w2 K g2 n5 e2 with ⟨P2, -, -⟩ | ⟨j, j8, hj, hj0, ⟨P2, -, -⟩ | ⟨-, -, y2, D⟩⟩
    · exact absurd (no_ring K h8 hi hi0) P2
    · have ij : j = i := (nI_eq (by omega) (by omega)).mp (hj.symm.trans hi)
      subst ij
      exact absurd P2 P
    · have ij : j = i := (nI_eq (by omega) (by omega)).mp (hj.symm.trans hi)
      subst ij
      have hl := up_law (W := W) (i := 18 + 8 * j) (x := 0) ⟨by omega, by omega⟩
      exact ⟨⟨_, _, _, eq_z2 hz D.2.2.2.2.2.2 (eq_act E A (rAct_oc ho D) (wOK_ct K (Or.inl rfl)) hl (lawK_cg LK hl) (lawB_cg LB hl))⟩, Or.inl ⟨by rw [y, y2], D.1⟩⟩
theorem eqz_snag {x nx r L n : Nat} {W : jWd} {v : Int32} {h : jH} {q : jR × jH} {p : Int32 × jH} (E : eqS x nx r L W h) (e1 : F_X11_snag n x v h = some q) {h1 : jH} (ho : oc h1 = oc q.2) (hz : q.2.1 ≤ h1.1) (e2 : F_X12_snag n (x + 40) v h1 = some p) : (∃ nx2 r2 W2, eqS x nx2 r2 L W2 p.2) ∧ ansE [(2, 1), (1, 2)] q.1 p.1 (oi (oc p.2) (x + 40) 0) := by
  have C := eq_pre E
  obtain ⟨⟨-, -, -, -, -, -, -, M⟩, ⟨-, -, -, n4, n5, -⟩, ⟨-, hw, K, -, LK, LB⟩, -⟩ := id E
  rcases E_X11_snag C e1 with ⟨P, y, z⟩ | ⟨i, h8, hi, hi0, ⟨P, y, z⟩ | ⟨P, P3, y, A⟩⟩
  · rw [z] at ho hz
    have E1 := eq_oc E ho hz
    obtain ⟨⟨-, -, -, -, -, -, -, M⟩, ⟨-, -, -, n4, n5, -⟩, ⟨-, hw, K, -, LK, LB⟩, -⟩ := id E1
    rcases E_X12_snag M hw K n4 n5 e2 with ⟨-, y2, T⟩ | ⟨j, j8, hj, hj0, -⟩
    · exact ⟨⟨_, _, _, eq_thr E1 T⟩, Or.inr ⟨(2, 1), by simp, y, y2, T.1⟩⟩
    · exact absurd (no_ring K j8 hj hj0) P
  · rw [z] at ho hz
    have E1 := eq_oc E ho hz
    obtain ⟨⟨-, -, -, -, -, -, -, M⟩, ⟨-, -, -, n4, n5, -⟩, ⟨-, hw, K, -, LK, LB⟩, -⟩ := id E1
    rcases E_X12_snag M hw K n4 n5 e2 with ⟨P2, -, -⟩ | ⟨j, j8, hj, hj0, ⟨-, y2, T⟩ | ⟨P2, -, -, -⟩⟩
    · exact absurd (no_ring K h8 hi hi0) P2
    · exact ⟨⟨_, _, _, eq_thr E1 T⟩, Or.inr ⟨(1, 2), by simp, y, y2, T.1⟩⟩
    · have ij : j = i := (nI_eq (by omega) (by omega)).mp (hj.symm.trans hi)
      subst ij
      exact absurd P P2
  · obtain ⟨M2, w2, g2⟩ := eq_mid E A
    rw [← ho] at M2 w2 g2
    rcases E_X12_snag M2 w2 K g2 n5 e2 with ⟨P2, -, -⟩ | ⟨j, j8, hj, hj0, ⟨P2, -, -⟩ | ⟨-, -, y2, D⟩⟩
    · exact absurd (no_ring K h8 hi hi0) P2
    · have ij : j = i := (nI_eq (by omega) (by omega)).mp (hj.symm.trans hi)
      subst ij
      exact absurd P2 P
    · have ij : j = i := (nI_eq (by omega) (by omega)).mp (hj.symm.trans hi)
      subst ij
      have hl := up_law (W := W) (i := 18 + 8 * j) (x := 1) ⟨by omega, by omega⟩
      exact ⟨⟨_, _, _, eq_z2 hz D.2.2.2.2.2.2 (eq_act E A (rAct_oc ho D) (wOK_ct K (Or.inr ⟨rfl, P3⟩)) hl (lawK_cg LK hl) (lawB_cg LB hl))⟩, Or.inl ⟨by rw [y, y2], D.1⟩⟩
theorem eqz_pull {x nx r L n : Nat} {W : jWd} {d : Bool} {v s w : Int32} {h : jH} {q : jR × jH} {p : Int32 × jH} (hd : s = dI d) (E : eqS x nx r L W h) (e1 : F_X11_pull n x v s w h = some q) {h1 : jH} (ho : oc h1 = oc q.2) (hz : q.2.1 ≤ h1.1) (e2 : F_X12_pull n (x + 40) v s w h1 = some p) : (∃ nx2 r2 W2, eqS x nx2 r2 L W2 p.2) ∧ ansE [(2, 1), (0, 2)] q.1 p.1 (oi (oc p.2) (x + 40) 0) := by
  have C := eq_pre E
  obtain ⟨⟨-, -, -, -, -, -, -, M⟩, ⟨-, -, -, n4, n5, -⟩, ⟨-, hw, K, -, LK, LB⟩, -⟩ := id E
  have st : ∀ N : Nat, N < 32 → 1 ≤ N → w = nI N → 1 ≤ w.toInt ∧ w.toInt ≤ 31 := fun i h1 h2 h3 => by rw [h3, nI_toInt (by omega)]; omega
  rcases E_X11_pull C hd e1 with ⟨P, y, z⟩ | ⟨i, h8, hi, hi0, ⟨P, y, z⟩ | ⟨N, f, hN, hN1, h3, F, y, K3, A⟩⟩
  · rw [z] at ho hz
    have E1 := eq_oc E ho hz
    obtain ⟨⟨-, -, -, -, -, -, -, M⟩, ⟨-, -, -, n4, n5, -⟩, ⟨-, hw, K, -, LK, LB⟩, -⟩ := id E1
    rcases E_X12_pull M hw K n4 n5 hd e2 with ⟨-, y2, T⟩ | ⟨j, j8, hj, hj0, -⟩
    · exact ⟨⟨_, _, _, eq_thr E1 T⟩, Or.inr ⟨(2, 1), by simp, y, y2, T.1⟩⟩
    · exact absurd (no_ring K j8 hj hj0) P
  · rw [z] at ho hz
    have E1 := eq_oc E ho hz
    obtain ⟨⟨-, -, -, -, -, -, -, M⟩, ⟨-, -, -, n4, n5, -⟩, ⟨-, hw, K, -, LK, LB⟩, -⟩ := id E1
    rcases E_X12_pull M hw K n4 n5 hd e2 with ⟨P2, -, -⟩ | ⟨j, j8, hj, hj0, ⟨-, y2, T⟩ | ⟨N, f, hN, hN1, h3, -⟩⟩
    · exact absurd (no_ring K h8 hi hi0) P2
    · exact ⟨⟨_, _, _, eq_thr E1 T⟩, Or.inr ⟨(0, 2), by simp, y, y2, T.1⟩⟩
    · exact absurd (st N hN hN1 h3) P
  · obtain ⟨M2, w2, g2⟩ := eq_mid E A
    rw [← ho] at M2 w2 g2
    rcases E_X12_pull M2 w2 K g2 n5 hd e2 with ⟨P2, -, -⟩ | ⟨j, j8, hj, hj0, ⟨P2, -, -⟩ | ⟨N2, f2, hN2, hN12, h32, F2, y2, D⟩⟩
    · exact absurd (no_ring K h8 hi hi0) P2
    · exact absurd (st N hN hN1 h3) P2
    · have ij : j = i := (nI_eq (by omega) (by omega)).mp (hj.symm.trans hi)
      subst ij
      have NN : N2 = N := (nI_eq (by omega) (by omega)).mp (h32.symm.trans h3)
      subst NN
      have ff := isF_u F2 F
      subst ff
      have hl := pl_law (W := W) (r := j) (i := j) (f := f2) (d := d) (x := nI j) (y := 0) (z := nI f2)
      exact ⟨⟨_, _, _, eq_z2 hz D.2.2.2.2.2.2 (eq_act E A (rAct_oc ho D) (wOK_tl K3) hl (lawK_cg LK hl) (lawB_cg LB hl))⟩, Or.inl ⟨by rw [y, y2], D.1⟩⟩
theorem eqz_sew {x nx r L n : Nat} {W : jWd} {v w : Int32} {h : jH} {q : jR × jH} {p : Int32 × jH} (E : eqS x nx r L W h) (e1 : F_X11_sew n x v w h = some q) {h1 : jH} (ho : oc h1 = oc q.2) (hz : q.2.1 ≤ h1.1) (e2 : F_X12_sew n (x + 40) v w h1 = some p) : (∃ nx2 r2 W2, eqS x nx2 r2 L W2 p.2) ∧ ansE [(2, 1), (0, 2), (1, 3)] q.1 p.1 (oi (oc p.2) (x + 40) 0) := by
  have C := eq_pre E
  obtain ⟨⟨-, -, -, -, -, -, -, M⟩, ⟨-, -, -, n4, n5, -⟩, ⟨-, hw, K, -, LK, LB⟩, -⟩ := id E
  rcases E_X11_sew C e1 with ⟨P, y, z⟩ | ⟨P, ⟨Q, y, z⟩ | ⟨Q, ⟨U, y, z⟩ | ⟨U, y, A⟩⟩⟩
  · rw [z] at ho hz
    have E1 := eq_oc E ho hz
    obtain ⟨⟨-, -, -, -, -, -, -, M⟩, ⟨-, -, -, n4, n5, -⟩, ⟨-, hw, K, -, LK, LB⟩, -⟩ := id E1
    rcases E_X12_sew M hw K n4 n5 e2 with ⟨-, y2, T⟩ | ⟨P2, -⟩
    · exact ⟨⟨_, _, _, eq_thr E1 T⟩, Or.inr ⟨(2, 1), by simp, y, y2, T.1⟩⟩
    · exact absurd P2 P
  · rw [z] at ho hz
    have E1 := eq_oc E ho hz
    obtain ⟨⟨-, -, -, -, -, -, -, M⟩, ⟨-, -, -, n4, n5, -⟩, ⟨-, hw, K, -, LK, LB⟩, -⟩ := id E1
    rcases E_X12_sew M hw K n4 n5 e2 with ⟨P2, -⟩ | ⟨-, ⟨-, y2, T⟩ | ⟨Q2, -⟩⟩
    · exact absurd P P2
    · exact ⟨⟨_, _, _, eq_thr E1 T⟩, Or.inr ⟨(0, 2), by simp, y, y2, T.1⟩⟩
    · exact absurd Q2 Q
  · rw [z] at ho hz
    have E1 := eq_oc E ho hz
    obtain ⟨⟨-, -, -, -, -, -, -, M⟩, ⟨-, -, -, n4, n5, -⟩, ⟨-, hw, K, -, LK, LB⟩, -⟩ := id E1
    rcases E_X12_sew M hw K n4 n5 e2 with ⟨P2, -⟩ | ⟨-, ⟨Q2, -⟩ | ⟨-, ⟨-, y2, T⟩ | ⟨U2, -⟩⟩⟩
    · exact absurd P P2
    · exact absurd Q Q2
    · exact ⟨⟨_, _, _, eq_thr E1 T⟩, Or.inr ⟨(1, 3), by simp, y, y2, T.1⟩⟩
    · exact absurd U2 U
  · obtain ⟨M2, w2, g2⟩ := eq_mid E A
    rw [← ho] at M2 w2 g2
    rcases E_X12_sew M2 w2 K g2 n5 e2 with ⟨P2, -⟩ | ⟨-, ⟨Q2, -⟩ | ⟨-, ⟨U2, -⟩ | ⟨-, y2, D⟩⟩⟩
    · exact absurd P P2
    · exact absurd Q Q2
    · exact absurd U U2
    · have hl := hg_law (W := W) (x := v) (y := w) (cN_lt K U.1)
      exact ⟨⟨_, _, _, eq_z2 hz D.2.2.2.2.2.2 (eq_act E A (rAct_oc ho D) (wOK_hg K P Q U) hl (lawK_cg LK hl) (lawB_cg LB hl))⟩, Or.inl ⟨by rw [y, y2], D.1⟩⟩
theorem eqz_hours {x nx r L n : Nat} {W : jWd} {v : Int32} {h : jH} {q : jR × jH} {p : Int32 × jH} (E : eqS x nx r L W h) (e1 : F_X11_hours n x v h = some q) {h1 : jH} (ho : oc h1 = oc q.2) (hz : q.2.1 ≤ h1.1) (e2 : F_X12_hours n (x + 40) v h1 = some p) : (∃ nx2 r2 W2, eqS x nx2 r2 L W2 p.2) ∧ ansE [(0, 1)] q.1 p.1 (oi (oc p.2) (x + 40) 0) := by
  have C := eq_pre E
  obtain ⟨⟨-, -, -, e8, e36, -, -, M⟩, ⟨-, -, -, n4, n5, -⟩, ⟨-, hw, K, LE, LK, LB⟩, -⟩ := id E
  have hr : ∀ m : Nat, m ≤ 80 → 1 ≤ m → v = nI m → 1 ≤ v.toInt ∧ v.toInt ≤ 80 := fun m h1 h2 h3 => by rw [h3, nI_toInt (by omega)]; omega
  rcases E_X11_hours C e8 e36 LE e1 with ⟨P, y, z⟩ | ⟨m, h8, h1, hi, y, A, CE⟩
  · rw [z] at ho hz
    have E1 := eq_oc E ho hz
    obtain ⟨⟨-, -, -, -, -, -, -, M⟩, ⟨-, -, -, n4, n5, -⟩, ⟨-, hw, K, -, LK, LB⟩, -⟩ := id E1
    rcases E_X12_hours M hw K n4 n5 LK LB e2 with ⟨-, y2, T⟩ | ⟨j, j8, j1, hj, -⟩
    · exact ⟨⟨_, _, _, eq_thr E1 T⟩, Or.inr ⟨(0, 1), by simp, y, y2, T.1⟩⟩
    · exact absurd (hr j j8 j1 hj) P
  · obtain ⟨M2, w2, g2⟩ := eq_mid E A
    rw [← ho] at M2 w2 g2
    rcases E_X12_hours M2 w2 K g2 n5 LK LB e2 with ⟨P2, -, -⟩ | ⟨j, j8, j1, hj, y2, D, RK⟩
    · exact absurd (hr m h8 h1 hi) P2
    · have ij : j = m := (nI_eq (by omega) (by omega)).mp (hj.symm.trans hi)
      subst ij
      exact ⟨⟨_, _, _, eq_z2 hz D.2.2.2.2.2.2 (eq_actL E A (rAct_oc ho D) CE.2.2.2 CE.2.2.1 RK.2.2.2.1 RK.2.2.2.2)⟩, Or.inl ⟨by rw [y, y2], D.1⟩⟩
end
section
/-! a text through the law's own method -/
theorem eq_z3 {x nx r L z : Nat} {W : jWd} {p : jH} (hz : z ≤ p.1) (E : eqS x nx r L W (z, p.2)) : eqS x nx r L W p := eq_oc E rfl hz
theorem eqz_pole {x nx r L n : Nat} {W : jWd} {h : jH} {q : jR × jH} {p : Int32 × jH} (E : eqS x nx r L W h) (J : jlen h (x + 24) = some 8 ∧ jlen h (x + 25) = some 8) (hB : ∀ i, i < 400 → -128 ≤ (oi (oc h) (x + 46) i).toInt ∧ (oi (oc h) (x + 46) i).toInt ≤ 127) (e1 : F_X11_pole n x h = some q) {h1 : jH} (ho : oc h1 = oc q.2) (hz : q.2.1 ≤ h1.1) (e2 : F_X12_pole n (x + 40) h1 = some p) :
    (∃ r2 W2, eqS x nx r2 0 W2 p.2) ∧ ansE [(0, 1), (3, 2)] q.1 p.1 (oi (oc p.2) (x + 40) 0) := by
  obtain ⟨⟨x0, x1, x3, -, -, -, ts, M⟩, ⟨n1, n2, n3, n4, n5, n6, -, -, -⟩, ⟨R, hw, K, LE, LK, LB⟩, ⟨l1, l2, l3, l4, I⟩⟩ := id E
  have C : ctb (oc h) (x + 1) (fun i => oi (oc h) (x + 46) i) L := ⟨ts, l1, l3, fun i hi => l4 i hi, hB⟩
  obtain ⟨m, T, st, en, H, a1, a2, a3, a4, a5⟩ := E_X11_pole rfl x0 x1 x3 I.1 C R K J e1
  -- whatever the answer: what the class leaves alone
  have FQ : ∀ a k : Nat, ¬ (a = x ∧ k = 12) → ¬ (a = x + 1 ∧ 4 ≤ k ∧ k ≤ 6) → ¬ (x + 3 ≤ a ∧ a ≤ x + 5) → ¬ (x + 6 ≤ a ∧ a ≤ x + 12) → ¬ (a = x + 19 ∧ k = 2) → ¬ (x + 21 ≤ a ∧ a ≤ x + 27) → oc q.2 a k = oc h a k := fun a k u1 u2 u3 u4 u5 u6 => by
    rcases hR : (if (T 0).1 = -1 then .inl W else rdLines (rdPole T) T 14 W 0 : jWd ⊕ Nat) with W2 | f
    · rcases (a2 W2 hR).2.2 with ⟨-, -, F⟩ | ⟨-, -, -, -, F⟩
      · exact F a k u1 u2 u3 u6
      · exact F a k u1 u2 u3 u4 u5 u6
    · exact (a1 f hR).2.2 a k u1 u2 u3 u6
  have k2 : ∀ a k : Nat, x + 28 ≤ a → oc q.2 a k = oc h a k := fun a k z => FQ a k (by omega) (by omega) (by omega) (by omega) (by omega) (by omega)
  have ki : ∀ a k : Nat, x + 28 ≤ a → oi (oc q.2) a k = oi (oc h) a k := fun a k z => by unfold oi; rw [k2 a k z]
  have M2 : mS (oc q.2) (x + 40) := by
    obtain ⟨s1, s2, s3, s4, s5, s8, s15, s17, s19, s20, s21⟩ := M
    have k3 : ∀ k, oc q.2 (x + 40) k = oc h (x + 40) k := fun k => k2 _ k (by omega)
    exact ⟨(k3 _).trans s1, (k3 _).trans s2, (k3 _).trans s3, (k3 _).trans s4, (k3 _).trans s5, (k3 _).trans s8, (k3 _).trans s15, (k3 _).trans s17, (k3 _).trans s19, (k3 _).trans s20, (k3 _).trans s21⟩
  have w2 : wl (oc q.2) (x + 40) = W := by rw [← hw]; funext k; exact ki (x + 41) k (by omega)
  rw [← ho] at M2 w2
  obtain ⟨b1, b2, b3, b4, b5⟩ := E_X12_pole H M2 w2 K (by rw [ho]; exact (ki _ _ (by omega)).trans l2) (fun i => by rw [ho]; exact ki (x + 46) i (by omega)) e2
  rw [ho] at b4
  try rw [ho] at b1
  try rw [ho] at b2
  have fp : ∀ a k : Nat, a ≠ x + 41 → a ≠ x + 43 → ¬ (a = x + 40 ∧ (k = 0 ∨ k = 7 ∨ (9 ≤ k ∧ k ≤ 14) ∨ k = 16)) → oc p.2 a k = oc q.2 a k := fun a k u1 u2 u3 => b4 a k (fun c hc z => by simp at hc; omega) (fun z y => u3 ⟨z, by simp at y; omega⟩)
  have fpi : ∀ a k : Nat, a ≤ x + 39 → oi (oc p.2) a k = oi (oc q.2) a k := fun a k z => by unfold oi; rw [fp a k (by omega) (by omega) (by omega)]
  have F : ∀ a k : Nat, ¬ txc x a k → oc p.2 a k = oc h a k := fun a k z => by
    unfold txc at z
    exact (fp a k (by omega) (by omega) (by omega)).trans (FQ a k (by omega) (by omega) (by omega) (by omega) (by omega) (by omega))
  have T2 : oi (oc p.2) (x + 1) 6 = nI 0 ∧ oi (oc p.2) (x + 40) 9 = nI 0 ∧ 0 ≤ 400 := ⟨(fpi _ _ (by omega)).trans a3, b3, by omega⟩
  have D2 : rodS (oc p.2) (x + 21) ∧ lawS (oc p.2) (x + 28) := ⟨rodS_fr a4 (fun k => fp _ _ (by omega) (by omega) (by omega)) (fp _ _ (by omega) (by omega) (by omega)), by
    obtain ⟨g1, g2, g3, g4, g5⟩ := I.1.2.2.2.2.2
    have g : ∀ k, oc p.2 (x + 28) k = oc h (x + 28) k := fun k => (fp _ _ (by omega) (by omega) (by omega)).trans (k2 _ _ (by omega))
    exact ⟨(g _).trans g1, (g _).trans g2, (g _).trans g3, (g _).trans g4, (g _).trans g5⟩⟩
  have fL : ∀ a k : Nat, x + 13 ≤ a → a ≤ x + 17 → oc p.2 a k = oc h a k := fun a k z1 z2 => (fp a k (by omega) (by omega) (by omega)).trans (FQ a k (by omega) (by omega) (by omega) (by omega) (by omega) (by omega))
  have f13 : oi (oc p.2) (x + 13) 7 = oi (oc h) (x + 13) 7 := by unfold oi; rw [fL _ _ (by omega) (by omega)]
  rcases hR : (if (T 0).1 = -1 then .inl W else rdLines (rdPole T) T 14 W 0 : jWd ⊕ Nat) with W2 | f
  · obtain ⟨ok, n12, d⟩ := a2 W2 hR
    obtain ⟨c14, c2, e⟩ := b2 W2 hR
    have W1 : W2 1 = W 1 := ok.2 1 (Or.inl rfl)
    have k11 := K.2.2.2.2.2.2.2.2.2.2
    have l12 : (12 : Int32).toInt = 12 := rfl
    rcases d with ⟨t12, v, G⟩ | ⟨t12, v, R2, s0, G⟩
    · rcases e with ⟨e12, v2, y0, y7, yW⟩ | ⟨e12, -⟩
      · obtain ⟨q1, q2, q3, q4, q5⟩ := wd_cb R K LE yW (fun a k z1 z2 => (fp a k (by omega) (by omega) (by omega)).trans (G a k (by omega) (by omega) (by omega) (by omega))) (fun a k z1 z2 _ => fL a k z1 (by omega))
        have g19 : oi (oc p.2) (x + 19) 2 = oi (oc h) (x + 19) 2 := by unfold oi; rw [fp _ _ (by omega) (by omega) (by omega), G _ _ (by omega) (by omega) (by omega) (by omega)]
        exact ⟨⟨r, _, eq_z3 (z := h.1) (by rw [b5]; rw [a5] at hz; exact hz) (eq_bld (h3 := (h.1, p.2.2)) E F rfl (Or.inr ⟨rfl, g19, y7.trans (ki _ _ (by omega)), f13⟩) ⟨q1, rfl, q2, q3, q4, q5⟩ T2 D2 (((fpi _ _ (by omega)).trans n12).trans c14.symm))⟩, Or.inr ⟨(3, 2), by simp, v, v2, y0⟩⟩
      · exfalso
        rw [W1] at e12
        exact t12 (by rw [Int32.lt_iff_toInt_lt]; have : (W 1).toInt ≠ 12 := fun z => e12 (Int32.toInt_inj.mp (by rw [z, l12])); omega)
    · rcases e with ⟨e12, -⟩ | ⟨e12, v2, y0, yw, y7⟩
      · exfalso
        rw [W1] at e12
        rw [e12] at t12
        exact absurd t12 (by decide)
      · have ok3 : ∀ k : Nat, k = 2 ∨ 435 ≤ k → upd W2 1 (W2 1 + 1) k = W k := fun k hk => by rw [upd_ne (by omega)]; exact ok.2 k (Or.inr hk)
        have L3 : lawE (oc p.2) (x + 13) (upd W2 1 (W2 1 + 1)) := lawE_cg (lawE_fr LE (fun a k z1 z2 _ => fL a k z1 (by omega))) ok3
        have K3 : wOK (upd W2 1 (W2 1 + 1)) := wOK_1 ok.1 (by
          rw [W1]
          rw [Int32.lt_iff_toInt_lt] at t12
          have l1 : (1 : Int32).toInt = 1 := rfl
          rw [jadd (by omega) (by omega)]
          omega)
        exact ⟨⟨0, _, eq_z3 (z := h.1) (by rw [b5]; rw [a5] at hz; exact hz) (eq_bld (h3 := (h.1, p.2.2)) E F rfl (Or.inl ⟨rfl, (fpi _ _ (by omega)).trans s0, y7⟩) ⟨rodE_fr R2 (fun a k z1 z2 => fp a k (by omega) (by omega) (by omega)), yw, K3, L3, lawK_of L3, lawB_of L3⟩ T2 D2 (((fpi _ _ (by omega)).trans n12).trans c14.symm))⟩, Or.inl ⟨by rw [v, v2], y0⟩⟩
  · obtain ⟨v, n12, G⟩ := a1 f hR
    obtain ⟨v2, y0, c14, y7, yW⟩ := b1 f hR
    obtain ⟨q1, q2, q3, q4, q5⟩ := wd_cb R K LE yW (fun a k z1 z2 => (fp a k (by omega) (by omega) (by omega)).trans (G a k (by omega) (by omega) (by omega) (by omega))) (fun a k z1 z2 _ => fL a k z1 (by omega))
    have g19 : oi (oc p.2) (x + 19) 2 = oi (oc h) (x + 19) 2 := by unfold oi; rw [fp _ _ (by omega) (by omega) (by omega), G _ _ (by omega) (by omega) (by omega) (by omega)]
    exact ⟨⟨r, _, eq_z3 (z := h.1) (by rw [b5]; rw [a5] at hz; exact hz) (eq_bld (h3 := (h.1, p.2.2)) E F rfl (Or.inr ⟨rfl, g19, y7.trans (ki _ _ (by omega)), f13⟩) ⟨q1, rfl, q2, q3, q4, q5⟩ T2 D2 (((fpi _ _ (by omega)).trans n12).trans c14.symm))⟩, Or.inr ⟨(0, 1), by simp, v, v2, y0⟩⟩
theorem eqz_law {x nx r L n : Nat} {W : jWd} {h : jH} {q : jR × jH} {p : Int32 × jH} (E : eqS x nx r L W h) (hB : ∀ i, i < 400 → -128 ≤ (oi (oc h) (x + 46) i).toInt ∧ (oi (oc h) (x + 46) i).toInt ≤ 127) (e1 : F_X11_law n x h = some q) {h1 : jH} (ho : oc h1 = oc q.2) (hz : q.2.1 ≤ h1.1) (e2 : F_X12_law n (x + 40) h1 = some p) :
    (∃ r2 W2, eqS x nx r2 0 W2 p.2) ∧ ansE [(0, 1)] q.1 p.1 (oi (oc p.2) (x + 40) 0) := by
  obtain ⟨⟨x0, x1, x3, -, -, -, ts, M⟩, ⟨n1, n2, n3, n4, n5, n6, -, -, -⟩, ⟨R, hw, K, LE, LK, LB⟩, ⟨l1, l2, l3, l4, I⟩⟩ := id E
  have C : ctb (oc h) (x + 1) (fun i => oi (oc h) (x + 46) i) L := ⟨ts, l1, l3, fun i hi => l4 i hi, hB⟩
  obtain ⟨m, T, st, en, H, hm4, a1, a2, a3, a4, a5⟩ := E_X11_law (W := W) rfl x0 x3 I.1 C LE.1 e1
  have FQ : ∀ a k : Nat, ¬ (a = x ∧ k = 12) → ¬ (a = x + 1 ∧ 4 ≤ k ∧ k ≤ 6) → ¬ (x + 3 ≤ a ∧ a ≤ x + 5) → ¬ (a = x + 28 ∧ 6 ≤ k) → ¬ (x + 29 ≤ a ∧ a ≤ x + 32) → ¬ (x + 13 ≤ a ∧ a ≤ x + 18) → ¬ (a = x + 19 ∧ k = 2) → oc q.2 a k = oc h a k := fun a k u1 u2 u3 u4 u5 u6 u7 => by
    rcases hR : (if (T 0).1 = -1 then .inl [] else rdLines (rdLaw T) T 12 [] 0 : List jLn ⊕ Nat) with S | f
    · exact (a2 S hR).2.2.2.2 a k u1 u2 u3 u4 u5 u6 u7
    · exact (a1 f hR).2.2 a k u1 u2 u3 u4 u5
  have k2 : ∀ a k : Nat, x + 33 ≤ a → oc q.2 a k = oc h a k := fun a k z => FQ a k (by omega) (by omega) (by omega) (by omega) (by omega) (by omega) (by omega)
  have ki : ∀ a k : Nat, x + 33 ≤ a → oi (oc q.2) a k = oi (oc h) a k := fun a k z => by unfold oi; rw [k2 a k z]
  have M2 : mS (oc q.2) (x + 40) := by
    obtain ⟨s1, s2, s3, s4, s5, s8, s15, s17, s19, s20, s21⟩ := M
    have k3 : ∀ k, oc q.2 (x + 40) k = oc h (x + 40) k := fun k => k2 _ k (by omega)
    exact ⟨(k3 _).trans s1, (k3 _).trans s2, (k3 _).trans s3, (k3 _).trans s4, (k3 _).trans s5, (k3 _).trans s8, (k3 _).trans s15, (k3 _).trans s17, (k3 _).trans s19, (k3 _).trans s20, (k3 _).trans s21⟩
  have w2 : wl (oc q.2) (x + 40) = W := by rw [← hw]; funext k; exact ki (x + 41) k (by omega)
  rw [← ho] at M2 w2
  obtain ⟨b1, b2, b3, b4, b5⟩ := E_X12_law H M2 w2 (by rw [ho]; exact (ki _ _ (by omega)).trans l2) (fun i => by rw [ho]; exact ki (x + 46) i (by omega)) hm4 e2
  rw [ho] at b4
  try rw [ho] at b1
  try rw [ho] at b2
  have fp : ∀ a k : Nat, a ≠ x + 41 → ¬ (a = x + 40 ∧ (k = 0 ∨ k = 7 ∨ (9 ≤ k ∧ k ≤ 14) ∨ k = 16)) → oc p.2 a k = oc q.2 a k := fun a k u1 u3 => b4 a k (fun c hc z => by simp at hc; omega) (fun z y => u3 ⟨z, by simp at y; omega⟩)
  have fpi : ∀ a k : Nat, a ≤ x + 39 → oi (oc p.2) a k = oi (oc q.2) a k := fun a k z => by unfold oi; rw [fp a k (by omega) (by omega)]
  have F : ∀ a k : Nat, ¬ txc x a k → oc p.2 a k = oc h a k := fun a k z => by
    unfold txc at z
    exact (fp a k (by omega) (by omega)).trans (FQ a k (by omega) (by omega) (by omega) (by omega) (by omega) (by omega) (by omega))
  have T2 : oi (oc p.2) (x + 1) 6 = nI 0 ∧ oi (oc p.2) (x + 40) 9 = nI 0 ∧ 0 ≤ 400 := ⟨(fpi _ _ (by omega)).trans a3, b3, by omega⟩
  have D2 : rodS (oc p.2) (x + 21) ∧ lawS (oc p.2) (x + 28) := ⟨rodS_fr I.1.2.2.2.2.1 (fun k => (fp _ _ (by omega) (by omega)).trans (FQ _ _ (by omega) (by omega) (by omega) (by omega) (by omega) (by omega) (by omega))) ((fp _ _ (by omega) (by omega)).trans (FQ _ _ (by omega) (by omega) (by omega) (by omega) (by omega) (by omega) (by omega))), by
    obtain ⟨g1, g2, g3, g4, g5⟩ := a4
    exact ⟨(fp _ _ (by omega) (by omega)).trans g1, (fp _ _ (by omega) (by omega)).trans g2, (fp _ _ (by omega) (by omega)).trans g3, (fp _ _ (by omega) (by omega)).trans g4, (fp _ _ (by omega) (by omega)).trans g5⟩⟩
  have fR : ∀ a k : Nat, x + 6 ≤ a → a ≤ x + 12 → oc p.2 a k = oc h a k := fun a k z1 z2 => (fp a k (by omega) (by omega)).trans (FQ a k (by omega) (by omega) (by omega) (by omega) (by omega) (by omega) (by omega))
  rcases hR : (if (T 0).1 = -1 then .inl [] else rdLines (rdLaw T) T 12 [] 0 : List jLn ⊕ Nat) with S | f
  · obtain ⟨v, n12, LL, s0, G⟩ := a2 S hR
    obtain ⟨v2, -, y0, c14, y7, yw⟩ := b2 S hR
    have L3 : lawE (oc p.2) (x + 13) (lawW W S) := lawE_fr LL (fun a k z1 z2 _ => fp a k (by omega) (by omega))
    exact ⟨⟨0, _, eq_z3 (z := h.1) (by rw [b5]; rw [a5] at hz; exact hz) (eq_bld (h3 := (h.1, p.2.2)) E F rfl (Or.inl ⟨rfl, (fpi _ _ (by omega)).trans s0, y7⟩) ⟨rodE_c2 (rodE_fr R (fun a k z1 z2 => fR a k z1 (by omega))) K (fun k h1 h2 => lawW_lo h1 h2), yw, wOK_c2 K (fun k h1 h2 => lawW_lo (by omega) h2), L3, lawK_of L3, lawB_of L3⟩ T2 D2 (((fpi _ _ (by omega)).trans n12).trans c14.symm))⟩, Or.inl ⟨by rw [v, v2], y0⟩⟩
  · obtain ⟨v, n12, G⟩ := a1 f hR
    obtain ⟨v2, y0, c14, y7, yW⟩ := b1 f hR
    have fL : ∀ a k : Nat, x + 13 ≤ a → a ≤ x + 18 → oc p.2 a k = oc h a k := fun a k z1 z2 => (fp a k (by omega) (by omega)).trans (G a k (by omega) (by omega) (by omega) (by omega) (by omega))
    obtain ⟨q1, q2, q3, q4, q5⟩ := wd_cb R K LE yW (fun a k z1 z2 => fR a k z1 (by omega)) (fun a k z1 z2 _ => fL a k z1 (by omega))
    have g19 : oi (oc p.2) (x + 19) 2 = oi (oc h) (x + 19) 2 := by unfold oi; rw [fp _ _ (by omega) (by omega), G _ _ (by omega) (by omega) (by omega) (by omega) (by omega)]
    have f13 : oi (oc p.2) (x + 13) 7 = oi (oc h) (x + 13) 7 := by unfold oi; rw [fL _ _ (by omega) (by omega)]
    exact ⟨⟨r, _, eq_z3 (z := h.1) (by rw [b5]; rw [a5] at hz; exact hz) (eq_bld (h3 := (h.1, p.2.2)) E F rfl (Or.inr ⟨rfl, g19, y7.trans (ki _ _ (by omega)), f13⟩) ⟨q1, rfl, q2, q3, q4, q5⟩ T2 D2 (((fpi _ _ (by omega)).trans n12).trans c14.symm))⟩, Or.inr ⟨(0, 1), by simp, v, v2, y0⟩⟩
end
