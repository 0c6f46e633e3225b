/-! what tries on the world brings it back: w: the world below 435 is V; t: the trial is V -/
def wK (w t : Bool) (m : Nat) (V : jWd) (O : jO) : Prop := (w = true → ∀ j : Nat, j < 435 → oi O (m + 1) j = V j) ∧ (t = true → ∀ j : Nat, j < 435 → oi O (m + 4) j = V j)
theorem wk_le {w t w2 t2 : Bool} {m : Nat} {V : jWd} {O : jO} (K : wK w t m V O) (hw : w2 = true → w = true) (ht : t2 = true → t = true) : wK w2 t2 m V O := ⟨fun z => K.1 (hw z), fun z => K.2 (ht z)⟩
theorem wk_fr {w t w2 t2 : Bool} {m : Nat} {V : jWd} {O O2 : jO} {cs fs : List Nat} (K : wK w t m V O) (F : frM m cs fs O O2) (hw : w2 = true → w = true ∧ 1 ∉ cs) (ht : t2 = true → t = true ∧ 4 ∉ cs) : wK w2 t2 m V O2 := by
  refine ⟨fun z j hj => ?_, fun z j hj => ?_⟩
  · rw [← K.1 (hw z).1 j hj]; unfold oi
    rw [F (m + 1) j (fun c h e => (hw z).2 ((show c = 1 by omega) ▸ h)) (fun e => by omega)]
  · rw [← K.2 (ht z).1 j hj]; unfold oi
    rw [F (m + 4) j (fun c h e => (ht z).2 ((show c = 4 by omega) ▸ h)) (fun e => by omega)]
theorem wk_keep {t : Bool} {m n : Nat} {V : jWd} {h q : jH} (M : mS (oc h) m) (K : wK true t m V (oc h)) (hf : F_X12_keepsAll n m h = some q) : wK true true m V (oc q) := by
  unfold F_X12_keepsAll at hf
  obtain ⟨a, b, c⟩ := E_X12_keepsAll_2 n 0 M rfl (by omega) hf
  refine ⟨fun z j hj => ?_, fun z j hj => ?_⟩
  · rw [← K.1 rfl j hj]; unfold oi
    rw [b (m + 1) j (fun c h e => by simp at h; omega) (fun e => by omega)]
  · rw [a j, if_pos ⟨by omega, hj⟩]; exact K.1 rfl j hj
theorem wk_back {w : Bool} {m n : Nat} {V : jWd} {h q : jH} (M : mS (oc h) m) (K : wK w true m V (oc h)) (hf : F_X12_bringsBack n m h = some q) : wK true true m V (oc q) := by
  unfold F_X12_bringsBack at hf
  obtain ⟨a, b, c⟩ := E_X12_bringsBack_2 n 0 M rfl (by omega) hf
  refine ⟨fun z j hj => ?_, fun z j hj => ?_⟩
  · rw [a j, if_pos ⟨by omega, hj⟩]; exact K.2 rfl j hj
  · rw [← K.2 rfl j hj]; unfold oi
    rw [b (m + 4) j (fun c h e => by simp at h; omega) (fun e => by omega)]
theorem WR_X12_goes {V : jWd} {n : Nat} {a0 : Nat} {x1 : Int32} {x2 : Int32} {h : jH} {q : Int32 × jH} (M : mS (oc h) a0) (K : wK true false a0 V (oc h)) (hf : F_X12_goes n a0 x1 x2 h = some q) : wK true false a0 V (oc q.2) := by
  unfold F_X12_goes at hf
  obtain ⟨h2, e1, hf⟩ := jbind hf
  have f1 : frM a0 [] [0] (oc h) (oc h2) := by rw [(oc_pf e1).1]; exact frM_f (by decide)
  have m1 := mS_fr M f1 (by decide) (by decide)
  have k1 : wK true false a0 V (oc h2) := wk_fr K f1 (by decide) (by decide)
  obtain ⟨v8, e2, hf⟩ := jbind hf
  replace e2 := (jcv_o e2).2
  obtain ⟨q12, e3, hf⟩ := jbind hf
  replace e3 := (jcv_o e3).2
  have f3 := FQ_X12_throwsIf m1 e3
  have m3 := mS_fr m1 f3 (by decide) (by decide)
  have k3 : wK true false a0 V (oc q12.2) := wk_fr k1 f3 (by decide) (by decide)
  replace hf := jite hf
  rcases hf with ⟨-, hf⟩ | ⟨-, hf⟩
  · obtain ⟨h21, e4, hf⟩ := jbind hf
    replace e4 := (jcv_o e4).2
    have f4 := FQ_X12_keepsAll m3 e4
    have m4 := mS_fr m3 f4 (by decide) (by decide)
    have k4 := wk_keep m3 k3 e4
    obtain ⟨q29, e5, hf⟩ := jbind hf
    replace e5 := (jcv_o e5).2
    have f5 := FQ_X12_pulls m4 e5
    have m5 := mS_fr m4 f5 (by decide) (by decide)
    have k5 : wK false true a0 V (oc q29.2) := wk_fr k4 f5 (by decide) (by decide)
    obtain ⟨h34, e6, hf⟩ := jbind hf
    replace e6 := (jcv_o e6).2
    have f6 := FQ_X12_bringsBack m5 e6
    have m6 := mS_fr m5 f6 (by decide) (by decide)
    have k6 := wk_back m5 k5 e6
    cases hf
    exact wk_le k6 (by decide) (by decide)
  · cases hf
    exact wk_le k3 (by decide) (by decide)
theorem WR_X12_would_60 {V : jWd} {n : Nat} {a0 : Nat} {s0 : Int32} {h : jH} {q : Int32 × jH} (M : mS (oc h) a0) (K : wK false true a0 V (oc h)) (hf : F_X12_would_60 n a0 s0 h = some q) : wK true true a0 V (oc q.2) := by
  unfold F_X12_would_60 at hf
  obtain ⟨h63, e1, hf⟩ := jbind hf
  replace e1 := (jcv_o e1).2
  have f1 := FQ_X12_bringsBack M e1
  have m1 := mS_fr M f1 (by decide) (by decide)
  have k1 := wk_back M K e1
  cases hf
  exact wk_le k1 (by decide) (by decide)
theorem WR_X12_would {V : jWd} {n : Nat} {a0 : Nat} {x1 : Int32} {x2 : Int32} {x3 : Int32} {x4 : Int32} {h : jH} {q : Int32 × jH} (M : mS (oc h) a0) (K : wK true false a0 V (oc h)) (hf : F_X12_would n a0 x1 x2 x3 x4 h = some q) : wK true false a0 V (oc q.2) := by
  unfold F_X12_would at hf
  obtain ⟨h2, e1, hf⟩ := jbind hf
  have f1 : frM a0 [] [0] (oc h) (oc h2) := by rw [(oc_pf e1).1]; exact frM_f (by decide)
  have m1 := mS_fr M f1 (by decide) (by decide)
  have k1 : wK true false a0 V (oc h2) := wk_fr K f1 (by decide) (by decide)
  obtain ⟨v8, e2, hf⟩ := jbind hf
  replace e2 := (jcv_o e2).2
  obtain ⟨q12, e3, hf⟩ := jbind hf
  replace e3 := (jcv_o e3).2
  have f3 := FQ_X12_throwsIf m1 e3
  have m3 := mS_fr m1 f3 (by decide) (by decide)
  have k3 : wK true false a0 V (oc q12.2) := wk_fr k1 f3 (by decide) (by decide)
  replace hf := jite hf
  rcases hf with ⟨-, hf⟩ | ⟨-, hf⟩
  · obtain ⟨v20, e4, hf⟩ := jbind hf
    obtain ⟨q24, e5, hf⟩ := jbind hf
    replace e5 := (jcv_o e5).2
    have f5 := FQ_X12_throwsIf m3 e5
    have m5 := mS_fr m3 f5 (by decide) (by decide)
    have k5 : wK true false a0 V (oc q24.2) := wk_fr k3 f5 (by decide) (by decide)
    replace hf := jite hf
    rcases hf with ⟨-, hf⟩ | ⟨-, hf⟩
    · obtain ⟨h33, e6, hf⟩ := jbind hf
      replace e6 := (jcv_o e6).2
      have f6 := FQ_X12_keepsAll m5 e6
      have m6 := mS_fr m5 f6 (by decide) (by decide)
      have k6 := wk_keep m5 k5 e6
      obtain ⟨q40, e7, hf⟩ := jbind hf
      replace e7 := (jcv_o e7).2
      have f7 := FQ_X12_pulls m6 e7
      have m7 := mS_fr m6 f7 (by decide) (by decide)
      have k7 : wK false true a0 V (oc q40.2) := wk_fr k6 f7 (by decide) (by decide)
      replace hf := jite hf
      rcases hf with ⟨-, hf⟩ | ⟨-, hf⟩
      · obtain ⟨v57, e8, hf⟩ := jbind hf
        replace e8 := (jcv_o e8).2
        exact wk_le ((WR_X12_would_60 m7 (wk_le k7 (by decide) (by decide)) hf)) (by decide) (by decide)
      · obtain ⟨v50, e9, hf⟩ := jbind hf
        exact wk_le ((WR_X12_would_60 m7 (wk_le k7 (by decide) (by decide)) hf)) (by decide) (by decide)
    · cases hf
      exact wk_le k5 (by decide) (by decide)
  · cases hf
    exact wk_le k3 (by decide) (by decide)
theorem WR_X12_wentWith {V : jWd} {n : Nat} {a0 : Nat} {x1 : Int32} {x2 : Int32} {x3 : Int32} {x4 : Int32} {h : jH} {q : Int32 × jH} (M : mS (oc h) a0) (K : wK true false a0 V (oc h)) (hf : F_X12_wentWith n a0 x1 x2 x3 x4 h = some q) : wK true true a0 V (oc q.2) := by
  unfold F_X12_wentWith at hf
  obtain ⟨h1, e1, hf⟩ := jbind hf
  replace e1 := (jcv_o e1).2
  have f1 := FQ_X12_keepsAll M e1
  have m1 := mS_fr M f1 (by decide) (by decide)
  have k1 := wk_keep M K e1
  obtain ⟨h6, e2, hf⟩ := jbind hf
  replace e2 := (jcv_o e2).2
  have f2 := FQ_X12_areCaught m1 e2
  have m2 := mS_fr m1 f2 (by decide) (by decide)
  have k2 : wK false true a0 V (oc h6) := wk_fr k1 f2 (by decide) (by decide)
  obtain ⟨q14, e3, hf⟩ := jbind hf
  replace e3 := (jcv_o e3).2
  have f3 := FQ_X12_pulls m2 e3
  have m3 := mS_fr m2 f3 (by decide) (by decide)
  have k3 : wK false true a0 V (oc q14.2) := wk_fr k2 f3 (by decide) (by decide)
  obtain ⟨h20, e4, hf⟩ := jbind hf
  replace e4 := (jcv_o e4).2
  have f4 := FQ_X12_bringsBack m3 e4
  have m4 := mS_fr m3 f4 (by decide) (by decide)
  have k4 := wk_back m3 k3 e4
  cases hf
  exact wk_le k4 (by decide) (by decide)
theorem WR_X12_loosen_51 {V : jWd} {n : Nat} {k : Nat} : ∀ {a0 : Nat} {x1 : Int32} {x2 : Int32} {x3 : Int32} {x4 : Int32} {x5 : Int32} {x6 : Int32} {x7 : Int32} {h : jH} {q : Int32 × jH}, mS (oc h) a0 → wK true false a0 V (oc h) → F_X12_loosen_51 n k a0 x1 x2 x3 x4 x5 x6 x7 h = some q → wK true false a0 V (oc q.2) := by
  induction k with
  | zero =>
    intro a0 x1 x2 x3 x4 x5 x6 x7 h q M K hf
    cases hf
  | succ k ih =>
    intro a0 x1 x2 x3 x4 x5 x6 x7 h q M K hf
    replace hf : F_X12_loosen_51_b n (F_X12_loosen_51 n k) a0 x1 x2 x3 x4 x5 x6 x7 h = some q := hf
    unfold F_X12_loosen_51_b at hf
    replace hf := jite hf
    rcases hf with ⟨-, hf⟩ | ⟨-, hf⟩
    · cases hf
      exact wk_le K (by decide) (by decide)
    · replace hf := jite hf
      rcases hf with ⟨-, hf⟩ | ⟨-, hf⟩
      · obtain ⟨v70, e1, hf⟩ := jbind hf
        replace hf := jite hf
        rcases hf with ⟨-, hf⟩ | ⟨-, hf⟩
        · exact wk_le ((ih) M (wk_le K (by decide) (by decide)) hf) (by decide) (by decide)
        · obtain ⟨q89, e2, hf⟩ := jbind hf
          replace e2 := (jcv_o e2).2
          have f2 := FQ_X12_wentWith M e2
          have m2 := mS_fr M f2 (by decide) (by decide)
          have k2 := (WR_X12_wentWith M (wk_le K (by decide) (by decide)) e2)
          replace hf := jite hf
          rcases hf with ⟨-, hf⟩ | ⟨-, hf⟩
          · obtain ⟨v105, e3, hf⟩ := jbind hf
            exact wk_le ((ih) m2 (wk_le k2 (by decide) (by decide)) hf) (by decide) (by decide)
          · exact wk_le ((ih) m2 (wk_le k2 (by decide) (by decide)) hf) (by decide) (by decide)
      · exact wk_le ((ih) M (wk_le K (by decide) (by decide)) hf) (by decide) (by decide)
theorem WR_X12_loosen {V : jWd} {n : Nat} {a0 : Nat} {x1 : Int32} {x2 : Int32} {x3 : Int32} {h : jH} {q : Int32 × jH} (M : mS (oc h) a0) (K : wK true false a0 V (oc h)) (hf : F_X12_loosen n a0 x1 x2 x3 h = some q) : wK true false a0 V (oc q.2) := by
  unfold F_X12_loosen at hf
  obtain ⟨h2, e1, hf⟩ := jbind hf
  have f1 : frM a0 [] [0] (oc h) (oc h2) := by rw [(oc_pf e1).1]; exact frM_f (by decide)
  have m1 := mS_fr M f1 (by decide) (by decide)
  have k1 : wK true false a0 V (oc h2) := wk_fr K f1 (by decide) (by decide)
  obtain ⟨v8, e2, hf⟩ := jbind hf
  replace e2 := (jcv_o e2).2
  obtain ⟨q12, e3, hf⟩ := jbind hf
  replace e3 := (jcv_o e3).2
  have f3 := FQ_X12_throwsIf m1 e3
  have m3 := mS_fr m1 f3 (by decide) (by decide)
  have k3 : wK true false a0 V (oc q12.2) := wk_fr k1 f3 (by decide) (by decide)
  replace hf := jite hf
  rcases hf with ⟨-, hf⟩ | ⟨-, hf⟩
  · obtain ⟨v20, e4, hf⟩ := jbind hf
    obtain ⟨q24, e5, hf⟩ := jbind hf
    replace e5 := (jcv_o e5).2
    have f5 := FQ_X12_throwsIf m3 e5
    have m5 := mS_fr m3 f5 (by decide) (by decide)
    have k5 : wK true false a0 V (oc q24.2) := wk_fr k3 f5 (by decide) (by decide)
    replace hf := jite hf
    rcases hf with ⟨-, hf⟩ | ⟨-, hf⟩
    · obtain ⟨v35, e6, hf⟩ := jbind hf
      replace e6 := (jcv_o e6).2
      exact wk_le ((WR_X12_loosen_51 m5 (wk_le k5 (by decide) (by decide)) hf)) (by decide) (by decide)
    · cases hf
      exact wk_le k5 (by decide) (by decide)
  · cases hf
    exact wk_le k3 (by decide) (by decide)
theorem WR_X12_fits_41 {V : jWd} {n : Nat} {rc4 : Nat → Int32 → Int32 → Int32 → jH → Option (Int32 × jH)} (hrc4 : ∀ {z0 : Nat} {z1 : Int32} {z2 : Int32} {z3 : Int32} {h : jH} {q : Int32 × jH}, mS (oc h) z0 → rc4 z0 z1 z2 z3 h = some q → frM z0 [1, 4] [18] (oc h) (oc q.2)) (wrc4 : ∀ {z0 : Nat} {z1 : Int32} {z2 : Int32} {z3 : Int32} {h : jH} {q : Int32 × jH}, mS (oc h) z0 → wK true false z0 V (oc h) → rc4 z0 z1 z2 z3 h = some q → wK true false z0 V (oc q.2)) {a0 : Nat} {x1 : Int32} {x3 : Int32} {sa0 : Nat} {s1 : Int32} {s2 : Int32} {s3 : Int32} {h : jH} {q : Int32 × jH} (hs : a0 = sa0) (M : mS (oc h) a0) (K : wK true false a0 V (oc h)) (hf : F_X12_fits_41 n rc4 a0 x1 x3 sa0 s1 s2 s3 h = some q) : wK true false a0 V (oc q.2) := by
  unfold F_X12_fits_41 at hf
  subst hs
  obtain ⟨p42, e1, hf⟩ := jbind hf
  have r1 := oc_gR e1
  rw [M.2.2.2.2.2.1] at r1
  cases r1
  obtain ⟨v48, e2, hf⟩ := jbind hf
  obtain ⟨q49, e3, hf⟩ := jbind hf
  replace e3 := (jcv_o e3).2
  have f3 := FQ_X12_wentWith M e3
  have m3 := mS_fr M f3 (by decide) (by decide)
  have k3 := (WR_X12_wentWith M (wk_le K (by decide) (by decide)) e3)
  obtain ⟨p53, e4, hf⟩ := jbind hf
  have r4 := oc_gR e4
  rw [m3.2.2.2.2.2.1] at r4
  cases r4
  obtain ⟨v59, e5, hf⟩ := jbind hf
  replace hf := jite hf
  rcases hf with ⟨-, hf⟩ | ⟨-, hf⟩
  · exact wk_le (wrc4 m3 (wk_le k3 (by decide) (by decide)) hf) (by decide) (by decide)
  · exact wk_le (wrc4 m3 (wk_le k3 (by decide) (by decide)) hf) (by decide) (by decide)
theorem WR_X12_fits_4 {V : jWd} {n : Nat} {k : Nat} : ∀ {a0 : Nat} {x1 : Int32} {x2 : Int32} {x3 : Int32} {h : jH} {q : Int32 × jH}, mS (oc h) a0 → wK true false a0 V (oc h) → F_X12_fits_4 n k a0 x1 x2 x3 h = some q → wK true false a0 V (oc q.2) := by
  induction k with
  | zero =>
    intro a0 x1 x2 x3 h q M K hf
    cases hf
  | succ k ih =>
    intro a0 x1 x2 x3 h q M K hf
    replace hf : F_X12_fits_4_b n (F_X12_fits_4 n k) a0 x1 x2 x3 h = some q := hf
    unfold F_X12_fits_4_b at hf
    obtain ⟨v6, e1, hf⟩ := jbind hf
    replace hf := jite hf
    rcases hf with ⟨-, hf⟩ | ⟨-, hf⟩
    · replace hf := jite hf
      rcases hf with ⟨-, hf⟩ | ⟨-, hf⟩
      · cases hf
        exact wk_le K (by decide) (by decide)
      · cases hf
    · replace hf := jite hf
      rcases hf with ⟨-, hf⟩ | ⟨-, hf⟩
      · replace hf := jite hf
        rcases hf with ⟨-, hf⟩ | ⟨-, hf⟩
        · cases hf
          exact wk_le K (by decide) (by decide)
        · cases hf
      · obtain ⟨p19, e2, hf⟩ := jbind hf
        have r2 := oc_gR e2
        rw [M.2.2.2.2.2.1] at r2
        cases r2
        obtain ⟨v23, e3, hf⟩ := jbind hf
        obtain ⟨p25, e4, hf⟩ := jbind hf
        have r4 := oc_gR e4
        rw [M.2.2.2.2.2.1] at r4
        cases r4
        obtain ⟨v31, e5, hf⟩ := jbind hf
        replace hf := jite hf
        rcases hf with ⟨-, hf⟩ | ⟨-, hf⟩
        · exact wk_le ((WR_X12_fits_41 (FQ_X12_fits_4) (ih) rfl M (wk_le K (by decide) (by decide)) hf)) (by decide) (by decide)
        · exact wk_le ((WR_X12_fits_41 (FQ_X12_fits_4) (ih) rfl M (wk_le K (by decide) (by decide)) hf)) (by decide) (by decide)
theorem WR_X12_fits {V : jWd} {n : Nat} {a0 : Nat} {x1 : Int32} {h : jH} {q : Int32 × jH} (M : mS (oc h) a0) (K : wK true false a0 V (oc h)) (hf : F_X12_fits n a0 x1 h = some q) : wK true false a0 V (oc q.2) := by
  unfold F_X12_fits at hf
  exact wk_le ((WR_X12_fits_4 M (wk_le K (by decide) (by decide)) hf)) (by decide) (by decide)
theorem WR_X12_snags_36 {V : jWd} {n : Nat} {k : Nat} : ∀ {a0 : Nat} {x1 : Int32} {x2 : Int32} {x3 : Int32} {x4 : Int32} {h : jH} {q : Int32 × jH}, mS (oc h) a0 → wK true false a0 V (oc h) → F_X12_snags_36 n k a0 x1 x2 x3 x4 h = some q → wK true false a0 V (oc q.2) := by
  induction k with
  | zero =>
    intro a0 x1 x2 x3 x4 h q M K hf
    cases hf
  | succ k ih =>
    intro a0 x1 x2 x3 x4 h q M K hf
    replace hf : F_X12_snags_36_b n (F_X12_snags_36 n k) a0 x1 x2 x3 x4 h = some q := hf
    unfold F_X12_snags_36_b at hf
    obtain ⟨v39, e1, hf⟩ := jbind hf
    replace e1 := (jcv_o e1).2
    replace hf := jite hf
    rcases hf with ⟨-, hf⟩ | ⟨-, hf⟩
    · replace hf := jite hf
      rcases hf with ⟨-, hf⟩ | ⟨-, hf⟩
      · cases hf
        exact wk_le K (by decide) (by decide)
      · replace hf := jite hf
        rcases hf with ⟨-, hf⟩ | ⟨-, hf⟩
        · cases hf
          exact wk_le K (by decide) (by decide)
        · cases hf
          exact wk_le K (by decide) (by decide)
    · obtain ⟨q48, e2, hf⟩ := jbind hf
      replace e2 := (jcv_o e2).2
      have f2 := FQ_X12_fits M e2
      have m2 := mS_fr M f2 (by decide) (by decide)
      have k2 := (WR_X12_fits M (wk_le K (by decide) (by decide)) e2)
      replace hf := jite hf
      rcases hf with ⟨-, hf⟩ | ⟨-, hf⟩
      · exact wk_le ((ih) m2 (wk_le k2 (by decide) (by decide)) hf) (by decide) (by decide)
      · exact wk_le ((ih) m2 (wk_le k2 (by decide) (by decide)) hf) (by decide) (by decide)
theorem WR_X12_snags_17 {V : jWd} {n : Nat} {a0 : Nat} {x1 : Int32} {sa0 : Nat} {s1 : Int32} {h : jH} {q : Int32 × jH} (hs : a0 = sa0) (M : mS (oc h) a0) (K : wK true false a0 V (oc h)) (hf : F_X12_snags_17 n a0 x1 sa0 s1 h = some q) : wK true false a0 V (oc q.2) := by
  unfold F_X12_snags_17 at hf
  subst hs
  obtain ⟨q18, e1, hf⟩ := jbind hf
  replace e1 := (jcv_o e1).2
  have f1 := FQ_X12_throwsIf M e1
  have m1 := mS_fr M f1 (by decide) (by decide)
  have k1 : wK true false a0 V (oc q18.2) := wk_fr K f1 (by decide) (by decide)
  replace hf := jite hf
  rcases hf with ⟨-, hf⟩ | ⟨-, hf⟩
  · obtain ⟨v29, e2, hf⟩ := jbind hf
    replace e2 := (jcv_o e2).2
    exact wk_le ((WR_X12_snags_36 m1 (wk_le k1 (by decide) (by decide)) hf)) (by decide) (by decide)
  · cases hf
    exact wk_le k1 (by decide) (by decide)
theorem WR_X12_snags {V : jWd} {n : Nat} {a0 : Nat} {x1 : Int32} {h : jH} {q : Int32 × jH} (M : mS (oc h) a0) (K : wK true false a0 V (oc h)) (hf : F_X12_snags n a0 x1 h = some q) : wK true false a0 V (oc q.2) := by
  unfold F_X12_snags at hf
  obtain ⟨h1, e1, hf⟩ := jbind hf
  replace e1 := (jcv_o e1).2
  have f1 := FQ_X12_uses M e1
  have m1 := mS_fr M f1 (by decide) (by decide)
  have k1 : wK true false a0 V (oc h1) := wk_fr K f1 (by decide) (by decide)
  obtain ⟨v6, e2, hf⟩ := jbind hf
  replace e2 := (jcv_o e2).2
  replace hf := jite hf
  rcases hf with ⟨-, hf⟩ | ⟨-, hf⟩
  · exact wk_le ((WR_X12_snags_17 rfl m1 (wk_le k1 (by decide) (by decide)) hf)) (by decide) (by decide)
  · exact wk_le ((WR_X12_snags_17 rfl m1 (wk_le k1 (by decide) (by decide)) hf)) (by decide) (by decide)
theorem WR_X12_partBy_29 {V : jWd} {n : Nat} {k : Nat} : ∀ {a0 : Nat} {x1 : Int32} {x2 : Int32} {x3 : Int32} {x4 : Int32} {h : jH} {q : Int32 × jH}, mS (oc h) a0 → wK true false a0 V (oc h) → F_X12_partBy_29 n k a0 x1 x2 x3 x4 h = some q → wK true false a0 V (oc q.2) := by
  induction k with
  | zero =>
    intro a0 x1 x2 x3 x4 h q M K hf
    cases hf
  | succ k ih =>
    intro a0 x1 x2 x3 x4 h q M K hf
    replace hf : F_X12_partBy_29_b n (F_X12_partBy_29 n k) a0 x1 x2 x3 x4 h = some q := hf
    unfold F_X12_partBy_29_b at hf
    obtain ⟨v32, e1, hf⟩ := jbind hf
    replace e1 := (jcv_o e1).2
    replace hf := jite hf
    rcases hf with ⟨-, hf⟩ | ⟨-, hf⟩
    · cases hf
      exact wk_le K (by decide) (by decide)
    · obtain ⟨p39, e2, hf⟩ := jbind hf
      have r2 := oc_gR e2
      rw [M.2.2.2.2.2.2.2.2.1] at r2
      cases r2
      obtain ⟨v44, e3, hf⟩ := jbind hf
      replace hf := jite hf
      rcases hf with ⟨-, hf⟩ | ⟨-, hf⟩
      · exact wk_le ((ih) M (wk_le K (by decide) (by decide)) hf) (by decide) (by decide)
      · obtain ⟨q58, e4, hf⟩ := jbind hf
        replace e4 := (jcv_o e4).2
        have f4 := FQ_X12_wentWith M e4
        have m4 := mS_fr M f4 (by decide) (by decide)
        have k4 := (WR_X12_wentWith M (wk_le K (by decide) (by decide)) e4)
        obtain ⟨p64, e5, hf⟩ := jbind hf
        have r5 := oc_gR e5
        rw [m4.2.2.2.2.2.2.2.2.2.1] at r5
        cases r5
        obtain ⟨v70, e6, hf⟩ := jbind hf
        obtain ⟨h73, e7, hf⟩ := jbind hf
        have f7 : frM a0 [10] [] (oc q58.2) (oc h73) := by rw [(oc_as e7).1]; exact frM_c (by decide)
        have m7 := mS_fr m4 f7 (by decide) (by decide)
        have k7 : wK true true a0 V (oc h73) := wk_fr k4 f7 (by decide) (by decide)
        obtain ⟨p76, e8, hf⟩ := jbind hf
        have r8 := oc_gR e8
        rw [m7.2.2.2.2.2.2.2.2.2.1] at r8
        cases r8
        obtain ⟨v81, e9, hf⟩ := jbind hf
        exact wk_le ((ih) m7 (wk_le k7 (by decide) (by decide)) hf) (by decide) (by decide)
theorem WR_X12_partBy_5 {V : jWd} {n : Nat} {k : Nat} : ∀ {a0 : Nat} {x1 : Int32} {x2 : Int32} {x3 : Int32} {x4 : Int32} {h : jH} {q : Int32 × jH}, mS (oc h) a0 → wK true false a0 V (oc h) → F_X12_partBy_5 n k a0 x1 x2 x3 x4 h = some q → wK true false a0 V (oc q.2) := by
  induction k with
  | zero =>
    intro a0 x1 x2 x3 x4 h q M K hf
    cases hf
  | succ k ih =>
    intro a0 x1 x2 x3 x4 h q M K hf
    replace hf : F_X12_partBy_5_b n (F_X12_partBy_5 n k) a0 x1 x2 x3 x4 h = some q := hf
    unfold F_X12_partBy_5_b at hf
    replace hf := jite hf
    rcases hf with ⟨-, hf⟩ | ⟨-, hf⟩
    · exact wk_le ((WR_X12_partBy_29 M (wk_le K (by decide) (by decide)) hf)) (by decide) (by decide)
    · obtain ⟨p13, e1, hf⟩ := jbind hf
      have r1 := oc_gR e1
      rw [M.2.2.2.2.2.2.2.2.2.1] at r1
      cases r1
      obtain ⟨h19, e2, hf⟩ := jbind hf
      have f2 : frM a0 [10] [] (oc h) (oc h19) := by rw [(oc_as e2).1]; exact frM_c (by decide)
      have m2 := mS_fr M f2 (by decide) (by decide)
      have k2 : wK true false a0 V (oc h19) := wk_fr K f2 (by decide) (by decide)
      exact wk_le ((ih) m2 (wk_le k2 (by decide) (by decide)) hf) (by decide) (by decide)
theorem WR_X12_partBy {V : jWd} {n : Nat} {a0 : Nat} {x1 : Int32} {x2 : Int32} {h : jH} {q : Int32 × jH} (M : mS (oc h) a0) (K : wK true false a0 V (oc h)) (hf : F_X12_partBy n a0 x1 x2 h = some q) : wK true false a0 V (oc q.2) := by
  unfold F_X12_partBy at hf
  exact wk_le ((WR_X12_partBy_5 M (wk_le K (by decide) (by decide)) hf)) (by decide) (by decide)
theorem WR_X12_tries_132 {V : jWd} {n : Nat} {rc81 : Nat → Int32 → Int32 → Int32 → Int32 → jH → Option (Int32 × jH)} (hrc81 : ∀ {z0 : Nat} {z1 : Int32} {z2 : Int32} {z3 : Int32} {z4 : Int32} {h : jH} {q : Int32 × jH}, mS (oc h) z0 → rc81 z0 z1 z2 z3 z4 h = some q → frM z0 [1, 4, 10] [18] (oc h) (oc q.2)) (wrc81 : ∀ {z0 : Nat} {z1 : Int32} {z2 : Int32} {z3 : Int32} {z4 : Int32} {h : jH} {q : Int32 × jH}, mS (oc h) z0 → wK true false z0 V (oc h) → rc81 z0 z1 z2 z3 z4 h = some q → wK true false z0 V (oc q.2)) {a0 : Nat} {x1 : Int32} {x3 : Int32} {x4 : Int32} {x5 : Int32} {s0 : Int32} {h : jH} {q : Int32 × jH} (M : mS (oc h) a0) (K : wK true false a0 V (oc h)) (hf : F_X12_tries_132 n rc81 a0 x1 x3 x4 x5 s0 h = some q) : wK true false a0 V (oc q.2) := by
  unfold F_X12_tries_132 at hf
  exact wk_le (wrc81 M (wk_le K (by decide) (by decide)) hf) (by decide) (by decide)
theorem WR_X12_tries_115 {V : jWd} {n : Nat} {rc81 : Nat → Int32 → Int32 → Int32 → Int32 → jH → Option (Int32 × jH)} (hrc81 : ∀ {z0 : Nat} {z1 : Int32} {z2 : Int32} {z3 : Int32} {z4 : Int32} {h : jH} {q : Int32 × jH}, mS (oc h) z0 → rc81 z0 z1 z2 z3 z4 h = some q → frM z0 [1, 4, 10] [18] (oc h) (oc q.2)) (wrc81 : ∀ {z0 : Nat} {z1 : Int32} {z2 : Int32} {z3 : Int32} {z4 : Int32} {h : jH} {q : Int32 × jH}, mS (oc h) z0 → wK true false z0 V (oc h) → rc81 z0 z1 z2 z3 z4 h = some q → wK true false z0 V (oc q.2)) {a0 : Nat} {x1 : Int32} {x2 : Int32} {x3 : Int32} {x4 : Int32} {sa0 : Nat} {s1 : Int32} {s2 : Int32} {h : jH} {q : Int32 × jH} (hs : a0 = sa0) (M : mS (oc h) a0) (K : wK true false a0 V (oc h)) (hf : F_X12_tries_115 n rc81 a0 x1 x2 x3 x4 sa0 s1 s2 h = some q) : wK true false a0 V (oc q.2) := by
  unfold F_X12_tries_115 at hf
  subst hs
  obtain ⟨q115, e1, hf⟩ := jbind hf
  replace e1 := (jcv_o e1).2
  have f1 := FQ_X12_partBy M e1
  have m1 := mS_fr M f1 (by decide) (by decide)
  have k1 := (WR_X12_partBy M (wk_le K (by decide) (by decide)) e1)
  replace hf := jite hf
  rcases hf with ⟨-, hf⟩ | ⟨-, hf⟩
  · exact wk_le ((WR_X12_tries_132 hrc81 wrc81 m1 (wk_le k1 (by decide) (by decide)) hf)) (by decide) (by decide)
  · exact wk_le ((WR_X12_tries_132 hrc81 wrc81 m1 (wk_le k1 (by decide) (by decide)) hf)) (by decide) (by decide)
theorem WR_X12_tries_81 {V : jWd} {n : Nat} {k : Nat} : ∀ {a0 : Nat} {x1 : Int32} {x2 : Int32} {x3 : Int32} {x4 : Int32} {h : jH} {q : Int32 × jH}, mS (oc h) a0 → wK true false a0 V (oc h) → F_X12_tries_81 n k a0 x1 x2 x3 x4 h = some q → wK true false a0 V (oc q.2) := by
  induction k with
  | zero =>
    intro a0 x1 x2 x3 x4 h q M K hf
    cases hf
  | succ k ih =>
    intro a0 x1 x2 x3 x4 h q M K hf
    replace hf : F_X12_tries_81_b n (F_X12_tries_81 n k) a0 x1 x2 x3 x4 h = some q := hf
    unfold F_X12_tries_81_b at hf
    obtain ⟨v85, e1, hf⟩ := jbind hf
    replace e1 := (jcv_o e1).2
    replace hf := jite hf
    rcases hf with ⟨-, hf⟩ | ⟨-, hf⟩
    · cases hf
      exact wk_le K (by decide) (by decide)
    · replace hf := jite hf
      rcases hf with ⟨-, hf⟩ | ⟨-, hf⟩
      · cases hf
        exact wk_le K (by decide) (by decide)
      · replace hf := jite hf
        rcases hf with ⟨-, hf⟩ | ⟨-, hf⟩
        · exact wk_le ((WR_X12_tries_115 (FQ_X12_tries_81) (ih) rfl M (wk_le K (by decide) (by decide)) hf)) (by decide) (by decide)
        · exact wk_le ((WR_X12_tries_115 (FQ_X12_tries_81) (ih) rfl M (wk_le K (by decide) (by decide)) hf)) (by decide) (by decide)
theorem WR_X12_tries_30 {V : jWd} {n : Nat} {k : Nat} : ∀ {a0 : Nat} {x1 : Int32} {x2 : Int32} {h : jH} {q : Int32 × jH}, mS (oc h) a0 → wK true false a0 V (oc h) → F_X12_tries_30 n k a0 x1 x2 h = some q → wK true false a0 V (oc q.2) := by
  induction k with
  | zero =>
    intro a0 x1 x2 h q M K hf
    cases hf
  | succ k ih =>
    intro a0 x1 x2 h q M K hf
    replace hf : F_X12_tries_30_b n (F_X12_tries_30 n k) a0 x1 x2 h = some q := hf
    unfold F_X12_tries_30_b at hf
    obtain ⟨v32, e1, hf⟩ := jbind hf
    replace e1 := (jcv_o e1).2
    replace hf := jite hf
    rcases hf with ⟨-, hf⟩ | ⟨-, hf⟩
    · exact wk_le ((WR_X12_tries_81 M (wk_le K (by decide) (by decide)) hf)) (by decide) (by decide)
    · obtain ⟨p39, e2, hf⟩ := jbind hf
      have r2 := oc_gR e2
      rw [M.2.2.2.2.2.2.2.2.1] at r2
      cases r2
      obtain ⟨q45, e3, hf⟩ := jbind hf
      replace e3 := (jcv_o e3).2
      have f3 := FQ_X12_fits M e3
      have m3 := mS_fr M f3 (by decide) (by decide)
      have k3 := (WR_X12_fits M (wk_le K (by decide) (by decide)) e3)
      obtain ⟨h48, e4, hf⟩ := jbind hf
      have f4 : frM a0 [9] [] (oc q45.2) (oc h48) := by rw [(oc_as e4).1]; exact frM_c (by decide)
      have m4 := mS_fr m3 f4 (by decide) (by decide)
      have k4 : wK true false a0 V (oc h48) := wk_fr k3 f4 (by decide) (by decide)
      obtain ⟨p51, e5, hf⟩ := jbind hf
      have r5 := oc_gR e5
      rw [m4.2.2.2.2.2.2.2.2.1] at r5
      cases r5
      obtain ⟨v55, e6, hf⟩ := jbind hf
      replace hf := jite hf
      rcases hf with ⟨-, hf⟩ | ⟨-, hf⟩
      · exact wk_le ((ih) m4 (wk_le k4 (by decide) (by decide)) hf) (by decide) (by decide)
      · exact wk_le ((ih) m4 (wk_le k4 (by decide) (by decide)) hf) (by decide) (by decide)
theorem WR_X12_tries_17 {V : jWd} {n : Nat} {a0 : Nat} {sa0 : Nat} {s1 : Int32} {h : jH} {q : Int32 × jH} (hs : a0 = sa0) (M : mS (oc h) a0) (K : wK true false a0 V (oc h)) (hf : F_X12_tries_17 n a0 sa0 s1 h = some q) : wK true false a0 V (oc q.2) := by
  unfold F_X12_tries_17 at hf
  subst hs
  obtain ⟨q18, e1, hf⟩ := jbind hf
  replace e1 := (jcv_o e1).2
  have f1 := FQ_X12_throwsIf M e1
  have m1 := mS_fr M f1 (by decide) (by decide)
  have k1 : wK true false a0 V (oc q18.2) := wk_fr K f1 (by decide) (by decide)
  replace hf := jite hf
  rcases hf with ⟨-, hf⟩ | ⟨-, hf⟩
  · exact wk_le ((WR_X12_tries_30 m1 (wk_le k1 (by decide) (by decide)) hf)) (by decide) (by decide)
  · cases hf
    exact wk_le k1 (by decide) (by decide)
theorem WR_X12_tries {V : jWd} {n : Nat} {a0 : Nat} {h : jH} {q : Int32 × jH} (M : mS (oc h) a0) (K : wK true false a0 V (oc h)) (hf : F_X12_tries n a0 h = some q) : wK true false a0 V (oc q.2) := by
  unfold F_X12_tries at hf
  obtain ⟨h1, e1, hf⟩ := jbind hf
  replace e1 := (jcv_o e1).2
  have f1 := FQ_X12_uses M e1
  have m1 := mS_fr M f1 (by decide) (by decide)
  have k1 : wK true false a0 V (oc h1) := wk_fr K f1 (by decide) (by decide)
  obtain ⟨v6, e2, hf⟩ := jbind hf
  replace e2 := (jcv_o e2).2
  replace hf := jite hf
  rcases hf with ⟨-, hf⟩ | ⟨-, hf⟩
  · exact wk_le ((WR_X12_tries_17 rfl m1 (wk_le k1 (by decide) (by decide)) hf)) (by decide) (by decide)
  · exact wk_le ((WR_X12_tries_17 rfl m1 (wk_le k1 (by decide) (by decide)) hf)) (by decide) (by decide)
theorem WR_X12_faded {V : jWd} {n : Nat} {a0 : Nat} {x1 : Int32} {h : jH} {q : Int32 × jH} (M : mS (oc h) a0) (K : wK true false a0 V (oc h)) (hf : F_X12_faded n a0 x1 h = some q) : wK true false a0 V (oc q.2) := by
  unfold F_X12_faded at hf
  obtain ⟨h2, e1, hf⟩ := jbind hf
  have f1 : frM a0 [] [0] (oc h) (oc h2) := by rw [(oc_pf e1).1]; exact frM_f (by decide)
  have m1 := mS_fr M f1 (by decide) (by decide)
  have k1 : wK true false a0 V (oc h2) := wk_fr K f1 (by decide) (by decide)
  obtain ⟨v7, e2, hf⟩ := jbind hf
  obtain ⟨q11, e3, hf⟩ := jbind hf
  replace e3 := (jcv_o e3).2
  have f3 := FQ_X12_throwsIf m1 e3
  have m3 := mS_fr m1 f3 (by decide) (by decide)
  have k3 : wK true false a0 V (oc q11.2) := wk_fr k1 f3 (by decide) (by decide)
  replace hf := jite hf
  rcases hf with ⟨-, hf⟩ | ⟨-, hf⟩
  · obtain ⟨h20, e4, hf⟩ := jbind hf
    replace e4 := (jcv_o e4).2
    have f4 := FQ_X12_keepsAll m3 e4
    have m4 := mS_fr m3 f4 (by decide) (by decide)
    have k4 := wk_keep m3 k3 e4
    obtain ⟨q26, e5, hf⟩ := jbind hf
    replace e5 := (jcv_o e5).2
    have f5 := FQ_X12_goesOn m4 e5
    have m5 := mS_fr m4 f5 (by decide) (by decide)
    have k5 : wK false true a0 V (oc q26.2) := wk_fr k4 f5 (by decide) (by decide)
    obtain ⟨v31, e6, hf⟩ := jbind hf
    replace e6 := (jcv_o e6).2
    obtain ⟨h36, e7, hf⟩ := jbind hf
    replace e7 := (jcv_o e7).2
    have f7 := FQ_X12_bringsBack m5 e7
    have m7 := mS_fr m5 f7 (by decide) (by decide)
    have k7 := wk_back m5 k5 e7
    cases hf
    exact wk_le k7 (by decide) (by decide)
  · cases hf
    exact wk_le k3 (by decide) (by decide)
theorem WR_X12_ahead {V : jWd} {n : Nat} {a0 : Nat} {x1 : Int32} {x2 : Int32} {h : jH} {q : Int32 × jH} (M : mS (oc h) a0) (K : wK true false a0 V (oc h)) (hf : F_X12_ahead n a0 x1 x2 h = some q) : wK true false a0 V (oc q.2) := by
  unfold F_X12_ahead at hf
  obtain ⟨h2, e1, hf⟩ := jbind hf
  have f1 : frM a0 [] [0] (oc h) (oc h2) := by rw [(oc_pf e1).1]; exact frM_f (by decide)
  have m1 := mS_fr M f1 (by decide) (by decide)
  have k1 : wK true false a0 V (oc h2) := wk_fr K f1 (by decide) (by decide)
  obtain ⟨v8, e2, hf⟩ := jbind hf
  replace e2 := (jcv_o e2).2
  obtain ⟨q12, e3, hf⟩ := jbind hf
  replace e3 := (jcv_o e3).2
  have f3 := FQ_X12_throwsIf m1 e3
  have m3 := mS_fr m1 f3 (by decide) (by decide)
  have k3 : wK true false a0 V (oc q12.2) := wk_fr k1 f3 (by decide) (by decide)
  replace hf := jite hf
  rcases hf with ⟨-, hf⟩ | ⟨-, hf⟩
  · obtain ⟨v20, e4, hf⟩ := jbind hf
    obtain ⟨q24, e5, hf⟩ := jbind hf
    replace e5 := (jcv_o e5).2
    have f5 := FQ_X12_throwsIf m3 e5
    have m5 := mS_fr m3 f5 (by decide) (by decide)
    have k5 : wK true false a0 V (oc q24.2) := wk_fr k3 f5 (by decide) (by decide)
    replace hf := jite hf
    rcases hf with ⟨-, hf⟩ | ⟨-, hf⟩
    · obtain ⟨h33, e6, hf⟩ := jbind hf
      replace e6 := (jcv_o e6).2
      have f6 := FQ_X12_keepsAll m5 e6
      have m6 := mS_fr m5 f6 (by decide) (by decide)
      have k6 := wk_keep m5 k5 e6
      obtain ⟨q39, e7, hf⟩ := jbind hf
      replace e7 := (jcv_o e7).2
      have f7 := FQ_X12_goesOn m6 e7
      have m7 := mS_fr m6 f7 (by decide) (by decide)
      have k7 : wK false true a0 V (oc q39.2) := wk_fr k6 f7 (by decide) (by decide)
      obtain ⟨v46, e8, hf⟩ := jbind hf
      replace e8 := (jcv_o e8).2
      obtain ⟨h51, e9, hf⟩ := jbind hf
      replace e9 := (jcv_o e9).2
      have f9 := FQ_X12_bringsBack m7 e9
      have m9 := mS_fr m7 f9 (by decide) (by decide)
      have k9 := wk_back m7 k7 e9
      cases hf
      exact wk_le k9 (by decide) (by decide)
    · cases hf
      exact wk_le k5 (by decide) (by decide)
  · cases hf
    exact wk_le k3 (by decide) (by decide)
theorem WR_X12_trial_47 {V : jWd} {n : Nat} {a0 : Nat} {s0 : Int32} {h : jH} {q : Int32 × jH} (M : mS (oc h) a0) (K : wK false true a0 V (oc h)) (hf : F_X12_trial_47 n a0 s0 h = some q) : wK true true a0 V (oc q.2) := by
  unfold F_X12_trial_47 at hf
  obtain ⟨h49, e1, hf⟩ := jbind hf
  replace e1 := (jcv_o e1).2
  have f1 := FQ_X12_bringsBack M e1
  have m1 := mS_fr M f1 (by decide) (by decide)
  have k1 := wk_back M K e1
  cases hf
  exact wk_le k1 (by decide) (by decide)
theorem WR_X12_trial {V : jWd} {n : Nat} {a0 : Nat} {x1 : Int32} {x2 : Int32} {h : jH} {q : Int32 × jH} (M : mS (oc h) a0) (K : wK true false a0 V (oc h)) (hf : F_X12_trial n a0 x1 x2 h = some q) : wK true false a0 V (oc q.2) := by
  unfold F_X12_trial at hf
  obtain ⟨h2, e1, hf⟩ := jbind hf
  have f1 : frM a0 [] [0] (oc h) (oc h2) := by rw [(oc_pf e1).1]; exact frM_f (by decide)
  have m1 := mS_fr M f1 (by decide) (by decide)
  have k1 : wK true false a0 V (oc h2) := wk_fr K f1 (by decide) (by decide)
  obtain ⟨v7, e2, hf⟩ := jbind hf
  obtain ⟨q11, e3, hf⟩ := jbind hf
  replace e3 := (jcv_o e3).2
  have f3 := FQ_X12_throwsIf m1 e3
  have m3 := mS_fr m1 f3 (by decide) (by decide)
  have k3 : wK true false a0 V (oc q11.2) := wk_fr k1 f3 (by decide) (by decide)
  replace hf := jite hf
  rcases hf with ⟨-, hf⟩ | ⟨-, hf⟩
  · obtain ⟨h20, e4, hf⟩ := jbind hf
    replace e4 := (jcv_o e4).2
    have f4 := FQ_X12_keepsAll m3 e4
    have m4 := mS_fr m3 f4 (by decide) (by decide)
    have k4 := wk_keep m3 k3 e4
    obtain ⟨q26, e5, hf⟩ := jbind hf
    replace e5 := (jcv_o e5).2
    have f5 := FQ_X12_goesOn m4 e5
    have m5 := mS_fr m4 f5 (by decide) (by decide)
    have k5 : wK false true a0 V (oc q26.2) := wk_fr k4 f5 (by decide) (by decide)
    replace hf := jite hf
    rcases hf with ⟨-, hf⟩ | ⟨-, hf⟩
    · obtain ⟨v44, e6, hf⟩ := jbind hf
      replace e6 := (jcv_o e6).2
      exact wk_le ((WR_X12_trial_47 m5 (wk_le k5 (by decide) (by decide)) hf)) (by decide) (by decide)
    · obtain ⟨v35, e7, hf⟩ := jbind hf
      replace e7 := (jcv_o e7).2
      exact wk_le ((WR_X12_trial_47 m5 (wk_le k5 (by decide) (by decide)) hf)) (by decide) (by decide)
  · cases hf
    exact wk_le k3 (by decide) (by decide)
theorem WR_X12_span_28 {V : jWd} {n : Nat} {k : Nat} : ∀ {a0 : Nat} {x1 : Int32} {x2 : Int32} {x3 : Int32} {x4 : Int32} {h : jH} {q : Int32 × jH}, mS (oc h) a0 → wK true true a0 V (oc h) → F_X12_span_28 n k a0 x1 x2 x3 x4 h = some q → wK true true a0 V (oc q.2) := by
  induction k with
  | zero =>
    intro a0 x1 x2 x3 x4 h q M K hf
    cases hf
  | succ k ih =>
    intro a0 x1 x2 x3 x4 h q M K hf
    replace hf : F_X12_span_28_b n (F_X12_span_28 n k) a0 x1 x2 x3 x4 h = some q := hf
    unfold F_X12_span_28_b at hf
    replace hf := jite hf
    rcases hf with ⟨-, hf⟩ | ⟨-, hf⟩
    · cases hf
      exact wk_le K (by decide) (by decide)
    · obtain ⟨p36, e1, hf⟩ := jbind hf
      have r1 := oc_gR e1
      rw [M.1] at r1
      cases r1
      obtain ⟨h43, e2, hf⟩ := jbind hf
      have f2 : frM a0 [1] [] (oc h) (oc h43) := by rw [(oc_as e2).1]; exact frM_c (by decide)
      have m2 := mS_fr M f2 (by decide) (by decide)
      have k2 : wK false true a0 V (oc h43) := wk_fr K f2 (by decide) (by decide)
      obtain ⟨q47, e3, hf⟩ := jbind hf
      replace e3 := (jcv_o e3).2
      have f3 := FQ_X12_goesOn m2 e3
      have m3 := mS_fr m2 f3 (by decide) (by decide)
      have k3 : wK false true a0 V (oc q47.2) := wk_fr k2 f3 (by decide) (by decide)
      obtain ⟨v54, e4, hf⟩ := jbind hf
      replace e4 := (jcv_o e4).2
      obtain ⟨v57, e5, hf⟩ := jbind hf
      obtain ⟨v61, e6, hf⟩ := jbind hf
      replace e6 := (jcv_o e6).2
      obtain ⟨v64, e7, hf⟩ := jbind hf
      obtain ⟨h71, e8, hf⟩ := jbind hf
      replace e8 := (jcv_o e8).2
      have f8 := FQ_X12_bringsBack m3 e8
      have m8 := mS_fr m3 f8 (by decide) (by decide)
      have k8 := wk_back m3 k3 e8
      replace hf := jite hf
      rcases hf with ⟨-, hf⟩ | ⟨-, hf⟩
      · replace hf := jite hf
        rcases hf with ⟨-, hf⟩ | ⟨-, hf⟩
        · exact wk_le ((ih) m8 (wk_le k8 (by decide) (by decide)) hf) (by decide) (by decide)
        · exact wk_le ((ih) m8 (wk_le k8 (by decide) (by decide)) hf) (by decide) (by decide)
      · exact wk_le ((ih) m8 (wk_le k8 (by decide) (by decide)) hf) (by decide) (by decide)
theorem WR_X12_span {V : jWd} {n : Nat} {a0 : Nat} {x1 : Int32} {x2 : Int32} {h : jH} {q : Int32 × jH} (M : mS (oc h) a0) (K : wK true false a0 V (oc h)) (hf : F_X12_span n a0 x1 x2 h = some q) : wK true false a0 V (oc q.2) := by
  unfold F_X12_span at hf
  obtain ⟨h2, e1, hf⟩ := jbind hf
  have f1 : frM a0 [] [0] (oc h) (oc h2) := by rw [(oc_pf e1).1]; exact frM_f (by decide)
  have m1 := mS_fr M f1 (by decide) (by decide)
  have k1 : wK true false a0 V (oc h2) := wk_fr K f1 (by decide) (by decide)
  obtain ⟨v7, e2, hf⟩ := jbind hf
  obtain ⟨q11, e3, hf⟩ := jbind hf
  replace e3 := (jcv_o e3).2
  have f3 := FQ_X12_throwsIf m1 e3
  have m3 := mS_fr m1 f3 (by decide) (by decide)
  have k3 : wK true false a0 V (oc q11.2) := wk_fr k1 f3 (by decide) (by decide)
  replace hf := jite hf
  rcases hf with ⟨-, hf⟩ | ⟨-, hf⟩
  · obtain ⟨h20, e4, hf⟩ := jbind hf
    replace e4 := (jcv_o e4).2
    have f4 := FQ_X12_keepsAll m3 e4
    have m4 := mS_fr m3 f4 (by decide) (by decide)
    have k4 := wk_keep m3 k3 e4
    exact wk_le ((WR_X12_span_28 m4 (wk_le k4 (by decide) (by decide)) hf)) (by decide) (by decide)
  · cases hf
    exact wk_le k3 (by decide) (by decide)
theorem WR_X12_best_113 {V : jWd} {n : Nat} {rc14 : Nat → Int32 → Int32 → Int32 → jH → Option (Int32 × jH)} (hrc14 : ∀ {z0 : Nat} {z1 : Int32} {z2 : Int32} {z3 : Int32} {h : jH} {q : Int32 × jH}, mS (oc h) z0 → rc14 z0 z1 z2 z3 h = some q → frM z0 [1, 4] [18] (oc h) (oc q.2)) (wrc14 : ∀ {z0 : Nat} {z1 : Int32} {z2 : Int32} {z3 : Int32} {h : jH} {q : Int32 × jH}, mS (oc h) z0 → wK true false z0 V (oc h) → rc14 z0 z1 z2 z3 h = some q → wK true false z0 V (oc q.2)) {a0 : Nat} {x1 : Int32} {x2 : Int32} {x3 : Int32} {h : jH} {q : Int32 × jH} (M : mS (oc h) a0) (K : wK false true a0 V (oc h)) (hf : F_X12_best_113 n rc14 a0 x1 x2 x3 h = some q) : wK true false a0 V (oc q.2) := by
  unfold F_X12_best_113 at hf
  obtain ⟨h114, e1, hf⟩ := jbind hf
  replace e1 := (jcv_o e1).2
  have f1 := FQ_X12_bringsBack M e1
  have m1 := mS_fr M f1 (by decide) (by decide)
  have k1 := wk_back M K e1
  exact wk_le (wrc14 m1 (wk_le k1 (by decide) (by decide)) hf) (by decide) (by decide)
theorem WR_X12_best_99 {V : jWd} {n : Nat} {rc14 : Nat → Int32 → Int32 → Int32 → jH → Option (Int32 × jH)} (hrc14 : ∀ {z0 : Nat} {z1 : Int32} {z2 : Int32} {z3 : Int32} {h : jH} {q : Int32 × jH}, mS (oc h) z0 → rc14 z0 z1 z2 z3 h = some q → frM z0 [1, 4] [18] (oc h) (oc q.2)) (wrc14 : ∀ {z0 : Nat} {z1 : Int32} {z2 : Int32} {z3 : Int32} {h : jH} {q : Int32 × jH}, mS (oc h) z0 → wK true false z0 V (oc h) → rc14 z0 z1 z2 z3 h = some q → wK true false z0 V (oc q.2)) {rc34 : Nat → Int32 → Int32 → Int32 → Int32 → Int32 → jH → Option (Int32 × jH)} (hrc34 : ∀ {z0 : Nat} {z1 : Int32} {z2 : Int32} {z3 : Int32} {z4 : Int32} {z5 : Int32} {h : jH} {q : Int32 × jH}, mS (oc h) z0 → rc34 z0 z1 z2 z3 z4 z5 h = some q → frM z0 [1, 4] [18] (oc h) (oc q.2)) (wrc34 : ∀ {z0 : Nat} {z1 : Int32} {z2 : Int32} {z3 : Int32} {z4 : Int32} {z5 : Int32} {h : jH} {q : Int32 × jH}, mS (oc h) z0 → wK false true z0 V (oc h) → rc34 z0 z1 z2 z3 z4 z5 h = some q → wK true false z0 V (oc q.2)) {a0 : Nat} {x2 : Int32} {x3 : Int32} {x4 : Int32} {x5 : Int32} {x6 : Int32} {s0 : Int32} {h : jH} {q : Int32 × jH} (M : mS (oc h) a0) (K : wK false true a0 V (oc h)) (hf : F_X12_best_99 n rc14 rc34 a0 x2 x3 x4 x5 x6 s0 h = some q) : wK true false a0 V (oc q.2) := by
  unfold F_X12_best_99 at hf
  exact wk_le (wrc34 M (wk_le K (by decide) (by decide)) hf) (by decide) (by decide)
theorem WR_X12_best_62 {V : jWd} {n : Nat} {rc14 : Nat → Int32 → Int32 → Int32 → jH → Option (Int32 × jH)} (hrc14 : ∀ {z0 : Nat} {z1 : Int32} {z2 : Int32} {z3 : Int32} {h : jH} {q : Int32 × jH}, mS (oc h) z0 → rc14 z0 z1 z2 z3 h = some q → frM z0 [1, 4] [18] (oc h) (oc q.2)) (wrc14 : ∀ {z0 : Nat} {z1 : Int32} {z2 : Int32} {z3 : Int32} {h : jH} {q : Int32 × jH}, mS (oc h) z0 → wK true false z0 V (oc h) → rc14 z0 z1 z2 z3 h = some q → wK true false z0 V (oc q.2)) {rc34 : Nat → Int32 → Int32 → Int32 → Int32 → Int32 → jH → Option (Int32 × jH)} (hrc34 : ∀ {z0 : Nat} {z1 : Int32} {z2 : Int32} {z3 : Int32} {z4 : Int32} {z5 : Int32} {h : jH} {q : Int32 × jH}, mS (oc h) z0 → rc34 z0 z1 z2 z3 z4 z5 h = some q → frM z0 [1, 4] [18] (oc h) (oc q.2)) (wrc34 : ∀ {z0 : Nat} {z1 : Int32} {z2 : Int32} {z3 : Int32} {z4 : Int32} {z5 : Int32} {h : jH} {q : Int32 × jH}, mS (oc h) z0 → wK false true z0 V (oc h) → rc34 z0 z1 z2 z3 z4 z5 h = some q → wK true false z0 V (oc q.2)) {a0 : Nat} {x1 : Int32} {x2 : Int32} {x3 : Int32} {x5 : Int32} {sa0 : Nat} {s1 : Int32} {s2 : Int32} {h : jH} {q : Int32 × jH} (hs : a0 = sa0) (M : mS (oc h) a0) (K : wK false true a0 V (oc h)) (hf : F_X12_best_62 n rc14 rc34 a0 x1 x2 x3 x5 sa0 s1 s2 h = some q) : wK true false a0 V (oc q.2) := by
  unfold F_X12_best_62 at hf
  subst hs
  obtain ⟨q62, e1, hf⟩ := jbind hf
  replace e1 := (jcv_o e1).2
  have f1 := FQ_X12_goesOne M e1
  have m1 := mS_fr M f1 (by decide) (by decide)
  have k1 : wK false true a0 V (oc q62.2) := wk_fr K f1 (by decide) (by decide)
  replace hf := jite hf
  rcases hf with ⟨-, hf⟩ | ⟨-, hf⟩
  · replace hf := jite hf
    rcases hf with ⟨-, hf⟩ | ⟨-, hf⟩
    · exact wk_le ((WR_X12_best_99 hrc14 wrc14 hrc34 wrc34 m1 (wk_le k1 (by decide) (by decide)) hf)) (by decide) (by decide)
    · exact wk_le ((WR_X12_best_99 hrc14 wrc14 hrc34 wrc34 m1 (wk_le k1 (by decide) (by decide)) hf)) (by decide) (by decide)
  · obtain ⟨v73, e2, hf⟩ := jbind hf
    replace e2 := (jcv_o e2).2
    replace hf := jite hf
    rcases hf with ⟨-, hf⟩ | ⟨-, hf⟩
    · exact wk_le ((WR_X12_best_99 hrc14 wrc14 hrc34 wrc34 m1 (wk_le k1 (by decide) (by decide)) hf)) (by decide) (by decide)
    · exact wk_le ((WR_X12_best_99 hrc14 wrc14 hrc34 wrc34 m1 (wk_le k1 (by decide) (by decide)) hf)) (by decide) (by decide)
theorem WR_X12_best_34 {V : jWd} {n : Nat} {rc14 : Nat → Int32 → Int32 → Int32 → jH → Option (Int32 × jH)} (hrc14 : ∀ {z0 : Nat} {z1 : Int32} {z2 : Int32} {z3 : Int32} {h : jH} {q : Int32 × jH}, mS (oc h) z0 → rc14 z0 z1 z2 z3 h = some q → frM z0 [1, 4] [18] (oc h) (oc q.2)) (wrc14 : ∀ {z0 : Nat} {z1 : Int32} {z2 : Int32} {z3 : Int32} {h : jH} {q : Int32 × jH}, mS (oc h) z0 → wK true false z0 V (oc h) → rc14 z0 z1 z2 z3 h = some q → wK true false z0 V (oc q.2)) {k : Nat} : ∀ {a0 : Nat} {x1 : Int32} {x2 : Int32} {x3 : Int32} {x4 : Int32} {x5 : Int32} {h : jH} {q : Int32 × jH}, mS (oc h) a0 → wK false true a0 V (oc h) → F_X12_best_34 n rc14 k a0 x1 x2 x3 x4 x5 h = some q → wK true false a0 V (oc q.2) := by
  induction k with
  | zero =>
    intro a0 x1 x2 x3 x4 x5 h q M K hf
    cases hf
  | succ k ih =>
    intro a0 x1 x2 x3 x4 x5 h q M K hf
    replace hf : F_X12_best_34_b n rc14 (F_X12_best_34 n rc14 k) a0 x1 x2 x3 x4 x5 h = some q := hf
    unfold F_X12_best_34_b at hf
    replace hf := jite hf
    rcases hf with ⟨-, hf⟩ | ⟨-, hf⟩
    · exact wk_le ((WR_X12_best_113 hrc14 wrc14 M (wk_le K (by decide) (by decide)) hf)) (by decide) (by decide)
    · replace hf := jite hf
      rcases hf with ⟨-, hf⟩ | ⟨-, hf⟩
      · exact wk_le ((WR_X12_best_113 hrc14 wrc14 M (wk_le K (by decide) (by decide)) hf)) (by decide) (by decide)
      · replace hf := jite hf
        rcases hf with ⟨-, hf⟩ | ⟨-, hf⟩
        · exact wk_le ((WR_X12_best_62 hrc14 wrc14 (FQ_X12_best_34 hrc14) (ih) rfl M (wk_le K (by decide) (by decide)) hf)) (by decide) (by decide)
        · exact wk_le ((WR_X12_best_62 hrc14 wrc14 (FQ_X12_best_34 hrc14) (ih) rfl M (wk_le K (by decide) (by decide)) hf)) (by decide) (by decide)
theorem WR_X12_best_14 {V : jWd} {n : Nat} {k : Nat} : ∀ {a0 : Nat} {x1 : Int32} {x2 : Int32} {x3 : Int32} {h : jH} {q : Int32 × jH}, mS (oc h) a0 → wK true false a0 V (oc h) → F_X12_best_14 n k a0 x1 x2 x3 h = some q → wK true false a0 V (oc q.2) := by
  induction k with
  | zero =>
    intro a0 x1 x2 x3 h q M K hf
    cases hf
  | succ k ih =>
    intro a0 x1 x2 x3 h q M K hf
    replace hf : F_X12_best_14_b n (F_X12_best_14 n k) a0 x1 x2 x3 h = some q := hf
    unfold F_X12_best_14_b at hf
    obtain ⟨v17, e1, hf⟩ := jbind hf
    replace e1 := (jcv_o e1).2
    replace hf := jite hf
    rcases hf with ⟨-, hf⟩ | ⟨-, hf⟩
    · cases hf
      exact wk_le K (by decide) (by decide)
    · obtain ⟨h28, e2, hf⟩ := jbind hf
      replace e2 := (jcv_o e2).2
      have f2 := FQ_X12_keepsAll M e2
      have m2 := mS_fr M f2 (by decide) (by decide)
      have k2 := wk_keep M K e2
      exact wk_le ((WR_X12_best_34 (FQ_X12_best_14) (ih) m2 (wk_le k2 (by decide) (by decide)) hf)) (by decide) (by decide)
theorem WR_X12_best {V : jWd} {n : Nat} {a0 : Nat} {h : jH} {q : Int32 × jH} (M : mS (oc h) a0) (K : wK true false a0 V (oc h)) (hf : F_X12_best n a0 h = some q) : wK true false a0 V (oc q.2) := by
  unfold F_X12_best at hf
  obtain ⟨h2, e1, hf⟩ := jbind hf
  have f1 : frM a0 [] [0] (oc h) (oc h2) := by rw [(oc_pf e1).1]; exact frM_f (by decide)
  have m1 := mS_fr M f1 (by decide) (by decide)
  have k1 : wK true false a0 V (oc h2) := wk_fr K f1 (by decide) (by decide)
  obtain ⟨v8, e2, hf⟩ := jbind hf
  replace e2 := (jcv_o e2).2
  exact wk_le ((WR_X12_best_14 m1 (wk_le k1 (by decide) (by decide)) hf)) (by decide) (by decide)
theorem WR_X12_stepsTo_72 {V : jWd} {n : Nat} {a0 : Nat} {x4 : Int32} {h : jH} {q : Int32 × jH} (M : mS (oc h) a0) (K : wK false true a0 V (oc h)) (hf : F_X12_stepsTo_72 n a0 x4 h = some q) : wK true true a0 V (oc q.2) := by
  unfold F_X12_stepsTo_72 at hf
  obtain ⟨h73, e1, hf⟩ := jbind hf
  replace e1 := (jcv_o e1).2
  have f1 := FQ_X12_bringsBack M e1
  have m1 := mS_fr M f1 (by decide) (by decide)
  have k1 := wk_back M K e1
  cases hf
  exact wk_le k1 (by decide) (by decide)
theorem WR_X12_stepsTo_15 {V : jWd} {n : Nat} {k : Nat} : ∀ {a0 : Nat} {x1 : Int32} {x2 : Int32} {x3 : Int32} {x4 : Int32} {x5 : Int32} {x6 : Int32} {h : jH} {q : Int32 × jH}, mS (oc h) a0 → wK false true a0 V (oc h) → F_X12_stepsTo_15 n k a0 x1 x2 x3 x4 x5 x6 h = some q → wK true true a0 V (oc q.2) := by
  induction k with
  | zero =>
    intro a0 x1 x2 x3 x4 x5 x6 h q M K hf
    cases hf
  | succ k ih =>
    intro a0 x1 x2 x3 x4 x5 x6 h q M K hf
    replace hf : F_X12_stepsTo_15_b n (F_X12_stepsTo_15 n k) a0 x1 x2 x3 x4 x5 x6 h = some q := hf
    unfold F_X12_stepsTo_15_b at hf
    replace hf := jite hf
    rcases hf with ⟨-, hf⟩ | ⟨-, hf⟩
    · exact wk_le ((WR_X12_stepsTo_72 M (wk_le K (by decide) (by decide)) hf)) (by decide) (by decide)
    · replace hf := jite hf
      rcases hf with ⟨-, hf⟩ | ⟨-, hf⟩
      · exact wk_le ((WR_X12_stepsTo_72 M (wk_le K (by decide) (by decide)) hf)) (by decide) (by decide)
      · replace hf := jite hf
        rcases hf with ⟨-, hf⟩ | ⟨-, hf⟩
        · obtain ⟨q38, e1, hf⟩ := jbind hf
          replace e1 := (jcv_o e1).2
          have f1 := FQ_X12_goesOne M e1
          have m1 := mS_fr M f1 (by decide) (by decide)
          have k1 : wK false true a0 V (oc q38.2) := wk_fr K f1 (by decide) (by decide)
          replace hf := jite hf
          rcases hf with ⟨-, hf⟩ | ⟨-, hf⟩
          · exact wk_le ((ih) m1 (wk_le k1 (by decide) (by decide)) hf) (by decide) (by decide)
          · obtain ⟨v50, e2, hf⟩ := jbind hf
            replace e2 := (jcv_o e2).2
            replace hf := jite hf
            rcases hf with ⟨-, hf⟩ | ⟨-, hf⟩
            · exact wk_le ((ih) m1 (wk_le k1 (by decide) (by decide)) hf) (by decide) (by decide)
            · exact wk_le ((ih) m1 (wk_le k1 (by decide) (by decide)) hf) (by decide) (by decide)
        · exact wk_le ((WR_X12_stepsTo_72 M (wk_le K (by decide) (by decide)) hf)) (by decide) (by decide)
theorem WR_X12_stepsTo {V : jWd} {n : Nat} {a0 : Nat} {x1 : Int32} {x2 : Int32} {x3 : Int32} {h : jH} {q : Int32 × jH} (M : mS (oc h) a0) (K : wK true false a0 V (oc h)) (hf : F_X12_stepsTo n a0 x1 x2 x3 h = some q) : wK true true a0 V (oc q.2) := by
  unfold F_X12_stepsTo at hf
  obtain ⟨h9, e1, hf⟩ := jbind hf
  replace e1 := (jcv_o e1).2
  have f1 := FQ_X12_keepsAll M e1
  have m1 := mS_fr M f1 (by decide) (by decide)
  have k1 := wk_keep M K e1
  exact wk_le ((WR_X12_stepsTo_15 m1 (wk_le k1 (by decide) (by decide)) hf)) (by decide) (by decide)
theorem WR_X12_fewestTo_58 {V : jWd} {n : Nat} {rc10 : Nat → Int32 → Int32 → Int32 → Int32 → Int32 → jH → Option (Int32 × jH)} (hrc10 : ∀ {z0 : Nat} {z1 : Int32} {z2 : Int32} {z3 : Int32} {z4 : Int32} {z5 : Int32} {h : jH} {q : Int32 × jH}, mS (oc h) z0 → rc10 z0 z1 z2 z3 z4 z5 h = some q → frM z0 [1, 4] [18] (oc h) (oc q.2)) (wrc10 : ∀ {z0 : Nat} {z1 : Int32} {z2 : Int32} {z3 : Int32} {z4 : Int32} {z5 : Int32} {h : jH} {q : Int32 × jH}, mS (oc h) z0 → wK true false z0 V (oc h) → rc10 z0 z1 z2 z3 z4 z5 h = some q → wK true false z0 V (oc q.2)) {a0 : Nat} {x1 : Int32} {x2 : Int32} {x4 : Int32} {x5 : Int32} {x6 : Int32} {s0 : Int32} {h : jH} {q : Int32 × jH} (M : mS (oc h) a0) (K : wK true true a0 V (oc h)) (hf : F_X12_fewestTo_58 n rc10 a0 x1 x2 x4 x5 x6 s0 h = some q) : wK true false a0 V (oc q.2) := by
  unfold F_X12_fewestTo_58 at hf
  exact wk_le (wrc10 M (wk_le K (by decide) (by decide)) hf) (by decide) (by decide)
theorem WR_X12_fewestTo_40 {V : jWd} {n : Nat} {rc10 : Nat → Int32 → Int32 → Int32 → Int32 → Int32 → jH → Option (Int32 × jH)} (hrc10 : ∀ {z0 : Nat} {z1 : Int32} {z2 : Int32} {z3 : Int32} {z4 : Int32} {z5 : Int32} {h : jH} {q : Int32 × jH}, mS (oc h) z0 → rc10 z0 z1 z2 z3 z4 z5 h = some q → frM z0 [1, 4] [18] (oc h) (oc q.2)) (wrc10 : ∀ {z0 : Nat} {z1 : Int32} {z2 : Int32} {z3 : Int32} {z4 : Int32} {z5 : Int32} {h : jH} {q : Int32 × jH}, mS (oc h) z0 → wK true false z0 V (oc h) → rc10 z0 z1 z2 z3 z4 z5 h = some q → wK true false z0 V (oc q.2)) {a0 : Nat} {x1 : Int32} {x2 : Int32} {x3 : Int32} {x4 : Int32} {x5 : Int32} {sa0 : Nat} {s1 : Int32} {s2 : Int32} {s3 : Int32} {h : jH} {q : Int32 × jH} (hs : a0 = sa0) (M : mS (oc h) a0) (K : wK true false a0 V (oc h)) (hf : F_X12_fewestTo_40 n rc10 a0 x1 x2 x3 x4 x5 sa0 s1 s2 s3 h = some q) : wK true false a0 V (oc q.2) := by
  unfold F_X12_fewestTo_40 at hf
  subst hs
  obtain ⟨q40, e1, hf⟩ := jbind hf
  replace e1 := (jcv_o e1).2
  have f1 := FQ_X12_stepsTo M e1
  have m1 := mS_fr M f1 (by decide) (by decide)
  have k1 := (WR_X12_stepsTo M (wk_le K (by decide) (by decide)) e1)
  replace hf := jite hf
  rcases hf with ⟨-, hf⟩ | ⟨-, hf⟩
  · exact wk_le ((WR_X12_fewestTo_58 hrc10 wrc10 m1 (wk_le k1 (by decide) (by decide)) hf)) (by decide) (by decide)
  · exact wk_le ((WR_X12_fewestTo_58 hrc10 wrc10 m1 (wk_le k1 (by decide) (by decide)) hf)) (by decide) (by decide)
theorem WR_X12_fewestTo_10 {V : jWd} {n : Nat} {k : Nat} : ∀ {a0 : Nat} {x1 : Int32} {x2 : Int32} {x3 : Int32} {x4 : Int32} {x5 : Int32} {h : jH} {q : Int32 × jH}, mS (oc h) a0 → wK true false a0 V (oc h) → F_X12_fewestTo_10 n k a0 x1 x2 x3 x4 x5 h = some q → wK true false a0 V (oc q.2) := by
  induction k with
  | zero =>
    intro a0 x1 x2 x3 x4 x5 h q M K hf
    cases hf
  | succ k ih =>
    intro a0 x1 x2 x3 x4 x5 h q M K hf
    replace hf : F_X12_fewestTo_10_b n (F_X12_fewestTo_10 n k) a0 x1 x2 x3 x4 x5 h = some q := hf
    unfold F_X12_fewestTo_10_b at hf
    obtain ⟨v14, e1, hf⟩ := jbind hf
    replace e1 := (jcv_o e1).2
    replace hf := jite hf
    rcases hf with ⟨-, hf⟩ | ⟨-, hf⟩
    · replace hf := jite hf
      rcases hf with ⟨-, hf⟩ | ⟨-, hf⟩
      · replace hf := jite hf
        rcases hf with ⟨-, hf⟩ | ⟨-, hf⟩
        · cases hf
          exact wk_le K (by decide) (by decide)
        · cases hf
          exact wk_le K (by decide) (by decide)
      · cases hf
        exact wk_le K (by decide) (by decide)
    · replace hf := jite hf
      rcases hf with ⟨-, hf⟩ | ⟨-, hf⟩
      · exact wk_le ((WR_X12_fewestTo_40 (FQ_X12_fewestTo_10) (ih) rfl M (wk_le K (by decide) (by decide)) hf)) (by decide) (by decide)
      · exact wk_le ((WR_X12_fewestTo_40 (FQ_X12_fewestTo_10) (ih) rfl M (wk_le K (by decide) (by decide)) hf)) (by decide) (by decide)
theorem WR_X12_fewestTo {V : jWd} {n : Nat} {a0 : Nat} {x1 : Int32} {x2 : Int32} {h : jH} {q : Int32 × jH} (M : mS (oc h) a0) (K : wK true false a0 V (oc h)) (hf : F_X12_fewestTo n a0 x1 x2 h = some q) : wK true false a0 V (oc q.2) := by
  unfold F_X12_fewestTo at hf
  exact wk_le ((WR_X12_fewestTo_10 M (wk_le K (by decide) (by decide)) hf)) (by decide) (by decide)
theorem WR_X12_fewest {V : jWd} {n : Nat} {a0 : Nat} {x1 : Int32} {h : jH} {q : Int32 × jH} (M : mS (oc h) a0) (K : wK true false a0 V (oc h)) (hf : F_X12_fewest n a0 x1 h = some q) : wK true false a0 V (oc q.2) := by
  unfold F_X12_fewest at hf
  obtain ⟨h2, e1, hf⟩ := jbind hf
  have f1 : frM a0 [] [0] (oc h) (oc h2) := by rw [(oc_pf e1).1]; exact frM_f (by decide)
  have m1 := mS_fr M f1 (by decide) (by decide)
  have k1 : wK true false a0 V (oc h2) := wk_fr K f1 (by decide) (by decide)
  obtain ⟨v7, e2, hf⟩ := jbind hf
  replace e2 := (jcv_o e2).2
  replace hf := jite hf
  rcases hf with ⟨-, hf⟩ | ⟨-, hf⟩
  · obtain ⟨q20, e3, hf⟩ := jbind hf
    replace e3 := (jcv_o e3).2
    have f3 := FQ_X12_fewestTo m1 e3
    have m3 := mS_fr m1 f3 (by decide) (by decide)
    have k3 := (WR_X12_fewestTo m1 (wk_le k1 (by decide) (by decide)) e3)
    cases hf
    exact wk_le k3 (by decide) (by decide)
  · cases hf
    exact wk_le k1 (by decide) (by decide)
theorem WR_X12_first {V : jWd} {n : Nat} {a0 : Nat} {x1 : Int32} {h : jH} {q : Int32 × jH} (M : mS (oc h) a0) (K : wK true false a0 V (oc h)) (hf : F_X12_first n a0 x1 h = some q) : wK true false a0 V (oc q.2) := by
  unfold F_X12_first at hf
  obtain ⟨h2, e1, hf⟩ := jbind hf
  have f1 : frM a0 [] [0] (oc h) (oc h2) := by rw [(oc_pf e1).1]; exact frM_f (by decide)
  have m1 := mS_fr M f1 (by decide) (by decide)
  have k1 : wK true false a0 V (oc h2) := wk_fr K f1 (by decide) (by decide)
  obtain ⟨v7, e2, hf⟩ := jbind hf
  replace e2 := (jcv_o e2).2
  replace hf := jite hf
  rcases hf with ⟨-, hf⟩ | ⟨-, hf⟩
  · obtain ⟨q20, e3, hf⟩ := jbind hf
    replace e3 := (jcv_o e3).2
    have f3 := FQ_X12_fewestTo m1 e3
    have m3 := mS_fr m1 f3 (by decide) (by decide)
    have k3 := (WR_X12_fewestTo m1 (wk_le k1 (by decide) (by decide)) e3)
    cases hf
    exact wk_le k3 (by decide) (by decide)
  · cases hf
    exact wk_le k1 (by decide) (by decide)
theorem WR_X12_pale_49 {V : jWd} {n : Nat} {a0 : Nat} {x1 : Int32} {h : jH} {q : Int32 × jH} (M : mS (oc h) a0) (K : wK false true a0 V (oc h)) (hf : F_X12_pale_49 n a0 x1 h = some q) : wK true true a0 V (oc q.2) := by
  unfold F_X12_pale_49 at hf
  obtain ⟨h50, e1, hf⟩ := jbind hf
  replace e1 := (jcv_o e1).2
  have f1 := FQ_X12_bringsBack M e1
  have m1 := mS_fr M f1 (by decide) (by decide)
  have k1 := wk_back M K e1
  cases hf
  exact wk_le k1 (by decide) (by decide)
theorem WR_X12_pale_36 {V : jWd} {n : Nat} {rc13 : Nat → Int32 → Int32 → jH → Option (Int32 × jH)} (hrc13 : ∀ {z0 : Nat} {z1 : Int32} {z2 : Int32} {h : jH} {q : Int32 × jH}, mS (oc h) z0 → rc13 z0 z1 z2 h = some q → frM z0 [1, 8] [] (oc h) (oc q.2)) (wrc13 : ∀ {z0 : Nat} {z1 : Int32} {z2 : Int32} {h : jH} {q : Int32 × jH}, mS (oc h) z0 → wK false true z0 V (oc h) → rc13 z0 z1 z2 h = some q → wK true true z0 V (oc q.2)) {a0 : Nat} {x2 : Int32} {s0 : Int32} {h : jH} {q : Int32 × jH} (M : mS (oc h) a0) (K : wK false true a0 V (oc h)) (hf : F_X12_pale_36 n rc13 a0 x2 s0 h = some q) : wK true true a0 V (oc q.2) := by
  unfold F_X12_pale_36 at hf
  obtain ⟨q39, e1, hf⟩ := jbind hf
  replace e1 := (jcv_o e1).2
  have f1 := FQ_X12_oneHour M e1
  have m1 := mS_fr M f1 (by decide) (by decide)
  have k1 : wK false true a0 V (oc q39.2) := wk_fr K f1 (by decide) (by decide)
  exact wk_le (wrc13 m1 (wk_le k1 (by decide) (by decide)) hf) (by decide) (by decide)
theorem WR_X12_pale_13 {V : jWd} {n : Nat} {k : Nat} : ∀ {a0 : Nat} {x1 : Int32} {x2 : Int32} {h : jH} {q : Int32 × jH}, mS (oc h) a0 → wK false true a0 V (oc h) → F_X12_pale_13 n k a0 x1 x2 h = some q → wK true true a0 V (oc q.2) := by
  induction k with
  | zero =>
    intro a0 x1 x2 h q M K hf
    cases hf
  | succ k ih =>
    intro a0 x1 x2 h q M K hf
    replace hf : F_X12_pale_13_b n (F_X12_pale_13 n k) a0 x1 x2 h = some q := hf
    unfold F_X12_pale_13_b at hf
    replace hf := jite hf
    rcases hf with ⟨-, hf⟩ | ⟨-, hf⟩
    · exact wk_le ((WR_X12_pale_49 M (wk_le K (by decide) (by decide)) hf)) (by decide) (by decide)
    · replace hf := jite hf
      rcases hf with ⟨-, hf⟩ | ⟨-, hf⟩
      · obtain ⟨v25, e1, hf⟩ := jbind hf
        replace e1 := (jcv_o e1).2
        replace hf := jite hf
        rcases hf with ⟨-, hf⟩ | ⟨-, hf⟩
        · exact wk_le ((WR_X12_pale_36 (FQ_X12_pale_13) (ih) M (wk_le K (by decide) (by decide)) hf)) (by decide) (by decide)
        · exact wk_le ((WR_X12_pale_36 (FQ_X12_pale_13) (ih) M (wk_le K (by decide) (by decide)) hf)) (by decide) (by decide)
      · exact wk_le ((WR_X12_pale_49 M (wk_le K (by decide) (by decide)) hf)) (by decide) (by decide)
theorem WR_X12_pale {V : jWd} {n : Nat} {a0 : Nat} {h : jH} {q : Int32 × jH} (M : mS (oc h) a0) (K : wK true false a0 V (oc h)) (hf : F_X12_pale n a0 h = some q) : wK true true a0 V (oc q.2) := by
  unfold F_X12_pale at hf
  obtain ⟨h2, e1, hf⟩ := jbind hf
  have f1 : frM a0 [] [0] (oc h) (oc h2) := by rw [(oc_pf e1).1]; exact frM_f (by decide)
  have m1 := mS_fr M f1 (by decide) (by decide)
  have k1 : wK true false a0 V (oc h2) := wk_fr K f1 (by decide) (by decide)
  obtain ⟨h8, e2, hf⟩ := jbind hf
  replace e2 := (jcv_o e2).2
  have f2 := FQ_X12_keepsAll m1 e2
  have m2 := mS_fr m1 f2 (by decide) (by decide)
  have k2 := wk_keep m1 k1 e2
  exact wk_le ((WR_X12_pale_13 m2 (wk_le k2 (by decide) (by decide)) hf)) (by decide) (by decide)
