def jPL (res : Int32 × jH) : jR → jH → Prop := fun r h1 => r = .inl res.1 ∧ ∃ z, res.2.1 ≤ z ∧ h1 = (z, res.2.2)
noncomputable def FL_pole (n : Nat) (a0 : Nat) (a1 : Nat) (h : jH) : Option (Int32 × jH) :=
  (jcv 9 h a0 (F_X11_pole n a0 h)).bind fun q => match q.1 with
  | .inl v => (jasl q.2 a1 0 v.toInt64).bind fun h2 => some ((0 : Int32), h2)
  | .inr k => if k = 0 then some ((1 : Int32), q.2) else if k = 3 then some ((2 : Int32), q.2) else none
set_option maxHeartbeats 400000 in
theorem CL_pole {G : jG} {l : Launch} (hst : l.stackTraces = false) (d : Nat) {n : Nat} {a0 : Nat} {a1 : Nat} {h : jH} {res : Int32 × jH} (hf : FL_pole n a0 a1 h = some res) : jC G l mL_pole (d + 12) 1 6 [.ref a0, .ref a1] h (jPL res) :=
  jC.of (by decide +kernel) (jcats rfl) (Nat.le_of_ble_eq_true rfl) (fun X K E => by
  unfold FL_pole at hf
  obtain ⟨q, e, hf⟩ := jbind hf
  obtain ⟨rc, e⟩ := jcv_o e
  show jJ G X h 1 6 0 [some (.ref a0), some (.ref a1), none] []
  refine jr_aload_n K (D_at DL_pole_q0 0 rfl) rfl rfl ?_
  refine jr_iconst K (D_at DL_pole_q0 1 rfl) (v := (0 : Int32)) (by decide) ?_
  refine jr_aload_n K (D_at DL_pole_q0 2 rfl) rfl rfl ?_
  refine jr_callVx K (C_X11_pole hst (d) e) (D_at DL_pole_q0 3 rfl) cv_L_7_X11_pole (As := []) (ci := 9) rfl rc rfl rfl (by exact Nat.le_of_ble_eq_true rfl) (kc2 := 0) (ks2 := 0) rfl rfl (fun k9 z9 h9 w9 hz9 => ?_) (fun r9 h9 w9 => ?_)
  · obtain ⟨w1, w2⟩ := w9
    subst h9
    rw [← w1] at hf
    dsimp only at hf
    by_cases c0 : k9 = 0
    · subst c0
      replace hf := (if_pos rfl).symm.trans hf
      cases hf
      refine jr_catch K (E := "java/lang/IllegalArgumentException") (nm := "java/lang/IllegalArgumentException") [] ⟨0, 8, 11, 13⟩ [⟨0, 8, 14, 15⟩] rfl (fun z hz => by cases hz) rfl (by decide) (jw_3_12 6 rfl rfl) (jn_4_8 13 rfl rfl) rfl (fun q9 => ?_)
      refine jr_astore_n K (D_at DL_pole_q0 7 rfl) (i := 2) rfl (by decide) (L2 := [_, _, _]) rfl ?_
      refine jr_iconst K (D_at DL_pole_q0 8 rfl) (v := (1 : Int32)) (by decide) ?_
      exact jr_iret K E (D_at DL_pole_q0 9 rfl) rfl ⟨rfl, z9, hz9, rfl⟩
    replace hf := (if_neg c0).symm.trans hf
    by_cases c1 : k9 = 3
    · subst c1
      replace hf := (if_pos rfl).symm.trans hf
      cases hf
      refine jr_catch K (E := "java/lang/UnsupportedOperationException") (nm := "java/lang/UnsupportedOperationException") [⟨0, 8, 11, 13⟩] ⟨0, 8, 14, 15⟩ [] rfl (fun z hz => Or.inr (by
      simp only [List.mem_cons, List.not_mem_nil, or_false] at hz
      rcases hz with rfl
      · exact ⟨by decide, "java/lang/IllegalArgumentException", (jw_3_12 6 rfl rfl), by decide⟩)) rfl (by decide) (jw_3_12 7 rfl rfl) (jn_4_13 2 rfl rfl) rfl (fun q9 => ?_)
      refine jr_astore_n K (D_at DL_pole_q0 10 rfl) (i := 2) rfl (by decide) (L2 := [_, _, _]) rfl ?_
      refine jr_iconst K (D_at DL_pole_q0 11 rfl) (v := (2 : Int32)) (by decide) ?_
      exact jr_iret K E (D_at DL_pole_q1 0 rfl) rfl ⟨rfl, z9, hz9, rfl⟩
    replace hf := (if_neg c1).symm.trans hf
    exact jno hf
  obtain ⟨w1, w2⟩ := w9
  subst h9
  rw [← w1] at hf
  dsimp only at hf
  obtain ⟨h2, e2, hf⟩ := jbind hf
  cases hf
  show jJ G X _ 0 0 _ _ (.int r9 :: _)
  refine jr_i2l K (D_at DL_pole_q0 4 rfl) (v := r9.toInt64) rfl ?_
  refine jr_last K (D_at DL_pole_q0 5 rfl) e2 ?_
  refine jr_goto K (D_at DL_pole_q0 6 rfl) (tgt := 17) (by decide) ?_
  refine jr_iconst K (D_at DL_pole_q1 1 rfl) (v := (0 : Int32)) (by decide) ?_
  exact jr_iret K E (D_at DL_pole_q1 2 rfl) rfl ⟨rfl, h2.1, Nat.le_refl _, rfl⟩)
noncomputable def FL_law (n : Nat) (a0 : Nat) (a1 : Nat) (h : jH) : Option (Int32 × jH) :=
  (jcv 9 h a0 (F_X11_law n a0 h)).bind fun q => match q.1 with
  | .inl v => (jasl q.2 a1 0 v.toInt64).bind fun h2 => some ((0 : Int32), h2)
  | .inr k => if k = 0 then some ((1 : Int32), q.2) else none
set_option maxHeartbeats 400000 in
theorem CL_law {G : jG} {l : Launch} (hst : l.stackTraces = false) (d : Nat) {n : Nat} {a0 : Nat} {a1 : Nat} {h : jH} {res : Int32 × jH} (hf : FL_law n a0 a1 h = some res) : jC G l mL_law (d + 27) 1 6 [.ref a0, .ref a1] h (jPL res) :=
  jC.of (by decide +kernel) (jcats rfl) (Nat.le_of_ble_eq_true rfl) (fun X K E => by
  unfold FL_law at hf
  obtain ⟨q, e, hf⟩ := jbind hf
  obtain ⟨rc, e⟩ := jcv_o e
  show jJ G X h 1 6 0 [some (.ref a0), some (.ref a1), none] []
  refine jr_aload_n K (D_at DL_law_q0 0 rfl) rfl rfl ?_
  refine jr_iconst K (D_at DL_law_q0 1 rfl) (v := (0 : Int32)) (by decide) ?_
  refine jr_aload_n K (D_at DL_law_q0 2 rfl) rfl rfl ?_
  refine jr_callVx K (C_X11_law hst (d) e) (D_at DL_law_q0 3 rfl) cv_L_17_X11_law (As := []) (ci := 9) rfl rc rfl rfl (by exact Nat.le_of_ble_eq_true rfl) (kc2 := 0) (ks2 := 0) rfl rfl (fun k9 z9 h9 w9 hz9 => ?_) (fun r9 h9 w9 => ?_)
  · obtain ⟨w1, w2⟩ := w9
    subst h9
    rw [← w1] at hf
    dsimp only at hf
    by_cases c0 : k9 = 0
    · subst c0
      replace hf := (if_pos rfl).symm.trans hf
      cases hf
      refine jr_catch K (E := "java/lang/IllegalArgumentException") (nm := "java/lang/IllegalArgumentException") [] ⟨0, 8, 11, 13⟩ [] rfl (fun z hz => by cases hz) rfl (by decide) (jw_3_12 6 rfl rfl) (jn_4_8 13 rfl rfl) rfl (fun q9 => ?_)
      refine jr_astore_n K (D_at DL_law_q0 7 rfl) (i := 2) rfl (by decide) (L2 := [_, _, _]) rfl ?_
      refine jr_iconst K (D_at DL_law_q0 8 rfl) (v := (1 : Int32)) (by decide) ?_
      exact jr_iret K E (D_at DL_law_q0 9 rfl) rfl ⟨rfl, z9, hz9, rfl⟩
    replace hf := (if_neg c0).symm.trans hf
    exact jno hf
  obtain ⟨w1, w2⟩ := w9
  subst h9
  rw [← w1] at hf
  dsimp only at hf
  obtain ⟨h2, e2, hf⟩ := jbind hf
  cases hf
  show jJ G X _ 0 0 _ _ (.int r9 :: _)
  refine jr_i2l K (D_at DL_law_q0 4 rfl) (v := r9.toInt64) rfl ?_
  refine jr_last K (D_at DL_law_q0 5 rfl) e2 ?_
  refine jr_goto K (D_at DL_law_q0 6 rfl) (tgt := 14) (by decide) ?_
  refine jr_iconst K (D_at DL_law_q0 10 rfl) (v := (0 : Int32)) (by decide) ?_
  exact jr_iret K E (D_at DL_law_q0 11 rfl) rfl ⟨rfl, h2.1, Nat.le_refl _, rfl⟩)
noncomputable def FL_ring (n : Nat) (a0 : Nat) (x1 : Int32) (x2 : Int32) (a3 : Nat) (h : jH) : Option (Int32 × jH) :=
  (jcv 9 h a0 (F_X11_ring n a0 x1 x2 h)).bind fun q => match q.1 with
  | .inl v => (jasl q.2 a3 0 v.toInt64).bind fun h2 => some ((0 : Int32), h2)
  | .inr k => if k = 2 then some ((1 : Int32), q.2) else if k = 4 then some ((2 : Int32), q.2) else none
set_option maxHeartbeats 400000 in
theorem CL_ring {G : jG} {l : Launch} (hst : l.stackTraces = false) (d : Nat) {n : Nat} {a0 : Nat} {x1 : Int32} {x2 : Int32} {a3 : Nat} {h : jH} {res : Int32 × jH} (hf : FL_ring n a0 x1 x2 a3 h = some res) : jC G l mL_ring (d + 8) 2 12 [.ref a0, .int x1, .int x2, .ref a3] h (jPL res) :=
  jC.of (by decide +kernel) (jcats rfl) (Nat.le_of_ble_eq_true rfl) (fun X K E => by
  unfold FL_ring at hf
  obtain ⟨q, e, hf⟩ := jbind hf
  obtain ⟨rc, e⟩ := jcv_o e
  show jJ G X h 2 12 0 [some (.ref a0), some (.int x1), some (.int x2), some (.ref a3), none] []
  refine jr_aload_n K (D_at DL_ring_q0 0 rfl) rfl rfl ?_
  refine jr_iconst K (D_at DL_ring_q0 1 rfl) (v := (0 : Int32)) (by decide) ?_
  refine jr_aload_n K (D_at DL_ring_q0 2 rfl) rfl rfl ?_
  refine jr_iload_n K (D_at DL_ring_q0 3 rfl) rfl rfl ?_
  refine jr_iload_n K (D_at DL_ring_q0 4 rfl) rfl rfl ?_
  refine jr_callVx K (C_X11_ring hst (d) e) (D_at DL_ring_q0 5 rfl) cv_L_20_X11_ring (As := [.int x1, .int x2]) (ci := 9) rfl rc rfl rfl (by exact Nat.le_of_ble_eq_true rfl) (kc2 := 0) (ks2 := 0) rfl rfl (fun k9 z9 h9 w9 hz9 => ?_) (fun r9 h9 w9 => ?_)
  · obtain ⟨w1, w2⟩ := w9
    subst h9
    rw [← w1] at hf
    dsimp only at hf
    by_cases c0 : k9 = 2
    · subst c0
      replace hf := (if_pos rfl).symm.trans hf
      cases hf
      refine jr_catch K (E := "java/lang/IndexOutOfBoundsException") (nm := "java/lang/IndexOutOfBoundsException") [] ⟨0, 10, 13, 24⟩ [⟨0, 10, 17, 26⟩] rfl (fun z hz => by cases hz) rfl (by decide) (jw_5_0 1 rfl rfl) (jn_5_0 13 rfl rfl) rfl (fun q9 => ?_)
      refine jr_astore K (D_at DL_ring_q0 9 rfl) (i := 4) (by decide) (L2 := [_, _, _, _, _]) rfl ?_
      refine jr_iconst K (D_at DL_ring_q0 10 rfl) (v := (1 : Int32)) (by decide) ?_
      exact jr_iret K E (D_at DL_ring_q0 11 rfl) rfl ⟨rfl, z9, hz9, rfl⟩
    replace hf := (if_neg c0).symm.trans hf
    by_cases c1 : k9 = 4
    · subst c1
      replace hf := (if_pos rfl).symm.trans hf
      cases hf
      refine jr_catch K (E := "java/util/NoSuchElementException") (nm := "java/util/NoSuchElementException") [⟨0, 10, 13, 24⟩] ⟨0, 10, 17, 26⟩ [] rfl (fun z hz => Or.inr (by
      simp only [List.mem_cons, List.not_mem_nil, or_false] at hz
      rcases hz with rfl
      · exact ⟨by decide, "java/lang/IndexOutOfBoundsException", (jw_5_0 1 rfl rfl), by decide⟩)) rfl (by decide) (jw_5_0 2 rfl rfl) (jn_5_2 10 rfl rfl) rfl (fun q9 => ?_)
      refine jr_astore K (D_at DL_ring_q1 0 rfl) (i := 4) (by decide) (L2 := [_, _, _, _, _]) rfl ?_
      refine jr_iconst K (D_at DL_ring_q1 1 rfl) (v := (2 : Int32)) (by decide) ?_
      exact jr_iret K E (D_at DL_ring_q1 2 rfl) rfl ⟨rfl, z9, hz9, rfl⟩
    replace hf := (if_neg c1).symm.trans hf
    exact jno hf
  obtain ⟨w1, w2⟩ := w9
  subst h9
  rw [← w1] at hf
  dsimp only at hf
  obtain ⟨h2, e2, hf⟩ := jbind hf
  cases hf
  show jJ G X _ 0 0 _ _ (.int r9 :: _)
  refine jr_i2l K (D_at DL_ring_q0 6 rfl) (v := r9.toInt64) rfl ?_
  refine jr_last K (D_at DL_ring_q0 7 rfl) e2 ?_
  refine jr_goto K (D_at DL_ring_q0 8 rfl) (tgt := 21) (by decide) ?_
  refine jr_iconst K (D_at DL_ring_q1 3 rfl) (v := (0 : Int32)) (by decide) ?_
  exact jr_iret K E (D_at DL_ring_q1 4 rfl) rfl ⟨rfl, h2.1, Nat.le_refl _, rfl⟩)
noncomputable def FL_pull (n : Nat) (a0 : Nat) (x1 : Int32) (x2 : Int32) (x3 : Int32) (a4 : Nat) (h : jH) : Option (Int32 × jH) :=
  (jcv 9 h a0 (F_X11_pull n a0 x1 x2 x3 h)).bind fun q => match q.1 with
  | .inl v => (jasl q.2 a4 0 v.toInt64).bind fun h2 => some ((0 : Int32), h2)
  | .inr k => if k = 2 then some ((1 : Int32), q.2) else if k = 0 then some ((2 : Int32), q.2) else none
set_option maxHeartbeats 400000 in
theorem CL_pull {G : jG} {l : Launch} (hst : l.stackTraces = false) (d : Nat) {n : Nat} {a0 : Nat} {x1 : Int32} {x2 : Int32} {x3 : Int32} {a4 : Nat} {h : jH} {res : Int32 × jH} (hf : FL_pull n a0 x1 x2 x3 a4 h = some res) : jC G l mL_pull (d + 8) 9 125 [.ref a0, .int x1, .int x2, .int x3, .ref a4] h (jPL res) :=
  jC.of (by decide +kernel) (jcats rfl) (Nat.le_of_ble_eq_true rfl) (fun X K E => by
  unfold FL_pull at hf
  obtain ⟨q, e, hf⟩ := jbind hf
  obtain ⟨rc, e⟩ := jcv_o e
  show jJ G X h 9 125 0 [some (.ref a0), some (.int x1), some (.int x2), some (.int x3), some (.ref a4), none] []
  refine jr_aload K (D_at DL_pull_q0 0 rfl) rfl ?_
  refine jr_iconst K (D_at DL_pull_q0 1 rfl) (v := (0 : Int32)) (by decide) ?_
  refine jr_aload_n K (D_at DL_pull_q0 2 rfl) rfl rfl ?_
  refine jr_iload_n K (D_at DL_pull_q0 3 rfl) rfl rfl ?_
  refine jr_iload_n K (D_at DL_pull_q0 4 rfl) rfl rfl ?_
  refine jr_iload_n K (D_at DL_pull_q0 5 rfl) rfl rfl ?_
  refine jr_callVx K (C_X11_pull hst (d) e) (D_at DL_pull_q0 6 rfl) cv_L_28_X11_pull (As := [.int x1, .int x2, .int x3]) (ci := 9) rfl rc rfl rfl (by exact Nat.le_of_ble_eq_true rfl) (kc2 := 0) (ks2 := 0) rfl rfl (fun k9 z9 h9 w9 hz9 => ?_) (fun r9 h9 w9 => ?_)
  · obtain ⟨w1, w2⟩ := w9
    subst h9
    rw [← w1] at hf
    dsimp only at hf
    by_cases c0 : k9 = 2
    · subst c0
      replace hf := (if_pos rfl).symm.trans hf
      cases hf
      refine jr_catch K (E := "java/lang/IndexOutOfBoundsException") (nm := "java/lang/IndexOutOfBoundsException") [] ⟨0, 12, 15, 24⟩ [⟨0, 12, 19, 13⟩] rfl (fun z hz => by cases hz) rfl (by decide) (jw_5_0 1 rfl rfl) (jn_5_0 13 rfl rfl) rfl (fun q9 => ?_)
      refine jr_astore K (D_at DL_pull_q0 10 rfl) (i := 5) (by decide) (L2 := [_, _, _, _, _, _]) rfl ?_
      refine jr_iconst K (D_at DL_pull_q0 11 rfl) (v := (1 : Int32)) (by decide) ?_
      exact jr_iret K E (D_at DL_pull_q1 0 rfl) rfl ⟨rfl, z9, hz9, rfl⟩
    replace hf := (if_neg c0).symm.trans hf
    by_cases c1 : k9 = 0
    · subst c1
      replace hf := (if_pos rfl).symm.trans hf
      cases hf
      refine jr_catch K (E := "java/lang/IllegalArgumentException") (nm := "java/lang/IllegalArgumentException") [⟨0, 12, 15, 24⟩] ⟨0, 12, 19, 13⟩ [] rfl (fun z hz => Or.inr (by
      simp only [List.mem_cons, List.not_mem_nil, or_false] at hz
      rcases hz with rfl
      · exact ⟨by decide, "java/lang/IndexOutOfBoundsException", (jw_5_0 1 rfl rfl), by decide⟩)) rfl (by decide) (jw_3_12 6 rfl rfl) (jn_4_8 13 rfl rfl) rfl (fun q9 => ?_)
      refine jr_astore K (D_at DL_pull_q1 1 rfl) (i := 5) (by decide) (L2 := [_, _, _, _, _, _]) rfl ?_
      refine jr_iconst K (D_at DL_pull_q1 2 rfl) (v := (2 : Int32)) (by decide) ?_
      exact jr_iret K E (D_at DL_pull_q1 3 rfl) rfl ⟨rfl, z9, hz9, rfl⟩
    replace hf := (if_neg c1).symm.trans hf
    exact jno hf
  obtain ⟨w1, w2⟩ := w9
  subst h9
  rw [← w1] at hf
  dsimp only at hf
  obtain ⟨h2, e2, hf⟩ := jbind hf
  cases hf
  show jJ G X _ 0 0 _ _ (.int r9 :: _)
  refine jr_i2l K (D_at DL_pull_q0 7 rfl) (v := r9.toInt64) rfl ?_
  refine jr_last K (D_at DL_pull_q0 8 rfl) e2 ?_
  refine jr_goto K (D_at DL_pull_q0 9 rfl) (tgt := 23) (by decide) ?_
  refine jr_iconst K (D_at DL_pull_q1 4 rfl) (v := (0 : Int32)) (by decide) ?_
  exact jr_iret K E (D_at DL_pull_q1 5 rfl) rfl ⟨rfl, h2.1, Nat.le_refl _, rfl⟩)
noncomputable def FL_free (n : Nat) (a0 : Nat) (x1 : Int32) (a2 : Nat) (h : jH) : Option (Int32 × jH) :=
  (jcv 9 h a0 (F_X11_free n a0 x1 h)).bind fun q => match q.1 with
  | .inl v => (jasl q.2 a2 0 v.toInt64).bind fun h2 => some ((0 : Int32), h2)
  | .inr k => if k = 2 then some ((1 : Int32), q.2) else if k = 1 then some ((2 : Int32), q.2) else none
set_option maxHeartbeats 400000 in
theorem CL_free {G : jG} {l : Launch} (hst : l.stackTraces = false) (d : Nat) {n : Nat} {a0 : Nat} {x1 : Int32} {a2 : Nat} {h : jH} {res : Int32 × jH} (hf : FL_free n a0 x1 a2 h = some res) : jC G l mL_free (d + 8) 8 119 [.ref a0, .int x1, .ref a2] h (jPL res) :=
  jC.of (by decide +kernel) (jcats rfl) (Nat.le_of_ble_eq_true rfl) (fun X K E => by
  unfold FL_free at hf
  obtain ⟨q, e, hf⟩ := jbind hf
  obtain ⟨rc, e⟩ := jcv_o e
  show jJ G X h 8 119 0 [some (.ref a0), some (.int x1), some (.ref a2), none] []
  refine jr_aload_n K (D_at DL_free_q0 0 rfl) rfl rfl ?_
  refine jr_iconst K (D_at DL_free_q0 1 rfl) (v := (0 : Int32)) (by decide) ?_
  refine jr_aload_n K (D_at DL_free_q0 2 rfl) rfl rfl ?_
  refine jr_iload_n K (D_at DL_free_q0 3 rfl) rfl rfl ?_
  refine jr_callVx K (C_X11_free hst (d) e) (D_at DL_free_q0 4 rfl) cv_L_32_X11_free (As := [.int x1]) (ci := 9) rfl rc rfl rfl (by exact Nat.le_of_ble_eq_true rfl) (kc2 := 0) (ks2 := 0) rfl rfl (fun k9 z9 h9 w9 hz9 => ?_) (fun r9 h9 w9 => ?_)
  · obtain ⟨w1, w2⟩ := w9
    subst h9
    rw [← w1] at hf
    dsimp only at hf
    by_cases c0 : k9 = 2
    · subst c0
      replace hf := (if_pos rfl).symm.trans hf
      cases hf
      refine jr_catch K (E := "java/lang/IndexOutOfBoundsException") (nm := "java/lang/IndexOutOfBoundsException") [] ⟨0, 9, 12, 24⟩ [⟨0, 9, 15, 36⟩] rfl (fun z hz => by cases hz) rfl (by decide) (jw_5_0 1 rfl rfl) (jn_5_0 13 rfl rfl) rfl (fun q9 => ?_)
      refine jr_astore_n K (D_at DL_free_q0 8 rfl) (i := 3) rfl (by decide) (L2 := [_, _, _, _]) rfl ?_
      refine jr_iconst K (D_at DL_free_q0 9 rfl) (v := (1 : Int32)) (by decide) ?_
      exact jr_iret K E (D_at DL_free_q0 10 rfl) rfl ⟨rfl, z9, hz9, rfl⟩
    replace hf := (if_neg c0).symm.trans hf
    by_cases c1 : k9 = 1
    · subst c1
      replace hf := (if_pos rfl).symm.trans hf
      cases hf
      refine jr_catch K (E := "java/lang/IllegalStateException") (nm := "java/lang/IllegalStateException") [⟨0, 9, 12, 24⟩] ⟨0, 9, 15, 36⟩ [] rfl (fun z hz => Or.inr (by
      simp only [List.mem_cons, List.not_mem_nil, or_false] at hz
      rcases hz with rfl
      · exact ⟨by decide, "java/lang/IndexOutOfBoundsException", (jw_5_0 1 rfl rfl), by decide⟩)) rfl (by decide) (jw_5_5 5 rfl rfl) (jn_5_5 12 rfl rfl) rfl (fun q9 => ?_)
      refine jr_astore_n K (D_at DL_free_q0 11 rfl) (i := 3) rfl (by decide) (L2 := [_, _, _, _]) rfl ?_
      refine jr_iconst K (D_at DL_free_q1 0 rfl) (v := (2 : Int32)) (by decide) ?_
      exact jr_iret K E (D_at DL_free_q1 1 rfl) rfl ⟨rfl, z9, hz9, rfl⟩
    replace hf := (if_neg c1).symm.trans hf
    exact jno hf
  obtain ⟨w1, w2⟩ := w9
  subst h9
  rw [← w1] at hf
  dsimp only at hf
  obtain ⟨h2, e2, hf⟩ := jbind hf
  cases hf
  show jJ G X _ 0 0 _ _ (.int r9 :: _)
  refine jr_i2l K (D_at DL_free_q0 5 rfl) (v := r9.toInt64) rfl ?_
  refine jr_last K (D_at DL_free_q0 6 rfl) e2 ?_
  refine jr_goto K (D_at DL_free_q0 7 rfl) (tgt := 18) (by decide) ?_
  refine jr_iconst K (D_at DL_free_q1 2 rfl) (v := (0 : Int32)) (by decide) ?_
  exact jr_iret K E (D_at DL_free_q1 3 rfl) rfl ⟨rfl, h2.1, Nat.le_refl _, rfl⟩)
noncomputable def FL_snag (n : Nat) (a0 : Nat) (x1 : Int32) (a2 : Nat) (h : jH) : Option (Int32 × jH) :=
  (jcv 9 h a0 (F_X11_snag n a0 x1 h)).bind fun q => match q.1 with
  | .inl v => (jasl q.2 a2 0 v.toInt64).bind fun h2 => some ((0 : Int32), h2)
  | .inr k => if k = 2 then some ((1 : Int32), q.2) else if k = 1 then some ((2 : Int32), q.2) else none
set_option maxHeartbeats 400000 in
theorem CL_snag {G : jG} {l : Launch} (hst : l.stackTraces = false) (d : Nat) {n : Nat} {a0 : Nat} {x1 : Int32} {a2 : Nat} {h : jH} {res : Int32 × jH} (hf : FL_snag n a0 x1 a2 h = some res) : jC G l mL_snag (d + 8) 8 119 [.ref a0, .int x1, .ref a2] h (jPL res) :=
  jC.of (by decide +kernel) (jcats rfl) (Nat.le_of_ble_eq_true rfl) (fun X K E => by
  unfold FL_snag at hf
  obtain ⟨q, e, hf⟩ := jbind hf
  obtain ⟨rc, e⟩ := jcv_o e
  show jJ G X h 8 119 0 [some (.ref a0), some (.int x1), some (.ref a2), none] []
  refine jr_aload_n K (D_at DL_snag_q0 0 rfl) rfl rfl ?_
  refine jr_iconst K (D_at DL_snag_q0 1 rfl) (v := (0 : Int32)) (by decide) ?_
  refine jr_aload_n K (D_at DL_snag_q0 2 rfl) rfl rfl ?_
  refine jr_iload_n K (D_at DL_snag_q0 3 rfl) rfl rfl ?_
  refine jr_callVx K (C_X11_snag hst (d) e) (D_at DL_snag_q0 4 rfl) cv_L_38_X11_snag (As := [.int x1]) (ci := 9) rfl rc rfl rfl (by exact Nat.le_of_ble_eq_true rfl) (kc2 := 0) (ks2 := 0) rfl rfl (fun k9 z9 h9 w9 hz9 => ?_) (fun r9 h9 w9 => ?_)
  · obtain ⟨w1, w2⟩ := w9
    subst h9
    rw [← w1] at hf
    dsimp only at hf
    by_cases c0 : k9 = 2
    · subst c0
      replace hf := (if_pos rfl).symm.trans hf
      cases hf
      refine jr_catch K (E := "java/lang/IndexOutOfBoundsException") (nm := "java/lang/IndexOutOfBoundsException") [] ⟨0, 9, 12, 24⟩ [⟨0, 9, 15, 36⟩] rfl (fun z hz => by cases hz) rfl (by decide) (jw_5_0 1 rfl rfl) (jn_5_0 13 rfl rfl) rfl (fun q9 => ?_)
      refine jr_astore_n K (D_at DL_snag_q0 8 rfl) (i := 3) rfl (by decide) (L2 := [_, _, _, _]) rfl ?_
      refine jr_iconst K (D_at DL_snag_q0 9 rfl) (v := (1 : Int32)) (by decide) ?_
      exact jr_iret K E (D_at DL_snag_q0 10 rfl) rfl ⟨rfl, z9, hz9, rfl⟩
    replace hf := (if_neg c0).symm.trans hf
    by_cases c1 : k9 = 1
    · subst c1
      replace hf := (if_pos rfl).symm.trans hf
      cases hf
      refine jr_catch K (E := "java/lang/IllegalStateException") (nm := "java/lang/IllegalStateException") [⟨0, 9, 12, 24⟩] ⟨0, 9, 15, 36⟩ [] rfl (fun z hz => Or.inr (by
      simp only [List.mem_cons, List.not_mem_nil, or_false] at hz
      rcases hz with rfl
      · exact ⟨by decide, "java/lang/IndexOutOfBoundsException", (jw_5_0 1 rfl rfl), by decide⟩)) rfl (by decide) (jw_5_5 5 rfl rfl) (jn_5_5 12 rfl rfl) rfl (fun q9 => ?_)
      refine jr_astore_n K (D_at DL_snag_q0 11 rfl) (i := 3) rfl (by decide) (L2 := [_, _, _, _]) rfl ?_
      refine jr_iconst K (D_at DL_snag_q1 0 rfl) (v := (2 : Int32)) (by decide) ?_
      exact jr_iret K E (D_at DL_snag_q1 1 rfl) rfl ⟨rfl, z9, hz9, rfl⟩
    replace hf := (if_neg c1).symm.trans hf
    exact jno hf
  obtain ⟨w1, w2⟩ := w9
  subst h9
  rw [← w1] at hf
  dsimp only at hf
  obtain ⟨h2, e2, hf⟩ := jbind hf
  cases hf
  show jJ G X _ 0 0 _ _ (.int r9 :: _)
  refine jr_i2l K (D_at DL_snag_q0 5 rfl) (v := r9.toInt64) rfl ?_
  refine jr_last K (D_at DL_snag_q0 6 rfl) e2 ?_
  refine jr_goto K (D_at DL_snag_q0 7 rfl) (tgt := 18) (by decide) ?_
  refine jr_iconst K (D_at DL_snag_q1 2 rfl) (v := (0 : Int32)) (by decide) ?_
  exact jr_iret K E (D_at DL_snag_q1 3 rfl) rfl ⟨rfl, h2.1, Nat.le_refl _, rfl⟩)
noncomputable def FL_hook (n : Nat) (a0 : Nat) (x1 : Int32) (x2 : Int32) (a3 : Nat) (h : jH) : Option (Int32 × jH) :=
  (jcv 9 h a0 (F_X11_hook n a0 x1 x2 h)).bind fun q => match q.1 with
  | .inl v => (jasl q.2 a3 0 (if v = 0 then 0 else 1)).bind fun h2 => some ((0 : Int32), h2)
  | .inr k => if k = 2 then some ((1 : Int32), q.2) else none
set_option maxHeartbeats 400000 in
theorem CL_hook {G : jG} {l : Launch} (hst : l.stackTraces = false) (d : Nat) {n : Nat} {a0 : Nat} {x1 : Int32} {x2 : Int32} {a3 : Nat} {h : jH} {res : Int32 × jH} (hf : FL_hook n a0 x1 x2 a3 h = some res) : jC G l mL_hook (d + 8) 8 119 [.ref a0, .int x1, .int x2, .ref a3] h (jPL res) :=
  jC.of (by decide +kernel) (jcats rfl) (Nat.le_of_ble_eq_true rfl) (fun X K E => by
  unfold FL_hook at hf
  obtain ⟨q, e, hf⟩ := jbind hf
  obtain ⟨rc, e⟩ := jcv_o e
  show jJ G X h 8 119 0 [some (.ref a0), some (.int x1), some (.int x2), some (.ref a3), none] []
  refine jr_aload_n K (D_at DL_hook_q0 0 rfl) rfl rfl ?_
  refine jr_iconst K (D_at DL_hook_q0 1 rfl) (v := (0 : Int32)) (by decide) ?_
  refine jr_aload_n K (D_at DL_hook_q0 2 rfl) rfl rfl ?_
  refine jr_iload_n K (D_at DL_hook_q0 3 rfl) rfl rfl ?_
  refine jr_iload_n K (D_at DL_hook_q0 4 rfl) rfl rfl ?_
  refine jr_callVx K (C_X11_hook hst (d) e) (D_at DL_hook_q0 5 rfl) cv_L_41_X11_hook (As := [.int x1, .int x2]) (ci := 9) rfl rc rfl rfl (by exact Nat.le_of_ble_eq_true rfl) (kc2 := 0) (ks2 := 0) rfl rfl (fun k9 z9 h9 w9 hz9 => ?_) (fun r9 h9 w9 => ?_)
  · obtain ⟨w1, w2⟩ := w9
    subst h9
    rw [← w1] at hf
    dsimp only at hf
    by_cases c0 : k9 = 2
    · subst c0
      replace hf := (if_pos rfl).symm.trans hf
      cases hf
      refine jr_catch K (E := "java/lang/IndexOutOfBoundsException") (nm := "java/lang/IndexOutOfBoundsException") [] ⟨0, 17, 20, 24⟩ [] rfl (fun z hz => by cases hz) rfl (by decide) (jw_5_0 1 rfl rfl) (jn_5_0 13 rfl rfl) rfl (fun q9 => ?_)
      refine jr_astore K (D_at DL_hook_q1 0 rfl) (i := 4) (by decide) (L2 := [_, _, _, _, _]) rfl ?_
      refine jr_iconst K (D_at DL_hook_q1 1 rfl) (v := (1 : Int32)) (by decide) ?_
      exact jr_iret K E (D_at DL_hook_q1 2 rfl) rfl ⟨rfl, z9, hz9, rfl⟩
    replace hf := (if_neg c0).symm.trans hf
    exact jno hf
  obtain ⟨w1, w2⟩ := w9
  subst h9
  rw [← w1] at hf
  dsimp only at hf
  obtain ⟨h2, e2, hf⟩ := jbind hf
  cases hf
  show jJ G X _ 0 0 _ _ (.int r9 :: _)
  by_cases cz : r9 = 0
  · rw [if_pos cz] at e2
    refine jr_if_eq K (D_at DL_hook_q0 6 rfl) (tgt := 15) (by decide) (fun _ => ?_) (fun q => absurd cz q)
    refine jr_lconst K (D_at DL_hook_q0 9 rfl) (v := 0) rfl ?_
    refine jr_last K (D_at DL_hook_q0 10 rfl) e2 ?_
    refine jr_goto K (D_at DL_hook_q0 11 rfl) (tgt := 24) (by decide) ?_
    refine jr_iconst K (D_at DL_hook_q1 3 rfl) (v := (0 : Int32)) (by decide) ?_
    exact jr_iret K E (D_at DL_hook_q1 4 rfl) rfl ⟨rfl, h2.1, Nat.le_refl _, rfl⟩
  · rw [if_neg cz] at e2
    refine jr_if_eq K (D_at DL_hook_q0 6 rfl) (tgt := 15) (by decide) (fun q => absurd q cz) (fun _ => ?_)
    refine jr_lconst K (D_at DL_hook_q0 7 rfl) (v := 1) rfl ?_
    refine jr_goto K (D_at DL_hook_q0 8 rfl) (tgt := 16) (by decide) ?_
    refine jr_last K (D_at DL_hook_q0 10 rfl) e2 ?_
    refine jr_goto K (D_at DL_hook_q0 11 rfl) (tgt := 24) (by decide) ?_
    refine jr_iconst K (D_at DL_hook_q1 3 rfl) (v := (0 : Int32)) (by decide) ?_
    exact jr_iret K E (D_at DL_hook_q1 4 rfl) rfl ⟨rfl, h2.1, Nat.le_refl _, rfl⟩)
noncomputable def FL_sew (n : Nat) (a0 : Nat) (x1 : Int32) (x2 : Int32) (a3 : Nat) (h : jH) : Option (Int32 × jH) :=
  (jcv 9 h a0 (F_X11_sew n a0 x1 x2 h)).bind fun q => match q.1 with
  | .inl v => (jasl q.2 a3 0 v.toInt64).bind fun h2 => some ((0 : Int32), h2)
  | .inr k => if k = 2 then some ((1 : Int32), q.2) else if k = 0 then some ((2 : Int32), q.2) else if k = 1 then some ((3 : Int32), q.2) else none
set_option maxHeartbeats 400000 in
theorem CL_sew {G : jG} {l : Launch} (hst : l.stackTraces = false) (d : Nat) {n : Nat} {a0 : Nat} {x1 : Int32} {x2 : Int32} {a3 : Nat} {h : jH} {res : Int32 × jH} (hf : FL_sew n a0 x1 x2 a3 h = some res) : jC G l mL_sew (d + 8) 9 125 [.ref a0, .int x1, .int x2, .ref a3] h (jPL res) :=
  jC.of (by decide +kernel) (jcats rfl) (Nat.le_of_ble_eq_true rfl) (fun X K E => by
  unfold FL_sew at hf
  obtain ⟨q, e, hf⟩ := jbind hf
  obtain ⟨rc, e⟩ := jcv_o e
  show jJ G X h 9 125 0 [some (.ref a0), some (.int x1), some (.int x2), some (.ref a3), none] []
  refine jr_aload_n K (D_at DL_sew_q0 0 rfl) rfl rfl ?_
  refine jr_iconst K (D_at DL_sew_q0 1 rfl) (v := (0 : Int32)) (by decide) ?_
  refine jr_aload_n K (D_at DL_sew_q0 2 rfl) rfl rfl ?_
  refine jr_iload_n K (D_at DL_sew_q0 3 rfl) rfl rfl ?_
  refine jr_iload_n K (D_at DL_sew_q0 4 rfl) rfl rfl ?_
  refine jr_callVx K (C_X11_sew hst (d) e) (D_at DL_sew_q0 5 rfl) cv_L_45_X11_sew (As := [.int x1, .int x2]) (ci := 9) rfl rc rfl rfl (by exact Nat.le_of_ble_eq_true rfl) (kc2 := 0) (ks2 := 0) rfl rfl (fun k9 z9 h9 w9 hz9 => ?_) (fun r9 h9 w9 => ?_)
  · obtain ⟨w1, w2⟩ := w9
    subst h9
    rw [← w1] at hf
    dsimp only at hf
    by_cases c0 : k9 = 2
    · subst c0
      replace hf := (if_pos rfl).symm.trans hf
      cases hf
      refine jr_catch K (E := "java/lang/IndexOutOfBoundsException") (nm := "java/lang/IndexOutOfBoundsException") [] ⟨0, 10, 13, 24⟩ [⟨0, 10, 17, 13⟩, ⟨0, 10, 21, 36⟩] rfl (fun z hz => by cases hz) rfl (by decide) (jw_5_0 1 rfl rfl) (jn_5_0 13 rfl rfl) rfl (fun q9 => ?_)
      refine jr_astore K (D_at DL_sew_q0 9 rfl) (i := 4) (by decide) (L2 := [_, _, _, _, _]) rfl ?_
      refine jr_iconst K (D_at DL_sew_q0 10 rfl) (v := (1 : Int32)) (by decide) ?_
      exact jr_iret K E (D_at DL_sew_q0 11 rfl) rfl ⟨rfl, z9, hz9, rfl⟩
    replace hf := (if_neg c0).symm.trans hf
    by_cases c1 : k9 = 0
    · subst c1
      replace hf := (if_pos rfl).symm.trans hf
      cases hf
      refine jr_catch K (E := "java/lang/IllegalArgumentException") (nm := "java/lang/IllegalArgumentException") [⟨0, 10, 13, 24⟩] ⟨0, 10, 17, 13⟩ [⟨0, 10, 21, 36⟩] rfl (fun z hz => Or.inr (by
      simp only [List.mem_cons, List.not_mem_nil, or_false] at hz
      rcases hz with rfl
      · exact ⟨by decide, "java/lang/IndexOutOfBoundsException", (jw_5_0 1 rfl rfl), by decide⟩)) rfl (by decide) (jw_3_12 6 rfl rfl) (jn_4_8 13 rfl rfl) rfl (fun q9 => ?_)
      refine jr_astore K (D_at DL_sew_q1 0 rfl) (i := 4) (by decide) (L2 := [_, _, _, _, _]) rfl ?_
      refine jr_iconst K (D_at DL_sew_q1 1 rfl) (v := (2 : Int32)) (by decide) ?_
      exact jr_iret K E (D_at DL_sew_q1 2 rfl) rfl ⟨rfl, z9, hz9, rfl⟩
    replace hf := (if_neg c1).symm.trans hf
    by_cases c2 : k9 = 1
    · subst c2
      replace hf := (if_pos rfl).symm.trans hf
      cases hf
      refine jr_catch K (E := "java/lang/IllegalStateException") (nm := "java/lang/IllegalStateException") [⟨0, 10, 13, 24⟩, ⟨0, 10, 17, 13⟩] ⟨0, 10, 21, 36⟩ [] rfl (fun z hz => Or.inr (by
      simp only [List.mem_cons, List.not_mem_nil, or_false] at hz
      rcases hz with rfl | rfl
      · exact ⟨by decide, "java/lang/IndexOutOfBoundsException", (jw_5_0 1 rfl rfl), by decide⟩
      · exact ⟨by decide, "java/lang/IllegalArgumentException", (jw_3_12 6 rfl rfl), by decide⟩)) rfl (by decide) (jw_5_5 5 rfl rfl) (jn_5_5 12 rfl rfl) rfl (fun q9 => ?_)
      refine jr_astore K (D_at DL_sew_q1 3 rfl) (i := 4) (by decide) (L2 := [_, _, _, _, _]) rfl ?_
      refine jr_iconst K (D_at DL_sew_q1 4 rfl) (v := (3 : Int32)) (by decide) ?_
      exact jr_iret K E (D_at DL_sew_q1 5 rfl) rfl ⟨rfl, z9, hz9, rfl⟩
    replace hf := (if_neg c2).symm.trans hf
    exact jno hf
  obtain ⟨w1, w2⟩ := w9
  subst h9
  rw [← w1] at hf
  dsimp only at hf
  obtain ⟨h2, e2, hf⟩ := jbind hf
  cases hf
  show jJ G X _ 0 0 _ _ (.int r9 :: _)
  refine jr_i2l K (D_at DL_sew_q0 6 rfl) (v := r9.toInt64) rfl ?_
  refine jr_last K (D_at DL_sew_q0 7 rfl) e2 ?_
  refine jr_goto K (D_at DL_sew_q0 8 rfl) (tgt := 25) (by decide) ?_
  refine jr_iconst K (D_at DL_sew_q1 6 rfl) (v := (0 : Int32)) (by decide) ?_
  exact jr_iret K E (D_at DL_sew_q1 7 rfl) rfl ⟨rfl, h2.1, Nat.le_refl _, rfl⟩)
noncomputable def FL_let (n : Nat) (a0 : Nat) (x1 : Int32) (x2 : Int32) (a3 : Nat) (h : jH) : Option (Int32 × jH) :=
  (jcv 9 h a0 (F_X11_let n a0 x1 x2 h)).bind fun q => match q.1 with
  | .inl v => (jasl q.2 a3 0 v.toInt64).bind fun h2 => some ((0 : Int32), h2)
  | .inr k => if k = 2 then some ((1 : Int32), q.2) else if k = 0 then some ((2 : Int32), q.2) else none
set_option maxHeartbeats 400000 in
theorem CL_let {G : jG} {l : Launch} (hst : l.stackTraces = false) (d : Nat) {n : Nat} {a0 : Nat} {x1 : Int32} {x2 : Int32} {a3 : Nat} {h : jH} {res : Int32 × jH} (hf : FL_let n a0 x1 x2 a3 h = some res) : jC G l mL_let (d + 8) 9 125 [.ref a0, .int x1, .int x2, .ref a3] h (jPL res) :=
  jC.of (by decide +kernel) (jcats rfl) (Nat.le_of_ble_eq_true rfl) (fun X K E => by
  unfold FL_let at hf
  obtain ⟨q, e, hf⟩ := jbind hf
  obtain ⟨rc, e⟩ := jcv_o e
  show jJ G X h 9 125 0 [some (.ref a0), some (.int x1), some (.int x2), some (.ref a3), none] []
  refine jr_aload_n K (D_at DL_let_q0 0 rfl) rfl rfl ?_
  refine jr_iconst K (D_at DL_let_q0 1 rfl) (v := (0 : Int32)) (by decide) ?_
  refine jr_aload_n K (D_at DL_let_q0 2 rfl) rfl rfl ?_
  refine jr_iload_n K (D_at DL_let_q0 3 rfl) rfl rfl ?_
  refine jr_iload_n K (D_at DL_let_q0 4 rfl) rfl rfl ?_
  refine jr_callVx K (C_X11_let hst (d) e) (D_at DL_let_q0 5 rfl) cv_L_48_X11_let (As := [.int x1, .int x2]) (ci := 9) rfl rc rfl rfl (by exact Nat.le_of_ble_eq_true rfl) (kc2 := 0) (ks2 := 0) rfl rfl (fun k9 z9 h9 w9 hz9 => ?_) (fun r9 h9 w9 => ?_)
  · obtain ⟨w1, w2⟩ := w9
    subst h9
    rw [← w1] at hf
    dsimp only at hf
    by_cases c0 : k9 = 2
    · subst c0
      replace hf := (if_pos rfl).symm.trans hf
      cases hf
      refine jr_catch K (E := "java/lang/IndexOutOfBoundsException") (nm := "java/lang/IndexOutOfBoundsException") [] ⟨0, 10, 13, 24⟩ [⟨0, 10, 17, 13⟩] rfl (fun z hz => by cases hz) rfl (by decide) (jw_5_0 1 rfl rfl) (jn_5_0 13 rfl rfl) rfl (fun q9 => ?_)
      refine jr_astore K (D_at DL_let_q0 9 rfl) (i := 4) (by decide) (L2 := [_, _, _, _, _]) rfl ?_
      refine jr_iconst K (D_at DL_let_q0 10 rfl) (v := (1 : Int32)) (by decide) ?_
      exact jr_iret K E (D_at DL_let_q0 11 rfl) rfl ⟨rfl, z9, hz9, rfl⟩
    replace hf := (if_neg c0).symm.trans hf
    by_cases c1 : k9 = 0
    · subst c1
      replace hf := (if_pos rfl).symm.trans hf
      cases hf
      refine jr_catch K (E := "java/lang/IllegalArgumentException") (nm := "java/lang/IllegalArgumentException") [⟨0, 10, 13, 24⟩] ⟨0, 10, 17, 13⟩ [] rfl (fun z hz => Or.inr (by
      simp only [List.mem_cons, List.not_mem_nil, or_false] at hz
      rcases hz with rfl
      · exact ⟨by decide, "java/lang/IndexOutOfBoundsException", (jw_5_0 1 rfl rfl), by decide⟩)) rfl (by decide) (jw_3_12 6 rfl rfl) (jn_4_8 13 rfl rfl) rfl (fun q9 => ?_)
      refine jr_astore K (D_at DL_let_q1 0 rfl) (i := 4) (by decide) (L2 := [_, _, _, _, _]) rfl ?_
      refine jr_iconst K (D_at DL_let_q1 1 rfl) (v := (2 : Int32)) (by decide) ?_
      exact jr_iret K E (D_at DL_let_q1 2 rfl) rfl ⟨rfl, z9, hz9, rfl⟩
    replace hf := (if_neg c1).symm.trans hf
    exact jno hf
  obtain ⟨w1, w2⟩ := w9
  subst h9
  rw [← w1] at hf
  dsimp only at hf
  obtain ⟨h2, e2, hf⟩ := jbind hf
  cases hf
  show jJ G X _ 0 0 _ _ (.int r9 :: _)
  refine jr_i2l K (D_at DL_let_q0 6 rfl) (v := r9.toInt64) rfl ?_
  refine jr_last K (D_at DL_let_q0 7 rfl) e2 ?_
  refine jr_goto K (D_at DL_let_q0 8 rfl) (tgt := 21) (by decide) ?_
  refine jr_iconst K (D_at DL_let_q1 3 rfl) (v := (0 : Int32)) (by decide) ?_
  exact jr_iret K E (D_at DL_let_q1 4 rfl) rfl ⟨rfl, h2.1, Nat.le_refl _, rfl⟩)
noncomputable def FL_chair (n : Nat) (a0 : Nat) (x1 : Int32) (x2 : Int32) (a3 : Nat) (h : jH) : Option (Int32 × jH) :=
  (jcv 9 h a0 (F_X11_chair n a0 x1 x2 h)).bind fun q => match q.1 with
  | .inl v => (jasl q.2 a3 0 (if v = 0 then 0 else 1)).bind fun h2 => some ((0 : Int32), h2)
  | .inr k => if k = 2 then some ((1 : Int32), q.2) else none
set_option maxHeartbeats 400000 in
theorem CL_chair {G : jG} {l : Launch} (hst : l.stackTraces = false) (d : Nat) {n : Nat} {a0 : Nat} {x1 : Int32} {x2 : Int32} {a3 : Nat} {h : jH} {res : Int32 × jH} (hf : FL_chair n a0 x1 x2 a3 h = some res) : jC G l mL_chair (d + 8) 8 119 [.ref a0, .int x1, .int x2, .ref a3] h (jPL res) :=
  jC.of (by decide +kernel) (jcats rfl) (Nat.le_of_ble_eq_true rfl) (fun X K E => by
  unfold FL_chair at hf
  obtain ⟨q, e, hf⟩ := jbind hf
  obtain ⟨rc, e⟩ := jcv_o e
  show jJ G X h 8 119 0 [some (.ref a0), some (.int x1), some (.int x2), some (.ref a3), none] []
  refine jr_aload_n K (D_at DL_chair_q0 0 rfl) rfl rfl ?_
  refine jr_iconst K (D_at DL_chair_q0 1 rfl) (v := (0 : Int32)) (by decide) ?_
  refine jr_aload_n K (D_at DL_chair_q0 2 rfl) rfl rfl ?_
  refine jr_iload_n K (D_at DL_chair_q0 3 rfl) rfl rfl ?_
  refine jr_iload_n K (D_at DL_chair_q0 4 rfl) rfl rfl ?_
  refine jr_callVx K (C_X11_chair hst (d) e) (D_at DL_chair_q0 5 rfl) cv_L_51_X11_chair (As := [.int x1, .int x2]) (ci := 9) rfl rc rfl rfl (by exact Nat.le_of_ble_eq_true rfl) (kc2 := 0) (ks2 := 0) rfl rfl (fun k9 z9 h9 w9 hz9 => ?_) (fun r9 h9 w9 => ?_)
  · obtain ⟨w1, w2⟩ := w9
    subst h9
    rw [← w1] at hf
    dsimp only at hf
    by_cases c0 : k9 = 2
    · subst c0
      replace hf := (if_pos rfl).symm.trans hf
      cases hf
      refine jr_catch K (E := "java/lang/IndexOutOfBoundsException") (nm := "java/lang/IndexOutOfBoundsException") [] ⟨0, 17, 20, 24⟩ [] rfl (fun z hz => by cases hz) rfl (by decide) (jw_5_0 1 rfl rfl) (jn_5_0 13 rfl rfl) rfl (fun q9 => ?_)
      refine jr_astore K (D_at DL_chair_q1 0 rfl) (i := 4) (by decide) (L2 := [_, _, _, _, _]) rfl ?_
      refine jr_iconst K (D_at DL_chair_q1 1 rfl) (v := (1 : Int32)) (by decide) ?_
      exact jr_iret K E (D_at DL_chair_q1 2 rfl) rfl ⟨rfl, z9, hz9, rfl⟩
    replace hf := (if_neg c0).symm.trans hf
    exact jno hf
  obtain ⟨w1, w2⟩ := w9
  subst h9
  rw [← w1] at hf
  dsimp only at hf
  obtain ⟨h2, e2, hf⟩ := jbind hf
  cases hf
  show jJ G X _ 0 0 _ _ (.int r9 :: _)
  by_cases cz : r9 = 0
  · rw [if_pos cz] at e2
    refine jr_if_eq K (D_at DL_chair_q0 6 rfl) (tgt := 15) (by decide) (fun _ => ?_) (fun q => absurd cz q)
    refine jr_lconst K (D_at DL_chair_q0 9 rfl) (v := 0) rfl ?_
    refine jr_last K (D_at DL_chair_q0 10 rfl) e2 ?_
    refine jr_goto K (D_at DL_chair_q0 11 rfl) (tgt := 24) (by decide) ?_
    refine jr_iconst K (D_at DL_chair_q1 3 rfl) (v := (0 : Int32)) (by decide) ?_
    exact jr_iret K E (D_at DL_chair_q1 4 rfl) rfl ⟨rfl, h2.1, Nat.le_refl _, rfl⟩
  · rw [if_neg cz] at e2
    refine jr_if_eq K (D_at DL_chair_q0 6 rfl) (tgt := 15) (by decide) (fun q => absurd q cz) (fun _ => ?_)
    refine jr_lconst K (D_at DL_chair_q0 7 rfl) (v := 1) rfl ?_
    refine jr_goto K (D_at DL_chair_q0 8 rfl) (tgt := 16) (by decide) ?_
    refine jr_last K (D_at DL_chair_q0 10 rfl) e2 ?_
    refine jr_goto K (D_at DL_chair_q0 11 rfl) (tgt := 24) (by decide) ?_
    refine jr_iconst K (D_at DL_chair_q1 3 rfl) (v := (0 : Int32)) (by decide) ?_
    exact jr_iret K E (D_at DL_chair_q1 4 rfl) rfl ⟨rfl, h2.1, Nat.le_refl _, rfl⟩)
noncomputable def FL_hours (n : Nat) (a0 : Nat) (x1 : Int32) (a2 : Nat) (h : jH) : Option (Int32 × jH) :=
  (jcv 9 h a0 (F_X11_hours n a0 x1 h)).bind fun q => match q.1 with
  | .inl v => (jasl q.2 a2 0 v.toInt64).bind fun h2 => some ((0 : Int32), h2)
  | .inr k => if k = 0 then some ((1 : Int32), q.2) else none
set_option maxHeartbeats 400000 in
theorem CL_hours {G : jG} {l : Launch} (hst : l.stackTraces = false) (d : Nat) {n : Nat} {a0 : Nat} {x1 : Int32} {a2 : Nat} {h : jH} {res : Int32 × jH} (hf : FL_hours n a0 x1 a2 h = some res) : jC G l mL_hours (d + 8) 8 119 [.ref a0, .int x1, .ref a2] h (jPL res) :=
  jC.of (by decide +kernel) (jcats rfl) (Nat.le_of_ble_eq_true rfl) (fun X K E => by
  unfold FL_hours at hf
  obtain ⟨q, e, hf⟩ := jbind hf
  obtain ⟨rc, e⟩ := jcv_o e
  show jJ G X h 8 119 0 [some (.ref a0), some (.int x1), some (.ref a2), none] []
  refine jr_aload_n K (D_at DL_hours_q0 0 rfl) rfl rfl ?_
  refine jr_iconst K (D_at DL_hours_q0 1 rfl) (v := (0 : Int32)) (by decide) ?_
  refine jr_aload_n K (D_at DL_hours_q0 2 rfl) rfl rfl ?_
  refine jr_iload_n K (D_at DL_hours_q0 3 rfl) rfl rfl ?_
  refine jr_callVx K (C_X11_hours hst (d) e) (D_at DL_hours_q0 4 rfl) cv_L_54_X11_hours (As := [.int x1]) (ci := 9) rfl rc rfl rfl (by exact Nat.le_of_ble_eq_true rfl) (kc2 := 0) (ks2 := 0) rfl rfl (fun k9 z9 h9 w9 hz9 => ?_) (fun r9 h9 w9 => ?_)
  · obtain ⟨w1, w2⟩ := w9
    subst h9
    rw [← w1] at hf
    dsimp only at hf
    by_cases c0 : k9 = 0
    · subst c0
      replace hf := (if_pos rfl).symm.trans hf
      cases hf
      refine jr_catch K (E := "java/lang/IllegalArgumentException") (nm := "java/lang/IllegalArgumentException") [] ⟨0, 9, 12, 13⟩ [] rfl (fun z hz => by cases hz) rfl (by decide) (jw_3_12 6 rfl rfl) (jn_4_8 13 rfl rfl) rfl (fun q9 => ?_)
      refine jr_astore_n K (D_at DL_hours_q0 8 rfl) (i := 3) rfl (by decide) (L2 := [_, _, _, _]) rfl ?_
      refine jr_iconst K (D_at DL_hours_q0 9 rfl) (v := (1 : Int32)) (by decide) ?_
      exact jr_iret K E (D_at DL_hours_q0 10 rfl) rfl ⟨rfl, z9, hz9, rfl⟩
    replace hf := (if_neg c0).symm.trans hf
    exact jno hf
  obtain ⟨w1, w2⟩ := w9
  subst h9
  rw [← w1] at hf
  dsimp only at hf
  obtain ⟨h2, e2, hf⟩ := jbind hf
  cases hf
  show jJ G X _ 0 0 _ _ (.int r9 :: _)
  refine jr_i2l K (D_at DL_hours_q0 5 rfl) (v := r9.toInt64) rfl ?_
  refine jr_last K (D_at DL_hours_q0 6 rfl) e2 ?_
  refine jr_goto K (D_at DL_hours_q0 7 rfl) (tgt := 15) (by decide) ?_
  refine jr_iconst K (D_at DL_hours_q0 11 rfl) (v := (0 : Int32)) (by decide) ?_
  exact jr_iret K E (D_at DL_hours_q1 0 rfl) rfl ⟨rfl, h2.1, Nat.le_refl _, rfl⟩)
noncomputable def FL_goes (n : Nat) (a0 : Nat) (x1 : Int32) (x2 : Int32) (a3 : Nat) (h : jH) : Option (Int32 × jH) :=
  (jcv 9 h a0 (F_X11_goes n a0 x1 x2 h)).bind fun q => match q.1 with
  | .inl v => (jasl q.2 a3 0 v.toInt64).bind fun h2 => some ((0 : Int32), h2)
  | .inr k => if k = 2 then some ((1 : Int32), q.2) else none
set_option maxHeartbeats 400000 in
theorem CL_goes {G : jG} {l : Launch} (hst : l.stackTraces = false) (d : Nat) {n : Nat} {a0 : Nat} {x1 : Int32} {x2 : Int32} {a3 : Nat} {h : jH} {res : Int32 × jH} (hf : FL_goes n a0 x1 x2 a3 h = some res) : jC G l mL_goes (d + 8) 1 6 [.ref a0, .int x1, .int x2, .ref a3] h (jPL res) :=
  jC.of (by decide +kernel) (jcats rfl) (Nat.le_of_ble_eq_true rfl) (fun X K E => by
  unfold FL_goes at hf
  obtain ⟨q, e, hf⟩ := jbind hf
  obtain ⟨rc, e⟩ := jcv_o e
  show jJ G X h 1 6 0 [some (.ref a0), some (.int x1), some (.int x2), some (.ref a3), none] []
  refine jr_aload_n K (D_at DL_goes_q0 0 rfl) rfl rfl ?_
  refine jr_iconst K (D_at DL_goes_q0 1 rfl) (v := (0 : Int32)) (by decide) ?_
  refine jr_aload_n K (D_at DL_goes_q0 2 rfl) rfl rfl ?_
  refine jr_iload_n K (D_at DL_goes_q0 3 rfl) rfl rfl ?_
  refine jr_iload_n K (D_at DL_goes_q0 4 rfl) rfl rfl ?_
  refine jr_callVx K (C_X11_goes hst (d) e) (D_at DL_goes_q0 5 rfl) cv_L_57_X11_goes (As := [.int x1, .int x2]) (ci := 9) rfl rc rfl rfl (by exact Nat.le_of_ble_eq_true rfl) (kc2 := 0) (ks2 := 0) rfl rfl (fun k9 z9 h9 w9 hz9 => ?_) (fun r9 h9 w9 => ?_)
  · obtain ⟨w1, w2⟩ := w9
    subst h9
    rw [← w1] at hf
    dsimp only at hf
    by_cases c0 : k9 = 2
    · subst c0
      replace hf := (if_pos rfl).symm.trans hf
      cases hf
      refine jr_catch K (E := "java/lang/IndexOutOfBoundsException") (nm := "java/lang/IndexOutOfBoundsException") [] ⟨0, 10, 13, 24⟩ [] rfl (fun z hz => by cases hz) rfl (by decide) (jw_5_0 1 rfl rfl) (jn_5_0 13 rfl rfl) rfl (fun q9 => ?_)
      refine jr_astore K (D_at DL_goes_q0 9 rfl) (i := 4) (by decide) (L2 := [_, _, _, _, _]) rfl ?_
      refine jr_iconst K (D_at DL_goes_q0 10 rfl) (v := (1 : Int32)) (by decide) ?_
      exact jr_iret K E (D_at DL_goes_q0 11 rfl) rfl ⟨rfl, z9, hz9, rfl⟩
    replace hf := (if_neg c0).symm.trans hf
    exact jno hf
  obtain ⟨w1, w2⟩ := w9
  subst h9
  rw [← w1] at hf
  dsimp only at hf
  obtain ⟨h2, e2, hf⟩ := jbind hf
  cases hf
  show jJ G X _ 0 0 _ _ (.int r9 :: _)
  refine jr_i2l K (D_at DL_goes_q0 6 rfl) (v := r9.toInt64) rfl ?_
  refine jr_last K (D_at DL_goes_q0 7 rfl) e2 ?_
  refine jr_goto K (D_at DL_goes_q0 8 rfl) (tgt := 17) (by decide) ?_
  refine jr_iconst K (D_at DL_goes_q1 0 rfl) (v := (0 : Int32)) (by decide) ?_
  exact jr_iret K E (D_at DL_goes_q1 1 rfl) rfl ⟨rfl, h2.1, Nat.le_refl _, rfl⟩)
noncomputable def FL_with (n : Nat) (a0 : Nat) (x1 : Int32) (x2 : Int32) (a3 : Nat) (h : jH) : Option (Int32 × jH) :=
  (jcv 9 h a0 (F_X11_with n a0 x1 x2 h)).bind fun q => match q.1 with
  | .inl v => (jasl q.2 a3 0 v.toInt64).bind fun h2 => some ((0 : Int32), h2)
  | .inr k => if k = 2 then some ((1 : Int32), q.2) else none
set_option maxHeartbeats 400000 in
theorem CL_with {G : jG} {l : Launch} (hst : l.stackTraces = false) (d : Nat) {n : Nat} {a0 : Nat} {x1 : Int32} {x2 : Int32} {a3 : Nat} {h : jH} {res : Int32 × jH} (hf : FL_with n a0 x1 x2 a3 h = some res) : jC G l mL_with (d + 8) 1 6 [.ref a0, .int x1, .int x2, .ref a3] h (jPL res) :=
  jC.of (by decide +kernel) (jcats rfl) (Nat.le_of_ble_eq_true rfl) (fun X K E => by
  unfold FL_with at hf
  obtain ⟨q, e, hf⟩ := jbind hf
  obtain ⟨rc, e⟩ := jcv_o e
  show jJ G X h 1 6 0 [some (.ref a0), some (.int x1), some (.int x2), some (.ref a3), none] []
  refine jr_aload_n K (D_at DL_with_q0 0 rfl) rfl rfl ?_
  refine jr_iconst K (D_at DL_with_q0 1 rfl) (v := (0 : Int32)) (by decide) ?_
  refine jr_aload_n K (D_at DL_with_q0 2 rfl) rfl rfl ?_
  refine jr_iload_n K (D_at DL_with_q0 3 rfl) rfl rfl ?_
  refine jr_iload_n K (D_at DL_with_q0 4 rfl) rfl rfl ?_
  refine jr_callVx K (C_X11_with hst (d) e) (D_at DL_with_q0 5 rfl) cv_L_61_X11_with (As := [.int x1, .int x2]) (ci := 9) rfl rc rfl rfl (by exact Nat.le_of_ble_eq_true rfl) (kc2 := 0) (ks2 := 0) rfl rfl (fun k9 z9 h9 w9 hz9 => ?_) (fun r9 h9 w9 => ?_)
  · obtain ⟨w1, w2⟩ := w9
    subst h9
    rw [← w1] at hf
    dsimp only at hf
    by_cases c0 : k9 = 2
    · subst c0
      replace hf := (if_pos rfl).symm.trans hf
      cases hf
      refine jr_catch K (E := "java/lang/IndexOutOfBoundsException") (nm := "java/lang/IndexOutOfBoundsException") [] ⟨0, 10, 13, 24⟩ [] rfl (fun z hz => by cases hz) rfl (by decide) (jw_5_0 1 rfl rfl) (jn_5_0 13 rfl rfl) rfl (fun q9 => ?_)
      refine jr_astore K (D_at DL_with_q0 9 rfl) (i := 4) (by decide) (L2 := [_, _, _, _, _]) rfl ?_
      refine jr_iconst K (D_at DL_with_q0 10 rfl) (v := (1 : Int32)) (by decide) ?_
      exact jr_iret K E (D_at DL_with_q0 11 rfl) rfl ⟨rfl, z9, hz9, rfl⟩
    replace hf := (if_neg c0).symm.trans hf
    exact jno hf
  obtain ⟨w1, w2⟩ := w9
  subst h9
  rw [← w1] at hf
  dsimp only at hf
  obtain ⟨h2, e2, hf⟩ := jbind hf
  cases hf
  show jJ G X _ 0 0 _ _ (.int r9 :: _)
  refine jr_i2l K (D_at DL_with_q0 6 rfl) (v := r9.toInt64) rfl ?_
  refine jr_last K (D_at DL_with_q0 7 rfl) e2 ?_
  refine jr_goto K (D_at DL_with_q0 8 rfl) (tgt := 17) (by decide) ?_
  refine jr_iconst K (D_at DL_with_q1 0 rfl) (v := (0 : Int32)) (by decide) ?_
  exact jr_iret K E (D_at DL_with_q1 1 rfl) rfl ⟨rfl, h2.1, Nat.le_refl _, rfl⟩)
noncomputable def FL_would (n : Nat) (a0 : Nat) (x1 : Int32) (x2 : Int32) (x3 : Int32) (x4 : Int32) (a5 : Nat) (h : jH) : Option (Int32 × jH) :=
  (jcv 9 h a0 (F_X11_would n a0 x1 x2 x3 x4 h)).bind fun q => match q.1 with
  | .inl v => (jasl q.2 a5 0 v.toInt64).bind fun h2 => some ((0 : Int32), h2)
  | .inr k => if k = 2 then some ((1 : Int32), q.2) else if k = 0 then some ((2 : Int32), q.2) else none
set_option maxHeartbeats 400000 in
theorem CL_would {G : jG} {l : Launch} (hst : l.stackTraces = false) (d : Nat) {n : Nat} {a0 : Nat} {x1 : Int32} {x2 : Int32} {x3 : Int32} {x4 : Int32} {a5 : Nat} {h : jH} {res : Int32 × jH} (hf : FL_would n a0 x1 x2 x3 x4 a5 h = some res) : jC G l mL_would (d + 8) 2 12 [.ref a0, .int x1, .int x2, .int x3, .int x4, .ref a5] h (jPL res) :=
  jC.of (by decide +kernel) (jcats rfl) (Nat.le_of_ble_eq_true rfl) (fun X K E => by
  unfold FL_would at hf
  obtain ⟨q, e, hf⟩ := jbind hf
  obtain ⟨rc, e⟩ := jcv_o e
  show jJ G X h 2 12 0 [some (.ref a0), some (.int x1), some (.int x2), some (.int x3), some (.int x4), some (.ref a5), none] []
  refine jr_aload K (D_at DL_would_q0 0 rfl) rfl ?_
  refine jr_iconst K (D_at DL_would_q0 1 rfl) (v := (0 : Int32)) (by decide) ?_
  refine jr_aload_n K (D_at DL_would_q0 2 rfl) rfl rfl ?_
  refine jr_iload_n K (D_at DL_would_q0 3 rfl) rfl rfl ?_
  refine jr_iload_n K (D_at DL_would_q0 4 rfl) rfl rfl ?_
  refine jr_iload_n K (D_at DL_would_q0 5 rfl) rfl rfl ?_
  refine jr_iload K (D_at DL_would_q0 6 rfl) rfl ?_
  refine jr_callVx K (C_X11_would hst (d) e) (D_at DL_would_q0 7 rfl) cv_L_64_X11_would (As := [.int x1, .int x2, .int x3, .int x4]) (ci := 9) rfl rc rfl rfl (by exact Nat.le_of_ble_eq_true rfl) (kc2 := 0) (ks2 := 0) rfl rfl (fun k9 z9 h9 w9 hz9 => ?_) (fun r9 h9 w9 => ?_)
  · obtain ⟨w1, w2⟩ := w9
    subst h9
    rw [← w1] at hf
    dsimp only at hf
    by_cases c0 : k9 = 2
    · subst c0
      replace hf := (if_pos rfl).symm.trans hf
      cases hf
      refine jr_catch K (E := "java/lang/IndexOutOfBoundsException") (nm := "java/lang/IndexOutOfBoundsException") [] ⟨0, 14, 17, 24⟩ [⟨0, 14, 21, 13⟩] rfl (fun z hz => by cases hz) rfl (by decide) (jw_5_0 1 rfl rfl) (jn_5_0 13 rfl rfl) rfl (fun q9 => ?_)
      refine jr_astore K (D_at DL_would_q0 11 rfl) (i := 6) (by decide) (L2 := [_, _, _, _, _, _, _]) rfl ?_
      refine jr_iconst K (D_at DL_would_q1 0 rfl) (v := (1 : Int32)) (by decide) ?_
      exact jr_iret K E (D_at DL_would_q1 1 rfl) rfl ⟨rfl, z9, hz9, rfl⟩
    replace hf := (if_neg c0).symm.trans hf
    by_cases c1 : k9 = 0
    · subst c1
      replace hf := (if_pos rfl).symm.trans hf
      cases hf
      refine jr_catch K (E := "java/lang/IllegalArgumentException") (nm := "java/lang/IllegalArgumentException") [⟨0, 14, 17, 24⟩] ⟨0, 14, 21, 13⟩ [] rfl (fun z hz => Or.inr (by
      simp only [List.mem_cons, List.not_mem_nil, or_false] at hz
      rcases hz with rfl
      · exact ⟨by decide, "java/lang/IndexOutOfBoundsException", (jw_5_0 1 rfl rfl), by decide⟩)) rfl (by decide) (jw_3_12 6 rfl rfl) (jn_4_8 13 rfl rfl) rfl (fun q9 => ?_)
      refine jr_astore K (D_at DL_would_q1 2 rfl) (i := 6) (by decide) (L2 := [_, _, _, _, _, _, _]) rfl ?_
      refine jr_iconst K (D_at DL_would_q1 3 rfl) (v := (2 : Int32)) (by decide) ?_
      exact jr_iret K E (D_at DL_would_q1 4 rfl) rfl ⟨rfl, z9, hz9, rfl⟩
    replace hf := (if_neg c1).symm.trans hf
    exact jno hf
  obtain ⟨w1, w2⟩ := w9
  subst h9
  rw [← w1] at hf
  dsimp only at hf
  obtain ⟨h2, e2, hf⟩ := jbind hf
  cases hf
  show jJ G X _ 0 0 _ _ (.int r9 :: _)
  refine jr_i2l K (D_at DL_would_q0 8 rfl) (v := r9.toInt64) rfl ?_
  refine jr_last K (D_at DL_would_q0 9 rfl) e2 ?_
  refine jr_goto K (D_at DL_would_q0 10 rfl) (tgt := 25) (by decide) ?_
  refine jr_iconst K (D_at DL_would_q1 5 rfl) (v := (0 : Int32)) (by decide) ?_
  exact jr_iret K E (D_at DL_would_q1 6 rfl) rfl ⟨rfl, h2.1, Nat.le_refl _, rfl⟩)
noncomputable def FL_snags (n : Nat) (a0 : Nat) (x1 : Int32) (a2 : Nat) (h : jH) : Option (Int32 × jH) :=
  (jcv 9 h a0 (F_X11_snags n a0 x1 h)).bind fun q => match q.1 with
  | .inl v => (jasl q.2 a2 0 v.toInt64).bind fun h2 => some ((0 : Int32), h2)
  | .inr k => if k = 0 then some ((1 : Int32), q.2) else none
set_option maxHeartbeats 400000 in
theorem CL_snags {G : jG} {l : Launch} (hst : l.stackTraces = false) (d : Nat) {n : Nat} {a0 : Nat} {x1 : Int32} {a2 : Nat} {h : jH} {res : Int32 × jH} (hf : FL_snags n a0 x1 a2 h = some res) : jC G l mL_snags (d + 8) 1 6 [.ref a0, .int x1, .ref a2] h (jPL res) :=
  jC.of (by decide +kernel) (jcats rfl) (Nat.le_of_ble_eq_true rfl) (fun X K E => by
  unfold FL_snags at hf
  obtain ⟨q, e, hf⟩ := jbind hf
  obtain ⟨rc, e⟩ := jcv_o e
  show jJ G X h 1 6 0 [some (.ref a0), some (.int x1), some (.ref a2), none] []
  refine jr_aload_n K (D_at DL_snags_q0 0 rfl) rfl rfl ?_
  refine jr_iconst K (D_at DL_snags_q0 1 rfl) (v := (0 : Int32)) (by decide) ?_
  refine jr_aload_n K (D_at DL_snags_q0 2 rfl) rfl rfl ?_
  refine jr_iload_n K (D_at DL_snags_q0 3 rfl) rfl rfl ?_
  refine jr_callVx K (C_X11_snags hst (d) e) (D_at DL_snags_q0 4 rfl) cv_L_68_X11_snags (As := [.int x1]) (ci := 9) rfl rc rfl rfl (by exact Nat.le_of_ble_eq_true rfl) (kc2 := 0) (ks2 := 0) rfl rfl (fun k9 z9 h9 w9 hz9 => ?_) (fun r9 h9 w9 => ?_)
  · obtain ⟨w1, w2⟩ := w9
    subst h9
    rw [← w1] at hf
    dsimp only at hf
    by_cases c0 : k9 = 0
    · subst c0
      replace hf := (if_pos rfl).symm.trans hf
      cases hf
      refine jr_catch K (E := "java/lang/IllegalArgumentException") (nm := "java/lang/IllegalArgumentException") [] ⟨0, 9, 12, 13⟩ [] rfl (fun z hz => by cases hz) rfl (by decide) (jw_3_12 6 rfl rfl) (jn_4_8 13 rfl rfl) rfl (fun q9 => ?_)
      refine jr_astore_n K (D_at DL_snags_q0 8 rfl) (i := 3) rfl (by decide) (L2 := [_, _, _, _]) rfl ?_
      refine jr_iconst K (D_at DL_snags_q0 9 rfl) (v := (1 : Int32)) (by decide) ?_
      exact jr_iret K E (D_at DL_snags_q0 10 rfl) rfl ⟨rfl, z9, hz9, rfl⟩
    replace hf := (if_neg c0).symm.trans hf
    exact jno hf
  obtain ⟨w1, w2⟩ := w9
  subst h9
  rw [← w1] at hf
  dsimp only at hf
  obtain ⟨h2, e2, hf⟩ := jbind hf
  cases hf
  show jJ G X _ 0 0 _ _ (.int r9 :: _)
  refine jr_i2l K (D_at DL_snags_q0 5 rfl) (v := r9.toInt64) rfl ?_
  refine jr_last K (D_at DL_snags_q0 6 rfl) e2 ?_
  refine jr_goto K (D_at DL_snags_q0 7 rfl) (tgt := 15) (by decide) ?_
  refine jr_iconst K (D_at DL_snags_q0 11 rfl) (v := (0 : Int32)) (by decide) ?_
  exact jr_iret K E (D_at DL_snags_q1 0 rfl) rfl ⟨rfl, h2.1, Nat.le_refl _, rfl⟩)
noncomputable def FL_tries (n : Nat) (a0 : Nat) (a1 : Nat) (h : jH) : Option (Int32 × jH) :=
  (jcv 9 h a0 (F_X11_tries n a0 h)).bind fun q => match q.1 with
  | .inl v => (jasl q.2 a1 0 v.toInt64).bind fun h2 => some ((0 : Int32), h2)
  | .inr k => if k = 0 then some ((1 : Int32), q.2) else none
set_option maxHeartbeats 400000 in
theorem CL_tries {G : jG} {l : Launch} (hst : l.stackTraces = false) (d : Nat) {n : Nat} {a0 : Nat} {a1 : Nat} {h : jH} {res : Int32 × jH} (hf : FL_tries n a0 a1 h = some res) : jC G l mL_tries (d + 8) 1 6 [.ref a0, .ref a1] h (jPL res) :=
  jC.of (by decide +kernel) (jcats rfl) (Nat.le_of_ble_eq_true rfl) (fun X K E => by
  unfold FL_tries at hf
  obtain ⟨q, e, hf⟩ := jbind hf
  obtain ⟨rc, e⟩ := jcv_o e
  show jJ G X h 1 6 0 [some (.ref a0), some (.ref a1), none] []
  refine jr_aload_n K (D_at DL_tries_q0 0 rfl) rfl rfl ?_
  refine jr_iconst K (D_at DL_tries_q0 1 rfl) (v := (0 : Int32)) (by decide) ?_
  refine jr_aload_n K (D_at DL_tries_q0 2 rfl) rfl rfl ?_
  refine jr_callVx K (C_X11_tries hst (d) e) (D_at DL_tries_q0 3 rfl) cv_L_72_X11_tries (As := []) (ci := 9) rfl rc rfl rfl (by exact Nat.le_of_ble_eq_true rfl) (kc2 := 0) (ks2 := 0) rfl rfl (fun k9 z9 h9 w9 hz9 => ?_) (fun r9 h9 w9 => ?_)
  · obtain ⟨w1, w2⟩ := w9
    subst h9
    rw [← w1] at hf
    dsimp only at hf
    by_cases c0 : k9 = 0
    · subst c0
      replace hf := (if_pos rfl).symm.trans hf
      cases hf
      refine jr_catch K (E := "java/lang/IllegalArgumentException") (nm := "java/lang/IllegalArgumentException") [] ⟨0, 8, 11, 13⟩ [] rfl (fun z hz => by cases hz) rfl (by decide) (jw_3_12 6 rfl rfl) (jn_4_8 13 rfl rfl) rfl (fun q9 => ?_)
      refine jr_astore_n K (D_at DL_tries_q0 7 rfl) (i := 2) rfl (by decide) (L2 := [_, _, _]) rfl ?_
      refine jr_iconst K (D_at DL_tries_q0 8 rfl) (v := (1 : Int32)) (by decide) ?_
      exact jr_iret K E (D_at DL_tries_q0 9 rfl) rfl ⟨rfl, z9, hz9, rfl⟩
    replace hf := (if_neg c0).symm.trans hf
    exact jno hf
  obtain ⟨w1, w2⟩ := w9
  subst h9
  rw [← w1] at hf
  dsimp only at hf
  obtain ⟨h2, e2, hf⟩ := jbind hf
  cases hf
  show jJ G X _ 0 0 _ _ (.int r9 :: _)
  refine jr_i2l K (D_at DL_tries_q0 4 rfl) (v := r9.toInt64) rfl ?_
  refine jr_last K (D_at DL_tries_q0 5 rfl) e2 ?_
  refine jr_goto K (D_at DL_tries_q0 6 rfl) (tgt := 14) (by decide) ?_
  refine jr_iconst K (D_at DL_tries_q0 10 rfl) (v := (0 : Int32)) (by decide) ?_
  exact jr_iret K E (D_at DL_tries_q0 11 rfl) rfl ⟨rfl, h2.1, Nat.le_refl _, rfl⟩)
noncomputable def FL_loosen (n : Nat) (a0 : Nat) (x1 : Int32) (x2 : Int32) (x3 : Int32) (a4 : Nat) (h : jH) : Option (Int32 × jH) :=
  (jcv 9 h a0 (F_X11_loosen n a0 x1 x2 x3 h)).bind fun q => match q.1 with
  | .inl v => (jasl q.2 a4 0 v.toInt64).bind fun h2 => some ((0 : Int32), h2)
  | .inr k => if k = 2 then some ((1 : Int32), q.2) else if k = 0 then some ((2 : Int32), q.2) else none
set_option maxHeartbeats 400000 in
theorem CL_loosen {G : jG} {l : Launch} (hst : l.stackTraces = false) (d : Nat) {n : Nat} {a0 : Nat} {x1 : Int32} {x2 : Int32} {x3 : Int32} {a4 : Nat} {h : jH} {res : Int32 × jH} (hf : FL_loosen n a0 x1 x2 x3 a4 h = some res) : jC G l mL_loosen (d + 8) 2 12 [.ref a0, .int x1, .int x2, .int x3, .ref a4] h (jPL res) :=
  jC.of (by decide +kernel) (jcats rfl) (Nat.le_of_ble_eq_true rfl) (fun X K E => by
  unfold FL_loosen at hf
  obtain ⟨q, e, hf⟩ := jbind hf
  obtain ⟨rc, e⟩ := jcv_o e
  show jJ G X h 2 12 0 [some (.ref a0), some (.int x1), some (.int x2), some (.int x3), some (.ref a4), none] []
  refine jr_aload K (D_at DL_loosen_q0 0 rfl) rfl ?_
  refine jr_iconst K (D_at DL_loosen_q0 1 rfl) (v := (0 : Int32)) (by decide) ?_
  refine jr_aload_n K (D_at DL_loosen_q0 2 rfl) rfl rfl ?_
  refine jr_iload_n K (D_at DL_loosen_q0 3 rfl) rfl rfl ?_
  refine jr_iload_n K (D_at DL_loosen_q0 4 rfl) rfl rfl ?_
  refine jr_iload_n K (D_at DL_loosen_q0 5 rfl) rfl rfl ?_
  refine jr_callVx K (C_X11_loosen hst (d) e) (D_at DL_loosen_q0 6 rfl) cv_L_75_X11_loosen (As := [.int x1, .int x2, .int x3]) (ci := 9) rfl rc rfl rfl (by exact Nat.le_of_ble_eq_true rfl) (kc2 := 0) (ks2 := 0) rfl rfl (fun k9 z9 h9 w9 hz9 => ?_) (fun r9 h9 w9 => ?_)
  · obtain ⟨w1, w2⟩ := w9
    subst h9
    rw [← w1] at hf
    dsimp only at hf
    by_cases c0 : k9 = 2
    · subst c0
      replace hf := (if_pos rfl).symm.trans hf
      cases hf
      refine jr_catch K (E := "java/lang/IndexOutOfBoundsException") (nm := "java/lang/IndexOutOfBoundsException") [] ⟨0, 12, 15, 24⟩ [⟨0, 12, 19, 13⟩] rfl (fun z hz => by cases hz) rfl (by decide) (jw_5_0 1 rfl rfl) (jn_5_0 13 rfl rfl) rfl (fun q9 => ?_)
      refine jr_astore K (D_at DL_loosen_q0 10 rfl) (i := 5) (by decide) (L2 := [_, _, _, _, _, _]) rfl ?_
      refine jr_iconst K (D_at DL_loosen_q0 11 rfl) (v := (1 : Int32)) (by decide) ?_
      exact jr_iret K E (D_at DL_loosen_q1 0 rfl) rfl ⟨rfl, z9, hz9, rfl⟩
    replace hf := (if_neg c0).symm.trans hf
    by_cases c1 : k9 = 0
    · subst c1
      replace hf := (if_pos rfl).symm.trans hf
      cases hf
      refine jr_catch K (E := "java/lang/IllegalArgumentException") (nm := "java/lang/IllegalArgumentException") [⟨0, 12, 15, 24⟩] ⟨0, 12, 19, 13⟩ [] rfl (fun z hz => Or.inr (by
      simp only [List.mem_cons, List.not_mem_nil, or_false] at hz
      rcases hz with rfl
      · exact ⟨by decide, "java/lang/IndexOutOfBoundsException", (jw_5_0 1 rfl rfl), by decide⟩)) rfl (by decide) (jw_3_12 6 rfl rfl) (jn_4_8 13 rfl rfl) rfl (fun q9 => ?_)
      refine jr_astore K (D_at DL_loosen_q1 1 rfl) (i := 5) (by decide) (L2 := [_, _, _, _, _, _]) rfl ?_
      refine jr_iconst K (D_at DL_loosen_q1 2 rfl) (v := (2 : Int32)) (by decide) ?_
      exact jr_iret K E (D_at DL_loosen_q1 3 rfl) rfl ⟨rfl, z9, hz9, rfl⟩
    replace hf := (if_neg c1).symm.trans hf
    exact jno hf
  obtain ⟨w1, w2⟩ := w9
  subst h9
  rw [← w1] at hf
  dsimp only at hf
  obtain ⟨h2, e2, hf⟩ := jbind hf
  cases hf
  show jJ G X _ 0 0 _ _ (.int r9 :: _)
  refine jr_i2l K (D_at DL_loosen_q0 7 rfl) (v := r9.toInt64) rfl ?_
  refine jr_last K (D_at DL_loosen_q0 8 rfl) e2 ?_
  refine jr_goto K (D_at DL_loosen_q0 9 rfl) (tgt := 23) (by decide) ?_
  refine jr_iconst K (D_at DL_loosen_q1 4 rfl) (v := (0 : Int32)) (by decide) ?_
  exact jr_iret K E (D_at DL_loosen_q1 5 rfl) rfl ⟨rfl, h2.1, Nat.le_refl _, rfl⟩)
noncomputable def FL_tight (n : Nat) (a0 : Nat) (x1 : Int32) (a2 : Nat) (h : jH) : Option (Int32 × jH) :=
  (jcv 9 h a0 (F_X11_tight n a0 x1 h)).bind fun q => match q.1 with
  | .inl v => (jasl q.2 a2 0 v.toInt64).bind fun h2 => some ((0 : Int32), h2)
  | .inr k => if k = 0 then some ((1 : Int32), q.2) else none
set_option maxHeartbeats 400000 in
theorem CL_tight {G : jG} {l : Launch} (hst : l.stackTraces = false) (d : Nat) {n : Nat} {a0 : Nat} {x1 : Int32} {a2 : Nat} {h : jH} {res : Int32 × jH} (hf : FL_tight n a0 x1 a2 h = some res) : jC G l mL_tight (d + 8) 1 6 [.ref a0, .int x1, .ref a2] h (jPL res) :=
  jC.of (by decide +kernel) (jcats rfl) (Nat.le_of_ble_eq_true rfl) (fun X K E => by
  unfold FL_tight at hf
  obtain ⟨q, e, hf⟩ := jbind hf
  obtain ⟨rc, e⟩ := jcv_o e
  show jJ G X h 1 6 0 [some (.ref a0), some (.int x1), some (.ref a2), none] []
  refine jr_aload_n K (D_at DL_tight_q0 0 rfl) rfl rfl ?_
  refine jr_iconst K (D_at DL_tight_q0 1 rfl) (v := (0 : Int32)) (by decide) ?_
  refine jr_aload_n K (D_at DL_tight_q0 2 rfl) rfl rfl ?_
  refine jr_iload_n K (D_at DL_tight_q0 3 rfl) rfl rfl ?_
  refine jr_callVx K (C_X11_tight hst (d) e) (D_at DL_tight_q0 4 rfl) cv_L_78_X11_tight (As := [.int x1]) (ci := 9) rfl rc rfl rfl (by exact Nat.le_of_ble_eq_true rfl) (kc2 := 0) (ks2 := 0) rfl rfl (fun k9 z9 h9 w9 hz9 => ?_) (fun r9 h9 w9 => ?_)
  · obtain ⟨w1, w2⟩ := w9
    subst h9
    rw [← w1] at hf
    dsimp only at hf
    by_cases c0 : k9 = 0
    · subst c0
      replace hf := (if_pos rfl).symm.trans hf
      cases hf
      refine jr_catch K (E := "java/lang/IllegalArgumentException") (nm := "java/lang/IllegalArgumentException") [] ⟨0, 9, 12, 13⟩ [] rfl (fun z hz => by cases hz) rfl (by decide) (jw_3_12 6 rfl rfl) (jn_4_8 13 rfl rfl) rfl (fun q9 => ?_)
      refine jr_astore_n K (D_at DL_tight_q0 8 rfl) (i := 3) rfl (by decide) (L2 := [_, _, _, _]) rfl ?_
      refine jr_iconst K (D_at DL_tight_q0 9 rfl) (v := (1 : Int32)) (by decide) ?_
      exact jr_iret K E (D_at DL_tight_q0 10 rfl) rfl ⟨rfl, z9, hz9, rfl⟩
    replace hf := (if_neg c0).symm.trans hf
    exact jno hf
  obtain ⟨w1, w2⟩ := w9
  subst h9
  rw [← w1] at hf
  dsimp only at hf
  obtain ⟨h2, e2, hf⟩ := jbind hf
  cases hf
  show jJ G X _ 0 0 _ _ (.int r9 :: _)
  refine jr_i2l K (D_at DL_tight_q0 5 rfl) (v := r9.toInt64) rfl ?_
  refine jr_last K (D_at DL_tight_q0 6 rfl) e2 ?_
  refine jr_goto K (D_at DL_tight_q0 7 rfl) (tgt := 15) (by decide) ?_
  refine jr_iconst K (D_at DL_tight_q0 11 rfl) (v := (0 : Int32)) (by decide) ?_
  exact jr_iret K E (D_at DL_tight_q1 0 rfl) rfl ⟨rfl, h2.1, Nat.le_refl _, rfl⟩)
noncomputable def FL_lit (n : Nat) (a0 : Nat) (x1 : Int32) (a2 : Nat) (h : jH) : Option (Int32 × jH) :=
  (jcv 9 h a0 (F_X11_lit n a0 x1 h)).bind fun q => match q.1 with
  | .inl v => (jasl q.2 a2 0 v.toInt64).bind fun h2 => some ((0 : Int32), h2)
  | .inr k => if k = 2 then some ((1 : Int32), q.2) else none
set_option maxHeartbeats 400000 in
theorem CL_lit {G : jG} {l : Launch} (hst : l.stackTraces = false) (d : Nat) {n : Nat} {a0 : Nat} {x1 : Int32} {a2 : Nat} {h : jH} {res : Int32 × jH} (hf : FL_lit n a0 x1 a2 h = some res) : jC G l mL_lit (d + 7) 1 6 [.ref a0, .int x1, .ref a2] h (jPL res) :=
  jC.of (by decide +kernel) (jcats rfl) (Nat.le_of_ble_eq_true rfl) (fun X K E => by
  unfold FL_lit at hf
  obtain ⟨q, e, hf⟩ := jbind hf
  obtain ⟨rc, e⟩ := jcv_o e
  show jJ G X h 1 6 0 [some (.ref a0), some (.int x1), some (.ref a2), none] []
  refine jr_aload_n K (D_at DL_lit_q0 0 rfl) rfl rfl ?_
  refine jr_iconst K (D_at DL_lit_q0 1 rfl) (v := (0 : Int32)) (by decide) ?_
  refine jr_aload_n K (D_at DL_lit_q0 2 rfl) rfl rfl ?_
  refine jr_iload_n K (D_at DL_lit_q0 3 rfl) rfl rfl ?_
  refine jr_callVx K (C_X11_lit hst (d) e) (D_at DL_lit_q0 4 rfl) cv_L_81_X11_lit (As := [.int x1]) (ci := 9) rfl rc rfl rfl (by exact Nat.le_of_ble_eq_true rfl) (kc2 := 0) (ks2 := 0) rfl rfl (fun k9 z9 h9 w9 hz9 => ?_) (fun r9 h9 w9 => ?_)
  · obtain ⟨w1, w2⟩ := w9
    subst h9
    rw [← w1] at hf
    dsimp only at hf
    by_cases c0 : k9 = 2
    · subst c0
      replace hf := (if_pos rfl).symm.trans hf
      cases hf
      refine jr_catch K (E := "java/lang/IndexOutOfBoundsException") (nm := "java/lang/IndexOutOfBoundsException") [] ⟨0, 9, 12, 24⟩ [] rfl (fun z hz => by cases hz) rfl (by decide) (jw_5_0 1 rfl rfl) (jn_5_0 13 rfl rfl) rfl (fun q9 => ?_)
      refine jr_astore_n K (D_at DL_lit_q0 8 rfl) (i := 3) rfl (by decide) (L2 := [_, _, _, _]) rfl ?_
      refine jr_iconst K (D_at DL_lit_q0 9 rfl) (v := (1 : Int32)) (by decide) ?_
      exact jr_iret K E (D_at DL_lit_q0 10 rfl) rfl ⟨rfl, z9, hz9, rfl⟩
    replace hf := (if_neg c0).symm.trans hf
    exact jno hf
  obtain ⟨w1, w2⟩ := w9
  subst h9
  rw [← w1] at hf
  dsimp only at hf
  obtain ⟨h2, e2, hf⟩ := jbind hf
  cases hf
  show jJ G X _ 0 0 _ _ (.int r9 :: _)
  refine jr_i2l K (D_at DL_lit_q0 5 rfl) (v := r9.toInt64) rfl ?_
  refine jr_last K (D_at DL_lit_q0 6 rfl) e2 ?_
  refine jr_goto K (D_at DL_lit_q0 7 rfl) (tgt := 15) (by decide) ?_
  refine jr_iconst K (D_at DL_lit_q0 11 rfl) (v := (0 : Int32)) (by decide) ?_
  exact jr_iret K E (D_at DL_lit_q1 0 rfl) rfl ⟨rfl, h2.1, Nat.le_refl _, rfl⟩)
noncomputable def FL_faded (n : Nat) (a0 : Nat) (x1 : Int32) (a2 : Nat) (h : jH) : Option (Int32 × jH) :=
  (jcv 9 h a0 (F_X11_faded n a0 x1 h)).bind fun q => match q.1 with
  | .inl v => (jasl q.2 a2 0 v.toInt64).bind fun h2 => some ((0 : Int32), h2)
  | .inr k => if k = 0 then some ((1 : Int32), q.2) else none
set_option maxHeartbeats 400000 in
theorem CL_faded {G : jG} {l : Launch} (hst : l.stackTraces = false) (d : Nat) {n : Nat} {a0 : Nat} {x1 : Int32} {a2 : Nat} {h : jH} {res : Int32 × jH} (hf : FL_faded n a0 x1 a2 h = some res) : jC G l mL_faded (d + 8) 1 6 [.ref a0, .int x1, .ref a2] h (jPL res) :=
  jC.of (by decide +kernel) (jcats rfl) (Nat.le_of_ble_eq_true rfl) (fun X K E => by
  unfold FL_faded at hf
  obtain ⟨q, e, hf⟩ := jbind hf
  obtain ⟨rc, e⟩ := jcv_o e
  show jJ G X h 1 6 0 [some (.ref a0), some (.int x1), some (.ref a2), none] []
  refine jr_aload_n K (D_at DL_faded_q0 0 rfl) rfl rfl ?_
  refine jr_iconst K (D_at DL_faded_q0 1 rfl) (v := (0 : Int32)) (by decide) ?_
  refine jr_aload_n K (D_at DL_faded_q0 2 rfl) rfl rfl ?_
  refine jr_iload_n K (D_at DL_faded_q0 3 rfl) rfl rfl ?_
  refine jr_callVx K (C_X11_faded hst (d) e) (D_at DL_faded_q0 4 rfl) cv_L_84_X11_faded (As := [.int x1]) (ci := 9) rfl rc rfl rfl (by exact Nat.le_of_ble_eq_true rfl) (kc2 := 0) (ks2 := 0) rfl rfl (fun k9 z9 h9 w9 hz9 => ?_) (fun r9 h9 w9 => ?_)
  · obtain ⟨w1, w2⟩ := w9
    subst h9
    rw [← w1] at hf
    dsimp only at hf
    by_cases c0 : k9 = 0
    · subst c0
      replace hf := (if_pos rfl).symm.trans hf
      cases hf
      refine jr_catch K (E := "java/lang/IllegalArgumentException") (nm := "java/lang/IllegalArgumentException") [] ⟨0, 9, 12, 13⟩ [] rfl (fun z hz => by cases hz) rfl (by decide) (jw_3_12 6 rfl rfl) (jn_4_8 13 rfl rfl) rfl (fun q9 => ?_)
      refine jr_astore_n K (D_at DL_faded_q0 8 rfl) (i := 3) rfl (by decide) (L2 := [_, _, _, _]) rfl ?_
      refine jr_iconst K (D_at DL_faded_q0 9 rfl) (v := (1 : Int32)) (by decide) ?_
      exact jr_iret K E (D_at DL_faded_q0 10 rfl) rfl ⟨rfl, z9, hz9, rfl⟩
    replace hf := (if_neg c0).symm.trans hf
    exact jno hf
  obtain ⟨w1, w2⟩ := w9
  subst h9
  rw [← w1] at hf
  dsimp only at hf
  obtain ⟨h2, e2, hf⟩ := jbind hf
  cases hf
  show jJ G X _ 0 0 _ _ (.int r9 :: _)
  refine jr_i2l K (D_at DL_faded_q0 5 rfl) (v := r9.toInt64) rfl ?_
  refine jr_last K (D_at DL_faded_q0 6 rfl) e2 ?_
  refine jr_goto K (D_at DL_faded_q0 7 rfl) (tgt := 15) (by decide) ?_
  refine jr_iconst K (D_at DL_faded_q0 11 rfl) (v := (0 : Int32)) (by decide) ?_
  exact jr_iret K E (D_at DL_faded_q1 0 rfl) rfl ⟨rfl, h2.1, Nat.le_refl _, rfl⟩)
noncomputable def FL_lets (n : Nat) (a0 : Nat) (x1 : Int32) (x2 : Int32) (a3 : Nat) (h : jH) : Option (Int32 × jH) :=
  (jcv 9 h a0 (F_X11_lets n a0 x1 x2 h)).bind fun q => match q.1 with
  | .inl v => (jasl q.2 a3 0 v.toInt64).bind fun h2 => some ((0 : Int32), h2)
  | .inr k => if k = 2 then some ((1 : Int32), q.2) else if k = 0 then some ((2 : Int32), q.2) else none
set_option maxHeartbeats 400000 in
theorem CL_lets {G : jG} {l : Launch} (hst : l.stackTraces = false) (d : Nat) {n : Nat} {a0 : Nat} {x1 : Int32} {x2 : Int32} {a3 : Nat} {h : jH} {res : Int32 × jH} (hf : FL_lets n a0 x1 x2 a3 h = some res) : jC G l mL_lets (d + 8) 2 12 [.ref a0, .int x1, .int x2, .ref a3] h (jPL res) :=
  jC.of (by decide +kernel) (jcats rfl) (Nat.le_of_ble_eq_true rfl) (fun X K E => by
  unfold FL_lets at hf
  obtain ⟨q, e, hf⟩ := jbind hf
  obtain ⟨rc, e⟩ := jcv_o e
  show jJ G X h 2 12 0 [some (.ref a0), some (.int x1), some (.int x2), some (.ref a3), none] []
  refine jr_aload_n K (D_at DL_lets_q0 0 rfl) rfl rfl ?_
  refine jr_iconst K (D_at DL_lets_q0 1 rfl) (v := (0 : Int32)) (by decide) ?_
  refine jr_aload_n K (D_at DL_lets_q0 2 rfl) rfl rfl ?_
  refine jr_iload_n K (D_at DL_lets_q0 3 rfl) rfl rfl ?_
  refine jr_iload_n K (D_at DL_lets_q0 4 rfl) rfl rfl ?_
  refine jr_callVx K (C_X11_lets hst (d) e) (D_at DL_lets_q0 5 rfl) cv_L_87_X11_lets (As := [.int x1, .int x2]) (ci := 9) rfl rc rfl rfl (by exact Nat.le_of_ble_eq_true rfl) (kc2 := 0) (ks2 := 0) rfl rfl (fun k9 z9 h9 w9 hz9 => ?_) (fun r9 h9 w9 => ?_)
  · obtain ⟨w1, w2⟩ := w9
    subst h9
    rw [← w1] at hf
    dsimp only at hf
    by_cases c0 : k9 = 2
    · subst c0
      replace hf := (if_pos rfl).symm.trans hf
      cases hf
      refine jr_catch K (E := "java/lang/IndexOutOfBoundsException") (nm := "java/lang/IndexOutOfBoundsException") [] ⟨0, 10, 13, 24⟩ [⟨0, 10, 17, 13⟩] rfl (fun z hz => by cases hz) rfl (by decide) (jw_5_0 1 rfl rfl) (jn_5_0 13 rfl rfl) rfl (fun q9 => ?_)
      refine jr_astore K (D_at DL_lets_q0 9 rfl) (i := 4) (by decide) (L2 := [_, _, _, _, _]) rfl ?_
      refine jr_iconst K (D_at DL_lets_q0 10 rfl) (v := (1 : Int32)) (by decide) ?_
      exact jr_iret K E (D_at DL_lets_q0 11 rfl) rfl ⟨rfl, z9, hz9, rfl⟩
    replace hf := (if_neg c0).symm.trans hf
    by_cases c1 : k9 = 0
    · subst c1
      replace hf := (if_pos rfl).symm.trans hf
      cases hf
      refine jr_catch K (E := "java/lang/IllegalArgumentException") (nm := "java/lang/IllegalArgumentException") [⟨0, 10, 13, 24⟩] ⟨0, 10, 17, 13⟩ [] rfl (fun z hz => Or.inr (by
      simp only [List.mem_cons, List.not_mem_nil, or_false] at hz
      rcases hz with rfl
      · exact ⟨by decide, "java/lang/IndexOutOfBoundsException", (jw_5_0 1 rfl rfl), by decide⟩)) rfl (by decide) (jw_3_12 6 rfl rfl) (jn_4_8 13 rfl rfl) rfl (fun q9 => ?_)
      refine jr_astore K (D_at DL_lets_q1 0 rfl) (i := 4) (by decide) (L2 := [_, _, _, _, _]) rfl ?_
      refine jr_iconst K (D_at DL_lets_q1 1 rfl) (v := (2 : Int32)) (by decide) ?_
      exact jr_iret K E (D_at DL_lets_q1 2 rfl) rfl ⟨rfl, z9, hz9, rfl⟩
    replace hf := (if_neg c1).symm.trans hf
    exact jno hf
  obtain ⟨w1, w2⟩ := w9
  subst h9
  rw [← w1] at hf
  dsimp only at hf
  obtain ⟨h2, e2, hf⟩ := jbind hf
  cases hf
  show jJ G X _ 0 0 _ _ (.int r9 :: _)
  refine jr_i2l K (D_at DL_lets_q0 6 rfl) (v := r9.toInt64) rfl ?_
  refine jr_last K (D_at DL_lets_q0 7 rfl) e2 ?_
  refine jr_goto K (D_at DL_lets_q0 8 rfl) (tgt := 21) (by decide) ?_
  refine jr_iconst K (D_at DL_lets_q1 3 rfl) (v := (0 : Int32)) (by decide) ?_
  exact jr_iret K E (D_at DL_lets_q1 4 rfl) rfl ⟨rfl, h2.1, Nat.le_refl _, rfl⟩)
noncomputable def FL_rests (n : Nat) (a0 : Nat) (x1 : Int32) (a2 : Nat) (h : jH) : Option (Int32 × jH) :=
  (jcv 9 h a0 (F_X11_rests n a0 x1 h)).bind fun q => match q.1 with
  | .inl v => (jasl q.2 a2 0 v.toInt64).bind fun h2 => some ((0 : Int32), h2)
  | .inr k => if k = 2 then some ((1 : Int32), q.2) else none
set_option maxHeartbeats 400000 in
theorem CL_rests {G : jG} {l : Launch} (hst : l.stackTraces = false) (d : Nat) {n : Nat} {a0 : Nat} {x1 : Int32} {a2 : Nat} {h : jH} {res : Int32 × jH} (hf : FL_rests n a0 x1 a2 h = some res) : jC G l mL_rests (d + 8) 1 6 [.ref a0, .int x1, .ref a2] h (jPL res) :=
  jC.of (by decide +kernel) (jcats rfl) (Nat.le_of_ble_eq_true rfl) (fun X K E => by
  unfold FL_rests at hf
  obtain ⟨q, e, hf⟩ := jbind hf
  obtain ⟨rc, e⟩ := jcv_o e
  show jJ G X h 1 6 0 [some (.ref a0), some (.int x1), some (.ref a2), none] []
  refine jr_aload_n K (D_at DL_rests_q0 0 rfl) rfl rfl ?_
  refine jr_iconst K (D_at DL_rests_q0 1 rfl) (v := (0 : Int32)) (by decide) ?_
  refine jr_aload_n K (D_at DL_rests_q0 2 rfl) rfl rfl ?_
  refine jr_iload_n K (D_at DL_rests_q0 3 rfl) rfl rfl ?_
  refine jr_callVx K (C_X11_rests hst (d) e) (D_at DL_rests_q0 4 rfl) cv_L_90_X11_rests (As := [.int x1]) (ci := 9) rfl rc rfl rfl (by exact Nat.le_of_ble_eq_true rfl) (kc2 := 0) (ks2 := 0) rfl rfl (fun k9 z9 h9 w9 hz9 => ?_) (fun r9 h9 w9 => ?_)
  · obtain ⟨w1, w2⟩ := w9
    subst h9
    rw [← w1] at hf
    dsimp only at hf
    by_cases c0 : k9 = 2
    · subst c0
      replace hf := (if_pos rfl).symm.trans hf
      cases hf
      refine jr_catch K (E := "java/lang/IndexOutOfBoundsException") (nm := "java/lang/IndexOutOfBoundsException") [] ⟨0, 9, 12, 24⟩ [] rfl (fun z hz => by cases hz) rfl (by decide) (jw_5_0 1 rfl rfl) (jn_5_0 13 rfl rfl) rfl (fun q9 => ?_)
      refine jr_astore_n K (D_at DL_rests_q0 8 rfl) (i := 3) rfl (by decide) (L2 := [_, _, _, _]) rfl ?_
      refine jr_iconst K (D_at DL_rests_q0 9 rfl) (v := (1 : Int32)) (by decide) ?_
      exact jr_iret K E (D_at DL_rests_q0 10 rfl) rfl ⟨rfl, z9, hz9, rfl⟩
    replace hf := (if_neg c0).symm.trans hf
    exact jno hf
  obtain ⟨w1, w2⟩ := w9
  subst h9
  rw [← w1] at hf
  dsimp only at hf
  obtain ⟨h2, e2, hf⟩ := jbind hf
  cases hf
  show jJ G X _ 0 0 _ _ (.int r9 :: _)
  refine jr_i2l K (D_at DL_rests_q0 5 rfl) (v := r9.toInt64) rfl ?_
  refine jr_last K (D_at DL_rests_q0 6 rfl) e2 ?_
  refine jr_goto K (D_at DL_rests_q0 7 rfl) (tgt := 15) (by decide) ?_
  refine jr_iconst K (D_at DL_rests_q0 11 rfl) (v := (0 : Int32)) (by decide) ?_
  exact jr_iret K E (D_at DL_rests_q1 0 rfl) rfl ⟨rfl, h2.1, Nat.le_refl _, rfl⟩)
noncomputable def FL_odds (n : Nat) (a0 : Nat) (x1 : Int32) (x2 : Int32) (a3 : Nat) (h : jH) : Option (Int32 × jH) :=
  (jcv 9 h a0 (F_X11_odds n a0 x1 x2 h)).bind fun q => match q.1 with
  | .inl v => (jasl q.2 a3 0 v.toInt64).bind fun h2 => some ((0 : Int32), h2)
  | .inr k => if k = 2 then some ((1 : Int32), q.2) else if k = 0 then some ((2 : Int32), q.2) else none
set_option maxHeartbeats 400000 in
theorem CL_odds {G : jG} {l : Launch} (hst : l.stackTraces = false) (d : Nat) {n : Nat} {a0 : Nat} {x1 : Int32} {x2 : Int32} {a3 : Nat} {h : jH} {res : Int32 × jH} (hf : FL_odds n a0 x1 x2 a3 h = some res) : jC G l mL_odds (d + 8) 2 12 [.ref a0, .int x1, .int x2, .ref a3] h (jPL res) :=
  jC.of (by decide +kernel) (jcats rfl) (Nat.le_of_ble_eq_true rfl) (fun X K E => by
  unfold FL_odds at hf
  obtain ⟨q, e, hf⟩ := jbind hf
  obtain ⟨rc, e⟩ := jcv_o e
  show jJ G X h 2 12 0 [some (.ref a0), some (.int x1), some (.int x2), some (.ref a3), none] []
  refine jr_aload_n K (D_at DL_odds_q0 0 rfl) rfl rfl ?_
  refine jr_iconst K (D_at DL_odds_q0 1 rfl) (v := (0 : Int32)) (by decide) ?_
  refine jr_aload_n K (D_at DL_odds_q0 2 rfl) rfl rfl ?_
  refine jr_iload_n K (D_at DL_odds_q0 3 rfl) rfl rfl ?_
  refine jr_iload_n K (D_at DL_odds_q0 4 rfl) rfl rfl ?_
  refine jr_callVx K (C_X11_odds hst (d) e) (D_at DL_odds_q0 5 rfl) cv_L_93_X11_odds (As := [.int x1, .int x2]) (ci := 9) rfl rc rfl rfl (by exact Nat.le_of_ble_eq_true rfl) (kc2 := 0) (ks2 := 0) rfl rfl (fun k9 z9 h9 w9 hz9 => ?_) (fun r9 h9 w9 => ?_)
  · obtain ⟨w1, w2⟩ := w9
    subst h9
    rw [← w1] at hf
    dsimp only at hf
    by_cases c0 : k9 = 2
    · subst c0
      replace hf := (if_pos rfl).symm.trans hf
      cases hf
      refine jr_catch K (E := "java/lang/IndexOutOfBoundsException") (nm := "java/lang/IndexOutOfBoundsException") [] ⟨0, 10, 13, 24⟩ [⟨0, 10, 17, 13⟩] rfl (fun z hz => by cases hz) rfl (by decide) (jw_5_0 1 rfl rfl) (jn_5_0 13 rfl rfl) rfl (fun q9 => ?_)
      refine jr_astore K (D_at DL_odds_q0 9 rfl) (i := 4) (by decide) (L2 := [_, _, _, _, _]) rfl ?_
      refine jr_iconst K (D_at DL_odds_q0 10 rfl) (v := (1 : Int32)) (by decide) ?_
      exact jr_iret K E (D_at DL_odds_q0 11 rfl) rfl ⟨rfl, z9, hz9, rfl⟩
    replace hf := (if_neg c0).symm.trans hf
    by_cases c1 : k9 = 0
    · subst c1
      replace hf := (if_pos rfl).symm.trans hf
      cases hf
      refine jr_catch K (E := "java/lang/IllegalArgumentException") (nm := "java/lang/IllegalArgumentException") [⟨0, 10, 13, 24⟩] ⟨0, 10, 17, 13⟩ [] rfl (fun z hz => Or.inr (by
      simp only [List.mem_cons, List.not_mem_nil, or_false] at hz
      rcases hz with rfl
      · exact ⟨by decide, "java/lang/IndexOutOfBoundsException", (jw_5_0 1 rfl rfl), by decide⟩)) rfl (by decide) (jw_3_12 6 rfl rfl) (jn_4_8 13 rfl rfl) rfl (fun q9 => ?_)
      refine jr_astore K (D_at DL_odds_q1 0 rfl) (i := 4) (by decide) (L2 := [_, _, _, _, _]) rfl ?_
      refine jr_iconst K (D_at DL_odds_q1 1 rfl) (v := (2 : Int32)) (by decide) ?_
      exact jr_iret K E (D_at DL_odds_q1 2 rfl) rfl ⟨rfl, z9, hz9, rfl⟩
    replace hf := (if_neg c1).symm.trans hf
    exact jno hf
  obtain ⟨w1, w2⟩ := w9
  subst h9
  rw [← w1] at hf
  dsimp only at hf
  obtain ⟨h2, e2, hf⟩ := jbind hf
  cases hf
  show jJ G X _ 0 0 _ _ (.int r9 :: _)
  refine jr_i2l K (D_at DL_odds_q0 6 rfl) (v := r9.toInt64) rfl ?_
  refine jr_last K (D_at DL_odds_q0 7 rfl) e2 ?_
  refine jr_goto K (D_at DL_odds_q0 8 rfl) (tgt := 21) (by decide) ?_
  refine jr_iconst K (D_at DL_odds_q1 3 rfl) (v := (0 : Int32)) (by decide) ?_
  exact jr_iret K E (D_at DL_odds_q1 4 rfl) rfl ⟨rfl, h2.1, Nat.le_refl _, rfl⟩)
noncomputable def FL_ahead (n : Nat) (a0 : Nat) (x1 : Int32) (x2 : Int32) (a3 : Nat) (h : jH) : Option (Int32 × jH) :=
  (jcv 9 h a0 (F_X11_ahead n a0 x1 x2 h)).bind fun q => match q.1 with
  | .inl v => (jasl q.2 a3 0 v.toInt64).bind fun h2 => some ((0 : Int32), h2)
  | .inr k => if k = 2 then some ((1 : Int32), q.2) else if k = 0 then some ((2 : Int32), q.2) else none
set_option maxHeartbeats 400000 in
theorem CL_ahead {G : jG} {l : Launch} (hst : l.stackTraces = false) (d : Nat) {n : Nat} {a0 : Nat} {x1 : Int32} {x2 : Int32} {a3 : Nat} {h : jH} {res : Int32 × jH} (hf : FL_ahead n a0 x1 x2 a3 h = some res) : jC G l mL_ahead (d + 8) 2 12 [.ref a0, .int x1, .int x2, .ref a3] h (jPL res) :=
  jC.of (by decide +kernel) (jcats rfl) (Nat.le_of_ble_eq_true rfl) (fun X K E => by
  unfold FL_ahead at hf
  obtain ⟨q, e, hf⟩ := jbind hf
  obtain ⟨rc, e⟩ := jcv_o e
  show jJ G X h 2 12 0 [some (.ref a0), some (.int x1), some (.int x2), some (.ref a3), none] []
  refine jr_aload_n K (D_at DL_ahead_q0 0 rfl) rfl rfl ?_
  refine jr_iconst K (D_at DL_ahead_q0 1 rfl) (v := (0 : Int32)) (by decide) ?_
  refine jr_aload_n K (D_at DL_ahead_q0 2 rfl) rfl rfl ?_
  refine jr_iload_n K (D_at DL_ahead_q0 3 rfl) rfl rfl ?_
  refine jr_iload_n K (D_at DL_ahead_q0 4 rfl) rfl rfl ?_
  refine jr_callVx K (C_X11_ahead hst (d) e) (D_at DL_ahead_q0 5 rfl) cv_L_96_X11_ahead (As := [.int x1, .int x2]) (ci := 9) rfl rc rfl rfl (by exact Nat.le_of_ble_eq_true rfl) (kc2 := 0) (ks2 := 0) rfl rfl (fun k9 z9 h9 w9 hz9 => ?_) (fun r9 h9 w9 => ?_)
  · obtain ⟨w1, w2⟩ := w9
    subst h9
    rw [← w1] at hf
    dsimp only at hf
    by_cases c0 : k9 = 2
    · subst c0
      replace hf := (if_pos rfl).symm.trans hf
      cases hf
      refine jr_catch K (E := "java/lang/IndexOutOfBoundsException") (nm := "java/lang/IndexOutOfBoundsException") [] ⟨0, 10, 13, 24⟩ [⟨0, 10, 17, 13⟩] rfl (fun z hz => by cases hz) rfl (by decide) (jw_5_0 1 rfl rfl) (jn_5_0 13 rfl rfl) rfl (fun q9 => ?_)
      refine jr_astore K (D_at DL_ahead_q0 9 rfl) (i := 4) (by decide) (L2 := [_, _, _, _, _]) rfl ?_
      refine jr_iconst K (D_at DL_ahead_q0 10 rfl) (v := (1 : Int32)) (by decide) ?_
      exact jr_iret K E (D_at DL_ahead_q0 11 rfl) rfl ⟨rfl, z9, hz9, rfl⟩
    replace hf := (if_neg c0).symm.trans hf
    by_cases c1 : k9 = 0
    · subst c1
      replace hf := (if_pos rfl).symm.trans hf
      cases hf
      refine jr_catch K (E := "java/lang/IllegalArgumentException") (nm := "java/lang/IllegalArgumentException") [⟨0, 10, 13, 24⟩] ⟨0, 10, 17, 13⟩ [] rfl (fun z hz => Or.inr (by
      simp only [List.mem_cons, List.not_mem_nil, or_false] at hz
      rcases hz with rfl
      · exact ⟨by decide, "java/lang/IndexOutOfBoundsException", (jw_5_0 1 rfl rfl), by decide⟩)) rfl (by decide) (jw_3_12 6 rfl rfl) (jn_4_8 13 rfl rfl) rfl (fun q9 => ?_)
      refine jr_astore K (D_at DL_ahead_q1 0 rfl) (i := 4) (by decide) (L2 := [_, _, _, _, _]) rfl ?_
      refine jr_iconst K (D_at DL_ahead_q1 1 rfl) (v := (2 : Int32)) (by decide) ?_
      exact jr_iret K E (D_at DL_ahead_q1 2 rfl) rfl ⟨rfl, z9, hz9, rfl⟩
    replace hf := (if_neg c1).symm.trans hf
    exact jno hf
  obtain ⟨w1, w2⟩ := w9
  subst h9
  rw [← w1] at hf
  dsimp only at hf
  obtain ⟨h2, e2, hf⟩ := jbind hf
  cases hf
  show jJ G X _ 0 0 _ _ (.int r9 :: _)
  refine jr_i2l K (D_at DL_ahead_q0 6 rfl) (v := r9.toInt64) rfl ?_
  refine jr_last K (D_at DL_ahead_q0 7 rfl) e2 ?_
  refine jr_goto K (D_at DL_ahead_q0 8 rfl) (tgt := 21) (by decide) ?_
  refine jr_iconst K (D_at DL_ahead_q1 3 rfl) (v := (0 : Int32)) (by decide) ?_
  exact jr_iret K E (D_at DL_ahead_q1 4 rfl) rfl ⟨rfl, h2.1, Nat.le_refl _, rfl⟩)
noncomputable def FL_trial (n : Nat) (a0 : Nat) (x1 : Int32) (x2 : Int32) (a3 : Nat) (h : jH) : Option (Int32 × jH) :=
  (jcv 9 h a0 (F_X11_trial n a0 x1 x2 h)).bind fun q => match q.1 with
  | .inl v => (jasl q.2 a3 0 v.toInt64).bind fun h2 => some ((0 : Int32), h2)
  | .inr k => if k = 0 then some ((1 : Int32), q.2) else none
set_option maxHeartbeats 400000 in
theorem CL_trial {G : jG} {l : Launch} (hst : l.stackTraces = false) (d : Nat) {n : Nat} {a0 : Nat} {x1 : Int32} {x2 : Int32} {a3 : Nat} {h : jH} {res : Int32 × jH} (hf : FL_trial n a0 x1 x2 a3 h = some res) : jC G l mL_trial (d + 8) 1 6 [.ref a0, .int x1, .int x2, .ref a3] h (jPL res) :=
  jC.of (by decide +kernel) (jcats rfl) (Nat.le_of_ble_eq_true rfl) (fun X K E => by
  unfold FL_trial at hf
  obtain ⟨q, e, hf⟩ := jbind hf
  obtain ⟨rc, e⟩ := jcv_o e
  show jJ G X h 1 6 0 [some (.ref a0), some (.int x1), some (.int x2), some (.ref a3), none] []
  refine jr_aload_n K (D_at DL_trial_q0 0 rfl) rfl rfl ?_
  refine jr_iconst K (D_at DL_trial_q0 1 rfl) (v := (0 : Int32)) (by decide) ?_
  refine jr_aload_n K (D_at DL_trial_q0 2 rfl) rfl rfl ?_
  refine jr_iload_n K (D_at DL_trial_q0 3 rfl) rfl rfl ?_
  refine jr_iload_n K (D_at DL_trial_q0 4 rfl) rfl rfl ?_
  refine jr_callVx K (C_X11_trial hst (d) e) (D_at DL_trial_q0 5 rfl) cv_L_99_X11_trial (As := [.int x1, .int x2]) (ci := 9) rfl rc rfl rfl (by exact Nat.le_of_ble_eq_true rfl) (kc2 := 0) (ks2 := 0) rfl rfl (fun k9 z9 h9 w9 hz9 => ?_) (fun r9 h9 w9 => ?_)
  · obtain ⟨w1, w2⟩ := w9
    subst h9
    rw [← w1] at hf
    dsimp only at hf
    by_cases c0 : k9 = 0
    · subst c0
      replace hf := (if_pos rfl).symm.trans hf
      cases hf
      refine jr_catch K (E := "java/lang/IllegalArgumentException") (nm := "java/lang/IllegalArgumentException") [] ⟨0, 10, 13, 13⟩ [] rfl (fun z hz => by cases hz) rfl (by decide) (jw_3_12 6 rfl rfl) (jn_4_8 13 rfl rfl) rfl (fun q9 => ?_)
      refine jr_astore K (D_at DL_trial_q0 9 rfl) (i := 4) (by decide) (L2 := [_, _, _, _, _]) rfl ?_
      refine jr_iconst K (D_at DL_trial_q0 10 rfl) (v := (1 : Int32)) (by decide) ?_
      exact jr_iret K E (D_at DL_trial_q0 11 rfl) rfl ⟨rfl, z9, hz9, rfl⟩
    replace hf := (if_neg c0).symm.trans hf
    exact jno hf
  obtain ⟨w1, w2⟩ := w9
  subst h9
  rw [← w1] at hf
  dsimp only at hf
  obtain ⟨h2, e2, hf⟩ := jbind hf
  cases hf
  show jJ G X _ 0 0 _ _ (.int r9 :: _)
  refine jr_i2l K (D_at DL_trial_q0 6 rfl) (v := r9.toInt64) rfl ?_
  refine jr_last K (D_at DL_trial_q0 7 rfl) e2 ?_
  refine jr_goto K (D_at DL_trial_q0 8 rfl) (tgt := 17) (by decide) ?_
  refine jr_iconst K (D_at DL_trial_q1 0 rfl) (v := (0 : Int32)) (by decide) ?_
  exact jr_iret K E (D_at DL_trial_q1 1 rfl) rfl ⟨rfl, h2.1, Nat.le_refl _, rfl⟩)
noncomputable def FL_span (n : Nat) (a0 : Nat) (x1 : Int32) (x2 : Int32) (a3 : Nat) (h : jH) : Option (Int32 × jH) :=
  (jcv 9 h a0 (F_X11_span n a0 x1 x2 h)).bind fun q => match q.1 with
  | .inl v => (jasl q.2 a3 0 v.toInt64).bind fun h2 => some ((0 : Int32), h2)
  | .inr k => if k = 0 then some ((1 : Int32), q.2) else none
set_option maxHeartbeats 400000 in
theorem CL_span {G : jG} {l : Launch} (hst : l.stackTraces = false) (d : Nat) {n : Nat} {a0 : Nat} {x1 : Int32} {x2 : Int32} {a3 : Nat} {h : jH} {res : Int32 × jH} (hf : FL_span n a0 x1 x2 a3 h = some res) : jC G l mL_span (d + 8) 1 6 [.ref a0, .int x1, .int x2, .ref a3] h (jPL res) :=
  jC.of (by decide +kernel) (jcats rfl) (Nat.le_of_ble_eq_true rfl) (fun X K E => by
  unfold FL_span at hf
  obtain ⟨q, e, hf⟩ := jbind hf
  obtain ⟨rc, e⟩ := jcv_o e
  show jJ G X h 1 6 0 [some (.ref a0), some (.int x1), some (.int x2), some (.ref a3), none] []
  refine jr_aload_n K (D_at DL_span_q0 0 rfl) rfl rfl ?_
  refine jr_iconst K (D_at DL_span_q0 1 rfl) (v := (0 : Int32)) (by decide) ?_
  refine jr_aload_n K (D_at DL_span_q0 2 rfl) rfl rfl ?_
  refine jr_iload_n K (D_at DL_span_q0 3 rfl) rfl rfl ?_
  refine jr_iload_n K (D_at DL_span_q0 4 rfl) rfl rfl ?_
  refine jr_callVx K (C_X11_span hst (d) e) (D_at DL_span_q0 5 rfl) cv_L_102_X11_span (As := [.int x1, .int x2]) (ci := 9) rfl rc rfl rfl (by exact Nat.le_of_ble_eq_true rfl) (kc2 := 0) (ks2 := 0) rfl rfl (fun k9 z9 h9 w9 hz9 => ?_) (fun r9 h9 w9 => ?_)
  · obtain ⟨w1, w2⟩ := w9
    subst h9
    rw [← w1] at hf
    dsimp only at hf
    by_cases c0 : k9 = 0
    · subst c0
      replace hf := (if_pos rfl).symm.trans hf
      cases hf
      refine jr_catch K (E := "java/lang/IllegalArgumentException") (nm := "java/lang/IllegalArgumentException") [] ⟨0, 10, 13, 13⟩ [] rfl (fun z hz => by cases hz) rfl (by decide) (jw_3_12 6 rfl rfl) (jn_4_8 13 rfl rfl) rfl (fun q9 => ?_)
      refine jr_astore K (D_at DL_span_q0 9 rfl) (i := 4) (by decide) (L2 := [_, _, _, _, _]) rfl ?_
      refine jr_iconst K (D_at DL_span_q0 10 rfl) (v := (1 : Int32)) (by decide) ?_
      exact jr_iret K E (D_at DL_span_q0 11 rfl) rfl ⟨rfl, z9, hz9, rfl⟩
    replace hf := (if_neg c0).symm.trans hf
    exact jno hf
  obtain ⟨w1, w2⟩ := w9
  subst h9
  rw [← w1] at hf
  dsimp only at hf
  obtain ⟨h2, e2, hf⟩ := jbind hf
  cases hf
  show jJ G X _ 0 0 _ _ (.int r9 :: _)
  refine jr_i2l K (D_at DL_span_q0 6 rfl) (v := r9.toInt64) rfl ?_
  refine jr_last K (D_at DL_span_q0 7 rfl) e2 ?_
  refine jr_goto K (D_at DL_span_q0 8 rfl) (tgt := 17) (by decide) ?_
  refine jr_iconst K (D_at DL_span_q1 0 rfl) (v := (0 : Int32)) (by decide) ?_
  exact jr_iret K E (D_at DL_span_q1 1 rfl) rfl ⟨rfl, h2.1, Nat.le_refl _, rfl⟩)
noncomputable def FL_led (n : Nat) (a0 : Nat) (x1 : Int32) (x2 : Int32) (a3 : Nat) (h : jH) : Option (Int32 × jH) :=
  (jcv 9 h a0 (F_X11_led n a0 x1 x2 h)).bind fun q => match q.1 with
  | .inl v => (jasl q.2 a3 0 v.toInt64).bind fun h2 => some ((0 : Int32), h2)
  | .inr k => if k = 2 then some ((1 : Int32), q.2) else none
set_option maxHeartbeats 400000 in
theorem CL_led {G : jG} {l : Launch} (hst : l.stackTraces = false) (d : Nat) {n : Nat} {a0 : Nat} {x1 : Int32} {x2 : Int32} {a3 : Nat} {h : jH} {res : Int32 × jH} (hf : FL_led n a0 x1 x2 a3 h = some res) : jC G l mL_led (d + 8) 1 6 [.ref a0, .int x1, .int x2, .ref a3] h (jPL res) :=
  jC.of (by decide +kernel) (jcats rfl) (Nat.le_of_ble_eq_true rfl) (fun X K E => by
  unfold FL_led at hf
  obtain ⟨q, e, hf⟩ := jbind hf
  obtain ⟨rc, e⟩ := jcv_o e
  show jJ G X h 1 6 0 [some (.ref a0), some (.int x1), some (.int x2), some (.ref a3), none] []
  refine jr_aload_n K (D_at DL_led_q0 0 rfl) rfl rfl ?_
  refine jr_iconst K (D_at DL_led_q0 1 rfl) (v := (0 : Int32)) (by decide) ?_
  refine jr_aload_n K (D_at DL_led_q0 2 rfl) rfl rfl ?_
  refine jr_iload_n K (D_at DL_led_q0 3 rfl) rfl rfl ?_
  refine jr_iload_n K (D_at DL_led_q0 4 rfl) rfl rfl ?_
  refine jr_callVx K (C_X11_led hst (d) e) (D_at DL_led_q0 5 rfl) cv_L_105_X11_led (As := [.int x1, .int x2]) (ci := 9) rfl rc rfl rfl (by exact Nat.le_of_ble_eq_true rfl) (kc2 := 0) (ks2 := 0) rfl rfl (fun k9 z9 h9 w9 hz9 => ?_) (fun r9 h9 w9 => ?_)
  · obtain ⟨w1, w2⟩ := w9
    subst h9
    rw [← w1] at hf
    dsimp only at hf
    by_cases c0 : k9 = 2
    · subst c0
      replace hf := (if_pos rfl).symm.trans hf
      cases hf
      refine jr_catch K (E := "java/lang/IndexOutOfBoundsException") (nm := "java/lang/IndexOutOfBoundsException") [] ⟨0, 10, 13, 24⟩ [] rfl (fun z hz => by cases hz) rfl (by decide) (jw_5_0 1 rfl rfl) (jn_5_0 13 rfl rfl) rfl (fun q9 => ?_)
      refine jr_astore K (D_at DL_led_q0 9 rfl) (i := 4) (by decide) (L2 := [_, _, _, _, _]) rfl ?_
      refine jr_iconst K (D_at DL_led_q0 10 rfl) (v := (1 : Int32)) (by decide) ?_
      exact jr_iret K E (D_at DL_led_q0 11 rfl) rfl ⟨rfl, z9, hz9, rfl⟩
    replace hf := (if_neg c0).symm.trans hf
    exact jno hf
  obtain ⟨w1, w2⟩ := w9
  subst h9
  rw [← w1] at hf
  dsimp only at hf
  obtain ⟨h2, e2, hf⟩ := jbind hf
  cases hf
  show jJ G X _ 0 0 _ _ (.int r9 :: _)
  refine jr_i2l K (D_at DL_led_q0 6 rfl) (v := r9.toInt64) rfl ?_
  refine jr_last K (D_at DL_led_q0 7 rfl) e2 ?_
  refine jr_goto K (D_at DL_led_q0 8 rfl) (tgt := 17) (by decide) ?_
  refine jr_iconst K (D_at DL_led_q1 0 rfl) (v := (0 : Int32)) (by decide) ?_
  exact jr_iret K E (D_at DL_led_q1 1 rfl) rfl ⟨rfl, h2.1, Nat.le_refl _, rfl⟩)
noncomputable def FL_log (n : Nat) (a0 : Nat) (x1 : Int32) (x2 : Int32) (a3 : Nat) (h : jH) : Option (Int32 × jH) :=
  (jcv 9 h a0 (F_X11_log n a0 x1 x2 h)).bind fun q => match q.1 with
  | .inl v => (jasl q.2 a3 0 v.toInt64).bind fun h2 => some ((0 : Int32), h2)
  | .inr k => if k = 4 then some ((1 : Int32), q.2) else none
set_option maxHeartbeats 400000 in
theorem CL_log {G : jG} {l : Launch} (hst : l.stackTraces = false) (d : Nat) {n : Nat} {a0 : Nat} {x1 : Int32} {x2 : Int32} {a3 : Nat} {h : jH} {res : Int32 × jH} (hf : FL_log n a0 x1 x2 a3 h = some res) : jC G l mL_log (d + 7) 1 6 [.ref a0, .int x1, .int x2, .ref a3] h (jPL res) :=
  jC.of (by decide +kernel) (jcats rfl) (Nat.le_of_ble_eq_true rfl) (fun X K E => by
  unfold FL_log at hf
  obtain ⟨q, e, hf⟩ := jbind hf
  obtain ⟨rc, e⟩ := jcv_o e
  show jJ G X h 1 6 0 [some (.ref a0), some (.int x1), some (.int x2), some (.ref a3), none] []
  refine jr_aload_n K (D_at DL_log_q0 0 rfl) rfl rfl ?_
  refine jr_iconst K (D_at DL_log_q0 1 rfl) (v := (0 : Int32)) (by decide) ?_
  refine jr_aload_n K (D_at DL_log_q0 2 rfl) rfl rfl ?_
  refine jr_iload_n K (D_at DL_log_q0 3 rfl) rfl rfl ?_
  refine jr_iload_n K (D_at DL_log_q0 4 rfl) rfl rfl ?_
  refine jr_callVx K (C_X11_log hst (d) e) (D_at DL_log_q0 5 rfl) cv_L_108_X11_log (As := [.int x1, .int x2]) (ci := 9) rfl rc rfl rfl (by exact Nat.le_of_ble_eq_true rfl) (kc2 := 0) (ks2 := 0) rfl rfl (fun k9 z9 h9 w9 hz9 => ?_) (fun r9 h9 w9 => ?_)
  · obtain ⟨w1, w2⟩ := w9
    subst h9
    rw [← w1] at hf
    dsimp only at hf
    by_cases c0 : k9 = 4
    · subst c0
      replace hf := (if_pos rfl).symm.trans hf
      cases hf
      refine jr_catch K (E := "java/util/NoSuchElementException") (nm := "java/util/NoSuchElementException") [] ⟨0, 10, 13, 26⟩ [] rfl (fun z hz => by cases hz) rfl (by decide) (jw_5_0 2 rfl rfl) (jn_5_2 10 rfl rfl) rfl (fun q9 => ?_)
      refine jr_astore K (D_at DL_log_q0 9 rfl) (i := 4) (by decide) (L2 := [_, _, _, _, _]) rfl ?_
      refine jr_iconst K (D_at DL_log_q0 10 rfl) (v := (1 : Int32)) (by decide) ?_
      exact jr_iret K E (D_at DL_log_q0 11 rfl) rfl ⟨rfl, z9, hz9, rfl⟩
    replace hf := (if_neg c0).symm.trans hf
    exact jno hf
  obtain ⟨w1, w2⟩ := w9
  subst h9
  rw [← w1] at hf
  dsimp only at hf
  obtain ⟨h2, e2, hf⟩ := jbind hf
  cases hf
  show jJ G X _ 0 0 _ _ (.int r9 :: _)
  refine jr_i2l K (D_at DL_log_q0 6 rfl) (v := r9.toInt64) rfl ?_
  refine jr_last K (D_at DL_log_q0 7 rfl) e2 ?_
  refine jr_goto K (D_at DL_log_q0 8 rfl) (tgt := 17) (by decide) ?_
  refine jr_iconst K (D_at DL_log_q1 0 rfl) (v := (0 : Int32)) (by decide) ?_
  exact jr_iret K E (D_at DL_log_q1 1 rfl) rfl ⟨rfl, h2.1, Nat.le_refl _, rfl⟩)
