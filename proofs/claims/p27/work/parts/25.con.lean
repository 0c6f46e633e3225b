section
set_option maxHeartbeats 400000 in
set_option maxRecDepth 100000 in
theorem J_X11_lit {G : jG} {l : Launch} (hst : l.stackTraces = false) {d : Nat} {X : jX} {res : (jR × jH)} (K : jOK G l mX11_lit (d + 6) X) (n : Nat) (E : jEnd G mX11_lit (jPX res) X) (a0 : Nat) (x1 : Int32) (h : jH) (hf : F_X11_lit n a0 x1 h = some res) : jJ G X h 1 6 0 [some (.ref a0), some (.int x1)] [] := by
  unfold F_X11_lit at hf
  refine jr_iload_n K (D_at DX11_lit_q0 0 rfl) rfl rfl ?_
  refine jr_if_lt K (D_at DX11_lit_q0 1 rfl) (tgt := 10) (by decide) (fun c1 => ?_) (fun c1 => ?_)
  · replace hf := (if_pos c1).symm.trans hf
    cases hf
    exact jr_throwW (dep := d + 0) hst K E (D_at DX11_lit_q0 5 rfl) (D_at DX11_lit_q0 6 rfl) (D_at DX11_lit_q0 7 rfl) (D_at DX11_lit_q0 8 rfl) (D_at DX11_lit_q0 9 rfl) th_X11_2 (i := 11) rfl rfl (k := 2) rfl (by exact Nat.le_of_ble_eq_true rfl) (by decide) (by decide) ⟨rfl, rfl⟩
  · replace hf := (if_neg c1).symm.trans hf
    refine jr_iload_n K (D_at DX11_lit_q0 2 rfl) rfl rfl ?_
    refine jr_bipush K (D_at DX11_lit_q0 3 rfl) (v := (8 : Int32)) (by decide) ?_
    refine jr_icmp_lt K (D_at DX11_lit_q0 4 rfl) (tgt := 21) (by decide) (fun c7 => ?_) (fun c7 => ?_)
    · replace hf := (if_pos c7).symm.trans hf
      refine jr_aload_n K (D_at DX11_lit_q0 10 rfl) rfl rfl ?_
      obtain ⟨p22, e22, hf⟩ := jbind hf
      refine jr_getR K (D_at DX11_lit_q0 11 rfl) fg_X11_19_9 e22 ?_
      refine jr_iload_n K (D_at DX11_lit_q1 0 rfl) rfl rfl ?_
      obtain ⟨v26, e26, hf⟩ := jbind hf
      refine jr_callS K (C_X6_litRings (d + 4) e26) (D_at DX11_lit_q1 1 rfl) cs_X11_295_X6_litRings (As := [.ref p22, .int x1]) rfl rfl (by exact Nat.le_of_ble_eq_true rfl) (kc2 := 1) (ks2 := 6) rfl rfl (fun k9 h9 w9 => by cases w9.1) (fun r9 h9 w9 => ?_)
      obtain ⟨w1, w2⟩ := w9
      subst h9
      cases w1
      show jJ G X _ 1 6 _ _ (.int v26 :: _)
      cases hf
      exact jr_iret K E (D_at DX11_lit_q1 2 rfl) rfl ⟨rfl, rfl⟩
    · replace hf := (if_neg c7).symm.trans hf
      cases hf
      exact jr_throwW (dep := d + 0) hst K E (D_at DX11_lit_q0 5 rfl) (D_at DX11_lit_q0 6 rfl) (D_at DX11_lit_q0 7 rfl) (D_at DX11_lit_q0 8 rfl) (D_at DX11_lit_q0 9 rfl) th_X11_2 (i := 11) rfl rfl (k := 2) rfl (by exact Nat.le_of_ble_eq_true rfl) (by decide) (by decide) ⟨rfl, rfl⟩
theorem C_X11_lit {G : jG} {l : Launch} (hst : l.stackTraces = false) (d : Nat) {n : Nat} {a0 : Nat} {x1 : Int32} {h : jH} {res : (jR × jH)} (hf : F_X11_lit n a0 x1 h = some res) : jC G l mX11_lit (d + 6) 1 6 [.ref a0, .int x1] h (jPX res) :=
  jC.of pn_X11 (jcats rfl) (Nat.le_of_ble_eq_true rfl) (fun X K E => J_X11_lit hst K n E a0 x1 h hf)
set_option maxHeartbeats 400000 in
set_option maxRecDepth 100000 in
theorem J_X11_sunny {G : jG} {l : Launch} {d : Nat} {X : jX} {res : Int32} (K : jOK G l mX11_sunny (d + 3) X) (n : Nat) (h : jH) (E : jEnd G mX11_sunny (jPR h res) X) (a0 : Nat) (hf : F_X11_sunny n a0 h = some res) : jJ G X h 0 0 0 [some (.ref a0)] [] := by
  unfold F_X11_sunny at hf
  refine jr_aload_n K (D_at DX11_sunny_q0 0 rfl) rfl rfl ?_
  obtain ⟨p1, e1, hf⟩ := jbind hf
  refine jr_getR K (D_at DX11_sunny_q0 1 rfl) fg_X11_19_9 e1 ?_
  obtain ⟨v4, e4, hf⟩ := jbind hf
  refine jr_callS K (C_X6_sunniest (d) e4) (D_at DX11_sunny_q0 2 rfl) cs_X11_298_X6_sunniest (As := [.ref p1]) rfl rfl (by exact Nat.le_of_ble_eq_true rfl) (kc2 := 0) (ks2 := 0) rfl rfl (fun k9 h9 w9 => by cases w9.1) (fun r9 h9 w9 => ?_)
  obtain ⟨w1, w2⟩ := w9
  subst h9
  cases w1
  show jJ G X _ 0 0 _ _ (.int v4 :: _)
  cases hf
  exact jr_iret K E (D_at DX11_sunny_q0 3 rfl) rfl ⟨rfl, rfl⟩
theorem C_X11_sunny {G : jG} {l : Launch} (d : Nat) {n : Nat} {a0 : Nat} {h : jH} {res : Int32} (hf : F_X11_sunny n a0 h = some res) : jC G l mX11_sunny (d + 3) 0 0 [.ref a0] h (jPR h res) :=
  jC.of pn_X11 (jcats rfl) (Nat.le_of_ble_eq_true rfl) (fun X K E => J_X11_sunny K n h E a0 hf)
set_option maxHeartbeats 400000 in
set_option maxRecDepth 100000 in
theorem J_X11_faded {G : jG} {l : Launch} (hst : l.stackTraces = false) {d : Nat} {X : jX} {res : (jR × jH)} (K : jOK G l mX11_faded (d + 7) X) (n : Nat) (E : jEnd G mX11_faded (jPX res) X) (a0 : Nat) (x1 : Int32) (h : jH) (hf : F_X11_faded n a0 x1 h = some res) : jJ G X h 1 6 0 [some (.ref a0), some (.int x1)] [] := by
  unfold F_X11_faded at hf
  refine jr_aload_n K (D_at DX11_faded_q0 0 rfl) rfl rfl ?_
  refine jr_iload_n K (D_at DX11_faded_q0 1 rfl) rfl rfl ?_
  refine jr_iconst K (D_at DX11_faded_q0 2 rfl) (v := (0 : Int32)) (by decide) ?_
  refine jr_bipush K (D_at DX11_faded_q0 3 rfl) (v := (80 : Int32)) (by decide) ?_
  obtain ⟨q5, e5, hf⟩ := jbind hf
  obtain ⟨rc_5, e5⟩ := jcv_o e5
  refine jr_callVx K (C_X11_requireNumber hst (d) e5) (D_at DX11_faded_q0 4 rfl) cv_X11_180_X11_requireNumber (As := [.int x1, .int (0 : Int32), .int (80 : Int32)])  (ci := 9) rfl rc_5 rfl rfl (by exact Nat.le_of_ble_eq_true rfl) (kc2 := 0) (ks2 := 0) rfl rfl (fun k9 z9 h9 w9 hz9 => ?_) (fun r9 h9 w9 => ?_)
  · obtain ⟨w1, rfl⟩ := w9
    have hf := (jthen_r w1.symm).symm.trans hf
    cases hf
    exact jr_out K E rfl hz9 ⟨rfl, rfl⟩
  obtain ⟨w1, rfl⟩ := w9
  obtain ⟨r5, w2⟩ : ∃ z, z = r9 := ⟨_, rfl⟩
  subst w2
  replace hf := (jthen_l w1.symm).symm.trans hf
  obtain ⟨h5, w3⟩ : ∃ z, z = q5.2 := ⟨_, rfl⟩
  rw [← w3] at hf ⊢
  show jJ G X h5 0 0 _ _ []
  refine jr_aload_n K (D_at DX11_faded_q0 5 rfl) rfl rfl ?_
  obtain ⟨p9, e9, hf⟩ := jbind hf
  refine jr_getR K (D_at DX11_faded_q0 6 rfl) fg_X11_66_9 e9 ?_
  refine jr_aload_n K (D_at DX11_faded_q0 7 rfl) rfl rfl ?_
  obtain ⟨p13, e13, hf⟩ := jbind hf
  refine jr_getR K (D_at DX11_faded_q0 8 rfl) fg_X11_19_9 e13 ?_
  refine jr_iload_n K (D_at DX11_faded_q0 9 rfl) rfl rfl ?_
  obtain ⟨h17, e17, hf⟩ := jbind hf
  obtain ⟨rc_17, e17⟩ := jcv_o e17
  refine jr_callV K (C_X1_goAhead (d + 1) e17) (D_at DX11_faded_q0 10 rfl) cv_X11_301_X1_goAhead (As := [.ref p13, .int x1]) (ci := 1) rfl rc_17 rfl rfl (by exact Nat.le_of_ble_eq_true rfl) (kc2 := 0) (ks2 := 0) rfl rfl (fun k9 h9 w9 => by cases w9.1) (fun r9 h9 w9 => ?_)
  obtain ⟨w1, w2⟩ := w9
  subst h9
  cases w1
  show jJ G X _ 0 0 _ _ []
  refine jr_aload_n K (D_at DX11_faded_q0 11 rfl) rfl rfl ?_
  obtain ⟨p21, e21, hf⟩ := jbind hf
  refine jr_getR K (D_at DX11_faded_q1 0 rfl) fg_X11_37_9 e21 ?_
  obtain ⟨v24, e24, hf⟩ := jbind hf
  obtain ⟨rc_24, e24⟩ := jcv_o e24
  refine jr_callV K (C_X8_allFades (d + 6) e24) (D_at DX11_faded_q1 1 rfl) cv_X11_304_X8_allFades (As := []) (ci := 6) rfl rc_24 rfl rfl (by exact Nat.le_of_ble_eq_true rfl) (kc2 := 0) (ks2 := 0) rfl rfl (fun k9 h9 w9 => by cases w9.1) (fun r9 h9 w9 => ?_)
  obtain ⟨w1, w2⟩ := w9
  subst h9
  cases w1
  show jJ G X _ 0 0 _ _ (.int v24 :: _)
  cases hf
  exact jr_iret K E (D_at DX11_faded_q1 2 rfl) rfl ⟨rfl, rfl⟩
theorem C_X11_faded {G : jG} {l : Launch} (hst : l.stackTraces = false) (d : Nat) {n : Nat} {a0 : Nat} {x1 : Int32} {h : jH} {res : (jR × jH)} (hf : F_X11_faded n a0 x1 h = some res) : jC G l mX11_faded (d + 7) 1 6 [.ref a0, .int x1] h (jPX res) :=
  jC.of pn_X11 (jcats rfl) (Nat.le_of_ble_eq_true rfl) (fun X K E => J_X11_faded hst K n E a0 x1 h hf)
set_option maxHeartbeats 400000 in
set_option maxRecDepth 100000 in
theorem J_X11_pale {G : jG} {l : Launch} {d : Nat} {X : jX} {res : (Int32 × jH)} (K : jOK G l mX11_pale (d + 6) X) (n : Nat) (E : jEnd G mX11_pale (jPW res) X) (a0 : Nat) (h : jH) (hf : F_X11_pale n a0 h = some res) : jJ G X h 0 0 0 [some (.ref a0)] [] := by
  unfold F_X11_pale at hf
  refine jr_aload_n K (D_at DX11_pale_q0 0 rfl) rfl rfl ?_
  obtain ⟨p1, e1, hf⟩ := jbind hf
  refine jr_getR K (D_at DX11_pale_q0 1 rfl) fg_X11_66_9 e1 ?_
  refine jr_aload_n K (D_at DX11_pale_q0 2 rfl) rfl rfl ?_
  obtain ⟨p5, e5, hf⟩ := jbind hf
  refine jr_getR K (D_at DX11_pale_q0 3 rfl) fg_X11_19_9 e5 ?_
  obtain ⟨q8, e8, hf⟩ := jbind hf
  obtain ⟨rc_8, e8⟩ := jcv_o e8
  refine jr_callV K (C_X1_firstPale (d) e8) (D_at DX11_pale_q0 4 rfl) cv_X11_307_X1_firstPale (As := [.ref p5]) (ci := 1) rfl rc_8 rfl rfl (by exact Nat.le_of_ble_eq_true rfl) (kc2 := 0) (ks2 := 0) rfl rfl (fun k9 h9 w9 => by cases w9.1) (fun r9 h9 w9 => ?_)
  obtain ⟨w1, w2⟩ := w9
  subst h9
  cases w1
  show jJ G X _ 0 0 _ _ (.int q8.1 :: _)
  cases hf
  exact jr_iret K E (D_at DX11_pale_q0 5 rfl) rfl ⟨rfl, rfl⟩
theorem C_X11_pale {G : jG} {l : Launch} (d : Nat) {n : Nat} {a0 : Nat} {h : jH} {res : (Int32 × jH)} (hf : F_X11_pale n a0 h = some res) : jC G l mX11_pale (d + 6) 0 0 [.ref a0] h (jPW res) :=
  jC.of pn_X11 (jcats rfl) (Nat.le_of_ble_eq_true rfl) (fun X K E => J_X11_pale K n E a0 h hf)
set_option maxHeartbeats 400000 in
set_option maxRecDepth 100000 in
theorem J_X11_lets {G : jG} {l : Launch} (hst : l.stackTraces = false) {d : Nat} {X : jX} {res : (jR × jH)} (K : jOK G l mX11_lets (d + 7) X) (n : Nat) (E : jEnd G mX11_lets (jPX res) X) (a0 : Nat) (x1 : Int32) (x2 : Int32) (h : jH) (hf : F_X11_lets n a0 x1 x2 h = some res) : jJ G X h 2 12 0 [some (.ref a0), some (.int x1), some (.int x2)] [] := by
  unfold F_X11_lets at hf
  refine jr_aload_n K (D_at DX11_lets_q0 0 rfl) rfl rfl ?_
  refine jr_iload_n K (D_at DX11_lets_q0 1 rfl) rfl rfl ?_
  obtain ⟨q2, e2, hf⟩ := jbind hf
  obtain ⟨rc_2, e2⟩ := jcv_o e2
  refine jr_callVx K (C_X11_requireRing hst (d) e2) (D_at DX11_lets_q0 2 rfl) cv_X11_128_X11_requireRing (As := [.int x1])  (ci := 9) rfl rc_2 rfl rfl (by exact Nat.le_of_ble_eq_true rfl) (kc2 := 1) (ks2 := 6) rfl rfl (fun k9 z9 h9 w9 hz9 => ?_) (fun r9 h9 w9 => ?_)
  · obtain ⟨w1, rfl⟩ := w9
    have hf := (jthen_r w1.symm).symm.trans hf
    cases hf
    exact jr_out K E rfl hz9 ⟨rfl, rfl⟩
  obtain ⟨w1, rfl⟩ := w9
  obtain ⟨r2, w2⟩ : ∃ z, z = r9 := ⟨_, rfl⟩
  subst w2
  replace hf := (jthen_l w1.symm).symm.trans hf
  obtain ⟨h2, w3⟩ : ∃ z, z = q2.2 := ⟨_, rfl⟩
  rw [← w3] at hf ⊢
  show jJ G X h2 1 6 _ _ []
  refine jr_aload_n K (D_at DX11_lets_q0 3 rfl) rfl rfl ?_
  refine jr_iload_n K (D_at DX11_lets_q0 4 rfl) rfl rfl ?_
  refine jr_iconst K (D_at DX11_lets_q0 5 rfl) (v := (0 : Int32)) (by decide) ?_
  refine jr_bipush K (D_at DX11_lets_q0 6 rfl) (v := (9 : Int32)) (by decide) ?_
  obtain ⟨q10, e10, hf⟩ := jbind hf
  obtain ⟨rc_10, e10⟩ := jcv_o e10
  refine jr_callVx K (C_X11_requireNumber hst (d) e10) (D_at DX11_lets_q0 7 rfl) cv_X11_180_X11_requireNumber (As := [.int x2, .int (0 : Int32), .int (9 : Int32)])  (ci := 9) rfl rc_10 rfl rfl (by exact Nat.le_of_ble_eq_true rfl) (kc2 := 0) (ks2 := 0) rfl rfl (fun k9 z9 h9 w9 hz9 => ?_) (fun r9 h9 w9 => ?_)
  · obtain ⟨w1, rfl⟩ := w9
    have hf := (jthen_r w1.symm).symm.trans hf
    cases hf
    exact jr_out K E rfl hz9 ⟨rfl, rfl⟩
  obtain ⟨w1, rfl⟩ := w9
  obtain ⟨r10, w2⟩ : ∃ z, z = r9 := ⟨_, rfl⟩
  subst w2
  replace hf := (jthen_l w1.symm).symm.trans hf
  obtain ⟨h10, w3⟩ : ∃ z, z = q10.2 := ⟨_, rfl⟩
  rw [← w3] at hf ⊢
  show jJ G X h10 0 0 _ _ []
  refine jr_aload_n K (D_at DX11_lets_q0 8 rfl) rfl rfl ?_
  obtain ⟨p14, e14, hf⟩ := jbind hf
  refine jr_getR K (D_at DX11_lets_q0 9 rfl) fg_X11_19_9 e14 ?_
  refine jr_iload_n K (D_at DX11_lets_q0 10 rfl) rfl rfl ?_
  refine jr_iload_n K (D_at DX11_lets_q0 11 rfl) rfl rfl ?_
  obtain ⟨v19, e19, hf⟩ := jbind hf
  refine jr_callS K (C_X6_evenLength (d + 6) e19) (D_at DX11_lets_q1 0 rfl) cs_X11_310_X6_evenLength (As := [.ref p14, .int x1, .int x2]) rfl rfl (by exact Nat.le_of_ble_eq_true rfl) (kc2 := 0) (ks2 := 0) rfl rfl (fun k9 h9 w9 => by cases w9.1) (fun r9 h9 w9 => ?_)
  obtain ⟨w1, w2⟩ := w9
  subst h9
  cases w1
  show jJ G X _ 0 0 _ _ (.int v19 :: _)
  cases hf
  exact jr_iret K E (D_at DX11_lets_q1 1 rfl) rfl ⟨rfl, rfl⟩
theorem C_X11_lets {G : jG} {l : Launch} (hst : l.stackTraces = false) (d : Nat) {n : Nat} {a0 : Nat} {x1 : Int32} {x2 : Int32} {h : jH} {res : (jR × jH)} (hf : F_X11_lets n a0 x1 x2 h = some res) : jC G l mX11_lets (d + 7) 2 12 [.ref a0, .int x1, .int x2] h (jPX res) :=
  jC.of pn_X11 (jcats rfl) (Nat.le_of_ble_eq_true rfl) (fun X K E => J_X11_lets hst K n E a0 x1 x2 h hf)
set_option maxHeartbeats 400000 in
set_option maxRecDepth 100000 in
theorem J_X11_envy {G : jG} {l : Launch} {d : Nat} {X : jX} {res : Int32} (K : jOK G l mX11_envy (d + 2) X) (n : Nat) (h : jH) (E : jEnd G mX11_envy (jPR h res) X) (a0 : Nat) (hf : F_X11_envy n a0 h = some res) : jJ G X h 0 0 0 [some (.ref a0)] [] := by
  unfold F_X11_envy at hf
  refine jr_aload_n K (D_at DX11_envy_q0 0 rfl) rfl rfl ?_
  obtain ⟨p1, e1, hf⟩ := jbind hf
  refine jr_getR K (D_at DX11_envy_q0 1 rfl) fg_X11_19_9 e1 ?_
  obtain ⟨v4, e4, hf⟩ := jbind hf
  refine jr_callS K (C_X6_enviousPairs (d) e4) (D_at DX11_envy_q0 2 rfl) cs_X11_314_X6_enviousPairs (As := [.ref p1]) rfl rfl (by exact Nat.le_of_ble_eq_true rfl) (kc2 := 0) (ks2 := 0) rfl rfl (fun k9 h9 w9 => by cases w9.1) (fun r9 h9 w9 => ?_)
  obtain ⟨w1, w2⟩ := w9
  subst h9
  cases w1
  show jJ G X _ 0 0 _ _ (.int v4 :: _)
  cases hf
  exact jr_iret K E (D_at DX11_envy_q0 3 rfl) rfl ⟨rfl, rfl⟩
theorem C_X11_envy {G : jG} {l : Launch} (d : Nat) {n : Nat} {a0 : Nat} {h : jH} {res : Int32} (hf : F_X11_envy n a0 h = some res) : jC G l mX11_envy (d + 2) 0 0 [.ref a0] h (jPR h res) :=
  jC.of pn_X11 (jcats rfl) (Nat.le_of_ble_eq_true rfl) (fun X K E => J_X11_envy K n h E a0 hf)
set_option maxHeartbeats 400000 in
set_option maxRecDepth 100000 in
theorem J_X11_rests {G : jG} {l : Launch} (hst : l.stackTraces = false) {d : Nat} {X : jX} {res : (jR × jH)} (K : jOK G l mX11_rests (d + 7) X) (n : Nat) (E : jEnd G mX11_rests (jPX res) X) (a0 : Nat) (x1 : Int32) (h : jH) (hf : F_X11_rests n a0 x1 h = some res) : jJ G X h 1 6 0 [some (.ref a0), some (.int x1)] [] := by
  unfold F_X11_rests at hf
  refine jr_aload_n K (D_at DX11_rests_q0 0 rfl) rfl rfl ?_
  refine jr_iload_n K (D_at DX11_rests_q0 1 rfl) rfl rfl ?_
  obtain ⟨q2, e2, hf⟩ := jbind hf
  obtain ⟨rc_2, e2⟩ := jcv_o e2
  refine jr_callVx K (C_X11_requireRing hst (d) e2) (D_at DX11_rests_q0 2 rfl) cv_X11_128_X11_requireRing (As := [.int x1])  (ci := 9) rfl rc_2 rfl rfl (by exact Nat.le_of_ble_eq_true rfl) (kc2 := 0) (ks2 := 0) rfl rfl (fun k9 z9 h9 w9 hz9 => ?_) (fun r9 h9 w9 => ?_)
  · obtain ⟨w1, rfl⟩ := w9
    have hf := (jthen_r w1.symm).symm.trans hf
    cases hf
    exact jr_out K E rfl hz9 ⟨rfl, rfl⟩
  obtain ⟨w1, rfl⟩ := w9
  obtain ⟨r2, w2⟩ : ∃ z, z = r9 := ⟨_, rfl⟩
  subst w2
  replace hf := (jthen_l w1.symm).symm.trans hf
  obtain ⟨h2, w3⟩ : ∃ z, z = q2.2 := ⟨_, rfl⟩
  rw [← w3] at hf ⊢
  show jJ G X h2 0 0 _ _ []
  refine jr_aload_n K (D_at DX11_rests_q0 3 rfl) rfl rfl ?_
  obtain ⟨p6, e6, hf⟩ := jbind hf
  refine jr_getR K (D_at DX11_rests_q0 4 rfl) fg_X11_19_9 e6 ?_
  refine jr_iload_n K (D_at DX11_rests_q0 5 rfl) rfl rfl ?_
  obtain ⟨v10, e10, hf⟩ := jbind hf
  refine jr_callS K (C_X6_restingChoices (d + 4) e10) (D_at DX11_rests_q0 6 rfl) cs_X11_317_X6_restingChoices (As := [.ref p6, .int x1]) rfl rfl (by exact Nat.le_of_ble_eq_true rfl) (kc2 := 0) (ks2 := 0) rfl rfl (fun k9 h9 w9 => by cases w9.1) (fun r9 h9 w9 => ?_)
  obtain ⟨w1, w2⟩ := w9
  subst h9
  cases w1
  show jJ G X _ 0 0 _ _ (.int v10 :: _)
  cases hf
  exact jr_iret K E (D_at DX11_rests_q0 7 rfl) rfl ⟨rfl, rfl⟩
theorem C_X11_rests {G : jG} {l : Launch} (hst : l.stackTraces = false) (d : Nat) {n : Nat} {a0 : Nat} {x1 : Int32} {h : jH} {res : (jR × jH)} (hf : F_X11_rests n a0 x1 h = some res) : jC G l mX11_rests (d + 7) 1 6 [.ref a0, .int x1] h (jPX res) :=
  jC.of pn_X11 (jcats rfl) (Nat.le_of_ble_eq_true rfl) (fun X K E => J_X11_rests hst K n E a0 x1 h hf)
set_option maxHeartbeats 400000 in
set_option maxRecDepth 100000 in
theorem J_X11_bunch {G : jG} {l : Launch} {d : Nat} {X : jX} {res : Int32} (K : jOK G l mX11_bunch (d + 2) X) (n : Nat) (h : jH) (E : jEnd G mX11_bunch (jPR h res) X) (a0 : Nat) (hf : F_X11_bunch n a0 h = some res) : jJ G X h 0 0 0 [some (.ref a0)] [] := by
  unfold F_X11_bunch at hf
  refine jr_aload_n K (D_at DX11_bunch_q0 0 rfl) rfl rfl ?_
  obtain ⟨p1, e1, hf⟩ := jbind hf
  refine jr_getR K (D_at DX11_bunch_q0 1 rfl) fg_X11_19_9 e1 ?_
  obtain ⟨v4, e4, hf⟩ := jbind hf
  refine jr_callS K (C_X6_largestBunch (d) e4) (D_at DX11_bunch_q0 2 rfl) cs_X11_320_X6_largestBunch (As := [.ref p1]) rfl rfl (by exact Nat.le_of_ble_eq_true rfl) (kc2 := 0) (ks2 := 0) rfl rfl (fun k9 h9 w9 => by cases w9.1) (fun r9 h9 w9 => ?_)
  obtain ⟨w1, w2⟩ := w9
  subst h9
  cases w1
  show jJ G X _ 0 0 _ _ (.int v4 :: _)
  cases hf
  exact jr_iret K E (D_at DX11_bunch_q0 3 rfl) rfl ⟨rfl, rfl⟩
theorem C_X11_bunch {G : jG} {l : Launch} (d : Nat) {n : Nat} {a0 : Nat} {h : jH} {res : Int32} (hf : F_X11_bunch n a0 h = some res) : jC G l mX11_bunch (d + 2) 0 0 [.ref a0] h (jPR h res) :=
  jC.of pn_X11 (jcats rfl) (Nat.le_of_ble_eq_true rfl) (fun X K E => J_X11_bunch K n h E a0 hf)
set_option maxHeartbeats 400000 in
set_option maxRecDepth 100000 in
theorem J_X11_wooden {G : jG} {l : Launch} {d : Nat} {X : jX} {res : Int32} (K : jOK G l mX11_wooden (d) X) (n : Nat) (h : jH) (E : jEnd G mX11_wooden (jPR h res) X) (a0 : Nat) (hf : F_X11_wooden n a0 h = some res) : jJ G X h 0 0 0 [some (.ref a0)] [] := by
  unfold F_X11_wooden at hf
  refine jr_aload_n K (D_at DX11_wooden_q0 0 rfl) rfl rfl ?_
  obtain ⟨p1, e1, hf⟩ := jbind hf
  refine jr_getR K (D_at DX11_wooden_q0 1 rfl) fg_X11_19_9 e1 ?_
  obtain ⟨v4, e4, hf⟩ := jbind hf
  refine jr_getI K (D_at DX11_wooden_q0 2 rfl) fg_X11_145_6 e4 ?_
  cases hf
  exact jr_iret K E (D_at DX11_wooden_q0 3 rfl) rfl ⟨rfl, rfl⟩
theorem C_X11_wooden {G : jG} {l : Launch} (d : Nat) {n : Nat} {a0 : Nat} {h : jH} {res : Int32} (hf : F_X11_wooden n a0 h = some res) : jC G l mX11_wooden (d) 0 0 [.ref a0] h (jPR h res) :=
  jC.of pn_X11 (jcats rfl) (Nat.le_of_ble_eq_true rfl) (fun X K E => J_X11_wooden K n h E a0 hf)
set_option maxHeartbeats 400000 in
set_option maxRecDepth 100000 in
theorem J_X11_caught {G : jG} {l : Launch} {d : Nat} {X : jX} {res : Int32} (K : jOK G l mX11_caught (d) X) (n : Nat) (h : jH) (E : jEnd G mX11_caught (jPR h res) X) (a0 : Nat) (hf : F_X11_caught n a0 h = some res) : jJ G X h 0 0 0 [some (.ref a0)] [] := by
  unfold F_X11_caught at hf
  refine jr_aload_n K (D_at DX11_caught_q0 0 rfl) rfl rfl ?_
  obtain ⟨p1, e1, hf⟩ := jbind hf
  refine jr_getR K (D_at DX11_caught_q0 1 rfl) fg_X11_19_9 e1 ?_
  obtain ⟨v4, e4, hf⟩ := jbind hf
  refine jr_getI K (D_at DX11_caught_q0 2 rfl) fg_X11_156_6 e4 ?_
  cases hf
  exact jr_iret K E (D_at DX11_caught_q0 3 rfl) rfl ⟨rfl, rfl⟩
theorem C_X11_caught {G : jG} {l : Launch} (d : Nat) {n : Nat} {a0 : Nat} {h : jH} {res : Int32} (hf : F_X11_caught n a0 h = some res) : jC G l mX11_caught (d) 0 0 [.ref a0] h (jPR h res) :=
  jC.of pn_X11 (jcats rfl) (Nat.le_of_ble_eq_true rfl) (fun X K E => J_X11_caught K n h E a0 hf)
set_option maxHeartbeats 400000 in
set_option maxRecDepth 100000 in
theorem J_X11_loose {G : jG} {l : Launch} {d : Nat} {X : jX} {res : Int32} (K : jOK G l mX11_loose (d + 1) X) (n : Nat) (h : jH) (E : jEnd G mX11_loose (jPR h res) X) (a0 : Nat) (hf : F_X11_loose n a0 h = some res) : jJ G X h 0 0 0 [some (.ref a0)] [] := by
  unfold F_X11_loose at hf
  refine jr_aload_n K (D_at DX11_loose_q0 0 rfl) rfl rfl ?_
  obtain ⟨p1, e1, hf⟩ := jbind hf
  refine jr_getR K (D_at DX11_loose_q0 1 rfl) fg_X11_19_9 e1 ?_
  obtain ⟨v4, e4, hf⟩ := jbind hf
  obtain ⟨rc_4, e4⟩ := jcv_o e4
  refine jr_callV K (C_X8_unhooked (d) e4) (D_at DX11_loose_q0 2 rfl) cv_X11_323_X8_unhooked (As := []) (ci := 6) rfl rc_4 rfl rfl (by exact Nat.le_of_ble_eq_true rfl) (kc2 := 0) (ks2 := 0) rfl rfl (fun k9 h9 w9 => by cases w9.1) (fun r9 h9 w9 => ?_)
  obtain ⟨w1, w2⟩ := w9
  subst h9
  cases w1
  show jJ G X _ 0 0 _ _ (.int v4 :: _)
  cases hf
  exact jr_iret K E (D_at DX11_loose_q0 3 rfl) rfl ⟨rfl, rfl⟩
theorem C_X11_loose {G : jG} {l : Launch} (d : Nat) {n : Nat} {a0 : Nat} {h : jH} {res : Int32} (hf : F_X11_loose n a0 h = some res) : jC G l mX11_loose (d + 1) 0 0 [.ref a0] h (jPR h res) :=
  jC.of pn_X11 (jcats rfl) (Nat.le_of_ble_eq_true rfl) (fun X K E => J_X11_loose K n h E a0 hf)
set_option maxHeartbeats 400000 in
set_option maxRecDepth 100000 in
theorem J_X11_beyond {G : jG} {l : Launch} {d : Nat} {X : jX} {res : Int32} (K : jOK G l mX11_beyond (d + 2) X) (n : Nat) (h : jH) (E : jEnd G mX11_beyond (jPR h res) X) (a0 : Nat) (hf : F_X11_beyond n a0 h = some res) : jJ G X h 0 0 0 [some (.ref a0)] [] := by
  unfold F_X11_beyond at hf
  refine jr_aload_n K (D_at DX11_beyond_q0 0 rfl) rfl rfl ?_
  obtain ⟨p1, e1, hf⟩ := jbind hf
  refine jr_getR K (D_at DX11_beyond_q0 1 rfl) fg_X11_19_9 e1 ?_
  obtain ⟨v4, e4, hf⟩ := jbind hf
  refine jr_callS K (C_X6_thickBeyondJoin (d) e4) (D_at DX11_beyond_q0 2 rfl) cs_X11_326_X6_thickBeyondJoin (As := [.ref p1]) rfl rfl (by exact Nat.le_of_ble_eq_true rfl) (kc2 := 0) (ks2 := 0) rfl rfl (fun k9 h9 w9 => by cases w9.1) (fun r9 h9 w9 => ?_)
  obtain ⟨w1, w2⟩ := w9
  subst h9
  cases w1
  show jJ G X _ 0 0 _ _ (.int v4 :: _)
  cases hf
  exact jr_iret K E (D_at DX11_beyond_q0 3 rfl) rfl ⟨rfl, rfl⟩
theorem C_X11_beyond {G : jG} {l : Launch} (d : Nat) {n : Nat} {a0 : Nat} {h : jH} {res : Int32} (hf : F_X11_beyond n a0 h = some res) : jC G l mX11_beyond (d + 2) 0 0 [.ref a0] h (jPR h res) :=
  jC.of pn_X11 (jcats rfl) (Nat.le_of_ble_eq_true rfl) (fun X K E => J_X11_beyond K n h E a0 hf)
set_option maxHeartbeats 400000 in
set_option maxRecDepth 100000 in
theorem J_X11_odds {G : jG} {l : Launch} (hst : l.stackTraces = false) {d : Nat} {X : jX} {res : (jR × jH)} (K : jOK G l mX11_odds (d + 7) X) (n : Nat) (E : jEnd G mX11_odds (jPX res) X) (a0 : Nat) (x1 : Int32) (x2 : Int32) (h : jH) (hf : F_X11_odds n a0 x1 x2 h = some res) : jJ G X h 2 12 0 [some (.ref a0), some (.int x1), some (.int x2)] [] := by
  unfold F_X11_odds at hf
  refine jr_aload_n K (D_at DX11_odds_q0 0 rfl) rfl rfl ?_
  refine jr_iload_n K (D_at DX11_odds_q0 1 rfl) rfl rfl ?_
  obtain ⟨q2, e2, hf⟩ := jbind hf
  obtain ⟨rc_2, e2⟩ := jcv_o e2
  refine jr_callVx K (C_X11_requireRing hst (d) e2) (D_at DX11_odds_q0 2 rfl) cv_X11_128_X11_requireRing (As := [.int x1])  (ci := 9) rfl rc_2 rfl rfl (by exact Nat.le_of_ble_eq_true rfl) (kc2 := 1) (ks2 := 6) rfl rfl (fun k9 z9 h9 w9 hz9 => ?_) (fun r9 h9 w9 => ?_)
  · obtain ⟨w1, rfl⟩ := w9
    have hf := (jthen_r w1.symm).symm.trans hf
    cases hf
    exact jr_out K E rfl hz9 ⟨rfl, rfl⟩
  obtain ⟨w1, rfl⟩ := w9
  obtain ⟨r2, w2⟩ : ∃ z, z = r9 := ⟨_, rfl⟩
  subst w2
  replace hf := (jthen_l w1.symm).symm.trans hf
  obtain ⟨h2, w3⟩ : ∃ z, z = q2.2 := ⟨_, rfl⟩
  rw [← w3] at hf ⊢
  show jJ G X h2 1 6 _ _ []
  refine jr_aload_n K (D_at DX11_odds_q0 3 rfl) rfl rfl ?_
  refine jr_iload_n K (D_at DX11_odds_q0 4 rfl) rfl rfl ?_
  refine jr_iconst K (D_at DX11_odds_q0 5 rfl) (v := (0 : Int32)) (by decide) ?_
  refine jr_iconst K (D_at DX11_odds_q0 6 rfl) (v := (4 : Int32)) (by decide) ?_
  obtain ⟨q9, e9, hf⟩ := jbind hf
  obtain ⟨rc_9, e9⟩ := jcv_o e9
  refine jr_callVx K (C_X11_requireNumber hst (d) e9) (D_at DX11_odds_q0 7 rfl) cv_X11_180_X11_requireNumber (As := [.int x2, .int (0 : Int32), .int (4 : Int32)])  (ci := 9) rfl rc_9 rfl rfl (by exact Nat.le_of_ble_eq_true rfl) (kc2 := 0) (ks2 := 0) rfl rfl (fun k9 z9 h9 w9 hz9 => ?_) (fun r9 h9 w9 => ?_)
  · obtain ⟨w1, rfl⟩ := w9
    have hf := (jthen_r w1.symm).symm.trans hf
    cases hf
    exact jr_out K E rfl hz9 ⟨rfl, rfl⟩
  obtain ⟨w1, rfl⟩ := w9
  obtain ⟨r9, w2⟩ : ∃ z, z = r9 := ⟨_, rfl⟩
  subst w2
  replace hf := (jthen_l w1.symm).symm.trans hf
  obtain ⟨h9, w3⟩ : ∃ z, z = q9.2 := ⟨_, rfl⟩
  rw [← w3] at hf ⊢
  show jJ G X h9 0 0 _ _ []
  refine jr_aload_n K (D_at DX11_odds_q0 8 rfl) rfl rfl ?_
  obtain ⟨p13, e13, hf⟩ := jbind hf
  refine jr_getR K (D_at DX11_odds_q0 9 rfl) fg_X11_66_9 e13 ?_
  refine jr_aload_n K (D_at DX11_odds_q0 10 rfl) rfl rfl ?_
  obtain ⟨p17, e17, hf⟩ := jbind hf
  refine jr_getR K (D_at DX11_odds_q0 11 rfl) fg_X11_19_9 e17 ?_
  refine jr_iload_n K (D_at DX11_odds_q1 0 rfl) rfl rfl ?_
  refine jr_iload_n K (D_at DX11_odds_q1 1 rfl) rfl rfl ?_
  obtain ⟨q22, e22, hf⟩ := jbind hf
  obtain ⟨rc_22, e22⟩ := jcv_o e22
  refine jr_callV K (C_X1_oddsToStay (d + 2) e22) (D_at DX11_odds_q1 2 rfl) cv_X11_329_X1_oddsToStay (As := [.ref p17, .int x1, .int x2]) (ci := 1) rfl rc_22 rfl rfl (by exact Nat.le_of_ble_eq_true rfl) (kc2 := 0) (ks2 := 0) rfl rfl (fun k9 h9 w9 => by cases w9.1) (fun r9 h9 w9 => ?_)
  obtain ⟨w1, w2⟩ := w9
  subst h9
  cases w1
  show jJ G X _ 0 0 _ _ (.int q22.1 :: _)
  cases hf
  exact jr_iret K E (D_at DX11_odds_q1 3 rfl) rfl ⟨rfl, rfl⟩
theorem C_X11_odds {G : jG} {l : Launch} (hst : l.stackTraces = false) (d : Nat) {n : Nat} {a0 : Nat} {x1 : Int32} {x2 : Int32} {h : jH} {res : (jR × jH)} (hf : F_X11_odds n a0 x1 x2 h = some res) : jC G l mX11_odds (d + 7) 2 12 [.ref a0, .int x1, .int x2] h (jPX res) :=
  jC.of pn_X11 (jcats rfl) (Nat.le_of_ble_eq_true rfl) (fun X K E => J_X11_odds hst K n E a0 x1 x2 h hf)
set_option maxHeartbeats 400000 in
set_option maxRecDepth 100000 in
theorem J_X11_twins {G : jG} {l : Launch} {d : Nat} {X : jX} {res : Int32} (K : jOK G l mX11_twins (d + 1) X) (n : Nat) (h : jH) (E : jEnd G mX11_twins (jPR h res) X) (a0 : Nat) (hf : F_X11_twins n a0 h = some res) : jJ G X h 0 0 0 [some (.ref a0)] [] := by
  unfold F_X11_twins at hf
  refine jr_aload_n K (D_at DX11_twins_q0 0 rfl) rfl rfl ?_
  obtain ⟨p1, e1, hf⟩ := jbind hf
  refine jr_getR K (D_at DX11_twins_q0 1 rfl) fg_X11_19_9 e1 ?_
  obtain ⟨v4, e4, hf⟩ := jbind hf
  refine jr_callS K (C_X6_likePairs (d) e4) (D_at DX11_twins_q0 2 rfl) cs_X11_332_X6_likePairs (As := [.ref p1]) rfl rfl (by exact Nat.le_of_ble_eq_true rfl) (kc2 := 0) (ks2 := 0) rfl rfl (fun k9 h9 w9 => by cases w9.1) (fun r9 h9 w9 => ?_)
  obtain ⟨w1, w2⟩ := w9
  subst h9
  cases w1
  show jJ G X _ 0 0 _ _ (.int v4 :: _)
  cases hf
  exact jr_iret K E (D_at DX11_twins_q0 3 rfl) rfl ⟨rfl, rfl⟩
theorem C_X11_twins {G : jG} {l : Launch} (d : Nat) {n : Nat} {a0 : Nat} {h : jH} {res : Int32} (hf : F_X11_twins n a0 h = some res) : jC G l mX11_twins (d + 1) 0 0 [.ref a0] h (jPR h res) :=
  jC.of pn_X11 (jcats rfl) (Nat.le_of_ble_eq_true rfl) (fun X K E => J_X11_twins K n h E a0 hf)
set_option maxHeartbeats 400000 in
set_option maxRecDepth 100000 in
theorem J_X11_ahead {G : jG} {l : Launch} (hst : l.stackTraces = false) {d : Nat} {X : jX} {res : (jR × jH)} (K : jOK G l mX11_ahead (d + 7) X) (n : Nat) (E : jEnd G mX11_ahead (jPX res) X) (a0 : Nat) (x1 : Int32) (x2 : Int32) (h : jH) (hf : F_X11_ahead n a0 x1 x2 h = some res) : jJ G X h 2 12 0 [some (.ref a0), some (.int x1), some (.int x2)] [] := by
  unfold F_X11_ahead at hf
  refine jr_aload_n K (D_at DX11_ahead_q0 0 rfl) rfl rfl ?_
  refine jr_iload_n K (D_at DX11_ahead_q0 1 rfl) rfl rfl ?_
  obtain ⟨q2, e2, hf⟩ := jbind hf
  obtain ⟨rc_2, e2⟩ := jcv_o e2
  refine jr_callVx K (C_X11_requireRing hst (d) e2) (D_at DX11_ahead_q0 2 rfl) cv_X11_128_X11_requireRing (As := [.int x1])  (ci := 9) rfl rc_2 rfl rfl (by exact Nat.le_of_ble_eq_true rfl) (kc2 := 1) (ks2 := 6) rfl rfl (fun k9 z9 h9 w9 hz9 => ?_) (fun r9 h9 w9 => ?_)
  · obtain ⟨w1, rfl⟩ := w9
    have hf := (jthen_r w1.symm).symm.trans hf
    cases hf
    exact jr_out K E rfl hz9 ⟨rfl, rfl⟩
  obtain ⟨w1, rfl⟩ := w9
  obtain ⟨r2, w2⟩ : ∃ z, z = r9 := ⟨_, rfl⟩
  subst w2
  replace hf := (jthen_l w1.symm).symm.trans hf
  obtain ⟨h2, w3⟩ : ∃ z, z = q2.2 := ⟨_, rfl⟩
  rw [← w3] at hf ⊢
  show jJ G X h2 1 6 _ _ []
  refine jr_aload_n K (D_at DX11_ahead_q0 3 rfl) rfl rfl ?_
  refine jr_iload_n K (D_at DX11_ahead_q0 4 rfl) rfl rfl ?_
  refine jr_iconst K (D_at DX11_ahead_q0 5 rfl) (v := (0 : Int32)) (by decide) ?_
  refine jr_bipush K (D_at DX11_ahead_q0 6 rfl) (v := (80 : Int32)) (by decide) ?_
  obtain ⟨q10, e10, hf⟩ := jbind hf
  obtain ⟨rc_10, e10⟩ := jcv_o e10
  refine jr_callVx K (C_X11_requireNumber hst (d) e10) (D_at DX11_ahead_q0 7 rfl) cv_X11_180_X11_requireNumber (As := [.int x2, .int (0 : Int32), .int (80 : Int32)])  (ci := 9) rfl rc_10 rfl rfl (by exact Nat.le_of_ble_eq_true rfl) (kc2 := 0) (ks2 := 0) rfl rfl (fun k9 z9 h9 w9 hz9 => ?_) (fun r9 h9 w9 => ?_)
  · obtain ⟨w1, rfl⟩ := w9
    have hf := (jthen_r w1.symm).symm.trans hf
    cases hf
    exact jr_out K E rfl hz9 ⟨rfl, rfl⟩
  obtain ⟨w1, rfl⟩ := w9
  obtain ⟨r10, w2⟩ : ∃ z, z = r9 := ⟨_, rfl⟩
  subst w2
  replace hf := (jthen_l w1.symm).symm.trans hf
  obtain ⟨h10, w3⟩ : ∃ z, z = q10.2 := ⟨_, rfl⟩
  rw [← w3] at hf ⊢
  show jJ G X h10 0 0 _ _ []
  refine jr_aload_n K (D_at DX11_ahead_q0 8 rfl) rfl rfl ?_
  obtain ⟨p14, e14, hf⟩ := jbind hf
  refine jr_getR K (D_at DX11_ahead_q0 9 rfl) fg_X11_66_9 e14 ?_
  refine jr_aload_n K (D_at DX11_ahead_q0 10 rfl) rfl rfl ?_
  obtain ⟨p18, e18, hf⟩ := jbind hf
  refine jr_getR K (D_at DX11_ahead_q0 11 rfl) fg_X11_19_9 e18 ?_
  refine jr_iload_n K (D_at DX11_ahead_q1 0 rfl) rfl rfl ?_
  obtain ⟨h22, e22, hf⟩ := jbind hf
  obtain ⟨rc_22, e22⟩ := jcv_o e22
  refine jr_callV K (C_X1_goAhead (d + 1) e22) (D_at DX11_ahead_q1 1 rfl) cv_X11_301_X1_goAhead (As := [.ref p18, .int x2]) (ci := 1) rfl rc_22 rfl rfl (by exact Nat.le_of_ble_eq_true rfl) (kc2 := 0) (ks2 := 0) rfl rfl (fun k9 h9 w9 => by cases w9.1) (fun r9 h9 w9 => ?_)
  obtain ⟨w1, w2⟩ := w9
  subst h9
  cases w1
  show jJ G X _ 0 0 _ _ []
  refine jr_aload_n K (D_at DX11_ahead_q1 2 rfl) rfl rfl ?_
  obtain ⟨p26, e26, hf⟩ := jbind hf
  refine jr_getR K (D_at DX11_ahead_q1 3 rfl) fg_X11_37_9 e26 ?_
  obtain ⟨p29, e29, hf⟩ := jbind hf
  refine jr_getR K (D_at DX11_ahead_q1 4 rfl) fg_X11_148_6 e29 ?_
  refine jr_iload_n K (D_at DX11_ahead_q1 5 rfl) rfl rfl ?_
  obtain ⟨v33, e33, hf⟩ := jbind hf
  refine jr_iald K (D_at DX11_ahead_q1 6 rfl) e33 ?_
  cases hf
  exact jr_iret K E (D_at DX11_ahead_q1 7 rfl) rfl ⟨rfl, rfl⟩
theorem C_X11_ahead {G : jG} {l : Launch} (hst : l.stackTraces = false) (d : Nat) {n : Nat} {a0 : Nat} {x1 : Int32} {x2 : Int32} {h : jH} {res : (jR × jH)} (hf : F_X11_ahead n a0 x1 x2 h = some res) : jC G l mX11_ahead (d + 7) 2 12 [.ref a0, .int x1, .int x2] h (jPX res) :=
  jC.of pn_X11 (jcats rfl) (Nat.le_of_ble_eq_true rfl) (fun X K E => J_X11_ahead hst K n E a0 x1 x2 h hf)
set_option maxHeartbeats 400000 in
set_option maxRecDepth 100000 in
theorem J_X11_trial {G : jG} {l : Launch} (hst : l.stackTraces = false) {d : Nat} {X : jX} {res : (jR × jH)} (K : jOK G l mX11_trial (d + 7) X) (n : Nat) (E : jEnd G mX11_trial (jPX res) X) (a0 : Nat) (x1 : Int32) (x2 : Int32) (h : jH) (hf : F_X11_trial n a0 x1 x2 h = some res) : jJ G X h 1 6 0 [some (.ref a0), some (.int x1), some (.int x2)] [] := by
  unfold F_X11_trial at hf
  refine jr_aload_n K (D_at DX11_trial_q0 0 rfl) rfl rfl ?_
  refine jr_iload_n K (D_at DX11_trial_q0 1 rfl) rfl rfl ?_
  refine jr_iconst K (D_at DX11_trial_q0 2 rfl) (v := (0 : Int32)) (by decide) ?_
  refine jr_bipush K (D_at DX11_trial_q0 3 rfl) (v := (80 : Int32)) (by decide) ?_
  obtain ⟨q5, e5, hf⟩ := jbind hf
  obtain ⟨rc_5, e5⟩ := jcv_o e5
  refine jr_callVx K (C_X11_requireNumber hst (d) e5) (D_at DX11_trial_q0 4 rfl) cv_X11_180_X11_requireNumber (As := [.int x1, .int (0 : Int32), .int (80 : Int32)])  (ci := 9) rfl rc_5 rfl rfl (by exact Nat.le_of_ble_eq_true rfl) (kc2 := 0) (ks2 := 0) rfl rfl (fun k9 z9 h9 w9 hz9 => ?_) (fun r9 h9 w9 => ?_)
  · obtain ⟨w1, rfl⟩ := w9
    have hf := (jthen_r w1.symm).symm.trans hf
    cases hf
    exact jr_out K E rfl hz9 ⟨rfl, rfl⟩
  obtain ⟨w1, rfl⟩ := w9
  obtain ⟨r5, w2⟩ : ∃ z, z = r9 := ⟨_, rfl⟩
  subst w2
  replace hf := (jthen_l w1.symm).symm.trans hf
  obtain ⟨h5, w3⟩ : ∃ z, z = q5.2 := ⟨_, rfl⟩
  rw [← w3] at hf ⊢
  show jJ G X h5 0 0 _ _ []
  refine jr_aload_n K (D_at DX11_trial_q0 5 rfl) rfl rfl ?_
  obtain ⟨p9, e9, hf⟩ := jbind hf
  refine jr_getR K (D_at DX11_trial_q0 6 rfl) fg_X11_66_9 e9 ?_
  refine jr_aload_n K (D_at DX11_trial_q0 7 rfl) rfl rfl ?_
  obtain ⟨p13, e13, hf⟩ := jbind hf
  refine jr_getR K (D_at DX11_trial_q0 8 rfl) fg_X11_19_9 e13 ?_
  refine jr_iload_n K (D_at DX11_trial_q0 9 rfl) rfl rfl ?_
  refine jr_aload_n K (D_at DX11_trial_q0 10 rfl) rfl rfl ?_
  obtain ⟨p18, e18, hf⟩ := jbind hf
  refine jr_getR K (D_at DX11_trial_q0 11 rfl) fg_X11_19_9 e18 ?_
  obtain ⟨v21, e21, hf⟩ := jbind hf
  refine jr_getI K (D_at DX11_trial_q1 0 rfl) fg_X11_335_6 e21 ?_
  obtain ⟨h24, e24, hf⟩ := jbind hf
  obtain ⟨rc_24, e24⟩ := jcv_o e24
  refine jr_callV K (C_X1_tryHours (d) e24) (D_at DX11_trial_q1 1 rfl) cv_X11_338_X1_tryHours (As := [.ref p13, .int x1, .int v21]) (ci := 1) rfl rc_24 rfl rfl (by exact Nat.le_of_ble_eq_true rfl) (kc2 := 0) (ks2 := 0) rfl rfl (fun k9 h9 w9 => by cases w9.1) (fun r9 h9 w9 => ?_)
  obtain ⟨w1, w2⟩ := w9
  subst h9
  cases w1
  show jJ G X _ 0 0 _ _ []
  refine jr_iload_n K (D_at DX11_trial_q1 2 rfl) rfl rfl ?_
  refine jr_if_eq K (D_at DX11_trial_q1 3 rfl) (tgt := 41) (by decide) (fun c28 => ?_) (fun c28 => ?_)
  · replace hf := (if_pos c28).symm.trans hf
    refine jr_aload_n K (D_at DX11_trial_q1 8 rfl) rfl rfl ?_
    obtain ⟨p42, e42, hf⟩ := jbind hf
    refine jr_getR K (D_at DX11_trial_q1 9 rfl) fg_X11_37_9 e42 ?_
    obtain ⟨v45, e45, hf⟩ := jbind hf
    refine jr_getI K (D_at DX11_trial_q1 10 rfl) fg_X11_156_6 e45 ?_
    cases hf
    exact jr_iret K E (D_at DX11_trial_q1 11 rfl) rfl ⟨rfl, rfl⟩
  · replace hf := (if_neg c28).symm.trans hf
    refine jr_aload_n K (D_at DX11_trial_q1 4 rfl) rfl rfl ?_
    obtain ⟨p32, e32, hf⟩ := jbind hf
    refine jr_getR K (D_at DX11_trial_q1 5 rfl) fg_X11_37_9 e32 ?_
    obtain ⟨v35, e35, hf⟩ := jbind hf
    obtain ⟨rc_35, e35⟩ := jcv_o e35
    refine jr_callV K (C_X8_unhooked (d + 6) e35) (D_at DX11_trial_q1 6 rfl) cv_X11_323_X8_unhooked (As := []) (ci := 6) rfl rc_35 rfl rfl (by exact Nat.le_of_ble_eq_true rfl) (kc2 := 0) (ks2 := 0) rfl rfl (fun k9 h9 w9 => by cases w9.1) (fun r9 h9 w9 => ?_)
    obtain ⟨w1, w2⟩ := w9
    subst h9
    cases w1
    show jJ G X _ 0 0 _ _ (.int v35 :: _)
    refine jr_goto K (D_at DX11_trial_q1 7 rfl) (tgt := 48) (by decide) ?_
    cases hf
    exact jr_iret K E (D_at DX11_trial_q1 11 rfl) rfl ⟨rfl, rfl⟩
theorem C_X11_trial {G : jG} {l : Launch} (hst : l.stackTraces = false) (d : Nat) {n : Nat} {a0 : Nat} {x1 : Int32} {x2 : Int32} {h : jH} {res : (jR × jH)} (hf : F_X11_trial n a0 x1 x2 h = some res) : jC G l mX11_trial (d + 7) 1 6 [.ref a0, .int x1, .int x2] h (jPX res) :=
  jC.of pn_X11 (jcats rfl) (Nat.le_of_ble_eq_true rfl) (fun X K E => J_X11_trial hst K n E a0 x1 x2 h hf)
set_option maxHeartbeats 400000 in
set_option maxRecDepth 100000 in
theorem J_X11_span_13_b {G : jG} {l : Launch} (hst : l.stackTraces = false) {d : Nat} {X : jX} {res : (jR × jH)} (K : jOK G l mX11_span (d + 7) X) (n : Nat) (rc13 : Nat → Int32 → Int32 → Int32 → Int32 → jH → Option (jR × jH)) (hr13 : ∀ (a0 : Nat) (x1 : Int32) (x2 : Int32) (x3 : Int32) (x4 : Int32) (h : jH), rc13 a0 x1 x2 x3 x4 h = some res → jJ G X h 0 0 13 [some (.ref a0), some (.int x1), some (.int x2), some (.int x3), some (.int x4), none] []) (E : jEnd G mX11_span (jPX res) X) (a0 : Nat) (x1 : Int32) (x2 : Int32) (x3 : Int32) (x4 : Int32) (h : jH) (hf : F_X11_span_13_b n rc13 a0 x1 x2 x3 x4 h = some res) : jJ G X h 0 0 13 [some (.ref a0), some (.int x1), some (.int x2), some (.int x3), some (.int x4), none] [] := by
  unfold F_X11_span_13_b at hf
  refine jr_iload K (D_at DX11_span_q0 9 rfl) rfl ?_
  refine jr_bipush K (D_at DX11_span_q0 10 rfl) (v := (6 : Int32)) (by decide) ?_
  refine jr_icmp_gt K (D_at DX11_span_q0 11 rfl) (tgt := 90) (by decide) (fun c17 => ?_) (fun c17 => ?_)
  · replace hf := (if_pos c17).symm.trans hf
    refine jr_iload_n K (D_at DX11_span_q3 9 rfl) rfl rfl ?_
    cases hf
    exact jr_iret K E (D_at DX11_span_q3 10 rfl) rfl ⟨rfl, rfl⟩
  · replace hf := (if_neg c17).symm.trans hf
    refine jr_aload_n K (D_at DX11_span_q1 0 rfl) rfl rfl ?_
    obtain ⟨p21, e21, hf⟩ := jbind hf
    refine jr_getR K (D_at DX11_span_q1 1 rfl) fg_X11_66_9 e21 ?_
    refine jr_aload_n K (D_at DX11_span_q1 2 rfl) rfl rfl ?_
    obtain ⟨p25, e25, hf⟩ := jbind hf
    refine jr_getR K (D_at DX11_span_q1 3 rfl) fg_X11_19_9 e25 ?_
    refine jr_iload_n K (D_at DX11_span_q1 4 rfl) rfl rfl ?_
    refine jr_iload K (D_at DX11_span_q1 5 rfl) rfl ?_
    obtain ⟨h31, e31, hf⟩ := jbind hf
    obtain ⟨rc_31, e31⟩ := jcv_o e31
    refine jr_callV K (C_X1_tryHours (d) e31) (D_at DX11_span_q1 6 rfl) cv_X11_338_X1_tryHours (As := [.ref p25, .int x1, .int x4]) (ci := 1) rfl rc_31 rfl rfl (by exact Nat.le_of_ble_eq_true rfl) (kc2 := 0) (ks2 := 0) rfl rfl (fun k9 h9 w9 => by cases w9.1) (fun r9 h9 w9 => ?_)
    obtain ⟨w1, w2⟩ := w9
    subst h9
    cases w1
    show jJ G X _ 0 0 _ _ []
    refine jr_aload_n K (D_at DX11_span_q1 7 rfl) rfl rfl ?_
    obtain ⟨p35, e35, hf⟩ := jbind hf
    refine jr_getR K (D_at DX11_span_q1 8 rfl) fg_X11_37_9 e35 ?_
    obtain ⟨v38, e38, hf⟩ := jbind hf
    refine jr_getI K (D_at DX11_span_q1 9 rfl) fg_X11_156_6 e38 ?_
    obtain ⟨v41, e41, hf⟩ := jbind hf
    refine jr_callS K (C_J6_bitCount_0f7a4 (d + 6) e41) (D_at DX11_span_q1 10 rfl) cs_X11_342_J6_bitCount_0f7a4 (As := [.int v38]) rfl rfl (by exact Nat.le_of_ble_eq_true rfl) (kc2 := 0) (ks2 := 0) rfl rfl (fun k9 h9 w9 => by cases w9.1) (fun r9 h9 w9 => ?_)
    obtain ⟨w1, w2⟩ := w9
    subst h9
    cases w1
    show jJ G X _ 0 0 _ _ (.int v41 :: _)
    refine jr_aload_n K (D_at DX11_span_q1 11 rfl) rfl rfl ?_
    obtain ⟨p45, e45, hf⟩ := jbind hf
    refine jr_getR K (D_at DX11_span_q2 0 rfl) fg_X11_37_9 e45 ?_
    obtain ⟨v48, e48, hf⟩ := jbind hf
    obtain ⟨rc_48, e48⟩ := jcv_o e48
    refine jr_callV K (C_X8_unhooked (d + 6) e48) (D_at DX11_span_q2 1 rfl) cv_X11_323_X8_unhooked (As := []) (ci := 6) rfl rc_48 rfl rfl (by exact Nat.le_of_ble_eq_true rfl) (kc2 := 0) (ks2 := 0) rfl rfl (fun k9 h9 w9 => by cases w9.1) (fun r9 h9 w9 => ?_)
    obtain ⟨w1, w2⟩ := w9
    subst h9
    cases w1
    show jJ G X _ 0 0 _ _ (.int v48 :: _)
    obtain ⟨v51, e51, hf⟩ := jbind hf
    refine jr_callS K (C_J6_bitCount_0f7a4 (d + 6) e51) (D_at DX11_span_q2 2 rfl) cs_X11_342_J6_bitCount_0f7a4 (As := [.int v48]) rfl rfl (by exact Nat.le_of_ble_eq_true rfl) (kc2 := 0) (ks2 := 0) rfl rfl (fun k9 h9 w9 => by cases w9.1) (fun r9 h9 w9 => ?_)
    obtain ⟨w1, w2⟩ := w9
    subst h9
    cases w1
    show jJ G X _ 0 0 _ _ (.int v51 :: _)
    refine jr_iadd K (D_at DX11_span_q2 3 rfl) ?_
    refine jr_istore K (D_at DX11_span_q2 4 rfl) (i := 5) (by decide) (L2 := [_, _, _, _, _, _]) rfl ?_
    refine jr_iload_n K (D_at DX11_span_q2 5 rfl) rfl rfl ?_
    refine jr_iconst K (D_at DX11_span_q2 6 rfl) (v := (-1 : Int32)) (by decide) ?_
    refine jr_icmp_eq K (D_at DX11_span_q2 7 rfl) (tgt := 81) (by decide) (fun c59 => ?_) (fun c59 => ?_)
    · replace hf := (if_pos c59).symm.trans hf
      refine jr_iload K (D_at DX11_span_q3 5 rfl) rfl ?_
      refine jr_istore_n K (D_at DX11_span_q3 6 rfl) (i := 3) rfl (by decide) (L2 := [_, _, _, _, _, _]) rfl ?_
      refine jr_iinc K (D_at DX11_span_q3 7 rfl) (i := 4) rfl (v := x4 + (1 : Int32)) (jinc (by decide)) (by decide) (L2 := [_, _, _, _, _, _]) rfl ?_
      refine jr_goto K (D_at DX11_span_q3 8 rfl) (tgt := 13) (by decide) ?_
      refine jr_keep [true, true, true, true, true, false] ?_
      exact hr13 a0 x1 x2 (v41 + v51) (x4 + (1 : Int32)) h31 hf
    · replace hf := (if_neg c59).symm.trans hf
      refine jr_iload_n K (D_at DX11_span_q2 8 rfl) rfl rfl ?_
      refine jr_if_eq K (D_at DX11_span_q2 9 rfl) (tgt := 75) (by decide) (fun c63 => ?_) (fun c63 => ?_)
      · replace hf := (if_pos c63).symm.trans hf
        refine jr_iload K (D_at DX11_span_q3 2 rfl) rfl ?_
        refine jr_iload_n K (D_at DX11_span_q3 3 rfl) rfl rfl ?_
        refine jr_icmp_ge K (D_at DX11_span_q3 4 rfl) (tgt := 84) (by decide) (fun c78 => ?_) (fun c78 => ?_)
        · replace hf := (if_pos c78).symm.trans hf
          refine jr_iinc K (D_at DX11_span_q3 7 rfl) (i := 4) rfl (v := x4 + (1 : Int32)) (jinc (by decide)) (by decide) (L2 := [_, _, _, _, _, _]) rfl ?_
          refine jr_goto K (D_at DX11_span_q3 8 rfl) (tgt := 13) (by decide) ?_
          refine jr_keep [true, true, true, true, true, false] ?_
          exact hr13 a0 x1 x2 x3 (x4 + (1 : Int32)) h31 hf
        · replace hf := (if_neg c78).symm.trans hf
          refine jr_iload K (D_at DX11_span_q3 5 rfl) rfl ?_
          refine jr_istore_n K (D_at DX11_span_q3 6 rfl) (i := 3) rfl (by decide) (L2 := [_, _, _, _, _, _]) rfl ?_
          refine jr_iinc K (D_at DX11_span_q3 7 rfl) (i := 4) rfl (v := x4 + (1 : Int32)) (jinc (by decide)) (by decide) (L2 := [_, _, _, _, _, _]) rfl ?_
          refine jr_goto K (D_at DX11_span_q3 8 rfl) (tgt := 13) (by decide) ?_
          refine jr_keep [true, true, true, true, true, false] ?_
          exact hr13 a0 x1 x2 (v41 + v51) (x4 + (1 : Int32)) h31 hf
      · replace hf := (if_neg c63).symm.trans hf
        refine jr_iload K (D_at DX11_span_q2 10 rfl) rfl ?_
        refine jr_iload_n K (D_at DX11_span_q2 11 rfl) rfl rfl ?_
        refine jr_icmp_le K (D_at DX11_span_q3 0 rfl) (tgt := 84) (by decide) (fun c69 => ?_) (fun c69 => ?_)
        · replace hf := (if_pos c69).symm.trans hf
          refine jr_iinc K (D_at DX11_span_q3 7 rfl) (i := 4) rfl (v := x4 + (1 : Int32)) (jinc (by decide)) (by decide) (L2 := [_, _, _, _, _, _]) rfl ?_
          refine jr_goto K (D_at DX11_span_q3 8 rfl) (tgt := 13) (by decide) ?_
          refine jr_keep [true, true, true, true, true, false] ?_
          exact hr13 a0 x1 x2 x3 (x4 + (1 : Int32)) h31 hf
        · replace hf := (if_neg c69).symm.trans hf
          refine jr_goto K (D_at DX11_span_q3 1 rfl) (tgt := 81) (by decide) ?_
          refine jr_iload K (D_at DX11_span_q3 5 rfl) rfl ?_
          refine jr_istore_n K (D_at DX11_span_q3 6 rfl) (i := 3) rfl (by decide) (L2 := [_, _, _, _, _, _]) rfl ?_
          refine jr_iinc K (D_at DX11_span_q3 7 rfl) (i := 4) rfl (v := x4 + (1 : Int32)) (jinc (by decide)) (by decide) (L2 := [_, _, _, _, _, _]) rfl ?_
          refine jr_goto K (D_at DX11_span_q3 8 rfl) (tgt := 13) (by decide) ?_
          refine jr_keep [true, true, true, true, true, false] ?_
          exact hr13 a0 x1 x2 (v41 + v51) (x4 + (1 : Int32)) h31 hf
theorem J_X11_span_13 {G : jG} {l : Launch} (hst : l.stackTraces = false) {d : Nat} {X : jX} {res : (jR × jH)} (K : jOK G l mX11_span (d + 7) X) (n : Nat) (E : jEnd G mX11_span (jPX res) X) (k : Nat) : ∀ (a0 : Nat) (x1 : Int32) (x2 : Int32) (x3 : Int32) (x4 : Int32) (h : jH), F_X11_span_13 n k a0 x1 x2 x3 x4 h = some res → jJ G X h 0 0 13 [some (.ref a0), some (.int x1), some (.int x2), some (.int x3), some (.int x4), none] [] := by
  induction k with
  | zero =>
    intro a0 x1 x2 x3 x4 h hf
    exact jno (show (none : Option (jR × jH)) = some res from hf)
  | succ k ih =>
    intro a0 x1 x2 x3 x4 h hf
    exact J_X11_span_13_b hst K n (F_X11_span_13 n k) ih E a0 x1 x2 x3 x4 h hf
set_option maxHeartbeats 400000 in
set_option maxRecDepth 100000 in
theorem J_X11_span {G : jG} {l : Launch} (hst : l.stackTraces = false) {d : Nat} {X : jX} {res : (jR × jH)} (K : jOK G l mX11_span (d + 7) X) (n : Nat) (E : jEnd G mX11_span (jPX res) X) (a0 : Nat) (x1 : Int32) (x2 : Int32) (h : jH) (hf : F_X11_span n a0 x1 x2 h = some res) : jJ G X h 1 6 0 [some (.ref a0), some (.int x1), some (.int x2), none, none, none] [] := by
  unfold F_X11_span at hf
  refine jr_aload_n K (D_at DX11_span_q0 0 rfl) rfl rfl ?_
  refine jr_iload_n K (D_at DX11_span_q0 1 rfl) rfl rfl ?_
  refine jr_iconst K (D_at DX11_span_q0 2 rfl) (v := (0 : Int32)) (by decide) ?_
  refine jr_bipush K (D_at DX11_span_q0 3 rfl) (v := (80 : Int32)) (by decide) ?_
  obtain ⟨q5, e5, hf⟩ := jbind hf
  obtain ⟨rc_5, e5⟩ := jcv_o e5
  refine jr_callVx K (C_X11_requireNumber hst (d) e5) (D_at DX11_span_q0 4 rfl) cv_X11_180_X11_requireNumber (As := [.int x1, .int (0 : Int32), .int (80 : Int32)])  (ci := 9) rfl rc_5 rfl rfl (by exact Nat.le_of_ble_eq_true rfl) (kc2 := 0) (ks2 := 0) rfl rfl (fun k9 z9 h9 w9 hz9 => ?_) (fun r9 h9 w9 => ?_)
  · obtain ⟨w1, rfl⟩ := w9
    have hf := (jthen_r w1.symm).symm.trans hf
    cases hf
    exact jr_out K E rfl hz9 ⟨rfl, rfl⟩
  obtain ⟨w1, rfl⟩ := w9
  obtain ⟨r5, w2⟩ : ∃ z, z = r9 := ⟨_, rfl⟩
  subst w2
  replace hf := (jthen_l w1.symm).symm.trans hf
  obtain ⟨h5, w3⟩ : ∃ z, z = q5.2 := ⟨_, rfl⟩
  rw [← w3] at hf ⊢
  show jJ G X h5 0 0 _ _ []
  refine jr_iconst K (D_at DX11_span_q0 5 rfl) (v := (-1 : Int32)) (by decide) ?_
  refine jr_istore_n K (D_at DX11_span_q0 6 rfl) (i := 3) rfl (by decide) (L2 := [_, _, _, _, _, _]) rfl ?_
  refine jr_iconst K (D_at DX11_span_q0 7 rfl) (v := (1 : Int32)) (by decide) ?_
  refine jr_istore K (D_at DX11_span_q0 8 rfl) (i := 4) (by decide) (L2 := [_, _, _, _, _, _]) rfl ?_
  refine jr_keep [true, true, true, true, true, false] ?_
  exact J_X11_span_13 hst K n E n a0 x1 x2 (-1 : Int32) (1 : Int32) h5 hf
theorem C_X11_span {G : jG} {l : Launch} (hst : l.stackTraces = false) (d : Nat) {n : Nat} {a0 : Nat} {x1 : Int32} {x2 : Int32} {h : jH} {res : (jR × jH)} (hf : F_X11_span n a0 x1 x2 h = some res) : jC G l mX11_span (d + 7) 1 6 [.ref a0, .int x1, .int x2] h (jPX res) :=
  jC.of pn_X11 (jcats rfl) (Nat.le_of_ble_eq_true rfl) (fun X K E => J_X11_span hst K n E a0 x1 x2 h hf)
set_option maxHeartbeats 400000 in
set_option maxRecDepth 100000 in
theorem J_X11_led {G : jG} {l : Launch} (hst : l.stackTraces = false) {d : Nat} {X : jX} {res : (jR × jH)} (K : jOK G l mX11_led (d + 7) X) (n : Nat) (E : jEnd G mX11_led (jPX res) X) (a0 : Nat) (x1 : Int32) (x2 : Int32) (h : jH) (hf : F_X11_led n a0 x1 x2 h = some res) : jJ G X h 1 6 0 [some (.ref a0), some (.int x1), some (.int x2)] [] := by
  unfold F_X11_led at hf
  refine jr_aload_n K (D_at DX11_led_q0 0 rfl) rfl rfl ?_
  refine jr_iload_n K (D_at DX11_led_q0 1 rfl) rfl rfl ?_
  obtain ⟨q2, e2, hf⟩ := jbind hf
  obtain ⟨rc_2, e2⟩ := jcv_o e2
  refine jr_callVx K (C_X11_requireRing hst (d) e2) (D_at DX11_led_q0 2 rfl) cv_X11_128_X11_requireRing (As := [.int x1])  (ci := 9) rfl rc_2 rfl rfl (by exact Nat.le_of_ble_eq_true rfl) (kc2 := 0) (ks2 := 0) rfl rfl (fun k9 z9 h9 w9 hz9 => ?_) (fun r9 h9 w9 => ?_)
  · obtain ⟨w1, rfl⟩ := w9
    have hf := (jthen_r w1.symm).symm.trans hf
    cases hf
    exact jr_out K E rfl hz9 ⟨rfl, rfl⟩
  obtain ⟨w1, rfl⟩ := w9
  obtain ⟨r2, w2⟩ : ∃ z, z = r9 := ⟨_, rfl⟩
  subst w2
  replace hf := (jthen_l w1.symm).symm.trans hf
  obtain ⟨h2, w3⟩ : ∃ z, z = q2.2 := ⟨_, rfl⟩
  rw [← w3] at hf ⊢
  show jJ G X h2 0 0 _ _ []
  refine jr_iload_n K (D_at DX11_led_q0 3 rfl) rfl rfl ?_
  refine jr_if_eq K (D_at DX11_led_q0 4 rfl) (tgt := 23) (by decide) (fun c6 => ?_) (fun c6 => ?_)
  · replace hf := (if_pos c6).symm.trans hf
    refine jr_aload_n K (D_at DX11_led_q0 11 rfl) rfl rfl ?_
    obtain ⟨p24, e24, hf⟩ := jbind hf
    refine jr_getR K (D_at DX11_led_q1 0 rfl) fg_X11_19_9 e24 ?_
    obtain ⟨p27, e27, hf⟩ := jbind hf
    refine jr_getR K (D_at DX11_led_q1 1 rfl) fg_X11_191_6 e27 ?_
    refine jr_iload_n K (D_at DX11_led_q1 2 rfl) rfl rfl ?_
    obtain ⟨v31, e31, hf⟩ := jbind hf
    obtain ⟨rc_31, e31⟩ := jcv_o e31
    refine jr_callV K (C_X5_rowsOf (d + 4) e31) (D_at DX11_led_q1 3 rfl) cv_X11_351_X5_rowsOf (As := [.int x1]) (ci := 4) rfl rc_31 rfl rfl (by exact Nat.le_of_ble_eq_true rfl) (kc2 := 0) (ks2 := 0) rfl rfl (fun k9 h9 w9 => by cases w9.1) (fun r9 h9 w9 => ?_)
    obtain ⟨w1, w2⟩ := w9
    subst h9
    cases w1
    show jJ G X _ 0 0 _ _ (.int v31 :: _)
    cases hf
    exact jr_iret K E (D_at DX11_led_q1 4 rfl) rfl ⟨rfl, rfl⟩
  · replace hf := (if_neg c6).symm.trans hf
    refine jr_aload_n K (D_at DX11_led_q0 5 rfl) rfl rfl ?_
    obtain ⟨p10, e10, hf⟩ := jbind hf
    refine jr_getR K (D_at DX11_led_q0 6 rfl) fg_X11_19_9 e10 ?_
    obtain ⟨p13, e13, hf⟩ := jbind hf
    refine jr_getR K (D_at DX11_led_q0 7 rfl) fg_X11_191_6 e13 ?_
    refine jr_iload_n K (D_at DX11_led_q0 8 rfl) rfl rfl ?_
    obtain ⟨v17, e17, hf⟩ := jbind hf
    obtain ⟨rc_17, e17⟩ := jcv_o e17
    refine jr_callV K (C_X5_latestPlace (d + 4) e17) (D_at DX11_led_q0 9 rfl) cv_X11_348_X5_latestPlace (As := [.int x1]) (ci := 4) rfl rc_17 rfl rfl (by exact Nat.le_of_ble_eq_true rfl) (kc2 := 0) (ks2 := 0) rfl rfl (fun k9 h9 w9 => by cases w9.1) (fun r9 h9 w9 => ?_)
    obtain ⟨w1, w2⟩ := w9
    subst h9
    cases w1
    show jJ G X _ 0 0 _ _ (.int v17 :: _)
    refine jr_goto K (D_at DX11_led_q0 10 rfl) (tgt := 34) (by decide) ?_
    cases hf
    exact jr_iret K E (D_at DX11_led_q1 4 rfl) rfl ⟨rfl, rfl⟩
theorem C_X11_led {G : jG} {l : Launch} (hst : l.stackTraces = false) (d : Nat) {n : Nat} {a0 : Nat} {x1 : Int32} {x2 : Int32} {h : jH} {res : (jR × jH)} (hf : F_X11_led n a0 x1 x2 h = some res) : jC G l mX11_led (d + 7) 1 6 [.ref a0, .int x1, .int x2] h (jPX res) :=
  jC.of pn_X11 (jcats rfl) (Nat.le_of_ble_eq_true rfl) (fun X K E => J_X11_led hst K n E a0 x1 x2 h hf)
set_option maxHeartbeats 400000 in
set_option maxRecDepth 100000 in
theorem J_X11_log {G : jG} {l : Launch} (hst : l.stackTraces = false) {d : Nat} {X : jX} {res : (jR × jH)} (K : jOK G l mX11_log (d + 6) X) (n : Nat) (E : jEnd G mX11_log (jPX res) X) (a0 : Nat) (x1 : Int32) (x2 : Int32) (h : jH) (hf : F_X11_log n a0 x1 x2 h = some res) : jJ G X h 1 6 0 [some (.ref a0), some (.int x1), some (.int x2)] [] := by
  unfold F_X11_log at hf
  refine jr_iload_n K (D_at DX11_log_q0 0 rfl) rfl rfl ?_
  refine jr_if_lt K (D_at DX11_log_q0 1 rfl) (tgt := 10) (by decide) (fun c1 => ?_) (fun c1 => ?_)
  · replace hf := (if_pos c1).symm.trans hf
    cases hf
    exact jr_throwNW (dep := d + 0) hst K E (D_at DX11_log_q0 5 rfl) (D_at DX11_log_q0 6 rfl) (D_at DX11_log_q0 7 rfl) (D_at DX11_log_q0 8 rfl) (D_at DX11_log_q0 9 rfl) th_X11_4 (i := 12) rfl rfl (k := 4) rfl (by exact Nat.le_of_ble_eq_true rfl) (by decide) (by decide) ⟨rfl, rfl⟩
  · replace hf := (if_neg c1).symm.trans hf
    refine jr_iload_n K (D_at DX11_log_q0 2 rfl) rfl rfl ?_
    refine jr_bipush K (D_at DX11_log_q0 3 rfl) (v := (6 : Int32)) (by decide) ?_
    refine jr_icmp_lt K (D_at DX11_log_q0 4 rfl) (tgt := 21) (by decide) (fun c7 => ?_) (fun c7 => ?_)
    · replace hf := (if_pos c7).symm.trans hf
      refine jr_aload_n K (D_at DX11_log_q0 10 rfl) rfl rfl ?_
      obtain ⟨p22, e22, hf⟩ := jbind hf
      refine jr_getR K (D_at DX11_log_q0 11 rfl) fg_X11_19_9 e22 ?_
      obtain ⟨p25, e25, hf⟩ := jbind hf
      refine jr_getR K (D_at DX11_log_q1 0 rfl) fg_X11_191_6 e25 ?_
      refine jr_iload_n K (D_at DX11_log_q1 1 rfl) rfl rfl ?_
      refine jr_iload_n K (D_at DX11_log_q1 2 rfl) rfl rfl ?_
      obtain ⟨v30, e30, hf⟩ := jbind hf
      obtain ⟨rc_30, e30⟩ := jcv_o e30
      refine jr_callV K (C_X5_read (d + 4) e30) (D_at DX11_log_q1 3 rfl) cv_X11_356_X5_read (As := [.int x1, .int x2]) (ci := 4) rfl rc_30 rfl rfl (by exact Nat.le_of_ble_eq_true rfl) (kc2 := 1) (ks2 := 6) rfl rfl (fun k9 h9 w9 => by cases w9.1) (fun r9 h9 w9 => ?_)
      obtain ⟨w1, w2⟩ := w9
      subst h9
      cases w1
      show jJ G X _ 1 6 _ _ (.int v30 :: _)
      cases hf
      exact jr_iret K E (D_at DX11_log_q1 4 rfl) rfl ⟨rfl, rfl⟩
    · replace hf := (if_neg c7).symm.trans hf
      cases hf
      exact jr_throwNW (dep := d + 0) hst K E (D_at DX11_log_q0 5 rfl) (D_at DX11_log_q0 6 rfl) (D_at DX11_log_q0 7 rfl) (D_at DX11_log_q0 8 rfl) (D_at DX11_log_q0 9 rfl) th_X11_4 (i := 12) rfl rfl (k := 4) rfl (by exact Nat.le_of_ble_eq_true rfl) (by decide) (by decide) ⟨rfl, rfl⟩
theorem C_X11_log {G : jG} {l : Launch} (hst : l.stackTraces = false) (d : Nat) {n : Nat} {a0 : Nat} {x1 : Int32} {x2 : Int32} {h : jH} {res : (jR × jH)} (hf : F_X11_log n a0 x1 x2 h = some res) : jC G l mX11_log (d + 6) 1 6 [.ref a0, .int x1, .int x2] h (jPX res) :=
  jC.of pn_X11 (jcats rfl) (Nat.le_of_ble_eq_true rfl) (fun X K E => J_X11_log hst K n E a0 x1 x2 h hf)
set_option maxHeartbeats 400000 in
set_option maxRecDepth 100000 in
theorem J_X11_seed {G : jG} {l : Launch} {d : Nat} {X : jX} {res : (Int32 × jH)} (K : jOK G l mX11_seed (d) X) (n : Nat) (E : jEnd G mX11_seed (jPW res) X) (a0 : Nat) (x1 : Int32) (h : jH) (hf : F_X11_seed n a0 x1 h = some res) : jJ G X h 0 0 0 [some (.ref a0), some (.int x1), none] [] := by
  unfold F_X11_seed at hf
  refine jr_aload_n K (D_at DX11_seed_q0 0 rfl) rfl rfl ?_
  obtain ⟨p1, e1, hf⟩ := jbind hf
  refine jr_getR K (D_at DX11_seed_q0 1 rfl) fg_X11_19_9 e1 ?_
  obtain ⟨v4, e4, hf⟩ := jbind hf
  refine jr_getI K (D_at DX11_seed_q0 2 rfl) fg_X11_335_6 e4 ?_
  refine jr_istore_n K (D_at DX11_seed_q0 3 rfl) (i := 2) rfl (by decide) (L2 := [_, _, _]) rfl ?_
  refine jr_aload_n K (D_at DX11_seed_q0 4 rfl) rfl rfl ?_
  obtain ⟨p9, e9, hf⟩ := jbind hf
  refine jr_getR K (D_at DX11_seed_q0 5 rfl) fg_X11_19_9 e9 ?_
  refine jr_iload_n K (D_at DX11_seed_q0 6 rfl) rfl rfl ?_
  obtain ⟨h13, e13, hf⟩ := jbind hf
  refine jr_putI K (D_at DX11_seed_q0 7 rfl) fp_X11_335_6 (Or.inl rfl) e13 ?_
  refine jr_iload_n K (D_at DX11_seed_q0 8 rfl) rfl rfl ?_
  cases hf
  exact jr_iret K E (D_at DX11_seed_q0 9 rfl) rfl ⟨rfl, rfl⟩
theorem C_X11_seed {G : jG} {l : Launch} (d : Nat) {n : Nat} {a0 : Nat} {x1 : Int32} {h : jH} {res : (Int32 × jH)} (hf : F_X11_seed n a0 x1 h = some res) : jC G l mX11_seed (d) 0 0 [.ref a0, .int x1] h (jPW res) :=
  jC.of pn_X11 (jcats rfl) (Nat.le_of_ble_eq_true rfl) (fun X K E => J_X11_seed K n E a0 x1 h hf)
set_option maxHeartbeats 400000 in
set_option maxRecDepth 100000 in
theorem J_X11_undo {G : jG} {l : Launch} {d : Nat} {X : jX} {res : (Int32 × jH)} (K : jOK G l mX11_undo (d + 4) X) (n : Nat) (E : jEnd G mX11_undo (jPW res) X) (a0 : Nat) (h : jH) (hf : F_X11_undo n a0 h = some res) : jJ G X h 0 0 0 [some (.ref a0)] [] := by
  unfold F_X11_undo at hf
  refine jr_aload_n K (D_at DX11_undo_q0 0 rfl) rfl rfl ?_
  obtain ⟨p1, e1, hf⟩ := jbind hf
  refine jr_getR K (D_at DX11_undo_q0 1 rfl) fg_X11_33_9 e1 ?_
  refine jr_aload_n K (D_at DX11_undo_q0 2 rfl) rfl rfl ?_
  obtain ⟨p5, e5, hf⟩ := jbind hf
  refine jr_getR K (D_at DX11_undo_q0 3 rfl) fg_X11_19_9 e5 ?_
  obtain ⟨q8, e8, hf⟩ := jbind hf
  obtain ⟨rc_8, e8⟩ := jcv_o e8
  refine jr_callV K (C_X0_takeBack (d) e8) (D_at DX11_undo_q0 4 rfl) cv_X11_358_X0_takeBack (As := [.ref p5]) (ci := 0) rfl rc_8 rfl rfl (by exact Nat.le_of_ble_eq_true rfl) (kc2 := 0) (ks2 := 0) rfl rfl (fun k9 h9 w9 => by cases w9.1) (fun r9 h9 w9 => ?_)
  obtain ⟨w1, w2⟩ := w9
  subst h9
  cases w1
  show jJ G X _ 0 0 _ _ (.int q8.1 :: _)
  by_cases z9 : q8.1 = 0 ∨ q8.1 = 1
  · replace hf := (if_pos z9).symm.trans hf
    cases hf
    exact jr_zret K E (D_at DX11_undo_q0 5 rfl) rfl z9 ⟨rfl, rfl⟩
  · exact jno (show (none : Option (Int32 × jH)) = some res from (if_neg z9).symm.trans hf)
theorem C_X11_undo {G : jG} {l : Launch} (d : Nat) {n : Nat} {a0 : Nat} {h : jH} {res : (Int32 × jH)} (hf : F_X11_undo n a0 h = some res) : jC G l mX11_undo (d + 4) 0 0 [.ref a0] h (jPW res) :=
  jC.of pn_X11 (jcats rfl) (Nat.le_of_ble_eq_true rfl) (fun X K E => J_X11_undo K n E a0 h hf)
set_option maxHeartbeats 400000 in
set_option maxRecDepth 100000 in
theorem J_X11_image_36 {G : jG} {l : Launch} {d : Nat} {X : jX} {res : jH} (K : jOK G l mX11_image (d + 3) X) (n : Nat) (E : jEnd G mX11_image (jPV res) X) (a0 : Nat) (h : jH) (hf : F_X11_image_36 n a0 h = some res) : jJ G X h 0 0 36 [some (.ref a0)] [] := by
  unfold F_X11_image_36 at hf
  refine jr_aload_n K (D_at DX11_image_q1 4 rfl) rfl rfl ?_
  obtain ⟨o37, e37, hf⟩ := jbind hf
  refine jr_getQ K (D_at DX11_image_q1 5 rfl) fg_X11_362_9 e37 ?_
  refine jr_aload_n K (D_at DX11_image_q1 6 rfl) rfl rfl ?_
  obtain ⟨p41, e41, hf⟩ := jbind hf
  refine jr_getR K (D_at DX11_image_q1 7 rfl) fg_X11_19_9 e41 ?_
  cases o37 with
  | none => exact jno (show (none : Option jH) = some res from hf)
  | some p44 =>
    dsimp only at hf
    obtain ⟨h44, e44, hf⟩ := jbind hf
    obtain ⟨rc_44, e44⟩ := jcv_o e44
    refine jr_callV K (C_X8_copyFrom (d) e44) (D_at DX11_image_q1 8 rfl) cv_X11_92_X8_copyFrom (As := [.ref p41]) (ci := 6) rfl rc_44 rfl rfl (by exact Nat.le_of_ble_eq_true rfl) (kc2 := 0) (ks2 := 0) rfl rfl (fun k9 h9 w9 => by cases w9.1) (fun r9 h9 w9 => ?_)
    obtain ⟨w1, w2⟩ := w9
    subst h9
    cases w1
    show jJ G X _ 0 0 _ _ []
    refine jr_aload_n K (D_at DX11_image_q1 9 rfl) rfl rfl ?_
    obtain ⟨o48, e48, hf⟩ := jbind hf
    refine jr_getQ K (D_at DX11_image_q1 10 rfl) fg_X11_365_9 e48 ?_
    refine jr_aload_n K (D_at DX11_image_q1 11 rfl) rfl rfl ?_
    obtain ⟨p52, e52, hf⟩ := jbind hf
    refine jr_getR K (D_at DX11_image_q2 0 rfl) fg_X11_26_9 e52 ?_
    cases o48 with
    | none => exact jno (show (none : Option jH) = some res from hf)
    | some p55 =>
      dsimp only at hf
      obtain ⟨h55, e55, hf⟩ := jbind hf
      obtain ⟨rc_55, e55⟩ := jcv_o e55
      refine jr_callV K (C_X2_copyFrom (d + 1) e55) (D_at DX11_image_q2 1 rfl) cv_X11_122_X2_copyFrom (As := [.ref p52]) (ci := 2) rfl rc_55 rfl rfl (by exact Nat.le_of_ble_eq_true rfl) (kc2 := 0) (ks2 := 0) rfl rfl (fun k9 h9 w9 => by cases w9.1) (fun r9 h9 w9 => ?_)
      obtain ⟨w1, w2⟩ := w9
      subst h9
      cases w1
      show jJ G X _ 0 0 _ _ []
      cases hf
      exact jr_vret K E (D_at DX11_image_q2 2 rfl) rfl ⟨rfl, rfl⟩
set_option maxHeartbeats 400000 in
set_option maxRecDepth 100000 in
theorem J_X11_image_18 {G : jG} {l : Launch} {d : Nat} {X : jX} {res : jH} (K : jOK G l mX11_image (d + 3) X) (n : Nat) (E : jEnd G mX11_image (jPV res) X) (a0 : Nat) (h : jH) (hf : F_X11_image_18 n a0 h = some res) : jJ G X h 6 469 18 [some (.ref a0)] [] := by
  unfold F_X11_image_18 at hf
  refine jr_aload_n K (D_at DX11_image_q0 8 rfl) rfl rfl ?_
  obtain ⟨o19, e19, hf⟩ := jbind hf
  refine jr_getQ K (D_at DX11_image_q0 9 rfl) fg_X11_365_9 e19 ?_
  cases o19 with
  | none =>
    dsimp only at hf
    refine jr_ifnonnullN K (D_at DX11_image_q0 10 rfl) ?_
    refine jr_aload_n K (D_at DX11_image_q0 11 rfl) rfl rfl ?_
    obtain ⟨h26, e26, hf⟩ := jbind hf
    refine jr_newE (N := 9) K (D_at DX11_image_q1 0 rfl) fn_X11_23 (kc := 5) (ks := 460) e26 ?_
    refine jr_dup K (D_at DX11_image_q1 1 rfl) rfl ?_
    obtain ⟨h30, e30, hf⟩ := jbind hf
    refine jr_callIN K (C_X2_init (d + 1) e30) (D_at DX11_image_q1 2 rfl) cin_X11_25_X2_init (As := []) rfl rfl (by exact Nat.le_of_ble_eq_true rfl) (kc2 := 0) (ks2 := 0) rfl rfl (fun k9 h9 w9 => by cases w9.1) (fun r9 h9 w9 => ?_)
    obtain ⟨w1, w2⟩ := w9
    subst h9
    cases w1
    obtain ⟨h33, e33, hf⟩ := jbind hf
    refine jr_putR K (D_at DX11_image_q1 3 rfl) fp_X11_365_9 (Or.inl rfl) e33 ?_
    refine jr_keep [true] ?_
    exact J_X11_image_36 K n E a0 h33 hf
  | some p22 =>
    dsimp only at hf
    refine jr_ifnonnull K (D_at DX11_image_q0 10 rfl) (tgt := 36) (by decide) ?_
    refine jr_credit (kc' := 0) (ks' := 0) (by decide) (by decide) ?_
    refine jr_keep [true] ?_
    exact J_X11_image_36 K n E a0 h hf
set_option maxHeartbeats 400000 in
set_option maxRecDepth 100000 in
theorem J_X11_image {G : jG} {l : Launch} {d : Nat} {X : jX} {res : jH} (K : jOK G l mX11_image (d + 3) X) (n : Nat) (E : jEnd G mX11_image (jPV res) X) (a0 : Nat) (h : jH) (hf : F_X11_image n a0 h = some res) : jJ G X h 13 582 0 [some (.ref a0)] [] := by
  unfold F_X11_image at hf
  refine jr_aload_n K (D_at DX11_image_q0 0 rfl) rfl rfl ?_
  obtain ⟨o1, e1, hf⟩ := jbind hf
  refine jr_getQ K (D_at DX11_image_q0 1 rfl) fg_X11_362_9 e1 ?_
  cases o1 with
  | none =>
    dsimp only at hf
    refine jr_ifnonnullN K (D_at DX11_image_q0 2 rfl) ?_
    refine jr_aload_n K (D_at DX11_image_q0 3 rfl) rfl rfl ?_
    obtain ⟨h8, e8, hf⟩ := jbind hf
    refine jr_newE (N := 18) K (D_at DX11_image_q0 4 rfl) fn_X11_16 (kc := 12) (ks := 564) e8 ?_
    refine jr_dup K (D_at DX11_image_q0 5 rfl) rfl ?_
    obtain ⟨h12, e12, hf⟩ := jbind hf
    refine jr_callIN K (C_X8_init (d) e12) (D_at DX11_image_q0 6 rfl) cin_X11_18_X8_init (As := []) rfl rfl (by exact Nat.le_of_ble_eq_true rfl) (kc2 := 6) (ks2 := 469) rfl rfl (fun k9 h9 w9 => by cases w9.1) (fun r9 h9 w9 => ?_)
    obtain ⟨w1, w2⟩ := w9
    subst h9
    cases w1
    obtain ⟨h15, e15, hf⟩ := jbind hf
    refine jr_putR K (D_at DX11_image_q0 7 rfl) fp_X11_362_9 (Or.inl rfl) e15 ?_
    refine jr_keep [true] ?_
    exact J_X11_image_18 K n E a0 h15 hf
  | some p4 =>
    dsimp only at hf
    refine jr_ifnonnull K (D_at DX11_image_q0 2 rfl) (tgt := 18) (by decide) ?_
    refine jr_credit (kc' := 6) (ks' := 469) (by decide) (by decide) ?_
    refine jr_keep [true] ?_
    exact J_X11_image_18 K n E a0 h hf
theorem C_X11_image {G : jG} {l : Launch} (d : Nat) {n : Nat} {a0 : Nat} {h : jH} {res : jH} (hf : F_X11_image n a0 h = some res) : jC G l mX11_image (d + 3) 13 582 [.ref a0] h (jPV res) :=
  jC.of pn_X11 (jcats rfl) (Nat.le_of_ble_eq_true rfl) (fun X K E => J_X11_image K n E a0 h hf)
set_option maxHeartbeats 400000 in
set_option maxRecDepth 100000 in
theorem J_X11_back {G : jG} {l : Launch} {d : Nat} {X : jX} {res : (Int32 × jH)} (K : jOK G l mX11_back (d + 3) X) (n : Nat) (E : jEnd G mX11_back (jPW res) X) (a0 : Nat) (h : jH) (hf : F_X11_back n a0 h = some res) : jJ G X h 0 0 0 [some (.ref a0)] [] := by
  unfold F_X11_back at hf
  refine jr_aload_n K (D_at DX11_back_q0 0 rfl) rfl rfl ?_
  obtain ⟨o1, e1, hf⟩ := jbind hf
  refine jr_getQ K (D_at DX11_back_q0 1 rfl) fg_X11_362_9 e1 ?_
  cases o1 with
  | none =>
    dsimp only at hf
    refine jr_ifnullN K (D_at DX11_back_q0 2 rfl) (tgt := 14) (by decide) ?_
    refine jr_iconst K (D_at DX11_back_q0 6 rfl) (v := (0 : Int32)) (by decide) ?_
    cases hf
    exact jr_zret K E (D_at DX11_back_q0 7 rfl) rfl (Or.inl rfl) ⟨rfl, rfl⟩
  | some p4 =>
    dsimp only at hf
    refine jr_ifnull K (D_at DX11_back_q0 2 rfl) ?_
    refine jr_aload_n K (D_at DX11_back_q0 3 rfl) rfl rfl ?_
    obtain ⟨o8, e8, hf⟩ := jbind hf
    refine jr_getQ K (D_at DX11_back_q0 4 rfl) fg_X11_365_9 e8 ?_
    cases o8 with
    | none =>
      dsimp only at hf
      refine jr_ifnonnullN K (D_at DX11_back_q0 5 rfl) ?_
      refine jr_iconst K (D_at DX11_back_q0 6 rfl) (v := (0 : Int32)) (by decide) ?_
      cases hf
      exact jr_zret K E (D_at DX11_back_q0 7 rfl) rfl (Or.inl rfl) ⟨rfl, rfl⟩
    | some p11 =>
      dsimp only at hf
      refine jr_ifnonnull K (D_at DX11_back_q0 5 rfl) (tgt := 16) (by decide) ?_
      refine jr_aload_n K (D_at DX11_back_q0 8 rfl) rfl rfl ?_
      obtain ⟨p17, e17, hf⟩ := jbind hf
      refine jr_getR K (D_at DX11_back_q0 9 rfl) fg_X11_19_9 e17 ?_
      refine jr_aload_n K (D_at DX11_back_q0 10 rfl) rfl rfl ?_
      obtain ⟨o21, e21, hf⟩ := jbind hf
      refine jr_getQ K (D_at DX11_back_q0 11 rfl) fg_X11_362_9 e21 ?_
      cases o21 with
      | none => exact jno (show (none : Option (Int32 × jH)) = some res from hf)
      | some p24_0 =>
        dsimp only at hf
        obtain ⟨h24, e24, hf⟩ := jbind hf
        obtain ⟨rc_24, e24⟩ := jcv_o e24
        refine jr_callV K (C_X8_copyFrom (d) e24) (D_at DX11_back_q1 0 rfl) cv_X11_92_X8_copyFrom (As := [.ref p24_0]) (ci := 6) rfl rc_24 rfl rfl (by exact Nat.le_of_ble_eq_true rfl) (kc2 := 0) (ks2 := 0) rfl rfl (fun k9 h9 w9 => by cases w9.1) (fun r9 h9 w9 => ?_)
        obtain ⟨w1, w2⟩ := w9
        subst h9
        cases w1
        show jJ G X _ 0 0 _ _ []
        refine jr_aload_n K (D_at DX11_back_q1 1 rfl) rfl rfl ?_
        obtain ⟨p28, e28, hf⟩ := jbind hf
        refine jr_getR K (D_at DX11_back_q1 2 rfl) fg_X11_26_9 e28 ?_
        refine jr_aload_n K (D_at DX11_back_q1 3 rfl) rfl rfl ?_
        obtain ⟨o32, e32, hf⟩ := jbind hf
        refine jr_getQ K (D_at DX11_back_q1 4 rfl) fg_X11_365_9 e32 ?_
        cases o32 with
        | none => exact jno (show (none : Option (Int32 × jH)) = some res from hf)
        | some p35_0 =>
          dsimp only at hf
          obtain ⟨h35, e35, hf⟩ := jbind hf
          obtain ⟨rc_35, e35⟩ := jcv_o e35
          refine jr_callV K (C_X2_copyFrom (d + 1) e35) (D_at DX11_back_q1 5 rfl) cv_X11_122_X2_copyFrom (As := [.ref p35_0]) (ci := 2) rfl rc_35 rfl rfl (by exact Nat.le_of_ble_eq_true rfl) (kc2 := 0) (ks2 := 0) rfl rfl (fun k9 h9 w9 => by cases w9.1) (fun r9 h9 w9 => ?_)
          obtain ⟨w1, w2⟩ := w9
          subst h9
          cases w1
          show jJ G X _ 0 0 _ _ []
          refine jr_aload_n K (D_at DX11_back_q1 6 rfl) rfl rfl ?_
          obtain ⟨p39, e39, hf⟩ := jbind hf
          refine jr_getR K (D_at DX11_back_q1 7 rfl) fg_X11_33_9 e39 ?_
          obtain ⟨h42, e42, hf⟩ := jbind hf
          obtain ⟨rc_42, e42⟩ := jcv_o e42
          refine jr_callV K (C_X0_forget (d + 2) e42) (D_at DX11_back_q1 8 rfl) cv_X11_115_X0_forget (As := []) (ci := 0) rfl rc_42 rfl rfl (by exact Nat.le_of_ble_eq_true rfl) (kc2 := 0) (ks2 := 0) rfl rfl (fun k9 h9 w9 => by cases w9.1) (fun r9 h9 w9 => ?_)
          obtain ⟨w1, w2⟩ := w9
          subst h9
          cases w1
          show jJ G X _ 0 0 _ _ []
          refine jr_iconst K (D_at DX11_back_q1 9 rfl) (v := (1 : Int32)) (by decide) ?_
          cases hf
          exact jr_zret K E (D_at DX11_back_q1 10 rfl) rfl (Or.inr rfl) ⟨rfl, rfl⟩
theorem C_X11_back {G : jG} {l : Launch} (d : Nat) {n : Nat} {a0 : Nat} {h : jH} {res : (Int32 × jH)} (hf : F_X11_back n a0 h = some res) : jC G l mX11_back (d + 3) 0 0 [.ref a0] h (jPW res) :=
  jC.of pn_X11 (jcats rfl) (Nat.le_of_ble_eq_true rfl) (fun X K E => J_X11_back K n E a0 h hf)
set_option maxHeartbeats 400000 in
set_option maxRecDepth 100000 in
theorem J_X11_count {G : jG} {l : Launch} {d : Nat} {X : jX} {res : Int32} (K : jOK G l mX11_count (d) X) (n : Nat) (h : jH) (E : jEnd G mX11_count (jPR h res) X) (a0 : Nat) (x1 : Int32) (hf : F_X11_count n a0 x1 h = some res) : jJ G X h 0 0 0 [some (.ref a0), some (.int x1)] [] := by
  unfold F_X11_count at hf
  refine jr_iload_n K (D_at DX11_count_q0 0 rfl) rfl rfl ?_
  by_cases c1_0 : x1 = (0 : Int32)
  · replace hf := (if_pos c1_0).symm.trans hf
    refine jr_tableIn K (D_at DX11_count_q1 0 rfl) (off := 59) (tgt := 60) (by rw [c1_0]; decide) (by rw [c1_0]; decide) (by rw [c1_0]; decide) (by decide) ?_
    refine jr_aload_n K (D_at DX11_count_q2 0 rfl) rfl rfl ?_
    obtain ⟨p61, e61, hf⟩ := jbind hf
    refine jr_getR K (D_at DX11_count_q2 1 rfl) fg_X11_19_9 e61 ?_
    obtain ⟨v64, e64, hf⟩ := jbind hf
    refine jr_getI K (D_at DX11_count_q2 2 rfl) fg_X11_210_6 e64 ?_
    cases hf
    exact jr_iret K E (D_at DX11_count_q2 3 rfl) rfl ⟨rfl, rfl⟩
  replace hf := (if_neg c1_0).symm.trans hf
  by_cases c1_1 : x1 = (1 : Int32)
  · replace hf := (if_pos c1_1).symm.trans hf
    refine jr_tableIn K (D_at DX11_count_q1 0 rfl) (off := 67) (tgt := 68) (by rw [c1_1]; decide) (by rw [c1_1]; decide) (by rw [c1_1]; decide) (by decide) ?_
    refine jr_aload_n K (D_at DX11_count_q2 4 rfl) rfl rfl ?_
    obtain ⟨p69, e69, hf⟩ := jbind hf
    refine jr_getR K (D_at DX11_count_q2 5 rfl) fg_X11_19_9 e69 ?_
    obtain ⟨v72, e72, hf⟩ := jbind hf
    refine jr_getI K (D_at DX11_count_q2 6 rfl) fg_X11_107_6 e72 ?_
    cases hf
    exact jr_iret K E (D_at DX11_count_q2 7 rfl) rfl ⟨rfl, rfl⟩
  replace hf := (if_neg c1_1).symm.trans hf
  by_cases c1_2 : x1 = (2 : Int32)
  · replace hf := (if_pos c1_2).symm.trans hf
    refine jr_tableIn K (D_at DX11_count_q1 0 rfl) (off := 75) (tgt := 76) (by rw [c1_2]; decide) (by rw [c1_2]; decide) (by rw [c1_2]; decide) (by decide) ?_
    refine jr_aload_n K (D_at DX11_count_q2 8 rfl) rfl rfl ?_
    obtain ⟨p77, e77, hf⟩ := jbind hf
    refine jr_getR K (D_at DX11_count_q2 9 rfl) fg_X11_26_9 e77 ?_
    obtain ⟨v80, e80, hf⟩ := jbind hf
    refine jr_getI K (D_at DX11_count_q2 10 rfl) fg_X11_368_2 e80 ?_
    refine jr_if_eq K (D_at DX11_count_q2 11 rfl) (tgt := 96) (by decide) (fun c83 => ?_) (fun c83 => ?_)
    · replace hf := (if_pos c83).symm.trans hf
      refine jr_iconst K (D_at DX11_count_q3 4 rfl) (v := (-1 : Int32)) (by decide) ?_
      cases hf
      exact jr_iret K E (D_at DX11_count_q3 5 rfl) rfl ⟨rfl, rfl⟩
    · replace hf := (if_neg c83).symm.trans hf
      refine jr_aload_n K (D_at DX11_count_q3 0 rfl) rfl rfl ?_
      obtain ⟨p87, e87, hf⟩ := jbind hf
      refine jr_getR K (D_at DX11_count_q3 1 rfl) fg_X11_26_9 e87 ?_
      obtain ⟨v90, e90, hf⟩ := jbind hf
      refine jr_getI K (D_at DX11_count_q3 2 rfl) fg_X11_125_2 e90 ?_
      refine jr_goto K (D_at DX11_count_q3 3 rfl) (tgt := 97) (by decide) ?_
      cases hf
      exact jr_iret K E (D_at DX11_count_q3 5 rfl) rfl ⟨rfl, rfl⟩
  replace hf := (if_neg c1_2).symm.trans hf
  by_cases c1_3 : x1 = (3 : Int32)
  · replace hf := (if_pos c1_3).symm.trans hf
    refine jr_tableIn K (D_at DX11_count_q1 0 rfl) (off := 97) (tgt := 98) (by rw [c1_3]; decide) (by rw [c1_3]; decide) (by rw [c1_3]; decide) (by decide) ?_
    refine jr_aload_n K (D_at DX11_count_q3 6 rfl) rfl rfl ?_
    obtain ⟨p99, e99, hf⟩ := jbind hf
    refine jr_getR K (D_at DX11_count_q3 7 rfl) fg_X11_19_9 e99 ?_
    obtain ⟨v102, e102, hf⟩ := jbind hf
    refine jr_getI K (D_at DX11_count_q3 8 rfl) fg_X11_372_6 e102 ?_
    cases hf
    exact jr_iret K E (D_at DX11_count_q3 9 rfl) rfl ⟨rfl, rfl⟩
  replace hf := (if_neg c1_3).symm.trans hf
  by_cases c1_4 : x1 = (4 : Int32)
  · replace hf := (if_pos c1_4).symm.trans hf
    refine jr_tableIn K (D_at DX11_count_q1 0 rfl) (off := 105) (tgt := 106) (by rw [c1_4]; decide) (by rw [c1_4]; decide) (by rw [c1_4]; decide) (by decide) ?_
    refine jr_aload_n K (D_at DX11_count_q3 10 rfl) rfl rfl ?_
    obtain ⟨p107, e107, hf⟩ := jbind hf
    refine jr_getR K (D_at DX11_count_q3 11 rfl) fg_X11_19_9 e107 ?_
    obtain ⟨v110, e110, hf⟩ := jbind hf
    refine jr_getI K (D_at DX11_count_q4 0 rfl) fg_X11_375_6 e110 ?_
    cases hf
    exact jr_iret K E (D_at DX11_count_q4 1 rfl) rfl ⟨rfl, rfl⟩
  replace hf := (if_neg c1_4).symm.trans hf
  by_cases c1_5 : x1 = (5 : Int32)
  · replace hf := (if_pos c1_5).symm.trans hf
    refine jr_tableIn K (D_at DX11_count_q1 0 rfl) (off := 113) (tgt := 114) (by rw [c1_5]; decide) (by rw [c1_5]; decide) (by rw [c1_5]; decide) (by decide) ?_
    refine jr_aload_n K (D_at DX11_count_q4 2 rfl) rfl rfl ?_
    obtain ⟨p115, e115, hf⟩ := jbind hf
    refine jr_getR K (D_at DX11_count_q4 3 rfl) fg_X11_19_9 e115 ?_
    obtain ⟨v118, e118, hf⟩ := jbind hf
    refine jr_getI K (D_at DX11_count_q4 4 rfl) fg_X11_378_6 e118 ?_
    cases hf
    exact jr_iret K E (D_at DX11_count_q4 5 rfl) rfl ⟨rfl, rfl⟩
  replace hf := (if_neg c1_5).symm.trans hf
  by_cases c1_6 : x1 = (6 : Int32)
  · replace hf := (if_pos c1_6).symm.trans hf
    refine jr_tableIn K (D_at DX11_count_q1 0 rfl) (off := 121) (tgt := 122) (by rw [c1_6]; decide) (by rw [c1_6]; decide) (by rw [c1_6]; decide) (by decide) ?_
    refine jr_aload_n K (D_at DX11_count_q4 6 rfl) rfl rfl ?_
    obtain ⟨p123, e123, hf⟩ := jbind hf
    refine jr_getR K (D_at DX11_count_q4 7 rfl) fg_X11_19_9 e123 ?_
    obtain ⟨v126, e126, hf⟩ := jbind hf
    refine jr_getI K (D_at DX11_count_q4 8 rfl) fg_X11_381_6 e126 ?_
    cases hf
    exact jr_iret K E (D_at DX11_count_q4 9 rfl) rfl ⟨rfl, rfl⟩
  replace hf := (if_neg c1_6).symm.trans hf
  by_cases c1_7 : x1 = (7 : Int32)
  · replace hf := (if_pos c1_7).symm.trans hf
    refine jr_tableIn K (D_at DX11_count_q1 0 rfl) (off := 129) (tgt := 130) (by rw [c1_7]; decide) (by rw [c1_7]; decide) (by rw [c1_7]; decide) (by decide) ?_
    refine jr_aload_n K (D_at DX11_count_q4 10 rfl) rfl rfl ?_
    obtain ⟨p131, e131, hf⟩ := jbind hf
    refine jr_getR K (D_at DX11_count_q4 11 rfl) fg_X11_19_9 e131 ?_
    obtain ⟨v134, e134, hf⟩ := jbind hf
    refine jr_getI K (D_at DX11_count_q5 0 rfl) fg_X11_229_6 e134 ?_
    cases hf
    exact jr_iret K E (D_at DX11_count_q5 1 rfl) rfl ⟨rfl, rfl⟩
  replace hf := (if_neg c1_7).symm.trans hf
  by_cases c1_8 : x1 = (8 : Int32)
  · replace hf := (if_pos c1_8).symm.trans hf
    refine jr_tableIn K (D_at DX11_count_q1 0 rfl) (off := 137) (tgt := 138) (by rw [c1_8]; decide) (by rw [c1_8]; decide) (by rw [c1_8]; decide) (by decide) ?_
    refine jr_aload_n K (D_at DX11_count_q5 2 rfl) rfl rfl ?_
    obtain ⟨p139, e139, hf⟩ := jbind hf
    refine jr_getR K (D_at DX11_count_q5 3 rfl) fg_X11_19_9 e139 ?_
    obtain ⟨v142, e142, hf⟩ := jbind hf
    refine jr_getI K (D_at DX11_count_q5 4 rfl) fg_X11_245_6 e142 ?_
    cases hf
    exact jr_iret K E (D_at DX11_count_q5 5 rfl) rfl ⟨rfl, rfl⟩
  replace hf := (if_neg c1_8).symm.trans hf
  by_cases c1_9 : x1 = (9 : Int32)
  · replace hf := (if_pos c1_9).symm.trans hf
    refine jr_tableIn K (D_at DX11_count_q1 0 rfl) (off := 145) (tgt := 146) (by rw [c1_9]; decide) (by rw [c1_9]; decide) (by rw [c1_9]; decide) (by decide) ?_
    refine jr_aload_n K (D_at DX11_count_q5 6 rfl) rfl rfl ?_
    obtain ⟨p147, e147, hf⟩ := jbind hf
    refine jr_getR K (D_at DX11_count_q5 7 rfl) fg_X11_19_9 e147 ?_
    obtain ⟨p150, e150, hf⟩ := jbind hf
    refine jr_getR K (D_at DX11_count_q5 8 rfl) fg_X11_191_6 e150 ?_
    obtain ⟨v153, e153, hf⟩ := jbind hf
    refine jr_getI K (D_at DX11_count_q5 9 rfl) fg_X11_384_4 e153 ?_
    cases hf
    exact jr_iret K E (D_at DX11_count_q5 10 rfl) rfl ⟨rfl, rfl⟩
  replace hf := (if_neg c1_9).symm.trans hf
  by_cases c1_10 : x1 = (10 : Int32)
  · replace hf := (if_pos c1_10).symm.trans hf
    refine jr_tableIn K (D_at DX11_count_q1 0 rfl) (off := 156) (tgt := 157) (by rw [c1_10]; decide) (by rw [c1_10]; decide) (by rw [c1_10]; decide) (by decide) ?_
    refine jr_aload_n K (D_at DX11_count_q5 11 rfl) rfl rfl ?_
    obtain ⟨p158, e158, hf⟩ := jbind hf
    refine jr_getR K (D_at DX11_count_q6 0 rfl) fg_X11_33_9 e158 ?_
    obtain ⟨v161, e161, hf⟩ := jbind hf
    refine jr_getI K (D_at DX11_count_q6 1 rfl) fg_X11_387_0 e161 ?_
    cases hf
    exact jr_iret K E (D_at DX11_count_q6 2 rfl) rfl ⟨rfl, rfl⟩
  replace hf := (if_neg c1_10).symm.trans hf
  have w1_0 := lv_neT c1_0 (a := 0) (by decide)
  have w1_1 := lv_neT c1_1 (a := 1) (by decide)
  have w1_2 := lv_neT c1_2 (a := 2) (by decide)
  have w1_3 := lv_neT c1_3 (a := 3) (by decide)
  have w1_4 := lv_neT c1_4 (a := 4) (by decide)
  have w1_5 := lv_neT c1_5 (a := 5) (by decide)
  have w1_6 := lv_neT c1_6 (a := 6) (by decide)
  have w1_7 := lv_neT c1_7 (a := 7) (by decide)
  have w1_8 := lv_neT c1_8 (a := 8) (by decide)
  have w1_9 := lv_neT c1_9 (a := 9) (by decide)
  have w1_10 := lv_neT c1_10 (a := 10) (by decide)
  refine jr_tableOut K (D_at DX11_count_q1 0 rfl) (tgt := 165) (by omega) (by decide) ?_
  refine jr_iconst K (D_at DX11_count_q6 3 rfl) (v := (-1 : Int32)) (by decide) ?_
  cases hf
  exact jr_iret K E (D_at DX11_count_q6 4 rfl) rfl ⟨rfl, rfl⟩
theorem C_X11_count {G : jG} {l : Launch} (d : Nat) {n : Nat} {a0 : Nat} {x1 : Int32} {h : jH} {res : Int32} (hf : F_X11_count n a0 x1 h = some res) : jC G l mX11_count (d) 0 0 [.ref a0, .int x1] h (jPR h res) :=
  jC.of pn_X11 (jcats rfl) (Nat.le_of_ble_eq_true rfl) (fun X K E => J_X11_count K n h E a0 x1 hf)
set_option maxHeartbeats 400000 in
set_option maxRecDepth 100000 in
theorem J_X12_thrown {G : jG} {l : Launch} {d : Nat} {X : jX} {res : Int32} (K : jOK G l mX12_thrown (d) X) (n : Nat) (h : jH) (E : jEnd G mX12_thrown (jPR h res) X) (a0 : Nat) (hf : F_X12_thrown n a0 h = some res) : jJ G X h 0 0 0 [some (.ref a0)] [] := by
  unfold F_X12_thrown at hf
  refine jr_aload_n K (D_at DX12_thrown_q0 0 rfl) rfl rfl ?_
  obtain ⟨v1, e1, hf⟩ := jbind hf
  refine jr_getI K (D_at DX12_thrown_q0 1 rfl) fg_X12_3_10 e1 ?_
  cases hf
  exact jr_iret K E (D_at DX12_thrown_q0 2 rfl) rfl ⟨rfl, rfl⟩
theorem C_X12_thrown {G : jG} {l : Launch} (d : Nat) {n : Nat} {a0 : Nat} {h : jH} {res : Int32} (hf : F_X12_thrown n a0 h = some res) : jC G l mX12_thrown (d) 0 0 [.ref a0] h (jPR h res) :=
  jC.of pn_X12 (jcats rfl) (Nat.le_of_ble_eq_true rfl) (fun X K E => J_X12_thrown K n h E a0 hf)
set_option maxHeartbeats 400000 in
set_option maxRecDepth 100000 in
theorem J_X12_throwsIf {G : jG} {l : Launch} {d : Nat} {X : jX} {res : (Int32 × jH)} (K : jOK G l mX12_throwsIf (d) X) (n : Nat) (E : jEnd G mX12_throwsIf (jPW res) X) (a0 : Nat) (x1 : Int32) (x2 : Int32) (h : jH) (hf : F_X12_throwsIf n a0 x1 x2 h = some res) : jJ G X h 0 0 0 [some (.ref a0), some (.int x1), some (.int x2)] [] := by
  unfold F_X12_throwsIf at hf
  refine jr_iload_n K (D_at DX12_throwsIf_q0 0 rfl) rfl rfl ?_
  refine jr_if_eq K (D_at DX12_throwsIf_q0 1 rfl) (tgt := 9) (by decide) (fun c1 => ?_) (fun c1 => ?_)
  · replace hf := (if_pos c1).symm.trans hf
    refine jr_iload_n K (D_at DX12_throwsIf_q0 5 rfl) rfl rfl ?_
    by_cases z9 : x1 = 0 ∨ x1 = 1
    · replace hf := (if_pos z9).symm.trans hf
      cases hf
      exact jr_zret K E (D_at DX12_throwsIf_q0 6 rfl) rfl z9 ⟨rfl, rfl⟩
    · exact jno (show (none : Option (Int32 × jH)) = some res from (if_neg z9).symm.trans hf)
  · replace hf := (if_neg c1).symm.trans hf
    refine jr_aload_n K (D_at DX12_throwsIf_q0 2 rfl) rfl rfl ?_
    refine jr_iload_n K (D_at DX12_throwsIf_q0 3 rfl) rfl rfl ?_
    obtain ⟨h6, e6, hf⟩ := jbind hf
    refine jr_putI K (D_at DX12_throwsIf_q0 4 rfl) fp_X12_3_10 (Or.inl rfl) e6 ?_
    refine jr_iload_n K (D_at DX12_throwsIf_q0 5 rfl) rfl rfl ?_
    by_cases z9 : x1 = 0 ∨ x1 = 1
    · replace hf := (if_pos z9).symm.trans hf
      cases hf
      exact jr_zret K E (D_at DX12_throwsIf_q0 6 rfl) rfl z9 ⟨rfl, rfl⟩
    · exact jno (show (none : Option (Int32 × jH)) = some res from (if_neg z9).symm.trans hf)
theorem C_X12_throwsIf {G : jG} {l : Launch} (d : Nat) {n : Nat} {a0 : Nat} {x1 : Int32} {x2 : Int32} {h : jH} {res : (Int32 × jH)} (hf : F_X12_throwsIf n a0 x1 x2 h = some res) : jC G l mX12_throwsIf (d) 0 0 [.ref a0, .int x1, .int x2] h (jPW res) :=
  jC.of pn_X12 (jcats rfl) (Nat.le_of_ble_eq_true rfl) (fun X K E => J_X12_throwsIf K n E a0 x1 x2 h hf)
set_option maxHeartbeats 400000 in
set_option maxRecDepth 100000 in
theorem J_X12_in {G : jG} {l : Launch} {d : Nat} {X : jX} {res : Int32} (K : jOK G l mX12_in (d) X) (n : Nat) (h : jH) (E : jEnd G mX12_in (jPR h res) X) (x0 : Int32) (x1 : Int32) (x2 : Int32) (hf : F_X12_in n x0 x1 x2 h = some res) : jJ G X h 0 0 0 [some (.int x0), some (.int x1), some (.int x2)] [] := by
  unfold F_X12_in at hf
  refine jr_iload_n K (D_at DX12_in_q0 0 rfl) rfl rfl ?_
  refine jr_iload_n K (D_at DX12_in_q0 1 rfl) rfl rfl ?_
  refine jr_icmp_lt K (D_at DX12_in_q0 2 rfl) (tgt := 14) (by decide) (fun c2 => ?_) (fun c2 => ?_)
  · replace hf := (if_pos c2).symm.trans hf
    refine jr_iconst K (D_at DX12_in_q0 8 rfl) (v := (0 : Int32)) (by decide) ?_
    cases hf
    exact jr_zret K E (D_at DX12_in_q0 9 rfl) rfl (Or.inl rfl) ⟨rfl, rfl⟩
  · replace hf := (if_neg c2).symm.trans hf
    refine jr_iload_n K (D_at DX12_in_q0 3 rfl) rfl rfl ?_
    refine jr_iload_n K (D_at DX12_in_q0 4 rfl) rfl rfl ?_
    refine jr_icmp_gt K (D_at DX12_in_q0 5 rfl) (tgt := 14) (by decide) (fun c7 => ?_) (fun c7 => ?_)
    · replace hf := (if_pos c7).symm.trans hf
      refine jr_iconst K (D_at DX12_in_q0 8 rfl) (v := (0 : Int32)) (by decide) ?_
      cases hf
      exact jr_zret K E (D_at DX12_in_q0 9 rfl) rfl (Or.inl rfl) ⟨rfl, rfl⟩
    · replace hf := (if_neg c7).symm.trans hf
      refine jr_iconst K (D_at DX12_in_q0 6 rfl) (v := (1 : Int32)) (by decide) ?_
      refine jr_goto K (D_at DX12_in_q0 7 rfl) (tgt := 15) (by decide) ?_
      cases hf
      exact jr_zret K E (D_at DX12_in_q0 9 rfl) rfl (Or.inr rfl) ⟨rfl, rfl⟩
theorem C_X12_in {G : jG} {l : Launch} (d : Nat) {n : Nat} {x0 : Int32} {x1 : Int32} {x2 : Int32} {h : jH} {res : Int32} (hf : F_X12_in n x0 x1 x2 h = some res) : jC G l mX12_in (d) 0 0 [.int x0, .int x1, .int x2] h (jPR h res) :=
  jC.of pn_X12 (jcats rfl) (Nat.le_of_ble_eq_true rfl) (fun X K E => J_X12_in K n h E x0 x1 x2 hf)
set_option maxHeartbeats 400000 in
set_option maxRecDepth 100000 in
theorem J_X12_has {G : jG} {l : Launch} {d : Nat} {X : jX} {res : Int32} (K : jOK G l mX12_has (d) X) (n : Nat) (h : jH) (E : jEnd G mX12_has (jPR h res) X) (x0 : Int32) (x1 : Int32) (hf : F_X12_has n x0 x1 h = some res) : jJ G X h 0 0 0 [some (.int x0), some (.int x1)] [] := by
  unfold F_X12_has at hf
  refine jr_iload_n K (D_at DX12_has_q0 0 rfl) rfl rfl ?_
  refine jr_iload_n K (D_at DX12_has_q0 1 rfl) rfl rfl ?_
  refine jr_ishr K (D_at DX12_has_q0 2 rfl) ?_
  refine jr_iconst K (D_at DX12_has_q0 3 rfl) (v := (1 : Int32)) (by decide) ?_
  refine jr_iand K (D_at DX12_has_q0 4 rfl) ?_
  refine jr_iconst K (D_at DX12_has_q0 5 rfl) (v := (1 : Int32)) (by decide) ?_
  refine jr_icmp_ne K (D_at DX12_has_q0 6 rfl) (tgt := 13) (by decide) (fun c6 => ?_) (fun c6 => ?_)
  · replace hf := (if_neg c6).symm.trans hf
    refine jr_iconst K (D_at DX12_has_q0 9 rfl) (v := (0 : Int32)) (by decide) ?_
    cases hf
    exact jr_zret K E (D_at DX12_has_q0 10 rfl) rfl (Or.inl rfl) ⟨rfl, rfl⟩
  · replace hf := (if_pos c6).symm.trans hf
    refine jr_iconst K (D_at DX12_has_q0 7 rfl) (v := (1 : Int32)) (by decide) ?_
    refine jr_goto K (D_at DX12_has_q0 8 rfl) (tgt := 14) (by decide) ?_
    cases hf
    exact jr_zret K E (D_at DX12_has_q0 10 rfl) rfl (Or.inr rfl) ⟨rfl, rfl⟩
theorem C_X12_has {G : jG} {l : Launch} (d : Nat) {n : Nat} {x0 : Int32} {x1 : Int32} {h : jH} {res : Int32} (hf : F_X12_has n x0 x1 h = some res) : jC G l mX12_has (d) 0 0 [.int x0, .int x1] h (jPR h res) :=
  jC.of pn_X12 (jcats rfl) (Nat.le_of_ble_eq_true rfl) (fun X K E => J_X12_has K n h E x0 x1 hf)
set_option maxHeartbeats 400000 in
set_option maxRecDepth 100000 in
theorem J_X12_init {G : jG} {l : Launch} {d : Nat} {X : jX} {res : jH} (K : jOK G l mX12_init (d + 1) X) (n : Nat) (E : jEnd G mX12_init (jPV res) X) (a0 : Nat) (h : jH) (hf : F_X12_init n a0 h = some res) : jJ G X h 11 11457 0 [some (.ref a0)] [] := by
  unfold F_X12_init at hf
  refine jr_aload_n K (D_at DX12_init_q0 0 rfl) rfl rfl ?_
  refine jr_objInit K (D_at DX12_init_q0 1 rfl) oi_X12_7 (by exact Nat.le_of_ble_eq_true rfl) ?_
  refine jr_aload_n K (D_at DX12_init_q0 2 rfl) rfl rfl ?_
  refine jr_sipush K (D_at DX12_init_q0 3 rfl) (v := (2133 : Int32)) (by decide) ?_
  obtain ⟨h8, e8, hf⟩ := jbind hf
  refine jr_newIE (N := 2133) K (D_at DX12_init_q0 4 rfl) ac_int (by decide) (by decide) (by decide) (kc := 10) (ks := 9324) e8 ?_
  obtain ⟨h10, e10, hf⟩ := jbind hf
  refine jr_putA K (D_at DX12_init_q0 5 rfl) fp_X12_13_10 (Or.inr rfl) e10 ?_
  refine jr_aload_n K (D_at DX12_init_q0 6 rfl) rfl rfl ?_
  refine jr_sipush K (D_at DX12_init_q0 7 rfl) (v := (1284 : Int32)) (by decide) ?_
  obtain ⟨h17, e17, hf⟩ := jbind hf
  refine jr_newIE (N := 1284) K (D_at DX12_init_q0 8 rfl) ac_int (by decide) (by decide) (by decide) (kc := 9) (ks := 8040) e17 ?_
  obtain ⟨h19, e19, hf⟩ := jbind hf
  refine jr_putA K (D_at DX12_init_q0 9 rfl) fp_X12_17_10 (Or.inr rfl) e19 ?_
  refine jr_aload_n K (D_at DX12_init_q0 10 rfl) rfl rfl ?_
  refine jr_sipush K (D_at DX12_init_q0 11 rfl) (v := (1284 : Int32)) (by decide) ?_
  obtain ⟨h26, e26, hf⟩ := jbind hf
  refine jr_newIE (N := 1284) K (D_at DX12_init_q1 0 rfl) ac_int (by decide) (by decide) (by decide) (kc := 8) (ks := 6756) e26 ?_
  obtain ⟨h28, e28, hf⟩ := jbind hf
  refine jr_putA K (D_at DX12_init_q1 1 rfl) fp_X12_20_10 (Or.inr rfl) e28 ?_
  refine jr_aload_n K (D_at DX12_init_q1 2 rfl) rfl rfl ?_
  refine jr_sipush K (D_at DX12_init_q1 3 rfl) (v := (435 : Int32)) (by decide) ?_
  obtain ⟨h35, e35, hf⟩ := jbind hf
  refine jr_newIE (N := 435) K (D_at DX12_init_q1 4 rfl) ac_int (by decide) (by decide) (by decide) (kc := 7) (ks := 6321) e35 ?_
  obtain ⟨h37, e37, hf⟩ := jbind hf
  refine jr_putA K (D_at DX12_init_q1 5 rfl) fp_X12_23_10 (Or.inr rfl) e37 ?_
  refine jr_aload_n K (D_at DX12_init_q1 6 rfl) rfl rfl ?_
  refine jr_sipush K (D_at DX12_init_q1 7 rfl) (v := (5220 : Int32)) (by decide) ?_
  obtain ⟨h44, e44, hf⟩ := jbind hf
  refine jr_newIE (N := 5220) K (D_at DX12_init_q1 8 rfl) ac_int (by decide) (by decide) (by decide) (kc := 6) (ks := 1101) e44 ?_
  obtain ⟨h46, e46, hf⟩ := jbind hf
  refine jr_putA K (D_at DX12_init_q1 9 rfl) fp_X12_26_10 (Or.inr rfl) e46 ?_
  refine jr_aload_n K (D_at DX12_init_q1 10 rfl) rfl rfl ?_
  refine jr_sipush K (D_at DX12_init_q1 11 rfl) (v := (400 : Int32)) (by decide) ?_
  obtain ⟨h53, e53, hf⟩ := jbind hf
  refine jr_newBE (N := 400) K (D_at DX12_init_q2 0 rfl) ac_byte (by decide) (by decide) (by decide) (kc := 5) (ks := 701) e53 ?_
  obtain ⟨h55, e55, hf⟩ := jbind hf
  refine jr_putA K (D_at DX12_init_q2 1 rfl) fp_X12_29_10 (Or.inr rfl) e55 ?_
  refine jr_aload_n K (D_at DX12_init_q2 2 rfl) rfl rfl ?_
  refine jr_iconst K (D_at DX12_init_q2 3 rfl) (v := (-1 : Int32)) (by decide) ?_
  obtain ⟨h60, e60, hf⟩ := jbind hf
  refine jr_putI K (D_at DX12_init_q2 4 rfl) fp_X12_33_10 (Or.inl rfl) e60 ?_
  refine jr_aload_n K (D_at DX12_init_q2 5 rfl) rfl rfl ?_
  refine jr_iconst K (D_at DX12_init_q2 6 rfl) (v := (5 : Int32)) (by decide) ?_
  obtain ⟨h65, e65, hf⟩ := jbind hf
  refine jr_newIE (N := 5) K (D_at DX12_init_q2 7 rfl) ac_int (by decide) (by decide) (by decide) (kc := 4) (ks := 696) e65 ?_
  obtain ⟨h67, e67, hf⟩ := jbind hf
  refine jr_putA K (D_at DX12_init_q2 8 rfl) fp_X12_36_10 (Or.inr rfl) e67 ?_
  refine jr_aload_n K (D_at DX12_init_q2 9 rfl) rfl rfl ?_
  refine jr_sipush K (D_at DX12_init_q2 10 rfl) (v := (400 : Int32)) (by decide) ?_
  obtain ⟨h74, e74, hf⟩ := jbind hf
  refine jr_newIE (N := 400) K (D_at DX12_init_q2 11 rfl) ac_int (by decide) (by decide) (by decide) (kc := 3) (ks := 296) e74 ?_
  obtain ⟨h76, e76, hf⟩ := jbind hf
  refine jr_putA K (D_at DX12_init_q3 0 rfl) fp_X12_39_10 (Or.inr rfl) e76 ?_
  refine jr_aload_n K (D_at DX12_init_q3 1 rfl) rfl rfl ?_
  refine jr_sipush K (D_at DX12_init_q3 2 rfl) (v := (256 : Int32)) (by decide) ?_
  obtain ⟨h83, e83, hf⟩ := jbind hf
  refine jr_newZE (N := 256) K (D_at DX12_init_q3 3 rfl) ac_boolean (by decide) (by decide) (by decide) (kc := 2) (ks := 40) e83 ?_
  obtain ⟨h85, e85, hf⟩ := jbind hf
  refine jr_putA K (D_at DX12_init_q3 4 rfl) fp_X12_42_10 (Or.inr rfl) e85 ?_
  refine jr_aload_n K (D_at DX12_init_q3 5 rfl) rfl rfl ?_
  refine jr_bipush K (D_at DX12_init_q3 6 rfl) (v := (32 : Int32)) (by decide) ?_
  obtain ⟨h91, e91, hf⟩ := jbind hf
  refine jr_newIE (N := 32) K (D_at DX12_init_q3 7 rfl) ac_int (by decide) (by decide) (by decide) (kc := 1) (ks := 8) e91 ?_
  obtain ⟨h93, e93, hf⟩ := jbind hf
  refine jr_putA K (D_at DX12_init_q3 8 rfl) fp_X12_46_10 (Or.inr rfl) e93 ?_
  refine jr_aload_n K (D_at DX12_init_q3 9 rfl) rfl rfl ?_
  refine jr_bipush K (D_at DX12_init_q3 10 rfl) (v := (8 : Int32)) (by decide) ?_
  obtain ⟨h99, e99, hf⟩ := jbind hf
  refine jr_newIE (N := 8) K (D_at DX12_init_q3 11 rfl) ac_int (by decide) (by decide) (by decide) (kc := 0) (ks := 0) e99 ?_
  obtain ⟨h101, e101, hf⟩ := jbind hf
  refine jr_putA K (D_at DX12_init_q4 0 rfl) fp_X12_49_10 (Or.inr rfl) e101 ?_
  refine jr_aload_n K (D_at DX12_init_q4 1 rfl) rfl rfl ?_
  obtain ⟨p105, e105, hf⟩ := jbind hf
  refine jr_getR K (D_at DX12_init_q4 2 rfl) fg_X12_13_10 e105 ?_
  refine jr_iconst K (D_at DX12_init_q4 3 rfl) (v := (5 : Int32)) (by decide) ?_
  refine jr_bipush K (D_at DX12_init_q4 4 rfl) (v := (16 : Int32)) (by decide) ?_
  obtain ⟨h111, e111, hf⟩ := jbind hf
  refine jr_iast K (D_at DX12_init_q4 5 rfl) e111 ?_
  refine jr_aload_n K (D_at DX12_init_q4 6 rfl) rfl rfl ?_
  obtain ⟨p113, e113, hf⟩ := jbind hf
  refine jr_getR K (D_at DX12_init_q4 7 rfl) fg_X12_13_10 e113 ?_
  refine jr_bipush K (D_at DX12_init_q4 8 rfl) (v := (6 : Int32)) (by decide) ?_
  refine jr_bipush K (D_at DX12_init_q4 9 rfl) (v := (8 : Int32)) (by decide) ?_
  obtain ⟨h120, e120, hf⟩ := jbind hf
  refine jr_iast K (D_at DX12_init_q4 10 rfl) e120 ?_
  refine jr_aload_n K (D_at DX12_init_q4 11 rfl) rfl rfl ?_
  obtain ⟨p122, e122, hf⟩ := jbind hf
  refine jr_getR K (D_at DX12_init_q5 0 rfl) fg_X12_13_10 e122 ?_
  refine jr_bipush K (D_at DX12_init_q5 1 rfl) (v := (10 : Int32)) (by decide) ?_
  refine jr_iconst K (D_at DX12_init_q5 2 rfl) (v := (1 : Int32)) (by decide) ?_
  obtain ⟨h128, e128, hf⟩ := jbind hf
  refine jr_iast K (D_at DX12_init_q5 3 rfl) e128 ?_
  cases hf
  exact jr_vret K E (D_at DX12_init_1_q0 0 rfl) rfl ⟨rfl, rfl⟩
theorem C_X12_init {G : jG} {l : Launch} (d : Nat) {n : Nat} {a0 : Nat} {h : jH} {res : jH} (hf : F_X12_init n a0 h = some res) : jC G l mX12_init (d + 1) 11 11457 [.ref a0] h (jPV res) :=
  jC.of pn_X12 (jcats rfl) (Nat.le_of_ble_eq_true rfl) (fun X K E => J_X12_init K n E a0 h hf)
set_option maxHeartbeats 400000 in
set_option maxRecDepth 100000 in
theorem J_X12_image_7_b {G : jG} {l : Launch} {d : Nat} {X : jX} {res : jH} (K : jOK G l mX12_image (d) X) (n : Nat) (rc7 : Nat → Int32 → jH → Option jH) (hr7 : ∀ (a0 : Nat) (x1 : Int32) (h : jH), rc7 a0 x1 h = some res → jJ G X h 0 0 7 [some (.ref a0), some (.int x1)] []) (E : jEnd G mX12_image (jPV res) X) (a0 : Nat) (x1 : Int32) (h : jH) (hf : F_X12_image_7_b n rc7 a0 x1 h = some res) : jJ G X h 0 0 7 [some (.ref a0), some (.int x1)] [] := by
  unfold F_X12_image_7_b at hf
  refine jr_iload_n K (D_at DX12_image_q0 5 rfl) rfl rfl ?_
  refine jr_sipush K (D_at DX12_image_q0 6 rfl) (v := (1284 : Int32)) (by decide) ?_
  refine jr_icmp_ge K (D_at DX12_image_q0 7 rfl) (tgt := 32) (by decide) (fun c11 => ?_) (fun c11 => ?_)
  · replace hf := (if_pos c11).symm.trans hf
    refine jr_aload_n K (D_at DX12_image_q1 6 rfl) rfl rfl ?_
    refine jr_iconst K (D_at DX12_image_q1 7 rfl) (v := (1 : Int32)) (by decide) ?_
    obtain ⟨h34, e34, hf⟩ := jbind hf
    refine jr_putZ K (D_at DX12_image_q1 8 rfl) fp_X12_52_10 (Or.inl rfl) (Or.inr rfl) e34 ?_
    cases hf
    exact jr_vret K E (D_at DX12_image_q1 9 rfl) rfl ⟨rfl, rfl⟩
  · replace hf := (if_neg c11).symm.trans hf
    refine jr_aload_n K (D_at DX12_image_q0 8 rfl) rfl rfl ?_
    obtain ⟨p15, e15, hf⟩ := jbind hf
    refine jr_getR K (D_at DX12_image_q0 9 rfl) fg_X12_17_10 e15 ?_
    refine jr_iload_n K (D_at DX12_image_q0 10 rfl) rfl rfl ?_
    refine jr_aload_n K (D_at DX12_image_q0 11 rfl) rfl rfl ?_
    obtain ⟨p20, e20, hf⟩ := jbind hf
    refine jr_getR K (D_at DX12_image_q1 0 rfl) fg_X12_13_10 e20 ?_
    refine jr_iload_n K (D_at DX12_image_q1 1 rfl) rfl rfl ?_
    obtain ⟨v24, e24, hf⟩ := jbind hf
    refine jr_iald K (D_at DX12_image_q1 2 rfl) e24 ?_
    obtain ⟨h25, e25, hf⟩ := jbind hf
    refine jr_iast K (D_at DX12_image_q1 3 rfl) e25 ?_
    refine jr_iinc K (D_at DX12_image_q1 4 rfl) (i := 1) rfl (v := x1 + (1 : Int32)) (jinc (by decide)) (by decide) (L2 := [_, _]) rfl ?_
    refine jr_goto K (D_at DX12_image_q1 5 rfl) (tgt := 7) (by decide) ?_
    refine jr_keep [true, true] ?_
    exact hr7 a0 (x1 + (1 : Int32)) h25 hf
theorem J_X12_image_7 {G : jG} {l : Launch} {d : Nat} {X : jX} {res : jH} (K : jOK G l mX12_image (d) X) (n : Nat) (E : jEnd G mX12_image (jPV res) X) (k : Nat) : ∀ (a0 : Nat) (x1 : Int32) (h : jH), F_X12_image_7 n k a0 x1 h = some res → jJ G X h 0 0 7 [some (.ref a0), some (.int x1)] [] := by
  induction k with
  | zero =>
    intro a0 x1 h hf
    exact jno (show (none : Option jH) = some res from hf)
  | succ k ih =>
    intro a0 x1 h hf
    exact J_X12_image_7_b K n (F_X12_image_7 n k) ih E a0 x1 h hf
set_option maxHeartbeats 400000 in
set_option maxRecDepth 100000 in
theorem J_X12_image {G : jG} {l : Launch} {d : Nat} {X : jX} {res : jH} (K : jOK G l mX12_image (d) X) (n : Nat) (E : jEnd G mX12_image (jPV res) X) (a0 : Nat) (h : jH) (hf : F_X12_image n a0 h = some res) : jJ G X h 0 0 0 [some (.ref a0), none] [] := by
  unfold F_X12_image at hf
  refine jr_aload_n K (D_at DX12_image_q0 0 rfl) rfl rfl ?_
  refine jr_iconst K (D_at DX12_image_q0 1 rfl) (v := (0 : Int32)) (by decide) ?_
  obtain ⟨h2, e2, hf⟩ := jbind hf
  refine jr_putI K (D_at DX12_image_q0 2 rfl) fp_X12_3_10 (Or.inl rfl) e2 ?_
  refine jr_iconst K (D_at DX12_image_q0 3 rfl) (v := (0 : Int32)) (by decide) ?_
  refine jr_istore_n K (D_at DX12_image_q0 4 rfl) (i := 1) rfl (by decide) (L2 := [_, _]) rfl ?_
  refine jr_keep [true, true] ?_
  exact J_X12_image_7 K n E n a0 (0 : Int32) h2 hf
theorem C_X12_image {G : jG} {l : Launch} (d : Nat) {n : Nat} {a0 : Nat} {h : jH} {res : jH} (hf : F_X12_image n a0 h = some res) : jC G l mX12_image (d) 0 0 [.ref a0] h (jPV res) :=
  jC.of pn_X12 (jcats rfl) (Nat.le_of_ble_eq_true rfl) (fun X K E => J_X12_image K n E a0 h hf)
set_option maxHeartbeats 400000 in
set_option maxRecDepth 100000 in
theorem J_X12_back_16_b {G : jG} {l : Launch} {d : Nat} {X : jX} {res : (Int32 × jH)} (K : jOK G l mX12_back (d) X) (n : Nat) (rc16 : Nat → Int32 → jH → Option (Int32 × jH)) (hr16 : ∀ (a0 : Nat) (x1 : Int32) (h : jH), rc16 a0 x1 h = some res → jJ G X h 0 0 16 [some (.ref a0), some (.int x1)] []) (E : jEnd G mX12_back (jPW res) X) (a0 : Nat) (x1 : Int32) (h : jH) (hf : F_X12_back_16_b n rc16 a0 x1 h = some res) : jJ G X h 0 0 16 [some (.ref a0), some (.int x1)] [] := by
  unfold F_X12_back_16_b at hf
  refine jr_iload_n K (D_at DX12_back_q0 10 rfl) rfl rfl ?_
  refine jr_sipush K (D_at DX12_back_q0 11 rfl) (v := (1284 : Int32)) (by decide) ?_
  refine jr_icmp_ge K (D_at DX12_back_q1 0 rfl) (tgt := 41) (by decide) (fun c20 => ?_) (fun c20 => ?_)
  · replace hf := (if_pos c20).symm.trans hf
    refine jr_aload_n K (D_at DX12_back_q1 11 rfl) rfl rfl ?_
    refine jr_iconst K (D_at DX12_back_q2 0 rfl) (v := (0 : Int32)) (by decide) ?_
    obtain ⟨h43, e43, hf⟩ := jbind hf
    refine jr_putI K (D_at DX12_back_q2 1 rfl) fp_X12_56_10 (Or.inl rfl) e43 ?_
    refine jr_iconst K (D_at DX12_back_q2 2 rfl) (v := (1 : Int32)) (by decide) ?_
    cases hf
    exact jr_zret K E (D_at DX12_back_q2 3 rfl) rfl (Or.inr rfl) ⟨rfl, rfl⟩
  · replace hf := (if_neg c20).symm.trans hf
    refine jr_aload_n K (D_at DX12_back_q1 1 rfl) rfl rfl ?_
    obtain ⟨p24, e24, hf⟩ := jbind hf
    refine jr_getR K (D_at DX12_back_q1 2 rfl) fg_X12_13_10 e24 ?_
    refine jr_iload_n K (D_at DX12_back_q1 3 rfl) rfl rfl ?_
    refine jr_aload_n K (D_at DX12_back_q1 4 rfl) rfl rfl ?_
    obtain ⟨p29, e29, hf⟩ := jbind hf
    refine jr_getR K (D_at DX12_back_q1 5 rfl) fg_X12_17_10 e29 ?_
    refine jr_iload_n K (D_at DX12_back_q1 6 rfl) rfl rfl ?_
    obtain ⟨v33, e33, hf⟩ := jbind hf
    refine jr_iald K (D_at DX12_back_q1 7 rfl) e33 ?_
    obtain ⟨h34, e34, hf⟩ := jbind hf
    refine jr_iast K (D_at DX12_back_q1 8 rfl) e34 ?_
    refine jr_iinc K (D_at DX12_back_q1 9 rfl) (i := 1) rfl (v := x1 + (1 : Int32)) (jinc (by decide)) (by decide) (L2 := [_, _]) rfl ?_
    refine jr_goto K (D_at DX12_back_q1 10 rfl) (tgt := 16) (by decide) ?_
    refine jr_keep [true, true] ?_
    exact hr16 a0 (x1 + (1 : Int32)) h34 hf
theorem J_X12_back_16 {G : jG} {l : Launch} {d : Nat} {X : jX} {res : (Int32 × jH)} (K : jOK G l mX12_back (d) X) (n : Nat) (E : jEnd G mX12_back (jPW res) X) (k : Nat) : ∀ (a0 : Nat) (x1 : Int32) (h : jH), F_X12_back_16 n k a0 x1 h = some res → jJ G X h 0 0 16 [some (.ref a0), some (.int x1)] [] := by
  induction k with
  | zero =>
    intro a0 x1 h hf
    exact jno (show (none : Option (Int32 × jH)) = some res from hf)
  | succ k ih =>
    intro a0 x1 h hf
    exact J_X12_back_16_b K n (F_X12_back_16 n k) ih E a0 x1 h hf
set_option maxHeartbeats 400000 in
set_option maxRecDepth 100000 in
theorem J_X12_back {G : jG} {l : Launch} {d : Nat} {X : jX} {res : (Int32 × jH)} (K : jOK G l mX12_back (d) X) (n : Nat) (E : jEnd G mX12_back (jPW res) X) (a0 : Nat) (h : jH) (hf : F_X12_back n a0 h = some res) : jJ G X h 0 0 0 [some (.ref a0), none] [] := by
  unfold F_X12_back at hf
  refine jr_aload_n K (D_at DX12_back_q0 0 rfl) rfl rfl ?_
  refine jr_iconst K (D_at DX12_back_q0 1 rfl) (v := (0 : Int32)) (by decide) ?_
  obtain ⟨h2, e2, hf⟩ := jbind hf
  refine jr_putI K (D_at DX12_back_q0 2 rfl) fp_X12_3_10 (Or.inl rfl) e2 ?_
  refine jr_aload_n K (D_at DX12_back_q0 3 rfl) rfl rfl ?_
  obtain ⟨v6, e6, hf⟩ := jbind hf
  refine jr_getI K (D_at DX12_back_q0 4 rfl) fg_X12_52_10 e6 ?_
  refine jr_if_ne K (D_at DX12_back_q0 5 rfl) (tgt := 14) (by decide) (fun c9 => ?_) (fun c9 => ?_)
  · replace hf := (if_neg c9).symm.trans hf
    refine jr_iconst K (D_at DX12_back_q0 8 rfl) (v := (0 : Int32)) (by decide) ?_
    refine jr_istore_n K (D_at DX12_back_q0 9 rfl) (i := 1) rfl (by decide) (L2 := [_, _]) rfl ?_
    refine jr_keep [true, true] ?_
    exact J_X12_back_16 K n E n a0 (0 : Int32) h2 hf
  · replace hf := (if_pos c9).symm.trans hf
    refine jr_iconst K (D_at DX12_back_q0 6 rfl) (v := (0 : Int32)) (by decide) ?_
    cases hf
    exact jr_zret K E (D_at DX12_back_q0 7 rfl) rfl (Or.inl rfl) ⟨rfl, rfl⟩
theorem C_X12_back {G : jG} {l : Launch} (d : Nat) {n : Nat} {a0 : Nat} {h : jH} {res : (Int32 × jH)} (hf : F_X12_back n a0 h = some res) : jC G l mX12_back (d) 0 0 [.ref a0] h (jPW res) :=
  jC.of pn_X12 (jcats rfl) (Nat.le_of_ble_eq_true rfl) (fun X K E => J_X12_back K n E a0 h hf)
set_option maxHeartbeats 400000 in
set_option maxRecDepth 100000 in
theorem J_X12_remembers_55_b {G : jG} {l : Launch} {d : Nat} {X : jX} {res : jH} (K : jOK G l mX12_remembers (d) X) (n : Nat) (rc55 : Nat → Int32 → jH → Option jH) (hr55 : ∀ (a0 : Nat) (x1 : Int32) (h : jH), rc55 a0 x1 h = some res → jJ G X h 0 0 55 [some (.ref a0), some (.int x1)] []) (E : jEnd G mX12_remembers (jPV res) X) (a0 : Nat) (x1 : Int32) (h : jH) (hf : F_X12_remembers_55_b n rc55 a0 x1 h = some res) : jJ G X h 0 0 55 [some (.ref a0), some (.int x1)] [] := by
  unfold F_X12_remembers_55_b at hf
  refine jr_iload_n K (D_at DX12_remembers_q2 6 rfl) rfl rfl ?_
  refine jr_sipush K (D_at DX12_remembers_q2 7 rfl) (v := (435 : Int32)) (by decide) ?_
  refine jr_icmp_ge K (D_at DX12_remembers_q2 8 rfl) (tgt := 91) (by decide) (fun c59 => ?_) (fun c59 => ?_)
  · replace hf := (if_pos c59).symm.trans hf
    cases hf
    exact jr_vret K E (D_at DX12_remembers_q4 2 rfl) rfl ⟨rfl, rfl⟩
  · replace hf := (if_neg c59).symm.trans hf
    refine jr_aload_n K (D_at DX12_remembers_q2 9 rfl) rfl rfl ?_
    obtain ⟨p63, e63, hf⟩ := jbind hf
    refine jr_getR K (D_at DX12_remembers_q2 10 rfl) fg_X12_26_10 e63 ?_
    refine jr_sipush K (D_at DX12_remembers_q2 11 rfl) (v := (435 : Int32)) (by decide) ?_
    refine jr_aload_n K (D_at DX12_remembers_q3 0 rfl) rfl rfl ?_
    obtain ⟨v70, e70, hf⟩ := jbind hf
    refine jr_getI K (D_at DX12_remembers_q3 1 rfl) fg_X12_56_10 e70 ?_
    refine jr_iconst K (D_at DX12_remembers_q3 2 rfl) (v := (1 : Int32)) (by decide) ?_
    refine jr_isub K (D_at DX12_remembers_q3 3 rfl) ?_
    refine jr_imul K (D_at DX12_remembers_q3 4 rfl) ?_
    refine jr_iload_n K (D_at DX12_remembers_q3 5 rfl) rfl rfl ?_
    refine jr_iadd K (D_at DX12_remembers_q3 6 rfl) ?_
    refine jr_aload_n K (D_at DX12_remembers_q3 7 rfl) rfl rfl ?_
    obtain ⟨p79, e79, hf⟩ := jbind hf
    refine jr_getR K (D_at DX12_remembers_q3 8 rfl) fg_X12_13_10 e79 ?_
    refine jr_iload_n K (D_at DX12_remembers_q3 9 rfl) rfl rfl ?_
    obtain ⟨v83, e83, hf⟩ := jbind hf
    refine jr_iald K (D_at DX12_remembers_q3 10 rfl) e83 ?_
    obtain ⟨h84, e84, hf⟩ := jbind hf
    refine jr_iast K (D_at DX12_remembers_q3 11 rfl) e84 ?_
    refine jr_iinc K (D_at DX12_remembers_q4 0 rfl) (i := 1) rfl (v := x1 + (1 : Int32)) (jinc (by decide)) (by decide) (L2 := [_, _]) rfl ?_
    refine jr_goto K (D_at DX12_remembers_q4 1 rfl) (tgt := 55) (by decide) ?_
    refine jr_keep [true, true] ?_
    exact hr55 a0 (x1 + (1 : Int32)) h84 hf
theorem J_X12_remembers_55 {G : jG} {l : Launch} {d : Nat} {X : jX} {res : jH} (K : jOK G l mX12_remembers (d) X) (n : Nat) (E : jEnd G mX12_remembers (jPV res) X) (k : Nat) : ∀ (a0 : Nat) (x1 : Int32) (h : jH), F_X12_remembers_55 n k a0 x1 h = some res → jJ G X h 0 0 55 [some (.ref a0), some (.int x1)] [] := by
  induction k with
  | zero =>
    intro a0 x1 h hf
    exact jno (show (none : Option jH) = some res from hf)
  | succ k ih =>
    intro a0 x1 h hf
    exact J_X12_remembers_55_b K n (F_X12_remembers_55 n k) ih E a0 x1 h hf
set_option maxHeartbeats 400000 in
set_option maxRecDepth 100000 in
theorem J_X12_remembers_11_b {G : jG} {l : Launch} {d : Nat} {X : jX} {res : jH} (K : jOK G l mX12_remembers (d) X) (n : Nat) (rc11 : Nat → Int32 → jH → Option jH) (hr11 : ∀ (a0 : Nat) (x1 : Int32) (h : jH), rc11 a0 x1 h = some res → jJ G X h 0 0 11 [some (.ref a0), some (.int x1)] []) (E : jEnd G mX12_remembers (jPV res) X) (a0 : Nat) (x1 : Int32) (h : jH) (hf : F_X12_remembers_11_b n rc11 a0 x1 h = some res) : jJ G X h 0 0 11 [some (.ref a0), some (.int x1)] [] := by
  unfold F_X12_remembers_11_b at hf
  refine jr_iload_n K (D_at DX12_remembers_q0 6 rfl) rfl rfl ?_
  refine jr_sipush K (D_at DX12_remembers_q0 7 rfl) (v := (4785 : Int32)) (by decide) ?_
  refine jr_icmp_ge K (D_at DX12_remembers_q0 8 rfl) (tgt := 40) (by decide) (fun c15 => ?_) (fun c15 => ?_)
  · replace hf := (if_pos c15).symm.trans hf
    refine jr_goto K (D_at DX12_remembers_q1 9 rfl) (tgt := 53) (by decide) ?_
    refine jr_iconst K (D_at DX12_remembers_q2 4 rfl) (v := (0 : Int32)) (by decide) ?_
    refine jr_istore_n K (D_at DX12_remembers_q2 5 rfl) (i := 1) rfl (by decide) (L2 := [_, _]) rfl ?_
    refine jr_keep [true, true] ?_
    exact J_X12_remembers_55 K n E n a0 (0 : Int32) h hf
  · replace hf := (if_neg c15).symm.trans hf
    refine jr_aload_n K (D_at DX12_remembers_q0 9 rfl) rfl rfl ?_
    obtain ⟨p19, e19, hf⟩ := jbind hf
    refine jr_getR K (D_at DX12_remembers_q0 10 rfl) fg_X12_26_10 e19 ?_
    refine jr_iload_n K (D_at DX12_remembers_q0 11 rfl) rfl rfl ?_
    refine jr_aload_n K (D_at DX12_remembers_q1 0 rfl) rfl rfl ?_
    obtain ⟨p24, e24, hf⟩ := jbind hf
    refine jr_getR K (D_at DX12_remembers_q1 1 rfl) fg_X12_26_10 e24 ?_
    refine jr_iload_n K (D_at DX12_remembers_q1 2 rfl) rfl rfl ?_
    refine jr_sipush K (D_at DX12_remembers_q1 3 rfl) (v := (435 : Int32)) (by decide) ?_
    refine jr_iadd K (D_at DX12_remembers_q1 4 rfl) ?_
    obtain ⟨v32, e32, hf⟩ := jbind hf
    refine jr_iald K (D_at DX12_remembers_q1 5 rfl) e32 ?_
    obtain ⟨h33, e33, hf⟩ := jbind hf
    refine jr_iast K (D_at DX12_remembers_q1 6 rfl) e33 ?_
    refine jr_iinc K (D_at DX12_remembers_q1 7 rfl) (i := 1) rfl (v := x1 + (1 : Int32)) (jinc (by decide)) (by decide) (L2 := [_, _]) rfl ?_
    refine jr_goto K (D_at DX12_remembers_q1 8 rfl) (tgt := 11) (by decide) ?_
    refine jr_keep [true, true] ?_
    exact hr11 a0 (x1 + (1 : Int32)) h33 hf
theorem J_X12_remembers_11 {G : jG} {l : Launch} {d : Nat} {X : jX} {res : jH} (K : jOK G l mX12_remembers (d) X) (n : Nat) (E : jEnd G mX12_remembers (jPV res) X) (k : Nat) : ∀ (a0 : Nat) (x1 : Int32) (h : jH), F_X12_remembers_11 n k a0 x1 h = some res → jJ G X h 0 0 11 [some (.ref a0), some (.int x1)] [] := by
  induction k with
  | zero =>
    intro a0 x1 h hf
    exact jno (show (none : Option jH) = some res from hf)
  | succ k ih =>
    intro a0 x1 h hf
    exact J_X12_remembers_11_b K n (F_X12_remembers_11 n k) ih E a0 x1 h hf
set_option maxHeartbeats 400000 in
set_option maxRecDepth 100000 in
theorem J_X12_remembers {G : jG} {l : Launch} {d : Nat} {X : jX} {res : jH} (K : jOK G l mX12_remembers (d) X) (n : Nat) (E : jEnd G mX12_remembers (jPV res) X) (a0 : Nat) (h : jH) (hf : F_X12_remembers n a0 h = some res) : jJ G X h 0 0 0 [some (.ref a0), none] [] := by
  unfold F_X12_remembers at hf
  refine jr_aload_n K (D_at DX12_remembers_q0 0 rfl) rfl rfl ?_
  obtain ⟨v1, e1, hf⟩ := jbind hf
  refine jr_getI K (D_at DX12_remembers_q0 1 rfl) fg_X12_56_10 e1 ?_
  refine jr_bipush K (D_at DX12_remembers_q0 2 rfl) (v := (12 : Int32)) (by decide) ?_
  refine jr_icmp_ne K (D_at DX12_remembers_q0 3 rfl) (tgt := 43) (by decide) (fun c6 => ?_) (fun c6 => ?_)
  · replace hf := (if_neg c6).symm.trans hf
    refine jr_aload_n K (D_at DX12_remembers_q1 10 rfl) rfl rfl ?_
    refine jr_dup K (D_at DX12_remembers_q1 11 rfl) rfl ?_
    obtain ⟨v45, e45, hf⟩ := jbind hf
    refine jr_getI K (D_at DX12_remembers_q2 0 rfl) fg_X12_56_10 e45 ?_
    refine jr_iconst K (D_at DX12_remembers_q2 1 rfl) (v := (1 : Int32)) (by decide) ?_
    refine jr_iadd K (D_at DX12_remembers_q2 2 rfl) ?_
    obtain ⟨h50, e50, hf⟩ := jbind hf
    refine jr_putI K (D_at DX12_remembers_q2 3 rfl) fp_X12_56_10 (Or.inl rfl) e50 ?_
    refine jr_iconst K (D_at DX12_remembers_q2 4 rfl) (v := (0 : Int32)) (by decide) ?_
    refine jr_istore_n K (D_at DX12_remembers_q2 5 rfl) (i := 1) rfl (by decide) (L2 := [_, _]) rfl ?_
    refine jr_keep [true, true] ?_
    exact J_X12_remembers_55 K n E n a0 (0 : Int32) h50 hf
  · replace hf := (if_pos c6).symm.trans hf
    refine jr_iconst K (D_at DX12_remembers_q0 4 rfl) (v := (0 : Int32)) (by decide) ?_
    refine jr_istore_n K (D_at DX12_remembers_q0 5 rfl) (i := 1) rfl (by decide) (L2 := [_, _]) rfl ?_
    refine jr_keep [true, true] ?_
    exact J_X12_remembers_11 K n E n a0 (0 : Int32) h hf
theorem C_X12_remembers {G : jG} {l : Launch} (d : Nat) {n : Nat} {a0 : Nat} {h : jH} {res : jH} (hf : F_X12_remembers n a0 h = some res) : jC G l mX12_remembers (d) 0 0 [.ref a0] h (jPV res) :=
  jC.of pn_X12 (jcats rfl) (Nat.le_of_ble_eq_true rfl) (fun X K E => J_X12_remembers K n E a0 h hf)
set_option maxHeartbeats 400000 in
set_option maxRecDepth 100000 in
theorem J_X12_undo_26_b {G : jG} {l : Launch} {d : Nat} {X : jX} {res : (Int32 × jH)} (K : jOK G l mX12_undo (d) X) (n : Nat) (rc26 : Nat → Int32 → jH → Option (Int32 × jH)) (hr26 : ∀ (a0 : Nat) (x1 : Int32) (h : jH), rc26 a0 x1 h = some res → jJ G X h 0 0 26 [some (.ref a0), some (.int x1)] []) (E : jEnd G mX12_undo (jPW res) X) (a0 : Nat) (x1 : Int32) (h : jH) (hf : F_X12_undo_26_b n rc26 a0 x1 h = some res) : jJ G X h 0 0 26 [some (.ref a0), some (.int x1)] [] := by
  unfold F_X12_undo_26_b at hf
  refine jr_iload_n K (D_at DX12_undo_q1 4 rfl) rfl rfl ?_
  refine jr_sipush K (D_at DX12_undo_q1 5 rfl) (v := (435 : Int32)) (by decide) ?_
  refine jr_icmp_ge K (D_at DX12_undo_q1 6 rfl) (tgt := 60) (by decide) (fun c30 => ?_) (fun c30 => ?_)
  · replace hf := (if_pos c30).symm.trans hf
    refine jr_iconst K (D_at DX12_undo_q2 10 rfl) (v := (1 : Int32)) (by decide) ?_
    cases hf
    exact jr_zret K E (D_at DX12_undo_q2 11 rfl) rfl (Or.inr rfl) ⟨rfl, rfl⟩
  · replace hf := (if_neg c30).symm.trans hf
    refine jr_aload_n K (D_at DX12_undo_q1 7 rfl) rfl rfl ?_
    obtain ⟨p34, e34, hf⟩ := jbind hf
    refine jr_getR K (D_at DX12_undo_q1 8 rfl) fg_X12_13_10 e34 ?_
    refine jr_iload_n K (D_at DX12_undo_q1 9 rfl) rfl rfl ?_
    refine jr_aload_n K (D_at DX12_undo_q1 10 rfl) rfl rfl ?_
    obtain ⟨p39, e39, hf⟩ := jbind hf
    refine jr_getR K (D_at DX12_undo_q1 11 rfl) fg_X12_26_10 e39 ?_
    refine jr_sipush K (D_at DX12_undo_q2 0 rfl) (v := (435 : Int32)) (by decide) ?_
    refine jr_aload_n K (D_at DX12_undo_q2 1 rfl) rfl rfl ?_
    obtain ⟨v46, e46, hf⟩ := jbind hf
    refine jr_getI K (D_at DX12_undo_q2 2 rfl) fg_X12_56_10 e46 ?_
    refine jr_imul K (D_at DX12_undo_q2 3 rfl) ?_
    refine jr_iload_n K (D_at DX12_undo_q2 4 rfl) rfl rfl ?_
    refine jr_iadd K (D_at DX12_undo_q2 5 rfl) ?_
    obtain ⟨v52, e52, hf⟩ := jbind hf
    refine jr_iald K (D_at DX12_undo_q2 6 rfl) e52 ?_
    obtain ⟨h53, e53, hf⟩ := jbind hf
    refine jr_iast K (D_at DX12_undo_q2 7 rfl) e53 ?_
    refine jr_iinc K (D_at DX12_undo_q2 8 rfl) (i := 1) rfl (v := x1 + (1 : Int32)) (jinc (by decide)) (by decide) (L2 := [_, _]) rfl ?_
    refine jr_goto K (D_at DX12_undo_q2 9 rfl) (tgt := 26) (by decide) ?_
    refine jr_keep [true, true] ?_
    exact hr26 a0 (x1 + (1 : Int32)) h53 hf
theorem J_X12_undo_26 {G : jG} {l : Launch} {d : Nat} {X : jX} {res : (Int32 × jH)} (K : jOK G l mX12_undo (d) X) (n : Nat) (E : jEnd G mX12_undo (jPW res) X) (k : Nat) : ∀ (a0 : Nat) (x1 : Int32) (h : jH), F_X12_undo_26 n k a0 x1 h = some res → jJ G X h 0 0 26 [some (.ref a0), some (.int x1)] [] := by
  induction k with
  | zero =>
    intro a0 x1 h hf
    exact jno (show (none : Option (Int32 × jH)) = some res from hf)
  | succ k ih =>
    intro a0 x1 h hf
    exact J_X12_undo_26_b K n (F_X12_undo_26 n k) ih E a0 x1 h hf
set_option maxHeartbeats 400000 in
set_option maxRecDepth 100000 in
theorem J_X12_undo {G : jG} {l : Launch} {d : Nat} {X : jX} {res : (Int32 × jH)} (K : jOK G l mX12_undo (d) X) (n : Nat) (E : jEnd G mX12_undo (jPW res) X) (a0 : Nat) (h : jH) (hf : F_X12_undo n a0 h = some res) : jJ G X h 0 0 0 [some (.ref a0), none] [] := by
  unfold F_X12_undo at hf
  refine jr_aload_n K (D_at DX12_undo_q0 0 rfl) rfl rfl ?_
  refine jr_iconst K (D_at DX12_undo_q0 1 rfl) (v := (0 : Int32)) (by decide) ?_
  obtain ⟨h2, e2, hf⟩ := jbind hf
  refine jr_putI K (D_at DX12_undo_q0 2 rfl) fp_X12_3_10 (Or.inl rfl) e2 ?_
  refine jr_aload_n K (D_at DX12_undo_q0 3 rfl) rfl rfl ?_
  obtain ⟨v6, e6, hf⟩ := jbind hf
  refine jr_getI K (D_at DX12_undo_q0 4 rfl) fg_X12_56_10 e6 ?_
  refine jr_if_ne K (D_at DX12_undo_q0 5 rfl) (tgt := 14) (by decide) (fun c9 => ?_) (fun c9 => ?_)
  · replace hf := (if_neg c9).symm.trans hf
    refine jr_aload_n K (D_at DX12_undo_q0 8 rfl) rfl rfl ?_
    refine jr_dup K (D_at DX12_undo_q0 9 rfl) rfl ?_
    obtain ⟨v16, e16, hf⟩ := jbind hf
    refine jr_getI K (D_at DX12_undo_q0 10 rfl) fg_X12_56_10 e16 ?_
    refine jr_iconst K (D_at DX12_undo_q0 11 rfl) (v := (1 : Int32)) (by decide) ?_
    refine jr_isub K (D_at DX12_undo_q1 0 rfl) ?_
    obtain ⟨h21, e21, hf⟩ := jbind hf
    refine jr_putI K (D_at DX12_undo_q1 1 rfl) fp_X12_56_10 (Or.inl rfl) e21 ?_
    refine jr_iconst K (D_at DX12_undo_q1 2 rfl) (v := (0 : Int32)) (by decide) ?_
    refine jr_istore_n K (D_at DX12_undo_q1 3 rfl) (i := 1) rfl (by decide) (L2 := [_, _]) rfl ?_
    refine jr_keep [true, true] ?_
    exact J_X12_undo_26 K n E n a0 (0 : Int32) h21 hf
  · replace hf := (if_pos c9).symm.trans hf
    refine jr_iconst K (D_at DX12_undo_q0 6 rfl) (v := (0 : Int32)) (by decide) ?_
    cases hf
    exact jr_zret K E (D_at DX12_undo_q0 7 rfl) rfl (Or.inl rfl) ⟨rfl, rfl⟩
theorem C_X12_undo {G : jG} {l : Launch} (d : Nat) {n : Nat} {a0 : Nat} {h : jH} {res : (Int32 × jH)} (hf : F_X12_undo n a0 h = some res) : jC G l mX12_undo (d) 0 0 [.ref a0] h (jPW res) :=
  jC.of pn_X12 (jcats rfl) (Nat.le_of_ble_eq_true rfl) (fun X K E => J_X12_undo K n E a0 h hf)
set_option maxHeartbeats 400000 in
set_option maxRecDepth 100000 in
theorem J_X12_rings {G : jG} {l : Launch} {d : Nat} {X : jX} {res : Int32} (K : jOK G l mX12_rings (d) X) (n : Nat) (h : jH) (E : jEnd G mX12_rings (jPR h res) X) (a0 : Nat) (hf : F_X12_rings n a0 h = some res) : jJ G X h 0 0 0 [some (.ref a0)] [] := by
  unfold F_X12_rings at hf
  refine jr_aload_n K (D_at DX12_rings_q0 0 rfl) rfl rfl ?_
  obtain ⟨p1, e1, hf⟩ := jbind hf
  refine jr_getR K (D_at DX12_rings_q0 1 rfl) fg_X12_13_10 e1 ?_
  refine jr_iconst K (D_at DX12_rings_q0 2 rfl) (v := (0 : Int32)) (by decide) ?_
  obtain ⟨v5, e5, hf⟩ := jbind hf
  refine jr_iald K (D_at DX12_rings_q0 3 rfl) e5 ?_
  cases hf
  exact jr_iret K E (D_at DX12_rings_q0 4 rfl) rfl ⟨rfl, rfl⟩
theorem C_X12_rings {G : jG} {l : Launch} (d : Nat) {n : Nat} {a0 : Nat} {h : jH} {res : Int32} (hf : F_X12_rings n a0 h = some res) : jC G l mX12_rings (d) 0 0 [.ref a0] h (jPR h res) :=
  jC.of pn_X12 (jcats rfl) (Nat.le_of_ble_eq_true rfl) (fun X K E => J_X12_rings K n h E a0 hf)
set_option maxHeartbeats 400000 in
set_option maxRecDepth 100000 in
theorem J_X12_lastRing {G : jG} {l : Launch} {d : Nat} {X : jX} {res : Int32} (K : jOK G l mX12_lastRing (d + 1) X) (n : Nat) (h : jH) (E : jEnd G mX12_lastRing (jPR h res) X) (a0 : Nat) (hf : F_X12_lastRing n a0 h = some res) : jJ G X h 0 0 0 [some (.ref a0)] [] := by
  unfold F_X12_lastRing at hf
  refine jr_aload_n K (D_at DX12_lastRing_q0 0 rfl) rfl rfl ?_
  obtain ⟨v1, e1, hf⟩ := jbind hf
  obtain ⟨rc_1, e1⟩ := jcv_o e1
  refine jr_callV K (C_X12_rings (d) e1) (D_at DX12_lastRing_q0 1 rfl) cv_X12_59_X12_rings (As := []) (ci := 10) rfl rc_1 rfl rfl (by exact Nat.le_of_ble_eq_true rfl) (kc2 := 0) (ks2 := 0) rfl rfl (fun k9 h9 w9 => by cases w9.1) (fun r9 h9 w9 => ?_)
  obtain ⟨w1, w2⟩ := w9
  subst h9
  cases w1
  show jJ G X _ 0 0 _ _ (.int v1 :: _)
  refine jr_iconst K (D_at DX12_lastRing_q0 2 rfl) (v := (1 : Int32)) (by decide) ?_
  refine jr_isub K (D_at DX12_lastRing_q0 3 rfl) ?_
  cases hf
  exact jr_iret K E (D_at DX12_lastRing_q0 4 rfl) rfl ⟨rfl, rfl⟩
theorem C_X12_lastRing {G : jG} {l : Launch} (d : Nat) {n : Nat} {a0 : Nat} {h : jH} {res : Int32} (hf : F_X12_lastRing n a0 h = some res) : jC G l mX12_lastRing (d + 1) 0 0 [.ref a0] h (jPR h res) :=
  jC.of pn_X12 (jcats rfl) (Nat.le_of_ble_eq_true rfl) (fun X K E => J_X12_lastRing K n h E a0 hf)
set_option maxHeartbeats 400000 in
set_option maxRecDepth 100000 in
theorem J_X12_at {G : jG} {l : Launch} {d : Nat} {X : jX} {res : Int32} (K : jOK G l mX12_at (d) X) (n : Nat) (h : jH) (E : jEnd G mX12_at (jPR h res) X) (x0 : Int32) (x1 : Int32) (hf : F_X12_at n x0 x1 h = some res) : jJ G X h 0 0 0 [some (.int x0), some (.int x1)] [] := by
  unfold F_X12_at at hf
  refine jr_bipush K (D_at DX12_at_q0 0 rfl) (v := (11 : Int32)) (by decide) ?_
  refine jr_bipush K (D_at DX12_at_q0 1 rfl) (v := (8 : Int32)) (by decide) ?_
  refine jr_iload_n K (D_at DX12_at_q0 2 rfl) rfl rfl ?_
  refine jr_imul K (D_at DX12_at_q0 3 rfl) ?_
  refine jr_iadd K (D_at DX12_at_q0 4 rfl) ?_
  refine jr_iload_n K (D_at DX12_at_q0 5 rfl) rfl rfl ?_
  refine jr_iadd K (D_at DX12_at_q0 6 rfl) ?_
  cases hf
  exact jr_iret K E (D_at DX12_at_q0 7 rfl) rfl ⟨rfl, rfl⟩
theorem C_X12_at {G : jG} {l : Launch} (d : Nat) {n : Nat} {x0 : Int32} {x1 : Int32} {h : jH} {res : Int32} (hf : F_X12_at n x0 x1 h = some res) : jC G l mX12_at (d) 0 0 [.int x0, .int x1] h (jPR h res) :=
  jC.of pn_X12 (jcats rfl) (Nat.le_of_ble_eq_true rfl) (fun X K E => J_X12_at K n h E x0 x1 hf)
set_option maxHeartbeats 400000 in
set_option maxRecDepth 100000 in
theorem J_X12_of {G : jG} {l : Launch} {d : Nat} {X : jX} {res : Int32} (K : jOK G l mX12_of (d + 1) X) (n : Nat) (h : jH) (E : jEnd G mX12_of (jPR h res) X) (a0 : Nat) (x1 : Int32) (x2 : Int32) (hf : F_X12_of n a0 x1 x2 h = some res) : jJ G X h 0 0 0 [some (.ref a0), some (.int x1), some (.int x2)] [] := by
  unfold F_X12_of at hf
  refine jr_aload_n K (D_at DX12_of_q0 0 rfl) rfl rfl ?_
  obtain ⟨p1, e1, hf⟩ := jbind hf
  refine jr_getR K (D_at DX12_of_q0 1 rfl) fg_X12_13_10 e1 ?_
  refine jr_iload_n K (D_at DX12_of_q0 2 rfl) rfl rfl ?_
  refine jr_iload_n K (D_at DX12_of_q0 3 rfl) rfl rfl ?_
  obtain ⟨v6, e6, hf⟩ := jbind hf
  refine jr_callS K (C_X12_at (d) e6) (D_at DX12_of_q0 4 rfl) cs_X12_63_X12_at (As := [.int x1, .int x2]) rfl rfl (by exact Nat.le_of_ble_eq_true rfl) (kc2 := 0) (ks2 := 0) rfl rfl (fun k9 h9 w9 => by cases w9.1) (fun r9 h9 w9 => ?_)
  obtain ⟨w1, w2⟩ := w9
  subst h9
  cases w1
  show jJ G X _ 0 0 _ _ (.int v6 :: _)
  obtain ⟨v9, e9, hf⟩ := jbind hf
  refine jr_iald K (D_at DX12_of_q0 5 rfl) e9 ?_
  cases hf
  exact jr_iret K E (D_at DX12_of_q0 6 rfl) rfl ⟨rfl, rfl⟩
theorem C_X12_of {G : jG} {l : Launch} (d : Nat) {n : Nat} {a0 : Nat} {x1 : Int32} {x2 : Int32} {h : jH} {res : Int32} (hf : F_X12_of n a0 x1 x2 h = some res) : jC G l mX12_of (d + 1) 0 0 [.ref a0, .int x1, .int x2] h (jPR h res) :=
  jC.of pn_X12 (jcats rfl) (Nat.le_of_ble_eq_true rfl) (fun X K E => J_X12_of K n h E a0 x1 x2 hf)
set_option maxHeartbeats 400000 in
set_option maxRecDepth 100000 in
theorem J_X12_is {G : jG} {l : Launch} {d : Nat} {X : jX} {res : Int32} (K : jOK G l mX12_is (d + 2) X) (n : Nat) (h : jH) (E : jEnd G mX12_is (jPR h res) X) (a0 : Nat) (x1 : Int32) (x2 : Int32) (hf : F_X12_is n a0 x1 x2 h = some res) : jJ G X h 0 0 0 [some (.ref a0), some (.int x1), some (.int x2)] [] := by
  unfold F_X12_is at hf
  refine jr_aload_n K (D_at DX12_is_q0 0 rfl) rfl rfl ?_
  refine jr_iload_n K (D_at DX12_is_q0 1 rfl) rfl rfl ?_
  refine jr_iload_n K (D_at DX12_is_q0 2 rfl) rfl rfl ?_
  obtain ⟨v3, e3, hf⟩ := jbind hf
  obtain ⟨rc_3, e3⟩ := jcv_o e3
  refine jr_callV K (C_X12_of (d) e3) (D_at DX12_is_q0 3 rfl) cv_X12_67_X12_of (As := [.int x1, .int x2]) (ci := 10) rfl rc_3 rfl rfl (by exact Nat.le_of_ble_eq_true rfl) (kc2 := 0) (ks2 := 0) rfl rfl (fun k9 h9 w9 => by cases w9.1) (fun r9 h9 w9 => ?_)
  obtain ⟨w1, w2⟩ := w9
  subst h9
  cases w1
  show jJ G X _ 0 0 _ _ (.int v3 :: _)
  refine jr_iconst K (D_at DX12_is_q0 4 rfl) (v := (1 : Int32)) (by decide) ?_
  refine jr_icmp_ne K (D_at DX12_is_q0 5 rfl) (tgt := 14) (by decide) (fun c7 => ?_) (fun c7 => ?_)
  · replace hf := (if_neg c7).symm.trans hf
    refine jr_iconst K (D_at DX12_is_q0 8 rfl) (v := (0 : Int32)) (by decide) ?_
    cases hf
    exact jr_zret K E (D_at DX12_is_q0 9 rfl) rfl (Or.inl rfl) ⟨rfl, rfl⟩
  · replace hf := (if_pos c7).symm.trans hf
    refine jr_iconst K (D_at DX12_is_q0 6 rfl) (v := (1 : Int32)) (by decide) ?_
    refine jr_goto K (D_at DX12_is_q0 7 rfl) (tgt := 15) (by decide) ?_
    cases hf
    exact jr_zret K E (D_at DX12_is_q0 9 rfl) rfl (Or.inr rfl) ⟨rfl, rfl⟩
theorem C_X12_is {G : jG} {l : Launch} (d : Nat) {n : Nat} {a0 : Nat} {x1 : Int32} {x2 : Int32} {h : jH} {res : Int32} (hf : F_X12_is n a0 x1 x2 h = some res) : jC G l mX12_is (d + 2) 0 0 [.ref a0, .int x1, .int x2] h (jPR h res) :=
  jC.of pn_X12 (jcats rfl) (Nat.le_of_ble_eq_true rfl) (fun X K E => J_X12_is K n h E a0 x1 x2 hf)
set_option maxHeartbeats 400000 in
set_option maxRecDepth 100000 in
theorem J_X12_gapOf {G : jG} {l : Launch} {d : Nat} {X : jX} {res : Int32} (K : jOK G l mX12_gapOf (d + 2) X) (n : Nat) (h : jH) (E : jEnd G mX12_gapOf (jPR h res) X) (a0 : Nat) (x1 : Int32) (hf : F_X12_gapOf n a0 x1 h = some res) : jJ G X h 0 0 0 [some (.ref a0), some (.int x1)] [] := by
  unfold F_X12_gapOf at hf
  refine jr_iload_n K (D_at DX12_gapOf_q0 0 rfl) rfl rfl ?_
  refine jr_aload_n K (D_at DX12_gapOf_q0 1 rfl) rfl rfl ?_
  obtain ⟨v2, e2, hf⟩ := jbind hf
  obtain ⟨rc_2, e2⟩ := jcv_o e2
  refine jr_callV K (C_X12_lastRing (d) e2) (D_at DX12_gapOf_q0 2 rfl) cv_X12_70_X12_lastRing (As := []) (ci := 10) rfl rc_2 rfl rfl (by exact Nat.le_of_ble_eq_true rfl) (kc2 := 0) (ks2 := 0) rfl rfl (fun k9 h9 w9 => by cases w9.1) (fun r9 h9 w9 => ?_)
  obtain ⟨w1, w2⟩ := w9
  subst h9
  cases w1
  show jJ G X _ 0 0 _ _ (.int v2 :: _)
  refine jr_icmp_ne K (D_at DX12_gapOf_q0 3 rfl) (tgt := 13) (by decide) (fun c5 => ?_) (fun c5 => ?_)
  · replace hf := (if_neg c5).symm.trans hf
    refine jr_aload_n K (D_at DX12_gapOf_q0 6 rfl) rfl rfl ?_
    refine jr_iload_n K (D_at DX12_gapOf_q0 7 rfl) rfl rfl ?_
    refine jr_iconst K (D_at DX12_gapOf_q0 8 rfl) (v := (1 : Int32)) (by decide) ?_
    refine jr_iadd K (D_at DX12_gapOf_q0 9 rfl) ?_
    refine jr_iconst K (D_at DX12_gapOf_q0 10 rfl) (v := (0 : Int32)) (by decide) ?_
    obtain ⟨v18, e18, hf⟩ := jbind hf
    obtain ⟨rc_18, e18⟩ := jcv_o e18
    refine jr_callV K (C_X12_of (d) e18) (D_at DX12_gapOf_q0 11 rfl) cv_X12_67_X12_of (As := [.int (x1 + (1 : Int32)), .int (0 : Int32)]) (ci := 10) rfl rc_18 rfl rfl (by exact Nat.le_of_ble_eq_true rfl) (kc2 := 0) (ks2 := 0) rfl rfl (fun k9 h9 w9 => by cases w9.1) (fun r9 h9 w9 => ?_)
    obtain ⟨w1, w2⟩ := w9
    subst h9
    cases w1
    show jJ G X _ 0 0 _ _ (.int v18 :: _)
    refine jr_aload_n K (D_at DX12_gapOf_q1 0 rfl) rfl rfl ?_
    refine jr_iload_n K (D_at DX12_gapOf_q1 1 rfl) rfl rfl ?_
    refine jr_iconst K (D_at DX12_gapOf_q1 2 rfl) (v := (0 : Int32)) (by decide) ?_
    obtain ⟨v24, e24, hf⟩ := jbind hf
    obtain ⟨rc_24, e24⟩ := jcv_o e24
    refine jr_callV K (C_X12_of (d) e24) (D_at DX12_gapOf_q1 3 rfl) cv_X12_67_X12_of (As := [.int x1, .int (0 : Int32)]) (ci := 10) rfl rc_24 rfl rfl (by exact Nat.le_of_ble_eq_true rfl) (kc2 := 0) (ks2 := 0) rfl rfl (fun k9 h9 w9 => by cases w9.1) (fun r9 h9 w9 => ?_)
    obtain ⟨w1, w2⟩ := w9
    subst h9
    cases w1
    show jJ G X _ 0 0 _ _ (.int v24 :: _)
    refine jr_isub K (D_at DX12_gapOf_q1 4 rfl) ?_
    cases hf
    exact jr_iret K E (D_at DX12_gapOf_q1 5 rfl) rfl ⟨rfl, rfl⟩
  · replace hf := (if_pos c5).symm.trans hf
    refine jr_bipush K (D_at DX12_gapOf_q0 4 rfl) (v := (99 : Int32)) (by decide) ?_
    refine jr_goto K (D_at DX12_gapOf_q0 5 rfl) (tgt := 28) (by decide) ?_
    cases hf
    exact jr_iret K E (D_at DX12_gapOf_q1 5 rfl) rfl ⟨rfl, rfl⟩
theorem C_X12_gapOf {G : jG} {l : Launch} (d : Nat) {n : Nat} {a0 : Nat} {x1 : Int32} {h : jH} {res : Int32} (hf : F_X12_gapOf n a0 x1 h = some res) : jC G l mX12_gapOf (d + 2) 0 0 [.ref a0, .int x1] h (jPR h res) :=
  jC.of pn_X12 (jcats rfl) (Nat.le_of_ble_eq_true rfl) (fun X K E => J_X12_gapOf K n h E a0 x1 hf)
set_option maxHeartbeats 400000 in
set_option maxRecDepth 100000 in
theorem J_X12_ringsThat_4_b {G : jG} {l : Launch} {d : Nat} {X : jX} {res : Int32} (K : jOK G l mX12_ringsThat (d + 3) X) (n : Nat) (h : jH) (rc4 : Nat → Int32 → Int32 → Int32 → jH → Option Int32) (hr4 : ∀ (a0 : Nat) (x1 : Int32) (x2 : Int32) (x3 : Int32), rc4 a0 x1 x2 x3 h = some res → jJ G X h 0 0 4 [some (.ref a0), some (.int x1), some (.int x2), some (.int x3)] []) (E : jEnd G mX12_ringsThat (jPR h res) X) (a0 : Nat) (x1 : Int32) (x2 : Int32) (x3 : Int32) (hf : F_X12_ringsThat_4_b n rc4 a0 x1 x2 x3 h = some res) : jJ G X h 0 0 4 [some (.ref a0), some (.int x1), some (.int x2), some (.int x3)] [] := by
  unfold F_X12_ringsThat_4_b at hf
  refine jr_iload_n K (D_at DX12_ringsThat_q0 4 rfl) rfl rfl ?_
  refine jr_aload_n K (D_at DX12_ringsThat_q0 5 rfl) rfl rfl ?_
  obtain ⟨v6, e6, hf⟩ := jbind hf
  obtain ⟨rc_6, e6⟩ := jcv_o e6
  refine jr_callV K (C_X12_rings (d + 2) e6) (D_at DX12_ringsThat_q0 6 rfl) cv_X12_59_X12_rings (As := []) (ci := 10) rfl rc_6 rfl rfl (by exact Nat.le_of_ble_eq_true rfl) (kc2 := 0) (ks2 := 0) rfl rfl (fun k9 h9 w9 => by cases w9.1) (fun r9 h9 w9 => ?_)
  obtain ⟨w1, w2⟩ := w9
  subst h9
  cases w1
  show jJ G X _ 0 0 _ _ (.int v6 :: _)
  refine jr_icmp_ge K (D_at DX12_ringsThat_q0 7 rfl) (tgt := 37) (by decide) (fun c9 => ?_) (fun c9 => ?_)
  · replace hf := (if_pos c9).symm.trans hf
    refine jr_iload_n K (D_at DX12_ringsThat_q1 11 rfl) rfl rfl ?_
    cases hf
    exact jr_iret K E (D_at DX12_ringsThat_q2 0 rfl) rfl ⟨rfl, rfl⟩
  · replace hf := (if_neg c9).symm.trans hf
    refine jr_iload_n K (D_at DX12_ringsThat_q0 8 rfl) rfl rfl ?_
    refine jr_aload_n K (D_at DX12_ringsThat_q0 9 rfl) rfl rfl ?_
    refine jr_iload_n K (D_at DX12_ringsThat_q0 10 rfl) rfl rfl ?_
    refine jr_iload_n K (D_at DX12_ringsThat_q0 11 rfl) rfl rfl ?_
    obtain ⟨v16, e16, hf⟩ := jbind hf
    obtain ⟨rc_16, e16⟩ := jcv_o e16
    refine jr_callV K (C_X12_is (d) e16) (D_at DX12_ringsThat_q1 0 rfl) cv_X12_73_X12_is (As := [.int x3, .int x1]) (ci := 10) rfl rc_16 rfl rfl (by exact Nat.le_of_ble_eq_true rfl) (kc2 := 0) (ks2 := 0) rfl rfl (fun k9 h9 w9 => by cases w9.1) (fun r9 h9 w9 => ?_)
    obtain ⟨w1, w2⟩ := w9
    subst h9
    cases w1
    show jJ G X _ 0 0 _ _ (.int v16 :: _)
    refine jr_if_eq K (D_at DX12_ringsThat_q1 1 rfl) (tgt := 28) (by decide) (fun c19 => ?_) (fun c19 => ?_)
    · replace hf := (if_pos c19).symm.trans hf
      refine jr_iconst K (D_at DX12_ringsThat_q1 6 rfl) (v := (0 : Int32)) (by decide) ?_
      refine jr_ior K (D_at DX12_ringsThat_q1 7 rfl) ?_
      refine jr_istore_n K (D_at DX12_ringsThat_q1 8 rfl) (i := 2) rfl (by decide) (L2 := [_, _, _, _]) rfl ?_
      refine jr_iinc K (D_at DX12_ringsThat_q1 9 rfl) (i := 3) rfl (v := x3 + (1 : Int32)) (jinc (by decide)) (by decide) (L2 := [_, _, _, _]) rfl ?_
      refine jr_goto K (D_at DX12_ringsThat_q1 10 rfl) (tgt := 4) (by decide) ?_
      refine jr_keep [true, true, true, true] ?_
      exact hr4 a0 x1 (x2 ||| (0 : Int32)) (x3 + (1 : Int32)) hf
    · replace hf := (if_neg c19).symm.trans hf
      refine jr_iconst K (D_at DX12_ringsThat_q1 2 rfl) (v := (1 : Int32)) (by decide) ?_
      refine jr_iload_n K (D_at DX12_ringsThat_q1 3 rfl) rfl rfl ?_
      refine jr_ishl K (D_at DX12_ringsThat_q1 4 rfl) ?_
      refine jr_goto K (D_at DX12_ringsThat_q1 5 rfl) (tgt := 29) (by decide) ?_
      refine jr_ior K (D_at DX12_ringsThat_q1 7 rfl) ?_
      refine jr_istore_n K (D_at DX12_ringsThat_q1 8 rfl) (i := 2) rfl (by decide) (L2 := [_, _, _, _]) rfl ?_
      refine jr_iinc K (D_at DX12_ringsThat_q1 9 rfl) (i := 3) rfl (v := x3 + (1 : Int32)) (jinc (by decide)) (by decide) (L2 := [_, _, _, _]) rfl ?_
      refine jr_goto K (D_at DX12_ringsThat_q1 10 rfl) (tgt := 4) (by decide) ?_
      refine jr_keep [true, true, true, true] ?_
      exact hr4 a0 x1 (x2 ||| ((1 : Int32) <<< (x3 &&& 31))) (x3 + (1 : Int32)) hf
theorem J_X12_ringsThat_4 {G : jG} {l : Launch} {d : Nat} {X : jX} {res : Int32} (K : jOK G l mX12_ringsThat (d + 3) X) (n : Nat) (h : jH) (E : jEnd G mX12_ringsThat (jPR h res) X) (k : Nat) : ∀ (a0 : Nat) (x1 : Int32) (x2 : Int32) (x3 : Int32), F_X12_ringsThat_4 n k a0 x1 x2 x3 h = some res → jJ G X h 0 0 4 [some (.ref a0), some (.int x1), some (.int x2), some (.int x3)] [] := by
  induction k with
  | zero =>
    intro a0 x1 x2 x3 hf
    exact jno (show (none : Option Int32) = some res from hf)
  | succ k ih =>
    intro a0 x1 x2 x3 hf
    exact J_X12_ringsThat_4_b K n h (F_X12_ringsThat_4 n k) ih E a0 x1 x2 x3 hf
set_option maxHeartbeats 400000 in
set_option maxRecDepth 100000 in
theorem J_X12_ringsThat {G : jG} {l : Launch} {d : Nat} {X : jX} {res : Int32} (K : jOK G l mX12_ringsThat (d + 3) X) (n : Nat) (h : jH) (E : jEnd G mX12_ringsThat (jPR h res) X) (a0 : Nat) (x1 : Int32) (hf : F_X12_ringsThat n a0 x1 h = some res) : jJ G X h 0 0 0 [some (.ref a0), some (.int x1), none, none] [] := by
  unfold F_X12_ringsThat at hf
  refine jr_iconst K (D_at DX12_ringsThat_q0 0 rfl) (v := (0 : Int32)) (by decide) ?_
  refine jr_istore_n K (D_at DX12_ringsThat_q0 1 rfl) (i := 2) rfl (by decide) (L2 := [_, _, _, _]) rfl ?_
  refine jr_iconst K (D_at DX12_ringsThat_q0 2 rfl) (v := (0 : Int32)) (by decide) ?_
  refine jr_istore_n K (D_at DX12_ringsThat_q0 3 rfl) (i := 3) rfl (by decide) (L2 := [_, _, _, _]) rfl ?_
  refine jr_keep [true, true, true, true] ?_
  exact J_X12_ringsThat_4 K n h E n a0 x1 (0 : Int32) (0 : Int32) hf
theorem C_X12_ringsThat {G : jG} {l : Launch} (d : Nat) {n : Nat} {a0 : Nat} {x1 : Int32} {h : jH} {res : Int32} (hf : F_X12_ringsThat n a0 x1 h = some res) : jC G l mX12_ringsThat (d + 3) 0 0 [.ref a0, .int x1] h (jPR h res) :=
  jC.of pn_X12 (jcats rfl) (Nat.le_of_ble_eq_true rfl) (fun X K E => J_X12_ringsThat K n h E a0 x1 hf)
set_option maxHeartbeats 400000 in
set_option maxRecDepth 100000 in
theorem J_X12_noRing {G : jG} {l : Launch} {d : Nat} {X : jX} {res : Int32} (K : jOK G l mX12_noRing (d + 2) X) (n : Nat) (h : jH) (E : jEnd G mX12_noRing (jPR h res) X) (a0 : Nat) (x1 : Int32) (hf : F_X12_noRing n a0 x1 h = some res) : jJ G X h 0 0 0 [some (.ref a0), some (.int x1)] [] := by
  unfold F_X12_noRing at hf
  refine jr_iload_n K (D_at DX12_noRing_q0 0 rfl) rfl rfl ?_
  refine jr_iconst K (D_at DX12_noRing_q0 1 rfl) (v := (0 : Int32)) (by decide) ?_
  refine jr_aload_n K (D_at DX12_noRing_q0 2 rfl) rfl rfl ?_
  obtain ⟨v3, e3, hf⟩ := jbind hf
  obtain ⟨rc_3, e3⟩ := jcv_o e3
  refine jr_callV K (C_X12_lastRing (d) e3) (D_at DX12_noRing_q0 3 rfl) cv_X12_70_X12_lastRing (As := []) (ci := 10) rfl rc_3 rfl rfl (by exact Nat.le_of_ble_eq_true rfl) (kc2 := 0) (ks2 := 0) rfl rfl (fun k9 h9 w9 => by cases w9.1) (fun r9 h9 w9 => ?_)
  obtain ⟨w1, w2⟩ := w9
  subst h9
  cases w1
  show jJ G X _ 0 0 _ _ (.int v3 :: _)
  obtain ⟨v6, e6, hf⟩ := jbind hf
  refine jr_callS K (C_X12_in (d + 1) e6) (D_at DX12_noRing_q0 4 rfl) cs_X12_77_X12_in (As := [.int x1, .int (0 : Int32), .int v3]) rfl rfl (by exact Nat.le_of_ble_eq_true rfl) (kc2 := 0) (ks2 := 0) rfl rfl (fun k9 h9 w9 => by cases w9.1) (fun r9 h9 w9 => ?_)
  obtain ⟨w1, w2⟩ := w9
  subst h9
  cases w1
  show jJ G X _ 0 0 _ _ (.int v6 :: _)
  refine jr_if_ne K (D_at DX12_noRing_q0 5 rfl) (tgt := 16) (by decide) (fun c9 => ?_) (fun c9 => ?_)
  · replace hf := (if_neg c9).symm.trans hf
    refine jr_iconst K (D_at DX12_noRing_q0 8 rfl) (v := (0 : Int32)) (by decide) ?_
    cases hf
    exact jr_zret K E (D_at DX12_noRing_q0 9 rfl) rfl (Or.inl rfl) ⟨rfl, rfl⟩
  · replace hf := (if_pos c9).symm.trans hf
    refine jr_iconst K (D_at DX12_noRing_q0 6 rfl) (v := (1 : Int32)) (by decide) ?_
    refine jr_goto K (D_at DX12_noRing_q0 7 rfl) (tgt := 17) (by decide) ?_
    cases hf
    exact jr_zret K E (D_at DX12_noRing_q0 9 rfl) rfl (Or.inr rfl) ⟨rfl, rfl⟩
theorem C_X12_noRing {G : jG} {l : Launch} (d : Nat) {n : Nat} {a0 : Nat} {x1 : Int32} {h : jH} {res : Int32} (hf : F_X12_noRing n a0 x1 h = some res) : jC G l mX12_noRing (d + 2) 0 0 [.ref a0, .int x1] h (jPR h res) :=
  jC.of pn_X12 (jcats rfl) (Nat.le_of_ble_eq_true rfl) (fun X K E => J_X12_noRing K n h E a0 x1 hf)
set_option maxHeartbeats 400000 in
set_option maxRecDepth 100000 in
theorem J_X12_noPlace {G : jG} {l : Launch} {d : Nat} {X : jX} {res : Int32} (K : jOK G l mX12_noPlace (d + 1) X) (n : Nat) (h : jH) (E : jEnd G mX12_noPlace (jPR h res) X) (x0 : Int32) (hf : F_X12_noPlace n x0 h = some res) : jJ G X h 0 0 0 [some (.int x0)] [] := by
  unfold F_X12_noPlace at hf
  refine jr_iload_n K (D_at DX12_noPlace_q0 0 rfl) rfl rfl ?_
  refine jr_iconst K (D_at DX12_noPlace_q0 1 rfl) (v := (0 : Int32)) (by decide) ?_
  refine jr_bipush K (D_at DX12_noPlace_q0 2 rfl) (v := (31 : Int32)) (by decide) ?_
  obtain ⟨v4, e4, hf⟩ := jbind hf
  refine jr_callS K (C_X12_in (d) e4) (D_at DX12_noPlace_q0 3 rfl) cs_X12_77_X12_in (As := [.int x0, .int (0 : Int32), .int (31 : Int32)]) rfl rfl (by exact Nat.le_of_ble_eq_true rfl) (kc2 := 0) (ks2 := 0) rfl rfl (fun k9 h9 w9 => by cases w9.1) (fun r9 h9 w9 => ?_)
  obtain ⟨w1, w2⟩ := w9
  subst h9
  cases w1
  show jJ G X _ 0 0 _ _ (.int v4 :: _)
  refine jr_if_ne K (D_at DX12_noPlace_q0 4 rfl) (tgt := 14) (by decide) (fun c7 => ?_) (fun c7 => ?_)
  · replace hf := (if_neg c7).symm.trans hf
    refine jr_iconst K (D_at DX12_noPlace_q0 7 rfl) (v := (0 : Int32)) (by decide) ?_
    cases hf
    exact jr_zret K E (D_at DX12_noPlace_q0 8 rfl) rfl (Or.inl rfl) ⟨rfl, rfl⟩
  · replace hf := (if_pos c7).symm.trans hf
    refine jr_iconst K (D_at DX12_noPlace_q0 5 rfl) (v := (1 : Int32)) (by decide) ?_
    refine jr_goto K (D_at DX12_noPlace_q0 6 rfl) (tgt := 15) (by decide) ?_
    cases hf
    exact jr_zret K E (D_at DX12_noPlace_q0 8 rfl) rfl (Or.inr rfl) ⟨rfl, rfl⟩
theorem C_X12_noPlace {G : jG} {l : Launch} (d : Nat) {n : Nat} {x0 : Int32} {h : jH} {res : Int32} (hf : F_X12_noPlace n x0 h = some res) : jC G l mX12_noPlace (d + 1) 0 0 [.int x0] h (jPR h res) :=
  jC.of pn_X12 (jcats rfl) (Nat.le_of_ble_eq_true rfl) (fun X K E => J_X12_noPlace K n h E x0 hf)
set_option maxHeartbeats 400000 in
set_option maxRecDepth 100000 in
theorem J_X12_noSteps {G : jG} {l : Launch} {d : Nat} {X : jX} {res : Int32} (K : jOK G l mX12_noSteps (d + 1) X) (n : Nat) (h : jH) (E : jEnd G mX12_noSteps (jPR h res) X) (x0 : Int32) (hf : F_X12_noSteps n x0 h = some res) : jJ G X h 0 0 0 [some (.int x0)] [] := by
  unfold F_X12_noSteps at hf
  refine jr_iload_n K (D_at DX12_noSteps_q0 0 rfl) rfl rfl ?_
  refine jr_iconst K (D_at DX12_noSteps_q0 1 rfl) (v := (1 : Int32)) (by decide) ?_
  refine jr_bipush K (D_at DX12_noSteps_q0 2 rfl) (v := (31 : Int32)) (by decide) ?_
  obtain ⟨v4, e4, hf⟩ := jbind hf
  refine jr_callS K (C_X12_in (d) e4) (D_at DX12_noSteps_q0 3 rfl) cs_X12_77_X12_in (As := [.int x0, .int (1 : Int32), .int (31 : Int32)]) rfl rfl (by exact Nat.le_of_ble_eq_true rfl) (kc2 := 0) (ks2 := 0) rfl rfl (fun k9 h9 w9 => by cases w9.1) (fun r9 h9 w9 => ?_)
  obtain ⟨w1, w2⟩ := w9
  subst h9
  cases w1
  show jJ G X _ 0 0 _ _ (.int v4 :: _)
  refine jr_if_ne K (D_at DX12_noSteps_q0 4 rfl) (tgt := 14) (by decide) (fun c7 => ?_) (fun c7 => ?_)
  · replace hf := (if_neg c7).symm.trans hf
    refine jr_iconst K (D_at DX12_noSteps_q0 7 rfl) (v := (0 : Int32)) (by decide) ?_
    cases hf
    exact jr_zret K E (D_at DX12_noSteps_q0 8 rfl) rfl (Or.inl rfl) ⟨rfl, rfl⟩
  · replace hf := (if_pos c7).symm.trans hf
    refine jr_iconst K (D_at DX12_noSteps_q0 5 rfl) (v := (1 : Int32)) (by decide) ?_
    refine jr_goto K (D_at DX12_noSteps_q0 6 rfl) (tgt := 15) (by decide) ?_
    cases hf
    exact jr_zret K E (D_at DX12_noSteps_q0 8 rfl) rfl (Or.inr rfl) ⟨rfl, rfl⟩
theorem C_X12_noSteps {G : jG} {l : Launch} (d : Nat) {n : Nat} {x0 : Int32} {h : jH} {res : Int32} (hf : F_X12_noSteps n x0 h = some res) : jC G l mX12_noSteps (d + 1) 0 0 [.int x0] h (jPR h res) :=
  jC.of pn_X12 (jcats rfl) (Nat.le_of_ble_eq_true rfl) (fun X K E => J_X12_noSteps K n h E x0 hf)
set_option maxHeartbeats 400000 in
set_option maxRecDepth 100000 in
theorem J_X12_drawn {G : jG} {l : Launch} {d : Nat} {X : jX} {res : (Int32 × jH)} (K : jOK G l mX12_drawn (d) X) (n : Nat) (E : jEnd G mX12_drawn (jPW res) X) (a0 : Nat) (x1 : Int32) (h : jH) (hf : F_X12_drawn n a0 x1 h = some res) : jJ G X h 0 0 0 [some (.ref a0), some (.int x1)] [] := by
  unfold F_X12_drawn at hf
  refine jr_aload_n K (D_at DX12_drawn_q0 0 rfl) rfl rfl ?_
  obtain ⟨p1, e1, hf⟩ := jbind hf
  refine jr_getR K (D_at DX12_drawn_q0 1 rfl) fg_X12_13_10 e1 ?_
  refine jr_bipush K (D_at DX12_drawn_q0 2 rfl) (v := (10 : Int32)) (by decide) ?_
  refine jr_ldc K (D_at DX12_drawn_q0 3 rfl) (v := (1103515245 : Int32)) kc_X12_81 ?_
  refine jr_aload_n K (D_at DX12_drawn_q0 4 rfl) rfl rfl ?_
  obtain ⟨p9, e9, hf⟩ := jbind hf
  refine jr_getR K (D_at DX12_drawn_q0 5 rfl) fg_X12_13_10 e9 ?_
  refine jr_bipush K (D_at DX12_drawn_q0 6 rfl) (v := (10 : Int32)) (by decide) ?_
  obtain ⟨v14, e14, hf⟩ := jbind hf
  refine jr_iald K (D_at DX12_drawn_q0 7 rfl) e14 ?_
  refine jr_imul K (D_at DX12_drawn_q0 8 rfl) ?_
  refine jr_sipush K (D_at DX12_drawn_q0 9 rfl) (v := (12345 : Int32)) (by decide) ?_
  refine jr_iadd K (D_at DX12_drawn_q0 10 rfl) ?_
  obtain ⟨h20, e20, hf⟩ := jbind hf
  refine jr_iast K (D_at DX12_drawn_q0 11 rfl) e20 ?_
  refine jr_aload_n K (D_at DX12_drawn_q1 0 rfl) rfl rfl ?_
  obtain ⟨p22, e22, hf⟩ := jbind hf
  refine jr_getR K (D_at DX12_drawn_q1 1 rfl) fg_X12_13_10 e22 ?_
  refine jr_bipush K (D_at DX12_drawn_q1 2 rfl) (v := (10 : Int32)) (by decide) ?_
  obtain ⟨v27, e27, hf⟩ := jbind hf
  refine jr_iald K (D_at DX12_drawn_q1 3 rfl) e27 ?_
  refine jr_bipush K (D_at DX12_drawn_q1 4 rfl) (v := (16 : Int32)) (by decide) ?_
  refine jr_ishr K (D_at DX12_drawn_q1 5 rfl) ?_
  refine jr_sipush K (D_at DX12_drawn_q1 6 rfl) (v := (32767 : Int32)) (by decide) ?_
  refine jr_iand K (D_at DX12_drawn_q1 7 rfl) ?_
  refine jr_iload_n K (D_at DX12_drawn_q1 8 rfl) rfl rfl ?_
  by_cases c36 : x1 = 0
  · exact jno (show (none : Option (Int32 × jH)) = some res from (if_pos c36).symm.trans hf)
  replace hf := (if_neg c36).symm.trans hf
  refine jr_irem K (D_at DX12_drawn_q1 9 rfl) c36 ?_
  cases hf
  exact jr_iret K E (D_at DX12_drawn_q1 10 rfl) rfl ⟨rfl, rfl⟩
theorem C_X12_drawn {G : jG} {l : Launch} (d : Nat) {n : Nat} {a0 : Nat} {x1 : Int32} {h : jH} {res : (Int32 × jH)} (hf : F_X12_drawn n a0 x1 h = some res) : jC G l mX12_drawn (d) 0 0 [.ref a0, .int x1] h (jPW res) :=
  jC.of pn_X12 (jcats rfl) (Nat.le_of_ble_eq_true rfl) (fun X K E => J_X12_drawn K n E a0 x1 h hf)
set_option maxHeartbeats 400000 in
set_option maxRecDepth 100000 in
theorem J_X12_feed_60_b {G : jG} {l : Launch} {d : Nat} {X : jX} {res : (Int32 × jH)} (K : jOK G l mX12_feed (d) X) (n : Nat) (rc60 : Nat → Int32 → jH → Option (Int32 × jH)) (hr60 : ∀ (a0 : Nat) (x6 : Int32) (h : jH), rc60 a0 x6 h = some res → jJ G X h 0 0 60 [some (.ref a0), none, none, none, none, none, some (.int x6)] []) (E : jEnd G mX12_feed (jPW res) X) (a0 : Nat) (x6 : Int32) (h : jH) (hf : F_X12_feed_60_b n rc60 a0 x6 h = some res) : jJ G X h 0 0 60 [some (.ref a0), none, none, none, none, none, some (.int x6)] [] := by
  unfold F_X12_feed_60_b at hf
  refine jr_iload K (D_at DX12_feed_q3 2 rfl) rfl ?_
  refine jr_bipush K (D_at DX12_feed_q3 3 rfl) (v := (20 : Int32)) (by decide) ?_
  refine jr_icmp_ge K (D_at DX12_feed_q3 4 rfl) (tgt := 106) (by decide) (fun c64 => ?_) (fun c64 => ?_)
  · replace hf := (if_pos c64).symm.trans hf
    refine jr_aload_n K (D_at DX12_feed_1_q0 1 rfl) rfl rfl ?_
    refine jr_dup K (D_at DX12_feed_1_q0 2 rfl) rfl ?_
    obtain ⟨v108, e108, hf⟩ := jbind hf
    refine jr_getI K (D_at DX12_feed_1_q0 3 rfl) fg_X12_82_10 e108 ?_
    refine jr_bipush K (D_at DX12_feed_1_q0 4 rfl) (v := (20 : Int32)) (by decide) ?_
    refine jr_iadd K (D_at DX12_feed_1_q0 5 rfl) ?_
    obtain ⟨h114, e114, hf⟩ := jbind hf
    refine jr_putI K (D_at DX12_feed_1_q0 6 rfl) fp_X12_82_10 (Or.inl rfl) e114 ?_
    refine jr_aload_n K (D_at DX12_feed_1_q0 7 rfl) rfl rfl ?_
    obtain ⟨v118, e118, hf⟩ := jbind hf
    refine jr_getI K (D_at DX12_feed_1_q0 8 rfl) fg_X12_82_10 e118 ?_
    cases hf
    exact jr_iret K E (D_at DX12_feed_1_q0 9 rfl) rfl ⟨rfl, rfl⟩
  · replace hf := (if_neg c64).symm.trans hf
    refine jr_aload_n K (D_at DX12_feed_q3 5 rfl) rfl rfl ?_
    obtain ⟨p68, e68, hf⟩ := jbind hf
    refine jr_getR K (D_at DX12_feed_q3 6 rfl) fg_X12_29_10 e68 ?_
    refine jr_aload_n K (D_at DX12_feed_q3 7 rfl) rfl rfl ?_
    obtain ⟨v72, e72, hf⟩ := jbind hf
    refine jr_getI K (D_at DX12_feed_q3 8 rfl) fg_X12_82_10 e72 ?_
    refine jr_iload K (D_at DX12_feed_q3 9 rfl) rfl ?_
    refine jr_iadd K (D_at DX12_feed_q3 10 rfl) ?_
    refine jr_aload_n K (D_at DX12_feed_q3 11 rfl) rfl rfl ?_
    obtain ⟨p79, e79, hf⟩ := jbind hf
    refine jr_getR K (D_at DX12_feed_q4 0 rfl) fg_X12_36_10 e79 ?_
    refine jr_iload K (D_at DX12_feed_q4 1 rfl) rfl ?_
    refine jr_iconst K (D_at DX12_feed_q4 2 rfl) (v := (4 : Int32)) (by decide) ?_
    refine jr_idiv K (D_at DX12_feed_q4 3 rfl) (by decide) ?_
    obtain ⟨v86, e86, hf⟩ := jbind hf
    refine jr_iald K (D_at DX12_feed_q4 4 rfl) e86 ?_
    refine jr_bipush K (D_at DX12_feed_q4 5 rfl) (v := (24 : Int32)) (by decide) ?_
    refine jr_bipush K (D_at DX12_feed_q4 6 rfl) (v := (8 : Int32)) (by decide) ?_
    refine jr_iload K (D_at DX12_feed_q4 7 rfl) rfl ?_
    refine jr_iconst K (D_at DX12_feed_q4 8 rfl) (v := (4 : Int32)) (by decide) ?_
    refine jr_irem K (D_at DX12_feed_q4 9 rfl) (by decide) ?_
    refine jr_imul K (D_at DX12_feed_q4 10 rfl) ?_
    refine jr_isub K (D_at DX12_feed_q4 11 rfl) ?_
    refine jr_ishr K (D_at DX12_feed_q5 0 rfl) ?_
    refine jr_i2b K (D_at DX12_feed_q5 1 rfl) (v := (v86 >>> (((24 : Int32) - ((8 : Int32) * (x6 - x6 / (4 : Int32) * (4 : Int32)))) &&& 31)).toInt8.toInt32) rfl ?_
    obtain ⟨h99, e99, hf⟩ := jbind hf
    refine jr_bast K (D_at DX12_feed_q5 2 rfl) e99 ?_
    refine jr_iinc K (D_at DX12_feed_q5 3 rfl) (i := 6) rfl (v := x6 + (1 : Int32)) (jinc (by decide)) (by decide) (L2 := [_, _, _, _, _, _, _]) rfl ?_
    refine jr_goto K (D_at DX12_feed_1_q0 0 rfl) (tgt := 60) (by decide) ?_
    refine jr_keep [true, false, false, false, false, false, true] ?_
    exact hr60 a0 (x6 + (1 : Int32)) h99 hf
theorem J_X12_feed_60 {G : jG} {l : Launch} {d : Nat} {X : jX} {res : (Int32 × jH)} (K : jOK G l mX12_feed (d) X) (n : Nat) (E : jEnd G mX12_feed (jPW res) X) (k : Nat) : ∀ (a0 : Nat) (x6 : Int32) (h : jH), F_X12_feed_60 n k a0 x6 h = some res → jJ G X h 0 0 60 [some (.ref a0), none, none, none, none, none, some (.int x6)] [] := by
  induction k with
  | zero =>
    intro a0 x6 h hf
    exact jno (show (none : Option (Int32 × jH)) = some res from hf)
  | succ k ih =>
    intro a0 x6 h hf
    exact J_X12_feed_60_b K n (F_X12_feed_60 n k) ih E a0 x6 h hf
set_option maxHeartbeats 400000 in
set_option maxRecDepth 100000 in
theorem J_X12_feed {G : jG} {l : Launch} {d : Nat} {X : jX} {res : (Int32 × jH)} (K : jOK G l mX12_feed (d) X) (n : Nat) (E : jEnd G mX12_feed (jPW res) X) (a0 : Nat) (x1 : Int32) (x2 : Int32) (x3 : Int32) (x4 : Int32) (x5 : Int32) (h : jH) (hf : F_X12_feed n a0 x1 x2 x3 x4 x5 h = some res) : jJ G X h 0 0 0 [some (.ref a0), some (.int x1), some (.int x2), some (.int x3), some (.int x4), some (.int x5), none] [] := by
  unfold F_X12_feed at hf
  refine jr_aload_n K (D_at DX12_feed_q0 0 rfl) rfl rfl ?_
  refine jr_iconst K (D_at DX12_feed_q0 1 rfl) (v := (0 : Int32)) (by decide) ?_
  obtain ⟨h2, e2, hf⟩ := jbind hf
  refine jr_putI K (D_at DX12_feed_q0 2 rfl) fp_X12_3_10 (Or.inl rfl) e2 ?_
  refine jr_aload_n K (D_at DX12_feed_q0 3 rfl) rfl rfl ?_
  obtain ⟨v6, e6, hf⟩ := jbind hf
  refine jr_getI K (D_at DX12_feed_q0 4 rfl) fg_X12_82_10 e6 ?_
  refine jr_bipush K (D_at DX12_feed_q0 5 rfl) (v := (20 : Int32)) (by decide) ?_
  refine jr_iadd K (D_at DX12_feed_q0 6 rfl) ?_
  refine jr_sipush K (D_at DX12_feed_q0 7 rfl) (v := (400 : Int32)) (by decide) ?_
  refine jr_icmp_le K (D_at DX12_feed_q0 8 rfl) (tgt := 20) (by decide) (fun c15 => ?_) (fun c15 => ?_)
  · replace hf := (if_pos c15).symm.trans hf
    refine jr_aload_n K (D_at DX12_feed_q0 11 rfl) rfl rfl ?_
    obtain ⟨p21, e21, hf⟩ := jbind hf
    refine jr_getR K (D_at DX12_feed_q1 0 rfl) fg_X12_36_10 e21 ?_
    refine jr_iconst K (D_at DX12_feed_q1 1 rfl) (v := (0 : Int32)) (by decide) ?_
    refine jr_iload_n K (D_at DX12_feed_q1 2 rfl) rfl rfl ?_
    obtain ⟨h26, e26, hf⟩ := jbind hf
    refine jr_iast K (D_at DX12_feed_q1 3 rfl) e26 ?_
    refine jr_aload_n K (D_at DX12_feed_q1 4 rfl) rfl rfl ?_
    obtain ⟨p28, e28, hf⟩ := jbind hf
    refine jr_getR K (D_at DX12_feed_q1 5 rfl) fg_X12_36_10 e28 ?_
    refine jr_iconst K (D_at DX12_feed_q1 6 rfl) (v := (1 : Int32)) (by decide) ?_
    refine jr_iload_n K (D_at DX12_feed_q1 7 rfl) rfl rfl ?_
    obtain ⟨h33, e33, hf⟩ := jbind hf
    refine jr_iast K (D_at DX12_feed_q1 8 rfl) e33 ?_
    refine jr_aload_n K (D_at DX12_feed_q1 9 rfl) rfl rfl ?_
    obtain ⟨p35, e35, hf⟩ := jbind hf
    refine jr_getR K (D_at DX12_feed_q1 10 rfl) fg_X12_36_10 e35 ?_
    refine jr_iconst K (D_at DX12_feed_q1 11 rfl) (v := (2 : Int32)) (by decide) ?_
    refine jr_iload_n K (D_at DX12_feed_q2 0 rfl) rfl rfl ?_
    obtain ⟨h40, e40, hf⟩ := jbind hf
    refine jr_iast K (D_at DX12_feed_q2 1 rfl) e40 ?_
    refine jr_aload_n K (D_at DX12_feed_q2 2 rfl) rfl rfl ?_
    obtain ⟨p42, e42, hf⟩ := jbind hf
    refine jr_getR K (D_at DX12_feed_q2 3 rfl) fg_X12_36_10 e42 ?_
    refine jr_iconst K (D_at DX12_feed_q2 4 rfl) (v := (3 : Int32)) (by decide) ?_
    refine jr_iload K (D_at DX12_feed_q2 5 rfl) rfl ?_
    obtain ⟨h48, e48, hf⟩ := jbind hf
    refine jr_iast K (D_at DX12_feed_q2 6 rfl) e48 ?_
    refine jr_aload_n K (D_at DX12_feed_q2 7 rfl) rfl rfl ?_
    obtain ⟨p50, e50, hf⟩ := jbind hf
    refine jr_getR K (D_at DX12_feed_q2 8 rfl) fg_X12_36_10 e50 ?_
    refine jr_iconst K (D_at DX12_feed_q2 9 rfl) (v := (4 : Int32)) (by decide) ?_
    refine jr_iload K (D_at DX12_feed_q2 10 rfl) rfl ?_
    obtain ⟨h56, e56, hf⟩ := jbind hf
    refine jr_iast K (D_at DX12_feed_q2 11 rfl) e56 ?_
    refine jr_iconst K (D_at DX12_feed_q3 0 rfl) (v := (0 : Int32)) (by decide) ?_
    refine jr_istore K (D_at DX12_feed_q3 1 rfl) (i := 6) (by decide) (L2 := [_, _, _, _, _, _, _]) rfl ?_
    refine jr_keep [true, false, false, false, false, false, true] ?_
    exact J_X12_feed_60 K n E n a0 (0 : Int32) h56 hf
  · replace hf := (if_neg c15).symm.trans hf
    refine jr_iconst K (D_at DX12_feed_q0 9 rfl) (v := (-1 : Int32)) (by decide) ?_
    cases hf
    exact jr_iret K E (D_at DX12_feed_q0 10 rfl) rfl ⟨rfl, rfl⟩
theorem C_X12_feed {G : jG} {l : Launch} (d : Nat) {n : Nat} {a0 : Nat} {x1 : Int32} {x2 : Int32} {x3 : Int32} {x4 : Int32} {x5 : Int32} {h : jH} {res : (Int32 × jH)} (hf : F_X12_feed n a0 x1 x2 x3 x4 x5 h = some res) : jC G l mX12_feed (d) 0 0 [.ref a0, .int x1, .int x2, .int x3, .int x4, .int x5] h (jPW res) :=
  jC.of pn_X12 (jcats rfl) (Nat.le_of_ble_eq_true rfl) (fun X K E => J_X12_feed K n E a0 x1 x2 x3 x4 x5 h hf)
set_option maxHeartbeats 400000 in
set_option maxRecDepth 100000 in
theorem J_X12_end {G : jG} {l : Launch} {d : Nat} {X : jX} {res : (Int32 × jH)} (K : jOK G l mX12_end (d) X) (n : Nat) (E : jEnd G mX12_end (jPW res) X) (a0 : Nat) (x1 : Int32) (h : jH) (hf : F_X12_end n a0 x1 h = some res) : jJ G X h 0 0 0 [some (.ref a0), some (.int x1)] [] := by
  unfold F_X12_end at hf
  refine jr_aload_n K (D_at DX12_end_q0 0 rfl) rfl rfl ?_
  refine jr_iconst K (D_at DX12_end_q0 1 rfl) (v := (0 : Int32)) (by decide) ?_
  obtain ⟨h2, e2, hf⟩ := jbind hf
  refine jr_putI K (D_at DX12_end_q0 2 rfl) fp_X12_3_10 (Or.inl rfl) e2 ?_
  refine jr_iload_n K (D_at DX12_end_q0 3 rfl) rfl rfl ?_
  refine jr_if_lt K (D_at DX12_end_q0 4 rfl) (tgt := 17) (by decide) (fun c6 => ?_) (fun c6 => ?_)
  · replace hf := (if_pos c6).symm.trans hf
    refine jr_iconst K (D_at DX12_end_q0 9 rfl) (v := (0 : Int32)) (by decide) ?_
    cases hf
    exact jr_zret K E (D_at DX12_end_q0 10 rfl) rfl (Or.inl rfl) ⟨rfl, rfl⟩
  · replace hf := (if_neg c6).symm.trans hf
    refine jr_iload_n K (D_at DX12_end_q0 5 rfl) rfl rfl ?_
    refine jr_aload_n K (D_at DX12_end_q0 6 rfl) rfl rfl ?_
    obtain ⟨v11, e11, hf⟩ := jbind hf
    refine jr_getI K (D_at DX12_end_q0 7 rfl) fg_X12_82_10 e11 ?_
    refine jr_icmp_le K (D_at DX12_end_q0 8 rfl) (tgt := 19) (by decide) (fun c14 => ?_) (fun c14 => ?_)
    · replace hf := (if_pos c14).symm.trans hf
      refine jr_aload_n K (D_at DX12_end_q0 11 rfl) rfl rfl ?_
      refine jr_iload_n K (D_at DX12_end_q1 0 rfl) rfl rfl ?_
      obtain ⟨h21, e21, hf⟩ := jbind hf
      refine jr_putI K (D_at DX12_end_q1 1 rfl) fp_X12_82_10 (Or.inl rfl) e21 ?_
      refine jr_iconst K (D_at DX12_end_q1 2 rfl) (v := (1 : Int32)) (by decide) ?_
      cases hf
      exact jr_zret K E (D_at DX12_end_q1 3 rfl) rfl (Or.inr rfl) ⟨rfl, rfl⟩
    · replace hf := (if_neg c14).symm.trans hf
      refine jr_iconst K (D_at DX12_end_q0 9 rfl) (v := (0 : Int32)) (by decide) ?_
      cases hf
      exact jr_zret K E (D_at DX12_end_q0 10 rfl) rfl (Or.inl rfl) ⟨rfl, rfl⟩
theorem C_X12_end {G : jG} {l : Launch} (d : Nat) {n : Nat} {a0 : Nat} {x1 : Int32} {h : jH} {res : (Int32 × jH)} (hf : F_X12_end n a0 x1 h = some res) : jC G l mX12_end (d) 0 0 [.ref a0, .int x1] h (jPW res) :=
  jC.of pn_X12 (jcats rfl) (Nat.le_of_ble_eq_true rfl) (fun X K E => J_X12_end K n E a0 x1 h hf)
set_option maxHeartbeats 400000 in
set_option maxRecDepth 100000 in
theorem J_X12_isAt {G : jG} {l : Launch} {d : Nat} {X : jX} {res : Int32} (K : jOK G l mX12_isAt (d) X) (n : Nat) (h : jH) (E : jEnd G mX12_isAt (jPR h res) X) (a0 : Nat) (x1 : Int32) (x2 : Int32) (hf : F_X12_isAt n a0 x1 x2 h = some res) : jJ G X h 0 0 0 [some (.ref a0), some (.int x1), some (.int x2)] [] := by
  unfold F_X12_isAt at hf
  refine jr_aload_n K (D_at DX12_isAt_q0 0 rfl) rfl rfl ?_
  obtain ⟨v1, e1, hf⟩ := jbind hf
  refine jr_getI K (D_at DX12_isAt_q0 1 rfl) fg_X12_85_10 e1 ?_
  refine jr_aload_n K (D_at DX12_isAt_q0 2 rfl) rfl rfl ?_
  obtain ⟨v5, e5, hf⟩ := jbind hf
  refine jr_getI K (D_at DX12_isAt_q0 3 rfl) fg_X12_88_10 e5 ?_
  refine jr_icmp_ge K (D_at DX12_isAt_q0 4 rfl) (tgt := 41) (by decide) (fun c8 => ?_) (fun c8 => ?_)
  · replace hf := (if_pos c8).symm.trans hf
    refine jr_iconst K (D_at DX12_isAt_q1 9 rfl) (v := (0 : Int32)) (by decide) ?_
    cases hf
    exact jr_zret K E (D_at DX12_isAt_q1 10 rfl) rfl (Or.inl rfl) ⟨rfl, rfl⟩
  · replace hf := (if_neg c8).symm.trans hf
    refine jr_aload_n K (D_at DX12_isAt_q0 5 rfl) rfl rfl ?_
    obtain ⟨p12, e12, hf⟩ := jbind hf
    refine jr_getR K (D_at DX12_isAt_q0 6 rfl) fg_X12_29_10 e12 ?_
    refine jr_aload_n K (D_at DX12_isAt_q0 7 rfl) rfl rfl ?_
    obtain ⟨v16, e16, hf⟩ := jbind hf
    refine jr_getI K (D_at DX12_isAt_q0 8 rfl) fg_X12_85_10 e16 ?_
    obtain ⟨v19, e19, hf⟩ := jbind hf
    refine jr_bald K (D_at DX12_isAt_q0 9 rfl) e19 ?_
    refine jr_iload_n K (D_at DX12_isAt_q0 10 rfl) rfl rfl ?_
    refine jr_icmp_lt K (D_at DX12_isAt_q0 11 rfl) (tgt := 41) (by decide) (fun c21 => ?_) (fun c21 => ?_)
    · replace hf := (if_pos c21).symm.trans hf
      refine jr_iconst K (D_at DX12_isAt_q1 9 rfl) (v := (0 : Int32)) (by decide) ?_
      cases hf
      exact jr_zret K E (D_at DX12_isAt_q1 10 rfl) rfl (Or.inl rfl) ⟨rfl, rfl⟩
    · replace hf := (if_neg c21).symm.trans hf
      refine jr_aload_n K (D_at DX12_isAt_q1 0 rfl) rfl rfl ?_
      obtain ⟨p25, e25, hf⟩ := jbind hf
      refine jr_getR K (D_at DX12_isAt_q1 1 rfl) fg_X12_29_10 e25 ?_
      refine jr_aload_n K (D_at DX12_isAt_q1 2 rfl) rfl rfl ?_
      obtain ⟨v29, e29, hf⟩ := jbind hf
      refine jr_getI K (D_at DX12_isAt_q1 3 rfl) fg_X12_85_10 e29 ?_
      obtain ⟨v32, e32, hf⟩ := jbind hf
      refine jr_bald K (D_at DX12_isAt_q1 4 rfl) e32 ?_
      refine jr_iload_n K (D_at DX12_isAt_q1 5 rfl) rfl rfl ?_
      refine jr_icmp_gt K (D_at DX12_isAt_q1 6 rfl) (tgt := 41) (by decide) (fun c34 => ?_) (fun c34 => ?_)
      · replace hf := (if_pos c34).symm.trans hf
        refine jr_iconst K (D_at DX12_isAt_q1 9 rfl) (v := (0 : Int32)) (by decide) ?_
        cases hf
        exact jr_zret K E (D_at DX12_isAt_q1 10 rfl) rfl (Or.inl rfl) ⟨rfl, rfl⟩
      · replace hf := (if_neg c34).symm.trans hf
        refine jr_iconst K (D_at DX12_isAt_q1 7 rfl) (v := (1 : Int32)) (by decide) ?_
        refine jr_goto K (D_at DX12_isAt_q1 8 rfl) (tgt := 42) (by decide) ?_
        cases hf
        exact jr_zret K E (D_at DX12_isAt_q1 10 rfl) rfl (Or.inr rfl) ⟨rfl, rfl⟩
theorem C_X12_isAt {G : jG} {l : Launch} (d : Nat) {n : Nat} {a0 : Nat} {x1 : Int32} {x2 : Int32} {h : jH} {res : Int32} (hf : F_X12_isAt n a0 x1 x2 h = some res) : jC G l mX12_isAt (d) 0 0 [.ref a0, .int x1, .int x2] h (jPR h res) :=
  jC.of pn_X12 (jcats rfl) (Nat.le_of_ble_eq_true rfl) (fun X K E => J_X12_isAt K n h E a0 x1 x2 hf)
set_option maxHeartbeats 400000 in
set_option maxRecDepth 100000 in
theorem J_X12_blanks_0_b {G : jG} {l : Launch} {d : Nat} {X : jX} {res : jH} (K : jOK G l mX12_blanks (d + 1) X) (n : Nat) (rc0 : Nat → jH → Option jH) (hr0 : ∀ (a0 : Nat) (h : jH), rc0 a0 h = some res → jJ G X h 0 0 0 [some (.ref a0)] []) (E : jEnd G mX12_blanks (jPV res) X) (a0 : Nat) (h : jH) (hf : F_X12_blanks_0_b n rc0 a0 h = some res) : jJ G X h 0 0 0 [some (.ref a0)] [] := by
  unfold F_X12_blanks_0_b at hf
  refine jr_aload_n K (D_at DX12_blanks_q0 0 rfl) rfl rfl ?_
  refine jr_bipush K (D_at DX12_blanks_q0 1 rfl) (v := (32 : Int32)) (by decide) ?_
  refine jr_bipush K (D_at DX12_blanks_q0 2 rfl) (v := (32 : Int32)) (by decide) ?_
  obtain ⟨v5, e5, hf⟩ := jbind hf
  obtain ⟨rc_5, e5⟩ := jcv_o e5
  refine jr_callV K (C_X12_isAt (d) e5) (D_at DX12_blanks_q0 3 rfl) cv_X12_91_X12_isAt (As := [.int (32 : Int32), .int (32 : Int32)]) (ci := 10) rfl rc_5 rfl rfl (by exact Nat.le_of_ble_eq_true rfl) (kc2 := 0) (ks2 := 0) rfl rfl (fun k9 h9 w9 => by cases w9.1) (fun r9 h9 w9 => ?_)
  obtain ⟨w1, w2⟩ := w9
  subst h9
  cases w1
  show jJ G X _ 0 0 _ _ (.int v5 :: _)
  refine jr_if_eq K (D_at DX12_blanks_q0 4 rfl) (tgt := 24) (by decide) (fun c8 => ?_) (fun c8 => ?_)
  · replace hf := (if_pos c8).symm.trans hf
    refine jr_aload_n K (D_at DX12_blanks_q1 0 rfl) rfl rfl ?_
    refine jr_aload_n K (D_at DX12_blanks_q1 1 rfl) rfl rfl ?_
    obtain ⟨v26, e26, hf⟩ := jbind hf
    refine jr_getI K (D_at DX12_blanks_q1 2 rfl) fg_X12_85_10 e26 ?_
    obtain ⟨h29, e29, hf⟩ := jbind hf
    refine jr_putI K (D_at DX12_blanks_q1 3 rfl) fp_X12_94_10 (Or.inl rfl) e29 ?_
    cases hf
    exact jr_vret K E (D_at DX12_blanks_q1 4 rfl) rfl ⟨rfl, rfl⟩
  · replace hf := (if_neg c8).symm.trans hf
    refine jr_aload_n K (D_at DX12_blanks_q0 5 rfl) rfl rfl ?_
    refine jr_dup K (D_at DX12_blanks_q0 6 rfl) rfl ?_
    obtain ⟨v13, e13, hf⟩ := jbind hf
    refine jr_getI K (D_at DX12_blanks_q0 7 rfl) fg_X12_85_10 e13 ?_
    refine jr_iconst K (D_at DX12_blanks_q0 8 rfl) (v := (1 : Int32)) (by decide) ?_
    refine jr_iadd K (D_at DX12_blanks_q0 9 rfl) ?_
    obtain ⟨h18, e18, hf⟩ := jbind hf
    refine jr_putI K (D_at DX12_blanks_q0 10 rfl) fp_X12_85_10 (Or.inl rfl) e18 ?_
    refine jr_goto K (D_at DX12_blanks_q0 11 rfl) (tgt := 0) (by decide) ?_
    refine jr_keep [true] ?_
    exact hr0 a0 h18 hf
theorem J_X12_blanks_0 {G : jG} {l : Launch} {d : Nat} {X : jX} {res : jH} (K : jOK G l mX12_blanks (d + 1) X) (n : Nat) (E : jEnd G mX12_blanks (jPV res) X) (k : Nat) : ∀ (a0 : Nat) (h : jH), F_X12_blanks_0 n k a0 h = some res → jJ G X h 0 0 0 [some (.ref a0)] [] := by
  induction k with
  | zero =>
    intro a0 h hf
    exact jno (show (none : Option jH) = some res from hf)
  | succ k ih =>
    intro a0 h hf
    exact J_X12_blanks_0_b K n (F_X12_blanks_0 n k) ih E a0 h hf
set_option maxHeartbeats 400000 in
set_option maxRecDepth 100000 in
theorem J_X12_blanks {G : jG} {l : Launch} {d : Nat} {X : jX} {res : jH} (K : jOK G l mX12_blanks (d + 1) X) (n : Nat) (E : jEnd G mX12_blanks (jPV res) X) (a0 : Nat) (h : jH) (hf : F_X12_blanks n a0 h = some res) : jJ G X h 0 0 0 [some (.ref a0)] [] := by
  unfold F_X12_blanks at hf
  refine jr_keep [true] ?_
  exact J_X12_blanks_0 K n E n a0 h hf
theorem C_X12_blanks {G : jG} {l : Launch} (d : Nat) {n : Nat} {a0 : Nat} {h : jH} {res : jH} (hf : F_X12_blanks n a0 h = some res) : jC G l mX12_blanks (d + 1) 0 0 [.ref a0] h (jPV res) :=
  jC.of pn_X12 (jcats rfl) (Nat.le_of_ble_eq_true rfl) (fun X K E => J_X12_blanks K n E a0 h hf)
set_option maxHeartbeats 400000 in
set_option maxRecDepth 100000 in
theorem J_X12_letters_4_b {G : jG} {l : Launch} {d : Nat} {X : jX} {res : jH} (K : jOK G l mX12_letters (d + 2) X) (n : Nat) (rc4 : Nat → jH → Option jH) (hr4 : ∀ (a0 : Nat) (h : jH), rc4 a0 h = some res → jJ G X h 0 0 4 [some (.ref a0)] []) (E : jEnd G mX12_letters (jPV res) X) (a0 : Nat) (h : jH) (hf : F_X12_letters_4_b n rc4 a0 h = some res) : jJ G X h 0 0 4 [some (.ref a0)] [] := by
  unfold F_X12_letters_4_b at hf
  refine jr_aload_n K (D_at DX12_letters_q0 2 rfl) rfl rfl ?_
  refine jr_bipush K (D_at DX12_letters_q0 3 rfl) (v := (97 : Int32)) (by decide) ?_
  refine jr_bipush K (D_at DX12_letters_q0 4 rfl) (v := (122 : Int32)) (by decide) ?_
  obtain ⟨v9, e9, hf⟩ := jbind hf
  obtain ⟨rc_9, e9⟩ := jcv_o e9
  refine jr_callV K (C_X12_isAt (d + 1) e9) (D_at DX12_letters_q0 5 rfl) cv_X12_91_X12_isAt (As := [.int (97 : Int32), .int (122 : Int32)]) (ci := 10) rfl rc_9 rfl rfl (by exact Nat.le_of_ble_eq_true rfl) (kc2 := 0) (ks2 := 0) rfl rfl (fun k9 h9 w9 => by cases w9.1) (fun r9 h9 w9 => ?_)
  obtain ⟨w1, w2⟩ := w9
  subst h9
  cases w1
  show jJ G X _ 0 0 _ _ (.int v9 :: _)
  refine jr_if_eq K (D_at DX12_letters_q0 6 rfl) (tgt := 28) (by decide) (fun c12 => ?_) (fun c12 => ?_)
  · replace hf := (if_pos c12).symm.trans hf
    cases hf
    exact jr_vret K E (D_at DX12_letters_q1 2 rfl) rfl ⟨rfl, rfl⟩
  · replace hf := (if_neg c12).symm.trans hf
    refine jr_aload_n K (D_at DX12_letters_q0 7 rfl) rfl rfl ?_
    refine jr_dup K (D_at DX12_letters_q0 8 rfl) rfl ?_
    obtain ⟨v17, e17, hf⟩ := jbind hf
    refine jr_getI K (D_at DX12_letters_q0 9 rfl) fg_X12_85_10 e17 ?_
    refine jr_iconst K (D_at DX12_letters_q0 10 rfl) (v := (1 : Int32)) (by decide) ?_
    refine jr_iadd K (D_at DX12_letters_q0 11 rfl) ?_
    obtain ⟨h22, e22, hf⟩ := jbind hf
    refine jr_putI K (D_at DX12_letters_q1 0 rfl) fp_X12_85_10 (Or.inl rfl) e22 ?_
    refine jr_goto K (D_at DX12_letters_q1 1 rfl) (tgt := 4) (by decide) ?_
    refine jr_keep [true] ?_
    exact hr4 a0 h22 hf
theorem J_X12_letters_4 {G : jG} {l : Launch} {d : Nat} {X : jX} {res : jH} (K : jOK G l mX12_letters (d + 2) X) (n : Nat) (E : jEnd G mX12_letters (jPV res) X) (k : Nat) : ∀ (a0 : Nat) (h : jH), F_X12_letters_4 n k a0 h = some res → jJ G X h 0 0 4 [some (.ref a0)] [] := by
  induction k with
  | zero =>
    intro a0 h hf
    exact jno (show (none : Option jH) = some res from hf)
  | succ k ih =>
    intro a0 h hf
    exact J_X12_letters_4_b K n (F_X12_letters_4 n k) ih E a0 h hf
set_option maxHeartbeats 400000 in
set_option maxRecDepth 100000 in
theorem J_X12_letters {G : jG} {l : Launch} {d : Nat} {X : jX} {res : jH} (K : jOK G l mX12_letters (d + 2) X) (n : Nat) (E : jEnd G mX12_letters (jPV res) X) (a0 : Nat) (h : jH) (hf : F_X12_letters n a0 h = some res) : jJ G X h 0 0 0 [some (.ref a0)] [] := by
  unfold F_X12_letters at hf
  refine jr_aload_n K (D_at DX12_letters_q0 0 rfl) rfl rfl ?_
  obtain ⟨h1, e1, hf⟩ := jbind hf
  obtain ⟨rc_1, e1⟩ := jcv_o e1
  refine jr_callV K (C_X12_blanks (d) e1) (D_at DX12_letters_q0 1 rfl) cv_X12_97_X12_blanks (As := []) (ci := 10) rfl rc_1 rfl rfl (by exact Nat.le_of_ble_eq_true rfl) (kc2 := 0) (ks2 := 0) rfl rfl (fun k9 h9 w9 => by cases w9.1) (fun r9 h9 w9 => ?_)
  obtain ⟨w1, w2⟩ := w9
  subst h9
  cases w1
  show jJ G X _ 0 0 _ _ []
  refine jr_keep [true] ?_
  exact J_X12_letters_4 K n E n a0 h1 hf
theorem C_X12_letters {G : jG} {l : Launch} (d : Nat) {n : Nat} {a0 : Nat} {h : jH} {res : jH} (hf : F_X12_letters n a0 h = some res) : jC G l mX12_letters (d + 2) 0 0 [.ref a0] h (jPV res) :=
  jC.of pn_X12 (jcats rfl) (Nat.le_of_ble_eq_true rfl) (fun X K E => J_X12_letters K n E a0 h hf)
set_option maxHeartbeats 400000 in
set_option maxRecDepth 100000 in
theorem J_X12_isWord_24_b {G : jG} {l : Launch} {d : Nat} {X : jX} {res : Int32} (K : jOK G l mX12_isWord (d + 6) X) (n : Nat) (h : jH) (rc24 : Nat → Nat → Int32 → Int32 → jH → Option Int32) (hr24 : ∀ (a0 : Nat) (t1 : Nat) (x2 : Int32) (x3 : Int32), rc24 a0 t1 x2 x3 h = some res → jJ G X h 0 0 24 [some (.ref a0), some (.ref (G.2.2.2 (10 + 2 * t1))), some (.int x2), some (.int x3)] []) (E : jEnd G mX12_isWord (jPR h res) X) (a0 : Nat) (t1 : Nat) (x2 : Int32) (x3 : Int32) (hf : F_X12_isWord_24_b n rc24 a0 t1 x2 x3 h = some res) : jJ G X h 0 0 24 [some (.ref a0), some (.ref (G.2.2.2 (10 + 2 * t1))), some (.int x2), some (.int x3)] [] := by
  unfold F_X12_isWord_24_b at hf
  refine jr_iload_n K (D_at DX12_isWord_q1 2 rfl) rfl rfl ?_
  refine jr_if_eq K (D_at DX12_isWord_q1 3 rfl) (tgt := 67) (by decide) (fun c25 => ?_) (fun c25 => ?_)
  · replace hf := (if_pos c25).symm.trans hf
    refine jr_iload_n K (D_at DX12_isWord_q3 1 rfl) rfl rfl ?_
    by_cases z9 : x2 = 0 ∨ x2 = 1
    · replace hf := (if_pos z9).symm.trans hf
      cases hf
      exact jr_zret K E (D_at DX12_isWord_q3 2 rfl) rfl z9 ⟨rfl, rfl⟩
    · exact jno (show (none : Option Int32) = some res from (if_neg z9).symm.trans hf)
  · replace hf := (if_neg c25).symm.trans hf
    refine jr_iload_n K (D_at DX12_isWord_q1 4 rfl) rfl rfl ?_
    refine jr_aload_n K (D_at DX12_isWord_q1 5 rfl) rfl rfl ?_
    obtain ⟨v30, e30, hf⟩ := jbind hf
    refine jr_slen K (D_at DX12_isWord_q1 6 rfl) ss_X12_100 (by exact Nat.le_of_ble_eq_true rfl) e30 ?_
    refine jr_icmp_ge K (D_at DX12_isWord_q1 7 rfl) (tgt := 67) (by decide) (fun c33 => ?_) (fun c33 => ?_)
    · replace hf := (if_pos c33).symm.trans hf
      refine jr_iload_n K (D_at DX12_isWord_q3 1 rfl) rfl rfl ?_
      by_cases z9 : x2 = 0 ∨ x2 = 1
      · replace hf := (if_pos z9).symm.trans hf
        cases hf
        exact jr_zret K E (D_at DX12_isWord_q3 2 rfl) rfl z9 ⟨rfl, rfl⟩
      · exact jno (show (none : Option Int32) = some res from (if_neg z9).symm.trans hf)
    · replace hf := (if_neg c33).symm.trans hf
      refine jr_aload_n K (D_at DX12_isWord_q1 8 rfl) rfl rfl ?_
      obtain ⟨p37, e37, hf⟩ := jbind hf
      refine jr_getR K (D_at DX12_isWord_q1 9 rfl) fg_X12_29_10 e37 ?_
      refine jr_aload_n K (D_at DX12_isWord_q1 10 rfl) rfl rfl ?_
      obtain ⟨v41, e41, hf⟩ := jbind hf
      refine jr_getI K (D_at DX12_isWord_q1 11 rfl) fg_X12_94_10 e41 ?_
      refine jr_iload_n K (D_at DX12_isWord_q2 0 rfl) rfl rfl ?_
      refine jr_iadd K (D_at DX12_isWord_q2 1 rfl) ?_
      obtain ⟨v46, e46, hf⟩ := jbind hf
      refine jr_bald K (D_at DX12_isWord_q2 2 rfl) e46 ?_
      refine jr_aload_n K (D_at DX12_isWord_q2 3 rfl) rfl rfl ?_
      refine jr_iload_n K (D_at DX12_isWord_q2 4 rfl) rfl rfl ?_
      obtain ⟨v49, e49, hf⟩ := jbind hf
      refine jr_schar K (D_at DX12_isWord_q2 5 rfl) ss_X12_105 (by exact Nat.le_of_ble_eq_true rfl) e49 ?_
      refine jr_icmp_ne K (D_at DX12_isWord_q2 6 rfl) (tgt := 59) (by decide) (fun c52 => ?_) (fun c52 => ?_)
      · replace hf := (if_neg c52).symm.trans hf
        refine jr_iconst K (D_at DX12_isWord_q2 9 rfl) (v := (0 : Int32)) (by decide) ?_
        refine jr_istore_n K (D_at DX12_isWord_q2 10 rfl) (i := 2) rfl (by decide) (L2 := [_, _, _, _]) rfl ?_
        refine jr_iinc K (D_at DX12_isWord_q2 11 rfl) (i := 3) rfl (v := x3 + (1 : Int32)) (jinc (by decide)) (by decide) (L2 := [_, _, _, _]) rfl ?_
        refine jr_goto K (D_at DX12_isWord_q3 0 rfl) (tgt := 24) (by decide) ?_
        refine jr_keep [true, true, true, true] ?_
        exact hr24 a0 t1 (0 : Int32) (x3 + (1 : Int32)) hf
      · replace hf := (if_pos c52).symm.trans hf
        refine jr_iconst K (D_at DX12_isWord_q2 7 rfl) (v := (1 : Int32)) (by decide) ?_
        refine jr_goto K (D_at DX12_isWord_q2 8 rfl) (tgt := 60) (by decide) ?_
        refine jr_istore_n K (D_at DX12_isWord_q2 10 rfl) (i := 2) rfl (by decide) (L2 := [_, _, _, _]) rfl ?_
        refine jr_iinc K (D_at DX12_isWord_q2 11 rfl) (i := 3) rfl (v := x3 + (1 : Int32)) (jinc (by decide)) (by decide) (L2 := [_, _, _, _]) rfl ?_
        refine jr_goto K (D_at DX12_isWord_q3 0 rfl) (tgt := 24) (by decide) ?_
        refine jr_keep [true, true, true, true] ?_
        exact hr24 a0 t1 (1 : Int32) (x3 + (1 : Int32)) hf
theorem J_X12_isWord_24 {G : jG} {l : Launch} {d : Nat} {X : jX} {res : Int32} (K : jOK G l mX12_isWord (d + 6) X) (n : Nat) (h : jH) (E : jEnd G mX12_isWord (jPR h res) X) (k : Nat) : ∀ (a0 : Nat) (t1 : Nat) (x2 : Int32) (x3 : Int32), F_X12_isWord_24 n k a0 t1 x2 x3 h = some res → jJ G X h 0 0 24 [some (.ref a0), some (.ref (G.2.2.2 (10 + 2 * t1))), some (.int x2), some (.int x3)] [] := by
  induction k with
  | zero =>
    intro a0 t1 x2 x3 hf
    exact jno (show (none : Option Int32) = some res from hf)
  | succ k ih =>
    intro a0 t1 x2 x3 hf
    exact J_X12_isWord_24_b K n h (F_X12_isWord_24 n k) ih E a0 t1 x2 x3 hf
set_option maxHeartbeats 400000 in
set_option maxRecDepth 100000 in
theorem J_X12_isWord {G : jG} {l : Launch} {d : Nat} {X : jX} {res : Int32} (K : jOK G l mX12_isWord (d + 6) X) (n : Nat) (h : jH) (E : jEnd G mX12_isWord (jPR h res) X) (a0 : Nat) (t1 : Nat) (hf : F_X12_isWord n a0 t1 h = some res) : jJ G X h 0 0 0 [some (.ref a0), some (.ref (G.2.2.2 (10 + 2 * t1))), none, none] [] := by
  unfold F_X12_isWord at hf
  refine jr_aload_n K (D_at DX12_isWord_q0 0 rfl) rfl rfl ?_
  obtain ⟨v1, e1, hf⟩ := jbind hf
  refine jr_getI K (D_at DX12_isWord_q0 1 rfl) fg_X12_85_10 e1 ?_
  refine jr_aload_n K (D_at DX12_isWord_q0 2 rfl) rfl rfl ?_
  obtain ⟨v5, e5, hf⟩ := jbind hf
  refine jr_getI K (D_at DX12_isWord_q0 3 rfl) fg_X12_94_10 e5 ?_
  refine jr_isub K (D_at DX12_isWord_q0 4 rfl) ?_
  refine jr_aload_n K (D_at DX12_isWord_q0 5 rfl) rfl rfl ?_
  obtain ⟨v10, e10, hf⟩ := jbind hf
  refine jr_slen K (D_at DX12_isWord_q0 6 rfl) ss_X12_100 (by exact Nat.le_of_ble_eq_true rfl) e10 ?_
  refine jr_icmp_ne K (D_at DX12_isWord_q0 7 rfl) (tgt := 20) (by decide) (fun c13 => ?_) (fun c13 => ?_)
  · replace hf := (if_neg c13).symm.trans hf
    refine jr_iconst K (D_at DX12_isWord_q0 10 rfl) (v := (0 : Int32)) (by decide) ?_
    refine jr_istore_n K (D_at DX12_isWord_q0 11 rfl) (i := 2) rfl (by decide) (L2 := [_, _, _, _]) rfl ?_
    refine jr_iconst K (D_at DX12_isWord_q1 0 rfl) (v := (0 : Int32)) (by decide) ?_
    refine jr_istore_n K (D_at DX12_isWord_q1 1 rfl) (i := 3) rfl (by decide) (L2 := [_, _, _, _]) rfl ?_
    refine jr_keep [true, true, true, true] ?_
    exact J_X12_isWord_24 K n h E n a0 t1 (0 : Int32) (0 : Int32) hf
  · replace hf := (if_pos c13).symm.trans hf
    refine jr_iconst K (D_at DX12_isWord_q0 8 rfl) (v := (1 : Int32)) (by decide) ?_
    refine jr_goto K (D_at DX12_isWord_q0 9 rfl) (tgt := 21) (by decide) ?_
    refine jr_istore_n K (D_at DX12_isWord_q0 11 rfl) (i := 2) rfl (by decide) (L2 := [_, _, _, _]) rfl ?_
    refine jr_iconst K (D_at DX12_isWord_q1 0 rfl) (v := (0 : Int32)) (by decide) ?_
    refine jr_istore_n K (D_at DX12_isWord_q1 1 rfl) (i := 3) rfl (by decide) (L2 := [_, _, _, _]) rfl ?_
    refine jr_keep [true, true, true, true] ?_
    exact J_X12_isWord_24 K n h E n a0 t1 (1 : Int32) (0 : Int32) hf
theorem C_X12_isWord {G : jG} {l : Launch} (d : Nat) {n : Nat} {a0 : Nat} {t1 : Nat} {h : jH} {res : Int32} (hf : F_X12_isWord n a0 t1 h = some res) : jC G l mX12_isWord (d + 6) 0 0 [.ref a0, .ref (G.2.2.2 (10 + 2 * t1))] h (jPR h res) :=
  jC.of pn_X12 (jcats rfl) (Nat.le_of_ble_eq_true rfl) (fun X K E => J_X12_isWord K n h E a0 t1 hf)
set_option maxHeartbeats 400000 in
set_option maxRecDepth 100000 in
theorem J_X12_passes {G : jG} {l : Launch} {d : Nat} {X : jX} {res : (Int32 × jH)} (K : jOK G l mX12_passes (d + 7) X) (n : Nat) (E : jEnd G mX12_passes (jPW res) X) (a0 : Nat) (t1 : Nat) (h : jH) (hf : F_X12_passes n a0 t1 h = some res) : jJ G X h 0 0 0 [some (.ref a0), some (.ref (G.2.2.2 (10 + 2 * t1)))] [] := by
  unfold F_X12_passes at hf
  refine jr_aload_n K (D_at DX12_passes_q0 0 rfl) rfl rfl ?_
  obtain ⟨h1, e1, hf⟩ := jbind hf
  obtain ⟨rc_1, e1⟩ := jcv_o e1
  refine jr_callV K (C_X12_letters (d + 4) e1) (D_at DX12_passes_q0 1 rfl) cv_X12_109_X12_letters (As := []) (ci := 10) rfl rc_1 rfl rfl (by exact Nat.le_of_ble_eq_true rfl) (kc2 := 0) (ks2 := 0) rfl rfl (fun k9 h9 w9 => by cases w9.1) (fun r9 h9 w9 => ?_)
  obtain ⟨w1, w2⟩ := w9
  subst h9
  cases w1
  show jJ G X _ 0 0 _ _ []
  refine jr_aload_n K (D_at DX12_passes_q0 2 rfl) rfl rfl ?_
  refine jr_aload_n K (D_at DX12_passes_q0 3 rfl) rfl rfl ?_
  obtain ⟨v6, e6, hf⟩ := jbind hf
  obtain ⟨rc_6, e6⟩ := jcv_o e6
  refine jr_callV K (C_X12_isWord (d) e6) (D_at DX12_passes_q0 4 rfl) cv_X12_112_X12_isWord (As := [.ref (G.2.2.2 (10 + 2 * t1))]) (ci := 10) rfl rc_6 rfl rfl (by exact Nat.le_of_ble_eq_true rfl) (kc2 := 0) (ks2 := 0) rfl rfl (fun k9 h9 w9 => by cases w9.1) (fun r9 h9 w9 => ?_)
  obtain ⟨w1, w2⟩ := w9
  subst h9
  cases w1
  show jJ G X _ 0 0 _ _ (.int v6 :: _)
  refine jr_if_eq K (D_at DX12_passes_q0 5 rfl) (tgt := 14) (by decide) (fun c9 => ?_) (fun c9 => ?_)
  · replace hf := (if_pos c9).symm.trans hf
    refine jr_aload_n K (D_at DX12_passes_q0 8 rfl) rfl rfl ?_
    refine jr_aload_n K (D_at DX12_passes_q0 9 rfl) rfl rfl ?_
    obtain ⟨v16, e16, hf⟩ := jbind hf
    refine jr_getI K (D_at DX12_passes_q0 10 rfl) fg_X12_94_10 e16 ?_
    obtain ⟨h19, e19, hf⟩ := jbind hf
    refine jr_putI K (D_at DX12_passes_q0 11 rfl) fp_X12_85_10 (Or.inl rfl) e19 ?_
    refine jr_iconst K (D_at DX12_passes_q1 0 rfl) (v := (0 : Int32)) (by decide) ?_
    cases hf
    exact jr_zret K E (D_at DX12_passes_q1 1 rfl) rfl (Or.inl rfl) ⟨rfl, rfl⟩
  · replace hf := (if_neg c9).symm.trans hf
    refine jr_iconst K (D_at DX12_passes_q0 6 rfl) (v := (1 : Int32)) (by decide) ?_
    cases hf
    exact jr_zret K E (D_at DX12_passes_q0 7 rfl) rfl (Or.inr rfl) ⟨rfl, rfl⟩
theorem C_X12_passes {G : jG} {l : Launch} (d : Nat) {n : Nat} {a0 : Nat} {t1 : Nat} {h : jH} {res : (Int32 × jH)} (hf : F_X12_passes n a0 t1 h = some res) : jC G l mX12_passes (d + 7) 0 0 [.ref a0, .ref (G.2.2.2 (10 + 2 * t1))] h (jPW res) :=
  jC.of pn_X12 (jcats rfl) (Nat.le_of_ble_eq_true rfl) (fun X K E => J_X12_passes K n E a0 t1 h hf)
set_option maxHeartbeats 400000 in
set_option maxRecDepth 100000 in
theorem J_X12_sign {G : jG} {l : Launch} {d : Nat} {X : jX} {res : (Int32 × jH)} (K : jOK G l mX12_sign (d + 2) X) (n : Nat) (E : jEnd G mX12_sign (jPW res) X) (a0 : Nat) (x1 : Int32) (h : jH) (hf : F_X12_sign n a0 x1 h = some res) : jJ G X h 0 0 0 [some (.ref a0), some (.int x1)] [] := by
  unfold F_X12_sign at hf
  refine jr_aload_n K (D_at DX12_sign_q0 0 rfl) rfl rfl ?_
  obtain ⟨h1, e1, hf⟩ := jbind hf
  obtain ⟨rc_1, e1⟩ := jcv_o e1
  refine jr_callV K (C_X12_blanks (d) e1) (D_at DX12_sign_q0 1 rfl) cv_X12_97_X12_blanks (As := []) (ci := 10) rfl rc_1 rfl rfl (by exact Nat.le_of_ble_eq_true rfl) (kc2 := 0) (ks2 := 0) rfl rfl (fun k9 h9 w9 => by cases w9.1) (fun r9 h9 w9 => ?_)
  obtain ⟨w1, w2⟩ := w9
  subst h9
  cases w1
  show jJ G X _ 0 0 _ _ []
  refine jr_aload_n K (D_at DX12_sign_q0 2 rfl) rfl rfl ?_
  refine jr_iload_n K (D_at DX12_sign_q0 3 rfl) rfl rfl ?_
  refine jr_iload_n K (D_at DX12_sign_q0 4 rfl) rfl rfl ?_
  obtain ⟨v7, e7, hf⟩ := jbind hf
  obtain ⟨rc_7, e7⟩ := jcv_o e7
  refine jr_callV K (C_X12_isAt (d + 1) e7) (D_at DX12_sign_q0 5 rfl) cv_X12_91_X12_isAt (As := [.int x1, .int x1]) (ci := 10) rfl rc_7 rfl rfl (by exact Nat.le_of_ble_eq_true rfl) (kc2 := 0) (ks2 := 0) rfl rfl (fun k9 h9 w9 => by cases w9.1) (fun r9 h9 w9 => ?_)
  obtain ⟨w1, w2⟩ := w9
  subst h9
  cases w1
  show jJ G X _ 0 0 _ _ (.int v7 :: _)
  refine jr_if_ne K (D_at DX12_sign_q0 6 rfl) (tgt := 15) (by decide) (fun c10 => ?_) (fun c10 => ?_)
  · replace hf := (if_neg c10).symm.trans hf
    refine jr_aload_n K (D_at DX12_sign_q0 9 rfl) rfl rfl ?_
    refine jr_dup K (D_at DX12_sign_q0 10 rfl) rfl ?_
    obtain ⟨v17, e17, hf⟩ := jbind hf
    refine jr_getI K (D_at DX12_sign_q0 11 rfl) fg_X12_85_10 e17 ?_
    refine jr_iconst K (D_at DX12_sign_q1 0 rfl) (v := (1 : Int32)) (by decide) ?_
    refine jr_iadd K (D_at DX12_sign_q1 1 rfl) ?_
    obtain ⟨h22, e22, hf⟩ := jbind hf
    refine jr_putI K (D_at DX12_sign_q1 2 rfl) fp_X12_85_10 (Or.inl rfl) e22 ?_
    refine jr_iconst K (D_at DX12_sign_q1 3 rfl) (v := (1 : Int32)) (by decide) ?_
    cases hf
    exact jr_zret K E (D_at DX12_sign_q1 4 rfl) rfl (Or.inr rfl) ⟨rfl, rfl⟩
  · replace hf := (if_pos c10).symm.trans hf
    refine jr_iconst K (D_at DX12_sign_q0 7 rfl) (v := (0 : Int32)) (by decide) ?_
    cases hf
    exact jr_zret K E (D_at DX12_sign_q0 8 rfl) rfl (Or.inl rfl) ⟨rfl, rfl⟩
theorem C_X12_sign {G : jG} {l : Launch} (d : Nat) {n : Nat} {a0 : Nat} {x1 : Int32} {h : jH} {res : (Int32 × jH)} (hf : F_X12_sign n a0 x1 h = some res) : jC G l mX12_sign (d + 2) 0 0 [.ref a0, .int x1] h (jPW res) :=
  jC.of pn_X12 (jcats rfl) (Nat.le_of_ble_eq_true rfl) (fun X K E => J_X12_sign K n E a0 x1 h hf)
set_option maxHeartbeats 400000 in
set_option maxRecDepth 100000 in
theorem J_X12_number_6_b {G : jG} {l : Launch} {d : Nat} {X : jX} {res : (Int32 × jH)} (K : jOK G l mX12_number (d + 2) X) (n : Nat) (rc6 : Nat → Int32 → Int32 → Int32 → jH → Option (Int32 × jH)) (hr6 : ∀ (a0 : Nat) (x1 : Int32) (x2 : Int32) (x3 : Int32) (h : jH), rc6 a0 x1 x2 x3 h = some res → jJ G X h 0 0 6 [some (.ref a0), some (.int x1), some (.int x2), some (.int x3)] []) (E : jEnd G mX12_number (jPW res) X) (a0 : Nat) (x1 : Int32) (x2 : Int32) (x3 : Int32) (h : jH) (hf : F_X12_number_6_b n rc6 a0 x1 x2 x3 h = some res) : jJ G X h 0 0 6 [some (.ref a0), some (.int x1), some (.int x2), some (.int x3)] [] := by
  unfold F_X12_number_6_b at hf
  refine jr_aload_n K (D_at DX12_number_q0 4 rfl) rfl rfl ?_
  refine jr_bipush K (D_at DX12_number_q0 5 rfl) (v := (48 : Int32)) (by decide) ?_
  refine jr_bipush K (D_at DX12_number_q0 6 rfl) (v := (57 : Int32)) (by decide) ?_
  obtain ⟨v11, e11, hf⟩ := jbind hf
  obtain ⟨rc_11, e11⟩ := jcv_o e11
  refine jr_callV K (C_X12_isAt (d + 1) e11) (D_at DX12_number_q0 7 rfl) cv_X12_91_X12_isAt (As := [.int (48 : Int32), .int (57 : Int32)]) (ci := 10) rfl rc_11 rfl rfl (by exact Nat.le_of_ble_eq_true rfl) (kc2 := 0) (ks2 := 0) rfl rfl (fun k9 h9 w9 => by cases w9.1) (fun r9 h9 w9 => ?_)
  obtain ⟨w1, w2⟩ := w9
  subst h9
  cases w1
  show jJ G X _ 0 0 _ _ (.int v11 :: _)
  refine jr_if_eq K (D_at DX12_number_q0 8 rfl) (tgt := 65) (by decide) (fun c14 => ?_) (fun c14 => ?_)
  · replace hf := (if_pos c14).symm.trans hf
    refine jr_aload_n K (D_at DX12_number_q3 1 rfl) rfl rfl ?_
    obtain ⟨v66, e66, hf⟩ := jbind hf
    refine jr_getI K (D_at DX12_number_q3 2 rfl) fg_X12_85_10 e66 ?_
    refine jr_aload_n K (D_at DX12_number_q3 3 rfl) rfl rfl ?_
    obtain ⟨v70, e70, hf⟩ := jbind hf
    refine jr_getI K (D_at DX12_number_q3 4 rfl) fg_X12_94_10 e70 ?_
    refine jr_icmp_eq K (D_at DX12_number_q3 5 rfl) (tgt := 99) (by decide) (fun c73 => ?_) (fun c73 => ?_)
    · replace hf := (if_pos c73).symm.trans hf
      refine jr_iconst K (D_at DX12_number_q4 7 rfl) (v := (-1 : Int32)) (by decide) ?_
      refine jr_goto K (D_at DX12_number_q4 8 rfl) (tgt := 104) (by decide) ?_
      cases hf
      exact jr_iret K E (D_at DX12_number_q4 10 rfl) rfl ⟨rfl, rfl⟩
    · replace hf := (if_neg c73).symm.trans hf
      refine jr_aload_n K (D_at DX12_number_q3 6 rfl) rfl rfl ?_
      obtain ⟨v77, e77, hf⟩ := jbind hf
      refine jr_getI K (D_at DX12_number_q3 7 rfl) fg_X12_85_10 e77 ?_
      refine jr_aload_n K (D_at DX12_number_q3 8 rfl) rfl rfl ?_
      obtain ⟨v81, e81, hf⟩ := jbind hf
      refine jr_getI K (D_at DX12_number_q3 9 rfl) fg_X12_94_10 e81 ?_
      refine jr_isub K (D_at DX12_number_q3 10 rfl) ?_
      refine jr_iconst K (D_at DX12_number_q3 11 rfl) (v := (3 : Int32)) (by decide) ?_
      refine jr_icmp_gt K (D_at DX12_number_q4 0 rfl) (tgt := 99) (by decide) (fun c86 => ?_) (fun c86 => ?_)
      · replace hf := (if_pos c86).symm.trans hf
        refine jr_iconst K (D_at DX12_number_q4 7 rfl) (v := (-1 : Int32)) (by decide) ?_
        refine jr_goto K (D_at DX12_number_q4 8 rfl) (tgt := 104) (by decide) ?_
        cases hf
        exact jr_iret K E (D_at DX12_number_q4 10 rfl) rfl ⟨rfl, rfl⟩
      · replace hf := (if_neg c86).symm.trans hf
        refine jr_iload_n K (D_at DX12_number_q4 1 rfl) rfl rfl ?_
        refine jr_iload_n K (D_at DX12_number_q4 2 rfl) rfl rfl ?_
        refine jr_icmp_lt K (D_at DX12_number_q4 3 rfl) (tgt := 99) (by decide) (fun c91 => ?_) (fun c91 => ?_)
        · replace hf := (if_pos c91).symm.trans hf
          refine jr_iconst K (D_at DX12_number_q4 7 rfl) (v := (-1 : Int32)) (by decide) ?_
          refine jr_goto K (D_at DX12_number_q4 8 rfl) (tgt := 104) (by decide) ?_
          cases hf
          exact jr_iret K E (D_at DX12_number_q4 10 rfl) rfl ⟨rfl, rfl⟩
        · replace hf := (if_neg c91).symm.trans hf
          refine jr_iload_n K (D_at DX12_number_q4 4 rfl) rfl rfl ?_
          refine jr_iload_n K (D_at DX12_number_q4 5 rfl) rfl rfl ?_
          refine jr_icmp_le K (D_at DX12_number_q4 6 rfl) (tgt := 103) (by decide) (fun c96 => ?_) (fun c96 => ?_)
          · replace hf := (if_pos c96).symm.trans hf
            refine jr_iload_n K (D_at DX12_number_q4 9 rfl) rfl rfl ?_
            cases hf
            exact jr_iret K E (D_at DX12_number_q4 10 rfl) rfl ⟨rfl, rfl⟩
          · replace hf := (if_neg c96).symm.trans hf
            refine jr_iconst K (D_at DX12_number_q4 7 rfl) (v := (-1 : Int32)) (by decide) ?_
            refine jr_goto K (D_at DX12_number_q4 8 rfl) (tgt := 104) (by decide) ?_
            cases hf
            exact jr_iret K E (D_at DX12_number_q4 10 rfl) rfl ⟨rfl, rfl⟩
  · replace hf := (if_neg c14).symm.trans hf
    refine jr_aload_n K (D_at DX12_number_q0 9 rfl) rfl rfl ?_
    obtain ⟨v18, e18, hf⟩ := jbind hf
    refine jr_getI K (D_at DX12_number_q0 10 rfl) fg_X12_85_10 e18 ?_
    refine jr_aload_n K (D_at DX12_number_q0 11 rfl) rfl rfl ?_
    obtain ⟨v22, e22, hf⟩ := jbind hf
    refine jr_getI K (D_at DX12_number_q1 0 rfl) fg_X12_94_10 e22 ?_
    refine jr_isub K (D_at DX12_number_q1 1 rfl) ?_
    refine jr_iconst K (D_at DX12_number_q1 2 rfl) (v := (3 : Int32)) (by decide) ?_
    refine jr_icmp_ge K (D_at DX12_number_q1 3 rfl) (tgt := 50) (by decide) (fun c27 => ?_) (fun c27 => ?_)
    · replace hf := (if_pos c27).symm.trans hf
      refine jr_iload_n K (D_at DX12_number_q2 4 rfl) rfl rfl ?_
      refine jr_istore_n K (D_at DX12_number_q2 5 rfl) (i := 3) rfl (by decide) (L2 := [_, _, _, _]) rfl ?_
      refine jr_aload_n K (D_at DX12_number_q2 6 rfl) rfl rfl ?_
      refine jr_dup K (D_at DX12_number_q2 7 rfl) rfl ?_
      obtain ⟨v54, e54, hf⟩ := jbind hf
      refine jr_getI K (D_at DX12_number_q2 8 rfl) fg_X12_85_10 e54 ?_
      refine jr_iconst K (D_at DX12_number_q2 9 rfl) (v := (1 : Int32)) (by decide) ?_
      refine jr_iadd K (D_at DX12_number_q2 10 rfl) ?_
      obtain ⟨h59, e59, hf⟩ := jbind hf
      refine jr_putI K (D_at DX12_number_q2 11 rfl) fp_X12_85_10 (Or.inl rfl) e59 ?_
      refine jr_goto K (D_at DX12_number_q3 0 rfl) (tgt := 6) (by decide) ?_
      refine jr_keep [true, true, true, true] ?_
      exact hr6 a0 x1 x2 x3 h59 hf
    · replace hf := (if_neg c27).symm.trans hf
      refine jr_bipush K (D_at DX12_number_q1 4 rfl) (v := (10 : Int32)) (by decide) ?_
      refine jr_iload_n K (D_at DX12_number_q1 5 rfl) rfl rfl ?_
      refine jr_imul K (D_at DX12_number_q1 6 rfl) ?_
      refine jr_aload_n K (D_at DX12_number_q1 7 rfl) rfl rfl ?_
      obtain ⟨p35, e35, hf⟩ := jbind hf
      refine jr_getR K (D_at DX12_number_q1 8 rfl) fg_X12_29_10 e35 ?_
      refine jr_aload_n K (D_at DX12_number_q1 9 rfl) rfl rfl ?_
      obtain ⟨v39, e39, hf⟩ := jbind hf
      refine jr_getI K (D_at DX12_number_q1 10 rfl) fg_X12_85_10 e39 ?_
      obtain ⟨v42, e42, hf⟩ := jbind hf
      refine jr_bald K (D_at DX12_number_q1 11 rfl) e42 ?_
      refine jr_iadd K (D_at DX12_number_q2 0 rfl) ?_
      refine jr_bipush K (D_at DX12_number_q2 1 rfl) (v := (48 : Int32)) (by decide) ?_
      refine jr_isub K (D_at DX12_number_q2 2 rfl) ?_
      refine jr_goto K (D_at DX12_number_q2 3 rfl) (tgt := 51) (by decide) ?_
      refine jr_istore_n K (D_at DX12_number_q2 5 rfl) (i := 3) rfl (by decide) (L2 := [_, _, _, _]) rfl ?_
      refine jr_aload_n K (D_at DX12_number_q2 6 rfl) rfl rfl ?_
      refine jr_dup K (D_at DX12_number_q2 7 rfl) rfl ?_
      obtain ⟨v54, e54, hf⟩ := jbind hf
      refine jr_getI K (D_at DX12_number_q2 8 rfl) fg_X12_85_10 e54 ?_
      refine jr_iconst K (D_at DX12_number_q2 9 rfl) (v := (1 : Int32)) (by decide) ?_
      refine jr_iadd K (D_at DX12_number_q2 10 rfl) ?_
      obtain ⟨h59, e59, hf⟩ := jbind hf
      refine jr_putI K (D_at DX12_number_q2 11 rfl) fp_X12_85_10 (Or.inl rfl) e59 ?_
      refine jr_goto K (D_at DX12_number_q3 0 rfl) (tgt := 6) (by decide) ?_
      refine jr_keep [true, true, true, true] ?_
      exact hr6 a0 x1 x2 ((((10 : Int32) * x3) + v42) - (48 : Int32)) h59 hf
theorem J_X12_number_6 {G : jG} {l : Launch} {d : Nat} {X : jX} {res : (Int32 × jH)} (K : jOK G l mX12_number (d + 2) X) (n : Nat) (E : jEnd G mX12_number (jPW res) X) (k : Nat) : ∀ (a0 : Nat) (x1 : Int32) (x2 : Int32) (x3 : Int32) (h : jH), F_X12_number_6 n k a0 x1 x2 x3 h = some res → jJ G X h 0 0 6 [some (.ref a0), some (.int x1), some (.int x2), some (.int x3)] [] := by
  induction k with
  | zero =>
    intro a0 x1 x2 x3 h hf
    exact jno (show (none : Option (Int32 × jH)) = some res from hf)
  | succ k ih =>
    intro a0 x1 x2 x3 h hf
    exact J_X12_number_6_b K n (F_X12_number_6 n k) ih E a0 x1 x2 x3 h hf
set_option maxHeartbeats 400000 in
set_option maxRecDepth 100000 in
theorem J_X12_number {G : jG} {l : Launch} {d : Nat} {X : jX} {res : (Int32 × jH)} (K : jOK G l mX12_number (d + 2) X) (n : Nat) (E : jEnd G mX12_number (jPW res) X) (a0 : Nat) (x1 : Int32) (x2 : Int32) (h : jH) (hf : F_X12_number n a0 x1 x2 h = some res) : jJ G X h 0 0 0 [some (.ref a0), some (.int x1), some (.int x2), none] [] := by
  unfold F_X12_number at hf
  refine jr_aload_n K (D_at DX12_number_q0 0 rfl) rfl rfl ?_
  obtain ⟨h1, e1, hf⟩ := jbind hf
  obtain ⟨rc_1, e1⟩ := jcv_o e1
  refine jr_callV K (C_X12_blanks (d) e1) (D_at DX12_number_q0 1 rfl) cv_X12_97_X12_blanks (As := []) (ci := 10) rfl rc_1 rfl rfl (by exact Nat.le_of_ble_eq_true rfl) (kc2 := 0) (ks2 := 0) rfl rfl (fun k9 h9 w9 => by cases w9.1) (fun r9 h9 w9 => ?_)
  obtain ⟨w1, w2⟩ := w9
  subst h9
  cases w1
  show jJ G X _ 0 0 _ _ []
  refine jr_iconst K (D_at DX12_number_q0 2 rfl) (v := (0 : Int32)) (by decide) ?_
  refine jr_istore_n K (D_at DX12_number_q0 3 rfl) (i := 3) rfl (by decide) (L2 := [_, _, _, _]) rfl ?_
  refine jr_keep [true, true, true, true] ?_
  exact J_X12_number_6 K n E n a0 x1 x2 (0 : Int32) h1 hf
theorem C_X12_number {G : jG} {l : Launch} (d : Nat) {n : Nat} {a0 : Nat} {x1 : Int32} {x2 : Int32} {h : jH} {res : (Int32 × jH)} (hf : F_X12_number n a0 x1 x2 h = some res) : jC G l mX12_number (d + 2) 0 0 [.ref a0, .int x1, .int x2] h (jPW res) :=
  jC.of pn_X12 (jcats rfl) (Nat.le_of_ble_eq_true rfl) (fun X K E => J_X12_number K n E a0 x1 x2 h hf)
set_option maxHeartbeats 400000 in
set_option maxRecDepth 100000 in
theorem J_X12_after {G : jG} {l : Launch} {d : Nat} {X : jX} {res : (Int32 × jH)} (K : jOK G l mX12_after (d + 7) X) (n : Nat) (E : jEnd G mX12_after (jPW res) X) (a0 : Nat) (t1 : Nat) (x2 : Int32) (x3 : Int32) (h : jH) (hf : F_X12_after n a0 t1 x2 x3 h = some res) : jJ G X h 0 0 0 [some (.ref a0), some (.ref (G.2.2.2 (10 + 2 * t1))), some (.int x2), some (.int x3)] [] := by
  unfold F_X12_after at hf
  refine jr_aload_n K (D_at DX12_after_q0 0 rfl) rfl rfl ?_
  obtain ⟨h1, e1, hf⟩ := jbind hf
  obtain ⟨rc_1, e1⟩ := jcv_o e1
  refine jr_callV K (C_X12_letters (d + 4) e1) (D_at DX12_after_q0 1 rfl) cv_X12_109_X12_letters (As := []) (ci := 10) rfl rc_1 rfl rfl (by exact Nat.le_of_ble_eq_true rfl) (kc2 := 0) (ks2 := 0) rfl rfl (fun k9 h9 w9 => by cases w9.1) (fun r9 h9 w9 => ?_)
  obtain ⟨w1, w2⟩ := w9
  subst h9
  cases w1
  show jJ G X _ 0 0 _ _ []
  refine jr_aload_n K (D_at DX12_after_q0 2 rfl) rfl rfl ?_
  refine jr_aload_n K (D_at DX12_after_q0 3 rfl) rfl rfl ?_
  obtain ⟨v6, e6, hf⟩ := jbind hf
  obtain ⟨rc_6, e6⟩ := jcv_o e6
  refine jr_callV K (C_X12_isWord (d) e6) (D_at DX12_after_q0 4 rfl) cv_X12_112_X12_isWord (As := [.ref (G.2.2.2 (10 + 2 * t1))]) (ci := 10) rfl rc_6 rfl rfl (by exact Nat.le_of_ble_eq_true rfl) (kc2 := 0) (ks2 := 0) rfl rfl (fun k9 h9 w9 => by cases w9.1) (fun r9 h9 w9 => ?_)
  obtain ⟨w1, w2⟩ := w9
  subst h9
  cases w1
  show jJ G X _ 0 0 _ _ (.int v6 :: _)
  refine jr_if_eq K (D_at DX12_after_q0 5 rfl) (tgt := 21) (by decide) (fun c9 => ?_) (fun c9 => ?_)
  · replace hf := (if_pos c9).symm.trans hf
    refine jr_iconst K (D_at DX12_after_q0 11 rfl) (v := (-1 : Int32)) (by decide) ?_
    cases hf
    exact jr_iret K E (D_at DX12_after_q1 0 rfl) rfl ⟨rfl, rfl⟩
  · replace hf := (if_neg c9).symm.trans hf
    refine jr_aload_n K (D_at DX12_after_q0 6 rfl) rfl rfl ?_
    refine jr_iload_n K (D_at DX12_after_q0 7 rfl) rfl rfl ?_
    refine jr_iload_n K (D_at DX12_after_q0 8 rfl) rfl rfl ?_
    obtain ⟨q15, e15, hf⟩ := jbind hf
    obtain ⟨rc_15, e15⟩ := jcv_o e15
    refine jr_callV K (C_X12_number (d + 4) e15) (D_at DX12_after_q0 9 rfl) cv_X12_116_X12_number (As := [.int x2, .int x3]) (ci := 10) rfl rc_15 rfl rfl (by exact Nat.le_of_ble_eq_true rfl) (kc2 := 0) (ks2 := 0) rfl rfl (fun k9 h9 w9 => by cases w9.1) (fun r9 h9 w9 => ?_)
    obtain ⟨w1, w2⟩ := w9
    subst h9
    cases w1
    show jJ G X _ 0 0 _ _ (.int q15.1 :: _)
    refine jr_goto K (D_at DX12_after_q0 10 rfl) (tgt := 22) (by decide) ?_
    cases hf
    exact jr_iret K E (D_at DX12_after_q1 0 rfl) rfl ⟨rfl, rfl⟩
theorem C_X12_after {G : jG} {l : Launch} (d : Nat) {n : Nat} {a0 : Nat} {t1 : Nat} {x2 : Int32} {x3 : Int32} {h : jH} {res : (Int32 × jH)} (hf : F_X12_after n a0 t1 x2 x3 h = some res) : jC G l mX12_after (d + 7) 0 0 [.ref a0, .ref (G.2.2.2 (10 + 2 * t1)), .int x2, .int x3] h (jPW res) :=
  jC.of pn_X12 (jcats rfl) (Nat.le_of_ble_eq_true rfl) (fun X K E => J_X12_after K n E a0 t1 x2 x3 h hf)
set_option maxHeartbeats 400000 in
set_option maxRecDepth 100000 in
theorem J_X12_fault {G : jG} {l : Launch} {d : Nat} {X : jX} {res : (Int32 × jH)} (K : jOK G l mX12_fault (d) X) (n : Nat) (E : jEnd G mX12_fault (jPW res) X) (a0 : Nat) (h : jH) (hf : F_X12_fault n a0 h = some res) : jJ G X h 0 0 0 [some (.ref a0)] [] := by
  unfold F_X12_fault at hf
  refine jr_aload_n K (D_at DX12_fault_q0 0 rfl) rfl rfl ?_
  refine jr_iconst K (D_at DX12_fault_q0 1 rfl) (v := (0 : Int32)) (by decide) ?_
  obtain ⟨h2, e2, hf⟩ := jbind hf
  refine jr_putI K (D_at DX12_fault_q0 2 rfl) fp_X12_3_10 (Or.inl rfl) e2 ?_
  refine jr_aload_n K (D_at DX12_fault_q0 3 rfl) rfl rfl ?_
  obtain ⟨v6, e6, hf⟩ := jbind hf
  refine jr_getI K (D_at DX12_fault_q0 4 rfl) fg_X12_33_10 e6 ?_
  cases hf
  exact jr_iret K E (D_at DX12_fault_q0 5 rfl) rfl ⟨rfl, rfl⟩
theorem C_X12_fault {G : jG} {l : Launch} (d : Nat) {n : Nat} {a0 : Nat} {h : jH} {res : (Int32 × jH)} (hf : F_X12_fault n a0 h = some res) : jC G l mX12_fault (d) 0 0 [.ref a0] h (jPW res) :=
  jC.of pn_X12 (jcats rfl) (Nat.le_of_ble_eq_true rfl) (fun X K E => J_X12_fault K n E a0 h hf)
set_option maxHeartbeats 400000 in
set_option maxRecDepth 100000 in
theorem J_X12_uses {G : jG} {l : Launch} {d : Nat} {X : jX} {res : jH} (K : jOK G l mX12_uses (d) X) (n : Nat) (E : jEnd G mX12_uses (jPV res) X) (a0 : Nat) (h : jH) (hf : F_X12_uses n a0 h = some res) : jJ G X h 0 0 0 [some (.ref a0)] [] := by
  unfold F_X12_uses at hf
  refine jr_aload_n K (D_at DX12_uses_q0 0 rfl) rfl rfl ?_
  refine jr_iconst K (D_at DX12_uses_q0 1 rfl) (v := (0 : Int32)) (by decide) ?_
  obtain ⟨h2, e2, hf⟩ := jbind hf
  refine jr_putI K (D_at DX12_uses_q0 2 rfl) fp_X12_3_10 (Or.inl rfl) e2 ?_
  refine jr_aload_n K (D_at DX12_uses_q0 3 rfl) rfl rfl ?_
  refine jr_aload_n K (D_at DX12_uses_q0 4 rfl) rfl rfl ?_
  obtain ⟨v7, e7, hf⟩ := jbind hf
  refine jr_getI K (D_at DX12_uses_q0 5 rfl) fg_X12_82_10 e7 ?_
  obtain ⟨h10, e10, hf⟩ := jbind hf
  refine jr_putI K (D_at DX12_uses_q0 6 rfl) fp_X12_88_10 (Or.inl rfl) e10 ?_
  refine jr_aload_n K (D_at DX12_uses_q0 7 rfl) rfl rfl ?_
  refine jr_iconst K (D_at DX12_uses_q0 8 rfl) (v := (0 : Int32)) (by decide) ?_
  obtain ⟨h15, e15, hf⟩ := jbind hf
  refine jr_putI K (D_at DX12_uses_q0 9 rfl) fp_X12_82_10 (Or.inl rfl) e15 ?_
  refine jr_aload_n K (D_at DX12_uses_q0 10 rfl) rfl rfl ?_
  refine jr_iconst K (D_at DX12_uses_q0 11 rfl) (v := (0 : Int32)) (by decide) ?_
  obtain ⟨h20, e20, hf⟩ := jbind hf
  refine jr_putI K (D_at DX12_uses_q1 0 rfl) fp_X12_85_10 (Or.inl rfl) e20 ?_
  cases hf
  exact jr_vret K E (D_at DX12_uses_q1 1 rfl) rfl ⟨rfl, rfl⟩
theorem C_X12_uses {G : jG} {l : Launch} (d : Nat) {n : Nat} {a0 : Nat} {h : jH} {res : jH} (hf : F_X12_uses n a0 h = some res) : jC G l mX12_uses (d) 0 0 [.ref a0] h (jPV res) :=
  jC.of pn_X12 (jcats rfl) (Nat.le_of_ble_eq_true rfl) (fun X K E => J_X12_uses K n E a0 h hf)
set_option maxHeartbeats 400000 in
set_option maxRecDepth 100000 in
theorem J_X12_readNumber {G : jG} {l : Launch} {d : Nat} {X : jX} {res : (Int32 × jH)} (K : jOK G l mX12_readNumber (d + 3) X) (n : Nat) (E : jEnd G mX12_readNumber (jPW res) X) (a0 : Nat) (x1 : Int32) (x2 : Int32) (x3 : Int32) (h : jH) (hf : F_X12_readNumber n a0 x1 x2 x3 h = some res) : jJ G X h 0 0 0 [some (.ref a0), some (.int x1), some (.int x2), some (.int x3), none] [] := by
  unfold F_X12_readNumber at hf
  refine jr_aload_n K (D_at DX12_readNumber_q0 0 rfl) rfl rfl ?_
  refine jr_iload_n K (D_at DX12_readNumber_q0 1 rfl) rfl rfl ?_
  refine jr_iload_n K (D_at DX12_readNumber_q0 2 rfl) rfl rfl ?_
  obtain ⟨q3, e3, hf⟩ := jbind hf
  obtain ⟨rc_3, e3⟩ := jcv_o e3
  refine jr_callV K (C_X12_number (d) e3) (D_at DX12_readNumber_q0 3 rfl) cv_X12_116_X12_number (As := [.int x2, .int x3]) (ci := 10) rfl rc_3 rfl rfl (by exact Nat.le_of_ble_eq_true rfl) (kc2 := 0) (ks2 := 0) rfl rfl (fun k9 h9 w9 => by cases w9.1) (fun r9 h9 w9 => ?_)
  obtain ⟨w1, w2⟩ := w9
  subst h9
  cases w1
  show jJ G X _ 0 0 _ _ (.int q3.1 :: _)
  refine jr_istore K (D_at DX12_readNumber_q0 4 rfl) (i := 4) (by decide) (L2 := [_, _, _, _, _]) rfl ?_
  refine jr_aload_n K (D_at DX12_readNumber_q0 5 rfl) rfl rfl ?_
  obtain ⟨p9, e9, hf⟩ := jbind hf
  refine jr_getR K (D_at DX12_readNumber_q0 6 rfl) fg_X12_13_10 e9 ?_
  refine jr_iload_n K (D_at DX12_readNumber_q0 7 rfl) rfl rfl ?_
  refine jr_iload K (D_at DX12_readNumber_q0 8 rfl) rfl ?_
  refine jr_if_ge K (D_at DX12_readNumber_q0 9 rfl) (tgt := 27) (by decide) (fun c15 => ?_) (fun c15 => ?_)
  · replace hf := (if_pos c15).symm.trans hf
    refine jr_iload K (D_at DX12_readNumber_q1 3 rfl) rfl ?_
    obtain ⟨h29, e29, hf⟩ := jbind hf
    refine jr_iast K (D_at DX12_readNumber_q1 4 rfl) e29 ?_
    refine jr_iload K (D_at DX12_readNumber_q1 5 rfl) rfl ?_
    refine jr_if_lt K (D_at DX12_readNumber_q1 6 rfl) (tgt := 39) (by decide) (fun c32 => ?_) (fun c32 => ?_)
    · replace hf := (if_pos c32).symm.trans hf
      refine jr_iconst K (D_at DX12_readNumber_q1 9 rfl) (v := (0 : Int32)) (by decide) ?_
      cases hf
      exact jr_zret K E (D_at DX12_readNumber_q1 10 rfl) rfl (Or.inl rfl) ⟨rfl, rfl⟩
    · replace hf := (if_neg c32).symm.trans hf
      refine jr_iconst K (D_at DX12_readNumber_q1 7 rfl) (v := (1 : Int32)) (by decide) ?_
      refine jr_goto K (D_at DX12_readNumber_q1 8 rfl) (tgt := 40) (by decide) ?_
      cases hf
      exact jr_zret K E (D_at DX12_readNumber_q1 10 rfl) rfl (Or.inr rfl) ⟨rfl, rfl⟩
  · replace hf := (if_neg c15).symm.trans hf
    refine jr_aload_n K (D_at DX12_readNumber_q0 10 rfl) rfl rfl ?_
    obtain ⟨p19, e19, hf⟩ := jbind hf
    refine jr_getR K (D_at DX12_readNumber_q0 11 rfl) fg_X12_13_10 e19 ?_
    refine jr_iload_n K (D_at DX12_readNumber_q1 0 rfl) rfl rfl ?_
    obtain ⟨v23, e23, hf⟩ := jbind hf
    refine jr_iald K (D_at DX12_readNumber_q1 1 rfl) e23 ?_
    refine jr_goto K (D_at DX12_readNumber_q1 2 rfl) (tgt := 29) (by decide) ?_
    obtain ⟨h29, e29, hf⟩ := jbind hf
    refine jr_iast K (D_at DX12_readNumber_q1 4 rfl) e29 ?_
    refine jr_iload K (D_at DX12_readNumber_q1 5 rfl) rfl ?_
    refine jr_if_lt K (D_at DX12_readNumber_q1 6 rfl) (tgt := 39) (by decide) (fun c32 => ?_) (fun c32 => ?_)
    · replace hf := (if_pos c32).symm.trans hf
      refine jr_iconst K (D_at DX12_readNumber_q1 9 rfl) (v := (0 : Int32)) (by decide) ?_
      cases hf
      exact jr_zret K E (D_at DX12_readNumber_q1 10 rfl) rfl (Or.inl rfl) ⟨rfl, rfl⟩
    · replace hf := (if_neg c32).symm.trans hf
      refine jr_iconst K (D_at DX12_readNumber_q1 7 rfl) (v := (1 : Int32)) (by decide) ?_
      refine jr_goto K (D_at DX12_readNumber_q1 8 rfl) (tgt := 40) (by decide) ?_
      cases hf
      exact jr_zret K E (D_at DX12_readNumber_q1 10 rfl) rfl (Or.inr rfl) ⟨rfl, rfl⟩
theorem C_X12_readNumber {G : jG} {l : Launch} (d : Nat) {n : Nat} {a0 : Nat} {x1 : Int32} {x2 : Int32} {x3 : Int32} {h : jH} {res : (Int32 × jH)} (hf : F_X12_readNumber n a0 x1 x2 x3 h = some res) : jC G l mX12_readNumber (d + 3) 0 0 [.ref a0, .int x1, .int x2, .int x3] h (jPW res) :=
  jC.of pn_X12 (jcats rfl) (Nat.le_of_ble_eq_true rfl) (fun X K E => J_X12_readNumber K n E a0 x1 x2 x3 h hf)
set_option maxHeartbeats 400000 in
set_option maxRecDepth 100000 in
theorem J_X12_leastPlace {G : jG} {l : Launch} {d : Nat} {X : jX} {res : Int32} (K : jOK G l mX12_leastPlace (d + 2) X) (n : Nat) (h : jH) (E : jEnd G mX12_leastPlace (jPR h res) X) (a0 : Nat) (hf : F_X12_leastPlace n a0 h = some res) : jJ G X h 0 0 0 [some (.ref a0)] [] := by
  unfold F_X12_leastPlace at hf
  refine jr_aload_n K (D_at DX12_leastPlace_q0 0 rfl) rfl rfl ?_
  obtain ⟨v1, e1, hf⟩ := jbind hf
  obtain ⟨rc_1, e1⟩ := jcv_o e1
  refine jr_callV K (C_X12_rings (d + 1) e1) (D_at DX12_leastPlace_q0 1 rfl) cv_X12_59_X12_rings (As := []) (ci := 10) rfl rc_1 rfl rfl (by exact Nat.le_of_ble_eq_true rfl) (kc2 := 0) (ks2 := 0) rfl rfl (fun k9 h9 w9 => by cases w9.1) (fun r9 h9 w9 => ?_)
  obtain ⟨w1, w2⟩ := w9
  subst h9
  cases w1
  show jJ G X _ 0 0 _ _ (.int v1 :: _)
  refine jr_if_ne K (D_at DX12_leastPlace_q0 2 rfl) (tgt := 11) (by decide) (fun c4 => ?_) (fun c4 => ?_)
  · replace hf := (if_neg c4).symm.trans hf
    refine jr_aload_n K (D_at DX12_leastPlace_q0 5 rfl) rfl rfl ?_
    refine jr_aload_n K (D_at DX12_leastPlace_q0 6 rfl) rfl rfl ?_
    obtain ⟨v13, e13, hf⟩ := jbind hf
    obtain ⟨rc_13, e13⟩ := jcv_o e13
    refine jr_callV K (C_X12_lastRing (d) e13) (D_at DX12_leastPlace_q0 7 rfl) cv_X12_70_X12_lastRing (As := []) (ci := 10) rfl rc_13 rfl rfl (by exact Nat.le_of_ble_eq_true rfl) (kc2 := 0) (ks2 := 0) rfl rfl (fun k9 h9 w9 => by cases w9.1) (fun r9 h9 w9 => ?_)
    obtain ⟨w1, w2⟩ := w9
    subst h9
    cases w1
    show jJ G X _ 0 0 _ _ (.int v13 :: _)
    refine jr_iconst K (D_at DX12_leastPlace_q0 8 rfl) (v := (0 : Int32)) (by decide) ?_
    obtain ⟨v17, e17, hf⟩ := jbind hf
    obtain ⟨rc_17, e17⟩ := jcv_o e17
    refine jr_callV K (C_X12_of (d) e17) (D_at DX12_leastPlace_q0 9 rfl) cv_X12_67_X12_of (As := [.int v13, .int (0 : Int32)]) (ci := 10) rfl rc_17 rfl rfl (by exact Nat.le_of_ble_eq_true rfl) (kc2 := 0) (ks2 := 0) rfl rfl (fun k9 h9 w9 => by cases w9.1) (fun r9 h9 w9 => ?_)
    obtain ⟨w1, w2⟩ := w9
    subst h9
    cases w1
    show jJ G X _ 0 0 _ _ (.int v17 :: _)
    refine jr_iconst K (D_at DX12_leastPlace_q0 10 rfl) (v := (1 : Int32)) (by decide) ?_
    refine jr_iadd K (D_at DX12_leastPlace_q0 11 rfl) ?_
    cases hf
    exact jr_iret K E (D_at DX12_leastPlace_q1 0 rfl) rfl ⟨rfl, rfl⟩
  · replace hf := (if_pos c4).symm.trans hf
    refine jr_iconst K (D_at DX12_leastPlace_q0 3 rfl) (v := (0 : Int32)) (by decide) ?_
    refine jr_goto K (D_at DX12_leastPlace_q0 4 rfl) (tgt := 22) (by decide) ?_
    cases hf
    exact jr_iret K E (D_at DX12_leastPlace_q1 0 rfl) rfl ⟨rfl, rfl⟩
theorem C_X12_leastPlace {G : jG} {l : Launch} (d : Nat) {n : Nat} {a0 : Nat} {h : jH} {res : Int32} (hf : F_X12_leastPlace n a0 h = some res) : jC G l mX12_leastPlace (d + 2) 0 0 [.ref a0] h (jPR h res) :=
  jC.of pn_X12 (jcats rfl) (Nat.le_of_ble_eq_true rfl) (fun X K E => J_X12_leastPlace K n h E a0 hf)
set_option maxHeartbeats 400000 in
set_option maxRecDepth 100000 in
theorem J_X12_mostPlace {G : jG} {l : Launch} {d : Nat} {X : jX} {res : Int32} (K : jOK G l mX12_mostPlace (d + 2) X) (n : Nat) (h : jH) (E : jEnd G mX12_mostPlace (jPR h res) X) (a0 : Nat) (hf : F_X12_mostPlace n a0 h = some res) : jJ G X h 0 0 0 [some (.ref a0)] [] := by
  unfold F_X12_mostPlace at hf
  refine jr_aload_n K (D_at DX12_mostPlace_q0 0 rfl) rfl rfl ?_
  obtain ⟨v1, e1, hf⟩ := jbind hf
  obtain ⟨rc_1, e1⟩ := jcv_o e1
  refine jr_callV K (C_X12_rings (d + 1) e1) (D_at DX12_mostPlace_q0 1 rfl) cv_X12_59_X12_rings (As := []) (ci := 10) rfl rc_1 rfl rfl (by exact Nat.le_of_ble_eq_true rfl) (kc2 := 0) (ks2 := 0) rfl rfl (fun k9 h9 w9 => by cases w9.1) (fun r9 h9 w9 => ?_)
  obtain ⟨w1, w2⟩ := w9
  subst h9
  cases w1
  show jJ G X _ 0 0 _ _ (.int v1 :: _)
  refine jr_if_ne K (D_at DX12_mostPlace_q0 2 rfl) (tgt := 12) (by decide) (fun c4 => ?_) (fun c4 => ?_)
  · replace hf := (if_neg c4).symm.trans hf
    refine jr_bipush K (D_at DX12_mostPlace_q0 5 rfl) (v := (31 : Int32)) (by decide) ?_
    refine jr_aload_n K (D_at DX12_mostPlace_q0 6 rfl) rfl rfl ?_
    refine jr_aload_n K (D_at DX12_mostPlace_q0 7 rfl) rfl rfl ?_
    obtain ⟨v16, e16, hf⟩ := jbind hf
    obtain ⟨rc_16, e16⟩ := jcv_o e16
    refine jr_callV K (C_X12_lastRing (d) e16) (D_at DX12_mostPlace_q0 8 rfl) cv_X12_70_X12_lastRing (As := []) (ci := 10) rfl rc_16 rfl rfl (by exact Nat.le_of_ble_eq_true rfl) (kc2 := 0) (ks2 := 0) rfl rfl (fun k9 h9 w9 => by cases w9.1) (fun r9 h9 w9 => ?_)
    obtain ⟨w1, w2⟩ := w9
    subst h9
    cases w1
    show jJ G X _ 0 0 _ _ (.int v16 :: _)
    refine jr_iconst K (D_at DX12_mostPlace_q0 9 rfl) (v := (0 : Int32)) (by decide) ?_
    obtain ⟨v20, e20, hf⟩ := jbind hf
    obtain ⟨rc_20, e20⟩ := jcv_o e20
    refine jr_callV K (C_X12_of (d) e20) (D_at DX12_mostPlace_q0 10 rfl) cv_X12_67_X12_of (As := [.int v16, .int (0 : Int32)]) (ci := 10) rfl rc_20 rfl rfl (by exact Nat.le_of_ble_eq_true rfl) (kc2 := 0) (ks2 := 0) rfl rfl (fun k9 h9 w9 => by cases w9.1) (fun r9 h9 w9 => ?_)
    obtain ⟨w1, w2⟩ := w9
    subst h9
    cases w1
    show jJ G X _ 0 0 _ _ (.int v20 :: _)
    refine jr_aload_n K (D_at DX12_mostPlace_q0 11 rfl) rfl rfl ?_
    refine jr_aload_n K (D_at DX12_mostPlace_q1 0 rfl) rfl rfl ?_
    obtain ⟨v25, e25, hf⟩ := jbind hf
    obtain ⟨rc_25, e25⟩ := jcv_o e25
    refine jr_callV K (C_X12_lastRing (d) e25) (D_at DX12_mostPlace_q1 1 rfl) cv_X12_70_X12_lastRing (As := []) (ci := 10) rfl rc_25 rfl rfl (by exact Nat.le_of_ble_eq_true rfl) (kc2 := 0) (ks2 := 0) rfl rfl (fun k9 h9 w9 => by cases w9.1) (fun r9 h9 w9 => ?_)
    obtain ⟨w1, w2⟩ := w9
    subst h9
    cases w1
    show jJ G X _ 0 0 _ _ (.int v25 :: _)
    refine jr_iconst K (D_at DX12_mostPlace_q1 2 rfl) (v := (1 : Int32)) (by decide) ?_
    obtain ⟨v29, e29, hf⟩ := jbind hf
    obtain ⟨rc_29, e29⟩ := jcv_o e29
    refine jr_callV K (C_X12_of (d) e29) (D_at DX12_mostPlace_q1 3 rfl) cv_X12_67_X12_of (As := [.int v25, .int (1 : Int32)]) (ci := 10) rfl rc_29 rfl rfl (by exact Nat.le_of_ble_eq_true rfl) (kc2 := 0) (ks2 := 0) rfl rfl (fun k9 h9 w9 => by cases w9.1) (fun r9 h9 w9 => ?_)
    obtain ⟨w1, w2⟩ := w9
    subst h9
    cases w1
    show jJ G X _ 0 0 _ _ (.int v29 :: _)
    refine jr_iadd K (D_at DX12_mostPlace_q1 4 rfl) ?_
    refine jr_min K (D_at DX12_mostPlace_q1 5 rfl) mm_X12_119 (by exact Nat.le_of_ble_eq_true rfl) ?_
    cases hf
    exact jr_iret K E (D_at DX12_mostPlace_q1 6 rfl) rfl ⟨rfl, rfl⟩
  · replace hf := (if_pos c4).symm.trans hf
    refine jr_bipush K (D_at DX12_mostPlace_q0 3 rfl) (v := (31 : Int32)) (by decide) ?_
    refine jr_goto K (D_at DX12_mostPlace_q0 4 rfl) (tgt := 36) (by decide) ?_
    cases hf
    exact jr_iret K E (D_at DX12_mostPlace_q1 6 rfl) rfl ⟨rfl, rfl⟩
theorem C_X12_mostPlace {G : jG} {l : Launch} (d : Nat) {n : Nat} {a0 : Nat} {h : jH} {res : Int32} (hf : F_X12_mostPlace n a0 h = some res) : jC G l mX12_mostPlace (d + 2) 0 0 [.ref a0] h (jPR h res) :=
  jC.of pn_X12 (jcats rfl) (Nat.le_of_ble_eq_true rfl) (fun X K E => J_X12_mostPlace K n h E a0 hf)
set_option maxHeartbeats 400000 in
set_option maxRecDepth 100000 in
theorem J_X12_hangs_8_b {G : jG} {l : Launch} {d : Nat} {X : jX} {res : jH} (K : jOK G l mX12_hangs (d + 1) X) (n : Nat) (rc8 : Nat → Int32 → Int32 → Int32 → Int32 → jH → Option jH) (hr8 : ∀ (a0 : Nat) (x1 : Int32) (x2 : Int32) (x3 : Int32) (x4 : Int32) (h : jH), rc8 a0 x1 x2 x3 x4 h = some res → jJ G X h 0 0 8 [some (.ref a0), some (.int x1), some (.int x2), some (.int x3), some (.int x4)] []) (E : jEnd G mX12_hangs (jPV res) X) (a0 : Nat) (x1 : Int32) (x2 : Int32) (x3 : Int32) (x4 : Int32) (h : jH) (hf : F_X12_hangs_8_b n rc8 a0 x1 x2 x3 x4 h = some res) : jJ G X h 0 0 8 [some (.ref a0), some (.int x1), some (.int x2), some (.int x3), some (.int x4)] [] := by
  unfold F_X12_hangs_8_b at hf
  refine jr_iload K (D_at DX12_hangs_q0 5 rfl) rfl ?_
  refine jr_bipush K (D_at DX12_hangs_q0 6 rfl) (v := (8 : Int32)) (by decide) ?_
  refine jr_icmp_ge K (D_at DX12_hangs_q0 7 rfl) (tgt := 33) (by decide) (fun c12 => ?_) (fun c12 => ?_)
  · replace hf := (if_pos c12).symm.trans hf
    refine jr_aload_n K (D_at DX12_hangs_q1 5 rfl) rfl rfl ?_
    obtain ⟨p34, e34, hf⟩ := jbind hf
    refine jr_getR K (D_at DX12_hangs_q1 6 rfl) fg_X12_13_10 e34 ?_
    refine jr_iload_n K (D_at DX12_hangs_q1 7 rfl) rfl rfl ?_
    refine jr_iconst K (D_at DX12_hangs_q1 8 rfl) (v := (0 : Int32)) (by decide) ?_
    obtain ⟨v39, e39, hf⟩ := jbind hf
    refine jr_callS K (C_X12_at (d) e39) (D_at DX12_hangs_q1 9 rfl) cs_X12_63_X12_at (As := [.int x3, .int (0 : Int32)]) rfl rfl (by exact Nat.le_of_ble_eq_true rfl) (kc2 := 0) (ks2 := 0) rfl rfl (fun k9 h9 w9 => by cases w9.1) (fun r9 h9 w9 => ?_)
    obtain ⟨w1, w2⟩ := w9
    subst h9
    cases w1
    show jJ G X _ 0 0 _ _ (.int v39 :: _)
    refine jr_iload_n K (D_at DX12_hangs_q1 10 rfl) rfl rfl ?_
    obtain ⟨h43, e43, hf⟩ := jbind hf
    refine jr_iast K (D_at DX12_hangs_q1 11 rfl) e43 ?_
    refine jr_aload_n K (D_at DX12_hangs_q2 0 rfl) rfl rfl ?_
    obtain ⟨p45, e45, hf⟩ := jbind hf
    refine jr_getR K (D_at DX12_hangs_q2 1 rfl) fg_X12_13_10 e45 ?_
    refine jr_iload_n K (D_at DX12_hangs_q2 2 rfl) rfl rfl ?_
    refine jr_iconst K (D_at DX12_hangs_q2 3 rfl) (v := (1 : Int32)) (by decide) ?_
    obtain ⟨v50, e50, hf⟩ := jbind hf
    refine jr_callS K (C_X12_at (d) e50) (D_at DX12_hangs_q2 4 rfl) cs_X12_63_X12_at (As := [.int x3, .int (1 : Int32)]) rfl rfl (by exact Nat.le_of_ble_eq_true rfl) (kc2 := 0) (ks2 := 0) rfl rfl (fun k9 h9 w9 => by cases w9.1) (fun r9 h9 w9 => ?_)
    obtain ⟨w1, w2⟩ := w9
    subst h9
    cases w1
    show jJ G X _ 0 0 _ _ (.int v50 :: _)
    refine jr_iload_n K (D_at DX12_hangs_q2 5 rfl) rfl rfl ?_
    obtain ⟨h54, e54, hf⟩ := jbind hf
    refine jr_iast K (D_at DX12_hangs_q2 6 rfl) e54 ?_
    refine jr_aload_n K (D_at DX12_hangs_q2 7 rfl) rfl rfl ?_
    obtain ⟨p56, e56, hf⟩ := jbind hf
    refine jr_getR K (D_at DX12_hangs_q2 8 rfl) fg_X12_13_10 e56 ?_
    refine jr_iload_n K (D_at DX12_hangs_q2 9 rfl) rfl rfl ?_
    refine jr_bipush K (D_at DX12_hangs_q2 10 rfl) (v := (6 : Int32)) (by decide) ?_
    obtain ⟨v62, e62, hf⟩ := jbind hf
    refine jr_callS K (C_X12_at (d) e62) (D_at DX12_hangs_q2 11 rfl) cs_X12_63_X12_at (As := [.int x3, .int (6 : Int32)]) rfl rfl (by exact Nat.le_of_ble_eq_true rfl) (kc2 := 0) (ks2 := 0) rfl rfl (fun k9 h9 w9 => by cases w9.1) (fun r9 h9 w9 => ?_)
    obtain ⟨w1, w2⟩ := w9
    subst h9
    cases w1
    show jJ G X _ 0 0 _ _ (.int v62 :: _)
    refine jr_iconst K (D_at DX12_hangs_q3 0 rfl) (v := (1 : Int32)) (by decide) ?_
    obtain ⟨h66, e66, hf⟩ := jbind hf
    refine jr_iast K (D_at DX12_hangs_q3 1 rfl) e66 ?_
    refine jr_aload_n K (D_at DX12_hangs_q3 2 rfl) rfl rfl ?_
    obtain ⟨p68, e68, hf⟩ := jbind hf
    refine jr_getR K (D_at DX12_hangs_q3 3 rfl) fg_X12_13_10 e68 ?_
    refine jr_iconst K (D_at DX12_hangs_q3 4 rfl) (v := (0 : Int32)) (by decide) ?_
    refine jr_dup2 K (D_at DX12_hangs_q3 5 rfl) rfl rfl ?_
    obtain ⟨v73, e73, hf⟩ := jbind hf
    refine jr_iald K (D_at DX12_hangs_q3 6 rfl) e73 ?_
    refine jr_iconst K (D_at DX12_hangs_q3 7 rfl) (v := (1 : Int32)) (by decide) ?_
    refine jr_iadd K (D_at DX12_hangs_q3 8 rfl) ?_
    obtain ⟨h76, e76, hf⟩ := jbind hf
    refine jr_iast K (D_at DX12_hangs_q3 9 rfl) e76 ?_
    cases hf
    exact jr_vret K E (D_at DX12_hangs_q3 10 rfl) rfl ⟨rfl, rfl⟩
  · replace hf := (if_neg c12).symm.trans hf
    refine jr_aload_n K (D_at DX12_hangs_q0 8 rfl) rfl rfl ?_
    obtain ⟨p16, e16, hf⟩ := jbind hf
    refine jr_getR K (D_at DX12_hangs_q0 9 rfl) fg_X12_13_10 e16 ?_
    refine jr_iload_n K (D_at DX12_hangs_q0 10 rfl) rfl rfl ?_
    refine jr_iload K (D_at DX12_hangs_q0 11 rfl) rfl ?_
    obtain ⟨v22, e22, hf⟩ := jbind hf
    refine jr_callS K (C_X12_at (d) e22) (D_at DX12_hangs_q1 0 rfl) cs_X12_63_X12_at (As := [.int x3, .int x4]) rfl rfl (by exact Nat.le_of_ble_eq_true rfl) (kc2 := 0) (ks2 := 0) rfl rfl (fun k9 h9 w9 => by cases w9.1) (fun r9 h9 w9 => ?_)
    obtain ⟨w1, w2⟩ := w9
    subst h9
    cases w1
    show jJ G X _ 0 0 _ _ (.int v22 :: _)
    refine jr_iconst K (D_at DX12_hangs_q1 1 rfl) (v := (0 : Int32)) (by decide) ?_
    obtain ⟨h26, e26, hf⟩ := jbind hf
    refine jr_iast K (D_at DX12_hangs_q1 2 rfl) e26 ?_
    refine jr_iinc K (D_at DX12_hangs_q1 3 rfl) (i := 4) rfl (v := x4 + (1 : Int32)) (jinc (by decide)) (by decide) (L2 := [_, _, _, _, _]) rfl ?_
    refine jr_goto K (D_at DX12_hangs_q1 4 rfl) (tgt := 8) (by decide) ?_
    refine jr_keep [true, true, true, true, true] ?_
    exact hr8 a0 x1 x2 x3 (x4 + (1 : Int32)) h26 hf
theorem J_X12_hangs_8 {G : jG} {l : Launch} {d : Nat} {X : jX} {res : jH} (K : jOK G l mX12_hangs (d + 1) X) (n : Nat) (E : jEnd G mX12_hangs (jPV res) X) (k : Nat) : ∀ (a0 : Nat) (x1 : Int32) (x2 : Int32) (x3 : Int32) (x4 : Int32) (h : jH), F_X12_hangs_8 n k a0 x1 x2 x3 x4 h = some res → jJ G X h 0 0 8 [some (.ref a0), some (.int x1), some (.int x2), some (.int x3), some (.int x4)] [] := by
  induction k with
  | zero =>
    intro a0 x1 x2 x3 x4 h hf
    exact jno (show (none : Option jH) = some res from hf)
  | succ k ih =>
    intro a0 x1 x2 x3 x4 h hf
    exact J_X12_hangs_8_b K n (F_X12_hangs_8 n k) ih E a0 x1 x2 x3 x4 h hf
set_option maxHeartbeats 400000 in
set_option maxRecDepth 100000 in
theorem J_X12_hangs {G : jG} {l : Launch} {d : Nat} {X : jX} {res : jH} (K : jOK G l mX12_hangs (d + 1) X) (n : Nat) (E : jEnd G mX12_hangs (jPV res) X) (a0 : Nat) (x1 : Int32) (x2 : Int32) (h : jH) (hf : F_X12_hangs n a0 x1 x2 h = some res) : jJ G X h 0 0 0 [some (.ref a0), some (.int x1), some (.int x2), none, none] [] := by
  unfold F_X12_hangs at hf
  refine jr_aload_n K (D_at DX12_hangs_q0 0 rfl) rfl rfl ?_
  obtain ⟨v1, e1, hf⟩ := jbind hf
  obtain ⟨rc_1, e1⟩ := jcv_o e1
  refine jr_callV K (C_X12_rings (d) e1) (D_at DX12_hangs_q0 1 rfl) cv_X12_59_X12_rings (As := []) (ci := 10) rfl rc_1 rfl rfl (by exact Nat.le_of_ble_eq_true rfl) (kc2 := 0) (ks2 := 0) rfl rfl (fun k9 h9 w9 => by cases w9.1) (fun r9 h9 w9 => ?_)
  obtain ⟨w1, w2⟩ := w9
  subst h9
  cases w1
  show jJ G X _ 0 0 _ _ (.int v1 :: _)
  refine jr_istore_n K (D_at DX12_hangs_q0 2 rfl) (i := 3) rfl (by decide) (L2 := [_, _, _, _, _]) rfl ?_
  refine jr_iconst K (D_at DX12_hangs_q0 3 rfl) (v := (0 : Int32)) (by decide) ?_
  refine jr_istore K (D_at DX12_hangs_q0 4 rfl) (i := 4) (by decide) (L2 := [_, _, _, _, _]) rfl ?_
  refine jr_keep [true, true, true, true, true] ?_
  exact J_X12_hangs_8 K n E n a0 x1 x2 v1 (0 : Int32) h hf
theorem C_X12_hangs {G : jG} {l : Launch} (d : Nat) {n : Nat} {a0 : Nat} {x1 : Int32} {x2 : Int32} {h : jH} {res : jH} (hf : F_X12_hangs n a0 x1 x2 h = some res) : jC G l mX12_hangs (d + 1) 0 0 [.ref a0, .int x1, .int x2] h (jPV res) :=
  jC.of pn_X12 (jcats rfl) (Nat.le_of_ble_eq_true rfl) (fun X K E => J_X12_hangs K n E a0 x1 x2 h hf)
set_option maxHeartbeats 400000 in
set_option maxRecDepth 100000 in
theorem J_X12_readRing_171 {G : jG} {l : Launch} {d : Nat} {X : jX} {res : (Int32 × jH)} (K : jOK G l mX12_readRing (d + 8) X) (n : Nat) (E : jEnd G mX12_readRing (jPW res) X) (a0 : Nat) (x1 : Int32) (x6 : Int32) (x7 : Int32) (sa0 : Nat) (s1 : Int32) (s2 : Int32) (h : jH) (hf : F_X12_readRing_171 n a0 x1 x6 x7 sa0 s1 s2 h = some res) : jJ G X h 0 0 171 [some (.ref a0), some (.int x1), none, none, none, none, some (.int x6), some (.int x7)] [.int s2, .int s1, .ref sa0] := by
  unfold F_X12_readRing_171 at hf
  obtain ⟨h171, e171, hf⟩ := jbind hf
  refine jr_iast K (D_at DX12_readRing_1_q2 5 rfl) e171 ?_
  refine jr_aload_n K (D_at DX12_readRing_1_q2 6 rfl) rfl rfl ?_
  obtain ⟨p173, e173, hf⟩ := jbind hf
  refine jr_getR K (D_at DX12_readRing_1_q2 7 rfl) fg_X12_13_10 e173 ?_
  refine jr_iload_n K (D_at DX12_readRing_1_q2 8 rfl) rfl rfl ?_
  refine jr_iconst K (D_at DX12_readRing_1_q2 9 rfl) (v := (4 : Int32)) (by decide) ?_
  obtain ⟨v178, e178, hf⟩ := jbind hf
  refine jr_callS K (C_X12_at (d + 7) e178) (D_at DX12_readRing_1_q2 10 rfl) cs_X12_63_X12_at (As := [.int x1, .int (4 : Int32)]) rfl rfl (by exact Nat.le_of_ble_eq_true rfl) (kc2 := 0) (ks2 := 0) rfl rfl (fun k9 h9 w9 => by cases w9.1) (fun r9 h9 w9 => ?_)
  obtain ⟨w1, w2⟩ := w9
  subst h9
  cases w1
  show jJ G X _ 0 0 _ _ (.int v178 :: _)
  refine jr_iload K (D_at DX12_readRing_1_q2 11 rfl) rfl ?_
  obtain ⟨h183, e183, hf⟩ := jbind hf
  refine jr_iast K (D_at DX12_readRing_1_q3 0 rfl) e183 ?_
  refine jr_aload_n K (D_at DX12_readRing_1_q3 1 rfl) rfl rfl ?_
  obtain ⟨p185, e185, hf⟩ := jbind hf
  refine jr_getR K (D_at DX12_readRing_1_q3 2 rfl) fg_X12_13_10 e185 ?_
  refine jr_iload_n K (D_at DX12_readRing_1_q3 3 rfl) rfl rfl ?_
  refine jr_iconst K (D_at DX12_readRing_1_q3 4 rfl) (v := (5 : Int32)) (by decide) ?_
  obtain ⟨v190, e190, hf⟩ := jbind hf
  refine jr_callS K (C_X12_at (d + 7) e190) (D_at DX12_readRing_1_q3 5 rfl) cs_X12_63_X12_at (As := [.int x1, .int (5 : Int32)]) rfl rfl (by exact Nat.le_of_ble_eq_true rfl) (kc2 := 0) (ks2 := 0) rfl rfl (fun k9 h9 w9 => by cases w9.1) (fun r9 h9 w9 => ?_)
  obtain ⟨w1, w2⟩ := w9
  subst h9
  cases w1
  show jJ G X _ 0 0 _ _ (.int v190 :: _)
  refine jr_iload K (D_at DX12_readRing_1_q3 6 rfl) rfl ?_
  obtain ⟨h195, e195, hf⟩ := jbind hf
  refine jr_iast K (D_at DX12_readRing_1_q3 7 rfl) e195 ?_
  refine jr_iconst K (D_at DX12_readRing_1_q3 8 rfl) (v := (1 : Int32)) (by decide) ?_
  cases hf
  exact jr_zret K E (D_at DX12_readRing_1_q3 9 rfl) rfl (Or.inr rfl) ⟨rfl, rfl⟩
set_option maxHeartbeats 400000 in
set_option maxRecDepth 100000 in
theorem J_X12_readRing_151 {G : jG} {l : Launch} {d : Nat} {X : jX} {res : (Int32 × jH)} (K : jOK G l mX12_readRing (d + 8) X) (n : Nat) (E : jEnd G mX12_readRing (jPW res) X) (a0 : Nat) (x1 : Int32) (x5 : Int32) (x6 : Int32) (x7 : Int32) (sa0 : Nat) (s1 : Int32) (s2 : Int32) (h : jH) (hf : F_X12_readRing_151 n a0 x1 x5 x6 x7 sa0 s1 s2 h = some res) : jJ G X h 0 0 151 [some (.ref a0), some (.int x1), none, none, none, some (.int x5), some (.int x6), some (.int x7)] [.int s2, .int s1, .ref sa0] := by
  unfold F_X12_readRing_151 at hf
  obtain ⟨h151, e151, hf⟩ := jbind hf
  refine jr_iast K (D_at DX12_readRing_1_q1 6 rfl) e151 ?_
  refine jr_aload_n K (D_at DX12_readRing_1_q1 7 rfl) rfl rfl ?_
  obtain ⟨p153, e153, hf⟩ := jbind hf
  refine jr_getR K (D_at DX12_readRing_1_q1 8 rfl) fg_X12_13_10 e153 ?_
  refine jr_iload_n K (D_at DX12_readRing_1_q1 9 rfl) rfl rfl ?_
  refine jr_iconst K (D_at DX12_readRing_1_q1 10 rfl) (v := (3 : Int32)) (by decide) ?_
  obtain ⟨v158, e158, hf⟩ := jbind hf
  refine jr_callS K (C_X12_at (d + 7) e158) (D_at DX12_readRing_1_q1 11 rfl) cs_X12_63_X12_at (As := [.int x1, .int (3 : Int32)]) rfl rfl (by exact Nat.le_of_ble_eq_true rfl) (kc2 := 0) (ks2 := 0) rfl rfl (fun k9 h9 w9 => by cases w9.1) (fun r9 h9 w9 => ?_)
  obtain ⟨w1, w2⟩ := w9
  subst h9
  cases w1
  show jJ G X _ 0 0 _ _ (.int v158 :: _)
  refine jr_iload K (D_at DX12_readRing_1_q2 0 rfl) rfl ?_
  refine jr_if_eq K (D_at DX12_readRing_1_q2 1 rfl) (tgt := 170) (by decide) (fun c163 => ?_) (fun c163 => ?_)
  · replace hf := (if_pos c163).symm.trans hf
    refine jr_iconst K (D_at DX12_readRing_1_q2 4 rfl) (v := (0 : Int32)) (by decide) ?_
    refine jr_keep [true, true, false, false, false, false, true, true] ?_
    exact J_X12_readRing_171 K n E a0 x1 x6 x7 p153 v158 (0 : Int32) h151 hf
  · replace hf := (if_neg c163).symm.trans hf
    refine jr_iconst K (D_at DX12_readRing_1_q2 2 rfl) (v := (1 : Int32)) (by decide) ?_
    refine jr_goto K (D_at DX12_readRing_1_q2 3 rfl) (tgt := 171) (by decide) ?_
    refine jr_keep [true, true, false, false, false, false, true, true] ?_
    exact J_X12_readRing_171 K n E a0 x1 x6 x7 p153 v158 (1 : Int32) h151 hf
set_option maxHeartbeats 400000 in
set_option maxRecDepth 100000 in
theorem J_X12_readRing_117 {G : jG} {l : Launch} {d : Nat} {X : jX} {res : (Int32 × jH)} (K : jOK G l mX12_readRing (d + 8) X) (n : Nat) (E : jEnd G mX12_readRing (jPW res) X) (a0 : Nat) (x1 : Int32) (x2 : Int32) (x3 : Int32) (x4 : Int32) (x5 : Int32) (x6 : Int32) (s0 : Int32) (h : jH) (hf : F_X12_readRing_117 n a0 x1 x2 x3 x4 x5 x6 s0 h = some res) : jJ G X h 0 0 117 [some (.ref a0), some (.int x1), some (.int x2), some (.int x3), some (.int x4), some (.int x5), some (.int x6), none] [.int s0] := by
  unfold F_X12_readRing_117 at hf
  refine jr_istore K (D_at DX12_readRing_q5 3 rfl) (i := 7) (by decide) (L2 := [_, _, _, _, _, _, _, _]) rfl ?_
  refine jr_iload K (D_at DX12_readRing_1_q0 0 rfl) rfl ?_
  refine jr_if_ge K (D_at DX12_readRing_1_q0 1 rfl) (tgt := 126) (by decide) (fun c121 => ?_) (fun c121 => ?_)
  · replace hf := (if_pos c121).symm.trans hf
    refine jr_aload_n K (D_at DX12_readRing_1_q0 4 rfl) rfl rfl ?_
    refine jr_iload_n K (D_at DX12_readRing_1_q0 5 rfl) rfl rfl ?_
    refine jr_iload_n K (D_at DX12_readRing_1_q0 6 rfl) rfl rfl ?_
    obtain ⟨h129, e129, hf⟩ := jbind hf
    obtain ⟨rc_129, e129⟩ := jcv_o e129
    refine jr_callV K (C_X12_hangs (d + 6) e129) (D_at DX12_readRing_1_q0 7 rfl) cv_X12_148_X12_hangs (As := [.int x2, .int x3]) (ci := 10) rfl rc_129 rfl rfl (by exact Nat.le_of_ble_eq_true rfl) (kc2 := 0) (ks2 := 0) rfl rfl (fun k9 h9 w9 => by cases w9.1) (fun r9 h9 w9 => ?_)
    obtain ⟨w1, w2⟩ := w9
    subst h9
    cases w1
    show jJ G X _ 0 0 _ _ []
    refine jr_aload_n K (D_at DX12_readRing_1_q0 8 rfl) rfl rfl ?_
    obtain ⟨p133, e133, hf⟩ := jbind hf
    refine jr_getR K (D_at DX12_readRing_1_q0 9 rfl) fg_X12_13_10 e133 ?_
    refine jr_iload_n K (D_at DX12_readRing_1_q0 10 rfl) rfl rfl ?_
    refine jr_iconst K (D_at DX12_readRing_1_q0 11 rfl) (v := (2 : Int32)) (by decide) ?_
    obtain ⟨v138, e138, hf⟩ := jbind hf
    refine jr_callS K (C_X12_at (d + 7) e138) (D_at DX12_readRing_1_q1 0 rfl) cs_X12_63_X12_at (As := [.int x1, .int (2 : Int32)]) rfl rfl (by exact Nat.le_of_ble_eq_true rfl) (kc2 := 0) (ks2 := 0) rfl rfl (fun k9 h9 w9 => by cases w9.1) (fun r9 h9 w9 => ?_)
    obtain ⟨w1, w2⟩ := w9
    subst h9
    cases w1
    show jJ G X _ 0 0 _ _ (.int v138 :: _)
    refine jr_iload K (D_at DX12_readRing_1_q1 1 rfl) rfl ?_
    refine jr_if_eq K (D_at DX12_readRing_1_q1 2 rfl) (tgt := 150) (by decide) (fun c143 => ?_) (fun c143 => ?_)
    · replace hf := (if_pos c143).symm.trans hf
      refine jr_iconst K (D_at DX12_readRing_1_q1 5 rfl) (v := (0 : Int32)) (by decide) ?_
      refine jr_keep [true, true, false, false, false, true, true, true] ?_
      exact J_X12_readRing_151 K n E a0 x1 x5 x6 s0 p133 v138 (0 : Int32) h129 hf
    · replace hf := (if_neg c143).symm.trans hf
      refine jr_iconst K (D_at DX12_readRing_1_q1 3 rfl) (v := (1 : Int32)) (by decide) ?_
      refine jr_goto K (D_at DX12_readRing_1_q1 4 rfl) (tgt := 151) (by decide) ?_
      refine jr_keep [true, true, false, false, false, true, true, true] ?_
      exact J_X12_readRing_151 K n E a0 x1 x5 x6 s0 p133 v138 (1 : Int32) h129 hf
  · replace hf := (if_neg c121).symm.trans hf
    refine jr_iconst K (D_at DX12_readRing_1_q0 2 rfl) (v := (0 : Int32)) (by decide) ?_
    cases hf
    exact jr_zret K E (D_at DX12_readRing_1_q0 3 rfl) rfl (Or.inl rfl) ⟨rfl, rfl⟩
set_option maxHeartbeats 400000 in
set_option maxRecDepth 100000 in
theorem J_X12_readRing_88 {G : jG} {l : Launch} {d : Nat} {X : jX} {res : (Int32 × jH)} (K : jOK G l mX12_readRing (d + 8) X) (n : Nat) (E : jEnd G mX12_readRing (jPW res) X) (a0 : Nat) (x1 : Int32) (x2 : Int32) (x3 : Int32) (x4 : Int32) (x5 : Int32) (s0 : Int32) (h : jH) (hf : F_X12_readRing_88 n a0 x1 x2 x3 x4 x5 s0 h = some res) : jJ G X h 0 0 88 [some (.ref a0), some (.int x1), some (.int x2), some (.int x3), some (.int x4), some (.int x5), none, none] [.int s0] := by
  unfold F_X12_readRing_88 at hf
  refine jr_istore K (D_at DX12_readRing_q4 0 rfl) (i := 6) (by decide) (L2 := [_, _, _, _, _, _, _, _]) rfl ?_
  refine jr_iload K (D_at DX12_readRing_q4 1 rfl) rfl ?_
  refine jr_if_ge K (D_at DX12_readRing_q4 2 rfl) (tgt := 97) (by decide) (fun c92 => ?_) (fun c92 => ?_)
  · replace hf := (if_pos c92).symm.trans hf
    refine jr_aload_n K (D_at DX12_readRing_q4 5 rfl) rfl rfl ?_
    refine jr_ldcS K (D_at DX12_readRing_q4 6 rfl) (i := 19) rfl ?_
    obtain ⟨q100, e100, hf⟩ := jbind hf
    obtain ⟨rc_100, e100⟩ := jcv_o e100
    refine jr_callV K (C_X12_passes (d) e100) (D_at DX12_readRing_q4 7 rfl) cv_X12_139_X12_passes (As := [.ref (G.2.2.2 (10 + 2 * 19))]) (ci := 10) rfl rc_100 rfl rfl (by exact Nat.le_of_ble_eq_true rfl) (kc2 := 0) (ks2 := 0) rfl rfl (fun k9 h9 w9 => by cases w9.1) (fun r9 h9 w9 => ?_)
    obtain ⟨w1, w2⟩ := w9
    subst h9
    cases w1
    show jJ G X _ 0 0 _ _ (.int q100.1 :: _)
    refine jr_if_eq K (D_at DX12_readRing_q4 8 rfl) (tgt := 116) (by decide) (fun c103 => ?_) (fun c103 => ?_)
    · replace hf := (if_pos c103).symm.trans hf
      refine jr_iconst K (D_at DX12_readRing_q5 2 rfl) (v := (0 : Int32)) (by decide) ?_
      refine jr_keep [true, true, true, true, true, true, true, false] ?_
      exact J_X12_readRing_117 K n E a0 x1 x2 x3 x4 x5 s0 (0 : Int32) q100.2 hf
    · replace hf := (if_neg c103).symm.trans hf
      refine jr_aload_n K (D_at DX12_readRing_q4 9 rfl) rfl rfl ?_
      refine jr_iconst K (D_at DX12_readRing_q4 10 rfl) (v := (0 : Int32)) (by decide) ?_
      refine jr_bipush K (D_at DX12_readRing_q4 11 rfl) (v := (9 : Int32)) (by decide) ?_
      obtain ⟨q110, e110, hf⟩ := jbind hf
      obtain ⟨rc_110, e110⟩ := jcv_o e110
      refine jr_callV K (C_X12_number (d + 5) e110) (D_at DX12_readRing_q5 0 rfl) cv_X12_116_X12_number (As := [.int (0 : Int32), .int (9 : Int32)]) (ci := 10) rfl rc_110 rfl rfl (by exact Nat.le_of_ble_eq_true rfl) (kc2 := 0) (ks2 := 0) rfl rfl (fun k9 h9 w9 => by cases w9.1) (fun r9 h9 w9 => ?_)
      obtain ⟨w1, w2⟩ := w9
      subst h9
      cases w1
      show jJ G X _ 0 0 _ _ (.int q110.1 :: _)
      refine jr_goto K (D_at DX12_readRing_q5 1 rfl) (tgt := 117) (by decide) ?_
      refine jr_keep [true, true, true, true, true, true, true, false] ?_
      exact J_X12_readRing_117 K n E a0 x1 x2 x3 x4 x5 s0 q110.1 q110.2 hf
  · replace hf := (if_neg c92).symm.trans hf
    refine jr_iconst K (D_at DX12_readRing_q4 3 rfl) (v := (0 : Int32)) (by decide) ?_
    cases hf
    exact jr_zret K E (D_at DX12_readRing_q4 4 rfl) rfl (Or.inl rfl) ⟨rfl, rfl⟩
set_option maxHeartbeats 400000 in
set_option maxRecDepth 100000 in
theorem J_X12_readRing_45 {G : jG} {l : Launch} {d : Nat} {X : jX} {res : (Int32 × jH)} (K : jOK G l mX12_readRing (d + 8) X) (n : Nat) (E : jEnd G mX12_readRing (jPW res) X) (a0 : Nat) (x1 : Int32) (x2 : Int32) (s0 : Int32) (h : jH) (hf : F_X12_readRing_45 n a0 x1 x2 s0 h = some res) : jJ G X h 0 0 45 [some (.ref a0), some (.int x1), some (.int x2), none, none, none, none, none] [.int s0] := by
  unfold F_X12_readRing_45 at hf
  refine jr_istore_n K (D_at DX12_readRing_q2 1 rfl) (i := 3) rfl (by decide) (L2 := [_, _, _, _, _, _, _, _]) rfl ?_
  refine jr_iload_n K (D_at DX12_readRing_q2 2 rfl) rfl rfl ?_
  refine jr_if_ge K (D_at DX12_readRing_q2 3 rfl) (tgt := 52) (by decide) (fun c47 => ?_) (fun c47 => ?_)
  · replace hf := (if_pos c47).symm.trans hf
    refine jr_aload_n K (D_at DX12_readRing_q2 6 rfl) rfl rfl ?_
    refine jr_ldcS K (D_at DX12_readRing_q2 7 rfl) (i := 16) rfl ?_
    obtain ⟨q55, e55, hf⟩ := jbind hf
    obtain ⟨rc_55, e55⟩ := jcv_o e55
    refine jr_callV K (C_X12_passes (d) e55) (D_at DX12_readRing_q2 8 rfl) cv_X12_139_X12_passes (As := [.ref (G.2.2.2 (10 + 2 * 16))]) (ci := 10) rfl rc_55 rfl rfl (by exact Nat.le_of_ble_eq_true rfl) (kc2 := 0) (ks2 := 0) rfl rfl (fun k9 h9 w9 => by cases w9.1) (fun r9 h9 w9 => ?_)
    obtain ⟨w1, w2⟩ := w9
    subst h9
    cases w1
    show jJ G X _ 0 0 _ _ (.int q55.1 :: _)
    refine jr_istore K (D_at DX12_readRing_q2 9 rfl) (i := 4) (by decide) (L2 := [_, _, _, _, _, _, _, _]) rfl ?_
    refine jr_aload_n K (D_at DX12_readRing_q2 10 rfl) rfl rfl ?_
    refine jr_ldcS K (D_at DX12_readRing_q2 11 rfl) (i := 17) rfl ?_
    obtain ⟨q63, e63, hf⟩ := jbind hf
    obtain ⟨rc_63, e63⟩ := jcv_o e63
    refine jr_callV K (C_X12_passes (d) e63) (D_at DX12_readRing_q3 0 rfl) cv_X12_139_X12_passes (As := [.ref (G.2.2.2 (10 + 2 * 17))]) (ci := 10) rfl rc_63 rfl rfl (by exact Nat.le_of_ble_eq_true rfl) (kc2 := 0) (ks2 := 0) rfl rfl (fun k9 h9 w9 => by cases w9.1) (fun r9 h9 w9 => ?_)
    obtain ⟨w1, w2⟩ := w9
    subst h9
    cases w1
    show jJ G X _ 0 0 _ _ (.int q63.1 :: _)
    refine jr_istore K (D_at DX12_readRing_q3 1 rfl) (i := 5) (by decide) (L2 := [_, _, _, _, _, _, _, _]) rfl ?_
    refine jr_aload_n K (D_at DX12_readRing_q3 2 rfl) rfl rfl ?_
    refine jr_ldcS K (D_at DX12_readRing_q3 3 rfl) (i := 18) rfl ?_
    obtain ⟨q71, e71, hf⟩ := jbind hf
    obtain ⟨rc_71, e71⟩ := jcv_o e71
    refine jr_callV K (C_X12_passes (d) e71) (D_at DX12_readRing_q3 4 rfl) cv_X12_139_X12_passes (As := [.ref (G.2.2.2 (10 + 2 * 18))]) (ci := 10) rfl rc_71 rfl rfl (by exact Nat.le_of_ble_eq_true rfl) (kc2 := 0) (ks2 := 0) rfl rfl (fun k9 h9 w9 => by cases w9.1) (fun r9 h9 w9 => ?_)
    obtain ⟨w1, w2⟩ := w9
    subst h9
    cases w1
    show jJ G X _ 0 0 _ _ (.int q71.1 :: _)
    refine jr_if_eq K (D_at DX12_readRing_q3 5 rfl) (tgt := 87) (by decide) (fun c74 => ?_) (fun c74 => ?_)
    · replace hf := (if_pos c74).symm.trans hf
      refine jr_iconst K (D_at DX12_readRing_q3 11 rfl) (v := (0 : Int32)) (by decide) ?_
      refine jr_keep [true, true, true, true, true, true, false, false] ?_
      exact J_X12_readRing_88 K n E a0 x1 x2 s0 q55.1 q63.1 (0 : Int32) q71.2 hf
    · replace hf := (if_neg c74).symm.trans hf
      refine jr_aload_n K (D_at DX12_readRing_q3 6 rfl) rfl rfl ?_
      refine jr_iconst K (D_at DX12_readRing_q3 7 rfl) (v := (0 : Int32)) (by decide) ?_
      refine jr_bipush K (D_at DX12_readRing_q3 8 rfl) (v := (99 : Int32)) (by decide) ?_
      obtain ⟨q81, e81, hf⟩ := jbind hf
      obtain ⟨rc_81, e81⟩ := jcv_o e81
      refine jr_callV K (C_X12_number (d + 5) e81) (D_at DX12_readRing_q3 9 rfl) cv_X12_116_X12_number (As := [.int (0 : Int32), .int (99 : Int32)]) (ci := 10) rfl rc_81 rfl rfl (by exact Nat.le_of_ble_eq_true rfl) (kc2 := 0) (ks2 := 0) rfl rfl (fun k9 h9 w9 => by cases w9.1) (fun r9 h9 w9 => ?_)
      obtain ⟨w1, w2⟩ := w9
      subst h9
      cases w1
      show jJ G X _ 0 0 _ _ (.int q81.1 :: _)
      refine jr_goto K (D_at DX12_readRing_q3 10 rfl) (tgt := 88) (by decide) ?_
      refine jr_keep [true, true, true, true, true, true, false, false] ?_
      exact J_X12_readRing_88 K n E a0 x1 x2 s0 q55.1 q63.1 q81.1 q81.2 hf
  · replace hf := (if_neg c47).symm.trans hf
    refine jr_iconst K (D_at DX12_readRing_q2 4 rfl) (v := (0 : Int32)) (by decide) ?_
    cases hf
    exact jr_zret K E (D_at DX12_readRing_q2 5 rfl) rfl (Or.inl rfl) ⟨rfl, rfl⟩
set_option maxHeartbeats 400000 in
set_option maxRecDepth 100000 in
theorem J_X12_readRing {G : jG} {l : Launch} {d : Nat} {X : jX} {res : (Int32 × jH)} (K : jOK G l mX12_readRing (d + 8) X) (n : Nat) (E : jEnd G mX12_readRing (jPW res) X) (a0 : Nat) (h : jH) (hf : F_X12_readRing n a0 h = some res) : jJ G X h 0 0 0 [some (.ref a0), none, none, none, none, none, none, none] [] := by
  unfold F_X12_readRing at hf
  refine jr_aload_n K (D_at DX12_readRing_q0 0 rfl) rfl rfl ?_
  obtain ⟨v1, e1, hf⟩ := jbind hf
  obtain ⟨rc_1, e1⟩ := jcv_o e1
  refine jr_callV K (C_X12_rings (d + 7) e1) (D_at DX12_readRing_q0 1 rfl) cv_X12_59_X12_rings (As := []) (ci := 10) rfl rc_1 rfl rfl (by exact Nat.le_of_ble_eq_true rfl) (kc2 := 0) (ks2 := 0) rfl rfl (fun k9 h9 w9 => by cases w9.1) (fun r9 h9 w9 => ?_)
  obtain ⟨w1, w2⟩ := w9
  subst h9
  cases w1
  show jJ G X _ 0 0 _ _ (.int v1 :: _)
  refine jr_istore_n K (D_at DX12_readRing_q0 2 rfl) (i := 1) rfl (by decide) (L2 := [_, _, _, _, _, _, _, _]) rfl ?_
  refine jr_iload_n K (D_at DX12_readRing_q0 3 rfl) rfl rfl ?_
  refine jr_bipush K (D_at DX12_readRing_q0 4 rfl) (v := (8 : Int32)) (by decide) ?_
  refine jr_icmp_ne K (D_at DX12_readRing_q0 5 rfl) (tgt := 13) (by decide) (fun c8 => ?_) (fun c8 => ?_)
  · replace hf := (if_neg c8).symm.trans hf
    refine jr_aload_n K (D_at DX12_readRing_q0 8 rfl) rfl rfl ?_
    refine jr_ldcS K (D_at DX12_readRing_q0 9 rfl) (i := 14) rfl ?_
    refine jr_aload_n K (D_at DX12_readRing_q0 10 rfl) rfl rfl ?_
    obtain ⟨v17, e17, hf⟩ := jbind hf
    obtain ⟨rc_17, e17⟩ := jcv_o e17
    refine jr_callV K (C_X12_leastPlace (d + 5) e17) (D_at DX12_readRing_q0 11 rfl) cv_X12_125_X12_leastPlace (As := []) (ci := 10) rfl rc_17 rfl rfl (by exact Nat.le_of_ble_eq_true rfl) (kc2 := 0) (ks2 := 0) rfl rfl (fun k9 h9 w9 => by cases w9.1) (fun r9 h9 w9 => ?_)
    obtain ⟨w1, w2⟩ := w9
    subst h9
    cases w1
    show jJ G X _ 0 0 _ _ (.int v17 :: _)
    refine jr_aload_n K (D_at DX12_readRing_q1 0 rfl) rfl rfl ?_
    obtain ⟨v21, e21, hf⟩ := jbind hf
    obtain ⟨rc_21, e21⟩ := jcv_o e21
    refine jr_callV K (C_X12_mostPlace (d + 5) e21) (D_at DX12_readRing_q1 1 rfl) cv_X12_128_X12_mostPlace (As := []) (ci := 10) rfl rc_21 rfl rfl (by exact Nat.le_of_ble_eq_true rfl) (kc2 := 0) (ks2 := 0) rfl rfl (fun k9 h9 w9 => by cases w9.1) (fun r9 h9 w9 => ?_)
    obtain ⟨w1, w2⟩ := w9
    subst h9
    cases w1
    show jJ G X _ 0 0 _ _ (.int v21 :: _)
    obtain ⟨q24, e24, hf⟩ := jbind hf
    obtain ⟨rc_24, e24⟩ := jcv_o e24
    refine jr_callV K (C_X12_after (d) e24) (D_at DX12_readRing_q1 2 rfl) cv_X12_131_X12_after (As := [.ref (G.2.2.2 (10 + 2 * 14)), .int v17, .int v21]) (ci := 10) rfl rc_24 rfl rfl (by exact Nat.le_of_ble_eq_true rfl) (kc2 := 0) (ks2 := 0) rfl rfl (fun k9 h9 w9 => by cases w9.1) (fun r9 h9 w9 => ?_)
    obtain ⟨w1, w2⟩ := w9
    subst h9
    cases w1
    show jJ G X _ 0 0 _ _ (.int q24.1 :: _)
    refine jr_istore_n K (D_at DX12_readRing_q1 3 rfl) (i := 2) rfl (by decide) (L2 := [_, _, _, _, _, _, _, _]) rfl ?_
    refine jr_iload_n K (D_at DX12_readRing_q1 4 rfl) rfl rfl ?_
    refine jr_if_ge K (D_at DX12_readRing_q1 5 rfl) (tgt := 36) (by decide) (fun c29 => ?_) (fun c29 => ?_)
    · replace hf := (if_pos c29).symm.trans hf
      refine jr_aload_n K (D_at DX12_readRing_q1 8 rfl) rfl rfl ?_
      refine jr_ldcS K (D_at DX12_readRing_q1 9 rfl) (i := 15) rfl ?_
      refine jr_iconst K (D_at DX12_readRing_q1 10 rfl) (v := (1 : Int32)) (by decide) ?_
      refine jr_bipush K (D_at DX12_readRing_q1 11 rfl) (v := (9 : Int32)) (by decide) ?_
      obtain ⟨q42, e42, hf⟩ := jbind hf
      obtain ⟨rc_42, e42⟩ := jcv_o e42
      refine jr_callV K (C_X12_after (d) e42) (D_at DX12_readRing_q2 0 rfl) cv_X12_131_X12_after (As := [.ref (G.2.2.2 (10 + 2 * 15)), .int (1 : Int32), .int (9 : Int32)]) (ci := 10) rfl rc_42 rfl rfl (by exact Nat.le_of_ble_eq_true rfl) (kc2 := 0) (ks2 := 0) rfl rfl (fun k9 h9 w9 => by cases w9.1) (fun r9 h9 w9 => ?_)
      obtain ⟨w1, w2⟩ := w9
      subst h9
      cases w1
      show jJ G X _ 0 0 _ _ (.int q42.1 :: _)
      refine jr_keep [true, true, true, false, false, false, false, false] ?_
      exact J_X12_readRing_45 K n E a0 v1 q24.1 q42.1 q42.2 hf
    · replace hf := (if_neg c29).symm.trans hf
      refine jr_iconst K (D_at DX12_readRing_q1 6 rfl) (v := (-1 : Int32)) (by decide) ?_
      refine jr_goto K (D_at DX12_readRing_q1 7 rfl) (tgt := 45) (by decide) ?_
      refine jr_keep [true, true, true, false, false, false, false, false] ?_
      exact J_X12_readRing_45 K n E a0 v1 q24.1 (-1 : Int32) q24.2 hf
  · replace hf := (if_pos c8).symm.trans hf
    refine jr_iconst K (D_at DX12_readRing_q0 6 rfl) (v := (0 : Int32)) (by decide) ?_
    cases hf
    exact jr_zret K E (D_at DX12_readRing_q0 7 rfl) rfl (Or.inl rfl) ⟨rfl, rfl⟩
theorem C_X12_readRing {G : jG} {l : Launch} (d : Nat) {n : Nat} {a0 : Nat} {h : jH} {res : (Int32 × jH)} (hf : F_X12_readRing n a0 h = some res) : jC G l mX12_readRing (d + 8) 0 0 [.ref a0] h (jPW res) :=
  jC.of pn_X12 (jcats rfl) (Nat.le_of_ble_eq_true rfl) (fun X K E => J_X12_readRing K n E a0 h hf)
set_option maxHeartbeats 400000 in
set_option maxRecDepth 100000 in
theorem J_X12_readCaught {G : jG} {l : Launch} {d : Nat} {X : jX} {res : (Int32 × jH)} (K : jOK G l mX12_readCaught (d + 3) X) (n : Nat) (E : jEnd G mX12_readCaught (jPW res) X) (a0 : Nat) (h : jH) (hf : F_X12_readCaught n a0 h = some res) : jJ G X h 0 0 0 [some (.ref a0), none] [] := by
  unfold F_X12_readCaught at hf
  refine jr_aload_n K (D_at DX12_readCaught_q0 0 rfl) rfl rfl ?_
  refine jr_iconst K (D_at DX12_readCaught_q0 1 rfl) (v := (0 : Int32)) (by decide) ?_
  refine jr_aload_n K (D_at DX12_readCaught_q0 2 rfl) rfl rfl ?_
  obtain ⟨v3, e3, hf⟩ := jbind hf
  obtain ⟨rc_3, e3⟩ := jcv_o e3
  refine jr_callV K (C_X12_lastRing (d + 1) e3) (D_at DX12_readCaught_q0 3 rfl) cv_X12_70_X12_lastRing (As := []) (ci := 10) rfl rc_3 rfl rfl (by exact Nat.le_of_ble_eq_true rfl) (kc2 := 0) (ks2 := 0) rfl rfl (fun k9 h9 w9 => by cases w9.1) (fun r9 h9 w9 => ?_)
  obtain ⟨w1, w2⟩ := w9
  subst h9
  cases w1
  show jJ G X _ 0 0 _ _ (.int v3 :: _)
  refine jr_iconst K (D_at DX12_readCaught_q0 4 rfl) (v := (1 : Int32)) (by decide) ?_
  refine jr_isub K (D_at DX12_readCaught_q0 5 rfl) ?_
  obtain ⟨q8, e8, hf⟩ := jbind hf
  obtain ⟨rc_8, e8⟩ := jcv_o e8
  refine jr_callV K (C_X12_number (d) e8) (D_at DX12_readCaught_q0 6 rfl) cv_X12_116_X12_number (As := [.int (0 : Int32), .int (v3 - (1 : Int32))]) (ci := 10) rfl rc_8 rfl rfl (by exact Nat.le_of_ble_eq_true rfl) (kc2 := 0) (ks2 := 0) rfl rfl (fun k9 h9 w9 => by cases w9.1) (fun r9 h9 w9 => ?_)
  obtain ⟨w1, w2⟩ := w9
  subst h9
  cases w1
  show jJ G X _ 0 0 _ _ (.int q8.1 :: _)
  refine jr_istore_n K (D_at DX12_readCaught_q0 7 rfl) (i := 1) rfl (by decide) (L2 := [_, _]) rfl ?_
  refine jr_iload_n K (D_at DX12_readCaught_q0 8 rfl) rfl rfl ?_
  refine jr_if_ge K (D_at DX12_readCaught_q0 9 rfl) (tgt := 18) (by decide) (fun c13 => ?_) (fun c13 => ?_)
  · replace hf := (if_pos c13).symm.trans hf
    refine jr_aload_n K (D_at DX12_readCaught_q1 0 rfl) rfl rfl ?_
    obtain ⟨p19, e19, hf⟩ := jbind hf
    refine jr_getR K (D_at DX12_readCaught_q1 1 rfl) fg_X12_13_10 e19 ?_
    refine jr_iload_n K (D_at DX12_readCaught_q1 2 rfl) rfl rfl ?_
    refine jr_bipush K (D_at DX12_readCaught_q1 3 rfl) (v := (7 : Int32)) (by decide) ?_
    obtain ⟨v25, e25, hf⟩ := jbind hf
    refine jr_callS K (C_X12_at (d + 2) e25) (D_at DX12_readCaught_q1 4 rfl) cs_X12_63_X12_at (As := [.int q8.1, .int (7 : Int32)]) rfl rfl (by exact Nat.le_of_ble_eq_true rfl) (kc2 := 0) (ks2 := 0) rfl rfl (fun k9 h9 w9 => by cases w9.1) (fun r9 h9 w9 => ?_)
    obtain ⟨w1, w2⟩ := w9
    subst h9
    cases w1
    show jJ G X _ 0 0 _ _ (.int v25 :: _)
    refine jr_iconst K (D_at DX12_readCaught_q1 5 rfl) (v := (1 : Int32)) (by decide) ?_
    obtain ⟨h29, e29, hf⟩ := jbind hf
    refine jr_iast K (D_at DX12_readCaught_q1 6 rfl) e29 ?_
    refine jr_iconst K (D_at DX12_readCaught_q1 7 rfl) (v := (1 : Int32)) (by decide) ?_
    cases hf
    exact jr_zret K E (D_at DX12_readCaught_q1 8 rfl) rfl (Or.inr rfl) ⟨rfl, rfl⟩
  · replace hf := (if_neg c13).symm.trans hf
    refine jr_iconst K (D_at DX12_readCaught_q0 10 rfl) (v := (0 : Int32)) (by decide) ?_
    cases hf
    exact jr_zret K E (D_at DX12_readCaught_q0 11 rfl) rfl (Or.inl rfl) ⟨rfl, rfl⟩
theorem C_X12_readCaught {G : jG} {l : Launch} (d : Nat) {n : Nat} {a0 : Nat} {h : jH} {res : (Int32 × jH)} (hf : F_X12_readCaught n a0 h = some res) : jC G l mX12_readCaught (d + 3) 0 0 [.ref a0] h (jPW res) :=
  jC.of pn_X12 (jcats rfl) (Nat.le_of_ble_eq_true rfl) (fun X K E => J_X12_readCaught K n E a0 h hf)
set_option maxHeartbeats 400000 in
set_option maxRecDepth 100000 in
theorem J_X12_readChair {G : jG} {l : Launch} {d : Nat} {X : jX} {res : (Int32 × jH)} (K : jOK G l mX12_readChair (d + 3) X) (n : Nat) (E : jEnd G mX12_readChair (jPW res) X) (a0 : Nat) (h : jH) (hf : F_X12_readChair n a0 h = some res) : jJ G X h 0 0 0 [some (.ref a0), none] [] := by
  unfold F_X12_readChair at hf
  refine jr_aload_n K (D_at DX12_readChair_q0 0 rfl) rfl rfl ?_
  refine jr_iconst K (D_at DX12_readChair_q0 1 rfl) (v := (0 : Int32)) (by decide) ?_
  refine jr_bipush K (D_at DX12_readChair_q0 2 rfl) (v := (31 : Int32)) (by decide) ?_
  obtain ⟨q4, e4, hf⟩ := jbind hf
  obtain ⟨rc_4, e4⟩ := jcv_o e4
  refine jr_callV K (C_X12_number (d) e4) (D_at DX12_readChair_q0 3 rfl) cv_X12_116_X12_number (As := [.int (0 : Int32), .int (31 : Int32)]) (ci := 10) rfl rc_4 rfl rfl (by exact Nat.le_of_ble_eq_true rfl) (kc2 := 0) (ks2 := 0) rfl rfl (fun k9 h9 w9 => by cases w9.1) (fun r9 h9 w9 => ?_)
  obtain ⟨w1, w2⟩ := w9
  subst h9
  cases w1
  show jJ G X _ 0 0 _ _ (.int q4.1 :: _)
  refine jr_istore_n K (D_at DX12_readChair_q0 4 rfl) (i := 1) rfl (by decide) (L2 := [_, _]) rfl ?_
  refine jr_iload_n K (D_at DX12_readChair_q0 5 rfl) rfl rfl ?_
  refine jr_if_ge K (D_at DX12_readChair_q0 6 rfl) (tgt := 14) (by decide) (fun c9 => ?_) (fun c9 => ?_)
  · replace hf := (if_pos c9).symm.trans hf
    refine jr_aload_n K (D_at DX12_readChair_q0 9 rfl) rfl rfl ?_
    obtain ⟨p15, e15, hf⟩ := jbind hf
    refine jr_getR K (D_at DX12_readChair_q0 10 rfl) fg_X12_13_10 e15 ?_
    refine jr_bipush K (D_at DX12_readChair_q0 11 rfl) (v := (7 : Int32)) (by decide) ?_
    refine jr_dup2 K (D_at DX12_readChair_q1 0 rfl) rfl rfl ?_
    obtain ⟨v21, e21, hf⟩ := jbind hf
    refine jr_iald K (D_at DX12_readChair_q1 1 rfl) e21 ?_
    refine jr_iconst K (D_at DX12_readChair_q1 2 rfl) (v := (1 : Int32)) (by decide) ?_
    refine jr_iload_n K (D_at DX12_readChair_q1 3 rfl) rfl rfl ?_
    refine jr_ishl K (D_at DX12_readChair_q1 4 rfl) ?_
    refine jr_ior K (D_at DX12_readChair_q1 5 rfl) ?_
    obtain ⟨h26, e26, hf⟩ := jbind hf
    refine jr_iast K (D_at DX12_readChair_q1 6 rfl) e26 ?_
    refine jr_iconst K (D_at DX12_readChair_q1 7 rfl) (v := (1 : Int32)) (by decide) ?_
    cases hf
    exact jr_zret K E (D_at DX12_readChair_q1 8 rfl) rfl (Or.inr rfl) ⟨rfl, rfl⟩
  · replace hf := (if_neg c9).symm.trans hf
    refine jr_iconst K (D_at DX12_readChair_q0 7 rfl) (v := (0 : Int32)) (by decide) ?_
    cases hf
    exact jr_zret K E (D_at DX12_readChair_q0 8 rfl) rfl (Or.inl rfl) ⟨rfl, rfl⟩
theorem C_X12_readChair {G : jG} {l : Launch} (d : Nat) {n : Nat} {a0 : Nat} {h : jH} {res : (Int32 × jH)} (hf : F_X12_readChair n a0 h = some res) : jC G l mX12_readChair (d + 3) 0 0 [.ref a0] h (jPW res) :=
  jC.of pn_X12 (jcats rfl) (Nat.le_of_ble_eq_true rfl) (fun X K E => J_X12_readChair K n E a0 h hf)
set_option maxHeartbeats 400000 in
set_option maxRecDepth 100000 in
theorem J_X12_readPoleLine {G : jG} {l : Launch} {d : Nat} {X : jX} {res : (Int32 × jH)} (K : jOK G l mX12_readPoleLine (d + 9) X) (n : Nat) (E : jEnd G mX12_readPoleLine (jPW res) X) (a0 : Nat) (h : jH) (hf : F_X12_readPoleLine n a0 h = some res) : jJ G X h 0 0 0 [some (.ref a0)] [] := by
  unfold F_X12_readPoleLine at hf
  refine jr_aload_n K (D_at DX12_readPoleLine_q0 0 rfl) rfl rfl ?_
  refine jr_ldcS K (D_at DX12_readPoleLine_q0 1 rfl) (i := 13) rfl ?_
  obtain ⟨v3, e3, hf⟩ := jbind hf
  obtain ⟨rc_3, e3⟩ := jcv_o e3
  refine jr_callV K (C_X12_isWord (d + 2) e3) (D_at DX12_readPoleLine_q0 2 rfl) cv_X12_112_X12_isWord (As := [.ref (G.2.2.2 (10 + 2 * 13))]) (ci := 10) rfl rc_3 rfl rfl (by exact Nat.le_of_ble_eq_true rfl) (kc2 := 0) (ks2 := 0) rfl rfl (fun k9 h9 w9 => by cases w9.1) (fun r9 h9 w9 => ?_)
  obtain ⟨w1, w2⟩ := w9
  subst h9
  cases w1
  show jJ G X _ 0 0 _ _ (.int v3 :: _)
  refine jr_if_eq K (D_at DX12_readPoleLine_q0 3 rfl) (tgt := 14) (by decide) (fun c6 => ?_) (fun c6 => ?_)
  · replace hf := (if_pos c6).symm.trans hf
    refine jr_aload_n K (D_at DX12_readPoleLine_q0 7 rfl) rfl rfl ?_
    refine jr_ldcS K (D_at DX12_readPoleLine_q0 8 rfl) (i := 20) rfl ?_
    obtain ⟨v17, e17, hf⟩ := jbind hf
    obtain ⟨rc_17, e17⟩ := jcv_o e17
    refine jr_callV K (C_X12_isWord (d + 2) e17) (D_at DX12_readPoleLine_q0 9 rfl) cv_X12_112_X12_isWord (As := [.ref (G.2.2.2 (10 + 2 * 20))]) (ci := 10) rfl rc_17 rfl rfl (by exact Nat.le_of_ble_eq_true rfl) (kc2 := 0) (ks2 := 0) rfl rfl (fun k9 h9 w9 => by cases w9.1) (fun r9 h9 w9 => ?_)
    obtain ⟨w1, w2⟩ := w9
    subst h9
    cases w1
    show jJ G X _ 0 0 _ _ (.int v17 :: _)
    refine jr_if_eq K (D_at DX12_readPoleLine_q0 10 rfl) (tgt := 28) (by decide) (fun c20 => ?_) (fun c20 => ?_)
    · replace hf := (if_pos c20).symm.trans hf
      refine jr_aload_n K (D_at DX12_readPoleLine_q1 2 rfl) rfl rfl ?_
      refine jr_ldcS K (D_at DX12_readPoleLine_q1 3 rfl) (i := 21) rfl ?_
      obtain ⟨v31, e31, hf⟩ := jbind hf
      obtain ⟨rc_31, e31⟩ := jcv_o e31
      refine jr_callV K (C_X12_isWord (d + 2) e31) (D_at DX12_readPoleLine_q1 4 rfl) cv_X12_112_X12_isWord (As := [.ref (G.2.2.2 (10 + 2 * 21))]) (ci := 10) rfl rc_31 rfl rfl (by exact Nat.le_of_ble_eq_true rfl) (kc2 := 0) (ks2 := 0) rfl rfl (fun k9 h9 w9 => by cases w9.1) (fun r9 h9 w9 => ?_)
      obtain ⟨w1, w2⟩ := w9
      subst h9
      cases w1
      show jJ G X _ 0 0 _ _ (.int v31 :: _)
      refine jr_if_eq K (D_at DX12_readPoleLine_q1 5 rfl) (tgt := 42) (by decide) (fun c34 => ?_) (fun c34 => ?_)
      · replace hf := (if_pos c34).symm.trans hf
        refine jr_aload_n K (D_at DX12_readPoleLine_q1 9 rfl) rfl rfl ?_
        refine jr_ldcS K (D_at DX12_readPoleLine_q1 10 rfl) (i := 22) rfl ?_
        obtain ⟨v45, e45, hf⟩ := jbind hf
        obtain ⟨rc_45, e45⟩ := jcv_o e45
        refine jr_callV K (C_X12_isWord (d + 2) e45) (D_at DX12_readPoleLine_q1 11 rfl) cv_X12_112_X12_isWord (As := [.ref (G.2.2.2 (10 + 2 * 22))]) (ci := 10) rfl rc_45 rfl rfl (by exact Nat.le_of_ble_eq_true rfl) (kc2 := 0) (ks2 := 0) rfl rfl (fun k9 h9 w9 => by cases w9.1) (fun r9 h9 w9 => ?_)
        obtain ⟨w1, w2⟩ := w9
        subst h9
        cases w1
        show jJ G X _ 0 0 _ _ (.int v45 :: _)
        refine jr_if_eq K (D_at DX12_readPoleLine_q2 0 rfl) (tgt := 60) (by decide) (fun c48 => ?_) (fun c48 => ?_)
        · replace hf := (if_pos c48).symm.trans hf
          refine jr_aload_n K (D_at DX12_readPoleLine_q2 7 rfl) rfl rfl ?_
          refine jr_ldcS K (D_at DX12_readPoleLine_q2 8 rfl) (i := 23) rfl ?_
          obtain ⟨v63, e63, hf⟩ := jbind hf
          obtain ⟨rc_63, e63⟩ := jcv_o e63
          refine jr_callV K (C_X12_isWord (d + 2) e63) (D_at DX12_readPoleLine_q2 9 rfl) cv_X12_112_X12_isWord (As := [.ref (G.2.2.2 (10 + 2 * 23))]) (ci := 10) rfl rc_63 rfl rfl (by exact Nat.le_of_ble_eq_true rfl) (kc2 := 0) (ks2 := 0) rfl rfl (fun k9 h9 w9 => by cases w9.1) (fun r9 h9 w9 => ?_)
          obtain ⟨w1, w2⟩ := w9
          subst h9
          cases w1
          show jJ G X _ 0 0 _ _ (.int v63 :: _)
          refine jr_if_eq K (D_at DX12_readPoleLine_q2 10 rfl) (tgt := 79) (by decide) (fun c66 => ?_) (fun c66 => ?_)
          · replace hf := (if_pos c66).symm.trans hf
            refine jr_aload_n K (D_at DX12_readPoleLine_q3 5 rfl) rfl rfl ?_
            refine jr_ldcS K (D_at DX12_readPoleLine_q3 6 rfl) (i := 24) rfl ?_
            obtain ⟨v82, e82, hf⟩ := jbind hf
            obtain ⟨rc_82, e82⟩ := jcv_o e82
            refine jr_callV K (C_X12_isWord (d + 2) e82) (D_at DX12_readPoleLine_q3 7 rfl) cv_X12_112_X12_isWord (As := [.ref (G.2.2.2 (10 + 2 * 24))]) (ci := 10) rfl rc_82 rfl rfl (by exact Nat.le_of_ble_eq_true rfl) (kc2 := 0) (ks2 := 0) rfl rfl (fun k9 h9 w9 => by cases w9.1) (fun r9 h9 w9 => ?_)
            obtain ⟨w1, w2⟩ := w9
            subst h9
            cases w1
            show jJ G X _ 0 0 _ _ (.int v82 :: _)
            refine jr_if_eq K (D_at DX12_readPoleLine_q3 8 rfl) (tgt := 97) (by decide) (fun c85 => ?_) (fun c85 => ?_)
            · replace hf := (if_pos c85).symm.trans hf
              refine jr_aload_n K (D_at DX12_readPoleLine_q4 3 rfl) rfl rfl ?_
              refine jr_ldcS K (D_at DX12_readPoleLine_q4 4 rfl) (i := 25) rfl ?_
              obtain ⟨v100, e100, hf⟩ := jbind hf
              obtain ⟨rc_100, e100⟩ := jcv_o e100
              refine jr_callV K (C_X12_isWord (d + 2) e100) (D_at DX12_readPoleLine_q4 5 rfl) cv_X12_112_X12_isWord (As := [.ref (G.2.2.2 (10 + 2 * 25))]) (ci := 10) rfl rc_100 rfl rfl (by exact Nat.le_of_ble_eq_true rfl) (kc2 := 0) (ks2 := 0) rfl rfl (fun k9 h9 w9 => by cases w9.1) (fun r9 h9 w9 => ?_)
              obtain ⟨w1, w2⟩ := w9
              subst h9
              cases w1
              show jJ G X _ 0 0 _ _ (.int v100 :: _)
              refine jr_if_eq K (D_at DX12_readPoleLine_q4 6 rfl) (tgt := 122) (by decide) (fun c103 => ?_) (fun c103 => ?_)
              · replace hf := (if_pos c103).symm.trans hf
                refine jr_iconst K (D_at DX12_readPoleLine_q5 3 rfl) (v := (0 : Int32)) (by decide) ?_
                cases hf
                exact jr_zret K E (D_at DX12_readPoleLine_1_q0 0 rfl) rfl (Or.inl rfl) ⟨rfl, rfl⟩
              · replace hf := (if_neg c103).symm.trans hf
                refine jr_aload_n K (D_at DX12_readPoleLine_q4 7 rfl) rfl rfl ?_
                refine jr_iconst K (D_at DX12_readPoleLine_q4 8 rfl) (v := (4 : Int32)) (by decide) ?_
                refine jr_iconst K (D_at DX12_readPoleLine_q4 9 rfl) (v := (0 : Int32)) (by decide) ?_
                refine jr_sipush K (D_at DX12_readPoleLine_q4 10 rfl) (v := (999 : Int32)) (by decide) ?_
                obtain ⟨q112, e112, hf⟩ := jbind hf
                obtain ⟨rc_112, e112⟩ := jcv_o e112
                refine jr_callV K (C_X12_readNumber (d + 5) e112) (D_at DX12_readPoleLine_q4 11 rfl) cv_X12_170_X12_readNumber (As := [.int (4 : Int32), .int (0 : Int32), .int (999 : Int32)]) (ci := 10) rfl rc_112 rfl rfl (by exact Nat.le_of_ble_eq_true rfl) (kc2 := 0) (ks2 := 0) rfl rfl (fun k9 h9 w9 => by cases w9.1) (fun r9 h9 w9 => ?_)
                obtain ⟨w1, w2⟩ := w9
                subst h9
                cases w1
                show jJ G X _ 0 0 _ _ (.int q112.1 :: _)
                refine jr_if_eq K (D_at DX12_readPoleLine_q5 0 rfl) (tgt := 122) (by decide) (fun c115 => ?_) (fun c115 => ?_)
                · replace hf := (if_pos c115).symm.trans hf
                  refine jr_iconst K (D_at DX12_readPoleLine_q5 3 rfl) (v := (0 : Int32)) (by decide) ?_
                  cases hf
                  exact jr_zret K E (D_at DX12_readPoleLine_1_q0 0 rfl) rfl (Or.inl rfl) ⟨rfl, rfl⟩
                · replace hf := (if_neg c115).symm.trans hf
                  refine jr_iconst K (D_at DX12_readPoleLine_q5 1 rfl) (v := (1 : Int32)) (by decide) ?_
                  refine jr_goto K (D_at DX12_readPoleLine_q5 2 rfl) (tgt := 123) (by decide) ?_
                  cases hf
                  exact jr_zret K E (D_at DX12_readPoleLine_1_q0 0 rfl) rfl (Or.inr rfl) ⟨rfl, rfl⟩
            · replace hf := (if_neg c85).symm.trans hf
              refine jr_aload_n K (D_at DX12_readPoleLine_q3 9 rfl) rfl rfl ?_
              refine jr_iconst K (D_at DX12_readPoleLine_q3 10 rfl) (v := (3 : Int32)) (by decide) ?_
              refine jr_iconst K (D_at DX12_readPoleLine_q3 11 rfl) (v := (0 : Int32)) (by decide) ?_
              refine jr_bipush K (D_at DX12_readPoleLine_q4 0 rfl) (v := (7 : Int32)) (by decide) ?_
              obtain ⟨q93, e93, hf⟩ := jbind hf
              obtain ⟨rc_93, e93⟩ := jcv_o e93
              refine jr_callV K (C_X12_readNumber (d + 5) e93) (D_at DX12_readPoleLine_q4 1 rfl) cv_X12_170_X12_readNumber (As := [.int (3 : Int32), .int (0 : Int32), .int (7 : Int32)]) (ci := 10) rfl rc_93 rfl rfl (by exact Nat.le_of_ble_eq_true rfl) (kc2 := 0) (ks2 := 0) rfl rfl (fun k9 h9 w9 => by cases w9.1) (fun r9 h9 w9 => ?_)
              obtain ⟨w1, w2⟩ := w9
              subst h9
              cases w1
              show jJ G X _ 0 0 _ _ (.int q93.1 :: _)
              by_cases z9 : q93.1 = 0 ∨ q93.1 = 1
              · replace hf := (if_pos z9).symm.trans hf
                cases hf
                exact jr_zret K E (D_at DX12_readPoleLine_q4 2 rfl) rfl z9 ⟨rfl, rfl⟩
              · exact jno (show (none : Option (Int32 × jH)) = some res from (if_neg z9).symm.trans hf)
          · replace hf := (if_neg c66).symm.trans hf
            refine jr_aload_n K (D_at DX12_readPoleLine_q2 11 rfl) rfl rfl ?_
            refine jr_bipush K (D_at DX12_readPoleLine_q3 0 rfl) (v := (6 : Int32)) (by decide) ?_
            refine jr_iconst K (D_at DX12_readPoleLine_q3 1 rfl) (v := (0 : Int32)) (by decide) ?_
            refine jr_bipush K (D_at DX12_readPoleLine_q3 2 rfl) (v := (31 : Int32)) (by decide) ?_
            obtain ⟨q75, e75, hf⟩ := jbind hf
            obtain ⟨rc_75, e75⟩ := jcv_o e75
            refine jr_callV K (C_X12_readNumber (d + 5) e75) (D_at DX12_readPoleLine_q3 3 rfl) cv_X12_170_X12_readNumber (As := [.int (6 : Int32), .int (0 : Int32), .int (31 : Int32)]) (ci := 10) rfl rc_75 rfl rfl (by exact Nat.le_of_ble_eq_true rfl) (kc2 := 0) (ks2 := 0) rfl rfl (fun k9 h9 w9 => by cases w9.1) (fun r9 h9 w9 => ?_)
            obtain ⟨w1, w2⟩ := w9
            subst h9
            cases w1
            show jJ G X _ 0 0 _ _ (.int q75.1 :: _)
            by_cases z9 : q75.1 = 0 ∨ q75.1 = 1
            · replace hf := (if_pos z9).symm.trans hf
              cases hf
              exact jr_zret K E (D_at DX12_readPoleLine_q3 4 rfl) rfl z9 ⟨rfl, rfl⟩
            · exact jno (show (none : Option (Int32 × jH)) = some res from (if_neg z9).symm.trans hf)
        · replace hf := (if_neg c48).symm.trans hf
          refine jr_aload_n K (D_at DX12_readPoleLine_q2 1 rfl) rfl rfl ?_
          refine jr_iconst K (D_at DX12_readPoleLine_q2 2 rfl) (v := (5 : Int32)) (by decide) ?_
          refine jr_iconst K (D_at DX12_readPoleLine_q2 3 rfl) (v := (1 : Int32)) (by decide) ?_
          refine jr_bipush K (D_at DX12_readPoleLine_q2 4 rfl) (v := (31 : Int32)) (by decide) ?_
          obtain ⟨q56, e56, hf⟩ := jbind hf
          obtain ⟨rc_56, e56⟩ := jcv_o e56
          refine jr_callV K (C_X12_readNumber (d + 5) e56) (D_at DX12_readPoleLine_q2 5 rfl) cv_X12_170_X12_readNumber (As := [.int (5 : Int32), .int (1 : Int32), .int (31 : Int32)]) (ci := 10) rfl rc_56 rfl rfl (by exact Nat.le_of_ble_eq_true rfl) (kc2 := 0) (ks2 := 0) rfl rfl (fun k9 h9 w9 => by cases w9.1) (fun r9 h9 w9 => ?_)
          obtain ⟨w1, w2⟩ := w9
          subst h9
          cases w1
          show jJ G X _ 0 0 _ _ (.int q56.1 :: _)
          by_cases z9 : q56.1 = 0 ∨ q56.1 = 1
          · replace hf := (if_pos z9).symm.trans hf
            cases hf
            exact jr_zret K E (D_at DX12_readPoleLine_q2 6 rfl) rfl z9 ⟨rfl, rfl⟩
          · exact jno (show (none : Option (Int32 × jH)) = some res from (if_neg z9).symm.trans hf)
      · replace hf := (if_neg c34).symm.trans hf
        refine jr_aload_n K (D_at DX12_readPoleLine_q1 6 rfl) rfl rfl ?_
        obtain ⟨q38, e38, hf⟩ := jbind hf
        obtain ⟨rc_38, e38⟩ := jcv_o e38
        refine jr_callV K (C_X12_readChair (d + 5) e38) (D_at DX12_readPoleLine_q1 7 rfl) cv_X12_165_X12_readChair (As := []) (ci := 10) rfl rc_38 rfl rfl (by exact Nat.le_of_ble_eq_true rfl) (kc2 := 0) (ks2 := 0) rfl rfl (fun k9 h9 w9 => by cases w9.1) (fun r9 h9 w9 => ?_)
        obtain ⟨w1, w2⟩ := w9
        subst h9
        cases w1
        show jJ G X _ 0 0 _ _ (.int q38.1 :: _)
        by_cases z9 : q38.1 = 0 ∨ q38.1 = 1
        · replace hf := (if_pos z9).symm.trans hf
          cases hf
          exact jr_zret K E (D_at DX12_readPoleLine_q1 8 rfl) rfl z9 ⟨rfl, rfl⟩
        · exact jno (show (none : Option (Int32 × jH)) = some res from (if_neg z9).symm.trans hf)
    · replace hf := (if_neg c20).symm.trans hf
      refine jr_aload_n K (D_at DX12_readPoleLine_q0 11 rfl) rfl rfl ?_
      obtain ⟨q24, e24, hf⟩ := jbind hf
      obtain ⟨rc_24, e24⟩ := jcv_o e24
      refine jr_callV K (C_X12_readCaught (d + 5) e24) (D_at DX12_readPoleLine_q1 0 rfl) cv_X12_160_X12_readCaught (As := []) (ci := 10) rfl rc_24 rfl rfl (by exact Nat.le_of_ble_eq_true rfl) (kc2 := 0) (ks2 := 0) rfl rfl (fun k9 h9 w9 => by cases w9.1) (fun r9 h9 w9 => ?_)
      obtain ⟨w1, w2⟩ := w9
      subst h9
      cases w1
      show jJ G X _ 0 0 _ _ (.int q24.1 :: _)
      by_cases z9 : q24.1 = 0 ∨ q24.1 = 1
      · replace hf := (if_pos z9).symm.trans hf
        cases hf
        exact jr_zret K E (D_at DX12_readPoleLine_q1 1 rfl) rfl z9 ⟨rfl, rfl⟩
      · exact jno (show (none : Option (Int32 × jH)) = some res from (if_neg z9).symm.trans hf)
  · replace hf := (if_neg c6).symm.trans hf
    refine jr_aload_n K (D_at DX12_readPoleLine_q0 4 rfl) rfl rfl ?_
    obtain ⟨q10, e10, hf⟩ := jbind hf
    obtain ⟨rc_10, e10⟩ := jcv_o e10
    refine jr_callV K (C_X12_readRing (d) e10) (D_at DX12_readPoleLine_q0 5 rfl) cv_X12_154_X12_readRing (As := []) (ci := 10) rfl rc_10 rfl rfl (by exact Nat.le_of_ble_eq_true rfl) (kc2 := 0) (ks2 := 0) rfl rfl (fun k9 h9 w9 => by cases w9.1) (fun r9 h9 w9 => ?_)
    obtain ⟨w1, w2⟩ := w9
    subst h9
    cases w1
    show jJ G X _ 0 0 _ _ (.int q10.1 :: _)
    by_cases z9 : q10.1 = 0 ∨ q10.1 = 1
    · replace hf := (if_pos z9).symm.trans hf
      cases hf
      exact jr_zret K E (D_at DX12_readPoleLine_q0 6 rfl) rfl z9 ⟨rfl, rfl⟩
    · exact jno (show (none : Option (Int32 × jH)) = some res from (if_neg z9).symm.trans hf)
theorem C_X12_readPoleLine {G : jG} {l : Launch} (d : Nat) {n : Nat} {a0 : Nat} {h : jH} {res : (Int32 × jH)} (hf : F_X12_readPoleLine n a0 h = some res) : jC G l mX12_readPoleLine (d + 9) 0 0 [.ref a0] h (jPW res) :=
  jC.of pn_X12 (jcats rfl) (Nat.le_of_ble_eq_true rfl) (fun X K E => J_X12_readPoleLine K n E a0 h hf)
set_option maxHeartbeats 400000 in
set_option maxRecDepth 100000 in
theorem J_X12_emits {G : jG} {l : Launch} {d : Nat} {X : jX} {res : jH} (K : jOK G l mX12_emits (d) X) (n : Nat) (E : jEnd G mX12_emits (jPV res) X) (a0 : Nat) (x1 : Int32) (x2 : Int32) (h : jH) (hf : F_X12_emits n a0 x1 x2 h = some res) : jJ G X h 0 0 0 [some (.ref a0), some (.int x1), some (.int x2)] [] := by
  unfold F_X12_emits at hf
  refine jr_aload_n K (D_at DX12_emits_q0 0 rfl) rfl rfl ?_
  obtain ⟨p1, e1, hf⟩ := jbind hf
  refine jr_getR K (D_at DX12_emits_q0 1 rfl) fg_X12_13_10 e1 ?_
  refine jr_sipush K (D_at DX12_emits_q0 2 rfl) (v := (1333 : Int32)) (by decide) ?_
  refine jr_iconst K (D_at DX12_emits_q0 3 rfl) (v := (2 : Int32)) (by decide) ?_
  refine jr_aload_n K (D_at DX12_emits_q0 4 rfl) rfl rfl ?_
  obtain ⟨v9, e9, hf⟩ := jbind hf
  refine jr_getI K (D_at DX12_emits_q0 5 rfl) fg_X12_179_10 e9 ?_
  refine jr_imul K (D_at DX12_emits_q0 6 rfl) ?_
  refine jr_iadd K (D_at DX12_emits_q0 7 rfl) ?_
  refine jr_iload_n K (D_at DX12_emits_q0 8 rfl) rfl rfl ?_
  obtain ⟨h15, e15, hf⟩ := jbind hf
  refine jr_iast K (D_at DX12_emits_q0 9 rfl) e15 ?_
  refine jr_aload_n K (D_at DX12_emits_q0 10 rfl) rfl rfl ?_
  obtain ⟨p17, e17, hf⟩ := jbind hf
  refine jr_getR K (D_at DX12_emits_q0 11 rfl) fg_X12_13_10 e17 ?_
  refine jr_sipush K (D_at DX12_emits_q1 0 rfl) (v := (1333 : Int32)) (by decide) ?_
  refine jr_iconst K (D_at DX12_emits_q1 1 rfl) (v := (2 : Int32)) (by decide) ?_
  refine jr_aload_n K (D_at DX12_emits_q1 2 rfl) rfl rfl ?_
  obtain ⟨v25, e25, hf⟩ := jbind hf
  refine jr_getI K (D_at DX12_emits_q1 3 rfl) fg_X12_179_10 e25 ?_
  refine jr_imul K (D_at DX12_emits_q1 4 rfl) ?_
  refine jr_iadd K (D_at DX12_emits_q1 5 rfl) ?_
  refine jr_iconst K (D_at DX12_emits_q1 6 rfl) (v := (1 : Int32)) (by decide) ?_
  refine jr_iadd K (D_at DX12_emits_q1 7 rfl) ?_
  refine jr_iload_n K (D_at DX12_emits_q1 8 rfl) rfl rfl ?_
  obtain ⟨h33, e33, hf⟩ := jbind hf
  refine jr_iast K (D_at DX12_emits_q1 9 rfl) e33 ?_
  refine jr_aload_n K (D_at DX12_emits_q1 10 rfl) rfl rfl ?_
  refine jr_dup K (D_at DX12_emits_q1 11 rfl) rfl ?_
  obtain ⟨v36, e36, hf⟩ := jbind hf
  refine jr_getI K (D_at DX12_emits_q2 0 rfl) fg_X12_179_10 e36 ?_
  refine jr_iconst K (D_at DX12_emits_q2 1 rfl) (v := (1 : Int32)) (by decide) ?_
  refine jr_iadd K (D_at DX12_emits_q2 2 rfl) ?_
  obtain ⟨h41, e41, hf⟩ := jbind hf
  refine jr_putI K (D_at DX12_emits_q2 3 rfl) fp_X12_179_10 (Or.inl rfl) e41 ?_
  cases hf
  exact jr_vret K E (D_at DX12_emits_q2 4 rfl) rfl ⟨rfl, rfl⟩
theorem C_X12_emits {G : jG} {l : Launch} (d : Nat) {n : Nat} {a0 : Nat} {x1 : Int32} {x2 : Int32} {h : jH} {res : jH} (hf : F_X12_emits n a0 x1 x2 h = some res) : jC G l mX12_emits (d) 0 0 [.ref a0, .int x1, .int x2] h (jPV res) :=
  jC.of pn_X12 (jcats rfl) (Nat.le_of_ble_eq_true rfl) (fun X K E => J_X12_emits K n E a0 x1 x2 h hf)
set_option maxHeartbeats 400000 in
set_option maxRecDepth 100000 in
theorem J_X12_wordOfPart {G : jG} {l : Launch} {d : Nat} {X : jX} {res : Int32} (K : jOK G l mX12_wordOfPart (d + 7) X) (n : Nat) (h : jH) (E : jEnd G mX12_wordOfPart (jPR h res) X) (a0 : Nat) (hf : F_X12_wordOfPart n a0 h = some res) : jJ G X h 0 0 0 [some (.ref a0)] [] := by
  unfold F_X12_wordOfPart at hf
  refine jr_aload_n K (D_at DX12_wordOfPart_q0 0 rfl) rfl rfl ?_
  refine jr_ldcS K (D_at DX12_wordOfPart_q0 1 rfl) (i := 13) rfl ?_
  obtain ⟨v3, e3, hf⟩ := jbind hf
  obtain ⟨rc_3, e3⟩ := jcv_o e3
  refine jr_callV K (C_X12_isWord (d) e3) (D_at DX12_wordOfPart_q0 2 rfl) cv_X12_112_X12_isWord (As := [.ref (G.2.2.2 (10 + 2 * 13))]) (ci := 10) rfl rc_3 rfl rfl (by exact Nat.le_of_ble_eq_true rfl) (kc2 := 0) (ks2 := 0) rfl rfl (fun k9 h9 w9 => by cases w9.1) (fun r9 h9 w9 => ?_)
  obtain ⟨w1, w2⟩ := w9
  subst h9
  cases w1
  show jJ G X _ 0 0 _ _ (.int v3 :: _)
  refine jr_if_eq K (D_at DX12_wordOfPart_q0 3 rfl) (tgt := 11) (by decide) (fun c6 => ?_) (fun c6 => ?_)
  · replace hf := (if_pos c6).symm.trans hf
    refine jr_aload_n K (D_at DX12_wordOfPart_q0 6 rfl) rfl rfl ?_
    refine jr_ldcS K (D_at DX12_wordOfPart_q0 7 rfl) (i := 32) rfl ?_
    obtain ⟨v14, e14, hf⟩ := jbind hf
    obtain ⟨rc_14, e14⟩ := jcv_o e14
    refine jr_callV K (C_X12_isWord (d) e14) (D_at DX12_wordOfPart_q0 8 rfl) cv_X12_112_X12_isWord (As := [.ref (G.2.2.2 (10 + 2 * 32))]) (ci := 10) rfl rc_14 rfl rfl (by exact Nat.le_of_ble_eq_true rfl) (kc2 := 0) (ks2 := 0) rfl rfl (fun k9 h9 w9 => by cases w9.1) (fun r9 h9 w9 => ?_)
    obtain ⟨w1, w2⟩ := w9
    subst h9
    cases w1
    show jJ G X _ 0 0 _ _ (.int v14 :: _)
    refine jr_if_eq K (D_at DX12_wordOfPart_q0 9 rfl) (tgt := 22) (by decide) (fun c17 => ?_) (fun c17 => ?_)
    · replace hf := (if_pos c17).symm.trans hf
      refine jr_aload_n K (D_at DX12_wordOfPart_q1 0 rfl) rfl rfl ?_
      refine jr_ldcS K (D_at DX12_wordOfPart_q1 1 rfl) (i := 33) rfl ?_
      obtain ⟨v25, e25, hf⟩ := jbind hf
      obtain ⟨rc_25, e25⟩ := jcv_o e25
      refine jr_callV K (C_X12_isWord (d) e25) (D_at DX12_wordOfPart_q1 2 rfl) cv_X12_112_X12_isWord (As := [.ref (G.2.2.2 (10 + 2 * 33))]) (ci := 10) rfl rc_25 rfl rfl (by exact Nat.le_of_ble_eq_true rfl) (kc2 := 0) (ks2 := 0) rfl rfl (fun k9 h9 w9 => by cases w9.1) (fun r9 h9 w9 => ?_)
      obtain ⟨w1, w2⟩ := w9
      subst h9
      cases w1
      show jJ G X _ 0 0 _ _ (.int v25 :: _)
      refine jr_if_eq K (D_at DX12_wordOfPart_q1 3 rfl) (tgt := 33) (by decide) (fun c28 => ?_) (fun c28 => ?_)
      · replace hf := (if_pos c28).symm.trans hf
        refine jr_aload_n K (D_at DX12_wordOfPart_q1 6 rfl) rfl rfl ?_
        refine jr_ldcS K (D_at DX12_wordOfPart_q1 7 rfl) (i := 18) rfl ?_
        obtain ⟨v36, e36, hf⟩ := jbind hf
        obtain ⟨rc_36, e36⟩ := jcv_o e36
        refine jr_callV K (C_X12_isWord (d) e36) (D_at DX12_wordOfPart_q1 8 rfl) cv_X12_112_X12_isWord (As := [.ref (G.2.2.2 (10 + 2 * 18))]) (ci := 10) rfl rc_36 rfl rfl (by exact Nat.le_of_ble_eq_true rfl) (kc2 := 0) (ks2 := 0) rfl rfl (fun k9 h9 w9 => by cases w9.1) (fun r9 h9 w9 => ?_)
        obtain ⟨w1, w2⟩ := w9
        subst h9
        cases w1
        show jJ G X _ 0 0 _ _ (.int v36 :: _)
        refine jr_if_eq K (D_at DX12_wordOfPart_q1 9 rfl) (tgt := 44) (by decide) (fun c39 => ?_) (fun c39 => ?_)
        · replace hf := (if_pos c39).symm.trans hf
          refine jr_aload_n K (D_at DX12_wordOfPart_q2 0 rfl) rfl rfl ?_
          refine jr_ldcS K (D_at DX12_wordOfPart_q2 1 rfl) (i := 19) rfl ?_
          obtain ⟨v47, e47, hf⟩ := jbind hf
          obtain ⟨rc_47, e47⟩ := jcv_o e47
          refine jr_callV K (C_X12_isWord (d) e47) (D_at DX12_wordOfPart_q2 2 rfl) cv_X12_112_X12_isWord (As := [.ref (G.2.2.2 (10 + 2 * 19))]) (ci := 10) rfl rc_47 rfl rfl (by exact Nat.le_of_ble_eq_true rfl) (kc2 := 0) (ks2 := 0) rfl rfl (fun k9 h9 w9 => by cases w9.1) (fun r9 h9 w9 => ?_)
          obtain ⟨w1, w2⟩ := w9
          subst h9
          cases w1
          show jJ G X _ 0 0 _ _ (.int v47 :: _)
          refine jr_if_eq K (D_at DX12_wordOfPart_q2 3 rfl) (tgt := 55) (by decide) (fun c50 => ?_) (fun c50 => ?_)
          · replace hf := (if_pos c50).symm.trans hf
            refine jr_aload_n K (D_at DX12_wordOfPart_q2 6 rfl) rfl rfl ?_
            refine jr_ldcS K (D_at DX12_wordOfPart_q2 7 rfl) (i := 24) rfl ?_
            obtain ⟨v58, e58, hf⟩ := jbind hf
            obtain ⟨rc_58, e58⟩ := jcv_o e58
            refine jr_callV K (C_X12_isWord (d) e58) (D_at DX12_wordOfPart_q2 8 rfl) cv_X12_112_X12_isWord (As := [.ref (G.2.2.2 (10 + 2 * 24))]) (ci := 10) rfl rc_58 rfl rfl (by exact Nat.le_of_ble_eq_true rfl) (kc2 := 0) (ks2 := 0) rfl rfl (fun k9 h9 w9 => by cases w9.1) (fun r9 h9 w9 => ?_)
            obtain ⟨w1, w2⟩ := w9
            subst h9
            cases w1
            show jJ G X _ 0 0 _ _ (.int v58 :: _)
            refine jr_if_eq K (D_at DX12_wordOfPart_q2 9 rfl) (tgt := 66) (by decide) (fun c61 => ?_) (fun c61 => ?_)
            · replace hf := (if_pos c61).symm.trans hf
              refine jr_aload_n K (D_at DX12_wordOfPart_q3 0 rfl) rfl rfl ?_
              refine jr_ldcS K (D_at DX12_wordOfPart_q3 1 rfl) (i := 25) rfl ?_
              obtain ⟨v69, e69, hf⟩ := jbind hf
              obtain ⟨rc_69, e69⟩ := jcv_o e69
              refine jr_callV K (C_X12_isWord (d) e69) (D_at DX12_wordOfPart_q3 2 rfl) cv_X12_112_X12_isWord (As := [.ref (G.2.2.2 (10 + 2 * 25))]) (ci := 10) rfl rc_69 rfl rfl (by exact Nat.le_of_ble_eq_true rfl) (kc2 := 0) (ks2 := 0) rfl rfl (fun k9 h9 w9 => by cases w9.1) (fun r9 h9 w9 => ?_)
              obtain ⟨w1, w2⟩ := w9
              subst h9
              cases w1
              show jJ G X _ 0 0 _ _ (.int v69 :: _)
              refine jr_if_eq K (D_at DX12_wordOfPart_q3 3 rfl) (tgt := 80) (by decide) (fun c72 => ?_) (fun c72 => ?_)
              · replace hf := (if_pos c72).symm.trans hf
                refine jr_iconst K (D_at DX12_wordOfPart_q3 6 rfl) (v := (-1 : Int32)) (by decide) ?_
                cases hf
                exact jr_iret K E (D_at DX12_wordOfPart_q3 7 rfl) rfl ⟨rfl, rfl⟩
              · replace hf := (if_neg c72).symm.trans hf
                refine jr_bipush K (D_at DX12_wordOfPart_q3 4 rfl) (v := (6 : Int32)) (by decide) ?_
                refine jr_goto K (D_at DX12_wordOfPart_q3 5 rfl) (tgt := 81) (by decide) ?_
                cases hf
                exact jr_iret K E (D_at DX12_wordOfPart_q3 7 rfl) rfl ⟨rfl, rfl⟩
            · replace hf := (if_neg c61).symm.trans hf
              refine jr_iconst K (D_at DX12_wordOfPart_q2 10 rfl) (v := (5 : Int32)) (by decide) ?_
              cases hf
              exact jr_iret K E (D_at DX12_wordOfPart_q2 11 rfl) rfl ⟨rfl, rfl⟩
          · replace hf := (if_neg c50).symm.trans hf
            refine jr_iconst K (D_at DX12_wordOfPart_q2 4 rfl) (v := (4 : Int32)) (by decide) ?_
            cases hf
            exact jr_iret K E (D_at DX12_wordOfPart_q2 5 rfl) rfl ⟨rfl, rfl⟩
        · replace hf := (if_neg c39).symm.trans hf
          refine jr_iconst K (D_at DX12_wordOfPart_q1 10 rfl) (v := (3 : Int32)) (by decide) ?_
          cases hf
          exact jr_iret K E (D_at DX12_wordOfPart_q1 11 rfl) rfl ⟨rfl, rfl⟩
      · replace hf := (if_neg c28).symm.trans hf
        refine jr_iconst K (D_at DX12_wordOfPart_q1 4 rfl) (v := (2 : Int32)) (by decide) ?_
        cases hf
        exact jr_iret K E (D_at DX12_wordOfPart_q1 5 rfl) rfl ⟨rfl, rfl⟩
    · replace hf := (if_neg c17).symm.trans hf
      refine jr_iconst K (D_at DX12_wordOfPart_q0 10 rfl) (v := (1 : Int32)) (by decide) ?_
      cases hf
      exact jr_iret K E (D_at DX12_wordOfPart_q0 11 rfl) rfl ⟨rfl, rfl⟩
  · replace hf := (if_neg c6).symm.trans hf
    refine jr_iconst K (D_at DX12_wordOfPart_q0 4 rfl) (v := (0 : Int32)) (by decide) ?_
    cases hf
    exact jr_iret K E (D_at DX12_wordOfPart_q0 5 rfl) rfl ⟨rfl, rfl⟩
theorem C_X12_wordOfPart {G : jG} {l : Launch} (d : Nat) {n : Nat} {a0 : Nat} {h : jH} {res : Int32} (hf : F_X12_wordOfPart n a0 h = some res) : jC G l mX12_wordOfPart (d + 7) 0 0 [.ref a0] h (jPR h res) :=
  jC.of pn_X12 (jcats rfl) (Nat.le_of_ble_eq_true rfl) (fun X K E => J_X12_wordOfPart K n h E a0 hf)
set_option maxHeartbeats 400000 in
set_option maxRecDepth 100000 in
theorem J_X12_readPart_61 {G : jG} {l : Launch} {d : Nat} {X : jX} {res : (Int32 × jH)} (K : jOK G l mX12_readPart (d + 8) X) (n : Nat) (E : jEnd G mX12_readPart (jPW res) X) (x2 : Int32) (sa0 : Nat) (s1 : Int32) (s2 : Int32) (h : jH) (hf : F_X12_readPart_61 n x2 sa0 s1 s2 h = some res) : jJ G X h 0 0 61 [none, none, some (.int x2)] [.int s2, .int s1, .ref sa0] := by
  unfold F_X12_readPart_61 at hf
  obtain ⟨h61, e61, hf⟩ := jbind hf
  obtain ⟨rc_61, e61⟩ := jcv_o e61
  refine jr_callV K (C_X12_emits (d + 7) e61) (D_at DX12_readPart_q2 8 rfl) cv_X12_189_X12_emits (As := [.int s1, .int s2]) (ci := 10) rfl rc_61 rfl rfl (by exact Nat.le_of_ble_eq_true rfl) (kc2 := 0) (ks2 := 0) rfl rfl (fun k9 h9 w9 => by cases w9.1) (fun r9 h9 w9 => ?_)
  obtain ⟨w1, w2⟩ := w9
  subst h9
  cases w1
  show jJ G X _ 0 0 _ _ []
  refine jr_iload_n K (D_at DX12_readPart_q2 9 rfl) rfl rfl ?_
  refine jr_if_lt K (D_at DX12_readPart_q2 10 rfl) (tgt := 72) (by decide) (fun c65 => ?_) (fun c65 => ?_)
  · replace hf := (if_pos c65).symm.trans hf
    refine jr_iconst K (D_at DX12_readPart_q3 1 rfl) (v := (0 : Int32)) (by decide) ?_
    cases hf
    exact jr_zret K E (D_at DX12_readPart_q3 2 rfl) rfl (Or.inl rfl) ⟨rfl, rfl⟩
  · replace hf := (if_neg c65).symm.trans hf
    refine jr_iconst K (D_at DX12_readPart_q2 11 rfl) (v := (1 : Int32)) (by decide) ?_
    refine jr_goto K (D_at DX12_readPart_q3 0 rfl) (tgt := 73) (by decide) ?_
    cases hf
    exact jr_zret K E (D_at DX12_readPart_q3 2 rfl) rfl (Or.inr rfl) ⟨rfl, rfl⟩
set_option maxHeartbeats 400000 in
set_option maxRecDepth 100000 in
theorem J_X12_readPart_40 {G : jG} {l : Launch} {d : Nat} {X : jX} {res : (Int32 × jH)} (K : jOK G l mX12_readPart (d + 8) X) (n : Nat) (E : jEnd G mX12_readPart (jPW res) X) (a0 : Nat) (x1 : Int32) (s0 : Int32) (h : jH) (hf : F_X12_readPart_40 n a0 x1 s0 h = some res) : jJ G X h 0 0 40 [some (.ref a0), some (.int x1), none] [.int s0] := by
  unfold F_X12_readPart_40 at hf
  refine jr_istore_n K (D_at DX12_readPart_q1 8 rfl) (i := 2) rfl (by decide) (L2 := [_, _, _]) rfl ?_
  refine jr_aload_n K (D_at DX12_readPart_q1 9 rfl) rfl rfl ?_
  refine jr_iload_n K (D_at DX12_readPart_q1 10 rfl) rfl rfl ?_
  refine jr_if_eq K (D_at DX12_readPart_q1 11 rfl) (tgt := 51) (by decide) (fun c43 => ?_) (fun c43 => ?_)
  · replace hf := (if_pos c43).symm.trans hf
    refine jr_iload_n K (D_at DX12_readPart_q2 2 rfl) rfl rfl ?_
    refine jr_iload_n K (D_at DX12_readPart_q2 3 rfl) rfl rfl ?_
    refine jr_if_eq K (D_at DX12_readPart_q2 4 rfl) (tgt := 60) (by decide) (fun c53 => ?_) (fun c53 => ?_)
    · replace hf := (if_pos c53).symm.trans hf
      refine jr_iconst K (D_at DX12_readPart_q2 7 rfl) (v := (0 : Int32)) (by decide) ?_
      refine jr_keep [false, false, true] ?_
      exact J_X12_readPart_61 K n E s0 a0 s0 (0 : Int32) h hf
    · replace hf := (if_neg c53).symm.trans hf
      refine jr_iload_n K (D_at DX12_readPart_q2 5 rfl) rfl rfl ?_
      refine jr_goto K (D_at DX12_readPart_q2 6 rfl) (tgt := 61) (by decide) ?_
      refine jr_keep [false, false, true] ?_
      exact J_X12_readPart_61 K n E s0 a0 s0 s0 h hf
  · replace hf := (if_neg c43).symm.trans hf
    refine jr_bipush K (D_at DX12_readPart_q2 0 rfl) (v := (11 : Int32)) (by decide) ?_
    refine jr_goto K (D_at DX12_readPart_q2 1 rfl) (tgt := 52) (by decide) ?_
    refine jr_iload_n K (D_at DX12_readPart_q2 3 rfl) rfl rfl ?_
    refine jr_if_eq K (D_at DX12_readPart_q2 4 rfl) (tgt := 60) (by decide) (fun c53 => ?_) (fun c53 => ?_)
    · replace hf := (if_pos c53).symm.trans hf
      refine jr_iconst K (D_at DX12_readPart_q2 7 rfl) (v := (0 : Int32)) (by decide) ?_
      refine jr_keep [false, false, true] ?_
      exact J_X12_readPart_61 K n E s0 a0 (11 : Int32) (0 : Int32) h hf
    · replace hf := (if_neg c53).symm.trans hf
      refine jr_iload_n K (D_at DX12_readPart_q2 5 rfl) rfl rfl ?_
      refine jr_goto K (D_at DX12_readPart_q2 6 rfl) (tgt := 61) (by decide) ?_
      refine jr_keep [false, false, true] ?_
      exact J_X12_readPart_61 K n E s0 a0 (11 : Int32) s0 h hf
set_option maxHeartbeats 400000 in
set_option maxRecDepth 100000 in
theorem J_X12_readPart_20 {G : jG} {l : Launch} {d : Nat} {X : jX} {res : (Int32 × jH)} (K : jOK G l mX12_readPart (d + 8) X) (n : Nat) (E : jEnd G mX12_readPart (jPW res) X) (a0 : Nat) (s0 : Int32) (h : jH) (hf : F_X12_readPart_20 n a0 s0 h = some res) : jJ G X h 0 0 20 [some (.ref a0), none, none] [.int s0] := by
  unfold F_X12_readPart_20 at hf
  refine jr_istore_n K (D_at DX12_readPart_q0 10 rfl) (i := 1) rfl (by decide) (L2 := [_, _, _]) rfl ?_
  refine jr_iload_n K (D_at DX12_readPart_q0 11 rfl) rfl rfl ?_
  refine jr_if_eq K (D_at DX12_readPart_q1 0 rfl) (tgt := 36) (by decide) (fun c22 => ?_) (fun c22 => ?_)
  · replace hf := (if_pos c22).symm.trans hf
    refine jr_aload_n K (D_at DX12_readPart_q1 6 rfl) rfl rfl ?_
    obtain ⟨v37, e37, hf⟩ := jbind hf
    obtain ⟨rc_37, e37⟩ := jcv_o e37
    refine jr_callV K (C_X12_wordOfPart (d) e37) (D_at DX12_readPart_q1 7 rfl) cv_X12_186_X12_wordOfPart (As := []) (ci := 10) rfl rc_37 rfl rfl (by exact Nat.le_of_ble_eq_true rfl) (kc2 := 0) (ks2 := 0) rfl rfl (fun k9 h9 w9 => by cases w9.1) (fun r9 h9 w9 => ?_)
    obtain ⟨w1, w2⟩ := w9
    subst h9
    cases w1
    show jJ G X _ 0 0 _ _ (.int v37 :: _)
    refine jr_keep [true, true, false] ?_
    exact J_X12_readPart_40 K n E a0 s0 v37 h hf
  · replace hf := (if_neg c22).symm.trans hf
    refine jr_aload_n K (D_at DX12_readPart_q1 1 rfl) rfl rfl ?_
    refine jr_iconst K (D_at DX12_readPart_q1 2 rfl) (v := (0 : Int32)) (by decide) ?_
    refine jr_sipush K (D_at DX12_readPart_q1 3 rfl) (v := (999 : Int32)) (by decide) ?_
    obtain ⟨q30, e30, hf⟩ := jbind hf
    obtain ⟨rc_30, e30⟩ := jcv_o e30
    refine jr_callV K (C_X12_number (d + 5) e30) (D_at DX12_readPart_q1 4 rfl) cv_X12_116_X12_number (As := [.int (0 : Int32), .int (999 : Int32)]) (ci := 10) rfl rc_30 rfl rfl (by exact Nat.le_of_ble_eq_true rfl) (kc2 := 0) (ks2 := 0) rfl rfl (fun k9 h9 w9 => by cases w9.1) (fun r9 h9 w9 => ?_)
    obtain ⟨w1, w2⟩ := w9
    subst h9
    cases w1
    show jJ G X _ 0 0 _ _ (.int q30.1 :: _)
    refine jr_goto K (D_at DX12_readPart_q1 5 rfl) (tgt := 40) (by decide) ?_
    refine jr_keep [true, true, false] ?_
    exact J_X12_readPart_40 K n E a0 s0 q30.1 q30.2 hf
set_option maxHeartbeats 400000 in
set_option maxRecDepth 100000 in
theorem J_X12_readPart {G : jG} {l : Launch} {d : Nat} {X : jX} {res : (Int32 × jH)} (K : jOK G l mX12_readPart (d + 8) X) (n : Nat) (E : jEnd G mX12_readPart (jPW res) X) (a0 : Nat) (h : jH) (hf : F_X12_readPart n a0 h = some res) : jJ G X h 0 0 0 [some (.ref a0), none, none] [] := by
  unfold F_X12_readPart at hf
  refine jr_aload_n K (D_at DX12_readPart_q0 0 rfl) rfl rfl ?_
  obtain ⟨h1, e1, hf⟩ := jbind hf
  obtain ⟨rc_1, e1⟩ := jcv_o e1
  refine jr_callV K (C_X12_letters (d + 5) e1) (D_at DX12_readPart_q0 1 rfl) cv_X12_109_X12_letters (As := []) (ci := 10) rfl rc_1 rfl rfl (by exact Nat.le_of_ble_eq_true rfl) (kc2 := 0) (ks2 := 0) rfl rfl (fun k9 h9 w9 => by cases w9.1) (fun r9 h9 w9 => ?_)
  obtain ⟨w1, w2⟩ := w9
  subst h9
  cases w1
  show jJ G X _ 0 0 _ _ []
  refine jr_aload_n K (D_at DX12_readPart_q0 2 rfl) rfl rfl ?_
  obtain ⟨v5, e5, hf⟩ := jbind hf
  refine jr_getI K (D_at DX12_readPart_q0 3 rfl) fg_X12_85_10 e5 ?_
  refine jr_aload_n K (D_at DX12_readPart_q0 4 rfl) rfl rfl ?_
  obtain ⟨v9, e9, hf⟩ := jbind hf
  refine jr_getI K (D_at DX12_readPart_q0 5 rfl) fg_X12_94_10 e9 ?_
  refine jr_icmp_ne K (D_at DX12_readPart_q0 6 rfl) (tgt := 19) (by decide) (fun c12 => ?_) (fun c12 => ?_)
  · replace hf := (if_neg c12).symm.trans hf
    refine jr_iconst K (D_at DX12_readPart_q0 9 rfl) (v := (0 : Int32)) (by decide) ?_
    refine jr_keep [true, false, false] ?_
    exact J_X12_readPart_20 K n E a0 (0 : Int32) h1 hf
  · replace hf := (if_pos c12).symm.trans hf
    refine jr_iconst K (D_at DX12_readPart_q0 7 rfl) (v := (1 : Int32)) (by decide) ?_
    refine jr_goto K (D_at DX12_readPart_q0 8 rfl) (tgt := 20) (by decide) ?_
    refine jr_keep [true, false, false] ?_
    exact J_X12_readPart_20 K n E a0 (1 : Int32) h1 hf
theorem C_X12_readPart {G : jG} {l : Launch} (d : Nat) {n : Nat} {a0 : Nat} {h : jH} {res : (Int32 × jH)} (hf : F_X12_readPart n a0 h = some res) : jC G l mX12_readPart (d + 8) 0 0 [.ref a0] h (jPW res) :=
  jC.of pn_X12 (jcats rfl) (Nat.le_of_ble_eq_true rfl) (fun X K E => J_X12_readPart K n E a0 h hf)
end
