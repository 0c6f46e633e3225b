set_option maxHeartbeats 400000 in
set_option maxRecDepth 100000 in
theorem J_X11_slack {G : jG} {l : Launch} {d : Nat} {X : jX} {res : Int32} (K : jOK G l mX11_slack (d + 2) X) (n : Nat) (h : jH) (E : jEnd G mX11_slack (jPR h res) X) (a0 : Nat) (hf : F_X11_slack n a0 h = some res) : jJ G X h 0 0 0 [some (.ref a0)] [] := by
  unfold F_X11_slack at hf
  refine jr_aload_n K (D_at DX11_slack 0 rfl) rfl rfl ?_
  obtain ⟨p1, e1, hf⟩ := jbind hf
  refine jr_getR K (D_at DX11_slack 1 rfl) fg_X11_19_9 e1 ?_
  obtain ⟨v4, e4, hf⟩ := jbind hf
  refine jr_callS K (C_X6_spareCloth (d) e4) (D_at DX11_slack 2 rfl) cs_X11_284_X6_spareCloth (As := [.ref p1]) rfl rfl (by exact Nat.le_of_ble_eq_true rfl) (kc2 := 0) (ks2 := 0) rfl rfl (fun k9 h9 w9 => by cases w9.1) (fun r9 h9 w9 => ?_)
  obtain ⟨w1, w2⟩ := w9
  subst h9
  cases w1
  show jJ G X _ 0 0 _ _ (.int v4 :: _)
  cases hf
  exact jr_iret K E (D_at DX11_slack 3 rfl) rfl ⟨rfl, rfl⟩
theorem C_X11_slack {G : jG} {l : Launch} (d : Nat) {n : Nat} {a0 : Nat} {h : jH} {res : Int32} (hf : F_X11_slack n a0 h = some res) : jC G l mX11_slack (d + 2) 0 0 [.ref a0] h (jPR h res) :=
  jC.of (by decide +kernel) (jcats rfl) (Nat.le_of_ble_eq_true rfl) (fun X K E => J_X11_slack K n h E a0 hf)
set_option maxHeartbeats 400000 in
set_option maxRecDepth 100000 in
theorem J_X11_taut {G : jG} {l : Launch} {d : Nat} {X : jX} {res : Int32} (K : jOK G l mX11_taut (d + 2) X) (n : Nat) (h : jH) (E : jEnd G mX11_taut (jPR h res) X) (a0 : Nat) (hf : F_X11_taut n a0 h = some res) : jJ G X h 0 0 0 [some (.ref a0)] [] := by
  unfold F_X11_taut at hf
  refine jr_aload_n K (D_at DX11_taut 0 rfl) rfl rfl ?_
  obtain ⟨p1, e1, hf⟩ := jbind hf
  refine jr_getR K (D_at DX11_taut 1 rfl) fg_X11_19_9 e1 ?_
  obtain ⟨v4, e4, hf⟩ := jbind hf
  refine jr_callS K (C_X6_tautRings (d) e4) (D_at DX11_taut 2 rfl) cs_X11_287_X6_tautRings (As := [.ref p1]) rfl rfl (by exact Nat.le_of_ble_eq_true rfl) (kc2 := 0) (ks2 := 0) rfl rfl (fun k9 h9 w9 => by cases w9.1) (fun r9 h9 w9 => ?_)
  obtain ⟨w1, w2⟩ := w9
  subst h9
  cases w1
  show jJ G X _ 0 0 _ _ (.int v4 :: _)
  cases hf
  exact jr_iret K E (D_at DX11_taut 3 rfl) rfl ⟨rfl, rfl⟩
theorem C_X11_taut {G : jG} {l : Launch} (d : Nat) {n : Nat} {a0 : Nat} {h : jH} {res : Int32} (hf : F_X11_taut n a0 h = some res) : jC G l mX11_taut (d + 2) 0 0 [.ref a0] h (jPR h res) :=
  jC.of (by decide +kernel) (jcats rfl) (Nat.le_of_ble_eq_true rfl) (fun X K E => J_X11_taut K n h E a0 hf)
set_option maxHeartbeats 400000 in
set_option maxRecDepth 100000 in
theorem J_X11_lit {G : jG} {l : Launch} (hst : l.stackTraces = false) {d : Nat} {X : jX} {res : (jR × jH)} (K : jOK G l mX11_lit (d + 6) X) (n : Nat) (E : jEnd G mX11_lit (jPX res) X) (a0 : Nat) (x1 : Int32) (h : jH) (hf : F_X11_lit n a0 x1 h = some res) : jJ G X h 1 6 0 [some (.ref a0), some (.int x1)] [] := by
  unfold F_X11_lit at hf
  refine jr_iload_n K (D_at DX11_lit 0 rfl) rfl rfl ?_
  refine jr_if_lt K (D_at DX11_lit 1 rfl) (tgt := 10) (by decide) (fun c1 => ?_) (fun c1 => ?_)
  · replace hf := (if_pos c1).symm.trans hf
    cases hf
    exact jr_throwW (dep := d + 0) hst K E (D_at DX11_lit 5 rfl) (D_at DX11_lit 6 rfl) (D_at DX11_lit 7 rfl) (D_at DX11_lit 8 rfl) (D_at DX11_lit 9 rfl) th_X11_2 (i := 11) rfl rfl (k := 2) rfl (by exact Nat.le_of_ble_eq_true rfl) (by decide) (by decide) ⟨rfl, rfl⟩
  · replace hf := (if_neg c1).symm.trans hf
    refine jr_iload_n K (D_at DX11_lit 2 rfl) rfl rfl ?_
    refine jr_bipush K (D_at DX11_lit 3 rfl) (v := (8 : Int32)) (by decide) ?_
    refine jr_icmp_lt K (D_at DX11_lit 4 rfl) (tgt := 21) (by decide) (fun c7 => ?_) (fun c7 => ?_)
    · replace hf := (if_pos c7).symm.trans hf
      refine jr_aload_n K (D_at DX11_lit 10 rfl) rfl rfl ?_
      obtain ⟨p22, e22, hf⟩ := jbind hf
      refine jr_getR K (D_at DX11_lit 11 rfl) fg_X11_19_9 e22 ?_
      refine jr_iload_n K (D_at DX11_lit 12 rfl) rfl rfl ?_
      obtain ⟨v26, e26, hf⟩ := jbind hf
      refine jr_callS K (C_X6_litRings (d + 4) e26) (D_at DX11_lit 13 rfl) cs_X11_295_X6_litRings (As := [.ref p22, .int x1]) rfl rfl (by exact Nat.le_of_ble_eq_true rfl) (kc2 := 1) (ks2 := 6) rfl rfl (fun k9 h9 w9 => by cases w9.1) (fun r9 h9 w9 => ?_)
      obtain ⟨w1, w2⟩ := w9
      subst h9
      cases w1
      show jJ G X _ 1 6 _ _ (.int v26 :: _)
      cases hf
      exact jr_iret K E (D_at DX11_lit 14 rfl) rfl ⟨rfl, rfl⟩
    · replace hf := (if_neg c7).symm.trans hf
      cases hf
      exact jr_throwW (dep := d + 0) hst K E (D_at DX11_lit 5 rfl) (D_at DX11_lit 6 rfl) (D_at DX11_lit 7 rfl) (D_at DX11_lit 8 rfl) (D_at DX11_lit 9 rfl) th_X11_2 (i := 11) rfl rfl (k := 2) rfl (by exact Nat.le_of_ble_eq_true rfl) (by decide) (by decide) ⟨rfl, rfl⟩
theorem C_X11_lit {G : jG} {l : Launch} (hst : l.stackTraces = false) (d : Nat) {n : Nat} {a0 : Nat} {x1 : Int32} {h : jH} {res : (jR × jH)} (hf : F_X11_lit n a0 x1 h = some res) : jC G l mX11_lit (d + 6) 1 6 [.ref a0, .int x1] h (jPX res) :=
  jC.of (by decide +kernel) (jcats rfl) (Nat.le_of_ble_eq_true rfl) (fun X K E => J_X11_lit hst K n E a0 x1 h hf)
set_option maxHeartbeats 400000 in
set_option maxRecDepth 100000 in
theorem J_X11_sunny {G : jG} {l : Launch} {d : Nat} {X : jX} {res : Int32} (K : jOK G l mX11_sunny (d + 3) X) (n : Nat) (h : jH) (E : jEnd G mX11_sunny (jPR h res) X) (a0 : Nat) (hf : F_X11_sunny n a0 h = some res) : jJ G X h 0 0 0 [some (.ref a0)] [] := by
  unfold F_X11_sunny at hf
  refine jr_aload_n K (D_at DX11_sunny 0 rfl) rfl rfl ?_
  obtain ⟨p1, e1, hf⟩ := jbind hf
  refine jr_getR K (D_at DX11_sunny 1 rfl) fg_X11_19_9 e1 ?_
  obtain ⟨v4, e4, hf⟩ := jbind hf
  refine jr_callS K (C_X6_sunniest (d) e4) (D_at DX11_sunny 2 rfl) cs_X11_298_X6_sunniest (As := [.ref p1]) rfl rfl (by exact Nat.le_of_ble_eq_true rfl) (kc2 := 0) (ks2 := 0) rfl rfl (fun k9 h9 w9 => by cases w9.1) (fun r9 h9 w9 => ?_)
  obtain ⟨w1, w2⟩ := w9
  subst h9
  cases w1
  show jJ G X _ 0 0 _ _ (.int v4 :: _)
  cases hf
  exact jr_iret K E (D_at DX11_sunny 3 rfl) rfl ⟨rfl, rfl⟩
theorem C_X11_sunny {G : jG} {l : Launch} (d : Nat) {n : Nat} {a0 : Nat} {h : jH} {res : Int32} (hf : F_X11_sunny n a0 h = some res) : jC G l mX11_sunny (d + 3) 0 0 [.ref a0] h (jPR h res) :=
  jC.of (by decide +kernel) (jcats rfl) (Nat.le_of_ble_eq_true rfl) (fun X K E => J_X11_sunny K n h E a0 hf)
set_option maxHeartbeats 400000 in
set_option maxRecDepth 100000 in
theorem J_X11_faded {G : jG} {l : Launch} (hst : l.stackTraces = false) {d : Nat} {X : jX} {res : (jR × jH)} (K : jOK G l mX11_faded (d + 7) X) (n : Nat) (E : jEnd G mX11_faded (jPX res) X) (a0 : Nat) (x1 : Int32) (h : jH) (hf : F_X11_faded n a0 x1 h = some res) : jJ G X h 1 6 0 [some (.ref a0), some (.int x1)] [] := by
  unfold F_X11_faded at hf
  refine jr_aload_n K (D_at DX11_faded 0 rfl) rfl rfl ?_
  refine jr_iload_n K (D_at DX11_faded 1 rfl) rfl rfl ?_
  refine jr_iconst K (D_at DX11_faded 2 rfl) (v := (0 : Int32)) (by decide) ?_
  refine jr_bipush K (D_at DX11_faded 3 rfl) (v := (80 : Int32)) (by decide) ?_
  obtain ⟨q5, e5, hf⟩ := jbind hf
  obtain ⟨rc_5, e5⟩ := jcv_o e5
  refine jr_callVx K (C_X11_requireNumber hst (d) e5) (D_at DX11_faded 4 rfl) cv_X11_180_X11_requireNumber (As := [.int x1, .int (0 : Int32), .int (80 : Int32)])  (ci := 9) rfl rc_5 rfl rfl (by exact Nat.le_of_ble_eq_true rfl) (kc2 := 0) (ks2 := 0) rfl rfl (fun k9 z9 h9 w9 hz9 => ?_) (fun r9 h9 w9 => ?_)
  · obtain ⟨w1, rfl⟩ := w9
    have hf := (jthen_r w1.symm).symm.trans hf
    cases hf
    exact jr_out K E rfl hz9 ⟨rfl, rfl⟩
  obtain ⟨w1, rfl⟩ := w9
  obtain ⟨r5, w2⟩ : ∃ z, z = r9 := ⟨_, rfl⟩
  subst w2
  replace hf := (jthen_l w1.symm).symm.trans hf
  obtain ⟨h5, w3⟩ : ∃ z, z = q5.2 := ⟨_, rfl⟩
  rw [← w3] at hf ⊢
  show jJ G X h5 0 0 _ _ []
  refine jr_aload_n K (D_at DX11_faded 5 rfl) rfl rfl ?_
  obtain ⟨p9, e9, hf⟩ := jbind hf
  refine jr_getR K (D_at DX11_faded 6 rfl) fg_X11_66_9 e9 ?_
  refine jr_aload_n K (D_at DX11_faded 7 rfl) rfl rfl ?_
  obtain ⟨p13, e13, hf⟩ := jbind hf
  refine jr_getR K (D_at DX11_faded 8 rfl) fg_X11_19_9 e13 ?_
  refine jr_iload_n K (D_at DX11_faded 9 rfl) rfl rfl ?_
  obtain ⟨h17, e17, hf⟩ := jbind hf
  obtain ⟨rc_17, e17⟩ := jcv_o e17
  refine jr_callV K (C_X1_goAhead (d + 1) e17) (D_at DX11_faded 10 rfl) cv_X11_301_X1_goAhead (As := [.ref p13, .int x1]) (ci := 1) rfl rc_17 rfl rfl (by exact Nat.le_of_ble_eq_true rfl) (kc2 := 0) (ks2 := 0) rfl rfl (fun k9 h9 w9 => by cases w9.1) (fun r9 h9 w9 => ?_)
  obtain ⟨w1, w2⟩ := w9
  subst h9
  cases w1
  show jJ G X _ 0 0 _ _ []
  refine jr_aload_n K (D_at DX11_faded 11 rfl) rfl rfl ?_
  obtain ⟨p21, e21, hf⟩ := jbind hf
  refine jr_getR K (D_at DX11_faded 12 rfl) fg_X11_37_9 e21 ?_
  obtain ⟨v24, e24, hf⟩ := jbind hf
  obtain ⟨rc_24, e24⟩ := jcv_o e24
  refine jr_callV K (C_X8_allFades (d + 6) e24) (D_at DX11_faded 13 rfl) cv_X11_304_X8_allFades (As := []) (ci := 6) rfl rc_24 rfl rfl (by exact Nat.le_of_ble_eq_true rfl) (kc2 := 0) (ks2 := 0) rfl rfl (fun k9 h9 w9 => by cases w9.1) (fun r9 h9 w9 => ?_)
  obtain ⟨w1, w2⟩ := w9
  subst h9
  cases w1
  show jJ G X _ 0 0 _ _ (.int v24 :: _)
  cases hf
  exact jr_iret K E (D_at DX11_faded 14 rfl) rfl ⟨rfl, rfl⟩
theorem C_X11_faded {G : jG} {l : Launch} (hst : l.stackTraces = false) (d : Nat) {n : Nat} {a0 : Nat} {x1 : Int32} {h : jH} {res : (jR × jH)} (hf : F_X11_faded n a0 x1 h = some res) : jC G l mX11_faded (d + 7) 1 6 [.ref a0, .int x1] h (jPX res) :=
  jC.of (by decide +kernel) (jcats rfl) (Nat.le_of_ble_eq_true rfl) (fun X K E => J_X11_faded hst K n E a0 x1 h hf)
set_option maxHeartbeats 400000 in
set_option maxRecDepth 100000 in
theorem J_X11_pale {G : jG} {l : Launch} {d : Nat} {X : jX} {res : (Int32 × jH)} (K : jOK G l mX11_pale (d + 6) X) (n : Nat) (E : jEnd G mX11_pale (jPW res) X) (a0 : Nat) (h : jH) (hf : F_X11_pale n a0 h = some res) : jJ G X h 0 0 0 [some (.ref a0)] [] := by
  unfold F_X11_pale at hf
  refine jr_aload_n K (D_at DX11_pale 0 rfl) rfl rfl ?_
  obtain ⟨p1, e1, hf⟩ := jbind hf
  refine jr_getR K (D_at DX11_pale 1 rfl) fg_X11_66_9 e1 ?_
  refine jr_aload_n K (D_at DX11_pale 2 rfl) rfl rfl ?_
  obtain ⟨p5, e5, hf⟩ := jbind hf
  refine jr_getR K (D_at DX11_pale 3 rfl) fg_X11_19_9 e5 ?_
  obtain ⟨q8, e8, hf⟩ := jbind hf
  obtain ⟨rc_8, e8⟩ := jcv_o e8
  refine jr_callV K (C_X1_firstPale (d) e8) (D_at DX11_pale 4 rfl) cv_X11_307_X1_firstPale (As := [.ref p5]) (ci := 1) rfl rc_8 rfl rfl (by exact Nat.le_of_ble_eq_true rfl) (kc2 := 0) (ks2 := 0) rfl rfl (fun k9 h9 w9 => by cases w9.1) (fun r9 h9 w9 => ?_)
  obtain ⟨w1, w2⟩ := w9
  subst h9
  cases w1
  show jJ G X _ 0 0 _ _ (.int q8.1 :: _)
  cases hf
  exact jr_iret K E (D_at DX11_pale 5 rfl) rfl ⟨rfl, rfl⟩
theorem C_X11_pale {G : jG} {l : Launch} (d : Nat) {n : Nat} {a0 : Nat} {h : jH} {res : (Int32 × jH)} (hf : F_X11_pale n a0 h = some res) : jC G l mX11_pale (d + 6) 0 0 [.ref a0] h (jPW res) :=
  jC.of (by decide +kernel) (jcats rfl) (Nat.le_of_ble_eq_true rfl) (fun X K E => J_X11_pale K n E a0 h hf)
set_option maxHeartbeats 400000 in
set_option maxRecDepth 100000 in
theorem J_X11_lets {G : jG} {l : Launch} (hst : l.stackTraces = false) {d : Nat} {X : jX} {res : (jR × jH)} (K : jOK G l mX11_lets (d + 7) X) (n : Nat) (E : jEnd G mX11_lets (jPX res) X) (a0 : Nat) (x1 : Int32) (x2 : Int32) (h : jH) (hf : F_X11_lets n a0 x1 x2 h = some res) : jJ G X h 2 12 0 [some (.ref a0), some (.int x1), some (.int x2)] [] := by
  unfold F_X11_lets at hf
  refine jr_aload_n K (D_at DX11_lets 0 rfl) rfl rfl ?_
  refine jr_iload_n K (D_at DX11_lets 1 rfl) rfl rfl ?_
  obtain ⟨q2, e2, hf⟩ := jbind hf
  obtain ⟨rc_2, e2⟩ := jcv_o e2
  refine jr_callVx K (C_X11_requireRing hst (d) e2) (D_at DX11_lets 2 rfl) cv_X11_128_X11_requireRing (As := [.int x1])  (ci := 9) rfl rc_2 rfl rfl (by exact Nat.le_of_ble_eq_true rfl) (kc2 := 1) (ks2 := 6) rfl rfl (fun k9 z9 h9 w9 hz9 => ?_) (fun r9 h9 w9 => ?_)
  · obtain ⟨w1, rfl⟩ := w9
    have hf := (jthen_r w1.symm).symm.trans hf
    cases hf
    exact jr_out K E rfl hz9 ⟨rfl, rfl⟩
  obtain ⟨w1, rfl⟩ := w9
  obtain ⟨r2, w2⟩ : ∃ z, z = r9 := ⟨_, rfl⟩
  subst w2
  replace hf := (jthen_l w1.symm).symm.trans hf
  obtain ⟨h2, w3⟩ : ∃ z, z = q2.2 := ⟨_, rfl⟩
  rw [← w3] at hf ⊢
  show jJ G X h2 1 6 _ _ []
  refine jr_aload_n K (D_at DX11_lets 3 rfl) rfl rfl ?_
  refine jr_iload_n K (D_at DX11_lets 4 rfl) rfl rfl ?_
  refine jr_iconst K (D_at DX11_lets 5 rfl) (v := (0 : Int32)) (by decide) ?_
  refine jr_bipush K (D_at DX11_lets 6 rfl) (v := (9 : Int32)) (by decide) ?_
  obtain ⟨q10, e10, hf⟩ := jbind hf
  obtain ⟨rc_10, e10⟩ := jcv_o e10
  refine jr_callVx K (C_X11_requireNumber hst (d) e10) (D_at DX11_lets 7 rfl) cv_X11_180_X11_requireNumber (As := [.int x2, .int (0 : Int32), .int (9 : Int32)])  (ci := 9) rfl rc_10 rfl rfl (by exact Nat.le_of_ble_eq_true rfl) (kc2 := 0) (ks2 := 0) rfl rfl (fun k9 z9 h9 w9 hz9 => ?_) (fun r9 h9 w9 => ?_)
  · obtain ⟨w1, rfl⟩ := w9
    have hf := (jthen_r w1.symm).symm.trans hf
    cases hf
    exact jr_out K E rfl hz9 ⟨rfl, rfl⟩
  obtain ⟨w1, rfl⟩ := w9
  obtain ⟨r10, w2⟩ : ∃ z, z = r9 := ⟨_, rfl⟩
  subst w2
  replace hf := (jthen_l w1.symm).symm.trans hf
  obtain ⟨h10, w3⟩ : ∃ z, z = q10.2 := ⟨_, rfl⟩
  rw [← w3] at hf ⊢
  show jJ G X h10 0 0 _ _ []
  refine jr_aload_n K (D_at DX11_lets 8 rfl) rfl rfl ?_
  obtain ⟨p14, e14, hf⟩ := jbind hf
  refine jr_getR K (D_at DX11_lets 9 rfl) fg_X11_19_9 e14 ?_
  refine jr_iload_n K (D_at DX11_lets 10 rfl) rfl rfl ?_
  refine jr_iload_n K (D_at DX11_lets 11 rfl) rfl rfl ?_
  obtain ⟨v19, e19, hf⟩ := jbind hf
  refine jr_callS K (C_X6_evenLength (d + 6) e19) (D_at DX11_lets 12 rfl) cs_X11_310_X6_evenLength (As := [.ref p14, .int x1, .int x2]) rfl rfl (by exact Nat.le_of_ble_eq_true rfl) (kc2 := 0) (ks2 := 0) rfl rfl (fun k9 h9 w9 => by cases w9.1) (fun r9 h9 w9 => ?_)
  obtain ⟨w1, w2⟩ := w9
  subst h9
  cases w1
  show jJ G X _ 0 0 _ _ (.int v19 :: _)
  cases hf
  exact jr_iret K E (D_at DX11_lets 13 rfl) rfl ⟨rfl, rfl⟩
theorem C_X11_lets {G : jG} {l : Launch} (hst : l.stackTraces = false) (d : Nat) {n : Nat} {a0 : Nat} {x1 : Int32} {x2 : Int32} {h : jH} {res : (jR × jH)} (hf : F_X11_lets n a0 x1 x2 h = some res) : jC G l mX11_lets (d + 7) 2 12 [.ref a0, .int x1, .int x2] h (jPX res) :=
  jC.of (by decide +kernel) (jcats rfl) (Nat.le_of_ble_eq_true rfl) (fun X K E => J_X11_lets hst K n E a0 x1 x2 h hf)
set_option maxHeartbeats 400000 in
set_option maxRecDepth 100000 in
theorem J_X11_envy {G : jG} {l : Launch} {d : Nat} {X : jX} {res : Int32} (K : jOK G l mX11_envy (d + 2) X) (n : Nat) (h : jH) (E : jEnd G mX11_envy (jPR h res) X) (a0 : Nat) (hf : F_X11_envy n a0 h = some res) : jJ G X h 0 0 0 [some (.ref a0)] [] := by
  unfold F_X11_envy at hf
  refine jr_aload_n K (D_at DX11_envy 0 rfl) rfl rfl ?_
  obtain ⟨p1, e1, hf⟩ := jbind hf
  refine jr_getR K (D_at DX11_envy 1 rfl) fg_X11_19_9 e1 ?_
  obtain ⟨v4, e4, hf⟩ := jbind hf
  refine jr_callS K (C_X6_enviousPairs (d) e4) (D_at DX11_envy 2 rfl) cs_X11_314_X6_enviousPairs (As := [.ref p1]) rfl rfl (by exact Nat.le_of_ble_eq_true rfl) (kc2 := 0) (ks2 := 0) rfl rfl (fun k9 h9 w9 => by cases w9.1) (fun r9 h9 w9 => ?_)
  obtain ⟨w1, w2⟩ := w9
  subst h9
  cases w1
  show jJ G X _ 0 0 _ _ (.int v4 :: _)
  cases hf
  exact jr_iret K E (D_at DX11_envy 3 rfl) rfl ⟨rfl, rfl⟩
theorem C_X11_envy {G : jG} {l : Launch} (d : Nat) {n : Nat} {a0 : Nat} {h : jH} {res : Int32} (hf : F_X11_envy n a0 h = some res) : jC G l mX11_envy (d + 2) 0 0 [.ref a0] h (jPR h res) :=
  jC.of (by decide +kernel) (jcats rfl) (Nat.le_of_ble_eq_true rfl) (fun X K E => J_X11_envy K n h E a0 hf)
set_option maxHeartbeats 400000 in
set_option maxRecDepth 100000 in
theorem J_X11_rests {G : jG} {l : Launch} (hst : l.stackTraces = false) {d : Nat} {X : jX} {res : (jR × jH)} (K : jOK G l mX11_rests (d + 7) X) (n : Nat) (E : jEnd G mX11_rests (jPX res) X) (a0 : Nat) (x1 : Int32) (h : jH) (hf : F_X11_rests n a0 x1 h = some res) : jJ G X h 1 6 0 [some (.ref a0), some (.int x1)] [] := by
  unfold F_X11_rests at hf
  refine jr_aload_n K (D_at DX11_rests 0 rfl) rfl rfl ?_
  refine jr_iload_n K (D_at DX11_rests 1 rfl) rfl rfl ?_
  obtain ⟨q2, e2, hf⟩ := jbind hf
  obtain ⟨rc_2, e2⟩ := jcv_o e2
  refine jr_callVx K (C_X11_requireRing hst (d) e2) (D_at DX11_rests 2 rfl) cv_X11_128_X11_requireRing (As := [.int x1])  (ci := 9) rfl rc_2 rfl rfl (by exact Nat.le_of_ble_eq_true rfl) (kc2 := 0) (ks2 := 0) rfl rfl (fun k9 z9 h9 w9 hz9 => ?_) (fun r9 h9 w9 => ?_)
  · obtain ⟨w1, rfl⟩ := w9
    have hf := (jthen_r w1.symm).symm.trans hf
    cases hf
    exact jr_out K E rfl hz9 ⟨rfl, rfl⟩
  obtain ⟨w1, rfl⟩ := w9
  obtain ⟨r2, w2⟩ : ∃ z, z = r9 := ⟨_, rfl⟩
  subst w2
  replace hf := (jthen_l w1.symm).symm.trans hf
  obtain ⟨h2, w3⟩ : ∃ z, z = q2.2 := ⟨_, rfl⟩
  rw [← w3] at hf ⊢
  show jJ G X h2 0 0 _ _ []
  refine jr_aload_n K (D_at DX11_rests 3 rfl) rfl rfl ?_
  obtain ⟨p6, e6, hf⟩ := jbind hf
  refine jr_getR K (D_at DX11_rests 4 rfl) fg_X11_19_9 e6 ?_
  refine jr_iload_n K (D_at DX11_rests 5 rfl) rfl rfl ?_
  obtain ⟨v10, e10, hf⟩ := jbind hf
  refine jr_callS K (C_X6_restingChoices (d + 4) e10) (D_at DX11_rests 6 rfl) cs_X11_317_X6_restingChoices (As := [.ref p6, .int x1]) rfl rfl (by exact Nat.le_of_ble_eq_true rfl) (kc2 := 0) (ks2 := 0) rfl rfl (fun k9 h9 w9 => by cases w9.1) (fun r9 h9 w9 => ?_)
  obtain ⟨w1, w2⟩ := w9
  subst h9
  cases w1
  show jJ G X _ 0 0 _ _ (.int v10 :: _)
  cases hf
  exact jr_iret K E (D_at DX11_rests 7 rfl) rfl ⟨rfl, rfl⟩
theorem C_X11_rests {G : jG} {l : Launch} (hst : l.stackTraces = false) (d : Nat) {n : Nat} {a0 : Nat} {x1 : Int32} {h : jH} {res : (jR × jH)} (hf : F_X11_rests n a0 x1 h = some res) : jC G l mX11_rests (d + 7) 1 6 [.ref a0, .int x1] h (jPX res) :=
  jC.of (by decide +kernel) (jcats rfl) (Nat.le_of_ble_eq_true rfl) (fun X K E => J_X11_rests hst K n E a0 x1 h hf)
set_option maxHeartbeats 400000 in
set_option maxRecDepth 100000 in
theorem J_X11_bunch {G : jG} {l : Launch} {d : Nat} {X : jX} {res : Int32} (K : jOK G l mX11_bunch (d + 2) X) (n : Nat) (h : jH) (E : jEnd G mX11_bunch (jPR h res) X) (a0 : Nat) (hf : F_X11_bunch n a0 h = some res) : jJ G X h 0 0 0 [some (.ref a0)] [] := by
  unfold F_X11_bunch at hf
  refine jr_aload_n K (D_at DX11_bunch 0 rfl) rfl rfl ?_
  obtain ⟨p1, e1, hf⟩ := jbind hf
  refine jr_getR K (D_at DX11_bunch 1 rfl) fg_X11_19_9 e1 ?_
  obtain ⟨v4, e4, hf⟩ := jbind hf
  refine jr_callS K (C_X6_largestBunch (d) e4) (D_at DX11_bunch 2 rfl) cs_X11_320_X6_largestBunch (As := [.ref p1]) rfl rfl (by exact Nat.le_of_ble_eq_true rfl) (kc2 := 0) (ks2 := 0) rfl rfl (fun k9 h9 w9 => by cases w9.1) (fun r9 h9 w9 => ?_)
  obtain ⟨w1, w2⟩ := w9
  subst h9
  cases w1
  show jJ G X _ 0 0 _ _ (.int v4 :: _)
  cases hf
  exact jr_iret K E (D_at DX11_bunch 3 rfl) rfl ⟨rfl, rfl⟩
theorem C_X11_bunch {G : jG} {l : Launch} (d : Nat) {n : Nat} {a0 : Nat} {h : jH} {res : Int32} (hf : F_X11_bunch n a0 h = some res) : jC G l mX11_bunch (d + 2) 0 0 [.ref a0] h (jPR h res) :=
  jC.of (by decide +kernel) (jcats rfl) (Nat.le_of_ble_eq_true rfl) (fun X K E => J_X11_bunch K n h E a0 hf)
set_option maxHeartbeats 400000 in
set_option maxRecDepth 100000 in
theorem J_X11_wooden {G : jG} {l : Launch} {d : Nat} {X : jX} {res : Int32} (K : jOK G l mX11_wooden (d) X) (n : Nat) (h : jH) (E : jEnd G mX11_wooden (jPR h res) X) (a0 : Nat) (hf : F_X11_wooden n a0 h = some res) : jJ G X h 0 0 0 [some (.ref a0)] [] := by
  unfold F_X11_wooden at hf
  refine jr_aload_n K (D_at DX11_wooden 0 rfl) rfl rfl ?_
  obtain ⟨p1, e1, hf⟩ := jbind hf
  refine jr_getR K (D_at DX11_wooden 1 rfl) fg_X11_19_9 e1 ?_
  obtain ⟨v4, e4, hf⟩ := jbind hf
  refine jr_getI K (D_at DX11_wooden 2 rfl) fg_X11_145_6 e4 ?_
  cases hf
  exact jr_iret K E (D_at DX11_wooden 3 rfl) rfl ⟨rfl, rfl⟩
theorem C_X11_wooden {G : jG} {l : Launch} (d : Nat) {n : Nat} {a0 : Nat} {h : jH} {res : Int32} (hf : F_X11_wooden n a0 h = some res) : jC G l mX11_wooden (d) 0 0 [.ref a0] h (jPR h res) :=
  jC.of (by decide +kernel) (jcats rfl) (Nat.le_of_ble_eq_true rfl) (fun X K E => J_X11_wooden K n h E a0 hf)
set_option maxHeartbeats 400000 in
set_option maxRecDepth 100000 in
theorem J_X11_caught {G : jG} {l : Launch} {d : Nat} {X : jX} {res : Int32} (K : jOK G l mX11_caught (d) X) (n : Nat) (h : jH) (E : jEnd G mX11_caught (jPR h res) X) (a0 : Nat) (hf : F_X11_caught n a0 h = some res) : jJ G X h 0 0 0 [some (.ref a0)] [] := by
  unfold F_X11_caught at hf
  refine jr_aload_n K (D_at DX11_caught 0 rfl) rfl rfl ?_
  obtain ⟨p1, e1, hf⟩ := jbind hf
  refine jr_getR K (D_at DX11_caught 1 rfl) fg_X11_19_9 e1 ?_
  obtain ⟨v4, e4, hf⟩ := jbind hf
  refine jr_getI K (D_at DX11_caught 2 rfl) fg_X11_156_6 e4 ?_
  cases hf
  exact jr_iret K E (D_at DX11_caught 3 rfl) rfl ⟨rfl, rfl⟩
theorem C_X11_caught {G : jG} {l : Launch} (d : Nat) {n : Nat} {a0 : Nat} {h : jH} {res : Int32} (hf : F_X11_caught n a0 h = some res) : jC G l mX11_caught (d) 0 0 [.ref a0] h (jPR h res) :=
  jC.of (by decide +kernel) (jcats rfl) (Nat.le_of_ble_eq_true rfl) (fun X K E => J_X11_caught K n h E a0 hf)
set_option maxHeartbeats 400000 in
set_option maxRecDepth 100000 in
theorem J_X11_loose {G : jG} {l : Launch} {d : Nat} {X : jX} {res : Int32} (K : jOK G l mX11_loose (d + 1) X) (n : Nat) (h : jH) (E : jEnd G mX11_loose (jPR h res) X) (a0 : Nat) (hf : F_X11_loose n a0 h = some res) : jJ G X h 0 0 0 [some (.ref a0)] [] := by
  unfold F_X11_loose at hf
  refine jr_aload_n K (D_at DX11_loose 0 rfl) rfl rfl ?_
  obtain ⟨p1, e1, hf⟩ := jbind hf
  refine jr_getR K (D_at DX11_loose 1 rfl) fg_X11_19_9 e1 ?_
  obtain ⟨v4, e4, hf⟩ := jbind hf
  obtain ⟨rc_4, e4⟩ := jcv_o e4
  refine jr_callV K (C_X8_unhooked (d) e4) (D_at DX11_loose 2 rfl) cv_X11_323_X8_unhooked (As := []) (ci := 6) rfl rc_4 rfl rfl (by exact Nat.le_of_ble_eq_true rfl) (kc2 := 0) (ks2 := 0) rfl rfl (fun k9 h9 w9 => by cases w9.1) (fun r9 h9 w9 => ?_)
  obtain ⟨w1, w2⟩ := w9
  subst h9
  cases w1
  show jJ G X _ 0 0 _ _ (.int v4 :: _)
  cases hf
  exact jr_iret K E (D_at DX11_loose 3 rfl) rfl ⟨rfl, rfl⟩
theorem C_X11_loose {G : jG} {l : Launch} (d : Nat) {n : Nat} {a0 : Nat} {h : jH} {res : Int32} (hf : F_X11_loose n a0 h = some res) : jC G l mX11_loose (d + 1) 0 0 [.ref a0] h (jPR h res) :=
  jC.of (by decide +kernel) (jcats rfl) (Nat.le_of_ble_eq_true rfl) (fun X K E => J_X11_loose K n h E a0 hf)
set_option maxHeartbeats 400000 in
set_option maxRecDepth 100000 in
theorem J_X11_beyond {G : jG} {l : Launch} {d : Nat} {X : jX} {res : Int32} (K : jOK G l mX11_beyond (d + 2) X) (n : Nat) (h : jH) (E : jEnd G mX11_beyond (jPR h res) X) (a0 : Nat) (hf : F_X11_beyond n a0 h = some res) : jJ G X h 0 0 0 [some (.ref a0)] [] := by
  unfold F_X11_beyond at hf
  refine jr_aload_n K (D_at DX11_beyond 0 rfl) rfl rfl ?_
  obtain ⟨p1, e1, hf⟩ := jbind hf
  refine jr_getR K (D_at DX11_beyond 1 rfl) fg_X11_19_9 e1 ?_
  obtain ⟨v4, e4, hf⟩ := jbind hf
  refine jr_callS K (C_X6_thickBeyondJoin (d) e4) (D_at DX11_beyond 2 rfl) cs_X11_326_X6_thickBeyondJoin (As := [.ref p1]) rfl rfl (by exact Nat.le_of_ble_eq_true rfl) (kc2 := 0) (ks2 := 0) rfl rfl (fun k9 h9 w9 => by cases w9.1) (fun r9 h9 w9 => ?_)
  obtain ⟨w1, w2⟩ := w9
  subst h9
  cases w1
  show jJ G X _ 0 0 _ _ (.int v4 :: _)
  cases hf
  exact jr_iret K E (D_at DX11_beyond 3 rfl) rfl ⟨rfl, rfl⟩
theorem C_X11_beyond {G : jG} {l : Launch} (d : Nat) {n : Nat} {a0 : Nat} {h : jH} {res : Int32} (hf : F_X11_beyond n a0 h = some res) : jC G l mX11_beyond (d + 2) 0 0 [.ref a0] h (jPR h res) :=
  jC.of (by decide +kernel) (jcats rfl) (Nat.le_of_ble_eq_true rfl) (fun X K E => J_X11_beyond K n h E a0 hf)
set_option maxHeartbeats 400000 in
set_option maxRecDepth 100000 in
theorem J_X11_odds {G : jG} {l : Launch} (hst : l.stackTraces = false) {d : Nat} {X : jX} {res : (jR × jH)} (K : jOK G l mX11_odds (d + 7) X) (n : Nat) (E : jEnd G mX11_odds (jPX res) X) (a0 : Nat) (x1 : Int32) (x2 : Int32) (h : jH) (hf : F_X11_odds n a0 x1 x2 h = some res) : jJ G X h 2 12 0 [some (.ref a0), some (.int x1), some (.int x2)] [] := by
  unfold F_X11_odds at hf
  refine jr_aload_n K (D_at DX11_odds 0 rfl) rfl rfl ?_
  refine jr_iload_n K (D_at DX11_odds 1 rfl) rfl rfl ?_
  obtain ⟨q2, e2, hf⟩ := jbind hf
  obtain ⟨rc_2, e2⟩ := jcv_o e2
  refine jr_callVx K (C_X11_requireRing hst (d) e2) (D_at DX11_odds 2 rfl) cv_X11_128_X11_requireRing (As := [.int x1])  (ci := 9) rfl rc_2 rfl rfl (by exact Nat.le_of_ble_eq_true rfl) (kc2 := 1) (ks2 := 6) rfl rfl (fun k9 z9 h9 w9 hz9 => ?_) (fun r9 h9 w9 => ?_)
  · obtain ⟨w1, rfl⟩ := w9
    have hf := (jthen_r w1.symm).symm.trans hf
    cases hf
    exact jr_out K E rfl hz9 ⟨rfl, rfl⟩
  obtain ⟨w1, rfl⟩ := w9
  obtain ⟨r2, w2⟩ : ∃ z, z = r9 := ⟨_, rfl⟩
  subst w2
  replace hf := (jthen_l w1.symm).symm.trans hf
  obtain ⟨h2, w3⟩ : ∃ z, z = q2.2 := ⟨_, rfl⟩
  rw [← w3] at hf ⊢
  show jJ G X h2 1 6 _ _ []
  refine jr_aload_n K (D_at DX11_odds 3 rfl) rfl rfl ?_
  refine jr_iload_n K (D_at DX11_odds 4 rfl) rfl rfl ?_
  refine jr_iconst K (D_at DX11_odds 5 rfl) (v := (0 : Int32)) (by decide) ?_
  refine jr_iconst K (D_at DX11_odds 6 rfl) (v := (4 : Int32)) (by decide) ?_
  obtain ⟨q9, e9, hf⟩ := jbind hf
  obtain ⟨rc_9, e9⟩ := jcv_o e9
  refine jr_callVx K (C_X11_requireNumber hst (d) e9) (D_at DX11_odds 7 rfl) cv_X11_180_X11_requireNumber (As := [.int x2, .int (0 : Int32), .int (4 : Int32)])  (ci := 9) rfl rc_9 rfl rfl (by exact Nat.le_of_ble_eq_true rfl) (kc2 := 0) (ks2 := 0) rfl rfl (fun k9 z9 h9 w9 hz9 => ?_) (fun r9 h9 w9 => ?_)
  · obtain ⟨w1, rfl⟩ := w9
    have hf := (jthen_r w1.symm).symm.trans hf
    cases hf
    exact jr_out K E rfl hz9 ⟨rfl, rfl⟩
  obtain ⟨w1, rfl⟩ := w9
  obtain ⟨r9, w2⟩ : ∃ z, z = r9 := ⟨_, rfl⟩
  subst w2
  replace hf := (jthen_l w1.symm).symm.trans hf
  obtain ⟨h9, w3⟩ : ∃ z, z = q9.2 := ⟨_, rfl⟩
  rw [← w3] at hf ⊢
  show jJ G X h9 0 0 _ _ []
  refine jr_aload_n K (D_at DX11_odds 8 rfl) rfl rfl ?_
  obtain ⟨p13, e13, hf⟩ := jbind hf
  refine jr_getR K (D_at DX11_odds 9 rfl) fg_X11_66_9 e13 ?_
  refine jr_aload_n K (D_at DX11_odds 10 rfl) rfl rfl ?_
  obtain ⟨p17, e17, hf⟩ := jbind hf
  refine jr_getR K (D_at DX11_odds 11 rfl) fg_X11_19_9 e17 ?_
  refine jr_iload_n K (D_at DX11_odds 12 rfl) rfl rfl ?_
  refine jr_iload_n K (D_at DX11_odds 13 rfl) rfl rfl ?_
  obtain ⟨q22, e22, hf⟩ := jbind hf
  obtain ⟨rc_22, e22⟩ := jcv_o e22
  refine jr_callV K (C_X1_oddsToStay (d + 2) e22) (D_at DX11_odds 14 rfl) cv_X11_329_X1_oddsToStay (As := [.ref p17, .int x1, .int x2]) (ci := 1) rfl rc_22 rfl rfl (by exact Nat.le_of_ble_eq_true rfl) (kc2 := 0) (ks2 := 0) rfl rfl (fun k9 h9 w9 => by cases w9.1) (fun r9 h9 w9 => ?_)
  obtain ⟨w1, w2⟩ := w9
  subst h9
  cases w1
  show jJ G X _ 0 0 _ _ (.int q22.1 :: _)
  cases hf
  exact jr_iret K E (D_at DX11_odds 15 rfl) rfl ⟨rfl, rfl⟩
theorem C_X11_odds {G : jG} {l : Launch} (hst : l.stackTraces = false) (d : Nat) {n : Nat} {a0 : Nat} {x1 : Int32} {x2 : Int32} {h : jH} {res : (jR × jH)} (hf : F_X11_odds n a0 x1 x2 h = some res) : jC G l mX11_odds (d + 7) 2 12 [.ref a0, .int x1, .int x2] h (jPX res) :=
  jC.of (by decide +kernel) (jcats rfl) (Nat.le_of_ble_eq_true rfl) (fun X K E => J_X11_odds hst K n E a0 x1 x2 h hf)
set_option maxHeartbeats 400000 in
set_option maxRecDepth 100000 in
theorem J_X11_twins {G : jG} {l : Launch} {d : Nat} {X : jX} {res : Int32} (K : jOK G l mX11_twins (d + 1) X) (n : Nat) (h : jH) (E : jEnd G mX11_twins (jPR h res) X) (a0 : Nat) (hf : F_X11_twins n a0 h = some res) : jJ G X h 0 0 0 [some (.ref a0)] [] := by
  unfold F_X11_twins at hf
  refine jr_aload_n K (D_at DX11_twins 0 rfl) rfl rfl ?_
  obtain ⟨p1, e1, hf⟩ := jbind hf
  refine jr_getR K (D_at DX11_twins 1 rfl) fg_X11_19_9 e1 ?_
  obtain ⟨v4, e4, hf⟩ := jbind hf
  refine jr_callS K (C_X6_likePairs (d) e4) (D_at DX11_twins 2 rfl) cs_X11_332_X6_likePairs (As := [.ref p1]) rfl rfl (by exact Nat.le_of_ble_eq_true rfl) (kc2 := 0) (ks2 := 0) rfl rfl (fun k9 h9 w9 => by cases w9.1) (fun r9 h9 w9 => ?_)
  obtain ⟨w1, w2⟩ := w9
  subst h9
  cases w1
  show jJ G X _ 0 0 _ _ (.int v4 :: _)
  cases hf
  exact jr_iret K E (D_at DX11_twins 3 rfl) rfl ⟨rfl, rfl⟩
theorem C_X11_twins {G : jG} {l : Launch} (d : Nat) {n : Nat} {a0 : Nat} {h : jH} {res : Int32} (hf : F_X11_twins n a0 h = some res) : jC G l mX11_twins (d + 1) 0 0 [.ref a0] h (jPR h res) :=
  jC.of (by decide +kernel) (jcats rfl) (Nat.le_of_ble_eq_true rfl) (fun X K E => J_X11_twins K n h E a0 hf)
set_option maxHeartbeats 400000 in
set_option maxRecDepth 100000 in
theorem J_X11_ahead {G : jG} {l : Launch} (hst : l.stackTraces = false) {d : Nat} {X : jX} {res : (jR × jH)} (K : jOK G l mX11_ahead (d + 7) X) (n : Nat) (E : jEnd G mX11_ahead (jPX res) X) (a0 : Nat) (x1 : Int32) (x2 : Int32) (h : jH) (hf : F_X11_ahead n a0 x1 x2 h = some res) : jJ G X h 2 12 0 [some (.ref a0), some (.int x1), some (.int x2)] [] := by
  unfold F_X11_ahead at hf
  refine jr_aload_n K (D_at DX11_ahead 0 rfl) rfl rfl ?_
  refine jr_iload_n K (D_at DX11_ahead 1 rfl) rfl rfl ?_
  obtain ⟨q2, e2, hf⟩ := jbind hf
  obtain ⟨rc_2, e2⟩ := jcv_o e2
  refine jr_callVx K (C_X11_requireRing hst (d) e2) (D_at DX11_ahead 2 rfl) cv_X11_128_X11_requireRing (As := [.int x1])  (ci := 9) rfl rc_2 rfl rfl (by exact Nat.le_of_ble_eq_true rfl) (kc2 := 1) (ks2 := 6) rfl rfl (fun k9 z9 h9 w9 hz9 => ?_) (fun r9 h9 w9 => ?_)
  · obtain ⟨w1, rfl⟩ := w9
    have hf := (jthen_r w1.symm).symm.trans hf
    cases hf
    exact jr_out K E rfl hz9 ⟨rfl, rfl⟩
  obtain ⟨w1, rfl⟩ := w9
  obtain ⟨r2, w2⟩ : ∃ z, z = r9 := ⟨_, rfl⟩
  subst w2
  replace hf := (jthen_l w1.symm).symm.trans hf
  obtain ⟨h2, w3⟩ : ∃ z, z = q2.2 := ⟨_, rfl⟩
  rw [← w3] at hf ⊢
  show jJ G X h2 1 6 _ _ []
  refine jr_aload_n K (D_at DX11_ahead 3 rfl) rfl rfl ?_
  refine jr_iload_n K (D_at DX11_ahead 4 rfl) rfl rfl ?_
  refine jr_iconst K (D_at DX11_ahead 5 rfl) (v := (0 : Int32)) (by decide) ?_
  refine jr_bipush K (D_at DX11_ahead 6 rfl) (v := (80 : Int32)) (by decide) ?_
  obtain ⟨q10, e10, hf⟩ := jbind hf
  obtain ⟨rc_10, e10⟩ := jcv_o e10
  refine jr_callVx K (C_X11_requireNumber hst (d) e10) (D_at DX11_ahead 7 rfl) cv_X11_180_X11_requireNumber (As := [.int x2, .int (0 : Int32), .int (80 : Int32)])  (ci := 9) rfl rc_10 rfl rfl (by exact Nat.le_of_ble_eq_true rfl) (kc2 := 0) (ks2 := 0) rfl rfl (fun k9 z9 h9 w9 hz9 => ?_) (fun r9 h9 w9 => ?_)
  · obtain ⟨w1, rfl⟩ := w9
    have hf := (jthen_r w1.symm).symm.trans hf
    cases hf
    exact jr_out K E rfl hz9 ⟨rfl, rfl⟩
  obtain ⟨w1, rfl⟩ := w9
  obtain ⟨r10, w2⟩ : ∃ z, z = r9 := ⟨_, rfl⟩
  subst w2
  replace hf := (jthen_l w1.symm).symm.trans hf
  obtain ⟨h10, w3⟩ : ∃ z, z = q10.2 := ⟨_, rfl⟩
  rw [← w3] at hf ⊢
  show jJ G X h10 0 0 _ _ []
  refine jr_aload_n K (D_at DX11_ahead 8 rfl) rfl rfl ?_
  obtain ⟨p14, e14, hf⟩ := jbind hf
  refine jr_getR K (D_at DX11_ahead 9 rfl) fg_X11_66_9 e14 ?_
  refine jr_aload_n K (D_at DX11_ahead 10 rfl) rfl rfl ?_
  obtain ⟨p18, e18, hf⟩ := jbind hf
  refine jr_getR K (D_at DX11_ahead 11 rfl) fg_X11_19_9 e18 ?_
  refine jr_iload_n K (D_at DX11_ahead 12 rfl) rfl rfl ?_
  obtain ⟨h22, e22, hf⟩ := jbind hf
  obtain ⟨rc_22, e22⟩ := jcv_o e22
  refine jr_callV K (C_X1_goAhead (d + 1) e22) (D_at DX11_ahead 13 rfl) cv_X11_301_X1_goAhead (As := [.ref p18, .int x2]) (ci := 1) rfl rc_22 rfl rfl (by exact Nat.le_of_ble_eq_true rfl) (kc2 := 0) (ks2 := 0) rfl rfl (fun k9 h9 w9 => by cases w9.1) (fun r9 h9 w9 => ?_)
  obtain ⟨w1, w2⟩ := w9
  subst h9
  cases w1
  show jJ G X _ 0 0 _ _ []
  refine jr_aload_n K (D_at DX11_ahead 14 rfl) rfl rfl ?_
  obtain ⟨p26, e26, hf⟩ := jbind hf
  refine jr_getR K (D_at DX11_ahead 15 rfl) fg_X11_37_9 e26 ?_
  obtain ⟨p29, e29, hf⟩ := jbind hf
  refine jr_getR K (D_at DX11_ahead 16 rfl) fg_X11_148_6 e29 ?_
  refine jr_iload_n K (D_at DX11_ahead 17 rfl) rfl rfl ?_
  obtain ⟨v33, e33, hf⟩ := jbind hf
  refine jr_iald K (D_at DX11_ahead 18 rfl) e33 ?_
  cases hf
  exact jr_iret K E (D_at DX11_ahead 19 rfl) rfl ⟨rfl, rfl⟩
theorem C_X11_ahead {G : jG} {l : Launch} (hst : l.stackTraces = false) (d : Nat) {n : Nat} {a0 : Nat} {x1 : Int32} {x2 : Int32} {h : jH} {res : (jR × jH)} (hf : F_X11_ahead n a0 x1 x2 h = some res) : jC G l mX11_ahead (d + 7) 2 12 [.ref a0, .int x1, .int x2] h (jPX res) :=
  jC.of (by decide +kernel) (jcats rfl) (Nat.le_of_ble_eq_true rfl) (fun X K E => J_X11_ahead hst K n E a0 x1 x2 h hf)
set_option maxHeartbeats 400000 in
set_option maxRecDepth 100000 in
theorem J_X11_trial {G : jG} {l : Launch} (hst : l.stackTraces = false) {d : Nat} {X : jX} {res : (jR × jH)} (K : jOK G l mX11_trial (d + 7) X) (n : Nat) (E : jEnd G mX11_trial (jPX res) X) (a0 : Nat) (x1 : Int32) (x2 : Int32) (h : jH) (hf : F_X11_trial n a0 x1 x2 h = some res) : jJ G X h 1 6 0 [some (.ref a0), some (.int x1), some (.int x2)] [] := by
  unfold F_X11_trial at hf
  refine jr_aload_n K (D_at DX11_trial 0 rfl) rfl rfl ?_
  refine jr_iload_n K (D_at DX11_trial 1 rfl) rfl rfl ?_
  refine jr_iconst K (D_at DX11_trial 2 rfl) (v := (0 : Int32)) (by decide) ?_
  refine jr_bipush K (D_at DX11_trial 3 rfl) (v := (80 : Int32)) (by decide) ?_
  obtain ⟨q5, e5, hf⟩ := jbind hf
  obtain ⟨rc_5, e5⟩ := jcv_o e5
  refine jr_callVx K (C_X11_requireNumber hst (d) e5) (D_at DX11_trial 4 rfl) cv_X11_180_X11_requireNumber (As := [.int x1, .int (0 : Int32), .int (80 : Int32)])  (ci := 9) rfl rc_5 rfl rfl (by exact Nat.le_of_ble_eq_true rfl) (kc2 := 0) (ks2 := 0) rfl rfl (fun k9 z9 h9 w9 hz9 => ?_) (fun r9 h9 w9 => ?_)
  · obtain ⟨w1, rfl⟩ := w9
    have hf := (jthen_r w1.symm).symm.trans hf
    cases hf
    exact jr_out K E rfl hz9 ⟨rfl, rfl⟩
  obtain ⟨w1, rfl⟩ := w9
  obtain ⟨r5, w2⟩ : ∃ z, z = r9 := ⟨_, rfl⟩
  subst w2
  replace hf := (jthen_l w1.symm).symm.trans hf
  obtain ⟨h5, w3⟩ : ∃ z, z = q5.2 := ⟨_, rfl⟩
  rw [← w3] at hf ⊢
  show jJ G X h5 0 0 _ _ []
  refine jr_aload_n K (D_at DX11_trial 5 rfl) rfl rfl ?_
  obtain ⟨p9, e9, hf⟩ := jbind hf
  refine jr_getR K (D_at DX11_trial 6 rfl) fg_X11_66_9 e9 ?_
  refine jr_aload_n K (D_at DX11_trial 7 rfl) rfl rfl ?_
  obtain ⟨p13, e13, hf⟩ := jbind hf
  refine jr_getR K (D_at DX11_trial 8 rfl) fg_X11_19_9 e13 ?_
  refine jr_iload_n K (D_at DX11_trial 9 rfl) rfl rfl ?_
  refine jr_aload_n K (D_at DX11_trial 10 rfl) rfl rfl ?_
  obtain ⟨p18, e18, hf⟩ := jbind hf
  refine jr_getR K (D_at DX11_trial 11 rfl) fg_X11_19_9 e18 ?_
  obtain ⟨v21, e21, hf⟩ := jbind hf
  refine jr_getI K (D_at DX11_trial 12 rfl) fg_X11_335_6 e21 ?_
  obtain ⟨h24, e24, hf⟩ := jbind hf
  obtain ⟨rc_24, e24⟩ := jcv_o e24
  refine jr_callV K (C_X1_tryHours (d) e24) (D_at DX11_trial 13 rfl) cv_X11_338_X1_tryHours (As := [.ref p13, .int x1, .int v21]) (ci := 1) rfl rc_24 rfl rfl (by exact Nat.le_of_ble_eq_true rfl) (kc2 := 0) (ks2 := 0) rfl rfl (fun k9 h9 w9 => by cases w9.1) (fun r9 h9 w9 => ?_)
  obtain ⟨w1, w2⟩ := w9
  subst h9
  cases w1
  show jJ G X _ 0 0 _ _ []
  refine jr_iload_n K (D_at DX11_trial 14 rfl) rfl rfl ?_
  refine jr_if_eq K (D_at DX11_trial 15 rfl) (tgt := 41) (by decide) (fun c28 => ?_) (fun c28 => ?_)
  · replace hf := (if_pos c28).symm.trans hf
    refine jr_aload_n K (D_at DX11_trial 20 rfl) rfl rfl ?_
    obtain ⟨p42, e42, hf⟩ := jbind hf
    refine jr_getR K (D_at DX11_trial 21 rfl) fg_X11_37_9 e42 ?_
    obtain ⟨v45, e45, hf⟩ := jbind hf
    refine jr_getI K (D_at DX11_trial 22 rfl) fg_X11_156_6 e45 ?_
    cases hf
    exact jr_iret K E (D_at DX11_trial 23 rfl) rfl ⟨rfl, rfl⟩
  · replace hf := (if_neg c28).symm.trans hf
    refine jr_aload_n K (D_at DX11_trial 16 rfl) rfl rfl ?_
    obtain ⟨p32, e32, hf⟩ := jbind hf
    refine jr_getR K (D_at DX11_trial 17 rfl) fg_X11_37_9 e32 ?_
    obtain ⟨v35, e35, hf⟩ := jbind hf
    obtain ⟨rc_35, e35⟩ := jcv_o e35
    refine jr_callV K (C_X8_unhooked (d + 6) e35) (D_at DX11_trial 18 rfl) cv_X11_323_X8_unhooked (As := []) (ci := 6) rfl rc_35 rfl rfl (by exact Nat.le_of_ble_eq_true rfl) (kc2 := 0) (ks2 := 0) rfl rfl (fun k9 h9 w9 => by cases w9.1) (fun r9 h9 w9 => ?_)
    obtain ⟨w1, w2⟩ := w9
    subst h9
    cases w1
    show jJ G X _ 0 0 _ _ (.int v35 :: _)
    refine jr_goto K (D_at DX11_trial 19 rfl) (tgt := 48) (by decide) ?_
    cases hf
    exact jr_iret K E (D_at DX11_trial 23 rfl) rfl ⟨rfl, rfl⟩
theorem C_X11_trial {G : jG} {l : Launch} (hst : l.stackTraces = false) (d : Nat) {n : Nat} {a0 : Nat} {x1 : Int32} {x2 : Int32} {h : jH} {res : (jR × jH)} (hf : F_X11_trial n a0 x1 x2 h = some res) : jC G l mX11_trial (d + 7) 1 6 [.ref a0, .int x1, .int x2] h (jPX res) :=
  jC.of (by decide +kernel) (jcats rfl) (Nat.le_of_ble_eq_true rfl) (fun X K E => J_X11_trial hst K n E a0 x1 x2 h hf)
set_option maxHeartbeats 400000 in
set_option maxRecDepth 100000 in
theorem J_X11_span_13_b {G : jG} {l : Launch} (hst : l.stackTraces = false) {d : Nat} {X : jX} {res : (jR × jH)} (K : jOK G l mX11_span (d + 7) X) (n : Nat) (rc13 : Nat → Int32 → Int32 → Int32 → Int32 → jH → Option (jR × jH)) (hr13 : ∀ (a0 : Nat) (x1 : Int32) (x2 : Int32) (x3 : Int32) (x4 : Int32) (h : jH), rc13 a0 x1 x2 x3 x4 h = some res → jJ G X h 0 0 13 [some (.ref a0), some (.int x1), some (.int x2), some (.int x3), some (.int x4), none] []) (E : jEnd G mX11_span (jPX res) X) (a0 : Nat) (x1 : Int32) (x2 : Int32) (x3 : Int32) (x4 : Int32) (h : jH) (hf : F_X11_span_13_b n rc13 a0 x1 x2 x3 x4 h = some res) : jJ G X h 0 0 13 [some (.ref a0), some (.int x1), some (.int x2), some (.int x3), some (.int x4), none] [] := by
  unfold F_X11_span_13_b at hf
  refine jr_iload K (D_at DX11_span 9 rfl) rfl ?_
  refine jr_bipush K (D_at DX11_span 10 rfl) (v := (6 : Int32)) (by decide) ?_
  refine jr_icmp_gt K (D_at DX11_span 11 rfl) (tgt := 90) (by decide) (fun c17 => ?_) (fun c17 => ?_)
  · replace hf := (if_pos c17).symm.trans hf
    refine jr_iload_n K (D_at DX11_span 45 rfl) rfl rfl ?_
    cases hf
    exact jr_iret K E (D_at DX11_span 46 rfl) rfl ⟨rfl, rfl⟩
  · replace hf := (if_neg c17).symm.trans hf
    refine jr_aload_n K (D_at DX11_span 12 rfl) rfl rfl ?_
    obtain ⟨p21, e21, hf⟩ := jbind hf
    refine jr_getR K (D_at DX11_span 13 rfl) fg_X11_66_9 e21 ?_
    refine jr_aload_n K (D_at DX11_span 14 rfl) rfl rfl ?_
    obtain ⟨p25, e25, hf⟩ := jbind hf
    refine jr_getR K (D_at DX11_span 15 rfl) fg_X11_19_9 e25 ?_
    refine jr_iload_n K (D_at DX11_span 16 rfl) rfl rfl ?_
    refine jr_iload K (D_at DX11_span 17 rfl) rfl ?_
    obtain ⟨h31, e31, hf⟩ := jbind hf
    obtain ⟨rc_31, e31⟩ := jcv_o e31
    refine jr_callV K (C_X1_tryHours (d) e31) (D_at DX11_span 18 rfl) cv_X11_338_X1_tryHours (As := [.ref p25, .int x1, .int x4]) (ci := 1) rfl rc_31 rfl rfl (by exact Nat.le_of_ble_eq_true rfl) (kc2 := 0) (ks2 := 0) rfl rfl (fun k9 h9 w9 => by cases w9.1) (fun r9 h9 w9 => ?_)
    obtain ⟨w1, w2⟩ := w9
    subst h9
    cases w1
    show jJ G X _ 0 0 _ _ []
    refine jr_aload_n K (D_at DX11_span 19 rfl) rfl rfl ?_
    obtain ⟨p35, e35, hf⟩ := jbind hf
    refine jr_getR K (D_at DX11_span 20 rfl) fg_X11_37_9 e35 ?_
    obtain ⟨v38, e38, hf⟩ := jbind hf
    refine jr_getI K (D_at DX11_span 21 rfl) fg_X11_156_6 e38 ?_
    obtain ⟨v41, e41, hf⟩ := jbind hf
    refine jr_callS K (C_J6_bitCount_0f7a4 (d + 6) e41) (D_at DX11_span 22 rfl) cs_X11_342_J6_bitCount_0f7a4 (As := [.int v38]) rfl rfl (by exact Nat.le_of_ble_eq_true rfl) (kc2 := 0) (ks2 := 0) rfl rfl (fun k9 h9 w9 => by cases w9.1) (fun r9 h9 w9 => ?_)
    obtain ⟨w1, w2⟩ := w9
    subst h9
    cases w1
    show jJ G X _ 0 0 _ _ (.int v41 :: _)
    refine jr_aload_n K (D_at DX11_span 23 rfl) rfl rfl ?_
    obtain ⟨p45, e45, hf⟩ := jbind hf
    refine jr_getR K (D_at DX11_span 24 rfl) fg_X11_37_9 e45 ?_
    obtain ⟨v48, e48, hf⟩ := jbind hf
    obtain ⟨rc_48, e48⟩ := jcv_o e48
    refine jr_callV K (C_X8_unhooked (d + 6) e48) (D_at DX11_span 25 rfl) cv_X11_323_X8_unhooked (As := []) (ci := 6) rfl rc_48 rfl rfl (by exact Nat.le_of_ble_eq_true rfl) (kc2 := 0) (ks2 := 0) rfl rfl (fun k9 h9 w9 => by cases w9.1) (fun r9 h9 w9 => ?_)
    obtain ⟨w1, w2⟩ := w9
    subst h9
    cases w1
    show jJ G X _ 0 0 _ _ (.int v48 :: _)
    obtain ⟨v51, e51, hf⟩ := jbind hf
    refine jr_callS K (C_J6_bitCount_0f7a4 (d + 6) e51) (D_at DX11_span 26 rfl) cs_X11_342_J6_bitCount_0f7a4 (As := [.int v48]) rfl rfl (by exact Nat.le_of_ble_eq_true rfl) (kc2 := 0) (ks2 := 0) rfl rfl (fun k9 h9 w9 => by cases w9.1) (fun r9 h9 w9 => ?_)
    obtain ⟨w1, w2⟩ := w9
    subst h9
    cases w1
    show jJ G X _ 0 0 _ _ (.int v51 :: _)
    refine jr_iadd K (D_at DX11_span 27 rfl) ?_
    refine jr_istore K (D_at DX11_span 28 rfl) (i := 5) (by decide) (L2 := [_, _, _, _, _, _]) rfl ?_
    refine jr_iload_n K (D_at DX11_span 29 rfl) rfl rfl ?_
    refine jr_iconst K (D_at DX11_span 30 rfl) (v := (-1 : Int32)) (by decide) ?_
    refine jr_icmp_eq K (D_at DX11_span 31 rfl) (tgt := 81) (by decide) (fun c59 => ?_) (fun c59 => ?_)
    · replace hf := (if_pos c59).symm.trans hf
      refine jr_iload K (D_at DX11_span 41 rfl) rfl ?_
      refine jr_istore_n K (D_at DX11_span 42 rfl) (i := 3) rfl (by decide) (L2 := [_, _, _, _, _, _]) rfl ?_
      refine jr_iinc K (D_at DX11_span 43 rfl) (i := 4) rfl (v := x4 + (1 : Int32)) (jinc (by decide)) (by decide) (L2 := [_, _, _, _, _, _]) rfl ?_
      refine jr_goto K (D_at DX11_span 44 rfl) (tgt := 13) (by decide) ?_
      refine jr_keep [true, true, true, true, true, false] ?_
      exact hr13 a0 x1 x2 (v41 + v51) (x4 + (1 : Int32)) h31 hf
    · replace hf := (if_neg c59).symm.trans hf
      refine jr_iload_n K (D_at DX11_span 32 rfl) rfl rfl ?_
      refine jr_if_eq K (D_at DX11_span 33 rfl) (tgt := 75) (by decide) (fun c63 => ?_) (fun c63 => ?_)
      · replace hf := (if_pos c63).symm.trans hf
        refine jr_iload K (D_at DX11_span 38 rfl) rfl ?_
        refine jr_iload_n K (D_at DX11_span 39 rfl) rfl rfl ?_
        refine jr_icmp_ge K (D_at DX11_span 40 rfl) (tgt := 84) (by decide) (fun c78 => ?_) (fun c78 => ?_)
        · replace hf := (if_pos c78).symm.trans hf
          refine jr_iinc K (D_at DX11_span 43 rfl) (i := 4) rfl (v := x4 + (1 : Int32)) (jinc (by decide)) (by decide) (L2 := [_, _, _, _, _, _]) rfl ?_
          refine jr_goto K (D_at DX11_span 44 rfl) (tgt := 13) (by decide) ?_
          refine jr_keep [true, true, true, true, true, false] ?_
          exact hr13 a0 x1 x2 x3 (x4 + (1 : Int32)) h31 hf
        · replace hf := (if_neg c78).symm.trans hf
          refine jr_iload K (D_at DX11_span 41 rfl) rfl ?_
          refine jr_istore_n K (D_at DX11_span 42 rfl) (i := 3) rfl (by decide) (L2 := [_, _, _, _, _, _]) rfl ?_
          refine jr_iinc K (D_at DX11_span 43 rfl) (i := 4) rfl (v := x4 + (1 : Int32)) (jinc (by decide)) (by decide) (L2 := [_, _, _, _, _, _]) rfl ?_
          refine jr_goto K (D_at DX11_span 44 rfl) (tgt := 13) (by decide) ?_
          refine jr_keep [true, true, true, true, true, false] ?_
          exact hr13 a0 x1 x2 (v41 + v51) (x4 + (1 : Int32)) h31 hf
      · replace hf := (if_neg c63).symm.trans hf
        refine jr_iload K (D_at DX11_span 34 rfl) rfl ?_
        refine jr_iload_n K (D_at DX11_span 35 rfl) rfl rfl ?_
        refine jr_icmp_le K (D_at DX11_span 36 rfl) (tgt := 84) (by decide) (fun c69 => ?_) (fun c69 => ?_)
        · replace hf := (if_pos c69).symm.trans hf
          refine jr_iinc K (D_at DX11_span 43 rfl) (i := 4) rfl (v := x4 + (1 : Int32)) (jinc (by decide)) (by decide) (L2 := [_, _, _, _, _, _]) rfl ?_
          refine jr_goto K (D_at DX11_span 44 rfl) (tgt := 13) (by decide) ?_
          refine jr_keep [true, true, true, true, true, false] ?_
          exact hr13 a0 x1 x2 x3 (x4 + (1 : Int32)) h31 hf
        · replace hf := (if_neg c69).symm.trans hf
          refine jr_goto K (D_at DX11_span 37 rfl) (tgt := 81) (by decide) ?_
          refine jr_iload K (D_at DX11_span 41 rfl) rfl ?_
          refine jr_istore_n K (D_at DX11_span 42 rfl) (i := 3) rfl (by decide) (L2 := [_, _, _, _, _, _]) rfl ?_
          refine jr_iinc K (D_at DX11_span 43 rfl) (i := 4) rfl (v := x4 + (1 : Int32)) (jinc (by decide)) (by decide) (L2 := [_, _, _, _, _, _]) rfl ?_
          refine jr_goto K (D_at DX11_span 44 rfl) (tgt := 13) (by decide) ?_
          refine jr_keep [true, true, true, true, true, false] ?_
          exact hr13 a0 x1 x2 (v41 + v51) (x4 + (1 : Int32)) h31 hf
theorem J_X11_span_13 {G : jG} {l : Launch} (hst : l.stackTraces = false) {d : Nat} {X : jX} {res : (jR × jH)} (K : jOK G l mX11_span (d + 7) X) (n : Nat) (E : jEnd G mX11_span (jPX res) X) (k : Nat) : ∀ (a0 : Nat) (x1 : Int32) (x2 : Int32) (x3 : Int32) (x4 : Int32) (h : jH), F_X11_span_13 n k a0 x1 x2 x3 x4 h = some res → jJ G X h 0 0 13 [some (.ref a0), some (.int x1), some (.int x2), some (.int x3), some (.int x4), none] [] := by
  induction k with
  | zero =>
    intro a0 x1 x2 x3 x4 h hf
    exact jno (show (none : Option (jR × jH)) = some res from hf)
  | succ k ih =>
    intro a0 x1 x2 x3 x4 h hf
    exact J_X11_span_13_b hst K n (F_X11_span_13 n k) ih E a0 x1 x2 x3 x4 h hf
set_option maxHeartbeats 400000 in
set_option maxRecDepth 100000 in
theorem J_X11_span {G : jG} {l : Launch} (hst : l.stackTraces = false) {d : Nat} {X : jX} {res : (jR × jH)} (K : jOK G l mX11_span (d + 7) X) (n : Nat) (E : jEnd G mX11_span (jPX res) X) (a0 : Nat) (x1 : Int32) (x2 : Int32) (h : jH) (hf : F_X11_span n a0 x1 x2 h = some res) : jJ G X h 1 6 0 [some (.ref a0), some (.int x1), some (.int x2), none, none, none] [] := by
  unfold F_X11_span at hf
  refine jr_aload_n K (D_at DX11_span 0 rfl) rfl rfl ?_
  refine jr_iload_n K (D_at DX11_span 1 rfl) rfl rfl ?_
  refine jr_iconst K (D_at DX11_span 2 rfl) (v := (0 : Int32)) (by decide) ?_
  refine jr_bipush K (D_at DX11_span 3 rfl) (v := (80 : Int32)) (by decide) ?_
  obtain ⟨q5, e5, hf⟩ := jbind hf
  obtain ⟨rc_5, e5⟩ := jcv_o e5
  refine jr_callVx K (C_X11_requireNumber hst (d) e5) (D_at DX11_span 4 rfl) cv_X11_180_X11_requireNumber (As := [.int x1, .int (0 : Int32), .int (80 : Int32)])  (ci := 9) rfl rc_5 rfl rfl (by exact Nat.le_of_ble_eq_true rfl) (kc2 := 0) (ks2 := 0) rfl rfl (fun k9 z9 h9 w9 hz9 => ?_) (fun r9 h9 w9 => ?_)
  · obtain ⟨w1, rfl⟩ := w9
    have hf := (jthen_r w1.symm).symm.trans hf
    cases hf
    exact jr_out K E rfl hz9 ⟨rfl, rfl⟩
  obtain ⟨w1, rfl⟩ := w9
  obtain ⟨r5, w2⟩ : ∃ z, z = r9 := ⟨_, rfl⟩
  subst w2
  replace hf := (jthen_l w1.symm).symm.trans hf
  obtain ⟨h5, w3⟩ : ∃ z, z = q5.2 := ⟨_, rfl⟩
  rw [← w3] at hf ⊢
  show jJ G X h5 0 0 _ _ []
  refine jr_iconst K (D_at DX11_span 5 rfl) (v := (-1 : Int32)) (by decide) ?_
  refine jr_istore_n K (D_at DX11_span 6 rfl) (i := 3) rfl (by decide) (L2 := [_, _, _, _, _, _]) rfl ?_
  refine jr_iconst K (D_at DX11_span 7 rfl) (v := (1 : Int32)) (by decide) ?_
  refine jr_istore K (D_at DX11_span 8 rfl) (i := 4) (by decide) (L2 := [_, _, _, _, _, _]) rfl ?_
  refine jr_keep [true, true, true, true, true, false] ?_
  exact J_X11_span_13 hst K n E n a0 x1 x2 (-1 : Int32) (1 : Int32) h5 hf
theorem C_X11_span {G : jG} {l : Launch} (hst : l.stackTraces = false) (d : Nat) {n : Nat} {a0 : Nat} {x1 : Int32} {x2 : Int32} {h : jH} {res : (jR × jH)} (hf : F_X11_span n a0 x1 x2 h = some res) : jC G l mX11_span (d + 7) 1 6 [.ref a0, .int x1, .int x2] h (jPX res) :=
  jC.of (by decide +kernel) (jcats rfl) (Nat.le_of_ble_eq_true rfl) (fun X K E => J_X11_span hst K n E a0 x1 x2 h hf)
set_option maxHeartbeats 400000 in
set_option maxRecDepth 100000 in
theorem J_X11_led {G : jG} {l : Launch} (hst : l.stackTraces = false) {d : Nat} {X : jX} {res : (jR × jH)} (K : jOK G l mX11_led (d + 7) X) (n : Nat) (E : jEnd G mX11_led (jPX res) X) (a0 : Nat) (x1 : Int32) (x2 : Int32) (h : jH) (hf : F_X11_led n a0 x1 x2 h = some res) : jJ G X h 1 6 0 [some (.ref a0), some (.int x1), some (.int x2)] [] := by
  unfold F_X11_led at hf
  refine jr_aload_n K (D_at DX11_led 0 rfl) rfl rfl ?_
  refine jr_iload_n K (D_at DX11_led 1 rfl) rfl rfl ?_
  obtain ⟨q2, e2, hf⟩ := jbind hf
  obtain ⟨rc_2, e2⟩ := jcv_o e2
  refine jr_callVx K (C_X11_requireRing hst (d) e2) (D_at DX11_led 2 rfl) cv_X11_128_X11_requireRing (As := [.int x1])  (ci := 9) rfl rc_2 rfl rfl (by exact Nat.le_of_ble_eq_true rfl) (kc2 := 0) (ks2 := 0) rfl rfl (fun k9 z9 h9 w9 hz9 => ?_) (fun r9 h9 w9 => ?_)
  · obtain ⟨w1, rfl⟩ := w9
    have hf := (jthen_r w1.symm).symm.trans hf
    cases hf
    exact jr_out K E rfl hz9 ⟨rfl, rfl⟩
  obtain ⟨w1, rfl⟩ := w9
  obtain ⟨r2, w2⟩ : ∃ z, z = r9 := ⟨_, rfl⟩
  subst w2
  replace hf := (jthen_l w1.symm).symm.trans hf
  obtain ⟨h2, w3⟩ : ∃ z, z = q2.2 := ⟨_, rfl⟩
  rw [← w3] at hf ⊢
  show jJ G X h2 0 0 _ _ []
  refine jr_iload_n K (D_at DX11_led 3 rfl) rfl rfl ?_
  refine jr_if_eq K (D_at DX11_led 4 rfl) (tgt := 23) (by decide) (fun c6 => ?_) (fun c6 => ?_)
  · replace hf := (if_pos c6).symm.trans hf
    refine jr_aload_n K (D_at DX11_led 11 rfl) rfl rfl ?_
    obtain ⟨p24, e24, hf⟩ := jbind hf
    refine jr_getR K (D_at DX11_led 12 rfl) fg_X11_19_9 e24 ?_
    obtain ⟨p27, e27, hf⟩ := jbind hf
    refine jr_getR K (D_at DX11_led 13 rfl) fg_X11_191_6 e27 ?_
    refine jr_iload_n K (D_at DX11_led 14 rfl) rfl rfl ?_
    obtain ⟨v31, e31, hf⟩ := jbind hf
    obtain ⟨rc_31, e31⟩ := jcv_o e31
    refine jr_callV K (C_X5_rowsOf (d + 4) e31) (D_at DX11_led 15 rfl) cv_X11_351_X5_rowsOf (As := [.int x1]) (ci := 4) rfl rc_31 rfl rfl (by exact Nat.le_of_ble_eq_true rfl) (kc2 := 0) (ks2 := 0) rfl rfl (fun k9 h9 w9 => by cases w9.1) (fun r9 h9 w9 => ?_)
    obtain ⟨w1, w2⟩ := w9
    subst h9
    cases w1
    show jJ G X _ 0 0 _ _ (.int v31 :: _)
    cases hf
    exact jr_iret K E (D_at DX11_led 16 rfl) rfl ⟨rfl, rfl⟩
  · replace hf := (if_neg c6).symm.trans hf
    refine jr_aload_n K (D_at DX11_led 5 rfl) rfl rfl ?_
    obtain ⟨p10, e10, hf⟩ := jbind hf
    refine jr_getR K (D_at DX11_led 6 rfl) fg_X11_19_9 e10 ?_
    obtain ⟨p13, e13, hf⟩ := jbind hf
    refine jr_getR K (D_at DX11_led 7 rfl) fg_X11_191_6 e13 ?_
    refine jr_iload_n K (D_at DX11_led 8 rfl) rfl rfl ?_
    obtain ⟨v17, e17, hf⟩ := jbind hf
    obtain ⟨rc_17, e17⟩ := jcv_o e17
    refine jr_callV K (C_X5_latestPlace (d + 4) e17) (D_at DX11_led 9 rfl) cv_X11_348_X5_latestPlace (As := [.int x1]) (ci := 4) rfl rc_17 rfl rfl (by exact Nat.le_of_ble_eq_true rfl) (kc2 := 0) (ks2 := 0) rfl rfl (fun k9 h9 w9 => by cases w9.1) (fun r9 h9 w9 => ?_)
    obtain ⟨w1, w2⟩ := w9
    subst h9
    cases w1
    show jJ G X _ 0 0 _ _ (.int v17 :: _)
    refine jr_goto K (D_at DX11_led 10 rfl) (tgt := 34) (by decide) ?_
    cases hf
    exact jr_iret K E (D_at DX11_led 16 rfl) rfl ⟨rfl, rfl⟩
theorem C_X11_led {G : jG} {l : Launch} (hst : l.stackTraces = false) (d : Nat) {n : Nat} {a0 : Nat} {x1 : Int32} {x2 : Int32} {h : jH} {res : (jR × jH)} (hf : F_X11_led n a0 x1 x2 h = some res) : jC G l mX11_led (d + 7) 1 6 [.ref a0, .int x1, .int x2] h (jPX res) :=
  jC.of (by decide +kernel) (jcats rfl) (Nat.le_of_ble_eq_true rfl) (fun X K E => J_X11_led hst K n E a0 x1 x2 h hf)
set_option maxHeartbeats 400000 in
set_option maxRecDepth 100000 in
theorem J_X11_log {G : jG} {l : Launch} (hst : l.stackTraces = false) {d : Nat} {X : jX} {res : (jR × jH)} (K : jOK G l mX11_log (d + 6) X) (n : Nat) (E : jEnd G mX11_log (jPX res) X) (a0 : Nat) (x1 : Int32) (x2 : Int32) (h : jH) (hf : F_X11_log n a0 x1 x2 h = some res) : jJ G X h 1 6 0 [some (.ref a0), some (.int x1), some (.int x2)] [] := by
  unfold F_X11_log at hf
  refine jr_iload_n K (D_at DX11_log 0 rfl) rfl rfl ?_
  refine jr_if_lt K (D_at DX11_log 1 rfl) (tgt := 10) (by decide) (fun c1 => ?_) (fun c1 => ?_)
  · replace hf := (if_pos c1).symm.trans hf
    cases hf
    exact jr_throwNW (dep := d + 0) hst K E (D_at DX11_log 5 rfl) (D_at DX11_log 6 rfl) (D_at DX11_log 7 rfl) (D_at DX11_log 8 rfl) (D_at DX11_log 9 rfl) th_X11_4 (i := 12) rfl rfl (k := 4) rfl (by exact Nat.le_of_ble_eq_true rfl) (by decide) (by decide) ⟨rfl, rfl⟩
  · replace hf := (if_neg c1).symm.trans hf
    refine jr_iload_n K (D_at DX11_log 2 rfl) rfl rfl ?_
    refine jr_bipush K (D_at DX11_log 3 rfl) (v := (6 : Int32)) (by decide) ?_
    refine jr_icmp_lt K (D_at DX11_log 4 rfl) (tgt := 21) (by decide) (fun c7 => ?_) (fun c7 => ?_)
    · replace hf := (if_pos c7).symm.trans hf
      refine jr_aload_n K (D_at DX11_log 10 rfl) rfl rfl ?_
      obtain ⟨p22, e22, hf⟩ := jbind hf
      refine jr_getR K (D_at DX11_log 11 rfl) fg_X11_19_9 e22 ?_
      obtain ⟨p25, e25, hf⟩ := jbind hf
      refine jr_getR K (D_at DX11_log 12 rfl) fg_X11_191_6 e25 ?_
      refine jr_iload_n K (D_at DX11_log 13 rfl) rfl rfl ?_
      refine jr_iload_n K (D_at DX11_log 14 rfl) rfl rfl ?_
      obtain ⟨v30, e30, hf⟩ := jbind hf
      obtain ⟨rc_30, e30⟩ := jcv_o e30
      refine jr_callV K (C_X5_read (d + 4) e30) (D_at DX11_log 15 rfl) cv_X11_356_X5_read (As := [.int x1, .int x2]) (ci := 4) rfl rc_30 rfl rfl (by exact Nat.le_of_ble_eq_true rfl) (kc2 := 1) (ks2 := 6) rfl rfl (fun k9 h9 w9 => by cases w9.1) (fun r9 h9 w9 => ?_)
      obtain ⟨w1, w2⟩ := w9
      subst h9
      cases w1
      show jJ G X _ 1 6 _ _ (.int v30 :: _)
      cases hf
      exact jr_iret K E (D_at DX11_log 16 rfl) rfl ⟨rfl, rfl⟩
    · replace hf := (if_neg c7).symm.trans hf
      cases hf
      exact jr_throwNW (dep := d + 0) hst K E (D_at DX11_log 5 rfl) (D_at DX11_log 6 rfl) (D_at DX11_log 7 rfl) (D_at DX11_log 8 rfl) (D_at DX11_log 9 rfl) th_X11_4 (i := 12) rfl rfl (k := 4) rfl (by exact Nat.le_of_ble_eq_true rfl) (by decide) (by decide) ⟨rfl, rfl⟩
theorem C_X11_log {G : jG} {l : Launch} (hst : l.stackTraces = false) (d : Nat) {n : Nat} {a0 : Nat} {x1 : Int32} {x2 : Int32} {h : jH} {res : (jR × jH)} (hf : F_X11_log n a0 x1 x2 h = some res) : jC G l mX11_log (d + 6) 1 6 [.ref a0, .int x1, .int x2] h (jPX res) :=
  jC.of (by decide +kernel) (jcats rfl) (Nat.le_of_ble_eq_true rfl) (fun X K E => J_X11_log hst K n E a0 x1 x2 h hf)
set_option maxHeartbeats 400000 in
set_option maxRecDepth 100000 in
theorem J_X11_seed {G : jG} {l : Launch} {d : Nat} {X : jX} {res : (Int32 × jH)} (K : jOK G l mX11_seed (d) X) (n : Nat) (E : jEnd G mX11_seed (jPW res) X) (a0 : Nat) (x1 : Int32) (h : jH) (hf : F_X11_seed n a0 x1 h = some res) : jJ G X h 0 0 0 [some (.ref a0), some (.int x1), none] [] := by
  unfold F_X11_seed at hf
  refine jr_aload_n K (D_at DX11_seed 0 rfl) rfl rfl ?_
  obtain ⟨p1, e1, hf⟩ := jbind hf
  refine jr_getR K (D_at DX11_seed 1 rfl) fg_X11_19_9 e1 ?_
  obtain ⟨v4, e4, hf⟩ := jbind hf
  refine jr_getI K (D_at DX11_seed 2 rfl) fg_X11_335_6 e4 ?_
  refine jr_istore_n K (D_at DX11_seed 3 rfl) (i := 2) rfl (by decide) (L2 := [_, _, _]) rfl ?_
  refine jr_aload_n K (D_at DX11_seed 4 rfl) rfl rfl ?_
  obtain ⟨p9, e9, hf⟩ := jbind hf
  refine jr_getR K (D_at DX11_seed 5 rfl) fg_X11_19_9 e9 ?_
  refine jr_iload_n K (D_at DX11_seed 6 rfl) rfl rfl ?_
  obtain ⟨h13, e13, hf⟩ := jbind hf
  refine jr_putI K (D_at DX11_seed 7 rfl) fp_X11_335_6 (Or.inl rfl) e13 ?_
  refine jr_iload_n K (D_at DX11_seed 8 rfl) rfl rfl ?_
  cases hf
  exact jr_iret K E (D_at DX11_seed 9 rfl) rfl ⟨rfl, rfl⟩
theorem C_X11_seed {G : jG} {l : Launch} (d : Nat) {n : Nat} {a0 : Nat} {x1 : Int32} {h : jH} {res : (Int32 × jH)} (hf : F_X11_seed n a0 x1 h = some res) : jC G l mX11_seed (d) 0 0 [.ref a0, .int x1] h (jPW res) :=
  jC.of (by decide +kernel) (jcats rfl) (Nat.le_of_ble_eq_true rfl) (fun X K E => J_X11_seed K n E a0 x1 h hf)
set_option maxHeartbeats 400000 in
set_option maxRecDepth 100000 in
theorem J_X11_undo {G : jG} {l : Launch} {d : Nat} {X : jX} {res : (Int32 × jH)} (K : jOK G l mX11_undo (d + 4) X) (n : Nat) (E : jEnd G mX11_undo (jPW res) X) (a0 : Nat) (h : jH) (hf : F_X11_undo n a0 h = some res) : jJ G X h 0 0 0 [some (.ref a0)] [] := by
  unfold F_X11_undo at hf
  refine jr_aload_n K (D_at DX11_undo 0 rfl) rfl rfl ?_
  obtain ⟨p1, e1, hf⟩ := jbind hf
  refine jr_getR K (D_at DX11_undo 1 rfl) fg_X11_33_9 e1 ?_
  refine jr_aload_n K (D_at DX11_undo 2 rfl) rfl rfl ?_
  obtain ⟨p5, e5, hf⟩ := jbind hf
  refine jr_getR K (D_at DX11_undo 3 rfl) fg_X11_19_9 e5 ?_
  obtain ⟨q8, e8, hf⟩ := jbind hf
  obtain ⟨rc_8, e8⟩ := jcv_o e8
  refine jr_callV K (C_X0_takeBack (d) e8) (D_at DX11_undo 4 rfl) cv_X11_358_X0_takeBack (As := [.ref p5]) (ci := 0) rfl rc_8 rfl rfl (by exact Nat.le_of_ble_eq_true rfl) (kc2 := 0) (ks2 := 0) rfl rfl (fun k9 h9 w9 => by cases w9.1) (fun r9 h9 w9 => ?_)
  obtain ⟨w1, w2⟩ := w9
  subst h9
  cases w1
  show jJ G X _ 0 0 _ _ (.int q8.1 :: _)
  by_cases z9 : q8.1 = 0 ∨ q8.1 = 1
  · replace hf := (if_pos z9).symm.trans hf
    cases hf
    exact jr_zret K E (D_at DX11_undo 5 rfl) rfl z9 ⟨rfl, rfl⟩
  · exact jno (show (none : Option (Int32 × jH)) = some res from (if_neg z9).symm.trans hf)
theorem C_X11_undo {G : jG} {l : Launch} (d : Nat) {n : Nat} {a0 : Nat} {h : jH} {res : (Int32 × jH)} (hf : F_X11_undo n a0 h = some res) : jC G l mX11_undo (d + 4) 0 0 [.ref a0] h (jPW res) :=
  jC.of (by decide +kernel) (jcats rfl) (Nat.le_of_ble_eq_true rfl) (fun X K E => J_X11_undo K n E a0 h hf)
set_option maxHeartbeats 400000 in
set_option maxRecDepth 100000 in
theorem J_X11_image_36 {G : jG} {l : Launch} {d : Nat} {X : jX} {res : jH} (K : jOK G l mX11_image (d + 3) X) (n : Nat) (E : jEnd G mX11_image (jPV res) X) (a0 : Nat) (h : jH) (hf : F_X11_image_36 n a0 h = some res) : jJ G X h 0 0 36 [some (.ref a0)] [] := by
  unfold F_X11_image_36 at hf
  refine jr_aload_n K (D_at DX11_image 16 rfl) rfl rfl ?_
  obtain ⟨o37, e37, hf⟩ := jbind hf
  refine jr_getQ K (D_at DX11_image 17 rfl) fg_X11_362_9 e37 ?_
  refine jr_aload_n K (D_at DX11_image 18 rfl) rfl rfl ?_
  obtain ⟨p41, e41, hf⟩ := jbind hf
  refine jr_getR K (D_at DX11_image 19 rfl) fg_X11_19_9 e41 ?_
  cases o37 with
  | none => exact jno (show (none : Option jH) = some res from hf)
  | some p44 =>
    dsimp only at hf
    obtain ⟨h44, e44, hf⟩ := jbind hf
    obtain ⟨rc_44, e44⟩ := jcv_o e44
    refine jr_callV K (C_X8_copyFrom (d) e44) (D_at DX11_image 20 rfl) cv_X11_92_X8_copyFrom (As := [.ref p41]) (ci := 6) rfl rc_44 rfl rfl (by exact Nat.le_of_ble_eq_true rfl) (kc2 := 0) (ks2 := 0) rfl rfl (fun k9 h9 w9 => by cases w9.1) (fun r9 h9 w9 => ?_)
    obtain ⟨w1, w2⟩ := w9
    subst h9
    cases w1
    show jJ G X _ 0 0 _ _ []
    refine jr_aload_n K (D_at DX11_image 21 rfl) rfl rfl ?_
    obtain ⟨o48, e48, hf⟩ := jbind hf
    refine jr_getQ K (D_at DX11_image 22 rfl) fg_X11_365_9 e48 ?_
    refine jr_aload_n K (D_at DX11_image 23 rfl) rfl rfl ?_
    obtain ⟨p52, e52, hf⟩ := jbind hf
    refine jr_getR K (D_at DX11_image 24 rfl) fg_X11_26_9 e52 ?_
    cases o48 with
    | none => exact jno (show (none : Option jH) = some res from hf)
    | some p55 =>
      dsimp only at hf
      obtain ⟨h55, e55, hf⟩ := jbind hf
      obtain ⟨rc_55, e55⟩ := jcv_o e55
      refine jr_callV K (C_X2_copyFrom (d + 1) e55) (D_at DX11_image 25 rfl) cv_X11_122_X2_copyFrom (As := [.ref p52]) (ci := 2) rfl rc_55 rfl rfl (by exact Nat.le_of_ble_eq_true rfl) (kc2 := 0) (ks2 := 0) rfl rfl (fun k9 h9 w9 => by cases w9.1) (fun r9 h9 w9 => ?_)
      obtain ⟨w1, w2⟩ := w9
      subst h9
      cases w1
      show jJ G X _ 0 0 _ _ []
      cases hf
      exact jr_vret K E (D_at DX11_image 26 rfl) rfl ⟨rfl, rfl⟩
set_option maxHeartbeats 400000 in
set_option maxRecDepth 100000 in
theorem J_X11_image_18 {G : jG} {l : Launch} {d : Nat} {X : jX} {res : jH} (K : jOK G l mX11_image (d + 3) X) (n : Nat) (E : jEnd G mX11_image (jPV res) X) (a0 : Nat) (h : jH) (hf : F_X11_image_18 n a0 h = some res) : jJ G X h 6 469 18 [some (.ref a0)] [] := by
  unfold F_X11_image_18 at hf
  refine jr_aload_n K (D_at DX11_image 8 rfl) rfl rfl ?_
  obtain ⟨o19, e19, hf⟩ := jbind hf
  refine jr_getQ K (D_at DX11_image 9 rfl) fg_X11_365_9 e19 ?_
  cases o19 with
  | none =>
    dsimp only at hf
    refine jr_ifnonnullN K (D_at DX11_image 10 rfl) ?_
    refine jr_aload_n K (D_at DX11_image 11 rfl) rfl rfl ?_
    obtain ⟨h26, e26, hf⟩ := jbind hf
    refine jr_newE (N := 9) K (D_at DX11_image 12 rfl) fn_X11_23 (kc := 5) (ks := 460) e26 ?_
    refine jr_dup K (D_at DX11_image 13 rfl) rfl ?_
    obtain ⟨h30, e30, hf⟩ := jbind hf
    refine jr_callIN K (C_X2_init (d + 1) e30) (D_at DX11_image 14 rfl) cin_X11_25_X2_init (As := []) rfl rfl (by exact Nat.le_of_ble_eq_true rfl) (kc2 := 0) (ks2 := 0) rfl rfl (fun k9 h9 w9 => by cases w9.1) (fun r9 h9 w9 => ?_)
    obtain ⟨w1, w2⟩ := w9
    subst h9
    cases w1
    obtain ⟨h33, e33, hf⟩ := jbind hf
    refine jr_putR K (D_at DX11_image 15 rfl) fp_X11_365_9 (Or.inl rfl) e33 ?_
    refine jr_keep [true] ?_
    exact J_X11_image_36 K n E a0 h33 hf
  | some p22 =>
    dsimp only at hf
    refine jr_ifnonnull K (D_at DX11_image 10 rfl) (tgt := 36) (by decide) ?_
    refine jr_credit (kc' := 0) (ks' := 0) (by decide) (by decide) ?_
    refine jr_keep [true] ?_
    exact J_X11_image_36 K n E a0 h hf
set_option maxHeartbeats 400000 in
set_option maxRecDepth 100000 in
theorem J_X11_image {G : jG} {l : Launch} {d : Nat} {X : jX} {res : jH} (K : jOK G l mX11_image (d + 3) X) (n : Nat) (E : jEnd G mX11_image (jPV res) X) (a0 : Nat) (h : jH) (hf : F_X11_image n a0 h = some res) : jJ G X h 13 582 0 [some (.ref a0)] [] := by
  unfold F_X11_image at hf
  refine jr_aload_n K (D_at DX11_image 0 rfl) rfl rfl ?_
  obtain ⟨o1, e1, hf⟩ := jbind hf
  refine jr_getQ K (D_at DX11_image 1 rfl) fg_X11_362_9 e1 ?_
  cases o1 with
  | none =>
    dsimp only at hf
    refine jr_ifnonnullN K (D_at DX11_image 2 rfl) ?_
    refine jr_aload_n K (D_at DX11_image 3 rfl) rfl rfl ?_
    obtain ⟨h8, e8, hf⟩ := jbind hf
    refine jr_newE (N := 18) K (D_at DX11_image 4 rfl) fn_X11_16 (kc := 12) (ks := 564) e8 ?_
    refine jr_dup K (D_at DX11_image 5 rfl) rfl ?_
    obtain ⟨h12, e12, hf⟩ := jbind hf
    refine jr_callIN K (C_X8_init (d) e12) (D_at DX11_image 6 rfl) cin_X11_18_X8_init (As := []) rfl rfl (by exact Nat.le_of_ble_eq_true rfl) (kc2 := 6) (ks2 := 469) rfl rfl (fun k9 h9 w9 => by cases w9.1) (fun r9 h9 w9 => ?_)
    obtain ⟨w1, w2⟩ := w9
    subst h9
    cases w1
    obtain ⟨h15, e15, hf⟩ := jbind hf
    refine jr_putR K (D_at DX11_image 7 rfl) fp_X11_362_9 (Or.inl rfl) e15 ?_
    refine jr_keep [true] ?_
    exact J_X11_image_18 K n E a0 h15 hf
  | some p4 =>
    dsimp only at hf
    refine jr_ifnonnull K (D_at DX11_image 2 rfl) (tgt := 18) (by decide) ?_
    refine jr_credit (kc' := 6) (ks' := 469) (by decide) (by decide) ?_
    refine jr_keep [true] ?_
    exact J_X11_image_18 K n E a0 h hf
theorem C_X11_image {G : jG} {l : Launch} (d : Nat) {n : Nat} {a0 : Nat} {h : jH} {res : jH} (hf : F_X11_image n a0 h = some res) : jC G l mX11_image (d + 3) 13 582 [.ref a0] h (jPV res) :=
  jC.of (by decide +kernel) (jcats rfl) (Nat.le_of_ble_eq_true rfl) (fun X K E => J_X11_image K n E a0 h hf)
set_option maxHeartbeats 400000 in
set_option maxRecDepth 100000 in
theorem J_X11_back {G : jG} {l : Launch} {d : Nat} {X : jX} {res : (Int32 × jH)} (K : jOK G l mX11_back (d + 3) X) (n : Nat) (E : jEnd G mX11_back (jPW res) X) (a0 : Nat) (h : jH) (hf : F_X11_back n a0 h = some res) : jJ G X h 0 0 0 [some (.ref a0)] [] := by
  unfold F_X11_back at hf
  refine jr_aload_n K (D_at DX11_back 0 rfl) rfl rfl ?_
  obtain ⟨o1, e1, hf⟩ := jbind hf
  refine jr_getQ K (D_at DX11_back 1 rfl) fg_X11_362_9 e1 ?_
  cases o1 with
  | none =>
    dsimp only at hf
    refine jr_ifnullN K (D_at DX11_back 2 rfl) (tgt := 14) (by decide) ?_
    refine jr_iconst K (D_at DX11_back 6 rfl) (v := (0 : Int32)) (by decide) ?_
    cases hf
    exact jr_zret K E (D_at DX11_back 7 rfl) rfl (Or.inl rfl) ⟨rfl, rfl⟩
  | some p4 =>
    dsimp only at hf
    refine jr_ifnull K (D_at DX11_back 2 rfl) ?_
    refine jr_aload_n K (D_at DX11_back 3 rfl) rfl rfl ?_
    obtain ⟨o8, e8, hf⟩ := jbind hf
    refine jr_getQ K (D_at DX11_back 4 rfl) fg_X11_365_9 e8 ?_
    cases o8 with
    | none =>
      dsimp only at hf
      refine jr_ifnonnullN K (D_at DX11_back 5 rfl) ?_
      refine jr_iconst K (D_at DX11_back 6 rfl) (v := (0 : Int32)) (by decide) ?_
      cases hf
      exact jr_zret K E (D_at DX11_back 7 rfl) rfl (Or.inl rfl) ⟨rfl, rfl⟩
    | some p11 =>
      dsimp only at hf
      refine jr_ifnonnull K (D_at DX11_back 5 rfl) (tgt := 16) (by decide) ?_
      refine jr_aload_n K (D_at DX11_back 8 rfl) rfl rfl ?_
      obtain ⟨p17, e17, hf⟩ := jbind hf
      refine jr_getR K (D_at DX11_back 9 rfl) fg_X11_19_9 e17 ?_
      refine jr_aload_n K (D_at DX11_back 10 rfl) rfl rfl ?_
      obtain ⟨o21, e21, hf⟩ := jbind hf
      refine jr_getQ K (D_at DX11_back 11 rfl) fg_X11_362_9 e21 ?_
      cases o21 with
      | none => exact jno (show (none : Option (Int32 × jH)) = some res from hf)
      | some p24_0 =>
        dsimp only at hf
        obtain ⟨h24, e24, hf⟩ := jbind hf
        obtain ⟨rc_24, e24⟩ := jcv_o e24
        refine jr_callV K (C_X8_copyFrom (d) e24) (D_at DX11_back 12 rfl) cv_X11_92_X8_copyFrom (As := [.ref p24_0]) (ci := 6) rfl rc_24 rfl rfl (by exact Nat.le_of_ble_eq_true rfl) (kc2 := 0) (ks2 := 0) rfl rfl (fun k9 h9 w9 => by cases w9.1) (fun r9 h9 w9 => ?_)
        obtain ⟨w1, w2⟩ := w9
        subst h9
        cases w1
        show jJ G X _ 0 0 _ _ []
        refine jr_aload_n K (D_at DX11_back 13 rfl) rfl rfl ?_
        obtain ⟨p28, e28, hf⟩ := jbind hf
        refine jr_getR K (D_at DX11_back 14 rfl) fg_X11_26_9 e28 ?_
        refine jr_aload_n K (D_at DX11_back 15 rfl) rfl rfl ?_
        obtain ⟨o32, e32, hf⟩ := jbind hf
        refine jr_getQ K (D_at DX11_back 16 rfl) fg_X11_365_9 e32 ?_
        cases o32 with
        | none => exact jno (show (none : Option (Int32 × jH)) = some res from hf)
        | some p35_0 =>
          dsimp only at hf
          obtain ⟨h35, e35, hf⟩ := jbind hf
          obtain ⟨rc_35, e35⟩ := jcv_o e35
          refine jr_callV K (C_X2_copyFrom (d + 1) e35) (D_at DX11_back 17 rfl) cv_X11_122_X2_copyFrom (As := [.ref p35_0]) (ci := 2) rfl rc_35 rfl rfl (by exact Nat.le_of_ble_eq_true rfl) (kc2 := 0) (ks2 := 0) rfl rfl (fun k9 h9 w9 => by cases w9.1) (fun r9 h9 w9 => ?_)
          obtain ⟨w1, w2⟩ := w9
          subst h9
          cases w1
          show jJ G X _ 0 0 _ _ []
          refine jr_aload_n K (D_at DX11_back 18 rfl) rfl rfl ?_
          obtain ⟨p39, e39, hf⟩ := jbind hf
          refine jr_getR K (D_at DX11_back 19 rfl) fg_X11_33_9 e39 ?_
          obtain ⟨h42, e42, hf⟩ := jbind hf
          obtain ⟨rc_42, e42⟩ := jcv_o e42
          refine jr_callV K (C_X0_forget (d + 2) e42) (D_at DX11_back 20 rfl) cv_X11_115_X0_forget (As := []) (ci := 0) rfl rc_42 rfl rfl (by exact Nat.le_of_ble_eq_true rfl) (kc2 := 0) (ks2 := 0) rfl rfl (fun k9 h9 w9 => by cases w9.1) (fun r9 h9 w9 => ?_)
          obtain ⟨w1, w2⟩ := w9
          subst h9
          cases w1
          show jJ G X _ 0 0 _ _ []
          refine jr_iconst K (D_at DX11_back 21 rfl) (v := (1 : Int32)) (by decide) ?_
          cases hf
          exact jr_zret K E (D_at DX11_back 22 rfl) rfl (Or.inr rfl) ⟨rfl, rfl⟩
theorem C_X11_back {G : jG} {l : Launch} (d : Nat) {n : Nat} {a0 : Nat} {h : jH} {res : (Int32 × jH)} (hf : F_X11_back n a0 h = some res) : jC G l mX11_back (d + 3) 0 0 [.ref a0] h (jPW res) :=
  jC.of (by decide +kernel) (jcats rfl) (Nat.le_of_ble_eq_true rfl) (fun X K E => J_X11_back K n E a0 h hf)
set_option maxHeartbeats 400000 in
set_option maxRecDepth 100000 in
theorem J_X11_count {G : jG} {l : Launch} {d : Nat} {X : jX} {res : Int32} (K : jOK G l mX11_count (d) X) (n : Nat) (h : jH) (E : jEnd G mX11_count (jPR h res) X) (a0 : Nat) (x1 : Int32) (hf : F_X11_count n a0 x1 h = some res) : jJ G X h 0 0 0 [some (.ref a0), some (.int x1)] [] := by
  unfold F_X11_count at hf
  refine jr_iload_n K (D_at DX11_count 0 rfl) rfl rfl ?_
  by_cases c1_0 : x1 = (0 : Int32)
  · replace hf := (if_pos c1_0).symm.trans hf
    refine jr_tableIn K (D_at DX11_count 1 rfl) (off := 59) (tgt := 60) (by rw [c1_0]; decide) (by rw [c1_0]; decide) (by rw [c1_0]; decide) (by decide) ?_
    refine jr_aload_n K (D_at DX11_count 2 rfl) rfl rfl ?_
    obtain ⟨p61, e61, hf⟩ := jbind hf
    refine jr_getR K (D_at DX11_count 3 rfl) fg_X11_19_9 e61 ?_
    obtain ⟨v64, e64, hf⟩ := jbind hf
    refine jr_getI K (D_at DX11_count 4 rfl) fg_X11_210_6 e64 ?_
    cases hf
    exact jr_iret K E (D_at DX11_count 5 rfl) rfl ⟨rfl, rfl⟩
  replace hf := (if_neg c1_0).symm.trans hf
  by_cases c1_1 : x1 = (1 : Int32)
  · replace hf := (if_pos c1_1).symm.trans hf
    refine jr_tableIn K (D_at DX11_count 1 rfl) (off := 67) (tgt := 68) (by rw [c1_1]; decide) (by rw [c1_1]; decide) (by rw [c1_1]; decide) (by decide) ?_
    refine jr_aload_n K (D_at DX11_count 6 rfl) rfl rfl ?_
    obtain ⟨p69, e69, hf⟩ := jbind hf
    refine jr_getR K (D_at DX11_count 7 rfl) fg_X11_19_9 e69 ?_
    obtain ⟨v72, e72, hf⟩ := jbind hf
    refine jr_getI K (D_at DX11_count 8 rfl) fg_X11_107_6 e72 ?_
    cases hf
    exact jr_iret K E (D_at DX11_count 9 rfl) rfl ⟨rfl, rfl⟩
  replace hf := (if_neg c1_1).symm.trans hf
  by_cases c1_2 : x1 = (2 : Int32)
  · replace hf := (if_pos c1_2).symm.trans hf
    refine jr_tableIn K (D_at DX11_count 1 rfl) (off := 75) (tgt := 76) (by rw [c1_2]; decide) (by rw [c1_2]; decide) (by rw [c1_2]; decide) (by decide) ?_
    refine jr_aload_n K (D_at DX11_count 10 rfl) rfl rfl ?_
    obtain ⟨p77, e77, hf⟩ := jbind hf
    refine jr_getR K (D_at DX11_count 11 rfl) fg_X11_26_9 e77 ?_
    obtain ⟨v80, e80, hf⟩ := jbind hf
    refine jr_getI K (D_at DX11_count 12 rfl) fg_X11_368_2 e80 ?_
    refine jr_if_eq K (D_at DX11_count 13 rfl) (tgt := 96) (by decide) (fun c83 => ?_) (fun c83 => ?_)
    · replace hf := (if_pos c83).symm.trans hf
      refine jr_iconst K (D_at DX11_count 18 rfl) (v := (-1 : Int32)) (by decide) ?_
      cases hf
      exact jr_iret K E (D_at DX11_count 19 rfl) rfl ⟨rfl, rfl⟩
    · replace hf := (if_neg c83).symm.trans hf
      refine jr_aload_n K (D_at DX11_count 14 rfl) rfl rfl ?_
      obtain ⟨p87, e87, hf⟩ := jbind hf
      refine jr_getR K (D_at DX11_count 15 rfl) fg_X11_26_9 e87 ?_
      obtain ⟨v90, e90, hf⟩ := jbind hf
      refine jr_getI K (D_at DX11_count 16 rfl) fg_X11_125_2 e90 ?_
      refine jr_goto K (D_at DX11_count 17 rfl) (tgt := 97) (by decide) ?_
      cases hf
      exact jr_iret K E (D_at DX11_count 19 rfl) rfl ⟨rfl, rfl⟩
  replace hf := (if_neg c1_2).symm.trans hf
  by_cases c1_3 : x1 = (3 : Int32)
  · replace hf := (if_pos c1_3).symm.trans hf
    refine jr_tableIn K (D_at DX11_count 1 rfl) (off := 97) (tgt := 98) (by rw [c1_3]; decide) (by rw [c1_3]; decide) (by rw [c1_3]; decide) (by decide) ?_
    refine jr_aload_n K (D_at DX11_count 20 rfl) rfl rfl ?_
    obtain ⟨p99, e99, hf⟩ := jbind hf
    refine jr_getR K (D_at DX11_count 21 rfl) fg_X11_19_9 e99 ?_
    obtain ⟨v102, e102, hf⟩ := jbind hf
    refine jr_getI K (D_at DX11_count 22 rfl) fg_X11_372_6 e102 ?_
    cases hf
    exact jr_iret K E (D_at DX11_count 23 rfl) rfl ⟨rfl, rfl⟩
  replace hf := (if_neg c1_3).symm.trans hf
  by_cases c1_4 : x1 = (4 : Int32)
  · replace hf := (if_pos c1_4).symm.trans hf
    refine jr_tableIn K (D_at DX11_count 1 rfl) (off := 105) (tgt := 106) (by rw [c1_4]; decide) (by rw [c1_4]; decide) (by rw [c1_4]; decide) (by decide) ?_
    refine jr_aload_n K (D_at DX11_count 24 rfl) rfl rfl ?_
    obtain ⟨p107, e107, hf⟩ := jbind hf
    refine jr_getR K (D_at DX11_count 25 rfl) fg_X11_19_9 e107 ?_
    obtain ⟨v110, e110, hf⟩ := jbind hf
    refine jr_getI K (D_at DX11_count 26 rfl) fg_X11_375_6 e110 ?_
    cases hf
    exact jr_iret K E (D_at DX11_count 27 rfl) rfl ⟨rfl, rfl⟩
  replace hf := (if_neg c1_4).symm.trans hf
  by_cases c1_5 : x1 = (5 : Int32)
  · replace hf := (if_pos c1_5).symm.trans hf
    refine jr_tableIn K (D_at DX11_count 1 rfl) (off := 113) (tgt := 114) (by rw [c1_5]; decide) (by rw [c1_5]; decide) (by rw [c1_5]; decide) (by decide) ?_
    refine jr_aload_n K (D_at DX11_count 28 rfl) rfl rfl ?_
    obtain ⟨p115, e115, hf⟩ := jbind hf
    refine jr_getR K (D_at DX11_count 29 rfl) fg_X11_19_9 e115 ?_
    obtain ⟨v118, e118, hf⟩ := jbind hf
    refine jr_getI K (D_at DX11_count 30 rfl) fg_X11_378_6 e118 ?_
    cases hf
    exact jr_iret K E (D_at DX11_count 31 rfl) rfl ⟨rfl, rfl⟩
  replace hf := (if_neg c1_5).symm.trans hf
  by_cases c1_6 : x1 = (6 : Int32)
  · replace hf := (if_pos c1_6).symm.trans hf
    refine jr_tableIn K (D_at DX11_count 1 rfl) (off := 121) (tgt := 122) (by rw [c1_6]; decide) (by rw [c1_6]; decide) (by rw [c1_6]; decide) (by decide) ?_
    refine jr_aload_n K (D_at DX11_count 32 rfl) rfl rfl ?_
    obtain ⟨p123, e123, hf⟩ := jbind hf
    refine jr_getR K (D_at DX11_count 33 rfl) fg_X11_19_9 e123 ?_
    obtain ⟨v126, e126, hf⟩ := jbind hf
    refine jr_getI K (D_at DX11_count 34 rfl) fg_X11_381_6 e126 ?_
    cases hf
    exact jr_iret K E (D_at DX11_count 35 rfl) rfl ⟨rfl, rfl⟩
  replace hf := (if_neg c1_6).symm.trans hf
  by_cases c1_7 : x1 = (7 : Int32)
  · replace hf := (if_pos c1_7).symm.trans hf
    refine jr_tableIn K (D_at DX11_count 1 rfl) (off := 129) (tgt := 130) (by rw [c1_7]; decide) (by rw [c1_7]; decide) (by rw [c1_7]; decide) (by decide) ?_
    refine jr_aload_n K (D_at DX11_count 36 rfl) rfl rfl ?_
    obtain ⟨p131, e131, hf⟩ := jbind hf
    refine jr_getR K (D_at DX11_count 37 rfl) fg_X11_19_9 e131 ?_
    obtain ⟨v134, e134, hf⟩ := jbind hf
    refine jr_getI K (D_at DX11_count 38 rfl) fg_X11_229_6 e134 ?_
    cases hf
    exact jr_iret K E (D_at DX11_count 39 rfl) rfl ⟨rfl, rfl⟩
  replace hf := (if_neg c1_7).symm.trans hf
  by_cases c1_8 : x1 = (8 : Int32)
  · replace hf := (if_pos c1_8).symm.trans hf
    refine jr_tableIn K (D_at DX11_count 1 rfl) (off := 137) (tgt := 138) (by rw [c1_8]; decide) (by rw [c1_8]; decide) (by rw [c1_8]; decide) (by decide) ?_
    refine jr_aload_n K (D_at DX11_count 40 rfl) rfl rfl ?_
    obtain ⟨p139, e139, hf⟩ := jbind hf
    refine jr_getR K (D_at DX11_count 41 rfl) fg_X11_19_9 e139 ?_
    obtain ⟨v142, e142, hf⟩ := jbind hf
    refine jr_getI K (D_at DX11_count 42 rfl) fg_X11_245_6 e142 ?_
    cases hf
    exact jr_iret K E (D_at DX11_count 43 rfl) rfl ⟨rfl, rfl⟩
  replace hf := (if_neg c1_8).symm.trans hf
  by_cases c1_9 : x1 = (9 : Int32)
  · replace hf := (if_pos c1_9).symm.trans hf
    refine jr_tableIn K (D_at DX11_count 1 rfl) (off := 145) (tgt := 146) (by rw [c1_9]; decide) (by rw [c1_9]; decide) (by rw [c1_9]; decide) (by decide) ?_
    refine jr_aload_n K (D_at DX11_count 44 rfl) rfl rfl ?_
    obtain ⟨p147, e147, hf⟩ := jbind hf
    refine jr_getR K (D_at DX11_count 45 rfl) fg_X11_19_9 e147 ?_
    obtain ⟨p150, e150, hf⟩ := jbind hf
    refine jr_getR K (D_at DX11_count 46 rfl) fg_X11_191_6 e150 ?_
    obtain ⟨v153, e153, hf⟩ := jbind hf
    refine jr_getI K (D_at DX11_count 47 rfl) fg_X11_384_4 e153 ?_
    cases hf
    exact jr_iret K E (D_at DX11_count 48 rfl) rfl ⟨rfl, rfl⟩
  replace hf := (if_neg c1_9).symm.trans hf
  by_cases c1_10 : x1 = (10 : Int32)
  · replace hf := (if_pos c1_10).symm.trans hf
    refine jr_tableIn K (D_at DX11_count 1 rfl) (off := 156) (tgt := 157) (by rw [c1_10]; decide) (by rw [c1_10]; decide) (by rw [c1_10]; decide) (by decide) ?_
    refine jr_aload_n K (D_at DX11_count 49 rfl) rfl rfl ?_
    obtain ⟨p158, e158, hf⟩ := jbind hf
    refine jr_getR K (D_at DX11_count 50 rfl) fg_X11_33_9 e158 ?_
    obtain ⟨v161, e161, hf⟩ := jbind hf
    refine jr_getI K (D_at DX11_count 51 rfl) fg_X11_387_0 e161 ?_
    cases hf
    exact jr_iret K E (D_at DX11_count 52 rfl) rfl ⟨rfl, rfl⟩
  replace hf := (if_neg c1_10).symm.trans hf
  have w1_0 := lv_neT c1_0 (a := 0) (by decide)
  have w1_1 := lv_neT c1_1 (a := 1) (by decide)
  have w1_2 := lv_neT c1_2 (a := 2) (by decide)
  have w1_3 := lv_neT c1_3 (a := 3) (by decide)
  have w1_4 := lv_neT c1_4 (a := 4) (by decide)
  have w1_5 := lv_neT c1_5 (a := 5) (by decide)
  have w1_6 := lv_neT c1_6 (a := 6) (by decide)
  have w1_7 := lv_neT c1_7 (a := 7) (by decide)
  have w1_8 := lv_neT c1_8 (a := 8) (by decide)
  have w1_9 := lv_neT c1_9 (a := 9) (by decide)
  have w1_10 := lv_neT c1_10 (a := 10) (by decide)
  refine jr_tableOut K (D_at DX11_count 1 rfl) (tgt := 165) (by omega) (by decide) ?_
  refine jr_iconst K (D_at DX11_count 53 rfl) (v := (-1 : Int32)) (by decide) ?_
  cases hf
  exact jr_iret K E (D_at DX11_count 54 rfl) rfl ⟨rfl, rfl⟩
theorem C_X11_count {G : jG} {l : Launch} (d : Nat) {n : Nat} {a0 : Nat} {x1 : Int32} {h : jH} {res : Int32} (hf : F_X11_count n a0 x1 h = some res) : jC G l mX11_count (d) 0 0 [.ref a0, .int x1] h (jPR h res) :=
  jC.of (by decide +kernel) (jcats rfl) (Nat.le_of_ble_eq_true rfl) (fun X K E => J_X11_count K n h E a0 x1 hf)
