section
set_option maxHeartbeats 400000 in
set_option maxRecDepth 100000 in
theorem J_X0_init {G : jG} {l : Launch} {d : Nat} {X : jX} {res : jH} (K : jOK G l mX0_init (d + 1) X) (n : Nat) (E : jEnd G mX0_init (jPV res) X) (a0 : Nat) (h : jH) (hf : F_X0_init n a0 h = some res) : jJ G X h 1 12 0 [some (.ref a0)] [] := by
  unfold F_X0_init at hf
  refine jr_aload_n K (D_at DX0_init_q0 0 rfl) rfl rfl ?_
  refine jr_objInit K (D_at DX0_init_q0 1 rfl) oi_X0_1 (by exact Nat.le_of_ble_eq_true rfl) ?_
  refine jr_aload_n K (D_at DX0_init_q0 2 rfl) rfl rfl ?_
  refine jr_bipush K (D_at DX0_init_q0 3 rfl) (v := (12 : Int32)) (by decide) ?_
  obtain ⟨h7, e7, hf⟩ := jbind hf
  refine jr_newQE (N := 12) K (D_at DX0_init_q0 4 rfl) cl_X0_9 (by decide) (by decide) (by decide) (kc := 0) (ks := 0) e7 ?_
  obtain ⟨h10, e10, hf⟩ := jbind hf
  refine jr_putA K (D_at DX0_init_q0 5 rfl) fp_X0_11_0 (Or.inr rfl) e10 ?_
  cases hf
  exact jr_vret K E (D_at DX0_init_q0 6 rfl) rfl ⟨rfl, rfl⟩
theorem C_X0_init {G : jG} {l : Launch} (d : Nat) {n : Nat} {a0 : Nat} {h : jH} {res : jH} (hf : F_X0_init n a0 h = some res) : jC G l mX0_init (d + 1) 1 12 [.ref a0] h (jPV res) :=
  jC.of pn_X0 (jcats rfl) (Nat.le_of_ble_eq_true rfl) (fun X K E => J_X0_init K n E a0 h hf)
set_option maxHeartbeats 400000 in
set_option maxRecDepth 100000 in
theorem J_X5_init {G : jG} {l : Launch} {d : Nat} {X : jX} {res : jH} (K : jOK G l mX5_init (d + 1) X) (n : Nat) (E : jEnd G mX5_init (jPV res) X) (a0 : Nat) (h : jH) (hf : F_X5_init n a0 h = some res) : jJ G X h 1 60 0 [some (.ref a0)] [] := by
  unfold F_X5_init at hf
  refine jr_aload_n K (D_at DX5_init_q0 0 rfl) rfl rfl ?_
  refine jr_objInit K (D_at DX5_init_q0 1 rfl) oi_X5_3 (by exact Nat.le_of_ble_eq_true rfl) ?_
  refine jr_aload_n K (D_at DX5_init_q0 2 rfl) rfl rfl ?_
  refine jr_bipush K (D_at DX5_init_q0 3 rfl) (v := (60 : Int32)) (by decide) ?_
  obtain ⟨h7, e7, hf⟩ := jbind hf
  refine jr_newIE (N := 60) K (D_at DX5_init_q0 4 rfl) ac_int (by decide) (by decide) (by decide) (kc := 0) (ks := 0) e7 ?_
  obtain ⟨h9, e9, hf⟩ := jbind hf
  refine jr_putA K (D_at DX5_init_q0 5 rfl) fp_X5_11_4 (Or.inr rfl) e9 ?_
  cases hf
  exact jr_vret K E (D_at DX5_init_q0 6 rfl) rfl ⟨rfl, rfl⟩
theorem C_X5_init {G : jG} {l : Launch} (d : Nat) {n : Nat} {a0 : Nat} {h : jH} {res : jH} (hf : F_X5_init n a0 h = some res) : jC G l mX5_init (d + 1) 1 60 [.ref a0] h (jPV res) :=
  jC.of pn_X5 (jcats rfl) (Nat.le_of_ble_eq_true rfl) (fun X K E => J_X5_init K n E a0 h hf)
set_option maxHeartbeats 400000 in
set_option maxRecDepth 100000 in
theorem J_X8_init {G : jG} {l : Launch} {d : Nat} {X : jX} {res : jH} (K : jOK G l mX8_init (d + 2) X) (n : Nat) (E : jEnd G mX8_init (jPV res) X) (a0 : Nat) (h : jH) (hf : F_X8_init n a0 h = some res) : jJ G X h 6 95 0 [some (.ref a0)] [] := by
  unfold F_X8_init at hf
  refine jr_aload_n K (D_at DX8_init_q0 0 rfl) rfl rfl ?_
  refine jr_objInit K (D_at DX8_init_q0 1 rfl) oi_X8_3 (by exact Nat.le_of_ble_eq_true rfl) ?_
  refine jr_aload_n K (D_at DX8_init_q0 2 rfl) rfl rfl ?_
  refine jr_bipush K (D_at DX8_init_q0 3 rfl) (v := (8 : Int32)) (by decide) ?_
  obtain ⟨h7, e7, hf⟩ := jbind hf
  refine jr_newIE (N := 8) K (D_at DX8_init_q0 4 rfl) ac_int (by decide) (by decide) (by decide) (kc := 5) (ks := 87) e7 ?_
  obtain ⟨h9, e9, hf⟩ := jbind hf
  refine jr_putA K (D_at DX8_init_q0 5 rfl) fp_X8_9_6 (Or.inr rfl) e9 ?_
  refine jr_aload_n K (D_at DX8_init_q0 6 rfl) rfl rfl ?_
  refine jr_bipush K (D_at DX8_init_q0 7 rfl) (v := (8 : Int32)) (by decide) ?_
  obtain ⟨h15, e15, hf⟩ := jbind hf
  refine jr_newIE (N := 8) K (D_at DX8_init_q0 8 rfl) ac_int (by decide) (by decide) (by decide) (kc := 4) (ks := 79) e15 ?_
  obtain ⟨h17, e17, hf⟩ := jbind hf
  refine jr_putA K (D_at DX8_init_q0 9 rfl) fp_X8_15_6 (Or.inr rfl) e17 ?_
  refine jr_aload_n K (D_at DX8_init_q0 10 rfl) rfl rfl ?_
  refine jr_bipush K (D_at DX8_init_q0 11 rfl) (v := (8 : Int32)) (by decide) ?_
  obtain ⟨h23, e23, hf⟩ := jbind hf
  refine jr_newIE (N := 8) K (D_at DX8_init_q1 0 rfl) ac_int (by decide) (by decide) (by decide) (kc := 3) (ks := 71) e23 ?_
  obtain ⟨h25, e25, hf⟩ := jbind hf
  refine jr_putA K (D_at DX8_init_q1 1 rfl) fp_X8_18_6 (Or.inr rfl) e25 ?_
  refine jr_aload_n K (D_at DX8_init_q1 2 rfl) rfl rfl ?_
  refine jr_bipush K (D_at DX8_init_q1 3 rfl) (v := (8 : Int32)) (by decide) ?_
  obtain ⟨h31, e31, hf⟩ := jbind hf
  refine jr_newIE (N := 8) K (D_at DX8_init_q1 4 rfl) ac_int (by decide) (by decide) (by decide) (kc := 2) (ks := 63) e31 ?_
  obtain ⟨h33, e33, hf⟩ := jbind hf
  refine jr_putA K (D_at DX8_init_q1 5 rfl) fp_X8_21_6 (Or.inr rfl) e33 ?_
  refine jr_aload_n K (D_at DX8_init_q1 6 rfl) rfl rfl ?_
  obtain ⟨h37, e37, hf⟩ := jbind hf
  refine jr_newE (N := 3) K (D_at DX8_init_q1 7 rfl) fn_X8_24 (kc := 1) (ks := 60) e37 ?_
  refine jr_dup K (D_at DX8_init_q1 8 rfl) rfl ?_
  obtain ⟨h41, e41, hf⟩ := jbind hf
  refine jr_callIN K (C_X5_init (d) e41) (D_at DX8_init_q1 9 rfl) cin_X8_26_X5_init (As := []) rfl rfl (by exact Nat.le_of_ble_eq_true rfl) (kc2 := 0) (ks2 := 0) rfl rfl (fun k9 h9 w9 => by cases w9.1) (fun r9 h9 w9 => ?_)
  obtain ⟨w1, w2⟩ := w9
  subst h9
  cases w1
  obtain ⟨h44, e44, hf⟩ := jbind hf
  refine jr_putR K (D_at DX8_init_q1 10 rfl) fp_X8_27_6 (Or.inr rfl) e44 ?_
  refine jr_aload_n K (D_at DX8_init_q1 11 rfl) rfl rfl ?_
  refine jr_bipush K (D_at DX8_init_q2 0 rfl) (v := (16 : Int32)) (by decide) ?_
  obtain ⟨h50, e50, hf⟩ := jbind hf
  refine jr_putI K (D_at DX8_init_q2 1 rfl) fp_X8_31_6 (Or.inl rfl) e50 ?_
  refine jr_aload_n K (D_at DX8_init_q2 2 rfl) rfl rfl ?_
  refine jr_bipush K (D_at DX8_init_q2 3 rfl) (v := (8 : Int32)) (by decide) ?_
  obtain ⟨h56, e56, hf⟩ := jbind hf
  refine jr_putI K (D_at DX8_init_q2 4 rfl) fp_X8_35_6 (Or.inl rfl) e56 ?_
  refine jr_aload_n K (D_at DX8_init_q2 5 rfl) rfl rfl ?_
  refine jr_iconst K (D_at DX8_init_q2 6 rfl) (v := (1 : Int32)) (by decide) ?_
  obtain ⟨h61, e61, hf⟩ := jbind hf
  refine jr_putI K (D_at DX8_init_q2 7 rfl) fp_X8_38_6 (Or.inl rfl) e61 ?_
  cases hf
  exact jr_vret K E (D_at DX8_init_q2 8 rfl) rfl ⟨rfl, rfl⟩
theorem C_X8_init {G : jG} {l : Launch} (d : Nat) {n : Nat} {a0 : Nat} {h : jH} {res : jH} (hf : F_X8_init n a0 h = some res) : jC G l mX8_init (d + 2) 6 95 [.ref a0] h (jPV res) :=
  jC.of pn_X8 (jcats rfl) (Nat.le_of_ble_eq_true rfl) (fun X K E => J_X8_init K n E a0 h hf)
set_option maxHeartbeats 400000 in
set_option maxRecDepth 100000 in
theorem J_X5_copyFrom {G : jG} {l : Launch} {d : Nat} {X : jX} {res : jH} (K : jOK G l mX5_copyFrom (d + 1) X) (n : Nat) (E : jEnd G mX5_copyFrom (jPV res) X) (a0 : Nat) (a1 : Nat) (h : jH) (hf : F_X5_copyFrom n a0 a1 h = some res) : jJ G X h 0 0 0 [some (.ref a0), some (.ref a1)] [] := by
  unfold F_X5_copyFrom at hf
  refine jr_aload_n K (D_at DX5_copyFrom_q0 0 rfl) rfl rfl ?_
  obtain ⟨p1, e1, hf⟩ := jbind hf
  refine jr_getR K (D_at DX5_copyFrom_q0 1 rfl) fg_X5_11_4 e1 ?_
  refine jr_iconst K (D_at DX5_copyFrom_q0 2 rfl) (v := (0 : Int32)) (by decide) ?_
  refine jr_aload_n K (D_at DX5_copyFrom_q0 3 rfl) rfl rfl ?_
  obtain ⟨p6, e6, hf⟩ := jbind hf
  refine jr_getR K (D_at DX5_copyFrom_q0 4 rfl) fg_X5_11_4 e6 ?_
  refine jr_iconst K (D_at DX5_copyFrom_q0 5 rfl) (v := (0 : Int32)) (by decide) ?_
  refine jr_bipush K (D_at DX5_copyFrom_q0 6 rfl) (v := (60 : Int32)) (by decide) ?_
  obtain ⟨h12, e12, hf⟩ := jbind hf
  refine jr_copy K (D_at DX5_copyFrom_q0 7 rfl) cy_X5_15 (by exact Nat.le_of_ble_eq_true rfl) e12 ?_
  refine jr_aload_n K (D_at DX5_copyFrom_q0 8 rfl) rfl rfl ?_
  refine jr_aload_n K (D_at DX5_copyFrom_q0 9 rfl) rfl rfl ?_
  obtain ⟨v17, e17, hf⟩ := jbind hf
  refine jr_getI K (D_at DX5_copyFrom_q0 10 rfl) fg_X5_21_4 e17 ?_
  obtain ⟨h20, e20, hf⟩ := jbind hf
  refine jr_putI K (D_at DX5_copyFrom_q0 11 rfl) fp_X5_21_4 (Or.inl rfl) e20 ?_
  refine jr_aload_n K (D_at DX5_copyFrom_q1 0 rfl) rfl rfl ?_
  refine jr_aload_n K (D_at DX5_copyFrom_q1 1 rfl) rfl rfl ?_
  obtain ⟨v25, e25, hf⟩ := jbind hf
  refine jr_getI K (D_at DX5_copyFrom_q1 2 rfl) fg_X5_25_4 e25 ?_
  obtain ⟨h28, e28, hf⟩ := jbind hf
  refine jr_putI K (D_at DX5_copyFrom_q1 3 rfl) fp_X5_25_4 (Or.inl rfl) e28 ?_
  cases hf
  exact jr_vret K E (D_at DX5_copyFrom_q1 4 rfl) rfl ⟨rfl, rfl⟩
theorem C_X5_copyFrom {G : jG} {l : Launch} (d : Nat) {n : Nat} {a0 : Nat} {a1 : Nat} {h : jH} {res : jH} (hf : F_X5_copyFrom n a0 a1 h = some res) : jC G l mX5_copyFrom (d + 1) 0 0 [.ref a0, .ref a1] h (jPV res) :=
  jC.of pn_X5 (jcats rfl) (Nat.le_of_ble_eq_true rfl) (fun X K E => J_X5_copyFrom K n E a0 a1 h hf)
set_option maxHeartbeats 400000 in
set_option maxRecDepth 100000 in
theorem J_X8_hangAs {G : jG} {l : Launch} {d : Nat} {X : jX} {res : jH} (K : jOK G l mX8_hangAs (d + 1) X) (n : Nat) (E : jEnd G mX8_hangAs (jPV res) X) (a0 : Nat) (a1 : Nat) (h : jH) (hf : F_X8_hangAs n a0 a1 h = some res) : jJ G X h 0 0 0 [some (.ref a0), some (.ref a1)] [] := by
  unfold F_X8_hangAs at hf
  refine jr_aload_n K (D_at DX8_hangAs_q0 0 rfl) rfl rfl ?_
  obtain ⟨p1, e1, hf⟩ := jbind hf
  refine jr_getR K (D_at DX8_hangAs_q0 1 rfl) fg_X8_9_6 e1 ?_
  refine jr_iconst K (D_at DX8_hangAs_q0 2 rfl) (v := (0 : Int32)) (by decide) ?_
  refine jr_aload_n K (D_at DX8_hangAs_q0 3 rfl) rfl rfl ?_
  obtain ⟨p6, e6, hf⟩ := jbind hf
  refine jr_getR K (D_at DX8_hangAs_q0 4 rfl) fg_X8_9_6 e6 ?_
  refine jr_iconst K (D_at DX8_hangAs_q0 5 rfl) (v := (0 : Int32)) (by decide) ?_
  refine jr_bipush K (D_at DX8_hangAs_q0 6 rfl) (v := (8 : Int32)) (by decide) ?_
  obtain ⟨h12, e12, hf⟩ := jbind hf
  refine jr_copy K (D_at DX8_hangAs_q0 7 rfl) cy_X8_41 (by exact Nat.le_of_ble_eq_true rfl) e12 ?_
  refine jr_aload_n K (D_at DX8_hangAs_q0 8 rfl) rfl rfl ?_
  refine jr_aload_n K (D_at DX8_hangAs_q0 9 rfl) rfl rfl ?_
  obtain ⟨v17, e17, hf⟩ := jbind hf
  refine jr_getI K (D_at DX8_hangAs_q0 10 rfl) fg_X8_79_6 e17 ?_
  obtain ⟨h20, e20, hf⟩ := jbind hf
  refine jr_putI K (D_at DX8_hangAs_q0 11 rfl) fp_X8_79_6 (Or.inl rfl) e20 ?_
  refine jr_aload_n K (D_at DX8_hangAs_q1 0 rfl) rfl rfl ?_
  refine jr_aload_n K (D_at DX8_hangAs_q1 1 rfl) rfl rfl ?_
  obtain ⟨v25, e25, hf⟩ := jbind hf
  refine jr_getI K (D_at DX8_hangAs_q1 2 rfl) fg_X8_82_6 e25 ?_
  obtain ⟨h28, e28, hf⟩ := jbind hf
  refine jr_putI K (D_at DX8_hangAs_q1 3 rfl) fp_X8_82_6 (Or.inl rfl) e28 ?_
  cases hf
  exact jr_vret K E (D_at DX8_hangAs_q1 4 rfl) rfl ⟨rfl, rfl⟩
theorem C_X8_hangAs {G : jG} {l : Launch} (d : Nat) {n : Nat} {a0 : Nat} {a1 : Nat} {h : jH} {res : jH} (hf : F_X8_hangAs n a0 a1 h = some res) : jC G l mX8_hangAs (d + 1) 0 0 [.ref a0, .ref a1] h (jPV res) :=
  jC.of pn_X8 (jcats rfl) (Nat.le_of_ble_eq_true rfl) (fun X K E => J_X8_hangAs K n E a0 a1 h hf)
set_option maxHeartbeats 400000 in
set_option maxRecDepth 100000 in
theorem J_X8_copyFrom {G : jG} {l : Launch} {d : Nat} {X : jX} {res : jH} (K : jOK G l mX8_copyFrom (d + 2) X) (n : Nat) (E : jEnd G mX8_copyFrom (jPV res) X) (a0 : Nat) (a1 : Nat) (h : jH) (hf : F_X8_copyFrom n a0 a1 h = some res) : jJ G X h 0 0 0 [some (.ref a0), some (.ref a1)] [] := by
  unfold F_X8_copyFrom at hf
  refine jr_aload_n K (D_at DX8_copyFrom_q0 0 rfl) rfl rfl ?_
  obtain ⟨p1, e1, hf⟩ := jbind hf
  refine jr_getR K (D_at DX8_copyFrom_q0 1 rfl) fg_X8_15_6 e1 ?_
  refine jr_iconst K (D_at DX8_copyFrom_q0 2 rfl) (v := (0 : Int32)) (by decide) ?_
  refine jr_aload_n K (D_at DX8_copyFrom_q0 3 rfl) rfl rfl ?_
  obtain ⟨p6, e6, hf⟩ := jbind hf
  refine jr_getR K (D_at DX8_copyFrom_q0 4 rfl) fg_X8_15_6 e6 ?_
  refine jr_iconst K (D_at DX8_copyFrom_q0 5 rfl) (v := (0 : Int32)) (by decide) ?_
  refine jr_bipush K (D_at DX8_copyFrom_q0 6 rfl) (v := (8 : Int32)) (by decide) ?_
  obtain ⟨h12, e12, hf⟩ := jbind hf
  refine jr_copy K (D_at DX8_copyFrom_q0 7 rfl) cy_X8_41 (by exact Nat.le_of_ble_eq_true rfl) e12 ?_
  refine jr_aload_n K (D_at DX8_copyFrom_q0 8 rfl) rfl rfl ?_
  obtain ⟨p16, e16, hf⟩ := jbind hf
  refine jr_getR K (D_at DX8_copyFrom_q0 9 rfl) fg_X8_18_6 e16 ?_
  refine jr_iconst K (D_at DX8_copyFrom_q0 10 rfl) (v := (0 : Int32)) (by decide) ?_
  refine jr_aload_n K (D_at DX8_copyFrom_q0 11 rfl) rfl rfl ?_
  obtain ⟨p21, e21, hf⟩ := jbind hf
  refine jr_getR K (D_at DX8_copyFrom_q1 0 rfl) fg_X8_18_6 e21 ?_
  refine jr_iconst K (D_at DX8_copyFrom_q1 1 rfl) (v := (0 : Int32)) (by decide) ?_
  refine jr_bipush K (D_at DX8_copyFrom_q1 2 rfl) (v := (8 : Int32)) (by decide) ?_
  obtain ⟨h27, e27, hf⟩ := jbind hf
  refine jr_copy K (D_at DX8_copyFrom_q1 3 rfl) cy_X8_41 (by exact Nat.le_of_ble_eq_true rfl) e27 ?_
  refine jr_aload_n K (D_at DX8_copyFrom_q1 4 rfl) rfl rfl ?_
  obtain ⟨p31, e31, hf⟩ := jbind hf
  refine jr_getR K (D_at DX8_copyFrom_q1 5 rfl) fg_X8_21_6 e31 ?_
  refine jr_iconst K (D_at DX8_copyFrom_q1 6 rfl) (v := (0 : Int32)) (by decide) ?_
  refine jr_aload_n K (D_at DX8_copyFrom_q1 7 rfl) rfl rfl ?_
  obtain ⟨p36, e36, hf⟩ := jbind hf
  refine jr_getR K (D_at DX8_copyFrom_q1 8 rfl) fg_X8_21_6 e36 ?_
  refine jr_iconst K (D_at DX8_copyFrom_q1 9 rfl) (v := (0 : Int32)) (by decide) ?_
  refine jr_bipush K (D_at DX8_copyFrom_q1 10 rfl) (v := (8 : Int32)) (by decide) ?_
  obtain ⟨h42, e42, hf⟩ := jbind hf
  refine jr_copy K (D_at DX8_copyFrom_q1 11 rfl) cy_X8_41 (by exact Nat.le_of_ble_eq_true rfl) e42 ?_
  refine jr_aload_n K (D_at DX8_copyFrom_q2 0 rfl) rfl rfl ?_
  obtain ⟨p46, e46, hf⟩ := jbind hf
  refine jr_getR K (D_at DX8_copyFrom_q2 1 rfl) fg_X8_27_6 e46 ?_
  refine jr_aload_n K (D_at DX8_copyFrom_q2 2 rfl) rfl rfl ?_
  obtain ⟨p50, e50, hf⟩ := jbind hf
  refine jr_getR K (D_at DX8_copyFrom_q2 3 rfl) fg_X8_27_6 e50 ?_
  obtain ⟨h53, e53, hf⟩ := jbind hf
  obtain ⟨rc_53, e53⟩ := jcv_o e53
  refine jr_callV K (C_X5_copyFrom (d) e53) (D_at DX8_copyFrom_q2 4 rfl) cv_X8_47_X5_copyFrom (As := [.ref p50]) (ci := 4) rfl rc_53 rfl rfl (by exact Nat.le_of_ble_eq_true rfl) (kc2 := 0) (ks2 := 0) rfl rfl (fun k9 h9 w9 => by cases w9.1) (fun r9 h9 w9 => ?_)
  obtain ⟨w1, w2⟩ := w9
  subst h9
  cases w1
  show jJ G X _ 0 0 _ _ []
  refine jr_aload_n K (D_at DX8_copyFrom_q2 5 rfl) rfl rfl ?_
  refine jr_aload_n K (D_at DX8_copyFrom_q2 6 rfl) rfl rfl ?_
  obtain ⟨v58, e58, hf⟩ := jbind hf
  refine jr_getI K (D_at DX8_copyFrom_q2 7 rfl) fg_X8_51_6 e58 ?_
  obtain ⟨h61, e61, hf⟩ := jbind hf
  refine jr_putI K (D_at DX8_copyFrom_q2 8 rfl) fp_X8_51_6 (Or.inl rfl) e61 ?_
  refine jr_aload_n K (D_at DX8_copyFrom_q2 9 rfl) rfl rfl ?_
  refine jr_aload_n K (D_at DX8_copyFrom_q2 10 rfl) rfl rfl ?_
  obtain ⟨v66, e66, hf⟩ := jbind hf
  refine jr_getI K (D_at DX8_copyFrom_q2 11 rfl) fg_X8_54_6 e66 ?_
  obtain ⟨h69, e69, hf⟩ := jbind hf
  refine jr_putI K (D_at DX8_copyFrom_q3 0 rfl) fp_X8_54_6 (Or.inl rfl) e69 ?_
  refine jr_aload_n K (D_at DX8_copyFrom_q3 1 rfl) rfl rfl ?_
  refine jr_aload_n K (D_at DX8_copyFrom_q3 2 rfl) rfl rfl ?_
  obtain ⟨v74, e74, hf⟩ := jbind hf
  refine jr_getI K (D_at DX8_copyFrom_q3 3 rfl) fg_X8_57_6 e74 ?_
  obtain ⟨h77, e77, hf⟩ := jbind hf
  refine jr_putI K (D_at DX8_copyFrom_q3 4 rfl) fp_X8_57_6 (Or.inl rfl) e77 ?_
  refine jr_aload_n K (D_at DX8_copyFrom_q3 5 rfl) rfl rfl ?_
  refine jr_aload_n K (D_at DX8_copyFrom_q3 6 rfl) rfl rfl ?_
  obtain ⟨v82, e82, hf⟩ := jbind hf
  refine jr_getI K (D_at DX8_copyFrom_q3 7 rfl) fg_X8_60_6 e82 ?_
  obtain ⟨h85, e85, hf⟩ := jbind hf
  refine jr_putI K (D_at DX8_copyFrom_q3 8 rfl) fp_X8_60_6 (Or.inl rfl) e85 ?_
  refine jr_aload_n K (D_at DX8_copyFrom_q3 9 rfl) rfl rfl ?_
  refine jr_aload_n K (D_at DX8_copyFrom_q3 10 rfl) rfl rfl ?_
  obtain ⟨v90, e90, hf⟩ := jbind hf
  refine jr_getI K (D_at DX8_copyFrom_q3 11 rfl) fg_X8_63_6 e90 ?_
  obtain ⟨h93, e93, hf⟩ := jbind hf
  refine jr_putI K (D_at DX8_copyFrom_q4 0 rfl) fp_X8_63_6 (Or.inl rfl) e93 ?_
  refine jr_aload_n K (D_at DX8_copyFrom_q4 1 rfl) rfl rfl ?_
  refine jr_aload_n K (D_at DX8_copyFrom_q4 2 rfl) rfl rfl ?_
  obtain ⟨v98, e98, hf⟩ := jbind hf
  refine jr_getI K (D_at DX8_copyFrom_q4 3 rfl) fg_X8_31_6 e98 ?_
  obtain ⟨h101, e101, hf⟩ := jbind hf
  refine jr_putI K (D_at DX8_copyFrom_q4 4 rfl) fp_X8_31_6 (Or.inl rfl) e101 ?_
  refine jr_aload_n K (D_at DX8_copyFrom_q4 5 rfl) rfl rfl ?_
  refine jr_aload_n K (D_at DX8_copyFrom_q4 6 rfl) rfl rfl ?_
  obtain ⟨v106, e106, hf⟩ := jbind hf
  refine jr_getI K (D_at DX8_copyFrom_q4 7 rfl) fg_X8_35_6 e106 ?_
  obtain ⟨h109, e109, hf⟩ := jbind hf
  refine jr_putI K (D_at DX8_copyFrom_q4 8 rfl) fp_X8_35_6 (Or.inl rfl) e109 ?_
  refine jr_aload_n K (D_at DX8_copyFrom_q4 9 rfl) rfl rfl ?_
  refine jr_aload_n K (D_at DX8_copyFrom_q4 10 rfl) rfl rfl ?_
  obtain ⟨v114, e114, hf⟩ := jbind hf
  refine jr_getI K (D_at DX8_copyFrom_q4 11 rfl) fg_X8_66_6 e114 ?_
  obtain ⟨h117, e117, hf⟩ := jbind hf
  refine jr_putI K (D_at DX8_copyFrom_q5 0 rfl) fp_X8_66_6 (Or.inl rfl) e117 ?_
  refine jr_aload_n K (D_at DX8_copyFrom_q5 1 rfl) rfl rfl ?_
  refine jr_aload_n K (D_at DX8_copyFrom_q5 2 rfl) rfl rfl ?_
  obtain ⟨v122, e122, hf⟩ := jbind hf
  refine jr_getI K (D_at DX8_copyFrom_q5 3 rfl) fg_X8_69_6 e122 ?_
  obtain ⟨h125, e125, hf⟩ := jbind hf
  refine jr_putI K (D_at DX8_copyFrom_1_q0 0 rfl) fp_X8_69_6 (Or.inl rfl) e125 ?_
  refine jr_aload_n K (D_at DX8_copyFrom_1_q0 1 rfl) rfl rfl ?_
  refine jr_aload_n K (D_at DX8_copyFrom_1_q0 2 rfl) rfl rfl ?_
  obtain ⟨v130, e130, hf⟩ := jbind hf
  refine jr_getI K (D_at DX8_copyFrom_1_q0 3 rfl) fg_X8_38_6 e130 ?_
  obtain ⟨h133, e133, hf⟩ := jbind hf
  refine jr_putI K (D_at DX8_copyFrom_1_q0 4 rfl) fp_X8_38_6 (Or.inl rfl) e133 ?_
  refine jr_aload_n K (D_at DX8_copyFrom_1_q0 5 rfl) rfl rfl ?_
  refine jr_aload_n K (D_at DX8_copyFrom_1_q0 6 rfl) rfl rfl ?_
  obtain ⟨v138, e138, hf⟩ := jbind hf
  refine jr_getI K (D_at DX8_copyFrom_1_q0 7 rfl) fg_X8_72_6 e138 ?_
  obtain ⟨h141, e141, hf⟩ := jbind hf
  refine jr_putI K (D_at DX8_copyFrom_1_q0 8 rfl) fp_X8_72_6 (Or.inl rfl) e141 ?_
  refine jr_aload_n K (D_at DX8_copyFrom_1_q0 9 rfl) rfl rfl ?_
  refine jr_aload_n K (D_at DX8_copyFrom_1_q0 10 rfl) rfl rfl ?_
  obtain ⟨h146, e146, hf⟩ := jbind hf
  obtain ⟨rc_146, e146⟩ := jcv_o e146
  refine jr_callV K (C_X8_hangAs (d) e146) (D_at DX8_copyFrom_1_q0 11 rfl) cv_X8_75_X8_hangAs (As := [.ref a1]) (ci := 6) rfl rc_146 rfl rfl (by exact Nat.le_of_ble_eq_true rfl) (kc2 := 0) (ks2 := 0) rfl rfl (fun k9 h9 w9 => by cases w9.1) (fun r9 h9 w9 => ?_)
  obtain ⟨w1, w2⟩ := w9
  subst h9
  cases w1
  show jJ G X _ 0 0 _ _ []
  cases hf
  exact jr_vret K E (D_at DX8_copyFrom_1_q1 0 rfl) rfl ⟨rfl, rfl⟩
theorem C_X8_copyFrom {G : jG} {l : Launch} (d : Nat) {n : Nat} {a0 : Nat} {a1 : Nat} {h : jH} {res : jH} (hf : F_X8_copyFrom n a0 a1 h = some res) : jC G l mX8_copyFrom (d + 2) 0 0 [.ref a0, .ref a1] h (jPV res) :=
  jC.of pn_X8 (jcats rfl) (Nat.le_of_ble_eq_true rfl) (fun X K E => J_X8_copyFrom K n E a0 a1 h hf)
set_option maxHeartbeats 400000 in
set_option maxRecDepth 100000 in
theorem J_X0_remember_63 {G : jG} {l : Launch} {d : Nat} {X : jX} {res : jH} (K : jOK G l mX0_remember (d + 3) X) (n : Nat) (E : jEnd G mX0_remember (jPV res) X) (a0 : Nat) (sa0 : Nat) (s1 : Int32) (h : jH) (hf : F_X0_remember_63 n a0 sa0 s1 h = some res) : jJ G X h 0 0 63 [some (.ref a0), none] [.int s1, .ref sa0] := by
  unfold F_X0_remember_63 at hf
  obtain ⟨h63, e63, hf⟩ := jbind hf
  refine jr_putI K (D_at DX0_remember_q2 10 rfl) fp_X0_15_0 (Or.inl rfl) e63 ?_
  refine jr_aload_n K (D_at DX0_remember_q2 11 rfl) rfl rfl ?_
  refine jr_bipush K (D_at DX0_remember_q3 0 rfl) (v := (12 : Int32)) (by decide) ?_
  refine jr_aload_n K (D_at DX0_remember_q3 1 rfl) rfl rfl ?_
  obtain ⟨v70, e70, hf⟩ := jbind hf
  refine jr_getI K (D_at DX0_remember_q3 2 rfl) fg_X0_24_0 e70 ?_
  refine jr_iconst K (D_at DX0_remember_q3 3 rfl) (v := (1 : Int32)) (by decide) ?_
  refine jr_iadd K (D_at DX0_remember_q3 4 rfl) ?_
  refine jr_min K (D_at DX0_remember_q3 5 rfl) mm_X0_27 (by exact Nat.le_of_ble_eq_true rfl) ?_
  obtain ⟨h78, e78, hf⟩ := jbind hf
  refine jr_putI K (D_at DX0_remember_q3 6 rfl) fp_X0_24_0 (Or.inl rfl) e78 ?_
  cases hf
  exact jr_vret K E (D_at DX0_remember_q3 7 rfl) rfl ⟨rfl, rfl⟩
set_option maxHeartbeats 400000 in
set_option maxRecDepth 100000 in
theorem J_X0_remember_28 {G : jG} {l : Launch} {d : Nat} {X : jX} {res : jH} (K : jOK G l mX0_remember (d + 3) X) (n : Nat) (E : jEnd G mX0_remember (jPV res) X) (a0 : Nat) (a1 : Nat) (h : jH) (hf : F_X0_remember_28 n a0 a1 h = some res) : jJ G X h 0 0 28 [some (.ref a0), some (.ref a1)] [] := by
  unfold F_X0_remember_28 at hf
  refine jr_aload_n K (D_at DX0_remember_q1 2 rfl) rfl rfl ?_
  obtain ⟨p29, e29, hf⟩ := jbind hf
  refine jr_getR K (D_at DX0_remember_q1 3 rfl) fg_X0_11_0 e29 ?_
  refine jr_aload_n K (D_at DX0_remember_q1 4 rfl) rfl rfl ?_
  obtain ⟨v33, e33, hf⟩ := jbind hf
  refine jr_getI K (D_at DX0_remember_q1 5 rfl) fg_X0_15_0 e33 ?_
  obtain ⟨o36, e36, hf⟩ := jbind hf
  refine jr_aald K (D_at DX0_remember_q1 6 rfl) e36 ?_
  refine jr_aload_n K (D_at DX0_remember_q1 7 rfl) rfl rfl ?_
  cases o36 with
  | none => exact jno (show (none : Option jH) = some res from hf)
  | some p38 =>
    dsimp only at hf
    obtain ⟨h38, e38, hf⟩ := jbind hf
    obtain ⟨rc_38, e38⟩ := jcv_o e38
    refine jr_callV K (C_X8_copyFrom (d) e38) (D_at DX0_remember_q1 8 rfl) cv_X0_20_X8_copyFrom (As := [.ref a1]) (ci := 6) rfl rc_38 rfl rfl (by exact Nat.le_of_ble_eq_true rfl) (kc2 := 0) (ks2 := 0) rfl rfl (fun k9 h9 w9 => by cases w9.1) (fun r9 h9 w9 => ?_)
    obtain ⟨w1, w2⟩ := w9
    subst h9
    cases w1
    show jJ G X _ 0 0 _ _ []
    refine jr_aload_n K (D_at DX0_remember_q1 9 rfl) rfl rfl ?_
    refine jr_aload_n K (D_at DX0_remember_q1 10 rfl) rfl rfl ?_
    obtain ⟨v43, e43, hf⟩ := jbind hf
    refine jr_getI K (D_at DX0_remember_q1 11 rfl) fg_X0_15_0 e43 ?_
    refine jr_iconst K (D_at DX0_remember_q2 0 rfl) (v := (1 : Int32)) (by decide) ?_
    refine jr_iadd K (D_at DX0_remember_q2 1 rfl) ?_
    refine jr_bipush K (D_at DX0_remember_q2 2 rfl) (v := (12 : Int32)) (by decide) ?_
    refine jr_icmp_ge K (D_at DX0_remember_q2 3 rfl) (tgt := 62) (by decide) (fun c50 => ?_) (fun c50 => ?_)
    · replace hf := (if_pos c50).symm.trans hf
      refine jr_iconst K (D_at DX0_remember_q2 9 rfl) (v := (0 : Int32)) (by decide) ?_
      refine jr_keep [true, false] ?_
      exact J_X0_remember_63 K n E a0 a0 (0 : Int32) h38 hf
    · replace hf := (if_neg c50).symm.trans hf
      refine jr_aload_n K (D_at DX0_remember_q2 4 rfl) rfl rfl ?_
      obtain ⟨v54, e54, hf⟩ := jbind hf
      refine jr_getI K (D_at DX0_remember_q2 5 rfl) fg_X0_15_0 e54 ?_
      refine jr_iconst K (D_at DX0_remember_q2 6 rfl) (v := (1 : Int32)) (by decide) ?_
      refine jr_iadd K (D_at DX0_remember_q2 7 rfl) ?_
      refine jr_goto K (D_at DX0_remember_q2 8 rfl) (tgt := 63) (by decide) ?_
      refine jr_keep [true, false] ?_
      exact J_X0_remember_63 K n E a0 a0 (v54 + (1 : Int32)) h38 hf
set_option maxHeartbeats 400000 in
set_option maxRecDepth 100000 in
theorem J_X0_remember {G : jG} {l : Launch} {d : Nat} {X : jX} {res : jH} (K : jOK G l mX0_remember (d + 3) X) (n : Nat) (E : jEnd G mX0_remember (jPV res) X) (a0 : Nat) (a1 : Nat) (h : jH) (hf : F_X0_remember n a0 a1 h = some res) : jJ G X h 7 113 0 [some (.ref a0), some (.ref a1)] [] := by
  unfold F_X0_remember at hf
  refine jr_aload_n K (D_at DX0_remember_q0 0 rfl) rfl rfl ?_
  obtain ⟨p1, e1, hf⟩ := jbind hf
  refine jr_getR K (D_at DX0_remember_q0 1 rfl) fg_X0_11_0 e1 ?_
  refine jr_aload_n K (D_at DX0_remember_q0 2 rfl) rfl rfl ?_
  obtain ⟨v5, e5, hf⟩ := jbind hf
  refine jr_getI K (D_at DX0_remember_q0 3 rfl) fg_X0_15_0 e5 ?_
  obtain ⟨o8, e8, hf⟩ := jbind hf
  refine jr_aald K (D_at DX0_remember_q0 4 rfl) e8 ?_
  cases o8 with
  | none =>
    dsimp only at hf
    refine jr_ifnonnullN K (D_at DX0_remember_q0 5 rfl) ?_
    refine jr_aload_n K (D_at DX0_remember_q0 6 rfl) rfl rfl ?_
    obtain ⟨p13, e13, hf⟩ := jbind hf
    refine jr_getR K (D_at DX0_remember_q0 7 rfl) fg_X0_11_0 e13 ?_
    refine jr_aload_n K (D_at DX0_remember_q0 8 rfl) rfl rfl ?_
    obtain ⟨v17, e17, hf⟩ := jbind hf
    refine jr_getI K (D_at DX0_remember_q0 9 rfl) fg_X0_15_0 e17 ?_
    obtain ⟨h20, e20, hf⟩ := jbind hf
    refine jr_newE (N := 18) K (D_at DX0_remember_q0 10 rfl) fn_X0_9 (kc := 6) (ks := 95) e20 ?_
    refine jr_dup K (D_at DX0_remember_q0 11 rfl) rfl ?_
    obtain ⟨h24, e24, hf⟩ := jbind hf
    refine jr_callIN K (C_X8_init (d) e24) (D_at DX0_remember_q1 0 rfl) cin_X0_19_X8_init (As := []) rfl rfl (by exact Nat.le_of_ble_eq_true rfl) (kc2 := 0) (ks2 := 0) rfl rfl (fun k9 h9 w9 => by cases w9.1) (fun r9 h9 w9 => ?_)
    obtain ⟨w1, w2⟩ := w9
    subst h9
    cases w1
    obtain ⟨h27, e27, hf⟩ := jbind hf
    refine jr_aast K (D_at DX0_remember_q1 1 rfl) e27 ?_
    refine jr_keep [true, true] ?_
    exact J_X0_remember_28 K n E a0 a1 h27 hf
  | some p9 =>
    dsimp only at hf
    refine jr_ifnonnull K (D_at DX0_remember_q0 5 rfl) (tgt := 28) (by decide) ?_
    refine jr_credit (kc' := 0) (ks' := 0) (by decide) (by decide) ?_
    refine jr_keep [true, true] ?_
    exact J_X0_remember_28 K n E a0 a1 h hf
theorem C_X0_remember {G : jG} {l : Launch} (d : Nat) {n : Nat} {a0 : Nat} {a1 : Nat} {h : jH} {res : jH} (hf : F_X0_remember n a0 a1 h = some res) : jC G l mX0_remember (d + 3) 7 113 [.ref a0, .ref a1] h (jPV res) :=
  jC.of pn_X0 (jcats rfl) (Nat.le_of_ble_eq_true rfl) (fun X K E => J_X0_remember K n E a0 a1 h hf)
set_option maxHeartbeats 400000 in
set_option maxRecDepth 100000 in
theorem J_X0_takeBack_18 {G : jG} {l : Launch} {d : Nat} {X : jX} {res : (Int32 × jH)} (K : jOK G l mX0_takeBack (d + 3) X) (n : Nat) (E : jEnd G mX0_takeBack (jPW res) X) (a0 : Nat) (a1 : Nat) (s0 : Int32) (h : jH) (hf : F_X0_takeBack_18 n a0 a1 s0 h = some res) : jJ G X h 0 0 18 [some (.ref a0), some (.ref a1), none] [.int s0] := by
  unfold F_X0_takeBack_18 at hf
  refine jr_istore_n K (D_at DX0_takeBack_q0 9 rfl) (i := 2) rfl (by decide) (L2 := [_, _, _]) rfl ?_
  refine jr_aload_n K (D_at DX0_takeBack_q0 10 rfl) rfl rfl ?_
  obtain ⟨v20, e20, hf⟩ := jbind hf
  refine jr_getI K (D_at DX0_takeBack_q0 11 rfl) fg_X0_24_0 e20 ?_
  refine jr_if_eq K (D_at DX0_takeBack_q1 0 rfl) (tgt := 35) (by decide) (fun c23 => ?_) (fun c23 => ?_)
  · replace hf := (if_pos c23).symm.trans hf
    refine jr_iconst K (D_at DX0_takeBack_q1 6 rfl) (v := (0 : Int32)) (by decide) ?_
    cases hf
    exact jr_zret K E (D_at DX0_takeBack_q1 7 rfl) rfl (Or.inl rfl) ⟨rfl, rfl⟩
  · replace hf := (if_neg c23).symm.trans hf
    refine jr_aload_n K (D_at DX0_takeBack_q1 1 rfl) rfl rfl ?_
    obtain ⟨p27, e27, hf⟩ := jbind hf
    refine jr_getR K (D_at DX0_takeBack_q1 2 rfl) fg_X0_11_0 e27 ?_
    refine jr_iload_n K (D_at DX0_takeBack_q1 3 rfl) rfl rfl ?_
    obtain ⟨o31, e31, hf⟩ := jbind hf
    refine jr_aald K (D_at DX0_takeBack_q1 4 rfl) e31 ?_
    cases o31 with
    | none =>
      dsimp only at hf
      refine jr_ifnonnullN K (D_at DX0_takeBack_q1 5 rfl) ?_
      refine jr_iconst K (D_at DX0_takeBack_q1 6 rfl) (v := (0 : Int32)) (by decide) ?_
      cases hf
      exact jr_zret K E (D_at DX0_takeBack_q1 7 rfl) rfl (Or.inl rfl) ⟨rfl, rfl⟩
    | some p32 =>
      dsimp only at hf
      refine jr_ifnonnull K (D_at DX0_takeBack_q1 5 rfl) (tgt := 37) (by decide) ?_
      refine jr_aload_n K (D_at DX0_takeBack_q1 8 rfl) rfl rfl ?_
      refine jr_aload_n K (D_at DX0_takeBack_q1 9 rfl) rfl rfl ?_
      obtain ⟨p39, e39, hf⟩ := jbind hf
      refine jr_getR K (D_at DX0_takeBack_q1 10 rfl) fg_X0_11_0 e39 ?_
      refine jr_iload_n K (D_at DX0_takeBack_q1 11 rfl) rfl rfl ?_
      obtain ⟨o43, e43, hf⟩ := jbind hf
      refine jr_aald K (D_at DX0_takeBack_q2 0 rfl) e43 ?_
      cases o43 with
      | none => exact jno (show (none : Option (Int32 × jH)) = some res from hf)
      | some p44_0 =>
        dsimp only at hf
        obtain ⟨h44, e44, hf⟩ := jbind hf
        obtain ⟨rc_44, e44⟩ := jcv_o e44
        refine jr_callV K (C_X8_copyFrom (d) e44) (D_at DX0_takeBack_q2 1 rfl) cv_X0_20_X8_copyFrom (As := [.ref p44_0]) (ci := 6) rfl rc_44 rfl rfl (by exact Nat.le_of_ble_eq_true rfl) (kc2 := 0) (ks2 := 0) rfl rfl (fun k9 h9 w9 => by cases w9.1) (fun r9 h9 w9 => ?_)
        obtain ⟨w1, w2⟩ := w9
        subst h9
        cases w1
        show jJ G X _ 0 0 _ _ []
        refine jr_aload_n K (D_at DX0_takeBack_q2 2 rfl) rfl rfl ?_
        refine jr_iload_n K (D_at DX0_takeBack_q2 3 rfl) rfl rfl ?_
        obtain ⟨h49, e49, hf⟩ := jbind hf
        refine jr_putI K (D_at DX0_takeBack_q2 4 rfl) fp_X0_15_0 (Or.inl rfl) e49 ?_
        refine jr_aload_n K (D_at DX0_takeBack_q2 5 rfl) rfl rfl ?_
        refine jr_dup K (D_at DX0_takeBack_q2 6 rfl) rfl ?_
        obtain ⟨v54, e54, hf⟩ := jbind hf
        refine jr_getI K (D_at DX0_takeBack_q2 7 rfl) fg_X0_24_0 e54 ?_
        refine jr_iconst K (D_at DX0_takeBack_q2 8 rfl) (v := (1 : Int32)) (by decide) ?_
        refine jr_isub K (D_at DX0_takeBack_q2 9 rfl) ?_
        obtain ⟨h59, e59, hf⟩ := jbind hf
        refine jr_putI K (D_at DX0_takeBack_q2 10 rfl) fp_X0_24_0 (Or.inl rfl) e59 ?_
        refine jr_iconst K (D_at DX0_takeBack_q2 11 rfl) (v := (1 : Int32)) (by decide) ?_
        cases hf
        exact jr_zret K E (D_at DX0_takeBack_q3 0 rfl) rfl (Or.inr rfl) ⟨rfl, rfl⟩
set_option maxHeartbeats 400000 in
set_option maxRecDepth 100000 in
theorem J_X0_takeBack {G : jG} {l : Launch} {d : Nat} {X : jX} {res : (Int32 × jH)} (K : jOK G l mX0_takeBack (d + 3) X) (n : Nat) (E : jEnd G mX0_takeBack (jPW res) X) (a0 : Nat) (a1 : Nat) (h : jH) (hf : F_X0_takeBack n a0 a1 h = some res) : jJ G X h 0 0 0 [some (.ref a0), some (.ref a1), none] [] := by
  unfold F_X0_takeBack at hf
  refine jr_aload_n K (D_at DX0_takeBack_q0 0 rfl) rfl rfl ?_
  obtain ⟨v1, e1, hf⟩ := jbind hf
  refine jr_getI K (D_at DX0_takeBack_q0 1 rfl) fg_X0_15_0 e1 ?_
  refine jr_if_le K (D_at DX0_takeBack_q0 2 rfl) (tgt := 16) (by decide) (fun c4 => ?_) (fun c4 => ?_)
  · replace hf := (if_pos c4).symm.trans hf
    refine jr_bipush K (D_at DX0_takeBack_q0 8 rfl) (v := (11 : Int32)) (by decide) ?_
    refine jr_keep [true, true, false] ?_
    exact J_X0_takeBack_18 K n E a0 a1 (11 : Int32) h hf
  · replace hf := (if_neg c4).symm.trans hf
    refine jr_aload_n K (D_at DX0_takeBack_q0 3 rfl) rfl rfl ?_
    obtain ⟨v8, e8, hf⟩ := jbind hf
    refine jr_getI K (D_at DX0_takeBack_q0 4 rfl) fg_X0_15_0 e8 ?_
    refine jr_iconst K (D_at DX0_takeBack_q0 5 rfl) (v := (1 : Int32)) (by decide) ?_
    refine jr_isub K (D_at DX0_takeBack_q0 6 rfl) ?_
    refine jr_goto K (D_at DX0_takeBack_q0 7 rfl) (tgt := 18) (by decide) ?_
    refine jr_keep [true, true, false] ?_
    exact J_X0_takeBack_18 K n E a0 a1 (v8 - (1 : Int32)) h hf
theorem C_X0_takeBack {G : jG} {l : Launch} (d : Nat) {n : Nat} {a0 : Nat} {a1 : Nat} {h : jH} {res : (Int32 × jH)} (hf : F_X0_takeBack n a0 a1 h = some res) : jC G l mX0_takeBack (d + 3) 0 0 [.ref a0, .ref a1] h (jPW res) :=
  jC.of pn_X0 (jcats rfl) (Nat.le_of_ble_eq_true rfl) (fun X K E => J_X0_takeBack K n E a0 a1 h hf)
set_option maxHeartbeats 400000 in
set_option maxRecDepth 100000 in
theorem J_X0_forget {G : jG} {l : Launch} {d : Nat} {X : jX} {res : jH} (K : jOK G l mX0_forget (d) X) (n : Nat) (E : jEnd G mX0_forget (jPV res) X) (a0 : Nat) (h : jH) (hf : F_X0_forget n a0 h = some res) : jJ G X h 0 0 0 [some (.ref a0)] [] := by
  unfold F_X0_forget at hf
  refine jr_aload_n K (D_at DX0_forget_q0 0 rfl) rfl rfl ?_
  refine jr_iconst K (D_at DX0_forget_q0 1 rfl) (v := (0 : Int32)) (by decide) ?_
  obtain ⟨h2, e2, hf⟩ := jbind hf
  refine jr_putI K (D_at DX0_forget_q0 2 rfl) fp_X0_24_0 (Or.inl rfl) e2 ?_
  cases hf
  exact jr_vret K E (D_at DX0_forget_q0 3 rfl) rfl ⟨rfl, rfl⟩
theorem C_X0_forget {G : jG} {l : Launch} (d : Nat) {n : Nat} {a0 : Nat} {h : jH} {res : jH} (hf : F_X0_forget n a0 h = some res) : jC G l mX0_forget (d) 0 0 [.ref a0] h (jPV res) :=
  jC.of pn_X0 (jcats rfl) (Nat.le_of_ble_eq_true rfl) (fun X K E => J_X0_forget K n E a0 h hf)
set_option maxHeartbeats 400000 in
set_option maxRecDepth 100000 in
theorem J_X1_init {G : jG} {l : Launch} {d : Nat} {X : jX} {res : jH} (K : jOK G l mX1_init (d + 1) X) (n : Nat) (E : jEnd G mX1_init (jPV res) X) (a0 : Nat) (a1 : Nat) (a2 : Nat) (h : jH) (hf : F_X1_init n a0 a1 a2 h = some res) : jJ G X h 0 0 0 [some (.ref a0), some (.ref a1), some (.ref a2)] [] := by
  unfold F_X1_init at hf
  refine jr_aload_n K (D_at DX1_init_q0 0 rfl) rfl rfl ?_
  refine jr_objInit K (D_at DX1_init_q0 1 rfl) oi_X1_3 (by exact Nat.le_of_ble_eq_true rfl) ?_
  refine jr_aload_n K (D_at DX1_init_q0 2 rfl) rfl rfl ?_
  refine jr_aload_n K (D_at DX1_init_q0 3 rfl) rfl rfl ?_
  obtain ⟨h6, e6, hf⟩ := jbind hf
  refine jr_putR K (D_at DX1_init_q0 4 rfl) fp_X1_9_1 (Or.inr rfl) e6 ?_
  refine jr_aload_n K (D_at DX1_init_q0 5 rfl) rfl rfl ?_
  refine jr_aload_n K (D_at DX1_init_q0 6 rfl) rfl rfl ?_
  obtain ⟨h11, e11, hf⟩ := jbind hf
  refine jr_putR K (D_at DX1_init_q0 7 rfl) fp_X1_15_1 (Or.inr rfl) e11 ?_
  cases hf
  exact jr_vret K E (D_at DX1_init_q0 8 rfl) rfl ⟨rfl, rfl⟩
theorem C_X1_init {G : jG} {l : Launch} (d : Nat) {n : Nat} {a0 : Nat} {a1 : Nat} {a2 : Nat} {h : jH} {res : jH} (hf : F_X1_init n a0 a1 a2 h = some res) : jC G l mX1_init (d + 1) 0 0 [.ref a0, .ref a1, .ref a2] h (jPV res) :=
  jC.of pn_X1 (jcats rfl) (Nat.le_of_ble_eq_true rfl) (fun X K E => J_X1_init K n E a0 a1 a2 h hf)
set_option maxHeartbeats 400000 in
set_option maxRecDepth 100000 in
theorem J_X8_isLit {G : jG} {l : Launch} {d : Nat} {X : jX} {res : Int32} (K : jOK G l mX8_isLit (d) X) (n : Nat) (h : jH) (E : jEnd G mX8_isLit (jPR h res) X) (a0 : Nat) (x1 : Int32) (x2 : Int32) (hf : F_X8_isLit n a0 x1 x2 h = some res) : jJ G X h 0 0 0 [some (.ref a0), some (.int x1), some (.int x2)] [] := by
  unfold F_X8_isLit at hf
  refine jr_aload_n K (D_at DX8_isLit_q0 0 rfl) rfl rfl ?_
  obtain ⟨p1, e1, hf⟩ := jbind hf
  refine jr_getR K (D_at DX8_isLit_q0 1 rfl) fg_X8_9_6 e1 ?_
  refine jr_iload_n K (D_at DX8_isLit_q0 2 rfl) rfl rfl ?_
  obtain ⟨v5, e5, hf⟩ := jbind hf
  refine jr_iald K (D_at DX8_isLit_q0 3 rfl) e5 ?_
  refine jr_iconst K (D_at DX8_isLit_q0 4 rfl) (v := (4 : Int32)) (by decide) ?_
  refine jr_iload_n K (D_at DX8_isLit_q0 5 rfl) rfl rfl ?_
  refine jr_imul K (D_at DX8_isLit_q0 6 rfl) ?_
  refine jr_icmp_lt K (D_at DX8_isLit_q0 7 rfl) (tgt := 33) (by decide) (fun c9 => ?_) (fun c9 => ?_)
  · replace hf := (if_pos c9).symm.trans hf
    refine jr_iconst K (D_at DX8_isLit_q1 9 rfl) (v := (0 : Int32)) (by decide) ?_
    cases hf
    exact jr_zret K E (D_at DX8_isLit_q1 10 rfl) rfl (Or.inl rfl) ⟨rfl, rfl⟩
  · replace hf := (if_neg c9).symm.trans hf
    refine jr_aload_n K (D_at DX8_isLit_q0 8 rfl) rfl rfl ?_
    obtain ⟨p13, e13, hf⟩ := jbind hf
    refine jr_getR K (D_at DX8_isLit_q0 9 rfl) fg_X8_9_6 e13 ?_
    refine jr_iload_n K (D_at DX8_isLit_q0 10 rfl) rfl rfl ?_
    obtain ⟨v17, e17, hf⟩ := jbind hf
    refine jr_iald K (D_at DX8_isLit_q0 11 rfl) e17 ?_
    refine jr_iconst K (D_at DX8_isLit_q1 0 rfl) (v := (4 : Int32)) (by decide) ?_
    refine jr_iload_n K (D_at DX8_isLit_q1 1 rfl) rfl rfl ?_
    refine jr_imul K (D_at DX8_isLit_q1 2 rfl) ?_
    refine jr_aload_n K (D_at DX8_isLit_q1 3 rfl) rfl rfl ?_
    obtain ⟨v22, e22, hf⟩ := jbind hf
    refine jr_getI K (D_at DX8_isLit_q1 4 rfl) fg_X8_35_6 e22 ?_
    refine jr_iadd K (D_at DX8_isLit_q1 5 rfl) ?_
    refine jr_icmp_gt K (D_at DX8_isLit_q1 6 rfl) (tgt := 33) (by decide) (fun c26 => ?_) (fun c26 => ?_)
    · replace hf := (if_pos c26).symm.trans hf
      refine jr_iconst K (D_at DX8_isLit_q1 9 rfl) (v := (0 : Int32)) (by decide) ?_
      cases hf
      exact jr_zret K E (D_at DX8_isLit_q1 10 rfl) rfl (Or.inl rfl) ⟨rfl, rfl⟩
    · replace hf := (if_neg c26).symm.trans hf
      refine jr_iconst K (D_at DX8_isLit_q1 7 rfl) (v := (1 : Int32)) (by decide) ?_
      refine jr_goto K (D_at DX8_isLit_q1 8 rfl) (tgt := 34) (by decide) ?_
      cases hf
      exact jr_zret K E (D_at DX8_isLit_q1 10 rfl) rfl (Or.inr rfl) ⟨rfl, rfl⟩
theorem C_X8_isLit {G : jG} {l : Launch} (d : Nat) {n : Nat} {a0 : Nat} {x1 : Int32} {x2 : Int32} {h : jH} {res : Int32} (hf : F_X8_isLit n a0 x1 x2 h = some res) : jC G l mX8_isLit (d) 0 0 [.ref a0, .int x1, .int x2] h (jPR h res) :=
  jC.of pn_X8 (jcats rfl) (Nat.le_of_ble_eq_true rfl) (fun X K E => J_X8_isLit K n h E a0 x1 x2 hf)
set_option maxHeartbeats 400000 in
set_option maxRecDepth 100000 in
theorem J_X2_untoldAmount {G : jG} {l : Launch} {d : Nat} {X : jX} {res : Int32} (K : jOK G l mX2_untoldAmount (d + 1) X) (n : Nat) (h : jH) (E : jEnd G mX2_untoldAmount (jPR h res) X) (x0 : Int32) (a1 : Nat) (x2 : Int32) (hf : F_X2_untoldAmount n x0 a1 x2 h = some res) : jJ G X h 0 0 0 [some (.int x0), some (.ref a1), some (.int x2)] [] := by
  unfold F_X2_untoldAmount at hf
  refine jr_iload_n K (D_at DX2_untoldAmount_q0 0 rfl) rfl rfl ?_
  refine jr_if_ne K (D_at DX2_untoldAmount_q0 1 rfl) (tgt := 22) (by decide) (fun c1 => ?_) (fun c1 => ?_)
  · replace hf := (if_neg c1).symm.trans hf
    refine jr_iload_n K (D_at DX2_untoldAmount_q1 0 rfl) rfl rfl ?_
    refine jr_iconst K (D_at DX2_untoldAmount_q1 1 rfl) (v := (1 : Int32)) (by decide) ?_
    refine jr_icmp_ne K (D_at DX2_untoldAmount_q1 2 rfl) (tgt := 32) (by decide) (fun c24 => ?_) (fun c24 => ?_)
    · replace hf := (if_neg c24).symm.trans hf
      refine jr_iconst K (D_at DX2_untoldAmount_q1 5 rfl) (v := (0 : Int32)) (by decide) ?_
      cases hf
      exact jr_iret K E (D_at DX2_untoldAmount_q1 6 rfl) rfl ⟨rfl, rfl⟩
    · replace hf := (if_pos c24).symm.trans hf
      refine jr_bipush K (D_at DX2_untoldAmount_q1 3 rfl) (v := (10 : Int32)) (by decide) ?_
      refine jr_goto K (D_at DX2_untoldAmount_q1 4 rfl) (tgt := 33) (by decide) ?_
      cases hf
      exact jr_iret K E (D_at DX2_untoldAmount_q1 6 rfl) rfl ⟨rfl, rfl⟩
  · replace hf := (if_pos c1).symm.trans hf
    refine jr_aload_n K (D_at DX2_untoldAmount_q0 2 rfl) rfl rfl ?_
    refine jr_iload_n K (D_at DX2_untoldAmount_q0 3 rfl) rfl rfl ?_
    refine jr_aload_n K (D_at DX2_untoldAmount_q0 4 rfl) rfl rfl ?_
    obtain ⟨v7, e7, hf⟩ := jbind hf
    refine jr_getI K (D_at DX2_untoldAmount_q0 5 rfl) fg_X2_52_6 e7 ?_
    obtain ⟨v10, e10, hf⟩ := jbind hf
    obtain ⟨rc_10, e10⟩ := jcv_o e10
    refine jr_callV K (C_X8_isLit (d) e10) (D_at DX2_untoldAmount_q0 6 rfl) cv_X2_57_X8_isLit (As := [.int x2, .int v7]) (ci := 6) rfl rc_10 rfl rfl (by exact Nat.le_of_ble_eq_true rfl) (kc2 := 0) (ks2 := 0) rfl rfl (fun k9 h9 w9 => by cases w9.1) (fun r9 h9 w9 => ?_)
    obtain ⟨w1, w2⟩ := w9
    subst h9
    cases w1
    show jJ G X _ 0 0 _ _ (.int v10 :: _)
    refine jr_if_eq K (D_at DX2_untoldAmount_q0 7 rfl) (tgt := 20) (by decide) (fun c13 => ?_) (fun c13 => ?_)
    · replace hf := (if_pos c13).symm.trans hf
      refine jr_iconst K (D_at DX2_untoldAmount_q0 10 rfl) (v := (0 : Int32)) (by decide) ?_
      cases hf
      exact jr_iret K E (D_at DX2_untoldAmount_q0 11 rfl) rfl ⟨rfl, rfl⟩
    · replace hf := (if_neg c13).symm.trans hf
      refine jr_iconst K (D_at DX2_untoldAmount_q0 8 rfl) (v := (1 : Int32)) (by decide) ?_
      refine jr_goto K (D_at DX2_untoldAmount_q0 9 rfl) (tgt := 21) (by decide) ?_
      cases hf
      exact jr_iret K E (D_at DX2_untoldAmount_q0 11 rfl) rfl ⟨rfl, rfl⟩
theorem C_X2_untoldAmount {G : jG} {l : Launch} (d : Nat) {n : Nat} {x0 : Int32} {a1 : Nat} {x2 : Int32} {h : jH} {res : Int32} (hf : F_X2_untoldAmount n x0 a1 x2 h = some res) : jC G l mX2_untoldAmount (d + 1) 0 0 [.int x0, .ref a1, .int x2] h (jPR h res) :=
  jC.of pn_X2 (jcats rfl) (Nat.le_of_ble_eq_true rfl) (fun X K E => J_X2_untoldAmount K n h E x0 a1 x2 hf)
set_option maxHeartbeats 400000 in
set_option maxRecDepth 100000 in
theorem J_X2_isValue {G : jG} {l : Launch} {d : Nat} {X : jX} {res : Int32} (K : jOK G l mX2_isValue (d) X) (n : Nat) (h : jH) (E : jEnd G mX2_isValue (jPR h res) X) (x0 : Int32) (hf : F_X2_isValue n x0 h = some res) : jJ G X h 0 0 0 [some (.int x0)] [] := by
  unfold F_X2_isValue at hf
  refine jr_iload_n K (D_at DX2_isValue_q0 0 rfl) rfl rfl ?_
  refine jr_sipush K (D_at DX2_isValue_q0 1 rfl) (v := (256 : Int32)) (by decide) ?_
  refine jr_icmp_ge K (D_at DX2_isValue_q0 2 rfl) (tgt := 13) (by decide) (fun c4 => ?_) (fun c4 => ?_)
  · replace hf := (if_pos c4).symm.trans hf
    refine jr_iconst K (D_at DX2_isValue_q0 6 rfl) (v := (1 : Int32)) (by decide) ?_
    refine jr_goto K (D_at DX2_isValue_q0 7 rfl) (tgt := 18) (by decide) ?_
    cases hf
    exact jr_zret K E (D_at DX2_isValue_q0 9 rfl) rfl (Or.inr rfl) ⟨rfl, rfl⟩
  · replace hf := (if_neg c4).symm.trans hf
    refine jr_iload_n K (D_at DX2_isValue_q0 3 rfl) rfl rfl ?_
    refine jr_bipush K (D_at DX2_isValue_q0 4 rfl) (v := (10 : Int32)) (by decide) ?_
    refine jr_icmp_gt K (D_at DX2_isValue_q0 5 rfl) (tgt := 17) (by decide) (fun c10 => ?_) (fun c10 => ?_)
    · replace hf := (if_pos c10).symm.trans hf
      refine jr_iconst K (D_at DX2_isValue_q0 8 rfl) (v := (0 : Int32)) (by decide) ?_
      cases hf
      exact jr_zret K E (D_at DX2_isValue_q0 9 rfl) rfl (Or.inl rfl) ⟨rfl, rfl⟩
    · replace hf := (if_neg c10).symm.trans hf
      refine jr_iconst K (D_at DX2_isValue_q0 6 rfl) (v := (1 : Int32)) (by decide) ?_
      refine jr_goto K (D_at DX2_isValue_q0 7 rfl) (tgt := 18) (by decide) ?_
      cases hf
      exact jr_zret K E (D_at DX2_isValue_q0 9 rfl) rfl (Or.inr rfl) ⟨rfl, rfl⟩
theorem C_X2_isValue {G : jG} {l : Launch} (d : Nat) {n : Nat} {x0 : Int32} {h : jH} {res : Int32} (hf : F_X2_isValue n x0 h = some res) : jC G l mX2_isValue (d) 0 0 [.int x0] h (jPR h res) :=
  jC.of pn_X2 (jcats rfl) (Nat.le_of_ble_eq_true rfl) (fun X K E => J_X2_isValue K n h E x0 hf)
set_option maxHeartbeats 400000 in
set_option maxRecDepth 100000 in
theorem J_X8_gap {G : jG} {l : Launch} {d : Nat} {X : jX} {res : Int32} (K : jOK G l mX8_gap (d) X) (n : Nat) (h : jH) (E : jEnd G mX8_gap (jPR h res) X) (a0 : Nat) (x1 : Int32) (x2 : Int32) (hf : F_X8_gap n a0 x1 x2 h = some res) : jJ G X h 0 0 0 [some (.ref a0), some (.int x1), some (.int x2)] [] := by
  unfold F_X8_gap at hf
  refine jr_iload_n K (D_at DX8_gap_q0 0 rfl) rfl rfl ?_
  refine jr_if_lt K (D_at DX8_gap_q0 1 rfl) (tgt := 14) (by decide) (fun c1 => ?_) (fun c1 => ?_)
  · replace hf := (if_pos c1).symm.trans hf
    refine jr_iload_n K (D_at DX8_gap_q0 8 rfl) rfl rfl ?_
    refine jr_goto K (D_at DX8_gap_q0 9 rfl) (tgt := 33) (by decide) ?_
    cases hf
    exact jr_iret K E (D_at DX8_gap_q1 9 rfl) rfl ⟨rfl, rfl⟩
  · replace hf := (if_neg c1).symm.trans hf
    refine jr_iload_n K (D_at DX8_gap_q0 2 rfl) rfl rfl ?_
    refine jr_aload_n K (D_at DX8_gap_q0 3 rfl) rfl rfl ?_
    obtain ⟨v6, e6, hf⟩ := jbind hf
    refine jr_getI K (D_at DX8_gap_q0 4 rfl) fg_X8_51_6 e6 ?_
    refine jr_iconst K (D_at DX8_gap_q0 5 rfl) (v := (1 : Int32)) (by decide) ?_
    refine jr_isub K (D_at DX8_gap_q0 6 rfl) ?_
    refine jr_icmp_lt K (D_at DX8_gap_q0 7 rfl) (tgt := 18) (by decide) (fun c11 => ?_) (fun c11 => ?_)
    · replace hf := (if_pos c11).symm.trans hf
      refine jr_aload_n K (D_at DX8_gap_q0 10 rfl) rfl rfl ?_
      obtain ⟨p19, e19, hf⟩ := jbind hf
      refine jr_getR K (D_at DX8_gap_q0 11 rfl) fg_X8_9_6 e19 ?_
      refine jr_iload_n K (D_at DX8_gap_q1 0 rfl) rfl rfl ?_
      refine jr_iconst K (D_at DX8_gap_q1 1 rfl) (v := (1 : Int32)) (by decide) ?_
      refine jr_iadd K (D_at DX8_gap_q1 2 rfl) ?_
      obtain ⟨v25, e25, hf⟩ := jbind hf
      refine jr_iald K (D_at DX8_gap_q1 3 rfl) e25 ?_
      refine jr_aload_n K (D_at DX8_gap_q1 4 rfl) rfl rfl ?_
      obtain ⟨p27, e27, hf⟩ := jbind hf
      refine jr_getR K (D_at DX8_gap_q1 5 rfl) fg_X8_9_6 e27 ?_
      refine jr_iload_n K (D_at DX8_gap_q1 6 rfl) rfl rfl ?_
      obtain ⟨v31, e31, hf⟩ := jbind hf
      refine jr_iald K (D_at DX8_gap_q1 7 rfl) e31 ?_
      refine jr_isub K (D_at DX8_gap_q1 8 rfl) ?_
      cases hf
      exact jr_iret K E (D_at DX8_gap_q1 9 rfl) rfl ⟨rfl, rfl⟩
    · replace hf := (if_neg c11).symm.trans hf
      refine jr_iload_n K (D_at DX8_gap_q0 8 rfl) rfl rfl ?_
      refine jr_goto K (D_at DX8_gap_q0 9 rfl) (tgt := 33) (by decide) ?_
      cases hf
      exact jr_iret K E (D_at DX8_gap_q1 9 rfl) rfl ⟨rfl, rfl⟩
theorem C_X8_gap {G : jG} {l : Launch} (d : Nat) {n : Nat} {a0 : Nat} {x1 : Int32} {x2 : Int32} {h : jH} {res : Int32} (hf : F_X8_gap n a0 x1 x2 h = some res) : jC G l mX8_gap (d) 0 0 [.ref a0, .int x1, .int x2] h (jPR h res) :=
  jC.of pn_X8 (jcats rfl) (Nat.le_of_ble_eq_true rfl) (fun X K E => J_X8_gap K n h E a0 x1 x2 hf)
set_option maxHeartbeats 400000 in
set_option maxRecDepth 100000 in
theorem J_X11_bit {G : jG} {l : Launch} {d : Nat} {X : jX} {res : Int32} (K : jOK G l mX11_bit (d) X) (n : Nat) (h : jH) (E : jEnd G mX11_bit (jPR h res) X) (x0 : Int32) (x1 : Int32) (hf : F_X11_bit n x0 x1 h = some res) : jJ G X h 0 0 0 [some (.int x0), some (.int x1)] [] := by
  unfold F_X11_bit at hf
  refine jr_iload_n K (D_at DX11_bit_q0 0 rfl) rfl rfl ?_
  refine jr_iload_n K (D_at DX11_bit_q0 1 rfl) rfl rfl ?_
  refine jr_iushr K (D_at DX11_bit_q0 2 rfl) (v := jushr x0 x1) rfl ?_
  refine jr_iconst K (D_at DX11_bit_q0 3 rfl) (v := (1 : Int32)) (by decide) ?_
  refine jr_iand K (D_at DX11_bit_q0 4 rfl) ?_
  cases hf
  exact jr_iret K E (D_at DX11_bit_q0 5 rfl) rfl ⟨rfl, rfl⟩
theorem C_X11_bit {G : jG} {l : Launch} (d : Nat) {n : Nat} {x0 : Int32} {x1 : Int32} {h : jH} {res : Int32} (hf : F_X11_bit n x0 x1 h = some res) : jC G l mX11_bit (d) 0 0 [.int x0, .int x1] h (jPR h res) :=
  jC.of pn_X11 (jcats rfl) (Nat.le_of_ble_eq_true rfl) (fun X K E => J_X11_bit K n h E x0 x1 hf)
set_option maxHeartbeats 400000 in
set_option maxRecDepth 100000 in
theorem J_X2_value {G : jG} {l : Launch} {d : Nat} {X : jX} {res : Int32} (K : jOK G l mX2_value (d + 1) X) (n : Nat) (h : jH) (E : jEnd G mX2_value (jPR h res) X) (x0 : Int32) (a1 : Nat) (x2 : Int32) (hf : F_X2_value n x0 a1 x2 h = some res) : jJ G X h 0 0 0 [some (.int x0), some (.ref a1), some (.int x2)] [] := by
  unfold F_X2_value at hf
  refine jr_iload_n K (D_at DX2_value_q0 0 rfl) rfl rfl ?_
  by_cases c1_0 : x0 = (0 : Int32)
  · replace hf := (if_pos c1_0).symm.trans hf
    refine jr_tableIn K (D_at DX2_value_q1 0 rfl) (off := 59) (tgt := 60) (by rw [c1_0]; decide) (by rw [c1_0]; decide) (by rw [c1_0]; decide) (by decide) ?_
    refine jr_iload_n K (D_at DX2_value_q2 0 rfl) rfl rfl ?_
    cases hf
    exact jr_iret K E (D_at DX2_value_q2 1 rfl) rfl ⟨rfl, rfl⟩
  replace hf := (if_neg c1_0).symm.trans hf
  by_cases c1_1 : x0 = (1 : Int32)
  · replace hf := (if_pos c1_1).symm.trans hf
    refine jr_tableIn K (D_at DX2_value_q1 0 rfl) (off := 61) (tgt := 62) (by rw [c1_1]; decide) (by rw [c1_1]; decide) (by rw [c1_1]; decide) (by decide) ?_
    refine jr_aload_n K (D_at DX2_value_q2 2 rfl) rfl rfl ?_
    obtain ⟨p63, e63, hf⟩ := jbind hf
    refine jr_getR K (D_at DX2_value_q2 3 rfl) fg_X2_85_6 e63 ?_
    refine jr_iload_n K (D_at DX2_value_q2 4 rfl) rfl rfl ?_
    obtain ⟨v67, e67, hf⟩ := jbind hf
    refine jr_iald K (D_at DX2_value_q2 5 rfl) e67 ?_
    cases hf
    exact jr_iret K E (D_at DX2_value_q2 6 rfl) rfl ⟨rfl, rfl⟩
  replace hf := (if_neg c1_1).symm.trans hf
  by_cases c1_2 : x0 = (2 : Int32)
  · replace hf := (if_pos c1_2).symm.trans hf
    refine jr_tableIn K (D_at DX2_value_q1 0 rfl) (off := 68) (tgt := 69) (by rw [c1_2]; decide) (by rw [c1_2]; decide) (by rw [c1_2]; decide) (by decide) ?_
    refine jr_aload_n K (D_at DX2_value_q2 7 rfl) rfl rfl ?_
    refine jr_iload_n K (D_at DX2_value_q2 8 rfl) rfl rfl ?_
    refine jr_bipush K (D_at DX2_value_q2 9 rfl) (v := (99 : Int32)) (by decide) ?_
    obtain ⟨v73, e73, hf⟩ := jbind hf
    obtain ⟨rc_73, e73⟩ := jcv_o e73
    refine jr_callV K (C_X8_gap (d) e73) (D_at DX2_value_q2 10 rfl) cv_X2_88_X8_gap (As := [.int x2, .int (99 : Int32)]) (ci := 6) rfl rc_73 rfl rfl (by exact Nat.le_of_ble_eq_true rfl) (kc2 := 0) (ks2 := 0) rfl rfl (fun k9 h9 w9 => by cases w9.1) (fun r9 h9 w9 => ?_)
    obtain ⟨w1, w2⟩ := w9
    subst h9
    cases w1
    show jJ G X _ 0 0 _ _ (.int v73 :: _)
    cases hf
    exact jr_iret K E (D_at DX2_value_q2 11 rfl) rfl ⟨rfl, rfl⟩
  replace hf := (if_neg c1_2).symm.trans hf
  by_cases c1_3 : x0 = (3 : Int32)
  · replace hf := (if_pos c1_3).symm.trans hf
    refine jr_tableIn K (D_at DX2_value_q1 0 rfl) (off := 76) (tgt := 77) (by rw [c1_3]; decide) (by rw [c1_3]; decide) (by rw [c1_3]; decide) (by decide) ?_
    refine jr_aload_n K (D_at DX2_value_q3 0 rfl) rfl rfl ?_
    obtain ⟨p78, e78, hf⟩ := jbind hf
    refine jr_getR K (D_at DX2_value_q3 1 rfl) fg_X2_92_6 e78 ?_
    refine jr_iload_n K (D_at DX2_value_q3 2 rfl) rfl rfl ?_
    obtain ⟨v82, e82, hf⟩ := jbind hf
    refine jr_iald K (D_at DX2_value_q3 3 rfl) e82 ?_
    cases hf
    exact jr_iret K E (D_at DX2_value_q3 4 rfl) rfl ⟨rfl, rfl⟩
  replace hf := (if_neg c1_3).symm.trans hf
  by_cases c1_4 : x0 = (4 : Int32)
  · replace hf := (if_pos c1_4).symm.trans hf
    refine jr_tableIn K (D_at DX2_value_q1 0 rfl) (off := 83) (tgt := 84) (by rw [c1_4]; decide) (by rw [c1_4]; decide) (by rw [c1_4]; decide) (by decide) ?_
    refine jr_aload_n K (D_at DX2_value_q3 5 rfl) rfl rfl ?_
    obtain ⟨p85, e85, hf⟩ := jbind hf
    refine jr_getR K (D_at DX2_value_q3 6 rfl) fg_X2_95_6 e85 ?_
    refine jr_iload_n K (D_at DX2_value_q3 7 rfl) rfl rfl ?_
    obtain ⟨v89, e89, hf⟩ := jbind hf
    refine jr_iald K (D_at DX2_value_q3 8 rfl) e89 ?_
    cases hf
    exact jr_iret K E (D_at DX2_value_q3 9 rfl) rfl ⟨rfl, rfl⟩
  replace hf := (if_neg c1_4).symm.trans hf
  by_cases c1_5 : x0 = (5 : Int32)
  · replace hf := (if_pos c1_5).symm.trans hf
    refine jr_tableIn K (D_at DX2_value_q1 0 rfl) (off := 90) (tgt := 91) (by rw [c1_5]; decide) (by rw [c1_5]; decide) (by rw [c1_5]; decide) (by decide) ?_
    refine jr_aload_n K (D_at DX2_value_q3 10 rfl) rfl rfl ?_
    obtain ⟨v92, e92, hf⟩ := jbind hf
    refine jr_getI K (D_at DX2_value_q3 11 rfl) fg_X2_52_6 e92 ?_
    cases hf
    exact jr_iret K E (D_at DX2_value_q4 0 rfl) rfl ⟨rfl, rfl⟩
  replace hf := (if_neg c1_5).symm.trans hf
  by_cases c1_6 : x0 = (6 : Int32)
  · replace hf := (if_pos c1_6).symm.trans hf
    refine jr_tableIn K (D_at DX2_value_q1 0 rfl) (off := 95) (tgt := 96) (by rw [c1_6]; decide) (by rw [c1_6]; decide) (by rw [c1_6]; decide) (by decide) ?_
    refine jr_aload_n K (D_at DX2_value_q4 1 rfl) rfl rfl ?_
    obtain ⟨v97, e97, hf⟩ := jbind hf
    refine jr_getI K (D_at DX2_value_q4 2 rfl) fg_X2_98_6 e97 ?_
    cases hf
    exact jr_iret K E (D_at DX2_value_q4 3 rfl) rfl ⟨rfl, rfl⟩
  replace hf := (if_neg c1_6).symm.trans hf
  by_cases c1_7 : x0 = (7 : Int32)
  · replace hf := (if_pos c1_7).symm.trans hf
    refine jr_tableIn K (D_at DX2_value_q1 0 rfl) (off := 100) (tgt := 101) (by rw [c1_7]; decide) (by rw [c1_7]; decide) (by rw [c1_7]; decide) (by decide) ?_
    refine jr_aload_n K (D_at DX2_value_q4 4 rfl) rfl rfl ?_
    obtain ⟨v102, e102, hf⟩ := jbind hf
    refine jr_getI K (D_at DX2_value_q4 5 rfl) fg_X2_101_6 e102 ?_
    refine jr_iload_n K (D_at DX2_value_q4 6 rfl) rfl rfl ?_
    obtain ⟨v106, e106, hf⟩ := jbind hf
    refine jr_callSN K (C_X11_bit (d) e106) (D_at DX2_value_q4 7 rfl) csn_X2_104_X11_bit (As := [.int v102, .int x2]) rfl rfl (by exact Nat.le_of_ble_eq_true rfl) (kc2 := 0) (ks2 := 0) rfl rfl (fun k9 h9 w9 => by cases w9.1) (fun r9 h9 w9 => ?_)
    obtain ⟨w1, w2⟩ := w9
    subst h9
    cases w1
    show jJ G X _ 0 0 _ _ (.int v106 :: _)
    cases hf
    exact jr_iret K E (D_at DX2_value_q4 8 rfl) rfl ⟨rfl, rfl⟩
  replace hf := (if_neg c1_7).symm.trans hf
  by_cases c1_8 : x0 = (8 : Int32)
  · replace hf := (if_pos c1_8).symm.trans hf
    refine jr_tableIn K (D_at DX2_value_q1 0 rfl) (off := 109) (tgt := 110) (by rw [c1_8]; decide) (by rw [c1_8]; decide) (by rw [c1_8]; decide) (by decide) ?_
    refine jr_aload_n K (D_at DX2_value_q4 9 rfl) rfl rfl ?_
    obtain ⟨v111, e111, hf⟩ := jbind hf
    refine jr_getI K (D_at DX2_value_q4 10 rfl) fg_X2_107_6 e111 ?_
    refine jr_iload_n K (D_at DX2_value_q4 11 rfl) rfl rfl ?_
    obtain ⟨v115, e115, hf⟩ := jbind hf
    refine jr_callSN K (C_X11_bit (d) e115) (D_at DX2_value_q5 0 rfl) csn_X2_104_X11_bit (As := [.int v111, .int x2]) rfl rfl (by exact Nat.le_of_ble_eq_true rfl) (kc2 := 0) (ks2 := 0) rfl rfl (fun k9 h9 w9 => by cases w9.1) (fun r9 h9 w9 => ?_)
    obtain ⟨w1, w2⟩ := w9
    subst h9
    cases w1
    show jJ G X _ 0 0 _ _ (.int v115 :: _)
    cases hf
    exact jr_iret K E (D_at DX2_value_q5 1 rfl) rfl ⟨rfl, rfl⟩
  replace hf := (if_neg c1_8).symm.trans hf
  by_cases c1_9 : x0 = (9 : Int32)
  · replace hf := (if_pos c1_9).symm.trans hf
    refine jr_tableIn K (D_at DX2_value_q1 0 rfl) (off := 118) (tgt := 119) (by rw [c1_9]; decide) (by rw [c1_9]; decide) (by rw [c1_9]; decide) (by decide) ?_
    refine jr_aload_n K (D_at DX2_value_q5 2 rfl) rfl rfl ?_
    refine jr_iload_n K (D_at DX2_value_q5 3 rfl) rfl rfl ?_
    refine jr_aload_n K (D_at DX2_value_q5 4 rfl) rfl rfl ?_
    obtain ⟨v122, e122, hf⟩ := jbind hf
    refine jr_getI K (D_at DX2_value_q5 5 rfl) fg_X2_52_6 e122 ?_
    obtain ⟨v125, e125, hf⟩ := jbind hf
    obtain ⟨rc_125, e125⟩ := jcv_o e125
    refine jr_callV K (C_X8_isLit (d) e125) (D_at DX2_value_q5 6 rfl) cv_X2_57_X8_isLit (As := [.int x2, .int v122]) (ci := 6) rfl rc_125 rfl rfl (by exact Nat.le_of_ble_eq_true rfl) (kc2 := 0) (ks2 := 0) rfl rfl (fun k9 h9 w9 => by cases w9.1) (fun r9 h9 w9 => ?_)
    obtain ⟨w1, w2⟩ := w9
    subst h9
    cases w1
    show jJ G X _ 0 0 _ _ (.int v125 :: _)
    refine jr_if_eq K (D_at DX2_value_q5 7 rfl) (tgt := 135) (by decide) (fun c128 => ?_) (fun c128 => ?_)
    · replace hf := (if_pos c128).symm.trans hf
      refine jr_iconst K (D_at DX2_value_q5 10 rfl) (v := (0 : Int32)) (by decide) ?_
      cases hf
      exact jr_iret K E (D_at DX2_value_q5 11 rfl) rfl ⟨rfl, rfl⟩
    · replace hf := (if_neg c128).symm.trans hf
      refine jr_iconst K (D_at DX2_value_q5 8 rfl) (v := (1 : Int32)) (by decide) ?_
      refine jr_goto K (D_at DX2_value_q5 9 rfl) (tgt := 136) (by decide) ?_
      cases hf
      exact jr_iret K E (D_at DX2_value_q5 11 rfl) rfl ⟨rfl, rfl⟩
  replace hf := (if_neg c1_9).symm.trans hf
  by_cases c1_10 : x0 = (10 : Int32)
  · replace hf := (if_pos c1_10).symm.trans hf
    refine jr_tableIn K (D_at DX2_value_q1 0 rfl) (off := 136) (tgt := 137) (by rw [c1_10]; decide) (by rw [c1_10]; decide) (by rw [c1_10]; decide) (by decide) ?_
    refine jr_aload_n K (D_at DX2_value_q6 0 rfl) rfl rfl ?_
    obtain ⟨v138, e138, hf⟩ := jbind hf
    refine jr_getI K (D_at DX2_value_q6 1 rfl) fg_X2_110_6 e138 ?_
    refine jr_iload_n K (D_at DX2_value_q6 2 rfl) rfl rfl ?_
    obtain ⟨v142, e142, hf⟩ := jbind hf
    refine jr_callSN K (C_X11_bit (d) e142) (D_at DX2_value_q6 3 rfl) csn_X2_104_X11_bit (As := [.int v138, .int x2]) rfl rfl (by exact Nat.le_of_ble_eq_true rfl) (kc2 := 0) (ks2 := 0) rfl rfl (fun k9 h9 w9 => by cases w9.1) (fun r9 h9 w9 => ?_)
    obtain ⟨w1, w2⟩ := w9
    subst h9
    cases w1
    show jJ G X _ 0 0 _ _ (.int v142 :: _)
    cases hf
    exact jr_iret K E (D_at DX2_value_q6 4 rfl) rfl ⟨rfl, rfl⟩
  replace hf := (if_neg c1_10).symm.trans hf
  have w1_0 := lv_neT c1_0 (a := 0) (by decide)
  have w1_1 := lv_neT c1_1 (a := 1) (by decide)
  have w1_2 := lv_neT c1_2 (a := 2) (by decide)
  have w1_3 := lv_neT c1_3 (a := 3) (by decide)
  have w1_4 := lv_neT c1_4 (a := 4) (by decide)
  have w1_5 := lv_neT c1_5 (a := 5) (by decide)
  have w1_6 := lv_neT c1_6 (a := 6) (by decide)
  have w1_7 := lv_neT c1_7 (a := 7) (by decide)
  have w1_8 := lv_neT c1_8 (a := 8) (by decide)
  have w1_9 := lv_neT c1_9 (a := 9) (by decide)
  have w1_10 := lv_neT c1_10 (a := 10) (by decide)
  refine jr_tableOut K (D_at DX2_value_q1 0 rfl) (tgt := 146) (by omega) (by decide) ?_
  refine jr_iload_n K (D_at DX2_value_q6 5 rfl) rfl rfl ?_
  refine jr_sipush K (D_at DX2_value_q6 6 rfl) (v := (256 : Int32)) (by decide) ?_
  refine jr_isub K (D_at DX2_value_q6 7 rfl) ?_
  cases hf
  exact jr_iret K E (D_at DX2_value_q6 8 rfl) rfl ⟨rfl, rfl⟩
theorem C_X2_value {G : jG} {l : Launch} (d : Nat) {n : Nat} {x0 : Int32} {a1 : Nat} {x2 : Int32} {h : jH} {res : Int32} (hf : F_X2_value n x0 a1 x2 h = some res) : jC G l mX2_value (d + 1) 0 0 [.int x0, .ref a1, .int x2] h (jPR h res) :=
  jC.of pn_X2 (jcats rfl) (Nat.le_of_ble_eq_true rfl) (fun X K E => J_X2_value K n h E x0 a1 x2 hf)
set_option maxHeartbeats 400000 in
set_option maxRecDepth 100000 in
theorem J_X2_push {G : jG} {l : Launch} {d : Nat} {X : jX} {res : jH} (K : jOK G l mX2_push (d) X) (n : Nat) (E : jEnd G mX2_push (jPV res) X) (a0 : Nat) (x1 : Int32) (h : jH) (hf : F_X2_push n a0 x1 h = some res) : jJ G X h 0 0 0 [some (.ref a0), some (.int x1)] [] := by
  unfold F_X2_push at hf
  refine jr_aload_n K (D_at DX2_push_q0 0 rfl) rfl rfl ?_
  obtain ⟨v1, e1, hf⟩ := jbind hf
  refine jr_getI K (D_at DX2_push_q0 1 rfl) fg_X2_61_2 e1 ?_
  refine jr_bipush K (D_at DX2_push_q0 2 rfl) (v := (24 : Int32)) (by decide) ?_
  refine jr_icmp_ge K (D_at DX2_push_q0 3 rfl) (tgt := 29) (by decide) (fun c6 => ?_) (fun c6 => ?_)
  · replace hf := (if_pos c6).symm.trans hf
    cases hf
    exact jr_vret K E (D_at DX2_push_q1 4 rfl) rfl ⟨rfl, rfl⟩
  · replace hf := (if_neg c6).symm.trans hf
    refine jr_aload_n K (D_at DX2_push_q0 4 rfl) rfl rfl ?_
    obtain ⟨p10, e10, hf⟩ := jbind hf
    refine jr_getR K (D_at DX2_push_q0 5 rfl) fg_X2_24_2 e10 ?_
    refine jr_aload_n K (D_at DX2_push_q0 6 rfl) rfl rfl ?_
    obtain ⟨v14, e14, hf⟩ := jbind hf
    refine jr_getI K (D_at DX2_push_q0 7 rfl) fg_X2_61_2 e14 ?_
    refine jr_iload_n K (D_at DX2_push_q0 8 rfl) rfl rfl ?_
    obtain ⟨h18, e18, hf⟩ := jbind hf
    refine jr_iast K (D_at DX2_push_q0 9 rfl) e18 ?_
    refine jr_aload_n K (D_at DX2_push_q0 10 rfl) rfl rfl ?_
    refine jr_dup K (D_at DX2_push_q0 11 rfl) rfl ?_
    obtain ⟨v21, e21, hf⟩ := jbind hf
    refine jr_getI K (D_at DX2_push_q1 0 rfl) fg_X2_61_2 e21 ?_
    refine jr_iconst K (D_at DX2_push_q1 1 rfl) (v := (1 : Int32)) (by decide) ?_
    refine jr_iadd K (D_at DX2_push_q1 2 rfl) ?_
    obtain ⟨h26, e26, hf⟩ := jbind hf
    refine jr_putI K (D_at DX2_push_q1 3 rfl) fp_X2_61_2 (Or.inl rfl) e26 ?_
    cases hf
    exact jr_vret K E (D_at DX2_push_q1 4 rfl) rfl ⟨rfl, rfl⟩
theorem C_X2_push {G : jG} {l : Launch} (d : Nat) {n : Nat} {a0 : Nat} {x1 : Int32} {h : jH} {res : jH} (hf : F_X2_push n a0 x1 h = some res) : jC G l mX2_push (d) 0 0 [.ref a0, .int x1] h (jPV res) :=
  jC.of pn_X2 (jcats rfl) (Nat.le_of_ble_eq_true rfl) (fun X K E => J_X2_push K n E a0 x1 h hf)
set_option maxHeartbeats 400000 in
set_option maxRecDepth 100000 in
theorem J_X2_pop {G : jG} {l : Launch} {d : Nat} {X : jX} {res : (Int32 × jH)} (K : jOK G l mX2_pop (d) X) (n : Nat) (E : jEnd G mX2_pop (jPW res) X) (a0 : Nat) (h : jH) (hf : F_X2_pop n a0 h = some res) : jJ G X h 0 0 0 [some (.ref a0)] [] := by
  unfold F_X2_pop at hf
  refine jr_aload_n K (D_at DX2_pop_q0 0 rfl) rfl rfl ?_
  obtain ⟨v1, e1, hf⟩ := jbind hf
  refine jr_getI K (D_at DX2_pop_q0 1 rfl) fg_X2_61_2 e1 ?_
  refine jr_if_gt K (D_at DX2_pop_q0 2 rfl) (tgt := 9) (by decide) (fun c4 => ?_) (fun c4 => ?_)
  · replace hf := (if_pos c4).symm.trans hf
    refine jr_aload_n K (D_at DX2_pop_q0 5 rfl) rfl rfl ?_
    refine jr_dup K (D_at DX2_pop_q0 6 rfl) rfl ?_
    obtain ⟨v11, e11, hf⟩ := jbind hf
    refine jr_getI K (D_at DX2_pop_q0 7 rfl) fg_X2_61_2 e11 ?_
    refine jr_iconst K (D_at DX2_pop_q0 8 rfl) (v := (1 : Int32)) (by decide) ?_
    refine jr_isub K (D_at DX2_pop_q0 9 rfl) ?_
    obtain ⟨h16, e16, hf⟩ := jbind hf
    refine jr_putI K (D_at DX2_pop_q0 10 rfl) fp_X2_61_2 (Or.inl rfl) e16 ?_
    refine jr_aload_n K (D_at DX2_pop_q0 11 rfl) rfl rfl ?_
    obtain ⟨p20, e20, hf⟩ := jbind hf
    refine jr_getR K (D_at DX2_pop_q1 0 rfl) fg_X2_24_2 e20 ?_
    refine jr_aload_n K (D_at DX2_pop_q1 1 rfl) rfl rfl ?_
    obtain ⟨v24, e24, hf⟩ := jbind hf
    refine jr_getI K (D_at DX2_pop_q1 2 rfl) fg_X2_61_2 e24 ?_
    obtain ⟨v27, e27, hf⟩ := jbind hf
    refine jr_iald K (D_at DX2_pop_q1 3 rfl) e27 ?_
    cases hf
    exact jr_iret K E (D_at DX2_pop_q1 4 rfl) rfl ⟨rfl, rfl⟩
  · replace hf := (if_neg c4).symm.trans hf
    refine jr_iconst K (D_at DX2_pop_q0 3 rfl) (v := (0 : Int32)) (by decide) ?_
    cases hf
    exact jr_iret K E (D_at DX2_pop_q0 4 rfl) rfl ⟨rfl, rfl⟩
theorem C_X2_pop {G : jG} {l : Launch} (d : Nat) {n : Nat} {a0 : Nat} {h : jH} {res : (Int32 × jH)} (hf : F_X2_pop n a0 h = some res) : jC G l mX2_pop (d) 0 0 [.ref a0] h (jPW res) :=
  jC.of pn_X2 (jcats rfl) (Nat.le_of_ble_eq_true rfl) (fun X K E => J_X2_pop K n E a0 h hf)
set_option maxHeartbeats 400000 in
set_option maxRecDepth 100000 in
theorem J_X2_joined {G : jG} {l : Launch} {d : Nat} {X : jX} {res : Int32} (K : jOK G l mX2_joined (d) X) (n : Nat) (h : jH) (E : jEnd G mX2_joined (jPR h res) X) (x0 : Int32) (x1 : Int32) (x2 : Int32) (hf : F_X2_joined n x0 x1 x2 h = some res) : jJ G X h 0 0 0 [some (.int x0), some (.int x1), some (.int x2)] [] := by
  unfold F_X2_joined at hf
  refine jr_iload_n K (D_at DX2_joined_q0 0 rfl) rfl rfl ?_
  by_cases c1_0 : x0 = (12 : Int32)
  · replace hf := (if_pos c1_0).symm.trans hf
    refine jr_lookup K (D_at DX2_joined_q1 0 rfl) (off := 69) (tgt := 70) (by decide) (by rw [c1_0]; decide) (by decide) ?_
    refine jr_iload_n K (D_at DX2_joined_q3 6 rfl) rfl rfl ?_
    refine jr_iload_n K (D_at DX2_joined_q3 7 rfl) rfl rfl ?_
    refine jr_iand K (D_at DX2_joined_q3 8 rfl) ?_
    cases hf
    exact jr_iret K E (D_at DX2_joined_q3 9 rfl) rfl ⟨rfl, rfl⟩
  replace hf := (if_neg c1_0).symm.trans hf
  by_cases c1_1 : x0 = (43 : Int32)
  · replace hf := (if_pos c1_1).symm.trans hf
    refine jr_lookup K (D_at DX2_joined_q1 0 rfl) (off := 43) (tgt := 44) (by decide) (by rw [c1_1]; decide) (by decide) ?_
    refine jr_iload_n K (D_at DX2_joined_q2 0 rfl) rfl rfl ?_
    refine jr_iload_n K (D_at DX2_joined_q2 1 rfl) rfl rfl ?_
    refine jr_iadd K (D_at DX2_joined_q2 2 rfl) ?_
    cases hf
    exact jr_iret K E (D_at DX2_joined_q2 3 rfl) rfl ⟨rfl, rfl⟩
  replace hf := (if_neg c1_1).symm.trans hf
  by_cases c1_2 : x0 = (60 : Int32)
  · replace hf := (if_pos c1_2).symm.trans hf
    refine jr_lookup K (D_at DX2_joined_q1 0 rfl) (off := 47) (tgt := 48) (by decide) (by rw [c1_2]; decide) (by decide) ?_
    refine jr_iload_n K (D_at DX2_joined_q2 4 rfl) rfl rfl ?_
    refine jr_iload_n K (D_at DX2_joined_q2 5 rfl) rfl rfl ?_
    refine jr_icmp_ge K (D_at DX2_joined_q2 6 rfl) (tgt := 57) (by decide) (fun c50 => ?_) (fun c50 => ?_)
    · replace hf := (if_pos c50).symm.trans hf
      refine jr_iconst K (D_at DX2_joined_q2 9 rfl) (v := (0 : Int32)) (by decide) ?_
      cases hf
      exact jr_iret K E (D_at DX2_joined_q2 10 rfl) rfl ⟨rfl, rfl⟩
    · replace hf := (if_neg c50).symm.trans hf
      refine jr_iconst K (D_at DX2_joined_q2 7 rfl) (v := (1 : Int32)) (by decide) ?_
      refine jr_goto K (D_at DX2_joined_q2 8 rfl) (tgt := 58) (by decide) ?_
      cases hf
      exact jr_iret K E (D_at DX2_joined_q2 10 rfl) rfl ⟨rfl, rfl⟩
  replace hf := (if_neg c1_2).symm.trans hf
  by_cases c1_3 : x0 = (62 : Int32)
  · replace hf := (if_pos c1_3).symm.trans hf
    refine jr_lookup K (D_at DX2_joined_q1 0 rfl) (off := 58) (tgt := 59) (by decide) (by rw [c1_3]; decide) (by decide) ?_
    refine jr_iload_n K (D_at DX2_joined_q2 11 rfl) rfl rfl ?_
    refine jr_iload_n K (D_at DX2_joined_q3 0 rfl) rfl rfl ?_
    refine jr_icmp_le K (D_at DX2_joined_q3 1 rfl) (tgt := 68) (by decide) (fun c61 => ?_) (fun c61 => ?_)
    · replace hf := (if_pos c61).symm.trans hf
      refine jr_iconst K (D_at DX2_joined_q3 4 rfl) (v := (0 : Int32)) (by decide) ?_
      cases hf
      exact jr_iret K E (D_at DX2_joined_q3 5 rfl) rfl ⟨rfl, rfl⟩
    · replace hf := (if_neg c61).symm.trans hf
      refine jr_iconst K (D_at DX2_joined_q3 2 rfl) (v := (1 : Int32)) (by decide) ?_
      refine jr_goto K (D_at DX2_joined_q3 3 rfl) (tgt := 69) (by decide) ?_
      cases hf
      exact jr_iret K E (D_at DX2_joined_q3 5 rfl) rfl ⟨rfl, rfl⟩
  replace hf := (if_neg c1_3).symm.trans hf
  refine jr_lookup K (D_at DX2_joined_q1 0 rfl) (off := 73) (tgt := 74) (by decide) (by show Op.lookupswitch.offset [(12, 69), (43, 43), (60, 47), (62, 58)] 73 _ = _; rw [lv_osw c1_0 (a := 12) (by decide), lv_osw c1_1 (a := 43) (by decide), lv_osw c1_2 (a := 60) (by decide), lv_osw c1_3 (a := 62) (by decide)]; rfl) (by decide) ?_
  refine jr_iload_n K (D_at DX2_joined_q3 10 rfl) rfl rfl ?_
  refine jr_iload_n K (D_at DX2_joined_q3 11 rfl) rfl rfl ?_
  refine jr_ior K (D_at DX2_joined_q4 0 rfl) ?_
  cases hf
  exact jr_iret K E (D_at DX2_joined_q4 1 rfl) rfl ⟨rfl, rfl⟩
theorem C_X2_joined {G : jG} {l : Launch} (d : Nat) {n : Nat} {x0 : Int32} {x1 : Int32} {x2 : Int32} {h : jH} {res : Int32} (hf : F_X2_joined n x0 x1 x2 h = some res) : jC G l mX2_joined (d) 0 0 [.int x0, .int x1, .int x2] h (jPR h res) :=
  jC.of pn_X2 (jcats rfl) (Nat.le_of_ble_eq_true rfl) (fun X K E => J_X2_joined K n h E x0 x1 x2 hf)
set_option maxHeartbeats 400000 in
set_option maxRecDepth 100000 in
theorem J_X2_holds_23_b {G : jG} {l : Launch} {d : Nat} {X : jX} {res : (Int32 × jH)} (K : jOK G l mX2_holds (d + 2) X) (n : Nat) (rc23 : Nat → Int32 → Nat → Int32 → Int32 → jH → Option (Int32 × jH)) (hr23 : ∀ (a0 : Nat) (x1 : Int32) (a2 : Nat) (x3 : Int32) (x4 : Int32) (h : jH), rc23 a0 x1 a2 x3 x4 h = some res → jJ G X h 0 0 23 [some (.ref a0), some (.int x1), some (.ref a2), some (.int x3), some (.int x4), none, none] []) (E : jEnd G mX2_holds (jPW res) X) (a0 : Nat) (x1 : Int32) (a2 : Nat) (x3 : Int32) (x4 : Int32) (h : jH) (hf : F_X2_holds_23_b n rc23 a0 x1 a2 x3 x4 h = some res) : jJ G X h 0 0 23 [some (.ref a0), some (.int x1), some (.ref a2), some (.int x3), some (.int x4), none, none] [] := by
  unfold F_X2_holds_23_b at hf
  refine jr_iload K (D_at DX2_holds_q1 2 rfl) rfl ?_
  refine jr_aload_n K (D_at DX2_holds_q1 3 rfl) rfl rfl ?_
  obtain ⟨p26, e26, hf⟩ := jbind hf
  refine jr_getR K (D_at DX2_holds_q1 4 rfl) fg_X2_18_2 e26 ?_
  refine jr_iload_n K (D_at DX2_holds_q1 5 rfl) rfl rfl ?_
  obtain ⟨v30, e30, hf⟩ := jbind hf
  refine jr_iald K (D_at DX2_holds_q1 6 rfl) e30 ?_
  refine jr_icmp_ge K (D_at DX2_holds_q1 7 rfl) (tgt := 112) (by decide) (fun c31 => ?_) (fun c31 => ?_)
  · replace hf := (if_pos c31).symm.trans hf
    refine jr_aload_n K (D_at DX2_holds_q4 9 rfl) rfl rfl ?_
    obtain ⟨v113, e113, hf⟩ := jbind hf
    refine jr_getI K (D_at DX2_holds_q4 10 rfl) fg_X2_61_2 e113 ?_
    refine jr_if_eq K (D_at DX2_holds_q4 11 rfl) (tgt := 126) (by decide) (fun c116 => ?_) (fun c116 => ?_)
    · replace hf := (if_pos c116).symm.trans hf
      refine jr_iconst K (D_at DX2_holds_q5 3 rfl) (v := (1 : Int32)) (by decide) ?_
      refine jr_goto K (D_at DX2_holds_1_q0 0 rfl) (tgt := 131) (by decide) ?_
      cases hf
      exact jr_zret K E (D_at DX2_holds_1_q0 2 rfl) rfl (Or.inr rfl) ⟨rfl, rfl⟩
    · replace hf := (if_neg c116).symm.trans hf
      refine jr_aload_n K (D_at DX2_holds_q5 0 rfl) rfl rfl ?_
      obtain ⟨q120, e120, hf⟩ := jbind hf
      obtain ⟨rc_120, e120⟩ := jcv_o e120
      refine jr_callV K (C_X2_pop (d + 1) e120) (D_at DX2_holds_q5 1 rfl) cv_X2_77_X2_pop (As := []) (ci := 2) rfl rc_120 rfl rfl (by exact Nat.le_of_ble_eq_true rfl) (kc2 := 0) (ks2 := 0) rfl rfl (fun k9 h9 w9 => by cases w9.1) (fun r9 h9 w9 => ?_)
      obtain ⟨w1, w2⟩ := w9
      subst h9
      cases w1
      show jJ G X _ 0 0 _ _ (.int q120.1 :: _)
      refine jr_if_eq K (D_at DX2_holds_q5 2 rfl) (tgt := 130) (by decide) (fun c123 => ?_) (fun c123 => ?_)
      · replace hf := (if_pos c123).symm.trans hf
        refine jr_iconst K (D_at DX2_holds_1_q0 1 rfl) (v := (0 : Int32)) (by decide) ?_
        cases hf
        exact jr_zret K E (D_at DX2_holds_1_q0 2 rfl) rfl (Or.inl rfl) ⟨rfl, rfl⟩
      · replace hf := (if_neg c123).symm.trans hf
        refine jr_iconst K (D_at DX2_holds_q5 3 rfl) (v := (1 : Int32)) (by decide) ?_
        refine jr_goto K (D_at DX2_holds_1_q0 0 rfl) (tgt := 131) (by decide) ?_
        cases hf
        exact jr_zret K E (D_at DX2_holds_1_q0 2 rfl) rfl (Or.inr rfl) ⟨rfl, rfl⟩
  · replace hf := (if_neg c31).symm.trans hf
    refine jr_aload_n K (D_at DX2_holds_q1 8 rfl) rfl rfl ?_
    obtain ⟨p35, e35, hf⟩ := jbind hf
    refine jr_getR K (D_at DX2_holds_q1 9 rfl) fg_X2_21_2 e35 ?_
    refine jr_iload K (D_at DX2_holds_q1 10 rfl) rfl ?_
    obtain ⟨v40, e40, hf⟩ := jbind hf
    refine jr_iald K (D_at DX2_holds_q1 11 rfl) e40 ?_
    refine jr_istore K (D_at DX2_holds_q2 0 rfl) (i := 5) (by decide) (L2 := [_, _, _, _, _, _, _]) rfl ?_
    refine jr_iload K (D_at DX2_holds_q2 1 rfl) rfl ?_
    obtain ⟨v45, e45, hf⟩ := jbind hf
    refine jr_callS K (C_X2_isValue (d + 1) e45) (D_at DX2_holds_q2 2 rfl) cs_X2_64_X2_isValue (As := [.int v40]) rfl rfl (by exact Nat.le_of_ble_eq_true rfl) (kc2 := 0) (ks2 := 0) rfl rfl (fun k9 h9 w9 => by cases w9.1) (fun r9 h9 w9 => ?_)
    obtain ⟨w1, w2⟩ := w9
    subst h9
    cases w1
    show jJ G X _ 0 0 _ _ (.int v45 :: _)
    refine jr_if_eq K (D_at DX2_holds_q2 3 rfl) (tgt := 65) (by decide) (fun c48 => ?_) (fun c48 => ?_)
    · replace hf := (if_pos c48).symm.trans hf
      refine jr_iload K (D_at DX2_holds_q2 11 rfl) rfl ?_
      refine jr_bipush K (D_at DX2_holds_q3 0 rfl) (v := (11 : Int32)) (by decide) ?_
      refine jr_icmp_ne K (D_at DX2_holds_q3 1 rfl) (tgt := 85) (by decide) (fun c69 => ?_) (fun c69 => ?_)
      · replace hf := (if_neg c69).symm.trans hf
        refine jr_aload_n K (D_at DX2_holds_q3 9 rfl) rfl rfl ?_
        obtain ⟨q86, e86, hf⟩ := jbind hf
        obtain ⟨rc_86, e86⟩ := jcv_o e86
        refine jr_callV K (C_X2_pop (d + 1) e86) (D_at DX2_holds_q3 10 rfl) cv_X2_77_X2_pop (As := []) (ci := 2) rfl rc_86 rfl rfl (by exact Nat.le_of_ble_eq_true rfl) (kc2 := 0) (ks2 := 0) rfl rfl (fun k9 h9 w9 => by cases w9.1) (fun r9 h9 w9 => ?_)
        obtain ⟨w1, w2⟩ := w9
        subst h9
        cases w1
        show jJ G X _ 0 0 _ _ (.int q86.1 :: _)
        refine jr_istore K (D_at DX2_holds_q3 11 rfl) (i := 6) (by decide) (L2 := [_, _, _, _, _, _, _]) rfl ?_
        refine jr_aload_n K (D_at DX2_holds_q4 0 rfl) rfl rfl ?_
        refine jr_iload K (D_at DX2_holds_q4 1 rfl) rfl ?_
        refine jr_aload_n K (D_at DX2_holds_q4 2 rfl) rfl rfl ?_
        obtain ⟨q95, e95, hf⟩ := jbind hf
        obtain ⟨rc_95, e95⟩ := jcv_o e95
        refine jr_callV K (C_X2_pop (d + 1) e95) (D_at DX2_holds_q4 3 rfl) cv_X2_77_X2_pop (As := []) (ci := 2) rfl rc_95 rfl rfl (by exact Nat.le_of_ble_eq_true rfl) (kc2 := 0) (ks2 := 0) rfl rfl (fun k9 h9 w9 => by cases w9.1) (fun r9 h9 w9 => ?_)
        obtain ⟨w1, w2⟩ := w9
        subst h9
        cases w1
        show jJ G X _ 0 0 _ _ (.int q95.1 :: _)
        refine jr_iload K (D_at DX2_holds_q4 4 rfl) rfl ?_
        obtain ⟨v100, e100, hf⟩ := jbind hf
        refine jr_callS K (C_X2_joined (d + 1) e100) (D_at DX2_holds_q4 5 rfl) cs_X2_81_X2_joined (As := [.int v40, .int q95.1, .int q86.1]) rfl rfl (by exact Nat.le_of_ble_eq_true rfl) (kc2 := 0) (ks2 := 0) rfl rfl (fun k9 h9 w9 => by cases w9.1) (fun r9 h9 w9 => ?_)
        obtain ⟨w1, w2⟩ := w9
        subst h9
        cases w1
        show jJ G X _ 0 0 _ _ (.int v100 :: _)
        obtain ⟨h103, e103, hf⟩ := jbind hf
        obtain ⟨rc_103, e103⟩ := jcv_o e103
        refine jr_callV K (C_X2_push (d + 1) e103) (D_at DX2_holds_q4 6 rfl) cv_X2_71_X2_push (As := [.int v100]) (ci := 2) rfl rc_103 rfl rfl (by exact Nat.le_of_ble_eq_true rfl) (kc2 := 0) (ks2 := 0) rfl rfl (fun k9 h9 w9 => by cases w9.1) (fun r9 h9 w9 => ?_)
        obtain ⟨w1, w2⟩ := w9
        subst h9
        cases w1
        show jJ G X _ 0 0 _ _ []
        refine jr_iinc K (D_at DX2_holds_q4 7 rfl) (i := 4) rfl (v := x4 + (1 : Int32)) (jinc (by decide)) (by decide) (L2 := [_, _, _, _, _, _, _]) rfl ?_
        refine jr_goto K (D_at DX2_holds_q4 8 rfl) (tgt := 23) (by decide) ?_
        refine jr_keep [true, true, true, true, true, false, false] ?_
        exact hr23 a0 x1 a2 x3 (x4 + (1 : Int32)) h103 hf
      · replace hf := (if_pos c69).symm.trans hf
        refine jr_aload_n K (D_at DX2_holds_q3 2 rfl) rfl rfl ?_
        refine jr_iconst K (D_at DX2_holds_q3 3 rfl) (v := (1 : Int32)) (by decide) ?_
        refine jr_aload_n K (D_at DX2_holds_q3 4 rfl) rfl rfl ?_
        obtain ⟨q75, e75, hf⟩ := jbind hf
        obtain ⟨rc_75, e75⟩ := jcv_o e75
        refine jr_callV K (C_X2_pop (d + 1) e75) (D_at DX2_holds_q3 5 rfl) cv_X2_77_X2_pop (As := []) (ci := 2) rfl rc_75 rfl rfl (by exact Nat.le_of_ble_eq_true rfl) (kc2 := 0) (ks2 := 0) rfl rfl (fun k9 h9 w9 => by cases w9.1) (fun r9 h9 w9 => ?_)
        obtain ⟨w1, w2⟩ := w9
        subst h9
        cases w1
        show jJ G X _ 0 0 _ _ (.int q75.1 :: _)
        refine jr_isub K (D_at DX2_holds_q3 6 rfl) ?_
        obtain ⟨h79, e79, hf⟩ := jbind hf
        obtain ⟨rc_79, e79⟩ := jcv_o e79
        refine jr_callV K (C_X2_push (d + 1) e79) (D_at DX2_holds_q3 7 rfl) cv_X2_71_X2_push (As := [.int ((1 : Int32) - q75.1)]) (ci := 2) rfl rc_79 rfl rfl (by exact Nat.le_of_ble_eq_true rfl) (kc2 := 0) (ks2 := 0) rfl rfl (fun k9 h9 w9 => by cases w9.1) (fun r9 h9 w9 => ?_)
        obtain ⟨w1, w2⟩ := w9
        subst h9
        cases w1
        show jJ G X _ 0 0 _ _ []
        refine jr_goto K (D_at DX2_holds_q3 8 rfl) (tgt := 106) (by decide) ?_
        refine jr_iinc K (D_at DX2_holds_q4 7 rfl) (i := 4) rfl (v := x4 + (1 : Int32)) (jinc (by decide)) (by decide) (L2 := [_, _, _, _, _, _, _]) rfl ?_
        refine jr_goto K (D_at DX2_holds_q4 8 rfl) (tgt := 23) (by decide) ?_
        refine jr_keep [true, true, true, true, true, false, false] ?_
        exact hr23 a0 x1 a2 x3 (x4 + (1 : Int32)) h79 hf
    · replace hf := (if_neg c48).symm.trans hf
      refine jr_aload_n K (D_at DX2_holds_q2 4 rfl) rfl rfl ?_
      refine jr_iload K (D_at DX2_holds_q2 5 rfl) rfl ?_
      refine jr_aload_n K (D_at DX2_holds_q2 6 rfl) rfl rfl ?_
      refine jr_iload_n K (D_at DX2_holds_q2 7 rfl) rfl rfl ?_
      obtain ⟨v56, e56, hf⟩ := jbind hf
      refine jr_callS K (C_X2_value (d) e56) (D_at DX2_holds_q2 8 rfl) cs_X2_68_X2_value (As := [.int v40, .ref a2, .int x3]) rfl rfl (by exact Nat.le_of_ble_eq_true rfl) (kc2 := 0) (ks2 := 0) rfl rfl (fun k9 h9 w9 => by cases w9.1) (fun r9 h9 w9 => ?_)
      obtain ⟨w1, w2⟩ := w9
      subst h9
      cases w1
      show jJ G X _ 0 0 _ _ (.int v56 :: _)
      obtain ⟨h59, e59, hf⟩ := jbind hf
      obtain ⟨rc_59, e59⟩ := jcv_o e59
      refine jr_callV K (C_X2_push (d + 1) e59) (D_at DX2_holds_q2 9 rfl) cv_X2_71_X2_push (As := [.int v56]) (ci := 2) rfl rc_59 rfl rfl (by exact Nat.le_of_ble_eq_true rfl) (kc2 := 0) (ks2 := 0) rfl rfl (fun k9 h9 w9 => by cases w9.1) (fun r9 h9 w9 => ?_)
      obtain ⟨w1, w2⟩ := w9
      subst h9
      cases w1
      show jJ G X _ 0 0 _ _ []
      refine jr_goto K (D_at DX2_holds_q2 10 rfl) (tgt := 106) (by decide) ?_
      refine jr_iinc K (D_at DX2_holds_q4 7 rfl) (i := 4) rfl (v := x4 + (1 : Int32)) (jinc (by decide)) (by decide) (L2 := [_, _, _, _, _, _, _]) rfl ?_
      refine jr_goto K (D_at DX2_holds_q4 8 rfl) (tgt := 23) (by decide) ?_
      refine jr_keep [true, true, true, true, true, false, false] ?_
      exact hr23 a0 x1 a2 x3 (x4 + (1 : Int32)) h59 hf
theorem J_X2_holds_23 {G : jG} {l : Launch} {d : Nat} {X : jX} {res : (Int32 × jH)} (K : jOK G l mX2_holds (d + 2) X) (n : Nat) (E : jEnd G mX2_holds (jPW res) X) (k : Nat) : ∀ (a0 : Nat) (x1 : Int32) (a2 : Nat) (x3 : Int32) (x4 : Int32) (h : jH), F_X2_holds_23 n k a0 x1 a2 x3 x4 h = some res → jJ G X h 0 0 23 [some (.ref a0), some (.int x1), some (.ref a2), some (.int x3), some (.int x4), none, none] [] := by
  induction k with
  | zero =>
    intro a0 x1 a2 x3 x4 h hf
    exact jno (show (none : Option (Int32 × jH)) = some res from hf)
  | succ k ih =>
    intro a0 x1 a2 x3 x4 h hf
    exact J_X2_holds_23_b K n (F_X2_holds_23 n k) ih E a0 x1 a2 x3 x4 h hf
set_option maxHeartbeats 400000 in
set_option maxRecDepth 100000 in
theorem J_X2_holds {G : jG} {l : Launch} {d : Nat} {X : jX} {res : (Int32 × jH)} (K : jOK G l mX2_holds (d + 2) X) (n : Nat) (E : jEnd G mX2_holds (jPW res) X) (a0 : Nat) (x1 : Int32) (a2 : Nat) (x3 : Int32) (h : jH) (hf : F_X2_holds n a0 x1 a2 x3 h = some res) : jJ G X h 0 0 0 [some (.ref a0), some (.int x1), some (.ref a2), some (.int x3), none, none, none] [] := by
  unfold F_X2_holds at hf
  refine jr_aload_n K (D_at DX2_holds_q0 0 rfl) rfl rfl ?_
  refine jr_iconst K (D_at DX2_holds_q0 1 rfl) (v := (0 : Int32)) (by decide) ?_
  obtain ⟨h2, e2, hf⟩ := jbind hf
  refine jr_putI K (D_at DX2_holds_q0 2 rfl) fp_X2_61_2 (Or.inl rfl) e2 ?_
  refine jr_iload_n K (D_at DX2_holds_q0 3 rfl) rfl rfl ?_
  refine jr_if_ne K (D_at DX2_holds_q0 4 rfl) (tgt := 13) (by decide) (fun c6 => ?_) (fun c6 => ?_)
  · replace hf := (if_neg c6).symm.trans hf
    refine jr_aload_n K (D_at DX2_holds_q0 7 rfl) rfl rfl ?_
    obtain ⟨p14, e14, hf⟩ := jbind hf
    refine jr_getR K (D_at DX2_holds_q0 8 rfl) fg_X2_18_2 e14 ?_
    refine jr_iload_n K (D_at DX2_holds_q0 9 rfl) rfl rfl ?_
    refine jr_iconst K (D_at DX2_holds_q0 10 rfl) (v := (1 : Int32)) (by decide) ?_
    refine jr_isub K (D_at DX2_holds_q0 11 rfl) ?_
    obtain ⟨v20, e20, hf⟩ := jbind hf
    refine jr_iald K (D_at DX2_holds_q1 0 rfl) e20 ?_
    refine jr_istore K (D_at DX2_holds_q1 1 rfl) (i := 4) (by decide) (L2 := [_, _, _, _, _, _, _]) rfl ?_
    refine jr_keep [true, true, true, true, true, false, false] ?_
    exact J_X2_holds_23 K n E n a0 x1 a2 x3 v20 h2 hf
  · replace hf := (if_pos c6).symm.trans hf
    refine jr_iconst K (D_at DX2_holds_q0 5 rfl) (v := (0 : Int32)) (by decide) ?_
    refine jr_goto K (D_at DX2_holds_q0 6 rfl) (tgt := 21) (by decide) ?_
    refine jr_istore K (D_at DX2_holds_q1 1 rfl) (i := 4) (by decide) (L2 := [_, _, _, _, _, _, _]) rfl ?_
    refine jr_keep [true, true, true, true, true, false, false] ?_
    exact J_X2_holds_23 K n E n a0 x1 a2 x3 (0 : Int32) h2 hf
theorem C_X2_holds {G : jG} {l : Launch} (d : Nat) {n : Nat} {a0 : Nat} {x1 : Int32} {a2 : Nat} {x3 : Int32} {h : jH} {res : (Int32 × jH)} (hf : F_X2_holds n a0 x1 a2 x3 h = some res) : jC G l mX2_holds (d + 2) 0 0 [.ref a0, .int x1, .ref a2, .int x3] h (jPW res) :=
  jC.of pn_X2 (jcats rfl) (Nat.le_of_ble_eq_true rfl) (fun X K E => J_X2_holds K n E a0 x1 a2 x3 h hf)
set_option maxHeartbeats 400000 in
set_option maxRecDepth 100000 in
theorem J_X2_amount_20_b {G : jG} {l : Launch} {d : Nat} {X : jX} {res : (Int32 × jH)} (K : jOK G l mX2_amount (d + 3) X) (n : Nat) (rc20 : Nat → Int32 → Nat → Int32 → Int32 → Int32 → jH → Option (Int32 × jH)) (hr20 : ∀ (a0 : Nat) (x1 : Int32) (a2 : Nat) (x3 : Int32) (x4 : Int32) (x5 : Int32) (h : jH), rc20 a0 x1 a2 x3 x4 x5 h = some res → jJ G X h 0 0 20 [some (.ref a0), some (.int x1), some (.ref a2), some (.int x3), some (.int x4), some (.int x5)] []) (E : jEnd G mX2_amount (jPW res) X) (a0 : Nat) (x1 : Int32) (a2 : Nat) (x3 : Int32) (x4 : Int32) (x5 : Int32) (h : jH) (hf : F_X2_amount_20_b n rc20 a0 x1 a2 x3 x4 x5 h = some res) : jJ G X h 0 0 20 [some (.ref a0), some (.int x1), some (.ref a2), some (.int x3), some (.int x4), some (.int x5)] [] := by
  unfold F_X2_amount_20_b at hf
  refine jr_iload K (D_at DX2_amount_q1 0 rfl) rfl ?_
  refine jr_aload_n K (D_at DX2_amount_q1 1 rfl) rfl rfl ?_
  obtain ⟨v23, e23, hf⟩ := jbind hf
  refine jr_getI K (D_at DX2_amount_q1 2 rfl) fg_X2_31_2 e23 ?_
  refine jr_icmp_ge K (D_at DX2_amount_q1 3 rfl) (tgt := 69) (by decide) (fun c26 => ?_) (fun c26 => ?_)
  · replace hf := (if_pos c26).symm.trans hf
    refine jr_iload K (D_at DX2_amount_q3 1 rfl) rfl ?_
    cases hf
    exact jr_iret K E (D_at DX2_amount_q3 2 rfl) rfl ⟨rfl, rfl⟩
  · replace hf := (if_neg c26).symm.trans hf
    refine jr_aload_n K (D_at DX2_amount_q1 4 rfl) rfl rfl ?_
    obtain ⟨p30, e30, hf⟩ := jbind hf
    refine jr_getR K (D_at DX2_amount_q1 5 rfl) fg_X2_11_2 e30 ?_
    refine jr_iload K (D_at DX2_amount_q1 6 rfl) rfl ?_
    obtain ⟨v35, e35, hf⟩ := jbind hf
    refine jr_iald K (D_at DX2_amount_q1 7 rfl) e35 ?_
    refine jr_iload_n K (D_at DX2_amount_q1 8 rfl) rfl rfl ?_
    refine jr_icmp_ne K (D_at DX2_amount_q1 9 rfl) (tgt := 63) (by decide) (fun c37 => ?_) (fun c37 => ?_)
    · replace hf := (if_neg c37).symm.trans hf
      refine jr_iinc K (D_at DX2_amount_q2 11 rfl) (i := 5) rfl (v := x5 + (1 : Int32)) (jinc (by decide)) (by decide) (L2 := [_, _, _, _, _, _]) rfl ?_
      refine jr_goto K (D_at DX2_amount_q3 0 rfl) (tgt := 20) (by decide) ?_
      refine jr_keep [true, true, true, true, true, true] ?_
      exact hr20 a0 x1 a2 x3 x4 (x5 + (1 : Int32)) h hf
    · replace hf := (if_pos c37).symm.trans hf
      refine jr_aload_n K (D_at DX2_amount_q1 10 rfl) rfl rfl ?_
      refine jr_iload K (D_at DX2_amount_q1 11 rfl) rfl ?_
      refine jr_aload_n K (D_at DX2_amount_q2 0 rfl) rfl rfl ?_
      refine jr_iload_n K (D_at DX2_amount_q2 1 rfl) rfl rfl ?_
      obtain ⟨q45, e45, hf⟩ := jbind hf
      obtain ⟨rc_45, e45⟩ := jcv_o e45
      refine jr_callV K (C_X2_holds (d) e45) (D_at DX2_amount_q2 2 rfl) cv_X2_48_X2_holds (As := [.int x5, .ref a2, .int x3]) (ci := 2) rfl rc_45 rfl rfl (by exact Nat.le_of_ble_eq_true rfl) (kc2 := 0) (ks2 := 0) rfl rfl (fun k9 h9 w9 => by cases w9.1) (fun r9 h9 w9 => ?_)
      obtain ⟨w1, w2⟩ := w9
      subst h9
      cases w1
      show jJ G X _ 0 0 _ _ (.int q45.1 :: _)
      refine jr_if_eq K (D_at DX2_amount_q2 3 rfl) (tgt := 63) (by decide) (fun c48 => ?_) (fun c48 => ?_)
      · replace hf := (if_pos c48).symm.trans hf
        refine jr_iinc K (D_at DX2_amount_q2 11 rfl) (i := 5) rfl (v := x5 + (1 : Int32)) (jinc (by decide)) (by decide) (L2 := [_, _, _, _, _, _]) rfl ?_
        refine jr_goto K (D_at DX2_amount_q3 0 rfl) (tgt := 20) (by decide) ?_
        refine jr_keep [true, true, true, true, true, true] ?_
        exact hr20 a0 x1 a2 x3 x4 (x5 + (1 : Int32)) q45.2 hf
      · replace hf := (if_neg c48).symm.trans hf
        refine jr_iload K (D_at DX2_amount_q2 4 rfl) rfl ?_
        refine jr_aload_n K (D_at DX2_amount_q2 5 rfl) rfl rfl ?_
        obtain ⟨p54, e54, hf⟩ := jbind hf
        refine jr_getR K (D_at DX2_amount_q2 6 rfl) fg_X2_15_2 e54 ?_
        refine jr_iload K (D_at DX2_amount_q2 7 rfl) rfl ?_
        obtain ⟨v59, e59, hf⟩ := jbind hf
        refine jr_iald K (D_at DX2_amount_q2 8 rfl) e59 ?_
        refine jr_iadd K (D_at DX2_amount_q2 9 rfl) ?_
        refine jr_istore K (D_at DX2_amount_q2 10 rfl) (i := 4) (by decide) (L2 := [_, _, _, _, _, _]) rfl ?_
        refine jr_iinc K (D_at DX2_amount_q2 11 rfl) (i := 5) rfl (v := x5 + (1 : Int32)) (jinc (by decide)) (by decide) (L2 := [_, _, _, _, _, _]) rfl ?_
        refine jr_goto K (D_at DX2_amount_q3 0 rfl) (tgt := 20) (by decide) ?_
        refine jr_keep [true, true, true, true, true, true] ?_
        exact hr20 a0 x1 a2 x3 (x4 + v59) (x5 + (1 : Int32)) q45.2 hf
theorem J_X2_amount_20 {G : jG} {l : Launch} {d : Nat} {X : jX} {res : (Int32 × jH)} (K : jOK G l mX2_amount (d + 3) X) (n : Nat) (E : jEnd G mX2_amount (jPW res) X) (k : Nat) : ∀ (a0 : Nat) (x1 : Int32) (a2 : Nat) (x3 : Int32) (x4 : Int32) (x5 : Int32) (h : jH), F_X2_amount_20 n k a0 x1 a2 x3 x4 x5 h = some res → jJ G X h 0 0 20 [some (.ref a0), some (.int x1), some (.ref a2), some (.int x3), some (.int x4), some (.int x5)] [] := by
  induction k with
  | zero =>
    intro a0 x1 a2 x3 x4 x5 h hf
    exact jno (show (none : Option (Int32 × jH)) = some res from hf)
  | succ k ih =>
    intro a0 x1 a2 x3 x4 x5 h hf
    exact J_X2_amount_20_b K n (F_X2_amount_20 n k) ih E a0 x1 a2 x3 x4 x5 h hf
set_option maxHeartbeats 400000 in
set_option maxRecDepth 100000 in
theorem J_X2_amount {G : jG} {l : Launch} {d : Nat} {X : jX} {res : (Int32 × jH)} (K : jOK G l mX2_amount (d + 3) X) (n : Nat) (E : jEnd G mX2_amount (jPW res) X) (a0 : Nat) (x1 : Int32) (a2 : Nat) (x3 : Int32) (h : jH) (hf : F_X2_amount n a0 x1 a2 x3 h = some res) : jJ G X h 0 0 0 [some (.ref a0), some (.int x1), some (.ref a2), some (.int x3), none, none] [] := by
  unfold F_X2_amount at hf
  refine jr_aload_n K (D_at DX2_amount_q0 0 rfl) rfl rfl ?_
  obtain ⟨v1, e1, hf⟩ := jbind hf
  refine jr_getI K (D_at DX2_amount_q0 1 rfl) fg_X2_27_2 e1 ?_
  refine jr_if_ne K (D_at DX2_amount_q0 2 rfl) (tgt := 14) (by decide) (fun c4 => ?_) (fun c4 => ?_)
  · replace hf := (if_neg c4).symm.trans hf
    refine jr_iconst K (D_at DX2_amount_q0 8 rfl) (v := (0 : Int32)) (by decide) ?_
    refine jr_istore K (D_at DX2_amount_q0 9 rfl) (i := 4) (by decide) (L2 := [_, _, _, _, _, _]) rfl ?_
    refine jr_iconst K (D_at DX2_amount_q0 10 rfl) (v := (0 : Int32)) (by decide) ?_
    refine jr_istore K (D_at DX2_amount_q0 11 rfl) (i := 5) (by decide) (L2 := [_, _, _, _, _, _]) rfl ?_
    refine jr_keep [true, true, true, true, true, true] ?_
    exact J_X2_amount_20 K n E n a0 x1 a2 x3 (0 : Int32) (0 : Int32) h hf
  · replace hf := (if_pos c4).symm.trans hf
    refine jr_iload_n K (D_at DX2_amount_q0 3 rfl) rfl rfl ?_
    refine jr_aload_n K (D_at DX2_amount_q0 4 rfl) rfl rfl ?_
    refine jr_iload_n K (D_at DX2_amount_q0 5 rfl) rfl rfl ?_
    obtain ⟨v10, e10, hf⟩ := jbind hf
    refine jr_callS K (C_X2_untoldAmount (d + 1) e10) (D_at DX2_amount_q0 6 rfl) cs_X2_44_X2_untoldAmount (As := [.int x1, .ref a2, .int x3]) rfl rfl (by exact Nat.le_of_ble_eq_true rfl) (kc2 := 0) (ks2 := 0) rfl rfl (fun k9 h9 w9 => by cases w9.1) (fun r9 h9 w9 => ?_)
    obtain ⟨w1, w2⟩ := w9
    subst h9
    cases w1
    show jJ G X _ 0 0 _ _ (.int v10 :: _)
    cases hf
    exact jr_iret K E (D_at DX2_amount_q0 7 rfl) rfl ⟨rfl, rfl⟩
theorem C_X2_amount {G : jG} {l : Launch} (d : Nat) {n : Nat} {a0 : Nat} {x1 : Int32} {a2 : Nat} {x3 : Int32} {h : jH} {res : (Int32 × jH)} (hf : F_X2_amount n a0 x1 a2 x3 h = some res) : jC G l mX2_amount (d + 3) 0 0 [.ref a0, .int x1, .ref a2, .int x3] h (jPW res) :=
  jC.of pn_X2 (jcats rfl) (Nat.le_of_ble_eq_true rfl) (fun X K E => J_X2_amount K n E a0 x1 a2 x3 h hf)
set_option maxHeartbeats 400000 in
set_option maxRecDepth 100000 in
theorem J_X1_fadeAll_2_b {G : jG} {l : Launch} {d : Nat} {X : jX} {res : jH} (K : jOK G l mX1_fadeAll (d + 4) X) (n : Nat) (rc2 : Nat → Nat → Int32 → jH → Option jH) (hr2 : ∀ (a0 : Nat) (a1 : Nat) (x2 : Int32) (h : jH), rc2 a0 a1 x2 h = some res → jJ G X h 0 0 2 [some (.ref a0), some (.ref a1), some (.int x2)] []) (E : jEnd G mX1_fadeAll (jPV res) X) (a0 : Nat) (a1 : Nat) (x2 : Int32) (h : jH) (hf : F_X1_fadeAll_2_b n rc2 a0 a1 x2 h = some res) : jJ G X h 0 0 2 [some (.ref a0), some (.ref a1), some (.int x2)] [] := by
  unfold F_X1_fadeAll_2_b at hf
  refine jr_iload_n K (D_at DX1_fadeAll_q0 2 rfl) rfl rfl ?_
  refine jr_aload_n K (D_at DX1_fadeAll_q0 3 rfl) rfl rfl ?_
  obtain ⟨v4, e4, hf⟩ := jbind hf
  refine jr_getI K (D_at DX1_fadeAll_q0 4 rfl) fg_X1_62_6 e4 ?_
  refine jr_icmp_ge K (D_at DX1_fadeAll_q0 5 rfl) (tgt := 44) (by decide) (fun c7 => ?_) (fun c7 => ?_)
  · replace hf := (if_pos c7).symm.trans hf
    cases hf
    exact jr_vret K E (D_at DX1_fadeAll_q2 1 rfl) rfl ⟨rfl, rfl⟩
  · replace hf := (if_neg c7).symm.trans hf
    refine jr_aload_n K (D_at DX1_fadeAll_q0 6 rfl) rfl rfl ?_
    obtain ⟨p11, e11, hf⟩ := jbind hf
    refine jr_getR K (D_at DX1_fadeAll_q0 7 rfl) fg_X1_65_6 e11 ?_
    refine jr_iload_n K (D_at DX1_fadeAll_q0 8 rfl) rfl rfl ?_
    refine jr_bipush K (D_at DX1_fadeAll_q0 9 rfl) (v := (99 : Int32)) (by decide) ?_
    refine jr_aload_n K (D_at DX1_fadeAll_q0 10 rfl) rfl rfl ?_
    obtain ⟨p18, e18, hf⟩ := jbind hf
    refine jr_getR K (D_at DX1_fadeAll_q0 11 rfl) fg_X1_65_6 e18 ?_
    refine jr_iload_n K (D_at DX1_fadeAll_q1 0 rfl) rfl rfl ?_
    obtain ⟨v22, e22, hf⟩ := jbind hf
    refine jr_iald K (D_at DX1_fadeAll_q1 1 rfl) e22 ?_
    refine jr_aload_n K (D_at DX1_fadeAll_q1 2 rfl) rfl rfl ?_
    obtain ⟨p24, e24, hf⟩ := jbind hf
    refine jr_getR K (D_at DX1_fadeAll_q1 3 rfl) fg_X1_9_1 e24 ?_
    refine jr_iconst K (D_at DX1_fadeAll_q1 4 rfl) (v := (0 : Int32)) (by decide) ?_
    refine jr_aload_n K (D_at DX1_fadeAll_q1 5 rfl) rfl rfl ?_
    refine jr_iload_n K (D_at DX1_fadeAll_q1 6 rfl) rfl rfl ?_
    obtain ⟨q30, e30, hf⟩ := jbind hf
    obtain ⟨rc_30, e30⟩ := jcv_o e30
    refine jr_callV K (C_X2_amount (d) e30) (D_at DX1_fadeAll_q1 7 rfl) cv_X1_50_X2_amount (As := [.int (0 : Int32), .ref a1, .int x2]) (ci := 2) rfl rc_30 rfl rfl (by exact Nat.le_of_ble_eq_true rfl) (kc2 := 0) (ks2 := 0) rfl rfl (fun k9 h9 w9 => by cases w9.1) (fun r9 h9 w9 => ?_)
    obtain ⟨w1, w2⟩ := w9
    subst h9
    cases w1
    show jJ G X _ 0 0 _ _ (.int q30.1 :: _)
    refine jr_iadd K (D_at DX1_fadeAll_q1 8 rfl) ?_
    refine jr_min K (D_at DX1_fadeAll_q1 9 rfl) mm_X1_56 (by exact Nat.le_of_ble_eq_true rfl) ?_
    obtain ⟨h37, e37, hf⟩ := jbind hf
    refine jr_iast K (D_at DX1_fadeAll_q1 10 rfl) e37 ?_
    refine jr_iinc K (D_at DX1_fadeAll_q1 11 rfl) (i := 2) rfl (v := x2 + (1 : Int32)) (jinc (by decide)) (by decide) (L2 := [_, _, _]) rfl ?_
    refine jr_goto K (D_at DX1_fadeAll_q2 0 rfl) (tgt := 2) (by decide) ?_
    refine jr_keep [true, true, true] ?_
    exact hr2 a0 a1 (x2 + (1 : Int32)) h37 hf
theorem J_X1_fadeAll_2 {G : jG} {l : Launch} {d : Nat} {X : jX} {res : jH} (K : jOK G l mX1_fadeAll (d + 4) X) (n : Nat) (E : jEnd G mX1_fadeAll (jPV res) X) (k : Nat) : ∀ (a0 : Nat) (a1 : Nat) (x2 : Int32) (h : jH), F_X1_fadeAll_2 n k a0 a1 x2 h = some res → jJ G X h 0 0 2 [some (.ref a0), some (.ref a1), some (.int x2)] [] := by
  induction k with
  | zero =>
    intro a0 a1 x2 h hf
    exact jno (show (none : Option jH) = some res from hf)
  | succ k ih =>
    intro a0 a1 x2 h hf
    exact J_X1_fadeAll_2_b K n (F_X1_fadeAll_2 n k) ih E a0 a1 x2 h hf
set_option maxHeartbeats 400000 in
set_option maxRecDepth 100000 in
theorem J_X1_fadeAll {G : jG} {l : Launch} {d : Nat} {X : jX} {res : jH} (K : jOK G l mX1_fadeAll (d + 4) X) (n : Nat) (E : jEnd G mX1_fadeAll (jPV res) X) (a0 : Nat) (a1 : Nat) (h : jH) (hf : F_X1_fadeAll n a0 a1 h = some res) : jJ G X h 0 0 0 [some (.ref a0), some (.ref a1), none] [] := by
  unfold F_X1_fadeAll at hf
  refine jr_iconst K (D_at DX1_fadeAll_q0 0 rfl) (v := (0 : Int32)) (by decide) ?_
  refine jr_istore_n K (D_at DX1_fadeAll_q0 1 rfl) (i := 2) rfl (by decide) (L2 := [_, _, _]) rfl ?_
  refine jr_keep [true, true, true] ?_
  exact J_X1_fadeAll_2 K n E n a0 a1 (0 : Int32) h hf
theorem C_X1_fadeAll {G : jG} {l : Launch} (d : Nat) {n : Nat} {a0 : Nat} {a1 : Nat} {h : jH} {res : jH} (hf : F_X1_fadeAll n a0 a1 h = some res) : jC G l mX1_fadeAll (d + 4) 0 0 [.ref a0, .ref a1] h (jPV res) :=
  jC.of pn_X1 (jcats rfl) (Nat.le_of_ble_eq_true rfl) (fun X K E => J_X1_fadeAll K n E a0 a1 h hf)
set_option maxHeartbeats 400000 in
set_option maxRecDepth 100000 in
theorem J_X1_draw {G : jG} {l : Launch} {d : Nat} {X : jX} {res : (Int32 × jH)} (K : jOK G l mX1_draw (d) X) (n : Nat) (E : jEnd G mX1_draw (jPW res) X) (a0 : Nat) (h : jH) (hf : F_X1_draw n a0 h = some res) : jJ G X h 0 0 0 [some (.ref a0)] [] := by
  unfold F_X1_draw at hf
  refine jr_aload_n K (D_at DX1_draw_q0 0 rfl) rfl rfl ?_
  refine jr_ldc K (D_at DX1_draw_q0 1 rfl) (v := (1103515245 : Int32)) kc_X1_98 ?_
  refine jr_aload_n K (D_at DX1_draw_q0 2 rfl) rfl rfl ?_
  obtain ⟨v4, e4, hf⟩ := jbind hf
  refine jr_getI K (D_at DX1_draw_q0 3 rfl) fg_X1_38_6 e4 ?_
  refine jr_imul K (D_at DX1_draw_q0 4 rfl) ?_
  refine jr_sipush K (D_at DX1_draw_q0 5 rfl) (v := (12345 : Int32)) (by decide) ?_
  refine jr_iadd K (D_at DX1_draw_q0 6 rfl) ?_
  obtain ⟨h12, e12, hf⟩ := jbind hf
  refine jr_putI K (D_at DX1_draw_q0 7 rfl) fp_X1_38_6 (Or.inl rfl) e12 ?_
  refine jr_aload_n K (D_at DX1_draw_q0 8 rfl) rfl rfl ?_
  obtain ⟨v16, e16, hf⟩ := jbind hf
  refine jr_getI K (D_at DX1_draw_q0 9 rfl) fg_X1_38_6 e16 ?_
  refine jr_bipush K (D_at DX1_draw_q0 10 rfl) (v := (16 : Int32)) (by decide) ?_
  refine jr_iushr K (D_at DX1_draw_q0 11 rfl) (v := jushr v16 (16 : Int32)) rfl ?_
  refine jr_sipush K (D_at DX1_draw_q1 0 rfl) (v := (32767 : Int32)) (by decide) ?_
  refine jr_iand K (D_at DX1_draw_q1 1 rfl) ?_
  refine jr_bipush K (D_at DX1_draw_q1 2 rfl) (v := (100 : Int32)) (by decide) ?_
  refine jr_irem K (D_at DX1_draw_q1 3 rfl) (by decide) ?_
  cases hf
  exact jr_iret K E (D_at DX1_draw_q1 4 rfl) rfl ⟨rfl, rfl⟩
theorem C_X1_draw {G : jG} {l : Launch} (d : Nat) {n : Nat} {a0 : Nat} {h : jH} {res : (Int32 × jH)} (hf : F_X1_draw n a0 h = some res) : jC G l mX1_draw (d) 0 0 [.ref a0] h (jPW res) :=
  jC.of pn_X1 (jcats rfl) (Nat.le_of_ble_eq_true rfl) (fun X K E => J_X1_draw K n E a0 h hf)
set_option maxHeartbeats 400000 in
set_option maxRecDepth 100000 in
theorem J_X11_withBit {G : jG} {l : Launch} {d : Nat} {X : jX} {res : Int32} (K : jOK G l mX11_withBit (d) X) (n : Nat) (h : jH) (E : jEnd G mX11_withBit (jPR h res) X) (x0 : Int32) (x1 : Int32) (x2 : Int32) (hf : F_X11_withBit n x0 x1 x2 h = some res) : jJ G X h 0 0 0 [some (.int x0), some (.int x1), some (.int x2)] [] := by
  unfold F_X11_withBit at hf
  refine jr_iload_n K (D_at DX11_withBit_q0 0 rfl) rfl rfl ?_
  refine jr_if_eq K (D_at DX11_withBit_q0 1 rfl) (tgt := 12) (by decide) (fun c1 => ?_) (fun c1 => ?_)
  · replace hf := (if_pos c1).symm.trans hf
    refine jr_iload_n K (D_at DX11_withBit_q0 8 rfl) rfl rfl ?_
    refine jr_iconst K (D_at DX11_withBit_q0 9 rfl) (v := (1 : Int32)) (by decide) ?_
    refine jr_iload_n K (D_at DX11_withBit_q0 10 rfl) rfl rfl ?_
    refine jr_ishl K (D_at DX11_withBit_q0 11 rfl) ?_
    refine jr_iconst K (D_at DX11_withBit_q1 0 rfl) (v := (-1 : Int32)) (by decide) ?_
    refine jr_ixor K (D_at DX11_withBit_q1 1 rfl) ?_
    refine jr_iand K (D_at DX11_withBit_q1 2 rfl) ?_
    cases hf
    exact jr_iret K E (D_at DX11_withBit_q1 3 rfl) rfl ⟨rfl, rfl⟩
  · replace hf := (if_neg c1).symm.trans hf
    refine jr_iload_n K (D_at DX11_withBit_q0 2 rfl) rfl rfl ?_
    refine jr_iconst K (D_at DX11_withBit_q0 3 rfl) (v := (1 : Int32)) (by decide) ?_
    refine jr_iload_n K (D_at DX11_withBit_q0 4 rfl) rfl rfl ?_
    refine jr_ishl K (D_at DX11_withBit_q0 5 rfl) ?_
    refine jr_ior K (D_at DX11_withBit_q0 6 rfl) ?_
    refine jr_goto K (D_at DX11_withBit_q0 7 rfl) (tgt := 19) (by decide) ?_
    cases hf
    exact jr_iret K E (D_at DX11_withBit_q1 3 rfl) rfl ⟨rfl, rfl⟩
theorem C_X11_withBit {G : jG} {l : Launch} (d : Nat) {n : Nat} {x0 : Int32} {x1 : Int32} {x2 : Int32} {h : jH} {res : Int32} (hf : F_X11_withBit n x0 x1 x2 h = some res) : jC G l mX11_withBit (d) 0 0 [.int x0, .int x1, .int x2] h (jPR h res) :=
  jC.of pn_X11 (jcats rfl) (Nat.le_of_ble_eq_true rfl) (fun X K E => J_X11_withBit K n h E x0 x1 x2 hf)
set_option maxHeartbeats 400000 in
set_option maxRecDepth 100000 in
theorem J_X5_add_90 {G : jG} {l : Launch} {d : Nat} {X : jX} {res : jH} (K : jOK G l mX5_add (d + 1) X) (n : Nat) (E : jEnd G mX5_add (jPV res) X) (a0 : Nat) (sa0 : Nat) (s1 : Int32) (h : jH) (hf : F_X5_add_90 n a0 sa0 s1 h = some res) : jJ G X h 0 0 90 [some (.ref a0), none, none, none, none] [.int s1, .ref sa0] := by
  unfold F_X5_add_90 at hf
  obtain ⟨h90, e90, hf⟩ := jbind hf
  refine jr_putI K (D_at DX5_add_q4 10 rfl) fp_X5_25_4 (Or.inl rfl) e90 ?_
  refine jr_aload_n K (D_at DX5_add_q4 11 rfl) rfl rfl ?_
  refine jr_bipush K (D_at DX5_add_q5 0 rfl) (v := (60 : Int32)) (by decide) ?_
  refine jr_aload_n K (D_at DX5_add_q5 1 rfl) rfl rfl ?_
  obtain ⟨v97, e97, hf⟩ := jbind hf
  refine jr_getI K (D_at DX5_add_q5 2 rfl) fg_X5_21_4 e97 ?_
  refine jr_iconst K (D_at DX5_add_q5 3 rfl) (v := (1 : Int32)) (by decide) ?_
  refine jr_iadd K (D_at DX5_add_1_q0 0 rfl) ?_
  refine jr_min K (D_at DX5_add_1_q0 1 rfl) mm_X5_42 (by exact Nat.le_of_ble_eq_true rfl) ?_
  obtain ⟨h105, e105, hf⟩ := jbind hf
  refine jr_putI K (D_at DX5_add_1_q0 2 rfl) fp_X5_21_4 (Or.inl rfl) e105 ?_
  cases hf
  exact jr_vret K E (D_at DX5_add_1_q0 3 rfl) rfl ⟨rfl, rfl⟩
set_option maxHeartbeats 400000 in
set_option maxRecDepth 100000 in
theorem J_X5_add {G : jG} {l : Launch} {d : Nat} {X : jX} {res : jH} (K : jOK G l mX5_add (d + 1) X) (n : Nat) (E : jEnd G mX5_add (jPV res) X) (a0 : Nat) (a1 : Nat) (x2 : Int32) (x3 : Int32) (x4 : Int32) (h : jH) (hf : F_X5_add n a0 a1 x2 x3 x4 h = some res) : jJ G X h 0 0 0 [some (.ref a0), some (.ref a1), some (.int x2), some (.int x3), some (.int x4)] [] := by
  unfold F_X5_add at hf
  refine jr_aload_n K (D_at DX5_add_q0 0 rfl) rfl rfl ?_
  obtain ⟨p1, e1, hf⟩ := jbind hf
  refine jr_getR K (D_at DX5_add_q0 1 rfl) fg_X5_11_4 e1 ?_
  refine jr_aload_n K (D_at DX5_add_q0 2 rfl) rfl rfl ?_
  obtain ⟨v5, e5, hf⟩ := jbind hf
  refine jr_getI K (D_at DX5_add_q0 3 rfl) fg_X5_25_4 e5 ?_
  refine jr_aload_n K (D_at DX5_add_q0 4 rfl) rfl rfl ?_
  obtain ⟨v9, e9, hf⟩ := jbind hf
  refine jr_getI K (D_at DX5_add_q0 5 rfl) fg_X5_28_6 e9 ?_
  refine jr_shf K (D_at DX5_add_q0 6 rfl) st_X5_33 ?_
  refine jr_iconst K (D_at DX5_add_q0 7 rfl) (v := (0 : Int32)) (by decide) ?_
  refine jr_stald (f := fun j => jshf.getD j 0) (n := 6) K jT_shf (D_at DX5_add_q0 8 rfl) (by decide) ?_
  rw [show jshf.getD ((0 : Int32)).toNatClampNeg 0 = (18 : Int32) from by decide]
  refine jr_ishl K (D_at DX5_add_q0 9 rfl) ?_
  refine jr_aload_n K (D_at DX5_add_q0 10 rfl) rfl rfl ?_
  obtain ⟨v19, e19, hf⟩ := jbind hf
  refine jr_getI K (D_at DX5_add_q0 11 rfl) fg_X5_36_6 e19 ?_
  refine jr_shf K (D_at DX5_add_q1 0 rfl) st_X5_33 ?_
  refine jr_iconst K (D_at DX5_add_q1 1 rfl) (v := (1 : Int32)) (by decide) ?_
  refine jr_stald (f := fun j => jshf.getD j 0) (n := 6) K jT_shf (D_at DX5_add_q1 2 rfl) (by decide) ?_
  rw [show jshf.getD ((1 : Int32)).toNatClampNeg 0 = (15 : Int32) from by decide]
  refine jr_ishl K (D_at DX5_add_q1 3 rfl) ?_
  refine jr_ior K (D_at DX5_add_q1 4 rfl) ?_
  refine jr_iload_n K (D_at DX5_add_q1 5 rfl) rfl rfl ?_
  refine jr_shf K (D_at DX5_add_q1 6 rfl) st_X5_33 ?_
  refine jr_iconst K (D_at DX5_add_q1 7 rfl) (v := (2 : Int32)) (by decide) ?_
  refine jr_stald (f := fun j => jshf.getD j 0) (n := 6) K jT_shf (D_at DX5_add_q1 8 rfl) (by decide) ?_
  rw [show jshf.getD ((2 : Int32)).toNatClampNeg 0 = (12 : Int32) from by decide]
  refine jr_ishl K (D_at DX5_add_q1 9 rfl) ?_
  refine jr_ior K (D_at DX5_add_q1 10 rfl) ?_
  refine jr_iload_n K (D_at DX5_add_q1 11 rfl) rfl rfl ?_
  refine jr_shf K (D_at DX5_add_q2 0 rfl) st_X5_33 ?_
  refine jr_iconst K (D_at DX5_add_q2 1 rfl) (v := (3 : Int32)) (by decide) ?_
  refine jr_stald (f := fun j => jshf.getD j 0) (n := 6) K jT_shf (D_at DX5_add_q2 2 rfl) (by decide) ?_
  rw [show jshf.getD ((3 : Int32)).toNatClampNeg 0 = (10 : Int32) from by decide]
  refine jr_ishl K (D_at DX5_add_q2 3 rfl) ?_
  refine jr_ior K (D_at DX5_add_q2 4 rfl) ?_
  refine jr_iload K (D_at DX5_add_q2 5 rfl) rfl ?_
  refine jr_shf K (D_at DX5_add_q2 6 rfl) st_X5_33 ?_
  refine jr_iconst K (D_at DX5_add_q2 7 rfl) (v := (4 : Int32)) (by decide) ?_
  refine jr_stald (f := fun j => jshf.getD j 0) (n := 6) K jT_shf (D_at DX5_add_q2 8 rfl) (by decide) ?_
  rw [show jshf.getD ((4 : Int32)).toNatClampNeg 0 = (5 : Int32) from by decide]
  refine jr_ishl K (D_at DX5_add_q2 9 rfl) ?_
  refine jr_ior K (D_at DX5_add_q2 10 rfl) ?_
  refine jr_aload_n K (D_at DX5_add_q2 11 rfl) rfl rfl ?_
  obtain ⟨p55, e55, hf⟩ := jbind hf
  refine jr_getR K (D_at DX5_add_q3 0 rfl) fg_X5_39_6 e55 ?_
  refine jr_iload_n K (D_at DX5_add_q3 1 rfl) rfl rfl ?_
  obtain ⟨v59, e59, hf⟩ := jbind hf
  refine jr_iald K (D_at DX5_add_q3 2 rfl) e59 ?_
  refine jr_shf K (D_at DX5_add_q3 3 rfl) st_X5_33 ?_
  refine jr_iconst K (D_at DX5_add_q3 4 rfl) (v := (5 : Int32)) (by decide) ?_
  refine jr_stald (f := fun j => jshf.getD j 0) (n := 6) K jT_shf (D_at DX5_add_q3 5 rfl) (by decide) ?_
  rw [show jshf.getD ((5 : Int32)).toNatClampNeg 0 = (0 : Int32) from by decide]
  refine jr_ishl K (D_at DX5_add_q3 6 rfl) ?_
  refine jr_ior K (D_at DX5_add_q3 7 rfl) ?_
  obtain ⟨h67, e67, hf⟩ := jbind hf
  refine jr_iast K (D_at DX5_add_q3 8 rfl) e67 ?_
  refine jr_aload_n K (D_at DX5_add_q3 9 rfl) rfl rfl ?_
  refine jr_aload_n K (D_at DX5_add_q3 10 rfl) rfl rfl ?_
  obtain ⟨v70, e70, hf⟩ := jbind hf
  refine jr_getI K (D_at DX5_add_q3 11 rfl) fg_X5_25_4 e70 ?_
  refine jr_iconst K (D_at DX5_add_q4 0 rfl) (v := (1 : Int32)) (by decide) ?_
  refine jr_iadd K (D_at DX5_add_q4 1 rfl) ?_
  refine jr_bipush K (D_at DX5_add_q4 2 rfl) (v := (60 : Int32)) (by decide) ?_
  refine jr_icmp_ge K (D_at DX5_add_q4 3 rfl) (tgt := 89) (by decide) (fun c77 => ?_) (fun c77 => ?_)
  · replace hf := (if_pos c77).symm.trans hf
    refine jr_iconst K (D_at DX5_add_q4 9 rfl) (v := (0 : Int32)) (by decide) ?_
    refine jr_keep [true, false, false, false, false] ?_
    exact J_X5_add_90 K n E a0 a0 (0 : Int32) h67 hf
  · replace hf := (if_neg c77).symm.trans hf
    refine jr_aload_n K (D_at DX5_add_q4 4 rfl) rfl rfl ?_
    obtain ⟨v81, e81, hf⟩ := jbind hf
    refine jr_getI K (D_at DX5_add_q4 5 rfl) fg_X5_25_4 e81 ?_
    refine jr_iconst K (D_at DX5_add_q4 6 rfl) (v := (1 : Int32)) (by decide) ?_
    refine jr_iadd K (D_at DX5_add_q4 7 rfl) ?_
    refine jr_goto K (D_at DX5_add_q4 8 rfl) (tgt := 90) (by decide) ?_
    refine jr_keep [true, false, false, false, false] ?_
    exact J_X5_add_90 K n E a0 a0 (v81 + (1 : Int32)) h67 hf
theorem C_X5_add {G : jG} {l : Launch} (d : Nat) {n : Nat} {a0 : Nat} {a1 : Nat} {x2 : Int32} {x3 : Int32} {x4 : Int32} {h : jH} {res : jH} (hf : F_X5_add n a0 a1 x2 x3 x4 h = some res) : jC G l mX5_add (d + 1) 0 0 [.ref a0, .ref a1, .int x2, .int x3, .int x4] h (jPV res) :=
  jC.of pn_X5 (jcats rfl) (Nat.le_of_ble_eq_true rfl) (fun X K E => J_X5_add K n E a0 a1 x2 x3 x4 h hf)
set_option maxHeartbeats 400000 in
set_option maxRecDepth 100000 in
theorem J_X1_catchSome_4_b {G : jG} {l : Launch} {d : Nat} {X : jX} {res : (Int32 × jH)} (K : jOK G l mX1_catchSome (d + 4) X) (n : Nat) (rc4 : Nat → Nat → Int32 → Int32 → jH → Option (Int32 × jH)) (hr4 : ∀ (a0 : Nat) (a1 : Nat) (x2 : Int32) (x3 : Int32) (h : jH), rc4 a0 a1 x2 x3 h = some res → jJ G X h 0 0 4 [some (.ref a0), some (.ref a1), some (.int x2), some (.int x3)] []) (E : jEnd G mX1_catchSome (jPW res) X) (a0 : Nat) (a1 : Nat) (x2 : Int32) (x3 : Int32) (h : jH) (hf : F_X1_catchSome_4_b n rc4 a0 a1 x2 x3 h = some res) : jJ G X h 0 0 4 [some (.ref a0), some (.ref a1), some (.int x2), some (.int x3)] [] := by
  unfold F_X1_catchSome_4_b at hf
  refine jr_iload_n K (D_at DX1_catchSome_q0 4 rfl) rfl rfl ?_
  refine jr_aload_n K (D_at DX1_catchSome_q0 5 rfl) rfl rfl ?_
  obtain ⟨v6, e6, hf⟩ := jbind hf
  refine jr_getI K (D_at DX1_catchSome_q0 6 rfl) fg_X1_62_6 e6 ?_
  refine jr_icmp_ge K (D_at DX1_catchSome_q0 7 rfl) (tgt := 83) (by decide) (fun c9 => ?_) (fun c9 => ?_)
  · replace hf := (if_pos c9).symm.trans hf
    refine jr_iload_n K (D_at DX1_catchSome_q3 9 rfl) rfl rfl ?_
    cases hf
    exact jr_iret K E (D_at DX1_catchSome_q3 10 rfl) rfl ⟨rfl, rfl⟩
  · replace hf := (if_neg c9).symm.trans hf
    refine jr_aload_n K (D_at DX1_catchSome_q0 8 rfl) rfl rfl ?_
    refine jr_iload_n K (D_at DX1_catchSome_q0 9 rfl) rfl rfl ?_
    refine jr_iconst K (D_at DX1_catchSome_q0 10 rfl) (v := (-1 : Int32)) (by decide) ?_
    obtain ⟨v15, e15, hf⟩ := jbind hf
    obtain ⟨rc_15, e15⟩ := jcv_o e15
    refine jr_callV K (C_X8_gap (d + 3) e15) (D_at DX1_catchSome_q0 11 rfl) cv_X1_69_X8_gap (As := [.int x3, .int (-1 : Int32)]) (ci := 6) rfl rc_15 rfl rfl (by exact Nat.le_of_ble_eq_true rfl) (kc2 := 0) (ks2 := 0) rfl rfl (fun k9 h9 w9 => by cases w9.1) (fun r9 h9 w9 => ?_)
    obtain ⟨w1, w2⟩ := w9
    subst h9
    cases w1
    show jJ G X _ 0 0 _ _ (.int v15 :: _)
    refine jr_iconst K (D_at DX1_catchSome_q1 0 rfl) (v := (1 : Int32)) (by decide) ?_
    refine jr_icmp_ne K (D_at DX1_catchSome_q1 1 rfl) (tgt := 77) (by decide) (fun c19 => ?_) (fun c19 => ?_)
    · replace hf := (if_neg c19).symm.trans hf
      refine jr_iinc K (D_at DX1_catchSome_q3 7 rfl) (i := 3) rfl (v := x3 + (1 : Int32)) (jinc (by decide)) (by decide) (L2 := [_, _, _, _]) rfl ?_
      refine jr_goto K (D_at DX1_catchSome_q3 8 rfl) (tgt := 4) (by decide) ?_
      refine jr_keep [true, true, true, true] ?_
      exact hr4 a0 a1 x2 (x3 + (1 : Int32)) h hf
    · replace hf := (if_pos c19).symm.trans hf
      refine jr_aload_n K (D_at DX1_catchSome_q1 2 rfl) rfl rfl ?_
      obtain ⟨v23, e23, hf⟩ := jbind hf
      refine jr_getI K (D_at DX1_catchSome_q1 3 rfl) fg_X1_72_6 e23 ?_
      refine jr_iload_n K (D_at DX1_catchSome_q1 4 rfl) rfl rfl ?_
      obtain ⟨v27, e27, hf⟩ := jbind hf
      refine jr_callSN K (C_X11_bit (d + 3) e27) (D_at DX1_catchSome_q1 5 rfl) csn_X1_75_X11_bit (As := [.int v23, .int x3]) rfl rfl (by exact Nat.le_of_ble_eq_true rfl) (kc2 := 0) (ks2 := 0) rfl rfl (fun k9 h9 w9 => by cases w9.1) (fun r9 h9 w9 => ?_)
      obtain ⟨w1, w2⟩ := w9
      subst h9
      cases w1
      show jJ G X _ 0 0 _ _ (.int v27 :: _)
      refine jr_if_ne K (D_at DX1_catchSome_q1 6 rfl) (tgt := 77) (by decide) (fun c30 => ?_) (fun c30 => ?_)
      · replace hf := (if_neg c30).symm.trans hf
        refine jr_iinc K (D_at DX1_catchSome_q3 7 rfl) (i := 3) rfl (v := x3 + (1 : Int32)) (jinc (by decide)) (by decide) (L2 := [_, _, _, _]) rfl ?_
        refine jr_goto K (D_at DX1_catchSome_q3 8 rfl) (tgt := 4) (by decide) ?_
        refine jr_keep [true, true, true, true] ?_
        exact hr4 a0 a1 x2 (x3 + (1 : Int32)) h hf
      · replace hf := (if_pos c30).symm.trans hf
        refine jr_aload_n K (D_at DX1_catchSome_q1 7 rfl) rfl rfl ?_
        obtain ⟨q34, e34, hf⟩ := jbind hf
        refine jr_callS K (C_X1_draw (d + 3) e34) (D_at DX1_catchSome_q1 8 rfl) cs_X1_78_X1_draw (As := [.ref a1]) rfl rfl (by exact Nat.le_of_ble_eq_true rfl) (kc2 := 0) (ks2 := 0) rfl rfl (fun k9 h9 w9 => by cases w9.1) (fun r9 h9 w9 => ?_)
        obtain ⟨w1, w2⟩ := w9
        subst h9
        cases w1
        show jJ G X _ 0 0 _ _ (.int q34.1 :: _)
        refine jr_aload_n K (D_at DX1_catchSome_q1 9 rfl) rfl rfl ?_
        obtain ⟨p38, e38, hf⟩ := jbind hf
        refine jr_getR K (D_at DX1_catchSome_q1 10 rfl) fg_X1_9_1 e38 ?_
        refine jr_iconst K (D_at DX1_catchSome_q1 11 rfl) (v := (1 : Int32)) (by decide) ?_
        refine jr_aload_n K (D_at DX1_catchSome_q2 0 rfl) rfl rfl ?_
        refine jr_iload_n K (D_at DX1_catchSome_q2 1 rfl) rfl rfl ?_
        obtain ⟨q44, e44, hf⟩ := jbind hf
        obtain ⟨rc_44, e44⟩ := jcv_o e44
        refine jr_callV K (C_X2_amount (d) e44) (D_at DX1_catchSome_q2 2 rfl) cv_X1_50_X2_amount (As := [.int (1 : Int32), .ref a1, .int x3]) (ci := 2) rfl rc_44 rfl rfl (by exact Nat.le_of_ble_eq_true rfl) (kc2 := 0) (ks2 := 0) rfl rfl (fun k9 h9 w9 => by cases w9.1) (fun r9 h9 w9 => ?_)
        obtain ⟨w1, w2⟩ := w9
        subst h9
        cases w1
        show jJ G X _ 0 0 _ _ (.int q44.1 :: _)
        refine jr_icmp_ge K (D_at DX1_catchSome_q2 3 rfl) (tgt := 77) (by decide) (fun c47 => ?_) (fun c47 => ?_)
        · replace hf := (if_pos c47).symm.trans hf
          refine jr_iinc K (D_at DX1_catchSome_q3 7 rfl) (i := 3) rfl (v := x3 + (1 : Int32)) (jinc (by decide)) (by decide) (L2 := [_, _, _, _]) rfl ?_
          refine jr_goto K (D_at DX1_catchSome_q3 8 rfl) (tgt := 4) (by decide) ?_
          refine jr_keep [true, true, true, true] ?_
          exact hr4 a0 a1 x2 (x3 + (1 : Int32)) q44.2 hf
        · replace hf := (if_neg c47).symm.trans hf
          refine jr_aload_n K (D_at DX1_catchSome_q2 4 rfl) rfl rfl ?_
          refine jr_aload_n K (D_at DX1_catchSome_q2 5 rfl) rfl rfl ?_
          obtain ⟨v52, e52, hf⟩ := jbind hf
          refine jr_getI K (D_at DX1_catchSome_q2 6 rfl) fg_X1_72_6 e52 ?_
          refine jr_iload_n K (D_at DX1_catchSome_q2 7 rfl) rfl rfl ?_
          refine jr_iconst K (D_at DX1_catchSome_q2 8 rfl) (v := (1 : Int32)) (by decide) ?_
          obtain ⟨v57, e57, hf⟩ := jbind hf
          refine jr_callSN K (C_X11_withBit (d + 3) e57) (D_at DX1_catchSome_q2 9 rfl) csn_X1_81_X11_withBit (As := [.int v52, .int x3, .int (1 : Int32)]) rfl rfl (by exact Nat.le_of_ble_eq_true rfl) (kc2 := 0) (ks2 := 0) rfl rfl (fun k9 h9 w9 => by cases w9.1) (fun r9 h9 w9 => ?_)
          obtain ⟨w1, w2⟩ := w9
          subst h9
          cases w1
          show jJ G X _ 0 0 _ _ (.int v57 :: _)
          obtain ⟨h60, e60, hf⟩ := jbind hf
          refine jr_putI K (D_at DX1_catchSome_q2 10 rfl) fp_X1_72_6 (Or.inl rfl) e60 ?_
          refine jr_aload_n K (D_at DX1_catchSome_q2 11 rfl) rfl rfl ?_
          obtain ⟨p64, e64, hf⟩ := jbind hf
          refine jr_getR K (D_at DX1_catchSome_q3 0 rfl) fg_X1_85_6 e64 ?_
          refine jr_aload_n K (D_at DX1_catchSome_q3 1 rfl) rfl rfl ?_
          refine jr_iload_n K (D_at DX1_catchSome_q3 2 rfl) rfl rfl ?_
          refine jr_iconst K (D_at DX1_catchSome_q3 3 rfl) (v := (1 : Int32)) (by decide) ?_
          refine jr_iconst K (D_at DX1_catchSome_q3 4 rfl) (v := (0 : Int32)) (by decide) ?_
          obtain ⟨h71, e71, hf⟩ := jbind hf
          obtain ⟨rc_71, e71⟩ := jcv_o e71
          refine jr_callV K (C_X5_add (d + 2) e71) (D_at DX1_catchSome_q3 5 rfl) cv_X1_89_X5_add (As := [.ref a1, .int x3, .int (1 : Int32), .int (0 : Int32)]) (ci := 4) rfl rc_71 rfl rfl (by exact Nat.le_of_ble_eq_true rfl) (kc2 := 0) (ks2 := 0) rfl rfl (fun k9 h9 w9 => by cases w9.1) (fun r9 h9 w9 => ?_)
          obtain ⟨w1, w2⟩ := w9
          subst h9
          cases w1
          show jJ G X _ 0 0 _ _ []
          refine jr_iinc K (D_at DX1_catchSome_q3 6 rfl) (i := 2) rfl (v := x2 + (1 : Int32)) (jinc (by decide)) (by decide) (L2 := [_, _, _, _]) rfl ?_
          refine jr_iinc K (D_at DX1_catchSome_q3 7 rfl) (i := 3) rfl (v := x3 + (1 : Int32)) (jinc (by decide)) (by decide) (L2 := [_, _, _, _]) rfl ?_
          refine jr_goto K (D_at DX1_catchSome_q3 8 rfl) (tgt := 4) (by decide) ?_
          refine jr_keep [true, true, true, true] ?_
          exact hr4 a0 a1 (x2 + (1 : Int32)) (x3 + (1 : Int32)) h71 hf
theorem J_X1_catchSome_4 {G : jG} {l : Launch} {d : Nat} {X : jX} {res : (Int32 × jH)} (K : jOK G l mX1_catchSome (d + 4) X) (n : Nat) (E : jEnd G mX1_catchSome (jPW res) X) (k : Nat) : ∀ (a0 : Nat) (a1 : Nat) (x2 : Int32) (x3 : Int32) (h : jH), F_X1_catchSome_4 n k a0 a1 x2 x3 h = some res → jJ G X h 0 0 4 [some (.ref a0), some (.ref a1), some (.int x2), some (.int x3)] [] := by
  induction k with
  | zero =>
    intro a0 a1 x2 x3 h hf
    exact jno (show (none : Option (Int32 × jH)) = some res from hf)
  | succ k ih =>
    intro a0 a1 x2 x3 h hf
    exact J_X1_catchSome_4_b K n (F_X1_catchSome_4 n k) ih E a0 a1 x2 x3 h hf
set_option maxHeartbeats 400000 in
set_option maxRecDepth 100000 in
theorem J_X1_catchSome {G : jG} {l : Launch} {d : Nat} {X : jX} {res : (Int32 × jH)} (K : jOK G l mX1_catchSome (d + 4) X) (n : Nat) (E : jEnd G mX1_catchSome (jPW res) X) (a0 : Nat) (a1 : Nat) (h : jH) (hf : F_X1_catchSome n a0 a1 h = some res) : jJ G X h 0 0 0 [some (.ref a0), some (.ref a1), none, none] [] := by
  unfold F_X1_catchSome at hf
  refine jr_iconst K (D_at DX1_catchSome_q0 0 rfl) (v := (0 : Int32)) (by decide) ?_
  refine jr_istore_n K (D_at DX1_catchSome_q0 1 rfl) (i := 2) rfl (by decide) (L2 := [_, _, _, _]) rfl ?_
  refine jr_iconst K (D_at DX1_catchSome_q0 2 rfl) (v := (0 : Int32)) (by decide) ?_
  refine jr_istore_n K (D_at DX1_catchSome_q0 3 rfl) (i := 3) rfl (by decide) (L2 := [_, _, _, _]) rfl ?_
  refine jr_keep [true, true, true, true] ?_
  exact J_X1_catchSome_4 K n E n a0 a1 (0 : Int32) (0 : Int32) h hf
theorem C_X1_catchSome {G : jG} {l : Launch} (d : Nat) {n : Nat} {a0 : Nat} {a1 : Nat} {h : jH} {res : (Int32 × jH)} (hf : F_X1_catchSome n a0 a1 h = some res) : jC G l mX1_catchSome (d + 4) 0 0 [.ref a0, .ref a1] h (jPW res) :=
  jC.of pn_X1 (jcats rfl) (Nat.le_of_ble_eq_true rfl) (fun X K E => J_X1_catchSome K n E a0 a1 h hf)
set_option maxHeartbeats 400000 in
set_option maxRecDepth 100000 in
theorem J_X1_dropSome_4_b {G : jG} {l : Launch} {d : Nat} {X : jX} {res : (Int32 × jH)} (K : jOK G l mX1_dropSome (d + 4) X) (n : Nat) (rc4 : Nat → Nat → Int32 → Int32 → jH → Option (Int32 × jH)) (hr4 : ∀ (a0 : Nat) (a1 : Nat) (x2 : Int32) (x3 : Int32) (h : jH), rc4 a0 a1 x2 x3 h = some res → jJ G X h 0 0 4 [some (.ref a0), some (.ref a1), some (.int x2), some (.int x3)] []) (E : jEnd G mX1_dropSome (jPW res) X) (a0 : Nat) (a1 : Nat) (x2 : Int32) (x3 : Int32) (h : jH) (hf : F_X1_dropSome_4_b n rc4 a0 a1 x2 x3 h = some res) : jJ G X h 0 0 4 [some (.ref a0), some (.ref a1), some (.int x2), some (.int x3)] [] := by
  unfold F_X1_dropSome_4_b at hf
  refine jr_iload_n K (D_at DX1_dropSome_q0 4 rfl) rfl rfl ?_
  refine jr_aload_n K (D_at DX1_dropSome_q0 5 rfl) rfl rfl ?_
  obtain ⟨v6, e6, hf⟩ := jbind hf
  refine jr_getI K (D_at DX1_dropSome_q0 6 rfl) fg_X1_62_6 e6 ?_
  refine jr_icmp_ge K (D_at DX1_dropSome_q0 7 rfl) (tgt := 74) (by decide) (fun c9 => ?_) (fun c9 => ?_)
  · replace hf := (if_pos c9).symm.trans hf
    refine jr_iload_n K (D_at DX1_dropSome_q3 4 rfl) rfl rfl ?_
    cases hf
    exact jr_iret K E (D_at DX1_dropSome_q3 5 rfl) rfl ⟨rfl, rfl⟩
  · replace hf := (if_neg c9).symm.trans hf
    refine jr_aload_n K (D_at DX1_dropSome_q0 8 rfl) rfl rfl ?_
    obtain ⟨v13, e13, hf⟩ := jbind hf
    refine jr_getI K (D_at DX1_dropSome_q0 9 rfl) fg_X1_95_6 e13 ?_
    refine jr_iload_n K (D_at DX1_dropSome_q0 10 rfl) rfl rfl ?_
    obtain ⟨v17, e17, hf⟩ := jbind hf
    refine jr_callSN K (C_X11_bit (d + 3) e17) (D_at DX1_dropSome_q0 11 rfl) csn_X1_75_X11_bit (As := [.int v13, .int x3]) rfl rfl (by exact Nat.le_of_ble_eq_true rfl) (kc2 := 0) (ks2 := 0) rfl rfl (fun k9 h9 w9 => by cases w9.1) (fun r9 h9 w9 => ?_)
    obtain ⟨w1, w2⟩ := w9
    subst h9
    cases w1
    show jJ G X _ 0 0 _ _ (.int v17 :: _)
    refine jr_iconst K (D_at DX1_dropSome_q1 0 rfl) (v := (1 : Int32)) (by decide) ?_
    refine jr_icmp_ne K (D_at DX1_dropSome_q1 1 rfl) (tgt := 68) (by decide) (fun c21 => ?_) (fun c21 => ?_)
    · replace hf := (if_neg c21).symm.trans hf
      refine jr_iinc K (D_at DX1_dropSome_q3 2 rfl) (i := 3) rfl (v := x3 + (1 : Int32)) (jinc (by decide)) (by decide) (L2 := [_, _, _, _]) rfl ?_
      refine jr_goto K (D_at DX1_dropSome_q3 3 rfl) (tgt := 4) (by decide) ?_
      refine jr_keep [true, true, true, true] ?_
      exact hr4 a0 a1 x2 (x3 + (1 : Int32)) h hf
    · replace hf := (if_pos c21).symm.trans hf
      refine jr_aload_n K (D_at DX1_dropSome_q1 2 rfl) rfl rfl ?_
      obtain ⟨q25, e25, hf⟩ := jbind hf
      refine jr_callS K (C_X1_draw (d + 3) e25) (D_at DX1_dropSome_q1 3 rfl) cs_X1_78_X1_draw (As := [.ref a1]) rfl rfl (by exact Nat.le_of_ble_eq_true rfl) (kc2 := 0) (ks2 := 0) rfl rfl (fun k9 h9 w9 => by cases w9.1) (fun r9 h9 w9 => ?_)
      obtain ⟨w1, w2⟩ := w9
      subst h9
      cases w1
      show jJ G X _ 0 0 _ _ (.int q25.1 :: _)
      refine jr_aload_n K (D_at DX1_dropSome_q1 4 rfl) rfl rfl ?_
      obtain ⟨p29, e29, hf⟩ := jbind hf
      refine jr_getR K (D_at DX1_dropSome_q1 5 rfl) fg_X1_9_1 e29 ?_
      refine jr_iconst K (D_at DX1_dropSome_q1 6 rfl) (v := (2 : Int32)) (by decide) ?_
      refine jr_aload_n K (D_at DX1_dropSome_q1 7 rfl) rfl rfl ?_
      refine jr_iload_n K (D_at DX1_dropSome_q1 8 rfl) rfl rfl ?_
      obtain ⟨q35, e35, hf⟩ := jbind hf
      obtain ⟨rc_35, e35⟩ := jcv_o e35
      refine jr_callV K (C_X2_amount (d) e35) (D_at DX1_dropSome_q1 9 rfl) cv_X1_50_X2_amount (As := [.int (2 : Int32), .ref a1, .int x3]) (ci := 2) rfl rc_35 rfl rfl (by exact Nat.le_of_ble_eq_true rfl) (kc2 := 0) (ks2 := 0) rfl rfl (fun k9 h9 w9 => by cases w9.1) (fun r9 h9 w9 => ?_)
      obtain ⟨w1, w2⟩ := w9
      subst h9
      cases w1
      show jJ G X _ 0 0 _ _ (.int q35.1 :: _)
      refine jr_icmp_ge K (D_at DX1_dropSome_q1 10 rfl) (tgt := 68) (by decide) (fun c38 => ?_) (fun c38 => ?_)
      · replace hf := (if_pos c38).symm.trans hf
        refine jr_iinc K (D_at DX1_dropSome_q3 2 rfl) (i := 3) rfl (v := x3 + (1 : Int32)) (jinc (by decide)) (by decide) (L2 := [_, _, _, _]) rfl ?_
        refine jr_goto K (D_at DX1_dropSome_q3 3 rfl) (tgt := 4) (by decide) ?_
        refine jr_keep [true, true, true, true] ?_
        exact hr4 a0 a1 x2 (x3 + (1 : Int32)) q35.2 hf
      · replace hf := (if_neg c38).symm.trans hf
        refine jr_aload_n K (D_at DX1_dropSome_q1 11 rfl) rfl rfl ?_
        refine jr_aload_n K (D_at DX1_dropSome_q2 0 rfl) rfl rfl ?_
        obtain ⟨v43, e43, hf⟩ := jbind hf
        refine jr_getI K (D_at DX1_dropSome_q2 1 rfl) fg_X1_95_6 e43 ?_
        refine jr_iload_n K (D_at DX1_dropSome_q2 2 rfl) rfl rfl ?_
        refine jr_iconst K (D_at DX1_dropSome_q2 3 rfl) (v := (0 : Int32)) (by decide) ?_
        obtain ⟨v48, e48, hf⟩ := jbind hf
        refine jr_callSN K (C_X11_withBit (d + 3) e48) (D_at DX1_dropSome_q2 4 rfl) csn_X1_81_X11_withBit (As := [.int v43, .int x3, .int (0 : Int32)]) rfl rfl (by exact Nat.le_of_ble_eq_true rfl) (kc2 := 0) (ks2 := 0) rfl rfl (fun k9 h9 w9 => by cases w9.1) (fun r9 h9 w9 => ?_)
        obtain ⟨w1, w2⟩ := w9
        subst h9
        cases w1
        show jJ G X _ 0 0 _ _ (.int v48 :: _)
        obtain ⟨h51, e51, hf⟩ := jbind hf
        refine jr_putI K (D_at DX1_dropSome_q2 5 rfl) fp_X1_95_6 (Or.inl rfl) e51 ?_
        refine jr_aload_n K (D_at DX1_dropSome_q2 6 rfl) rfl rfl ?_
        obtain ⟨p55, e55, hf⟩ := jbind hf
        refine jr_getR K (D_at DX1_dropSome_q2 7 rfl) fg_X1_85_6 e55 ?_
        refine jr_aload_n K (D_at DX1_dropSome_q2 8 rfl) rfl rfl ?_
        refine jr_iload_n K (D_at DX1_dropSome_q2 9 rfl) rfl rfl ?_
        refine jr_iconst K (D_at DX1_dropSome_q2 10 rfl) (v := (2 : Int32)) (by decide) ?_
        refine jr_iconst K (D_at DX1_dropSome_q2 11 rfl) (v := (0 : Int32)) (by decide) ?_
        obtain ⟨h62, e62, hf⟩ := jbind hf
        obtain ⟨rc_62, e62⟩ := jcv_o e62
        refine jr_callV K (C_X5_add (d + 2) e62) (D_at DX1_dropSome_q3 0 rfl) cv_X1_89_X5_add (As := [.ref a1, .int x3, .int (2 : Int32), .int (0 : Int32)]) (ci := 4) rfl rc_62 rfl rfl (by exact Nat.le_of_ble_eq_true rfl) (kc2 := 0) (ks2 := 0) rfl rfl (fun k9 h9 w9 => by cases w9.1) (fun r9 h9 w9 => ?_)
        obtain ⟨w1, w2⟩ := w9
        subst h9
        cases w1
        show jJ G X _ 0 0 _ _ []
        refine jr_iinc K (D_at DX1_dropSome_q3 1 rfl) (i := 2) rfl (v := x2 + (1 : Int32)) (jinc (by decide)) (by decide) (L2 := [_, _, _, _]) rfl ?_
        refine jr_iinc K (D_at DX1_dropSome_q3 2 rfl) (i := 3) rfl (v := x3 + (1 : Int32)) (jinc (by decide)) (by decide) (L2 := [_, _, _, _]) rfl ?_
        refine jr_goto K (D_at DX1_dropSome_q3 3 rfl) (tgt := 4) (by decide) ?_
        refine jr_keep [true, true, true, true] ?_
        exact hr4 a0 a1 (x2 + (1 : Int32)) (x3 + (1 : Int32)) h62 hf
theorem J_X1_dropSome_4 {G : jG} {l : Launch} {d : Nat} {X : jX} {res : (Int32 × jH)} (K : jOK G l mX1_dropSome (d + 4) X) (n : Nat) (E : jEnd G mX1_dropSome (jPW res) X) (k : Nat) : ∀ (a0 : Nat) (a1 : Nat) (x2 : Int32) (x3 : Int32) (h : jH), F_X1_dropSome_4 n k a0 a1 x2 x3 h = some res → jJ G X h 0 0 4 [some (.ref a0), some (.ref a1), some (.int x2), some (.int x3)] [] := by
  induction k with
  | zero =>
    intro a0 a1 x2 x3 h hf
    exact jno (show (none : Option (Int32 × jH)) = some res from hf)
  | succ k ih =>
    intro a0 a1 x2 x3 h hf
    exact J_X1_dropSome_4_b K n (F_X1_dropSome_4 n k) ih E a0 a1 x2 x3 h hf
set_option maxHeartbeats 400000 in
set_option maxRecDepth 100000 in
theorem J_X1_dropSome {G : jG} {l : Launch} {d : Nat} {X : jX} {res : (Int32 × jH)} (K : jOK G l mX1_dropSome (d + 4) X) (n : Nat) (E : jEnd G mX1_dropSome (jPW res) X) (a0 : Nat) (a1 : Nat) (h : jH) (hf : F_X1_dropSome n a0 a1 h = some res) : jJ G X h 0 0 0 [some (.ref a0), some (.ref a1), none, none] [] := by
  unfold F_X1_dropSome at hf
  refine jr_iconst K (D_at DX1_dropSome_q0 0 rfl) (v := (0 : Int32)) (by decide) ?_
  refine jr_istore_n K (D_at DX1_dropSome_q0 1 rfl) (i := 2) rfl (by decide) (L2 := [_, _, _, _]) rfl ?_
  refine jr_iconst K (D_at DX1_dropSome_q0 2 rfl) (v := (0 : Int32)) (by decide) ?_
  refine jr_istore_n K (D_at DX1_dropSome_q0 3 rfl) (i := 3) rfl (by decide) (L2 := [_, _, _, _]) rfl ?_
  refine jr_keep [true, true, true, true] ?_
  exact J_X1_dropSome_4 K n E n a0 a1 (0 : Int32) (0 : Int32) h hf
theorem C_X1_dropSome {G : jG} {l : Launch} (d : Nat) {n : Nat} {a0 : Nat} {a1 : Nat} {h : jH} {res : (Int32 × jH)} (hf : F_X1_dropSome n a0 a1 h = some res) : jC G l mX1_dropSome (d + 4) 0 0 [.ref a0, .ref a1] h (jPW res) :=
  jC.of pn_X1 (jcats rfl) (Nat.le_of_ble_eq_true rfl) (fun X K E => J_X1_dropSome K n E a0 a1 h hf)
set_option maxHeartbeats 400000 in
set_option maxRecDepth 100000 in
theorem J_X1_turn {G : jG} {l : Launch} {d : Nat} {X : jX} {res : jH} (K : jOK G l mX1_turn (d + 1) X) (n : Nat) (E : jEnd G mX1_turn (jPV res) X) (a0 : Nat) (h : jH) (hf : F_X1_turn n a0 h = some res) : jJ G X h 0 0 0 [some (.ref a0)] [] := by
  unfold F_X1_turn at hf
  refine jr_aload_n K (D_at DX1_turn_q0 0 rfl) rfl rfl ?_
  refine jr_dup K (D_at DX1_turn_q0 1 rfl) rfl ?_
  obtain ⟨v2, e2, hf⟩ := jbind hf
  refine jr_getI K (D_at DX1_turn_q0 2 rfl) fg_X1_99_6 e2 ?_
  refine jr_iconst K (D_at DX1_turn_q0 3 rfl) (v := (1 : Int32)) (by decide) ?_
  refine jr_iadd K (D_at DX1_turn_q0 4 rfl) ?_
  obtain ⟨h7, e7, hf⟩ := jbind hf
  refine jr_putI K (D_at DX1_turn_q0 5 rfl) fp_X1_99_6 (Or.inl rfl) e7 ?_
  refine jr_aload_n K (D_at DX1_turn_q0 6 rfl) rfl rfl ?_
  obtain ⟨v11, e11, hf⟩ := jbind hf
  refine jr_getI K (D_at DX1_turn_q0 7 rfl) fg_X1_99_6 e11 ?_
  refine jr_bipush K (D_at DX1_turn_q0 8 rfl) (v := (8 : Int32)) (by decide) ?_
  refine jr_icmp_lt K (D_at DX1_turn_q0 9 rfl) (tgt := 40) (by decide) (fun c16 => ?_) (fun c16 => ?_)
  · replace hf := (if_pos c16).symm.trans hf
    cases hf
    exact jr_vret K E (D_at DX1_turn_q1 9 rfl) rfl ⟨rfl, rfl⟩
  · replace hf := (if_neg c16).symm.trans hf
    refine jr_aload_n K (D_at DX1_turn_q0 10 rfl) rfl rfl ?_
    refine jr_iconst K (D_at DX1_turn_q0 11 rfl) (v := (0 : Int32)) (by decide) ?_
    obtain ⟨h21, e21, hf⟩ := jbind hf
    refine jr_putI K (D_at DX1_turn_q1 0 rfl) fp_X1_99_6 (Or.inl rfl) e21 ?_
    refine jr_aload_n K (D_at DX1_turn_q1 1 rfl) rfl rfl ?_
    refine jr_sipush K (D_at DX1_turn_q1 2 rfl) (v := (9999 : Int32)) (by decide) ?_
    refine jr_aload_n K (D_at DX1_turn_q1 3 rfl) rfl rfl ?_
    obtain ⟨v29, e29, hf⟩ := jbind hf
    refine jr_getI K (D_at DX1_turn_q1 4 rfl) fg_X1_102_6 e29 ?_
    refine jr_iconst K (D_at DX1_turn_q1 5 rfl) (v := (1 : Int32)) (by decide) ?_
    refine jr_iadd K (D_at DX1_turn_q1 6 rfl) ?_
    refine jr_min K (D_at DX1_turn_q1 7 rfl) mm_X1_56 (by exact Nat.le_of_ble_eq_true rfl) ?_
    obtain ⟨h37, e37, hf⟩ := jbind hf
    refine jr_putI K (D_at DX1_turn_q1 8 rfl) fp_X1_102_6 (Or.inl rfl) e37 ?_
    cases hf
    exact jr_vret K E (D_at DX1_turn_q1 9 rfl) rfl ⟨rfl, rfl⟩
theorem C_X1_turn {G : jG} {l : Launch} (d : Nat) {n : Nat} {a0 : Nat} {h : jH} {res : jH} (hf : F_X1_turn n a0 h = some res) : jC G l mX1_turn (d + 1) 0 0 [.ref a0] h (jPV res) :=
  jC.of pn_X1 (jcats rfl) (Nat.le_of_ble_eq_true rfl) (fun X K E => J_X1_turn K n E a0 h hf)
set_option maxHeartbeats 400000 in
set_option maxRecDepth 100000 in
theorem J_X1_run_5_b {G : jG} {l : Launch} {d : Nat} {X : jX} {res : (Int32 × jH)} (K : jOK G l mX1_run (d + 5) X) (n : Nat) (rc5 : Nat → Nat → Int32 → Int32 → Int32 → jH → Option (Int32 × jH)) (hr5 : ∀ (a0 : Nat) (a1 : Nat) (x2 : Int32) (x3 : Int32) (x4 : Int32) (h : jH), rc5 a0 a1 x2 x3 x4 h = some res → jJ G X h 0 0 5 [some (.ref a0), some (.ref a1), some (.int x2), some (.int x3), some (.int x4)] []) (E : jEnd G mX1_run (jPW res) X) (a0 : Nat) (a1 : Nat) (x2 : Int32) (x3 : Int32) (x4 : Int32) (h : jH) (hf : F_X1_run_5_b n rc5 a0 a1 x2 x3 x4 h = some res) : jJ G X h 0 0 5 [some (.ref a0), some (.ref a1), some (.int x2), some (.int x3), some (.int x4)] [] := by
  unfold F_X1_run_5_b at hf
  refine jr_iload K (D_at DX1_run_q0 4 rfl) rfl ?_
  refine jr_iload_n K (D_at DX1_run_q0 5 rfl) rfl rfl ?_
  refine jr_icmp_ge K (D_at DX1_run_q0 6 rfl) (tgt := 40) (by decide) (fun c8 => ?_) (fun c8 => ?_)
  · replace hf := (if_pos c8).symm.trans hf
    refine jr_iload_n K (D_at DX1_run_q2 0 rfl) rfl rfl ?_
    cases hf
    exact jr_iret K E (D_at DX1_run_q2 1 rfl) rfl ⟨rfl, rfl⟩
  · replace hf := (if_neg c8).symm.trans hf
    refine jr_aload_n K (D_at DX1_run_q0 7 rfl) rfl rfl ?_
    refine jr_aload_n K (D_at DX1_run_q0 8 rfl) rfl rfl ?_
    obtain ⟨h13, e13, hf⟩ := jbind hf
    obtain ⟨rc_13, e13⟩ := jcv_o e13
    refine jr_callV K (C_X1_fadeAll (d) e13) (D_at DX1_run_q0 9 rfl) cv_X1_19_X1_fadeAll (As := [.ref a1]) (ci := 1) rfl rc_13 rfl rfl (by exact Nat.le_of_ble_eq_true rfl) (kc2 := 0) (ks2 := 0) rfl rfl (fun k9 h9 w9 => by cases w9.1) (fun r9 h9 w9 => ?_)
    obtain ⟨w1, w2⟩ := w9
    subst h9
    cases w1
    show jJ G X _ 0 0 _ _ []
    refine jr_iload_n K (D_at DX1_run_q0 10 rfl) rfl rfl ?_
    refine jr_aload_n K (D_at DX1_run_q0 11 rfl) rfl rfl ?_
    refine jr_aload_n K (D_at DX1_run_q1 0 rfl) rfl rfl ?_
    obtain ⟨q19, e19, hf⟩ := jbind hf
    obtain ⟨rc_19, e19⟩ := jcv_o e19
    refine jr_callV K (C_X1_catchSome (d) e19) (D_at DX1_run_q1 1 rfl) cv_X1_23_X1_catchSome (As := [.ref a1]) (ci := 1) rfl rc_19 rfl rfl (by exact Nat.le_of_ble_eq_true rfl) (kc2 := 0) (ks2 := 0) rfl rfl (fun k9 h9 w9 => by cases w9.1) (fun r9 h9 w9 => ?_)
    obtain ⟨w1, w2⟩ := w9
    subst h9
    cases w1
    show jJ G X _ 0 0 _ _ (.int q19.1 :: _)
    refine jr_aload_n K (D_at DX1_run_q1 2 rfl) rfl rfl ?_
    refine jr_aload_n K (D_at DX1_run_q1 3 rfl) rfl rfl ?_
    obtain ⟨q24, e24, hf⟩ := jbind hf
    obtain ⟨rc_24, e24⟩ := jcv_o e24
    refine jr_callV K (C_X1_dropSome (d) e24) (D_at DX1_run_q1 4 rfl) cv_X1_27_X1_dropSome (As := [.ref a1]) (ci := 1) rfl rc_24 rfl rfl (by exact Nat.le_of_ble_eq_true rfl) (kc2 := 0) (ks2 := 0) rfl rfl (fun k9 h9 w9 => by cases w9.1) (fun r9 h9 w9 => ?_)
    obtain ⟨w1, w2⟩ := w9
    subst h9
    cases w1
    show jJ G X _ 0 0 _ _ (.int q24.1 :: _)
    refine jr_iadd K (D_at DX1_run_q1 5 rfl) ?_
    refine jr_iadd K (D_at DX1_run_q1 6 rfl) ?_
    refine jr_istore_n K (D_at DX1_run_q1 7 rfl) (i := 3) rfl (by decide) (L2 := [_, _, _, _, _]) rfl ?_
    refine jr_aload_n K (D_at DX1_run_q1 8 rfl) rfl rfl ?_
    obtain ⟨h31, e31, hf⟩ := jbind hf
    refine jr_callS K (C_X1_turn (d + 3) e31) (D_at DX1_run_q1 9 rfl) cs_X1_30_X1_turn (As := [.ref a1]) rfl rfl (by exact Nat.le_of_ble_eq_true rfl) (kc2 := 0) (ks2 := 0) rfl rfl (fun k9 h9 w9 => by cases w9.1) (fun r9 h9 w9 => ?_)
    obtain ⟨w1, w2⟩ := w9
    subst h9
    cases w1
    show jJ G X _ 0 0 _ _ []
    refine jr_iinc K (D_at DX1_run_q1 10 rfl) (i := 4) rfl (v := x4 + (1 : Int32)) (jinc (by decide)) (by decide) (L2 := [_, _, _, _, _]) rfl ?_
    refine jr_goto K (D_at DX1_run_q1 11 rfl) (tgt := 5) (by decide) ?_
    refine jr_keep [true, true, true, true, true] ?_
    exact hr5 a0 a1 x2 (x3 + (q19.1 + q24.1)) (x4 + (1 : Int32)) h31 hf
theorem J_X1_run_5 {G : jG} {l : Launch} {d : Nat} {X : jX} {res : (Int32 × jH)} (K : jOK G l mX1_run (d + 5) X) (n : Nat) (E : jEnd G mX1_run (jPW res) X) (k : Nat) : ∀ (a0 : Nat) (a1 : Nat) (x2 : Int32) (x3 : Int32) (x4 : Int32) (h : jH), F_X1_run_5 n k a0 a1 x2 x3 x4 h = some res → jJ G X h 0 0 5 [some (.ref a0), some (.ref a1), some (.int x2), some (.int x3), some (.int x4)] [] := by
  induction k with
  | zero =>
    intro a0 a1 x2 x3 x4 h hf
    exact jno (show (none : Option (Int32 × jH)) = some res from hf)
  | succ k ih =>
    intro a0 a1 x2 x3 x4 h hf
    exact J_X1_run_5_b K n (F_X1_run_5 n k) ih E a0 a1 x2 x3 x4 h hf
set_option maxHeartbeats 400000 in
set_option maxRecDepth 100000 in
theorem J_X1_run {G : jG} {l : Launch} {d : Nat} {X : jX} {res : (Int32 × jH)} (K : jOK G l mX1_run (d + 5) X) (n : Nat) (E : jEnd G mX1_run (jPW res) X) (a0 : Nat) (a1 : Nat) (x2 : Int32) (h : jH) (hf : F_X1_run n a0 a1 x2 h = some res) : jJ G X h 0 0 0 [some (.ref a0), some (.ref a1), some (.int x2), none, none] [] := by
  unfold F_X1_run at hf
  refine jr_iconst K (D_at DX1_run_q0 0 rfl) (v := (0 : Int32)) (by decide) ?_
  refine jr_istore_n K (D_at DX1_run_q0 1 rfl) (i := 3) rfl (by decide) (L2 := [_, _, _, _, _]) rfl ?_
  refine jr_iconst K (D_at DX1_run_q0 2 rfl) (v := (0 : Int32)) (by decide) ?_
  refine jr_istore K (D_at DX1_run_q0 3 rfl) (i := 4) (by decide) (L2 := [_, _, _, _, _]) rfl ?_
  refine jr_keep [true, true, true, true, true] ?_
  exact J_X1_run_5 K n E n a0 a1 x2 (0 : Int32) (0 : Int32) h hf
theorem C_X1_run {G : jG} {l : Launch} (d : Nat) {n : Nat} {a0 : Nat} {a1 : Nat} {x2 : Int32} {h : jH} {res : (Int32 × jH)} (hf : F_X1_run n a0 a1 x2 h = some res) : jC G l mX1_run (d + 5) 0 0 [.ref a0, .ref a1, .int x2] h (jPW res) :=
  jC.of pn_X1 (jcats rfl) (Nat.le_of_ble_eq_true rfl) (fun X K E => J_X1_run K n E a0 a1 x2 h hf)
set_option maxHeartbeats 400000 in
set_option maxRecDepth 100000 in
theorem J_X1_tryHours {G : jG} {l : Launch} {d : Nat} {X : jX} {res : jH} (K : jOK G l mX1_tryHours (d + 6) X) (n : Nat) (E : jEnd G mX1_tryHours (jPV res) X) (a0 : Nat) (a1 : Nat) (x2 : Int32) (x3 : Int32) (h : jH) (hf : F_X1_tryHours n a0 a1 x2 x3 h = some res) : jJ G X h 0 0 0 [some (.ref a0), some (.ref a1), some (.int x2), some (.int x3)] [] := by
  unfold F_X1_tryHours at hf
  refine jr_aload_n K (D_at DX1_tryHours_q0 0 rfl) rfl rfl ?_
  obtain ⟨p1, e1, hf⟩ := jbind hf
  refine jr_getR K (D_at DX1_tryHours_q0 1 rfl) fg_X1_15_1 e1 ?_
  refine jr_aload_n K (D_at DX1_tryHours_q0 2 rfl) rfl rfl ?_
  obtain ⟨h5, e5, hf⟩ := jbind hf
  obtain ⟨rc_5, e5⟩ := jcv_o e5
  refine jr_callV K (C_X8_copyFrom (d + 3) e5) (D_at DX1_tryHours_q0 3 rfl) cv_X1_33_X8_copyFrom (As := [.ref a1]) (ci := 6) rfl rc_5 rfl rfl (by exact Nat.le_of_ble_eq_true rfl) (kc2 := 0) (ks2 := 0) rfl rfl (fun k9 h9 w9 => by cases w9.1) (fun r9 h9 w9 => ?_)
  obtain ⟨w1, w2⟩ := w9
  subst h9
  cases w1
  show jJ G X _ 0 0 _ _ []
  refine jr_aload_n K (D_at DX1_tryHours_q0 4 rfl) rfl rfl ?_
  obtain ⟨p9, e9, hf⟩ := jbind hf
  refine jr_getR K (D_at DX1_tryHours_q0 5 rfl) fg_X1_15_1 e9 ?_
  refine jr_iload_n K (D_at DX1_tryHours_q0 6 rfl) rfl rfl ?_
  obtain ⟨h13, e13, hf⟩ := jbind hf
  refine jr_putI K (D_at DX1_tryHours_q0 7 rfl) fp_X1_38_6 (Or.inl rfl) e13 ?_
  refine jr_aload_n K (D_at DX1_tryHours_q0 8 rfl) rfl rfl ?_
  refine jr_aload_n K (D_at DX1_tryHours_q0 9 rfl) rfl rfl ?_
  obtain ⟨p18, e18, hf⟩ := jbind hf
  refine jr_getR K (D_at DX1_tryHours_q0 10 rfl) fg_X1_15_1 e18 ?_
  refine jr_iload_n K (D_at DX1_tryHours_q0 11 rfl) rfl rfl ?_
  obtain ⟨q22, e22, hf⟩ := jbind hf
  obtain ⟨rc_22, e22⟩ := jcv_o e22
  refine jr_callV K (C_X1_run (d) e22) (D_at DX1_tryHours_q1 0 rfl) cv_X1_42_X1_run (As := [.ref p18, .int x2]) (ci := 1) rfl rc_22 rfl rfl (by exact Nat.le_of_ble_eq_true rfl) (kc2 := 0) (ks2 := 0) rfl rfl (fun k9 h9 w9 => by cases w9.1) (fun r9 h9 w9 => ?_)
  obtain ⟨w1, w2⟩ := w9
  subst h9
  cases w1
  show jJ G X _ 0 0 _ _ (.int q22.1 :: _)
  refine jr_pop K (D_at DX1_tryHours_q1 1 rfl) rfl ?_
  cases hf
  exact jr_vret K E (D_at DX1_tryHours_q1 2 rfl) rfl ⟨rfl, rfl⟩
theorem C_X1_tryHours {G : jG} {l : Launch} (d : Nat) {n : Nat} {a0 : Nat} {a1 : Nat} {x2 : Int32} {x3 : Int32} {h : jH} {res : jH} (hf : F_X1_tryHours n a0 a1 x2 x3 h = some res) : jC G l mX1_tryHours (d + 6) 0 0 [.ref a0, .ref a1, .int x2, .int x3] h (jPV res) :=
  jC.of pn_X1 (jcats rfl) (Nat.le_of_ble_eq_true rfl) (fun X K E => J_X1_tryHours K n E a0 a1 x2 x3 h hf)
set_option maxHeartbeats 400000 in
set_option maxRecDepth 100000 in
theorem J_X1_goAhead_10_b {G : jG} {l : Launch} {d : Nat} {X : jX} {res : jH} (K : jOK G l mX1_goAhead (d + 5) X) (n : Nat) (rc10 : Nat → Int32 → Int32 → jH → Option jH) (hr10 : ∀ (a0 : Nat) (x2 : Int32) (x3 : Int32) (h : jH), rc10 a0 x2 x3 h = some res → jJ G X h 0 0 10 [some (.ref a0), none, some (.int x2), some (.int x3)] []) (E : jEnd G mX1_goAhead (jPV res) X) (a0 : Nat) (x2 : Int32) (x3 : Int32) (h : jH) (hf : F_X1_goAhead_10_b n rc10 a0 x2 x3 h = some res) : jJ G X h 0 0 10 [some (.ref a0), none, some (.int x2), some (.int x3)] [] := by
  unfold F_X1_goAhead_10_b at hf
  refine jr_iload_n K (D_at DX1_goAhead_q0 6 rfl) rfl rfl ?_
  refine jr_iload_n K (D_at DX1_goAhead_q0 7 rfl) rfl rfl ?_
  refine jr_icmp_ge K (D_at DX1_goAhead_q0 8 rfl) (tgt := 36) (by decide) (fun c12 => ?_) (fun c12 => ?_)
  · replace hf := (if_pos c12).symm.trans hf
    cases hf
    exact jr_vret K E (D_at DX1_goAhead_q1 6 rfl) rfl ⟨rfl, rfl⟩
  · replace hf := (if_neg c12).symm.trans hf
    refine jr_aload_n K (D_at DX1_goAhead_q0 9 rfl) rfl rfl ?_
    refine jr_aload_n K (D_at DX1_goAhead_q0 10 rfl) rfl rfl ?_
    obtain ⟨p17, e17, hf⟩ := jbind hf
    refine jr_getR K (D_at DX1_goAhead_q0 11 rfl) fg_X1_15_1 e17 ?_
    obtain ⟨h20, e20, hf⟩ := jbind hf
    obtain ⟨rc_20, e20⟩ := jcv_o e20
    refine jr_callV K (C_X1_fadeAll (d) e20) (D_at DX1_goAhead_q1 0 rfl) cv_X1_19_X1_fadeAll (As := [.ref p17]) (ci := 1) rfl rc_20 rfl rfl (by exact Nat.le_of_ble_eq_true rfl) (kc2 := 0) (ks2 := 0) rfl rfl (fun k9 h9 w9 => by cases w9.1) (fun r9 h9 w9 => ?_)
    obtain ⟨w1, w2⟩ := w9
    subst h9
    cases w1
    show jJ G X _ 0 0 _ _ []
    refine jr_aload_n K (D_at DX1_goAhead_q1 1 rfl) rfl rfl ?_
    obtain ⟨p24, e24, hf⟩ := jbind hf
    refine jr_getR K (D_at DX1_goAhead_q1 2 rfl) fg_X1_15_1 e24 ?_
    obtain ⟨h27, e27, hf⟩ := jbind hf
    refine jr_callS K (C_X1_turn (d + 3) e27) (D_at DX1_goAhead_q1 3 rfl) cs_X1_30_X1_turn (As := [.ref p24]) rfl rfl (by exact Nat.le_of_ble_eq_true rfl) (kc2 := 0) (ks2 := 0) rfl rfl (fun k9 h9 w9 => by cases w9.1) (fun r9 h9 w9 => ?_)
    obtain ⟨w1, w2⟩ := w9
    subst h9
    cases w1
    show jJ G X _ 0 0 _ _ []
    refine jr_iinc K (D_at DX1_goAhead_q1 4 rfl) (i := 3) rfl (v := x3 + (1 : Int32)) (jinc (by decide)) (by decide) (L2 := [_, _, _, _]) rfl ?_
    refine jr_goto K (D_at DX1_goAhead_q1 5 rfl) (tgt := 10) (by decide) ?_
    refine jr_keep [true, false, true, true] ?_
    exact hr10 a0 x2 (x3 + (1 : Int32)) h27 hf
theorem J_X1_goAhead_10 {G : jG} {l : Launch} {d : Nat} {X : jX} {res : jH} (K : jOK G l mX1_goAhead (d + 5) X) (n : Nat) (E : jEnd G mX1_goAhead (jPV res) X) (k : Nat) : ∀ (a0 : Nat) (x2 : Int32) (x3 : Int32) (h : jH), F_X1_goAhead_10 n k a0 x2 x3 h = some res → jJ G X h 0 0 10 [some (.ref a0), none, some (.int x2), some (.int x3)] [] := by
  induction k with
  | zero =>
    intro a0 x2 x3 h hf
    exact jno (show (none : Option jH) = some res from hf)
  | succ k ih =>
    intro a0 x2 x3 h hf
    exact J_X1_goAhead_10_b K n (F_X1_goAhead_10 n k) ih E a0 x2 x3 h hf
set_option maxHeartbeats 400000 in
set_option maxRecDepth 100000 in
theorem J_X1_goAhead {G : jG} {l : Launch} {d : Nat} {X : jX} {res : jH} (K : jOK G l mX1_goAhead (d + 5) X) (n : Nat) (E : jEnd G mX1_goAhead (jPV res) X) (a0 : Nat) (a1 : Nat) (x2 : Int32) (h : jH) (hf : F_X1_goAhead n a0 a1 x2 h = some res) : jJ G X h 0 0 0 [some (.ref a0), some (.ref a1), some (.int x2), none] [] := by
  unfold F_X1_goAhead at hf
  refine jr_aload_n K (D_at DX1_goAhead_q0 0 rfl) rfl rfl ?_
  obtain ⟨p1, e1, hf⟩ := jbind hf
  refine jr_getR K (D_at DX1_goAhead_q0 1 rfl) fg_X1_15_1 e1 ?_
  refine jr_aload_n K (D_at DX1_goAhead_q0 2 rfl) rfl rfl ?_
  obtain ⟨h5, e5, hf⟩ := jbind hf
  obtain ⟨rc_5, e5⟩ := jcv_o e5
  refine jr_callV K (C_X8_copyFrom (d + 2) e5) (D_at DX1_goAhead_q0 3 rfl) cv_X1_33_X8_copyFrom (As := [.ref a1]) (ci := 6) rfl rc_5 rfl rfl (by exact Nat.le_of_ble_eq_true rfl) (kc2 := 0) (ks2 := 0) rfl rfl (fun k9 h9 w9 => by cases w9.1) (fun r9 h9 w9 => ?_)
  obtain ⟨w1, w2⟩ := w9
  subst h9
  cases w1
  show jJ G X _ 0 0 _ _ []
  refine jr_iconst K (D_at DX1_goAhead_q0 4 rfl) (v := (0 : Int32)) (by decide) ?_
  refine jr_istore_n K (D_at DX1_goAhead_q0 5 rfl) (i := 3) rfl (by decide) (L2 := [_, _, _, _]) rfl ?_
  refine jr_keep [true, false, true, true] ?_
  exact J_X1_goAhead_10 K n E n a0 x2 (0 : Int32) h5 hf
theorem C_X1_goAhead {G : jG} {l : Launch} (d : Nat) {n : Nat} {a0 : Nat} {a1 : Nat} {x2 : Int32} {h : jH} {res : jH} (hf : F_X1_goAhead n a0 a1 x2 h = some res) : jC G l mX1_goAhead (d + 5) 0 0 [.ref a0, .ref a1, .int x2] h (jPV res) :=
  jC.of pn_X1 (jcats rfl) (Nat.le_of_ble_eq_true rfl) (fun X K E => J_X1_goAhead K n E a0 a1 x2 h hf)
set_option maxHeartbeats 400000 in
set_option maxRecDepth 100000 in
theorem J_X1_isSomePale_2_b {G : jG} {l : Launch} {d : Nat} {X : jX} {res : Int32} (K : jOK G l mX1_isSomePale (d) X) (n : Nat) (h : jH) (rc2 : Nat → Int32 → jH → Option Int32) (hr2 : ∀ (a0 : Nat) (x1 : Int32), rc2 a0 x1 h = some res → jJ G X h 0 0 2 [some (.ref a0), some (.int x1)] []) (E : jEnd G mX1_isSomePale (jPR h res) X) (a0 : Nat) (x1 : Int32) (hf : F_X1_isSomePale_2_b n rc2 a0 x1 h = some res) : jJ G X h 0 0 2 [some (.ref a0), some (.int x1)] [] := by
  unfold F_X1_isSomePale_2_b at hf
  refine jr_iload_n K (D_at DX1_isSomePale_q0 2 rfl) rfl rfl ?_
  refine jr_aload_n K (D_at DX1_isSomePale_q0 3 rfl) rfl rfl ?_
  obtain ⟨v4, e4, hf⟩ := jbind hf
  refine jr_getI K (D_at DX1_isSomePale_q0 4 rfl) fg_X1_62_6 e4 ?_
  refine jr_icmp_ge K (D_at DX1_isSomePale_q0 5 rfl) (tgt := 29) (by decide) (fun c7 => ?_) (fun c7 => ?_)
  · replace hf := (if_pos c7).symm.trans hf
    refine jr_iconst K (D_at DX1_isSomePale_q1 4 rfl) (v := (0 : Int32)) (by decide) ?_
    cases hf
    exact jr_zret K E (D_at DX1_isSomePale_q1 5 rfl) rfl (Or.inl rfl) ⟨rfl, rfl⟩
  · replace hf := (if_neg c7).symm.trans hf
    refine jr_aload_n K (D_at DX1_isSomePale_q0 6 rfl) rfl rfl ?_
    obtain ⟨p11, e11, hf⟩ := jbind hf
    refine jr_getR K (D_at DX1_isSomePale_q0 7 rfl) fg_X1_65_6 e11 ?_
    refine jr_iload_n K (D_at DX1_isSomePale_q0 8 rfl) rfl rfl ?_
    obtain ⟨v15, e15, hf⟩ := jbind hf
    refine jr_iald K (D_at DX1_isSomePale_q0 9 rfl) e15 ?_
    refine jr_bipush K (D_at DX1_isSomePale_q0 10 rfl) (v := (99 : Int32)) (by decide) ?_
    refine jr_icmp_ne K (D_at DX1_isSomePale_q0 11 rfl) (tgt := 23) (by decide) (fun c18 => ?_) (fun c18 => ?_)
    · replace hf := (if_neg c18).symm.trans hf
      refine jr_iinc K (D_at DX1_isSomePale_q1 2 rfl) (i := 1) rfl (v := x1 + (1 : Int32)) (jinc (by decide)) (by decide) (L2 := [_, _]) rfl ?_
      refine jr_goto K (D_at DX1_isSomePale_q1 3 rfl) (tgt := 2) (by decide) ?_
      refine jr_keep [true, true] ?_
      exact hr2 a0 (x1 + (1 : Int32)) hf
    · replace hf := (if_pos c18).symm.trans hf
      refine jr_iconst K (D_at DX1_isSomePale_q1 0 rfl) (v := (1 : Int32)) (by decide) ?_
      cases hf
      exact jr_zret K E (D_at DX1_isSomePale_q1 1 rfl) rfl (Or.inr rfl) ⟨rfl, rfl⟩
theorem J_X1_isSomePale_2 {G : jG} {l : Launch} {d : Nat} {X : jX} {res : Int32} (K : jOK G l mX1_isSomePale (d) X) (n : Nat) (h : jH) (E : jEnd G mX1_isSomePale (jPR h res) X) (k : Nat) : ∀ (a0 : Nat) (x1 : Int32), F_X1_isSomePale_2 n k a0 x1 h = some res → jJ G X h 0 0 2 [some (.ref a0), some (.int x1)] [] := by
  induction k with
  | zero =>
    intro a0 x1 hf
    exact jno (show (none : Option Int32) = some res from hf)
  | succ k ih =>
    intro a0 x1 hf
    exact J_X1_isSomePale_2_b K n h (F_X1_isSomePale_2 n k) ih E a0 x1 hf
set_option maxHeartbeats 400000 in
set_option maxRecDepth 100000 in
theorem J_X1_isSomePale {G : jG} {l : Launch} {d : Nat} {X : jX} {res : Int32} (K : jOK G l mX1_isSomePale (d) X) (n : Nat) (h : jH) (E : jEnd G mX1_isSomePale (jPR h res) X) (a0 : Nat) (hf : F_X1_isSomePale n a0 h = some res) : jJ G X h 0 0 0 [some (.ref a0), none] [] := by
  unfold F_X1_isSomePale at hf
  refine jr_iconst K (D_at DX1_isSomePale_q0 0 rfl) (v := (0 : Int32)) (by decide) ?_
  refine jr_istore_n K (D_at DX1_isSomePale_q0 1 rfl) (i := 1) rfl (by decide) (L2 := [_, _]) rfl ?_
  refine jr_keep [true, true] ?_
  exact J_X1_isSomePale_2 K n h E n a0 (0 : Int32) hf
theorem C_X1_isSomePale {G : jG} {l : Launch} (d : Nat) {n : Nat} {a0 : Nat} {h : jH} {res : Int32} (hf : F_X1_isSomePale n a0 h = some res) : jC G l mX1_isSomePale (d) 0 0 [.ref a0] h (jPR h res) :=
  jC.of pn_X1 (jcats rfl) (Nat.le_of_ble_eq_true rfl) (fun X K E => J_X1_isSomePale K n h E a0 hf)
set_option maxHeartbeats 400000 in
set_option maxRecDepth 100000 in
theorem J_X1_firstPale_10_b {G : jG} {l : Launch} {d : Nat} {X : jX} {res : (Int32 × jH)} (K : jOK G l mX1_firstPale (d + 5) X) (n : Nat) (rc10 : Nat → Int32 → jH → Option (Int32 × jH)) (hr10 : ∀ (a0 : Nat) (x2 : Int32) (h : jH), rc10 a0 x2 h = some res → jJ G X h 0 0 10 [some (.ref a0), none, some (.int x2)] []) (E : jEnd G mX1_firstPale (jPW res) X) (a0 : Nat) (x2 : Int32) (h : jH) (hf : F_X1_firstPale_10_b n rc10 a0 x2 h = some res) : jJ G X h 0 0 10 [some (.ref a0), none, some (.int x2)] [] := by
  unfold F_X1_firstPale_10_b at hf
  refine jr_iload_n K (D_at DX1_firstPale_q0 6 rfl) rfl rfl ?_
  refine jr_bipush K (D_at DX1_firstPale_q0 7 rfl) (v := (80 : Int32)) (by decide) ?_
  refine jr_icmp_gt K (D_at DX1_firstPale_q0 8 rfl) (tgt := 49) (by decide) (fun c13 => ?_) (fun c13 => ?_)
  · replace hf := (if_pos c13).symm.trans hf
    refine jr_iconst K (D_at DX1_firstPale_q2 0 rfl) (v := (-1 : Int32)) (by decide) ?_
    cases hf
    exact jr_iret K E (D_at DX1_firstPale_q2 1 rfl) rfl ⟨rfl, rfl⟩
  · replace hf := (if_neg c13).symm.trans hf
    refine jr_aload_n K (D_at DX1_firstPale_q0 9 rfl) rfl rfl ?_
    obtain ⟨p17, e17, hf⟩ := jbind hf
    refine jr_getR K (D_at DX1_firstPale_q0 10 rfl) fg_X1_15_1 e17 ?_
    obtain ⟨v20, e20, hf⟩ := jbind hf
    refine jr_callS K (C_X1_isSomePale (d + 4) e20) (D_at DX1_firstPale_q0 11 rfl) cs_X1_46_X1_isSomePale (As := [.ref p17]) rfl rfl (by exact Nat.le_of_ble_eq_true rfl) (kc2 := 0) (ks2 := 0) rfl rfl (fun k9 h9 w9 => by cases w9.1) (fun r9 h9 w9 => ?_)
    obtain ⟨w1, w2⟩ := w9
    subst h9
    cases w1
    show jJ G X _ 0 0 _ _ (.int v20 :: _)
    refine jr_if_eq K (D_at DX1_firstPale_q1 0 rfl) (tgt := 28) (by decide) (fun c23 => ?_) (fun c23 => ?_)
    · replace hf := (if_pos c23).symm.trans hf
      refine jr_aload_n K (D_at DX1_firstPale_q1 3 rfl) rfl rfl ?_
      refine jr_aload_n K (D_at DX1_firstPale_q1 4 rfl) rfl rfl ?_
      obtain ⟨p30, e30, hf⟩ := jbind hf
      refine jr_getR K (D_at DX1_firstPale_q1 5 rfl) fg_X1_15_1 e30 ?_
      obtain ⟨h33, e33, hf⟩ := jbind hf
      obtain ⟨rc_33, e33⟩ := jcv_o e33
      refine jr_callV K (C_X1_fadeAll (d) e33) (D_at DX1_firstPale_q1 6 rfl) cv_X1_19_X1_fadeAll (As := [.ref p30]) (ci := 1) rfl rc_33 rfl rfl (by exact Nat.le_of_ble_eq_true rfl) (kc2 := 0) (ks2 := 0) rfl rfl (fun k9 h9 w9 => by cases w9.1) (fun r9 h9 w9 => ?_)
      obtain ⟨w1, w2⟩ := w9
      subst h9
      cases w1
      show jJ G X _ 0 0 _ _ []
      refine jr_aload_n K (D_at DX1_firstPale_q1 7 rfl) rfl rfl ?_
      obtain ⟨p37, e37, hf⟩ := jbind hf
      refine jr_getR K (D_at DX1_firstPale_q1 8 rfl) fg_X1_15_1 e37 ?_
      obtain ⟨h40, e40, hf⟩ := jbind hf
      refine jr_callS K (C_X1_turn (d + 3) e40) (D_at DX1_firstPale_q1 9 rfl) cs_X1_30_X1_turn (As := [.ref p37]) rfl rfl (by exact Nat.le_of_ble_eq_true rfl) (kc2 := 0) (ks2 := 0) rfl rfl (fun k9 h9 w9 => by cases w9.1) (fun r9 h9 w9 => ?_)
      obtain ⟨w1, w2⟩ := w9
      subst h9
      cases w1
      show jJ G X _ 0 0 _ _ []
      refine jr_iinc K (D_at DX1_firstPale_q1 10 rfl) (i := 2) rfl (v := x2 + (1 : Int32)) (jinc (by decide)) (by decide) (L2 := [_, _, _]) rfl ?_
      refine jr_goto K (D_at DX1_firstPale_q1 11 rfl) (tgt := 10) (by decide) ?_
      refine jr_keep [true, false, true] ?_
      exact hr10 a0 (x2 + (1 : Int32)) h40 hf
    · replace hf := (if_neg c23).symm.trans hf
      refine jr_iload_n K (D_at DX1_firstPale_q1 1 rfl) rfl rfl ?_
      cases hf
      exact jr_iret K E (D_at DX1_firstPale_q1 2 rfl) rfl ⟨rfl, rfl⟩
theorem J_X1_firstPale_10 {G : jG} {l : Launch} {d : Nat} {X : jX} {res : (Int32 × jH)} (K : jOK G l mX1_firstPale (d + 5) X) (n : Nat) (E : jEnd G mX1_firstPale (jPW res) X) (k : Nat) : ∀ (a0 : Nat) (x2 : Int32) (h : jH), F_X1_firstPale_10 n k a0 x2 h = some res → jJ G X h 0 0 10 [some (.ref a0), none, some (.int x2)] [] := by
  induction k with
  | zero =>
    intro a0 x2 h hf
    exact jno (show (none : Option (Int32 × jH)) = some res from hf)
  | succ k ih =>
    intro a0 x2 h hf
    exact J_X1_firstPale_10_b K n (F_X1_firstPale_10 n k) ih E a0 x2 h hf
set_option maxHeartbeats 400000 in
set_option maxRecDepth 100000 in
theorem J_X1_firstPale {G : jG} {l : Launch} {d : Nat} {X : jX} {res : (Int32 × jH)} (K : jOK G l mX1_firstPale (d + 5) X) (n : Nat) (E : jEnd G mX1_firstPale (jPW res) X) (a0 : Nat) (a1 : Nat) (h : jH) (hf : F_X1_firstPale n a0 a1 h = some res) : jJ G X h 0 0 0 [some (.ref a0), some (.ref a1), none] [] := by
  unfold F_X1_firstPale at hf
  refine jr_aload_n K (D_at DX1_firstPale_q0 0 rfl) rfl rfl ?_
  obtain ⟨p1, e1, hf⟩ := jbind hf
  refine jr_getR K (D_at DX1_firstPale_q0 1 rfl) fg_X1_15_1 e1 ?_
  refine jr_aload_n K (D_at DX1_firstPale_q0 2 rfl) rfl rfl ?_
  obtain ⟨h5, e5, hf⟩ := jbind hf
  obtain ⟨rc_5, e5⟩ := jcv_o e5
  refine jr_callV K (C_X8_copyFrom (d + 2) e5) (D_at DX1_firstPale_q0 3 rfl) cv_X1_33_X8_copyFrom (As := [.ref a1]) (ci := 6) rfl rc_5 rfl rfl (by exact Nat.le_of_ble_eq_true rfl) (kc2 := 0) (ks2 := 0) rfl rfl (fun k9 h9 w9 => by cases w9.1) (fun r9 h9 w9 => ?_)
  obtain ⟨w1, w2⟩ := w9
  subst h9
  cases w1
  show jJ G X _ 0 0 _ _ []
  refine jr_iconst K (D_at DX1_firstPale_q0 4 rfl) (v := (0 : Int32)) (by decide) ?_
  refine jr_istore_n K (D_at DX1_firstPale_q0 5 rfl) (i := 2) rfl (by decide) (L2 := [_, _, _]) rfl ?_
  refine jr_keep [true, false, true] ?_
  exact J_X1_firstPale_10 K n E n a0 (0 : Int32) h5 hf
theorem C_X1_firstPale {G : jG} {l : Launch} (d : Nat) {n : Nat} {a0 : Nat} {a1 : Nat} {h : jH} {res : (Int32 × jH)} (hf : F_X1_firstPale n a0 a1 h = some res) : jC G l mX1_firstPale (d + 5) 0 0 [.ref a0, .ref a1] h (jPW res) :=
  jC.of pn_X1 (jcats rfl) (Nat.le_of_ble_eq_true rfl) (fun X K E => J_X1_firstPale K n E a0 a1 h hf)
set_option maxHeartbeats 400000 in
set_option maxRecDepth 100000 in
theorem J_X1_oddsToStay_25_b {G : jG} {l : Launch} {d : Nat} {X : jX} {res : (Int32 × jH)} (K : jOK G l mX1_oddsToStay (d + 4) X) (n : Nat) (rc25 : Int32 → Int32 → Int32 → Int32 → jH → Option (Int32 × jH)) (hr25 : ∀ (x3 : Int32) (x4 : Int32) (x5 : Int32) (x6 : Int32) (h : jH), rc25 x3 x4 x5 x6 h = some res → jJ G X h 0 0 25 [none, none, none, some (.int x3), some (.int x4), some (.int x5), some (.int x6)] []) (E : jEnd G mX1_oddsToStay (jPW res) X) (x3 : Int32) (x4 : Int32) (x5 : Int32) (x6 : Int32) (h : jH) (hf : F_X1_oddsToStay_25_b n rc25 x3 x4 x5 x6 h = some res) : jJ G X h 0 0 25 [none, none, none, some (.int x3), some (.int x4), some (.int x5), some (.int x6)] [] := by
  unfold F_X1_oddsToStay_25_b at hf
  refine jr_iload K (D_at DX1_oddsToStay_q1 1 rfl) rfl ?_
  refine jr_iload_n K (D_at DX1_oddsToStay_q1 2 rfl) rfl rfl ?_
  refine jr_icmp_ge K (D_at DX1_oddsToStay_q1 3 rfl) (tgt := 50) (by decide) (fun c28 => ?_) (fun c28 => ?_)
  · replace hf := (if_pos c28).symm.trans hf
    refine jr_iload K (D_at DX1_oddsToStay_q2 2 rfl) rfl ?_
    cases hf
    exact jr_iret K E (D_at DX1_oddsToStay_q2 3 rfl) rfl ⟨rfl, rfl⟩
  · replace hf := (if_neg c28).symm.trans hf
    refine jr_iload K (D_at DX1_oddsToStay_q1 4 rfl) rfl ?_
    refine jr_bipush K (D_at DX1_oddsToStay_q1 5 rfl) (v := (100 : Int32)) (by decide) ?_
    refine jr_iload K (D_at DX1_oddsToStay_q1 6 rfl) rfl ?_
    refine jr_isub K (D_at DX1_oddsToStay_q1 7 rfl) ?_
    refine jr_imul K (D_at DX1_oddsToStay_q1 8 rfl) ?_
    refine jr_bipush K (D_at DX1_oddsToStay_q1 9 rfl) (v := (100 : Int32)) (by decide) ?_
    refine jr_idiv K (D_at DX1_oddsToStay_q1 10 rfl) (by decide) ?_
    refine jr_istore K (D_at DX1_oddsToStay_q1 11 rfl) (i := 5) (by decide) (L2 := [_, _, _, _, _, _, _]) rfl ?_
    refine jr_iinc K (D_at DX1_oddsToStay_q2 0 rfl) (i := 6) rfl (v := x6 + (1 : Int32)) (jinc (by decide)) (by decide) (L2 := [_, _, _, _, _, _, _]) rfl ?_
    refine jr_goto K (D_at DX1_oddsToStay_q2 1 rfl) (tgt := 25) (by decide) ?_
    refine jr_keep [false, false, false, true, true, true, true] ?_
    exact hr25 x3 x4 ((x5 * ((100 : Int32) - x4)) / (100 : Int32)) (x6 + (1 : Int32)) h hf
theorem J_X1_oddsToStay_25 {G : jG} {l : Launch} {d : Nat} {X : jX} {res : (Int32 × jH)} (K : jOK G l mX1_oddsToStay (d + 4) X) (n : Nat) (E : jEnd G mX1_oddsToStay (jPW res) X) (k : Nat) : ∀ (x3 : Int32) (x4 : Int32) (x5 : Int32) (x6 : Int32) (h : jH), F_X1_oddsToStay_25 n k x3 x4 x5 x6 h = some res → jJ G X h 0 0 25 [none, none, none, some (.int x3), some (.int x4), some (.int x5), some (.int x6)] [] := by
  induction k with
  | zero =>
    intro x3 x4 x5 x6 h hf
    exact jno (show (none : Option (Int32 × jH)) = some res from hf)
  | succ k ih =>
    intro x3 x4 x5 x6 h hf
    exact J_X1_oddsToStay_25_b K n (F_X1_oddsToStay_25 n k) ih E x3 x4 x5 x6 h hf
set_option maxHeartbeats 400000 in
set_option maxRecDepth 100000 in
theorem J_X1_oddsToStay {G : jG} {l : Launch} {d : Nat} {X : jX} {res : (Int32 × jH)} (K : jOK G l mX1_oddsToStay (d + 4) X) (n : Nat) (E : jEnd G mX1_oddsToStay (jPW res) X) (a0 : Nat) (a1 : Nat) (x2 : Int32) (x3 : Int32) (h : jH) (hf : F_X1_oddsToStay n a0 a1 x2 x3 h = some res) : jJ G X h 0 0 0 [some (.ref a0), some (.ref a1), some (.int x2), some (.int x3), none, none, none] [] := by
  unfold F_X1_oddsToStay at hf
  refine jr_bipush K (D_at DX1_oddsToStay_q0 0 rfl) (v := (100 : Int32)) (by decide) ?_
  refine jr_aload_n K (D_at DX1_oddsToStay_q0 1 rfl) rfl rfl ?_
  obtain ⟨p3, e3, hf⟩ := jbind hf
  refine jr_getR K (D_at DX1_oddsToStay_q0 2 rfl) fg_X1_9_1 e3 ?_
  refine jr_iconst K (D_at DX1_oddsToStay_q0 3 rfl) (v := (2 : Int32)) (by decide) ?_
  refine jr_aload_n K (D_at DX1_oddsToStay_q0 4 rfl) rfl rfl ?_
  refine jr_iload_n K (D_at DX1_oddsToStay_q0 5 rfl) rfl rfl ?_
  obtain ⟨q9, e9, hf⟩ := jbind hf
  obtain ⟨rc_9, e9⟩ := jcv_o e9
  refine jr_callV K (C_X2_amount (d) e9) (D_at DX1_oddsToStay_q0 6 rfl) cv_X1_50_X2_amount (As := [.int (2 : Int32), .ref a1, .int x2]) (ci := 2) rfl rc_9 rfl rfl (by exact Nat.le_of_ble_eq_true rfl) (kc2 := 0) (ks2 := 0) rfl rfl (fun k9 h9 w9 => by cases w9.1) (fun r9 h9 w9 => ?_)
  obtain ⟨w1, w2⟩ := w9
  subst h9
  cases w1
  show jJ G X _ 0 0 _ _ (.int q9.1 :: _)
  refine jr_min K (D_at DX1_oddsToStay_q0 7 rfl) mm_X1_56 (by exact Nat.le_of_ble_eq_true rfl) ?_
  refine jr_istore K (D_at DX1_oddsToStay_q0 8 rfl) (i := 4) (by decide) (L2 := [_, _, _, _, _, _, _]) rfl ?_
  refine jr_sipush K (D_at DX1_oddsToStay_q0 9 rfl) (v := (10000 : Int32)) (by decide) ?_
  refine jr_istore K (D_at DX1_oddsToStay_q0 10 rfl) (i := 5) (by decide) (L2 := [_, _, _, _, _, _, _]) rfl ?_
  refine jr_iconst K (D_at DX1_oddsToStay_q0 11 rfl) (v := (0 : Int32)) (by decide) ?_
  refine jr_istore K (D_at DX1_oddsToStay_q1 0 rfl) (i := 6) (by decide) (L2 := [_, _, _, _, _, _, _]) rfl ?_
  refine jr_keep [false, false, false, true, true, true, true] ?_
  exact J_X1_oddsToStay_25 K n E n x3 (if q9.1 < (100 : Int32) then q9.1 else (100 : Int32)) (10000 : Int32) (0 : Int32) q9.2 hf
theorem C_X1_oddsToStay {G : jG} {l : Launch} (d : Nat) {n : Nat} {a0 : Nat} {a1 : Nat} {x2 : Int32} {x3 : Int32} {h : jH} {res : (Int32 × jH)} (hf : F_X1_oddsToStay n a0 a1 x2 x3 h = some res) : jC G l mX1_oddsToStay (d + 4) 0 0 [.ref a0, .ref a1, .int x2, .int x3] h (jPW res) :=
  jC.of pn_X1 (jcats rfl) (Nat.le_of_ble_eq_true rfl) (fun X K E => J_X1_oddsToStay K n E a0 a1 x2 x3 h hf)
set_option maxHeartbeats 400000 in
set_option maxRecDepth 100000 in
theorem J_X2_init {G : jG} {l : Launch} {d : Nat} {X : jX} {res : jH} (K : jOK G l mX2_init (d + 1) X) (n : Nat) (E : jEnd G mX2_init (jPV res) X) (a0 : Nat) (h : jH) (hf : F_X2_init n a0 h = some res) : jJ G X h 5 460 0 [some (.ref a0)] [] := by
  unfold F_X2_init at hf
  refine jr_aload_n K (D_at DX2_init_q0 0 rfl) rfl rfl ?_
  refine jr_objInit K (D_at DX2_init_q0 1 rfl) oi_X2_3 (by exact Nat.le_of_ble_eq_true rfl) ?_
  refine jr_aload_n K (D_at DX2_init_q0 2 rfl) rfl rfl ?_
  refine jr_bipush K (D_at DX2_init_q0 3 rfl) (v := (12 : Int32)) (by decide) ?_
  obtain ⟨h7, e7, hf⟩ := jbind hf
  refine jr_newIE (N := 12) K (D_at DX2_init_q0 4 rfl) ac_int (by decide) (by decide) (by decide) (kc := 4) (ks := 448) e7 ?_
  obtain ⟨h9, e9, hf⟩ := jbind hf
  refine jr_putA K (D_at DX2_init_q0 5 rfl) fp_X2_11_2 (Or.inr rfl) e9 ?_
  refine jr_aload_n K (D_at DX2_init_q0 6 rfl) rfl rfl ?_
  refine jr_bipush K (D_at DX2_init_q0 7 rfl) (v := (12 : Int32)) (by decide) ?_
  obtain ⟨h15, e15, hf⟩ := jbind hf
  refine jr_newIE (N := 12) K (D_at DX2_init_q0 8 rfl) ac_int (by decide) (by decide) (by decide) (kc := 3) (ks := 436) e15 ?_
  obtain ⟨h17, e17, hf⟩ := jbind hf
  refine jr_putA K (D_at DX2_init_q0 9 rfl) fp_X2_15_2 (Or.inr rfl) e17 ?_
  refine jr_aload_n K (D_at DX2_init_q0 10 rfl) rfl rfl ?_
  refine jr_bipush K (D_at DX2_init_q0 11 rfl) (v := (12 : Int32)) (by decide) ?_
  obtain ⟨h23, e23, hf⟩ := jbind hf
  refine jr_newIE (N := 12) K (D_at DX2_init_q1 0 rfl) ac_int (by decide) (by decide) (by decide) (kc := 2) (ks := 424) e23 ?_
  obtain ⟨h25, e25, hf⟩ := jbind hf
  refine jr_putA K (D_at DX2_init_q1 1 rfl) fp_X2_18_2 (Or.inr rfl) e25 ?_
  refine jr_aload_n K (D_at DX2_init_q1 2 rfl) rfl rfl ?_
  refine jr_sipush K (D_at DX2_init_q1 3 rfl) (v := (400 : Int32)) (by decide) ?_
  obtain ⟨h32, e32, hf⟩ := jbind hf
  refine jr_newIE (N := 400) K (D_at DX2_init_q1 4 rfl) ac_int (by decide) (by decide) (by decide) (kc := 1) (ks := 24) e32 ?_
  obtain ⟨h34, e34, hf⟩ := jbind hf
  refine jr_putA K (D_at DX2_init_q1 5 rfl) fp_X2_21_2 (Or.inr rfl) e34 ?_
  refine jr_aload_n K (D_at DX2_init_q1 6 rfl) rfl rfl ?_
  refine jr_bipush K (D_at DX2_init_q1 7 rfl) (v := (24 : Int32)) (by decide) ?_
  obtain ⟨h40, e40, hf⟩ := jbind hf
  refine jr_newIE (N := 24) K (D_at DX2_init_q1 8 rfl) ac_int (by decide) (by decide) (by decide) (kc := 0) (ks := 0) e40 ?_
  obtain ⟨h42, e42, hf⟩ := jbind hf
  refine jr_putA K (D_at DX2_init_q1 9 rfl) fp_X2_24_2 (Or.inr rfl) e42 ?_
  cases hf
  exact jr_vret K E (D_at DX2_init_q1 10 rfl) rfl ⟨rfl, rfl⟩
theorem C_X2_init {G : jG} {l : Launch} (d : Nat) {n : Nat} {a0 : Nat} {h : jH} {res : jH} (hf : F_X2_init n a0 h = some res) : jC G l mX2_init (d + 1) 5 460 [.ref a0] h (jPV res) :=
  jC.of pn_X2 (jcats rfl) (Nat.le_of_ble_eq_true rfl) (fun X K E => J_X2_init K n E a0 h hf)
set_option maxHeartbeats 400000 in
set_option maxRecDepth 100000 in
theorem J_X2_begin {G : jG} {l : Launch} {d : Nat} {X : jX} {res : jH} (K : jOK G l mX2_begin (d) X) (n : Nat) (E : jEnd G mX2_begin (jPV res) X) (a0 : Nat) (h : jH) (hf : F_X2_begin n a0 h = some res) : jJ G X h 0 0 0 [some (.ref a0)] [] := by
  unfold F_X2_begin at hf
  refine jr_aload_n K (D_at DX2_begin_q0 0 rfl) rfl rfl ?_
  refine jr_iconst K (D_at DX2_begin_q0 1 rfl) (v := (1 : Int32)) (by decide) ?_
  obtain ⟨h2, e2, hf⟩ := jbind hf
  refine jr_putZ K (D_at DX2_begin_q0 2 rfl) fp_X2_27_2 (Or.inl rfl) (Or.inr rfl) e2 ?_
  refine jr_aload_n K (D_at DX2_begin_q0 3 rfl) rfl rfl ?_
  refine jr_iconst K (D_at DX2_begin_q0 4 rfl) (v := (0 : Int32)) (by decide) ?_
  obtain ⟨h7, e7, hf⟩ := jbind hf
  refine jr_putI K (D_at DX2_begin_q0 5 rfl) fp_X2_31_2 (Or.inl rfl) e7 ?_
  refine jr_aload_n K (D_at DX2_begin_q0 6 rfl) rfl rfl ?_
  refine jr_iconst K (D_at DX2_begin_q0 7 rfl) (v := (0 : Int32)) (by decide) ?_
  obtain ⟨h12, e12, hf⟩ := jbind hf
  refine jr_putI K (D_at DX2_begin_q0 8 rfl) fp_X2_35_2 (Or.inl rfl) e12 ?_
  cases hf
  exact jr_vret K E (D_at DX2_begin_q0 9 rfl) rfl ⟨rfl, rfl⟩
theorem C_X2_begin {G : jG} {l : Launch} (d : Nat) {n : Nat} {a0 : Nat} {h : jH} {res : jH} (hf : F_X2_begin n a0 h = some res) : jC G l mX2_begin (d) 0 0 [.ref a0] h (jPV res) :=
  jC.of pn_X2 (jcats rfl) (Nat.le_of_ble_eq_true rfl) (fun X K E => J_X2_begin K n E a0 h hf)
set_option maxHeartbeats 400000 in
set_option maxRecDepth 100000 in
theorem J_X2_copyFrom {G : jG} {l : Launch} {d : Nat} {X : jX} {res : jH} (K : jOK G l mX2_copyFrom (d + 1) X) (n : Nat) (E : jEnd G mX2_copyFrom (jPV res) X) (a0 : Nat) (a1 : Nat) (h : jH) (hf : F_X2_copyFrom n a0 a1 h = some res) : jJ G X h 0 0 0 [some (.ref a0), some (.ref a1)] [] := by
  unfold F_X2_copyFrom at hf
  refine jr_aload_n K (D_at DX2_copyFrom_q0 0 rfl) rfl rfl ?_
  obtain ⟨p1, e1, hf⟩ := jbind hf
  refine jr_getR K (D_at DX2_copyFrom_q0 1 rfl) fg_X2_11_2 e1 ?_
  refine jr_iconst K (D_at DX2_copyFrom_q0 2 rfl) (v := (0 : Int32)) (by decide) ?_
  refine jr_aload_n K (D_at DX2_copyFrom_q0 3 rfl) rfl rfl ?_
  obtain ⟨p6, e6, hf⟩ := jbind hf
  refine jr_getR K (D_at DX2_copyFrom_q0 4 rfl) fg_X2_11_2 e6 ?_
  refine jr_iconst K (D_at DX2_copyFrom_q0 5 rfl) (v := (0 : Int32)) (by decide) ?_
  refine jr_bipush K (D_at DX2_copyFrom_q0 6 rfl) (v := (12 : Int32)) (by decide) ?_
  obtain ⟨h12, e12, hf⟩ := jbind hf
  refine jr_copy K (D_at DX2_copyFrom_q0 7 rfl) cy_X2_38 (by exact Nat.le_of_ble_eq_true rfl) e12 ?_
  refine jr_aload_n K (D_at DX2_copyFrom_q0 8 rfl) rfl rfl ?_
  obtain ⟨p16, e16, hf⟩ := jbind hf
  refine jr_getR K (D_at DX2_copyFrom_q0 9 rfl) fg_X2_15_2 e16 ?_
  refine jr_iconst K (D_at DX2_copyFrom_q0 10 rfl) (v := (0 : Int32)) (by decide) ?_
  refine jr_aload_n K (D_at DX2_copyFrom_q0 11 rfl) rfl rfl ?_
  obtain ⟨p21, e21, hf⟩ := jbind hf
  refine jr_getR K (D_at DX2_copyFrom_q1 0 rfl) fg_X2_15_2 e21 ?_
  refine jr_iconst K (D_at DX2_copyFrom_q1 1 rfl) (v := (0 : Int32)) (by decide) ?_
  refine jr_bipush K (D_at DX2_copyFrom_q1 2 rfl) (v := (12 : Int32)) (by decide) ?_
  obtain ⟨h27, e27, hf⟩ := jbind hf
  refine jr_copy K (D_at DX2_copyFrom_q1 3 rfl) cy_X2_38 (by exact Nat.le_of_ble_eq_true rfl) e27 ?_
  refine jr_aload_n K (D_at DX2_copyFrom_q1 4 rfl) rfl rfl ?_
  obtain ⟨p31, e31, hf⟩ := jbind hf
  refine jr_getR K (D_at DX2_copyFrom_q1 5 rfl) fg_X2_18_2 e31 ?_
  refine jr_iconst K (D_at DX2_copyFrom_q1 6 rfl) (v := (0 : Int32)) (by decide) ?_
  refine jr_aload_n K (D_at DX2_copyFrom_q1 7 rfl) rfl rfl ?_
  obtain ⟨p36, e36, hf⟩ := jbind hf
  refine jr_getR K (D_at DX2_copyFrom_q1 8 rfl) fg_X2_18_2 e36 ?_
  refine jr_iconst K (D_at DX2_copyFrom_q1 9 rfl) (v := (0 : Int32)) (by decide) ?_
  refine jr_bipush K (D_at DX2_copyFrom_q1 10 rfl) (v := (12 : Int32)) (by decide) ?_
  obtain ⟨h42, e42, hf⟩ := jbind hf
  refine jr_copy K (D_at DX2_copyFrom_q1 11 rfl) cy_X2_38 (by exact Nat.le_of_ble_eq_true rfl) e42 ?_
  refine jr_aload_n K (D_at DX2_copyFrom_q2 0 rfl) rfl rfl ?_
  obtain ⟨p46, e46, hf⟩ := jbind hf
  refine jr_getR K (D_at DX2_copyFrom_q2 1 rfl) fg_X2_21_2 e46 ?_
  refine jr_iconst K (D_at DX2_copyFrom_q2 2 rfl) (v := (0 : Int32)) (by decide) ?_
  refine jr_aload_n K (D_at DX2_copyFrom_q2 3 rfl) rfl rfl ?_
  obtain ⟨p51, e51, hf⟩ := jbind hf
  refine jr_getR K (D_at DX2_copyFrom_q2 4 rfl) fg_X2_21_2 e51 ?_
  refine jr_iconst K (D_at DX2_copyFrom_q2 5 rfl) (v := (0 : Int32)) (by decide) ?_
  refine jr_sipush K (D_at DX2_copyFrom_q2 6 rfl) (v := (400 : Int32)) (by decide) ?_
  obtain ⟨h58, e58, hf⟩ := jbind hf
  refine jr_copy K (D_at DX2_copyFrom_q2 7 rfl) cy_X2_38 (by exact Nat.le_of_ble_eq_true rfl) e58 ?_
  refine jr_aload_n K (D_at DX2_copyFrom_q2 8 rfl) rfl rfl ?_
  refine jr_aload_n K (D_at DX2_copyFrom_q2 9 rfl) rfl rfl ?_
  obtain ⟨v63, e63, hf⟩ := jbind hf
  refine jr_getI K (D_at DX2_copyFrom_q2 10 rfl) fg_X2_35_2 e63 ?_
  obtain ⟨h66, e66, hf⟩ := jbind hf
  refine jr_putI K (D_at DX2_copyFrom_q2 11 rfl) fp_X2_35_2 (Or.inl rfl) e66 ?_
  refine jr_aload_n K (D_at DX2_copyFrom_q3 0 rfl) rfl rfl ?_
  refine jr_aload_n K (D_at DX2_copyFrom_q3 1 rfl) rfl rfl ?_
  obtain ⟨v71, e71, hf⟩ := jbind hf
  refine jr_getI K (D_at DX2_copyFrom_q3 2 rfl) fg_X2_27_2 e71 ?_
  by_cases z74 : v71 = 0 ∨ v71 = 1
  rotate_left
  · exact jno (show (none : Option jH) = some res from (if_neg z74).symm.trans hf)
  replace hf := (if_pos z74).symm.trans hf
  obtain ⟨h74, e74, hf⟩ := jbind hf
  refine jr_putZ K (D_at DX2_copyFrom_q3 3 rfl) fp_X2_27_2 (Or.inl rfl) z74 e74 ?_
  refine jr_aload_n K (D_at DX2_copyFrom_q3 4 rfl) rfl rfl ?_
  refine jr_aload_n K (D_at DX2_copyFrom_q3 5 rfl) rfl rfl ?_
  obtain ⟨v79, e79, hf⟩ := jbind hf
  refine jr_getI K (D_at DX2_copyFrom_q3 6 rfl) fg_X2_31_2 e79 ?_
  obtain ⟨h82, e82, hf⟩ := jbind hf
  refine jr_putI K (D_at DX2_copyFrom_q3 7 rfl) fp_X2_31_2 (Or.inl rfl) e82 ?_
  cases hf
  exact jr_vret K E (D_at DX2_copyFrom_q3 8 rfl) rfl ⟨rfl, rfl⟩
theorem C_X2_copyFrom {G : jG} {l : Launch} (d : Nat) {n : Nat} {a0 : Nat} {a1 : Nat} {h : jH} {res : jH} (hf : F_X2_copyFrom n a0 a1 h = some res) : jC G l mX2_copyFrom (d + 1) 0 0 [.ref a0, .ref a1] h (jPV res) :=
  jC.of pn_X2 (jcats rfl) (Nat.le_of_ble_eq_true rfl) (fun X K E => J_X2_copyFrom K n E a0 a1 h hf)
set_option maxHeartbeats 400000 in
set_option maxRecDepth 100000 in
theorem J_X2_addLine {G : jG} {l : Launch} {d : Nat} {X : jX} {res : jH} (K : jOK G l mX2_addLine (d) X) (n : Nat) (E : jEnd G mX2_addLine (jPV res) X) (a0 : Nat) (x1 : Int32) (x2 : Int32) (h : jH) (hf : F_X2_addLine n a0 x1 x2 h = some res) : jJ G X h 0 0 0 [some (.ref a0), some (.int x1), some (.int x2)] [] := by
  unfold F_X2_addLine at hf
  refine jr_aload_n K (D_at DX2_addLine_q0 0 rfl) rfl rfl ?_
  obtain ⟨v1, e1, hf⟩ := jbind hf
  refine jr_getI K (D_at DX2_addLine_q0 1 rfl) fg_X2_31_2 e1 ?_
  refine jr_bipush K (D_at DX2_addLine_q0 2 rfl) (v := (12 : Int32)) (by decide) ?_
  refine jr_icmp_ge K (D_at DX2_addLine_q0 3 rfl) (tgt := 52) (by decide) (fun c6 => ?_) (fun c6 => ?_)
  · replace hf := (if_pos c6).symm.trans hf
    cases hf
    exact jr_vret K E (D_at DX2_addLine_q2 5 rfl) rfl ⟨rfl, rfl⟩
  · replace hf := (if_neg c6).symm.trans hf
    refine jr_aload_n K (D_at DX2_addLine_q0 4 rfl) rfl rfl ?_
    obtain ⟨p10, e10, hf⟩ := jbind hf
    refine jr_getR K (D_at DX2_addLine_q0 5 rfl) fg_X2_11_2 e10 ?_
    refine jr_aload_n K (D_at DX2_addLine_q0 6 rfl) rfl rfl ?_
    obtain ⟨v14, e14, hf⟩ := jbind hf
    refine jr_getI K (D_at DX2_addLine_q0 7 rfl) fg_X2_31_2 e14 ?_
    refine jr_iload_n K (D_at DX2_addLine_q0 8 rfl) rfl rfl ?_
    obtain ⟨h18, e18, hf⟩ := jbind hf
    refine jr_iast K (D_at DX2_addLine_q0 9 rfl) e18 ?_
    refine jr_aload_n K (D_at DX2_addLine_q0 10 rfl) rfl rfl ?_
    obtain ⟨p20, e20, hf⟩ := jbind hf
    refine jr_getR K (D_at DX2_addLine_q0 11 rfl) fg_X2_15_2 e20 ?_
    refine jr_aload_n K (D_at DX2_addLine_q1 0 rfl) rfl rfl ?_
    obtain ⟨v24, e24, hf⟩ := jbind hf
    refine jr_getI K (D_at DX2_addLine_q1 1 rfl) fg_X2_31_2 e24 ?_
    refine jr_iload_n K (D_at DX2_addLine_q1 2 rfl) rfl rfl ?_
    obtain ⟨h28, e28, hf⟩ := jbind hf
    refine jr_iast K (D_at DX2_addLine_q1 3 rfl) e28 ?_
    refine jr_aload_n K (D_at DX2_addLine_q1 4 rfl) rfl rfl ?_
    obtain ⟨p30, e30, hf⟩ := jbind hf
    refine jr_getR K (D_at DX2_addLine_q1 5 rfl) fg_X2_18_2 e30 ?_
    refine jr_aload_n K (D_at DX2_addLine_q1 6 rfl) rfl rfl ?_
    obtain ⟨v34, e34, hf⟩ := jbind hf
    refine jr_getI K (D_at DX2_addLine_q1 7 rfl) fg_X2_31_2 e34 ?_
    refine jr_aload_n K (D_at DX2_addLine_q1 8 rfl) rfl rfl ?_
    obtain ⟨v38, e38, hf⟩ := jbind hf
    refine jr_getI K (D_at DX2_addLine_q1 9 rfl) fg_X2_35_2 e38 ?_
    obtain ⟨h41, e41, hf⟩ := jbind hf
    refine jr_iast K (D_at DX2_addLine_q1 10 rfl) e41 ?_
    refine jr_aload_n K (D_at DX2_addLine_q1 11 rfl) rfl rfl ?_
    refine jr_dup K (D_at DX2_addLine_q2 0 rfl) rfl ?_
    obtain ⟨v44, e44, hf⟩ := jbind hf
    refine jr_getI K (D_at DX2_addLine_q2 1 rfl) fg_X2_31_2 e44 ?_
    refine jr_iconst K (D_at DX2_addLine_q2 2 rfl) (v := (1 : Int32)) (by decide) ?_
    refine jr_iadd K (D_at DX2_addLine_q2 3 rfl) ?_
    obtain ⟨h49, e49, hf⟩ := jbind hf
    refine jr_putI K (D_at DX2_addLine_q2 4 rfl) fp_X2_31_2 (Or.inl rfl) e49 ?_
    cases hf
    exact jr_vret K E (D_at DX2_addLine_q2 5 rfl) rfl ⟨rfl, rfl⟩
theorem C_X2_addLine {G : jG} {l : Launch} (d : Nat) {n : Nat} {a0 : Nat} {x1 : Int32} {x2 : Int32} {h : jH} {res : jH} (hf : F_X2_addLine n a0 x1 x2 h = some res) : jC G l mX2_addLine (d) 0 0 [.ref a0, .int x1, .int x2] h (jPV res) :=
  jC.of pn_X2 (jcats rfl) (Nat.le_of_ble_eq_true rfl) (fun X K E => J_X2_addLine K n E a0 x1 x2 h hf)
set_option maxHeartbeats 400000 in
set_option maxRecDepth 100000 in
theorem J_X2_addCode {G : jG} {l : Launch} {d : Nat} {X : jX} {res : jH} (K : jOK G l mX2_addCode (d) X) (n : Nat) (E : jEnd G mX2_addCode (jPV res) X) (a0 : Nat) (x1 : Int32) (h : jH) (hf : F_X2_addCode n a0 x1 h = some res) : jJ G X h 0 0 0 [some (.ref a0), some (.int x1)] [] := by
  unfold F_X2_addCode at hf
  refine jr_aload_n K (D_at DX2_addCode_q0 0 rfl) rfl rfl ?_
  obtain ⟨v1, e1, hf⟩ := jbind hf
  refine jr_getI K (D_at DX2_addCode_q0 1 rfl) fg_X2_35_2 e1 ?_
  refine jr_sipush K (D_at DX2_addCode_q0 2 rfl) (v := (400 : Int32)) (by decide) ?_
  refine jr_icmp_ge K (D_at DX2_addCode_q0 3 rfl) (tgt := 52) (by decide) (fun c7 => ?_) (fun c7 => ?_)
  · replace hf := (if_pos c7).symm.trans hf
    cases hf
    exact jr_vret K E (D_at DX2_addCode_q2 4 rfl) rfl ⟨rfl, rfl⟩
  · replace hf := (if_neg c7).symm.trans hf
    refine jr_aload_n K (D_at DX2_addCode_q0 4 rfl) rfl rfl ?_
    obtain ⟨v11, e11, hf⟩ := jbind hf
    refine jr_getI K (D_at DX2_addCode_q0 5 rfl) fg_X2_31_2 e11 ?_
    refine jr_if_le K (D_at DX2_addCode_q0 6 rfl) (tgt := 52) (by decide) (fun c14 => ?_) (fun c14 => ?_)
    · replace hf := (if_pos c14).symm.trans hf
      cases hf
      exact jr_vret K E (D_at DX2_addCode_q2 4 rfl) rfl ⟨rfl, rfl⟩
    · replace hf := (if_neg c14).symm.trans hf
      refine jr_aload_n K (D_at DX2_addCode_q0 7 rfl) rfl rfl ?_
      obtain ⟨p18, e18, hf⟩ := jbind hf
      refine jr_getR K (D_at DX2_addCode_q0 8 rfl) fg_X2_21_2 e18 ?_
      refine jr_aload_n K (D_at DX2_addCode_q0 9 rfl) rfl rfl ?_
      obtain ⟨v22, e22, hf⟩ := jbind hf
      refine jr_getI K (D_at DX2_addCode_q0 10 rfl) fg_X2_35_2 e22 ?_
      refine jr_iload_n K (D_at DX2_addCode_q0 11 rfl) rfl rfl ?_
      obtain ⟨h26, e26, hf⟩ := jbind hf
      refine jr_iast K (D_at DX2_addCode_q1 0 rfl) e26 ?_
      refine jr_aload_n K (D_at DX2_addCode_q1 1 rfl) rfl rfl ?_
      refine jr_dup K (D_at DX2_addCode_q1 2 rfl) rfl ?_
      obtain ⟨v29, e29, hf⟩ := jbind hf
      refine jr_getI K (D_at DX2_addCode_q1 3 rfl) fg_X2_35_2 e29 ?_
      refine jr_iconst K (D_at DX2_addCode_q1 4 rfl) (v := (1 : Int32)) (by decide) ?_
      refine jr_iadd K (D_at DX2_addCode_q1 5 rfl) ?_
      obtain ⟨h34, e34, hf⟩ := jbind hf
      refine jr_putI K (D_at DX2_addCode_q1 6 rfl) fp_X2_35_2 (Or.inl rfl) e34 ?_
      refine jr_aload_n K (D_at DX2_addCode_q1 7 rfl) rfl rfl ?_
      obtain ⟨p38, e38, hf⟩ := jbind hf
      refine jr_getR K (D_at DX2_addCode_q1 8 rfl) fg_X2_18_2 e38 ?_
      refine jr_aload_n K (D_at DX2_addCode_q1 9 rfl) rfl rfl ?_
      obtain ⟨v42, e42, hf⟩ := jbind hf
      refine jr_getI K (D_at DX2_addCode_q1 10 rfl) fg_X2_31_2 e42 ?_
      refine jr_iconst K (D_at DX2_addCode_q1 11 rfl) (v := (1 : Int32)) (by decide) ?_
      refine jr_isub K (D_at DX2_addCode_q2 0 rfl) ?_
      refine jr_aload_n K (D_at DX2_addCode_q2 1 rfl) rfl rfl ?_
      obtain ⟨v48, e48, hf⟩ := jbind hf
      refine jr_getI K (D_at DX2_addCode_q2 2 rfl) fg_X2_35_2 e48 ?_
      obtain ⟨h51, e51, hf⟩ := jbind hf
      refine jr_iast K (D_at DX2_addCode_q2 3 rfl) e51 ?_
      cases hf
      exact jr_vret K E (D_at DX2_addCode_q2 4 rfl) rfl ⟨rfl, rfl⟩
theorem C_X2_addCode {G : jG} {l : Launch} (d : Nat) {n : Nat} {a0 : Nat} {x1 : Int32} {h : jH} {res : jH} (hf : F_X2_addCode n a0 x1 h = some res) : jC G l mX2_addCode (d) 0 0 [.ref a0, .int x1] h (jPV res) :=
  jC.of pn_X2 (jcats rfl) (Nat.le_of_ble_eq_true rfl) (fun X K E => J_X2_addCode K n E a0 x1 h hf)
set_option maxHeartbeats 400000 in
set_option maxRecDepth 100000 in
theorem J_X4_init_L {G : jG} {l : Launch} {d : Nat} {X : jX} {res : jH} (K : jOK G l mX4_init (d + 1) X) (n : Nat) (E : jEnd G mX4_init (jPV res) X) (a0 : Nat) (a1 : Nat) (x2 : Int32) (h : jH) (hf : F_X4_init_L n a0 a1 x2 h = some res) : jJ G X h 0 0 0 [some (.ref a0), some (.ref a1), some (.int x2)] [] := by
  unfold F_X4_init_L at hf
  refine jr_aload_n K (D_at DX4_init_q0 0 rfl) rfl rfl ?_
  refine jr_objInit K (D_at DX4_init_q0 1 rfl) oi_X4_3 (by exact Nat.le_of_ble_eq_true rfl) ?_
  refine jr_aload_n K (D_at DX4_init_q0 2 rfl) rfl rfl ?_
  refine jr_aload_n K (D_at DX4_init_q0 3 rfl) rfl rfl ?_
  obtain ⟨h6, e6, hf⟩ := jbind hf
  refine jr_putR K (D_at DX4_init_q0 4 rfl) fp_X4_9_3 (Or.inr rfl) e6 ?_
  refine jr_aload_n K (D_at DX4_init_q0 5 rfl) rfl rfl ?_
  refine jr_iload_n K (D_at DX4_init_q0 6 rfl) rfl rfl ?_
  obtain ⟨h11, e11, hf⟩ := jbind hf
  refine jr_putI K (D_at DX4_init_q0 7 rfl) fp_X4_15_3 (Or.inr rfl) e11 ?_
  cases hf
  exact jr_vret K E (D_at DX4_init_q0 8 rfl) rfl ⟨rfl, rfl⟩
theorem C_X4_init_L {G : jG} {l : Launch} (d : Nat) {n : Nat} {a0 : Nat} {a1 : Nat} {x2 : Int32} {h : jH} {res : jH} (hf : F_X4_init_L n a0 a1 x2 h = some res) : jC G l mX4_init (d + 1) 0 0 [.ref a0, .ref a1, .int x2] h (jPV res) :=
  jC.of pn_X4 (jcats rfl) (Nat.le_of_ble_eq_true rfl) (fun X K E => J_X4_init_L K n E a0 a1 x2 h hf)
set_option maxHeartbeats 400000 in
set_option maxRecDepth 100000 in
theorem J_X3_init {G : jG} {l : Launch} {d : Nat} {X : jX} {res : jH} (K : jOK G l mX3_init (d + 2) X) (n : Nat) (E : jEnd G mX3_init (jPV res) X) (a0 : Nat) (a1 : Nat) (a2 : Nat) (h : jH) (hf : F_X3_init n a0 a1 a2 h = some res) : jJ G X h 0 0 0 [some (.ref a0), some (.ref a1), some (.ref a2)] [] := by
  unfold F_X3_init at hf
  refine jr_aload_n K (D_at DX3_init_q0 0 rfl) rfl rfl ?_
  refine jr_aload_n K (D_at DX3_init_q0 1 rfl) rfl rfl ?_
  refine jr_bipush K (D_at DX3_init_q0 2 rfl) (v := (12 : Int32)) (by decide) ?_
  obtain ⟨h4, e4, hf⟩ := jbind hf
  refine jr_callI K (C_X4_init_L (d) e4) (D_at DX3_init_q0 3 rfl) ci_X3_5_X4_init (As := [.ref a1, .int (12 : Int32)]) rfl rfl (by exact Nat.le_of_ble_eq_true rfl) (kc2 := 0) (ks2 := 0) rfl rfl (fun k9 h9 w9 => by cases w9.1) (fun r9 h9 w9 => ?_)
  obtain ⟨w1, w2⟩ := w9
  subst h9
  cases w1
  refine jr_aload_n K (D_at DX3_init_q0 4 rfl) rfl rfl ?_
  refine jr_aload_n K (D_at DX3_init_q0 5 rfl) rfl rfl ?_
  obtain ⟨h9, e9, hf⟩ := jbind hf
  refine jr_putR K (D_at DX3_init_q0 6 rfl) fp_X3_11_3 (Or.inr rfl) e9 ?_
  cases hf
  exact jr_vret K E (D_at DX3_init_q0 7 rfl) rfl ⟨rfl, rfl⟩
theorem C_X3_init {G : jG} {l : Launch} (d : Nat) {n : Nat} {a0 : Nat} {a1 : Nat} {a2 : Nat} {h : jH} {res : jH} (hf : F_X3_init n a0 a1 a2 h = some res) : jC G l mX3_init (d + 2) 0 0 [.ref a0, .ref a1, .ref a2] h (jPV res) :=
  jC.of pn_X3 (jcats rfl) (Nat.le_of_ble_eq_true rfl) (fun X K E => J_X3_init K n E a0 a1 a2 h hf)
set_option maxHeartbeats 400000 in
set_option maxRecDepth 100000 in
theorem J_X10_kind {G : jG} {l : Launch} {d : Nat} {X : jX} {res : Int32} (K : jOK G l mX10_kind (d) X) (n : Nat) (h : jH) (E : jEnd G mX10_kind (jPR h res) X) (a0 : Nat) (hf : F_X10_kind n a0 h = some res) : jJ G X h 0 0 0 [some (.ref a0)] [] := by
  unfold F_X10_kind at hf
  refine jr_aload_n K (D_at DX10_kind_q0 0 rfl) rfl rfl ?_
  obtain ⟨v1, e1, hf⟩ := jbind hf
  refine jr_getI K (D_at DX10_kind_q0 1 rfl) fg_X10_32_8 e1 ?_
  refine jr_aload_n K (D_at DX10_kind_q0 2 rfl) rfl rfl ?_
  obtain ⟨v5, e5, hf⟩ := jbind hf
  refine jr_getI K (D_at DX10_kind_q0 3 rfl) fg_X10_29_8 e5 ?_
  refine jr_icmp_ge K (D_at DX10_kind_q0 4 rfl) (tgt := 23) (by decide) (fun c8 => ?_) (fun c8 => ?_)
  · replace hf := (if_pos c8).symm.trans hf
    refine jr_iconst K (D_at DX10_kind_q0 11 rfl) (v := (-1 : Int32)) (by decide) ?_
    cases hf
    exact jr_iret K E (D_at DX10_kind_q1 0 rfl) rfl ⟨rfl, rfl⟩
  · replace hf := (if_neg c8).symm.trans hf
    refine jr_aload_n K (D_at DX10_kind_q0 5 rfl) rfl rfl ?_
    obtain ⟨p12, e12, hf⟩ := jbind hf
    refine jr_getR K (D_at DX10_kind_q0 6 rfl) fg_X10_15_8 e12 ?_
    refine jr_aload_n K (D_at DX10_kind_q0 7 rfl) rfl rfl ?_
    obtain ⟨v16, e16, hf⟩ := jbind hf
    refine jr_getI K (D_at DX10_kind_q0 8 rfl) fg_X10_32_8 e16 ?_
    obtain ⟨v19, e19, hf⟩ := jbind hf
    refine jr_iald K (D_at DX10_kind_q0 9 rfl) e19 ?_
    refine jr_goto K (D_at DX10_kind_q0 10 rfl) (tgt := 24) (by decide) ?_
    cases hf
    exact jr_iret K E (D_at DX10_kind_q1 0 rfl) rfl ⟨rfl, rfl⟩
theorem C_X10_kind {G : jG} {l : Launch} (d : Nat) {n : Nat} {a0 : Nat} {h : jH} {res : Int32} (hf : F_X10_kind n a0 h = some res) : jC G l mX10_kind (d) 0 0 [.ref a0] h (jPR h res) :=
  jC.of pn_X10 (jcats rfl) (Nat.le_of_ble_eq_true rfl) (fun X K E => J_X10_kind K n h E a0 hf)
set_option maxHeartbeats 400000 in
set_option maxRecDepth 100000 in
theorem J_X10_skip {G : jG} {l : Launch} {d : Nat} {X : jX} {res : jH} (K : jOK G l mX10_skip (d) X) (n : Nat) (E : jEnd G mX10_skip (jPV res) X) (a0 : Nat) (h : jH) (hf : F_X10_skip n a0 h = some res) : jJ G X h 0 0 0 [some (.ref a0)] [] := by
  unfold F_X10_skip at hf
  refine jr_aload_n K (D_at DX10_skip_q0 0 rfl) rfl rfl ?_
  obtain ⟨v1, e1, hf⟩ := jbind hf
  refine jr_getI K (D_at DX10_skip_q0 1 rfl) fg_X10_32_8 e1 ?_
  refine jr_aload_n K (D_at DX10_skip_q0 2 rfl) rfl rfl ?_
  obtain ⟨v5, e5, hf⟩ := jbind hf
  refine jr_getI K (D_at DX10_skip_q0 3 rfl) fg_X10_29_8 e5 ?_
  refine jr_icmp_ge K (D_at DX10_skip_q0 4 rfl) (tgt := 21) (by decide) (fun c8 => ?_) (fun c8 => ?_)
  · replace hf := (if_pos c8).symm.trans hf
    cases hf
    exact jr_vret K E (D_at DX10_skip_q0 11 rfl) rfl ⟨rfl, rfl⟩
  · replace hf := (if_neg c8).symm.trans hf
    refine jr_aload_n K (D_at DX10_skip_q0 5 rfl) rfl rfl ?_
    refine jr_dup K (D_at DX10_skip_q0 6 rfl) rfl ?_
    obtain ⟨v13, e13, hf⟩ := jbind hf
    refine jr_getI K (D_at DX10_skip_q0 7 rfl) fg_X10_32_8 e13 ?_
    refine jr_iconst K (D_at DX10_skip_q0 8 rfl) (v := (1 : Int32)) (by decide) ?_
    refine jr_iadd K (D_at DX10_skip_q0 9 rfl) ?_
    obtain ⟨h18, e18, hf⟩ := jbind hf
    refine jr_putI K (D_at DX10_skip_q0 10 rfl) fp_X10_32_8 (Or.inl rfl) e18 ?_
    cases hf
    exact jr_vret K E (D_at DX10_skip_q0 11 rfl) rfl ⟨rfl, rfl⟩
theorem C_X10_skip {G : jG} {l : Launch} (d : Nat) {n : Nat} {a0 : Nat} {h : jH} {res : jH} (hf : F_X10_skip n a0 h = some res) : jC G l mX10_skip (d) 0 0 [.ref a0] h (jPV res) :=
  jC.of pn_X10 (jcats rfl) (Nat.le_of_ble_eq_true rfl) (fun X K E => J_X10_skip K n E a0 h hf)
set_option maxHeartbeats 400000 in
set_option maxRecDepth 100000 in
theorem J_X10_takeNumber {G : jG} {l : Launch} {d : Nat} {X : jX} {res : (Int32 × jH)} (K : jOK G l mX10_takeNumber (d) X) (n : Nat) (E : jEnd G mX10_takeNumber (jPW res) X) (a0 : Nat) (x1 : Int32) (x2 : Int32) (h : jH) (hf : F_X10_takeNumber n a0 x1 x2 h = some res) : jJ G X h 0 0 0 [some (.ref a0), some (.int x1), some (.int x2)] [] := by
  unfold F_X10_takeNumber at hf
  refine jr_aload_n K (D_at DX10_takeNumber_q0 0 rfl) rfl rfl ?_
  obtain ⟨v1, e1, hf⟩ := jbind hf
  refine jr_getI K (D_at DX10_takeNumber_q0 1 rfl) fg_X10_32_8 e1 ?_
  refine jr_aload_n K (D_at DX10_takeNumber_q0 2 rfl) rfl rfl ?_
  obtain ⟨v5, e5, hf⟩ := jbind hf
  refine jr_getI K (D_at DX10_takeNumber_q0 3 rfl) fg_X10_29_8 e5 ?_
  refine jr_icmp_ge K (D_at DX10_takeNumber_q0 4 rfl) (tgt := 51) (by decide) (fun c8 => ?_) (fun c8 => ?_)
  · replace hf := (if_pos c8).symm.trans hf
    refine jr_iconst K (D_at DX10_takeNumber_q2 2 rfl) (v := (-1 : Int32)) (by decide) ?_
    cases hf
    exact jr_iret K E (D_at DX10_takeNumber_q2 3 rfl) rfl ⟨rfl, rfl⟩
  · replace hf := (if_neg c8).symm.trans hf
    refine jr_aload_n K (D_at DX10_takeNumber_q0 5 rfl) rfl rfl ?_
    obtain ⟨p12, e12, hf⟩ := jbind hf
    refine jr_getR K (D_at DX10_takeNumber_q0 6 rfl) fg_X10_15_8 e12 ?_
    refine jr_aload_n K (D_at DX10_takeNumber_q0 7 rfl) rfl rfl ?_
    obtain ⟨v16, e16, hf⟩ := jbind hf
    refine jr_getI K (D_at DX10_takeNumber_q0 8 rfl) fg_X10_32_8 e16 ?_
    obtain ⟨v19, e19, hf⟩ := jbind hf
    refine jr_iald K (D_at DX10_takeNumber_q0 9 rfl) e19 ?_
    refine jr_bipush K (D_at DX10_takeNumber_q0 10 rfl) (v := (-3 : Int32)) (by decide) ?_
    refine jr_icmp_ne K (D_at DX10_takeNumber_q0 11 rfl) (tgt := 51) (by decide) (fun c22 => ?_) (fun c22 => ?_)
    · replace hf := (if_neg c22).symm.trans hf
      refine jr_iconst K (D_at DX10_takeNumber_q2 2 rfl) (v := (-1 : Int32)) (by decide) ?_
      cases hf
      exact jr_iret K E (D_at DX10_takeNumber_q2 3 rfl) rfl ⟨rfl, rfl⟩
    · replace hf := (if_pos c22).symm.trans hf
      refine jr_aload_n K (D_at DX10_takeNumber_q1 0 rfl) rfl rfl ?_
      obtain ⟨p26, e26, hf⟩ := jbind hf
      refine jr_getR K (D_at DX10_takeNumber_q1 1 rfl) fg_X10_22_8 e26 ?_
      refine jr_aload_n K (D_at DX10_takeNumber_q1 2 rfl) rfl rfl ?_
      obtain ⟨v30, e30, hf⟩ := jbind hf
      refine jr_getI K (D_at DX10_takeNumber_q1 3 rfl) fg_X10_32_8 e30 ?_
      obtain ⟨v33, e33, hf⟩ := jbind hf
      refine jr_iald K (D_at DX10_takeNumber_q1 4 rfl) e33 ?_
      refine jr_iload_n K (D_at DX10_takeNumber_q1 5 rfl) rfl rfl ?_
      refine jr_icmp_lt K (D_at DX10_takeNumber_q1 6 rfl) (tgt := 51) (by decide) (fun c35 => ?_) (fun c35 => ?_)
      · replace hf := (if_pos c35).symm.trans hf
        refine jr_iconst K (D_at DX10_takeNumber_q2 2 rfl) (v := (-1 : Int32)) (by decide) ?_
        cases hf
        exact jr_iret K E (D_at DX10_takeNumber_q2 3 rfl) rfl ⟨rfl, rfl⟩
      · replace hf := (if_neg c35).symm.trans hf
        refine jr_aload_n K (D_at DX10_takeNumber_q1 7 rfl) rfl rfl ?_
        obtain ⟨p39, e39, hf⟩ := jbind hf
        refine jr_getR K (D_at DX10_takeNumber_q1 8 rfl) fg_X10_22_8 e39 ?_
        refine jr_aload_n K (D_at DX10_takeNumber_q1 9 rfl) rfl rfl ?_
        obtain ⟨v43, e43, hf⟩ := jbind hf
        refine jr_getI K (D_at DX10_takeNumber_q1 10 rfl) fg_X10_32_8 e43 ?_
        obtain ⟨v46, e46, hf⟩ := jbind hf
        refine jr_iald K (D_at DX10_takeNumber_q1 11 rfl) e46 ?_
        refine jr_iload_n K (D_at DX10_takeNumber_q2 0 rfl) rfl rfl ?_
        refine jr_icmp_le K (D_at DX10_takeNumber_q2 1 rfl) (tgt := 53) (by decide) (fun c48 => ?_) (fun c48 => ?_)
        · replace hf := (if_pos c48).symm.trans hf
          refine jr_aload_n K (D_at DX10_takeNumber_q2 4 rfl) rfl rfl ?_
          refine jr_dup K (D_at DX10_takeNumber_q2 5 rfl) rfl ?_
          obtain ⟨v55, e55, hf⟩ := jbind hf
          refine jr_getI K (D_at DX10_takeNumber_q2 6 rfl) fg_X10_32_8 e55 ?_
          refine jr_iconst K (D_at DX10_takeNumber_q2 7 rfl) (v := (1 : Int32)) (by decide) ?_
          refine jr_iadd K (D_at DX10_takeNumber_q2 8 rfl) ?_
          obtain ⟨h60, e60, hf⟩ := jbind hf
          refine jr_putI K (D_at DX10_takeNumber_q2 9 rfl) fp_X10_32_8 (Or.inl rfl) e60 ?_
          refine jr_aload_n K (D_at DX10_takeNumber_q2 10 rfl) rfl rfl ?_
          obtain ⟨p64, e64, hf⟩ := jbind hf
          refine jr_getR K (D_at DX10_takeNumber_q2 11 rfl) fg_X10_22_8 e64 ?_
          refine jr_aload_n K (D_at DX10_takeNumber_q3 0 rfl) rfl rfl ?_
          obtain ⟨v68, e68, hf⟩ := jbind hf
          refine jr_getI K (D_at DX10_takeNumber_q3 1 rfl) fg_X10_32_8 e68 ?_
          refine jr_iconst K (D_at DX10_takeNumber_q3 2 rfl) (v := (1 : Int32)) (by decide) ?_
          refine jr_isub K (D_at DX10_takeNumber_q3 3 rfl) ?_
          obtain ⟨v73, e73, hf⟩ := jbind hf
          refine jr_iald K (D_at DX10_takeNumber_q3 4 rfl) e73 ?_
          cases hf
          exact jr_iret K E (D_at DX10_takeNumber_q3 5 rfl) rfl ⟨rfl, rfl⟩
        · replace hf := (if_neg c48).symm.trans hf
          refine jr_iconst K (D_at DX10_takeNumber_q2 2 rfl) (v := (-1 : Int32)) (by decide) ?_
          cases hf
          exact jr_iret K E (D_at DX10_takeNumber_q2 3 rfl) rfl ⟨rfl, rfl⟩
theorem C_X10_takeNumber {G : jG} {l : Launch} (d : Nat) {n : Nat} {a0 : Nat} {x1 : Int32} {x2 : Int32} {h : jH} {res : (Int32 × jH)} (hf : F_X10_takeNumber n a0 x1 x2 h = some res) : jC G l mX10_takeNumber (d) 0 0 [.ref a0, .int x1, .int x2] h (jPW res) :=
  jC.of pn_X10 (jcats rfl) (Nat.le_of_ble_eq_true rfl) (fun X K E => J_X10_takeNumber K n E a0 x1 x2 h hf)
set_option maxHeartbeats 400000 in
set_option maxRecDepth 100000 in
theorem J_X10_take {G : jG} {l : Launch} {d : Nat} {X : jX} {res : (Int32 × jH)} (K : jOK G l mX10_take (d) X) (n : Nat) (E : jEnd G mX10_take (jPW res) X) (a0 : Nat) (x1 : Int32) (h : jH) (hf : F_X10_take n a0 x1 h = some res) : jJ G X h 0 0 0 [some (.ref a0), some (.int x1)] [] := by
  unfold F_X10_take at hf
  refine jr_aload_n K (D_at DX10_take_q0 0 rfl) rfl rfl ?_
  obtain ⟨v1, e1, hf⟩ := jbind hf
  refine jr_getI K (D_at DX10_take_q0 1 rfl) fg_X10_32_8 e1 ?_
  refine jr_aload_n K (D_at DX10_take_q0 2 rfl) rfl rfl ?_
  obtain ⟨v5, e5, hf⟩ := jbind hf
  refine jr_getI K (D_at DX10_take_q0 3 rfl) fg_X10_29_8 e5 ?_
  refine jr_icmp_ge K (D_at DX10_take_q0 4 rfl) (tgt := 24) (by decide) (fun c8 => ?_) (fun c8 => ?_)
  · replace hf := (if_pos c8).symm.trans hf
    refine jr_iconst K (D_at DX10_take_q1 0 rfl) (v := (0 : Int32)) (by decide) ?_
    cases hf
    exact jr_zret K E (D_at DX10_take_q1 1 rfl) rfl (Or.inl rfl) ⟨rfl, rfl⟩
  · replace hf := (if_neg c8).symm.trans hf
    refine jr_aload_n K (D_at DX10_take_q0 5 rfl) rfl rfl ?_
    obtain ⟨p12, e12, hf⟩ := jbind hf
    refine jr_getR K (D_at DX10_take_q0 6 rfl) fg_X10_15_8 e12 ?_
    refine jr_aload_n K (D_at DX10_take_q0 7 rfl) rfl rfl ?_
    obtain ⟨v16, e16, hf⟩ := jbind hf
    refine jr_getI K (D_at DX10_take_q0 8 rfl) fg_X10_32_8 e16 ?_
    obtain ⟨v19, e19, hf⟩ := jbind hf
    refine jr_iald K (D_at DX10_take_q0 9 rfl) e19 ?_
    refine jr_iload_n K (D_at DX10_take_q0 10 rfl) rfl rfl ?_
    refine jr_icmp_eq K (D_at DX10_take_q0 11 rfl) (tgt := 26) (by decide) (fun c21 => ?_) (fun c21 => ?_)
    · replace hf := (if_pos c21).symm.trans hf
      refine jr_aload_n K (D_at DX10_take_q1 2 rfl) rfl rfl ?_
      refine jr_dup K (D_at DX10_take_q1 3 rfl) rfl ?_
      obtain ⟨v28, e28, hf⟩ := jbind hf
      refine jr_getI K (D_at DX10_take_q1 4 rfl) fg_X10_32_8 e28 ?_
      refine jr_iconst K (D_at DX10_take_q1 5 rfl) (v := (1 : Int32)) (by decide) ?_
      refine jr_iadd K (D_at DX10_take_q1 6 rfl) ?_
      obtain ⟨h33, e33, hf⟩ := jbind hf
      refine jr_putI K (D_at DX10_take_q1 7 rfl) fp_X10_32_8 (Or.inl rfl) e33 ?_
      refine jr_iconst K (D_at DX10_take_q1 8 rfl) (v := (1 : Int32)) (by decide) ?_
      cases hf
      exact jr_zret K E (D_at DX10_take_q1 9 rfl) rfl (Or.inr rfl) ⟨rfl, rfl⟩
    · replace hf := (if_neg c21).symm.trans hf
      refine jr_iconst K (D_at DX10_take_q1 0 rfl) (v := (0 : Int32)) (by decide) ?_
      cases hf
      exact jr_zret K E (D_at DX10_take_q1 1 rfl) rfl (Or.inl rfl) ⟨rfl, rfl⟩
theorem C_X10_take {G : jG} {l : Launch} (d : Nat) {n : Nat} {a0 : Nat} {x1 : Int32} {h : jH} {res : (Int32 × jH)} (hf : F_X10_take n a0 x1 h = some res) : jC G l mX10_take (d) 0 0 [.ref a0, .int x1] h (jPW res) :=
  jC.of pn_X10 (jcats rfl) (Nat.le_of_ble_eq_true rfl) (fun X K E => J_X10_take K n E a0 x1 h hf)
set_option maxHeartbeats 400000 in
set_option maxRecDepth 100000 in
theorem J_X3_readSum_94 {G : jG} {l : Launch} {d : Nat} {X : jX} {res : (Int32 × jH)} (K : jOK G l mX3_readSum (d + 1) X) (n : Nat) (rc4 : Nat → Int32 → Int32 → jH → Option (Int32 × jH)) (hr4 : ∀ (a0 : Nat) (x1 : Int32) (x2 : Int32) (h : jH), rc4 a0 x1 x2 h = some res → jJ G X h 0 0 4 [some (.ref a0), some (.int x1), some (.int x2), none, none] []) (E : jEnd G mX3_readSum (jPW res) X) (a0 : Nat) (x2 : Int32) (h : jH) (hf : F_X3_readSum_94 n rc4 a0 x2 h = some res) : jJ G X h 0 0 94 [some (.ref a0), none, some (.int x2), none, none] [] := by
  unfold F_X3_readSum_94 at hf
  refine jr_aload_n K (D_at DX3_readSum_q3 11 rfl) rfl rfl ?_
  obtain ⟨p95, e95, hf⟩ := jbind hf
  refine jr_getR K (D_at DX3_readSum_q4 0 rfl) fg_X3_17_3 e95 ?_
  refine jr_bipush K (D_at DX3_readSum_q4 1 rfl) (v := (43 : Int32)) (by decide) ?_
  obtain ⟨q100, e100, hf⟩ := jbind hf
  obtain ⟨rc_100, e100⟩ := jcv_o e100
  refine jr_callV K (C_X10_take (d) e100) (D_at DX3_readSum_q4 2 rfl) cv_X3_39_X10_take (As := [.int (43 : Int32)]) (ci := 8) rfl rc_100 rfl rfl (by exact Nat.le_of_ble_eq_true rfl) (kc2 := 0) (ks2 := 0) rfl rfl (fun k9 h9 w9 => by cases w9.1) (fun r9 h9 w9 => ?_)
  obtain ⟨w1, w2⟩ := w9
  subst h9
  cases w1
  show jJ G X _ 0 0 _ _ (.int q100.1 :: _)
  refine jr_istore_n K (D_at DX3_readSum_q4 3 rfl) (i := 1) rfl (by decide) (L2 := [_, _, _, _, _]) rfl ?_
  refine jr_iload_n K (D_at DX3_readSum_q4 4 rfl) rfl rfl ?_
  refine jr_if_ne K (D_at DX3_readSum_q4 5 rfl) (tgt := 110) (by decide) (fun c105 => ?_) (fun c105 => ?_)
  · replace hf := (if_neg c105).symm.trans hf
    refine jr_iinc K (D_at DX3_readSum_q4 8 rfl) (i := 2) rfl (v := x2 + (1 : Int32)) (jinc (by decide)) (by decide) (L2 := [_, _, _, _, _]) rfl ?_
    refine jr_goto K (D_at DX3_readSum_q4 9 rfl) (tgt := 4) (by decide) ?_
    refine jr_keep [true, true, true, false, false] ?_
    exact hr4 a0 q100.1 (x2 + (1 : Int32)) q100.2 hf
  · replace hf := (if_pos c105).symm.trans hf
    refine jr_iconst K (D_at DX3_readSum_q4 6 rfl) (v := (1 : Int32)) (by decide) ?_
    cases hf
    exact jr_zret K E (D_at DX3_readSum_q4 7 rfl) rfl (Or.inr rfl) ⟨rfl, rfl⟩
set_option maxHeartbeats 400000 in
set_option maxRecDepth 100000 in
theorem J_X3_readSum_81 {G : jG} {l : Launch} {d : Nat} {X : jX} {res : (Int32 × jH)} (K : jOK G l mX3_readSum (d + 1) X) (n : Nat) (rc4 : Nat → Int32 → Int32 → jH → Option (Int32 × jH)) (hr4 : ∀ (a0 : Nat) (x1 : Int32) (x2 : Int32) (h : jH), rc4 a0 x1 x2 h = some res → jJ G X h 0 0 4 [some (.ref a0), some (.int x1), some (.int x2), none, none] []) (E : jEnd G mX3_readSum (jPW res) X) (a0 : Nat) (x1 : Int32) (x2 : Int32) (h : jH) (hf : F_X3_readSum_81 n rc4 a0 x1 x2 h = some res) : jJ G X h 0 0 81 [some (.ref a0), some (.int x1), some (.int x2), none, none] [] := by
  unfold F_X3_readSum_81 at hf
  refine jr_iload_n K (D_at DX3_readSum_q3 5 rfl) rfl rfl ?_
  refine jr_if_eq K (D_at DX3_readSum_q3 6 rfl) (tgt := 94) (by decide) (fun c82 => ?_) (fun c82 => ?_)
  · replace hf := (if_pos c82).symm.trans hf
    refine jr_keep [true, false, true, false, false] ?_
    exact J_X3_readSum_94 K n rc4 hr4 E a0 x2 h hf
  · replace hf := (if_neg c82).symm.trans hf
    refine jr_aload_n K (D_at DX3_readSum_q3 7 rfl) rfl rfl ?_
    obtain ⟨p86, e86, hf⟩ := jbind hf
    refine jr_getR K (D_at DX3_readSum_q3 8 rfl) fg_X3_11_3 e86 ?_
    refine jr_bipush K (D_at DX3_readSum_q3 9 rfl) (v := (43 : Int32)) (by decide) ?_
    obtain ⟨h91, e91, hf⟩ := jbind hf
    obtain ⟨rc_91, e91⟩ := jcv_o e91
    refine jr_callV K (C_X2_addCode (d) e91) (D_at DX3_readSum_q3 10 rfl) cv_X3_49_X2_addCode (As := [.int (43 : Int32)]) (ci := 2) rfl rc_91 rfl rfl (by exact Nat.le_of_ble_eq_true rfl) (kc2 := 0) (ks2 := 0) rfl rfl (fun k9 h9 w9 => by cases w9.1) (fun r9 h9 w9 => ?_)
    obtain ⟨w1, w2⟩ := w9
    subst h9
    cases w1
    show jJ G X _ 0 0 _ _ []
    refine jr_keep [true, false, true, false, false] ?_
    exact J_X3_readSum_94 K n rc4 hr4 E a0 x2 h91 hf
set_option maxHeartbeats 400000 in
set_option maxRecDepth 100000 in
theorem J_X3_readSum_47 {G : jG} {l : Launch} {d : Nat} {X : jX} {res : (Int32 × jH)} (K : jOK G l mX3_readSum (d + 1) X) (n : Nat) (rc4 : Nat → Int32 → Int32 → jH → Option (Int32 × jH)) (hr4 : ∀ (a0 : Nat) (x1 : Int32) (x2 : Int32) (h : jH), rc4 a0 x1 x2 h = some res → jJ G X h 0 0 4 [some (.ref a0), some (.int x1), some (.int x2), none, none] []) (E : jEnd G mX3_readSum (jPW res) X) (a0 : Nat) (x1 : Int32) (x2 : Int32) (h : jH) (hf : F_X3_readSum_47 n rc4 a0 x1 x2 h = some res) : jJ G X h 0 0 47 [some (.ref a0), some (.int x1), some (.int x2), none, none] [] := by
  unfold F_X3_readSum_47 at hf
  refine jr_aload_n K (D_at DX3_readSum_q2 0 rfl) rfl rfl ?_
  obtain ⟨p48, e48, hf⟩ := jbind hf
  refine jr_getR K (D_at DX3_readSum_q2 1 rfl) fg_X3_17_3 e48 ?_
  refine jr_iconst K (D_at DX3_readSum_q2 2 rfl) (v := (0 : Int32)) (by decide) ?_
  refine jr_sipush K (D_at DX3_readSum_q2 3 rfl) (v := (999 : Int32)) (by decide) ?_
  obtain ⟨q55, e55, hf⟩ := jbind hf
  obtain ⟨rc_55, e55⟩ := jcv_o e55
  refine jr_callV K (C_X10_takeNumber (d) e55) (D_at DX3_readSum_q2 4 rfl) cv_X3_31_X10_takeNumber (As := [.int (0 : Int32), .int (999 : Int32)]) (ci := 8) rfl rc_55 rfl rfl (by exact Nat.le_of_ble_eq_true rfl) (kc2 := 0) (ks2 := 0) rfl rfl (fun k9 h9 w9 => by cases w9.1) (fun r9 h9 w9 => ?_)
  obtain ⟨w1, w2⟩ := w9
  subst h9
  cases w1
  show jJ G X _ 0 0 _ _ (.int q55.1 :: _)
  refine jr_istore K (D_at DX3_readSum_q2 5 rfl) (i := 4) (by decide) (L2 := [_, _, _, _, _]) rfl ?_
  refine jr_iload K (D_at DX3_readSum_q2 6 rfl) rfl ?_
  refine jr_iconst K (D_at DX3_readSum_q2 7 rfl) (v := (-1 : Int32)) (by decide) ?_
  refine jr_icmp_ne K (D_at DX3_readSum_q2 8 rfl) (tgt := 68) (by decide) (fun c63 => ?_) (fun c63 => ?_)
  · replace hf := (if_neg c63).symm.trans hf
    refine jr_aload_n K (D_at DX3_readSum_q2 11 rfl) rfl rfl ?_
    obtain ⟨p69, e69, hf⟩ := jbind hf
    refine jr_getR K (D_at DX3_readSum_q3 0 rfl) fg_X3_11_3 e69 ?_
    refine jr_sipush K (D_at DX3_readSum_q3 1 rfl) (v := (256 : Int32)) (by decide) ?_
    refine jr_iload K (D_at DX3_readSum_q3 2 rfl) rfl ?_
    refine jr_iadd K (D_at DX3_readSum_q3 3 rfl) ?_
    obtain ⟨h78, e78, hf⟩ := jbind hf
    obtain ⟨rc_78, e78⟩ := jcv_o e78
    refine jr_callV K (C_X2_addCode (d) e78) (D_at DX3_readSum_q3 4 rfl) cv_X3_49_X2_addCode (As := [.int ((256 : Int32) + q55.1)]) (ci := 2) rfl rc_78 rfl rfl (by exact Nat.le_of_ble_eq_true rfl) (kc2 := 0) (ks2 := 0) rfl rfl (fun k9 h9 w9 => by cases w9.1) (fun r9 h9 w9 => ?_)
    obtain ⟨w1, w2⟩ := w9
    subst h9
    cases w1
    show jJ G X _ 0 0 _ _ []
    refine jr_keep [true, true, true, false, false] ?_
    exact J_X3_readSum_81 K n rc4 hr4 E a0 x1 x2 h78 hf
  · replace hf := (if_pos c63).symm.trans hf
    refine jr_iconst K (D_at DX3_readSum_q2 9 rfl) (v := (0 : Int32)) (by decide) ?_
    cases hf
    exact jr_zret K E (D_at DX3_readSum_q2 10 rfl) rfl (Or.inl rfl) ⟨rfl, rfl⟩
set_option maxHeartbeats 400000 in
set_option maxRecDepth 100000 in
theorem J_X3_readSum_4_b {G : jG} {l : Launch} {d : Nat} {X : jX} {res : (Int32 × jH)} (K : jOK G l mX3_readSum (d + 1) X) (n : Nat) (rc4 : Nat → Int32 → Int32 → jH → Option (Int32 × jH)) (hr4 : ∀ (a0 : Nat) (x1 : Int32) (x2 : Int32) (h : jH), rc4 a0 x1 x2 h = some res → jJ G X h 0 0 4 [some (.ref a0), some (.int x1), some (.int x2), none, none] []) (E : jEnd G mX3_readSum (jPW res) X) (a0 : Nat) (x1 : Int32) (x2 : Int32) (h : jH) (hf : F_X3_readSum_4_b n rc4 a0 x1 x2 h = some res) : jJ G X h 0 0 4 [some (.ref a0), some (.int x1), some (.int x2), none, none] [] := by
  unfold F_X3_readSum_4_b at hf
  refine jr_iload_n K (D_at DX3_readSum_q0 4 rfl) rfl rfl ?_
  refine jr_sipush K (D_at DX3_readSum_q0 5 rfl) (v := (400 : Int32)) (by decide) ?_
  refine jr_icmp_ge K (D_at DX3_readSum_q0 6 rfl) (tgt := 116) (by decide) (fun c8 => ?_) (fun c8 => ?_)
  · replace hf := (if_pos c8).symm.trans hf
    refine jr_iconst K (D_at DX3_readSum_q4 10 rfl) (v := (0 : Int32)) (by decide) ?_
    cases hf
    exact jr_zret K E (D_at DX3_readSum_q4 11 rfl) rfl (Or.inl rfl) ⟨rfl, rfl⟩
  · replace hf := (if_neg c8).symm.trans hf
    refine jr_aload_n K (D_at DX3_readSum_q0 7 rfl) rfl rfl ?_
    obtain ⟨p12, e12, hf⟩ := jbind hf
    refine jr_getR K (D_at DX3_readSum_q0 8 rfl) fg_X3_17_3 e12 ?_
    obtain ⟨v15, e15, hf⟩ := jbind hf
    obtain ⟨rc_15, e15⟩ := jcv_o e15
    refine jr_callV K (C_X10_kind (d) e15) (D_at DX3_readSum_q0 9 rfl) cv_X3_21_X10_kind (As := []) (ci := 8) rfl rc_15 rfl rfl (by exact Nat.le_of_ble_eq_true rfl) (kc2 := 0) (ks2 := 0) rfl rfl (fun k9 h9 w9 => by cases w9.1) (fun r9 h9 w9 => ?_)
    obtain ⟨w1, w2⟩ := w9
    subst h9
    cases w1
    show jJ G X _ 0 0 _ _ (.int v15 :: _)
    refine jr_istore_n K (D_at DX3_readSum_q0 10 rfl) (i := 3) rfl (by decide) (L2 := [_, _, _, _, _]) rfl ?_
    refine jr_iload_n K (D_at DX3_readSum_q0 11 rfl) rfl rfl ?_
    refine jr_if_lt K (D_at DX3_readSum_q1 0 rfl) (tgt := 47) (by decide) (fun c20 => ?_) (fun c20 => ?_)
    · replace hf := (if_pos c20).symm.trans hf
      refine jr_keep [true, true, true, false, false] ?_
      exact J_X3_readSum_47 K n rc4 hr4 E a0 x1 x2 h hf
    · replace hf := (if_neg c20).symm.trans hf
      refine jr_iload_n K (D_at DX3_readSum_q1 1 rfl) rfl rfl ?_
      refine jr_bipush K (D_at DX3_readSum_q1 2 rfl) (v := (6 : Int32)) (by decide) ?_
      refine jr_icmp_gt K (D_at DX3_readSum_q1 3 rfl) (tgt := 47) (by decide) (fun c26 => ?_) (fun c26 => ?_)
      · replace hf := (if_pos c26).symm.trans hf
        refine jr_keep [true, true, true, false, false] ?_
        exact J_X3_readSum_47 K n rc4 hr4 E a0 x1 x2 h hf
      · replace hf := (if_neg c26).symm.trans hf
        refine jr_aload_n K (D_at DX3_readSum_q1 4 rfl) rfl rfl ?_
        obtain ⟨p30, e30, hf⟩ := jbind hf
        refine jr_getR K (D_at DX3_readSum_q1 5 rfl) fg_X3_17_3 e30 ?_
        obtain ⟨h33, e33, hf⟩ := jbind hf
        obtain ⟨rc_33, e33⟩ := jcv_o e33
        refine jr_callV K (C_X10_skip (d) e33) (D_at DX3_readSum_q1 6 rfl) cv_X3_27_X10_skip (As := []) (ci := 8) rfl rc_33 rfl rfl (by exact Nat.le_of_ble_eq_true rfl) (kc2 := 0) (ks2 := 0) rfl rfl (fun k9 h9 w9 => by cases w9.1) (fun r9 h9 w9 => ?_)
        obtain ⟨w1, w2⟩ := w9
        subst h9
        cases w1
        show jJ G X _ 0 0 _ _ []
        refine jr_aload_n K (D_at DX3_readSum_q1 7 rfl) rfl rfl ?_
        obtain ⟨p37, e37, hf⟩ := jbind hf
        refine jr_getR K (D_at DX3_readSum_q1 8 rfl) fg_X3_11_3 e37 ?_
        refine jr_iload_n K (D_at DX3_readSum_q1 9 rfl) rfl rfl ?_
        obtain ⟨h41, e41, hf⟩ := jbind hf
        obtain ⟨rc_41, e41⟩ := jcv_o e41
        refine jr_callV K (C_X2_addCode (d) e41) (D_at DX3_readSum_q1 10 rfl) cv_X3_49_X2_addCode (As := [.int v15]) (ci := 2) rfl rc_41 rfl rfl (by exact Nat.le_of_ble_eq_true rfl) (kc2 := 0) (ks2 := 0) rfl rfl (fun k9 h9 w9 => by cases w9.1) (fun r9 h9 w9 => ?_)
        obtain ⟨w1, w2⟩ := w9
        subst h9
        cases w1
        show jJ G X _ 0 0 _ _ []
        refine jr_goto K (D_at DX3_readSum_q1 11 rfl) (tgt := 81) (by decide) ?_
        refine jr_keep [true, true, true, false, false] ?_
        exact J_X3_readSum_81 K n rc4 hr4 E a0 x1 x2 h41 hf
theorem J_X3_readSum_4 {G : jG} {l : Launch} {d : Nat} {X : jX} {res : (Int32 × jH)} (K : jOK G l mX3_readSum (d + 1) X) (n : Nat) (E : jEnd G mX3_readSum (jPW res) X) (k : Nat) : ∀ (a0 : Nat) (x1 : Int32) (x2 : Int32) (h : jH), F_X3_readSum_4 n k a0 x1 x2 h = some res → jJ G X h 0 0 4 [some (.ref a0), some (.int x1), some (.int x2), none, none] [] := by
  induction k with
  | zero =>
    intro a0 x1 x2 h hf
    exact jno (show (none : Option (Int32 × jH)) = some res from hf)
  | succ k ih =>
    intro a0 x1 x2 h hf
    exact J_X3_readSum_4_b K n (F_X3_readSum_4 n k) ih E a0 x1 x2 h hf
set_option maxHeartbeats 400000 in
set_option maxRecDepth 100000 in
theorem J_X3_readSum {G : jG} {l : Launch} {d : Nat} {X : jX} {res : (Int32 × jH)} (K : jOK G l mX3_readSum (d + 1) X) (n : Nat) (E : jEnd G mX3_readSum (jPW res) X) (a0 : Nat) (h : jH) (hf : F_X3_readSum n a0 h = some res) : jJ G X h 0 0 0 [some (.ref a0), none, none, none, none] [] := by
  unfold F_X3_readSum at hf
  refine jr_iconst K (D_at DX3_readSum_q0 0 rfl) (v := (0 : Int32)) (by decide) ?_
  refine jr_istore_n K (D_at DX3_readSum_q0 1 rfl) (i := 1) rfl (by decide) (L2 := [_, _, _, _, _]) rfl ?_
  refine jr_iconst K (D_at DX3_readSum_q0 2 rfl) (v := (0 : Int32)) (by decide) ?_
  refine jr_istore_n K (D_at DX3_readSum_q0 3 rfl) (i := 2) rfl (by decide) (L2 := [_, _, _, _, _]) rfl ?_
  refine jr_keep [true, true, true, false, false] ?_
  exact J_X3_readSum_4 K n E n a0 (0 : Int32) (0 : Int32) h hf
theorem C_X3_readSum {G : jG} {l : Launch} (d : Nat) {n : Nat} {a0 : Nat} {h : jH} {res : (Int32 × jH)} (hf : F_X3_readSum n a0 h = some res) : jC G l mX3_readSum (d + 1) 0 0 [.ref a0] h (jPW res) :=
  jC.of pn_X3 (jcats rfl) (Nat.le_of_ble_eq_true rfl) (fun X K E => J_X3_readSum K n E a0 h hf)
set_option maxHeartbeats 400000 in
set_option maxRecDepth 100000 in
theorem J_X3_readComparison_43 {G : jG} {l : Launch} {d : Nat} {X : jX} {res : (Int32 × jH)} (K : jOK G l mX3_readComparison (d + 2) X) (n : Nat) (E : jEnd G mX3_readComparison (jPW res) X) (a0 : Nat) (x1 : Int32) (h : jH) (hf : F_X3_readComparison_43 n a0 x1 h = some res) : jJ G X h 0 0 43 [some (.ref a0), some (.int x1), none] [] := by
  unfold F_X3_readComparison_43 at hf
  refine jr_aload_n K (D_at DX3_readComparison_q1 9 rfl) rfl rfl ?_
  obtain ⟨q44, e44, hf⟩ := jbind hf
  obtain ⟨rc_44, e44⟩ := jcv_o e44
  refine jr_callV K (C_X3_readSum (d) e44) (D_at DX3_readComparison_q1 10 rfl) cv_X3_57_X3_readSum (As := []) (ci := 3) rfl rc_44 rfl rfl (by exact Nat.le_of_ble_eq_true rfl) (kc2 := 0) (ks2 := 0) rfl rfl (fun k9 h9 w9 => by cases w9.1) (fun r9 h9 w9 => ?_)
  obtain ⟨w1, w2⟩ := w9
  subst h9
  cases w1
  show jJ G X _ 0 0 _ _ (.int q44.1 :: _)
  refine jr_istore_n K (D_at DX3_readComparison_q1 11 rfl) (i := 2) rfl (by decide) (L2 := [_, _, _]) rfl ?_
  refine jr_aload_n K (D_at DX3_readComparison_q2 0 rfl) rfl rfl ?_
  obtain ⟨p49, e49, hf⟩ := jbind hf
  refine jr_getR K (D_at DX3_readComparison_q2 1 rfl) fg_X3_11_3 e49 ?_
  refine jr_iload_n K (D_at DX3_readComparison_q2 2 rfl) rfl rfl ?_
  obtain ⟨h53, e53, hf⟩ := jbind hf
  obtain ⟨rc_53, e53⟩ := jcv_o e53
  refine jr_callV K (C_X2_addCode (d + 1) e53) (D_at DX3_readComparison_q2 3 rfl) cv_X3_49_X2_addCode (As := [.int x1]) (ci := 2) rfl rc_53 rfl rfl (by exact Nat.le_of_ble_eq_true rfl) (kc2 := 0) (ks2 := 0) rfl rfl (fun k9 h9 w9 => by cases w9.1) (fun r9 h9 w9 => ?_)
  obtain ⟨w1, w2⟩ := w9
  subst h9
  cases w1
  show jJ G X _ 0 0 _ _ []
  refine jr_iload_n K (D_at DX3_readComparison_q2 4 rfl) rfl rfl ?_
  by_cases z9 : q44.1 = 0 ∨ q44.1 = 1
  · replace hf := (if_pos z9).symm.trans hf
    cases hf
    exact jr_zret K E (D_at DX3_readComparison_q2 5 rfl) rfl z9 ⟨rfl, rfl⟩
  · exact jno (show (none : Option (Int32 × jH)) = some res from (if_neg z9).symm.trans hf)
set_option maxHeartbeats 400000 in
set_option maxRecDepth 100000 in
theorem J_X3_readComparison {G : jG} {l : Launch} {d : Nat} {X : jX} {res : (Int32 × jH)} (K : jOK G l mX3_readComparison (d + 2) X) (n : Nat) (E : jEnd G mX3_readComparison (jPW res) X) (a0 : Nat) (h : jH) (hf : F_X3_readComparison n a0 h = some res) : jJ G X h 0 0 0 [some (.ref a0), none, none] [] := by
  unfold F_X3_readComparison at hf
  refine jr_aload_n K (D_at DX3_readComparison_q0 0 rfl) rfl rfl ?_
  obtain ⟨q1, e1, hf⟩ := jbind hf
  obtain ⟨rc_1, e1⟩ := jcv_o e1
  refine jr_callV K (C_X3_readSum (d) e1) (D_at DX3_readComparison_q0 1 rfl) cv_X3_57_X3_readSum (As := []) (ci := 3) rfl rc_1 rfl rfl (by exact Nat.le_of_ble_eq_true rfl) (kc2 := 0) (ks2 := 0) rfl rfl (fun k9 h9 w9 => by cases w9.1) (fun r9 h9 w9 => ?_)
  obtain ⟨w1, w2⟩ := w9
  subst h9
  cases w1
  show jJ G X _ 0 0 _ _ (.int q1.1 :: _)
  refine jr_if_ne K (D_at DX3_readComparison_q0 2 rfl) (tgt := 9) (by decide) (fun c4 => ?_) (fun c4 => ?_)
  · replace hf := (if_neg c4).symm.trans hf
    refine jr_aload_n K (D_at DX3_readComparison_q0 5 rfl) rfl rfl ?_
    obtain ⟨p10, e10, hf⟩ := jbind hf
    refine jr_getR K (D_at DX3_readComparison_q0 6 rfl) fg_X3_17_3 e10 ?_
    obtain ⟨v13, e13, hf⟩ := jbind hf
    obtain ⟨rc_13, e13⟩ := jcv_o e13
    refine jr_callV K (C_X10_kind (d + 1) e13) (D_at DX3_readComparison_q0 7 rfl) cv_X3_21_X10_kind (As := []) (ci := 8) rfl rc_13 rfl rfl (by exact Nat.le_of_ble_eq_true rfl) (kc2 := 0) (ks2 := 0) rfl rfl (fun k9 h9 w9 => by cases w9.1) (fun r9 h9 w9 => ?_)
    obtain ⟨w1, w2⟩ := w9
    subst h9
    cases w1
    show jJ G X _ 0 0 _ _ (.int v13 :: _)
    refine jr_istore_n K (D_at DX3_readComparison_q0 8 rfl) (i := 1) rfl (by decide) (L2 := [_, _, _]) rfl ?_
    refine jr_aload_n K (D_at DX3_readComparison_q0 9 rfl) rfl rfl ?_
    obtain ⟨p18, e18, hf⟩ := jbind hf
    refine jr_getR K (D_at DX3_readComparison_q0 10 rfl) fg_X3_17_3 e18 ?_
    refine jr_bipush K (D_at DX3_readComparison_q0 11 rfl) (v := (60 : Int32)) (by decide) ?_
    obtain ⟨q23, e23, hf⟩ := jbind hf
    obtain ⟨rc_23, e23⟩ := jcv_o e23
    refine jr_callV K (C_X10_take (d + 1) e23) (D_at DX3_readComparison_q1 0 rfl) cv_X3_39_X10_take (As := [.int (60 : Int32)]) (ci := 8) rfl rc_23 rfl rfl (by exact Nat.le_of_ble_eq_true rfl) (kc2 := 0) (ks2 := 0) rfl rfl (fun k9 h9 w9 => by cases w9.1) (fun r9 h9 w9 => ?_)
    obtain ⟨w1, w2⟩ := w9
    subst h9
    cases w1
    show jJ G X _ 0 0 _ _ (.int q23.1 :: _)
    refine jr_if_ne K (D_at DX3_readComparison_q1 1 rfl) (tgt := 43) (by decide) (fun c26 => ?_) (fun c26 => ?_)
    · replace hf := (if_neg c26).symm.trans hf
      refine jr_keep [true, true, false] ?_
      exact J_X3_readComparison_43 K n E a0 v13 q23.2 hf
    · replace hf := (if_pos c26).symm.trans hf
      refine jr_aload_n K (D_at DX3_readComparison_q1 2 rfl) rfl rfl ?_
      obtain ⟨p30, e30, hf⟩ := jbind hf
      refine jr_getR K (D_at DX3_readComparison_q1 3 rfl) fg_X3_17_3 e30 ?_
      refine jr_bipush K (D_at DX3_readComparison_q1 4 rfl) (v := (62 : Int32)) (by decide) ?_
      obtain ⟨q35, e35, hf⟩ := jbind hf
      obtain ⟨rc_35, e35⟩ := jcv_o e35
      refine jr_callV K (C_X10_take (d + 1) e35) (D_at DX3_readComparison_q1 5 rfl) cv_X3_39_X10_take (As := [.int (62 : Int32)]) (ci := 8) rfl rc_35 rfl rfl (by exact Nat.le_of_ble_eq_true rfl) (kc2 := 0) (ks2 := 0) rfl rfl (fun k9 h9 w9 => by cases w9.1) (fun r9 h9 w9 => ?_)
      obtain ⟨w1, w2⟩ := w9
      subst h9
      cases w1
      show jJ G X _ 0 0 _ _ (.int q35.1 :: _)
      refine jr_if_ne K (D_at DX3_readComparison_q1 6 rfl) (tgt := 43) (by decide) (fun c38 => ?_) (fun c38 => ?_)
      · replace hf := (if_neg c38).symm.trans hf
        refine jr_keep [true, true, false] ?_
        exact J_X3_readComparison_43 K n E a0 v13 q35.2 hf
      · replace hf := (if_pos c38).symm.trans hf
        refine jr_iconst K (D_at DX3_readComparison_q1 7 rfl) (v := (0 : Int32)) (by decide) ?_
        cases hf
        exact jr_zret K E (D_at DX3_readComparison_q1 8 rfl) rfl (Or.inl rfl) ⟨rfl, rfl⟩
  · replace hf := (if_pos c4).symm.trans hf
    refine jr_iconst K (D_at DX3_readComparison_q0 3 rfl) (v := (0 : Int32)) (by decide) ?_
    cases hf
    exact jr_zret K E (D_at DX3_readComparison_q0 4 rfl) rfl (Or.inl rfl) ⟨rfl, rfl⟩
theorem C_X3_readComparison {G : jG} {l : Launch} (d : Nat) {n : Nat} {a0 : Nat} {h : jH} {res : (Int32 × jH)} (hf : F_X3_readComparison n a0 h = some res) : jC G l mX3_readComparison (d + 2) 0 0 [.ref a0] h (jPW res) :=
  jC.of pn_X3 (jcats rfl) (Nat.le_of_ble_eq_true rfl) (fun X K E => J_X3_readComparison K n E a0 h hf)
set_option maxHeartbeats 400000 in
set_option maxRecDepth 100000 in
theorem J_X3_readCondition_65 {G : jG} {l : Launch} {D9 : Nat} (hD9 : 3 ≤ D9) {X : jX} {res : (Int32 × jH)} (K : jOK G l mX3_readCondition (D9 + 1) X) (n : Nat) (g0 : Nat → Int32 → jH → Option (Int32 × jH)) (hg0 : ∀ (b0 : Nat) (b1 : Int32) (h : jH) (r : (Int32 × jH)), g0 b0 b1 h = some r → jC G l mX3_readCondition D9 0 0 [.ref b0, .int b1] h (jPW r)) (g1 : Nat → Int32 → jH → Option (Int32 × jH)) (hg1 : ∀ (b0 : Nat) (b1 : Int32) (h : jH) (r : (Int32 × jH)), g1 b0 b1 h = some r → jC G l mX3_readAtom D9 0 0 [.ref b0, .int b1] h (jPW r)) (rc7 : Nat → Int32 → Int32 → Int32 → Int32 → jH → Option (Int32 × jH)) (hr7 : ∀ (a0 : Nat) (x1 : Int32) (x2 : Int32) (x3 : Int32) (x4 : Int32) (h : jH), rc7 a0 x1 x2 x3 x4 h = some res → jJ G X h 0 0 7 [some (.ref a0), some (.int x1), some (.int x2), some (.int x3), some (.int x4)] []) (E : jEnd G mX3_readCondition (jPW res) X) (a0 : Nat) (x1 : Int32) (x2 : Int32) (x4 : Int32) (h : jH) (hf : F_X3_readCondition_65 n g0 g1 rc7 a0 x1 x2 x4 h = some res) : jJ G X h 0 0 65 [some (.ref a0), some (.int x1), some (.int x2), none, some (.int x4)] [] := by
  unfold F_X3_readCondition_65 at hf
  refine jr_aload_n K (D_at DX3_readCondition_q2 10 rfl) rfl rfl ?_
  obtain ⟨p66, e66, hf⟩ := jbind hf
  refine jr_getR K (D_at DX3_readCondition_q2 11 rfl) fg_X3_17_3 e66 ?_
  refine jr_bipush K (D_at DX3_readCondition_q3 0 rfl) (v := (13 : Int32)) (by decide) ?_
  obtain ⟨q71, e71, hf⟩ := jbind hf
  obtain ⟨rc_71, e71⟩ := jcv_o e71
  refine jr_callV K (jC_le (k := 0) (Nat.le_trans (by decide) hD9) (fun d => C_X10_take d e71)) (D_at DX3_readCondition_q3 1 rfl) cv_X3_39_X10_take (As := [.int (13 : Int32)]) (ci := 8) rfl rc_71 rfl rfl (by exact Nat.le_of_ble_eq_true rfl) (kc2 := 0) (ks2 := 0) rfl rfl (fun k9 h9 w9 => by cases w9.1) (fun r9 h9 w9 => ?_)
  obtain ⟨w1, w2⟩ := w9
  subst h9
  cases w1
  show jJ G X _ 0 0 _ _ (.int q71.1 :: _)
  refine jr_istore_n K (D_at DX3_readCondition_q3 2 rfl) (i := 3) rfl (by decide) (L2 := [_, _, _, _, _]) rfl ?_
  refine jr_iload_n K (D_at DX3_readCondition_q3 3 rfl) rfl rfl ?_
  refine jr_if_ne K (D_at DX3_readCondition_q3 4 rfl) (tgt := 81) (by decide) (fun c76 => ?_) (fun c76 => ?_)
  · replace hf := (if_neg c76).symm.trans hf
    refine jr_iinc K (D_at DX3_readCondition_q3 7 rfl) (i := 4) rfl (v := x4 + (1 : Int32)) (jinc (by decide)) (by decide) (L2 := [_, _, _, _, _]) rfl ?_
    refine jr_goto K (D_at DX3_readCondition_q3 8 rfl) (tgt := 7) (by decide) ?_
    refine jr_keep [true, true, true, true, true] ?_
    exact hr7 a0 x1 x2 q71.1 (x4 + (1 : Int32)) q71.2 hf
  · replace hf := (if_pos c76).symm.trans hf
    refine jr_iconst K (D_at DX3_readCondition_q3 5 rfl) (v := (1 : Int32)) (by decide) ?_
    cases hf
    exact jr_zret K E (D_at DX3_readCondition_q3 6 rfl) rfl (Or.inr rfl) ⟨rfl, rfl⟩
set_option maxHeartbeats 400000 in
set_option maxRecDepth 100000 in
theorem J_X3_readCondition_38 {G : jG} {l : Launch} {D9 : Nat} (hD9 : 3 ≤ D9) {X : jX} {res : (Int32 × jH)} (K : jOK G l mX3_readCondition (D9 + 1) X) (n : Nat) (g0 : Nat → Int32 → jH → Option (Int32 × jH)) (hg0 : ∀ (b0 : Nat) (b1 : Int32) (h : jH) (r : (Int32 × jH)), g0 b0 b1 h = some r → jC G l mX3_readCondition D9 0 0 [.ref b0, .int b1] h (jPW r)) (g1 : Nat → Int32 → jH → Option (Int32 × jH)) (hg1 : ∀ (b0 : Nat) (b1 : Int32) (h : jH) (r : (Int32 × jH)), g1 b0 b1 h = some r → jC G l mX3_readAtom D9 0 0 [.ref b0, .int b1] h (jPW r)) (rc7 : Nat → Int32 → Int32 → Int32 → Int32 → jH → Option (Int32 × jH)) (hr7 : ∀ (a0 : Nat) (x1 : Int32) (x2 : Int32) (x3 : Int32) (x4 : Int32) (h : jH), rc7 a0 x1 x2 x3 x4 h = some res → jJ G X h 0 0 7 [some (.ref a0), some (.int x1), some (.int x2), some (.int x3), some (.int x4)] []) (E : jEnd G mX3_readCondition (jPW res) X) (a0 : Nat) (x1 : Int32) (x3 : Int32) (x4 : Int32) (h : jH) (hf : F_X3_readCondition_38 n g0 g1 rc7 a0 x1 x3 x4 h = some res) : jJ G X h 0 0 38 [some (.ref a0), some (.int x1), none, some (.int x3), some (.int x4)] [] := by
  unfold F_X3_readCondition_38 at hf
  refine jr_aload_n K (D_at DX3_readCondition_q1 9 rfl) rfl rfl ?_
  obtain ⟨p39, e39, hf⟩ := jbind hf
  refine jr_getR K (D_at DX3_readCondition_q1 10 rfl) fg_X3_17_3 e39 ?_
  refine jr_bipush K (D_at DX3_readCondition_q1 11 rfl) (v := (12 : Int32)) (by decide) ?_
  obtain ⟨q44, e44, hf⟩ := jbind hf
  obtain ⟨rc_44, e44⟩ := jcv_o e44
  refine jr_callV K (jC_le (k := 0) (Nat.le_trans (by decide) hD9) (fun d => C_X10_take d e44)) (D_at DX3_readCondition_q2 0 rfl) cv_X3_39_X10_take (As := [.int (12 : Int32)]) (ci := 8) rfl rc_44 rfl rfl (by exact Nat.le_of_ble_eq_true rfl) (kc2 := 0) (ks2 := 0) rfl rfl (fun k9 h9 w9 => by cases w9.1) (fun r9 h9 w9 => ?_)
  obtain ⟨w1, w2⟩ := w9
  subst h9
  cases w1
  show jJ G X _ 0 0 _ _ (.int q44.1 :: _)
  refine jr_istore_n K (D_at DX3_readCondition_q2 1 rfl) (i := 2) rfl (by decide) (L2 := [_, _, _, _, _]) rfl ?_
  refine jr_iload_n K (D_at DX3_readCondition_q2 2 rfl) rfl rfl ?_
  refine jr_if_ne K (D_at DX3_readCondition_q2 3 rfl) (tgt := 81) (by decide) (fun c49 => ?_) (fun c49 => ?_)
  · replace hf := (if_neg c49).symm.trans hf
    refine jr_iinc K (D_at DX3_readCondition_q3 7 rfl) (i := 4) rfl (v := x4 + (1 : Int32)) (jinc (by decide)) (by decide) (L2 := [_, _, _, _, _]) rfl ?_
    refine jr_goto K (D_at DX3_readCondition_q3 8 rfl) (tgt := 7) (by decide) ?_
    refine jr_keep [true, true, true, true, true] ?_
    exact hr7 a0 x1 q44.1 x3 (x4 + (1 : Int32)) q44.2 hf
  · replace hf := (if_pos c49).symm.trans hf
    refine jr_iload_n K (D_at DX3_readCondition_q2 4 rfl) rfl rfl ?_
    refine jr_if_eq K (D_at DX3_readCondition_q2 5 rfl) (tgt := 65) (by decide) (fun c53 => ?_) (fun c53 => ?_)
    · replace hf := (if_pos c53).symm.trans hf
      refine jr_keep [true, true, true, false, true] ?_
      exact J_X3_readCondition_65 hD9 K n g0 hg0 g1 hg1 rc7 hr7 E a0 x1 q44.1 x4 q44.2 hf
    · replace hf := (if_neg c53).symm.trans hf
      refine jr_aload_n K (D_at DX3_readCondition_q2 6 rfl) rfl rfl ?_
      obtain ⟨p57, e57, hf⟩ := jbind hf
      refine jr_getR K (D_at DX3_readCondition_q2 7 rfl) fg_X3_11_3 e57 ?_
      refine jr_bipush K (D_at DX3_readCondition_q2 8 rfl) (v := (13 : Int32)) (by decide) ?_
      obtain ⟨h62, e62, hf⟩ := jbind hf
      obtain ⟨rc_62, e62⟩ := jcv_o e62
      refine jr_callV K (jC_le (k := 0) (Nat.le_trans (by decide) hD9) (fun d => C_X2_addCode d e62)) (D_at DX3_readCondition_q2 9 rfl) cv_X3_49_X2_addCode (As := [.int (13 : Int32)]) (ci := 2) rfl rc_62 rfl rfl (by exact Nat.le_of_ble_eq_true rfl) (kc2 := 0) (ks2 := 0) rfl rfl (fun k9 h9 w9 => by cases w9.1) (fun r9 h9 w9 => ?_)
      obtain ⟨w1, w2⟩ := w9
      subst h9
      cases w1
      show jJ G X _ 0 0 _ _ []
      refine jr_keep [true, true, true, false, true] ?_
      exact J_X3_readCondition_65 hD9 K n g0 hg0 g1 hg1 rc7 hr7 E a0 x1 q44.1 x4 h62 hf
set_option maxHeartbeats 400000 in
set_option maxRecDepth 100000 in
theorem J_X3_readCondition_7_b {G : jG} {l : Launch} {D9 : Nat} (hD9 : 3 ≤ D9) {X : jX} {res : (Int32 × jH)} (K : jOK G l mX3_readCondition (D9 + 1) X) (n : Nat) (g0 : Nat → Int32 → jH → Option (Int32 × jH)) (hg0 : ∀ (b0 : Nat) (b1 : Int32) (h : jH) (r : (Int32 × jH)), g0 b0 b1 h = some r → jC G l mX3_readCondition D9 0 0 [.ref b0, .int b1] h (jPW r)) (g1 : Nat → Int32 → jH → Option (Int32 × jH)) (hg1 : ∀ (b0 : Nat) (b1 : Int32) (h : jH) (r : (Int32 × jH)), g1 b0 b1 h = some r → jC G l mX3_readAtom D9 0 0 [.ref b0, .int b1] h (jPW r)) (rc7 : Nat → Int32 → Int32 → Int32 → Int32 → jH → Option (Int32 × jH)) (hr7 : ∀ (a0 : Nat) (x1 : Int32) (x2 : Int32) (x3 : Int32) (x4 : Int32) (h : jH), rc7 a0 x1 x2 x3 x4 h = some res → jJ G X h 0 0 7 [some (.ref a0), some (.int x1), some (.int x2), some (.int x3), some (.int x4)] []) (E : jEnd G mX3_readCondition (jPW res) X) (a0 : Nat) (x1 : Int32) (x2 : Int32) (x3 : Int32) (x4 : Int32) (h : jH) (hf : F_X3_readCondition_7_b n g0 g1 rc7 a0 x1 x2 x3 x4 h = some res) : jJ G X h 0 0 7 [some (.ref a0), some (.int x1), some (.int x2), some (.int x3), some (.int x4)] [] := by
  unfold F_X3_readCondition_7_b at hf
  refine jr_iload K (D_at DX3_readCondition_q0 6 rfl) rfl ?_
  refine jr_sipush K (D_at DX3_readCondition_q0 7 rfl) (v := (400 : Int32)) (by decide) ?_
  refine jr_icmp_ge K (D_at DX3_readCondition_q0 8 rfl) (tgt := 87) (by decide) (fun c12 => ?_) (fun c12 => ?_)
  · replace hf := (if_pos c12).symm.trans hf
    refine jr_iconst K (D_at DX3_readCondition_q3 9 rfl) (v := (0 : Int32)) (by decide) ?_
    cases hf
    exact jr_zret K E (D_at DX3_readCondition_q3 10 rfl) rfl (Or.inl rfl) ⟨rfl, rfl⟩
  · replace hf := (if_neg c12).symm.trans hf
    refine jr_aload_n K (D_at DX3_readCondition_q0 9 rfl) rfl rfl ?_
    refine jr_iload_n K (D_at DX3_readCondition_q0 10 rfl) rfl rfl ?_
    obtain ⟨q17, e17, hf⟩ := jbind hf
    obtain ⟨rc_17, e17⟩ := jcv_o e17
    refine jr_callV K (hg1 a0 x1 h _ e17) (D_at DX3_readCondition_q0 11 rfl) cv_X3_46_X3_readAtom (As := [.int x1]) (ci := 3) rfl rc_17 rfl rfl (by exact Nat.le_of_ble_eq_true rfl) (kc2 := 0) (ks2 := 0) rfl rfl (fun k9 h9 w9 => by cases w9.1) (fun r9 h9 w9 => ?_)
    obtain ⟨w1, w2⟩ := w9
    subst h9
    cases w1
    show jJ G X _ 0 0 _ _ (.int q17.1 :: _)
    refine jr_if_ne K (D_at DX3_readCondition_q1 0 rfl) (tgt := 25) (by decide) (fun c20 => ?_) (fun c20 => ?_)
    · replace hf := (if_neg c20).symm.trans hf
      refine jr_iload_n K (D_at DX3_readCondition_q1 3 rfl) rfl rfl ?_
      refine jr_if_eq K (D_at DX3_readCondition_q1 4 rfl) (tgt := 38) (by decide) (fun c26 => ?_) (fun c26 => ?_)
      · replace hf := (if_pos c26).symm.trans hf
        refine jr_keep [true, true, false, true, true] ?_
        exact J_X3_readCondition_38 hD9 K n g0 hg0 g1 hg1 rc7 hr7 E a0 x1 x3 x4 q17.2 hf
      · replace hf := (if_neg c26).symm.trans hf
        refine jr_aload_n K (D_at DX3_readCondition_q1 5 rfl) rfl rfl ?_
        obtain ⟨p30, e30, hf⟩ := jbind hf
        refine jr_getR K (D_at DX3_readCondition_q1 6 rfl) fg_X3_11_3 e30 ?_
        refine jr_bipush K (D_at DX3_readCondition_q1 7 rfl) (v := (12 : Int32)) (by decide) ?_
        obtain ⟨h35, e35, hf⟩ := jbind hf
        obtain ⟨rc_35, e35⟩ := jcv_o e35
        refine jr_callV K (jC_le (k := 0) (Nat.le_trans (by decide) hD9) (fun d => C_X2_addCode d e35)) (D_at DX3_readCondition_q1 8 rfl) cv_X3_49_X2_addCode (As := [.int (12 : Int32)]) (ci := 2) rfl rc_35 rfl rfl (by exact Nat.le_of_ble_eq_true rfl) (kc2 := 0) (ks2 := 0) rfl rfl (fun k9 h9 w9 => by cases w9.1) (fun r9 h9 w9 => ?_)
        obtain ⟨w1, w2⟩ := w9
        subst h9
        cases w1
        show jJ G X _ 0 0 _ _ []
        refine jr_keep [true, true, false, true, true] ?_
        exact J_X3_readCondition_38 hD9 K n g0 hg0 g1 hg1 rc7 hr7 E a0 x1 x3 x4 h35 hf
    · replace hf := (if_pos c20).symm.trans hf
      refine jr_iconst K (D_at DX3_readCondition_q1 1 rfl) (v := (0 : Int32)) (by decide) ?_
      cases hf
      exact jr_zret K E (D_at DX3_readCondition_q1 2 rfl) rfl (Or.inl rfl) ⟨rfl, rfl⟩
theorem J_X3_readCondition_7 {G : jG} {l : Launch} {D9 : Nat} (hD9 : 3 ≤ D9) {X : jX} {res : (Int32 × jH)} (K : jOK G l mX3_readCondition (D9 + 1) X) (n : Nat) (g0 : Nat → Int32 → jH → Option (Int32 × jH)) (hg0 : ∀ (b0 : Nat) (b1 : Int32) (h : jH) (r : (Int32 × jH)), g0 b0 b1 h = some r → jC G l mX3_readCondition D9 0 0 [.ref b0, .int b1] h (jPW r)) (g1 : Nat → Int32 → jH → Option (Int32 × jH)) (hg1 : ∀ (b0 : Nat) (b1 : Int32) (h : jH) (r : (Int32 × jH)), g1 b0 b1 h = some r → jC G l mX3_readAtom D9 0 0 [.ref b0, .int b1] h (jPW r)) (E : jEnd G mX3_readCondition (jPW res) X) (k : Nat) : ∀ (a0 : Nat) (x1 : Int32) (x2 : Int32) (x3 : Int32) (x4 : Int32) (h : jH), F_X3_readCondition_7 n g0 g1 k a0 x1 x2 x3 x4 h = some res → jJ G X h 0 0 7 [some (.ref a0), some (.int x1), some (.int x2), some (.int x3), some (.int x4)] [] := by
  induction k with
  | zero =>
    intro a0 x1 x2 x3 x4 h hf
    exact jno (show (none : Option (Int32 × jH)) = some res from hf)
  | succ k ih =>
    intro a0 x1 x2 x3 x4 h hf
    exact J_X3_readCondition_7_b hD9 K n g0 hg0 g1 hg1 (F_X3_readCondition_7 n g0 g1 k) ih E a0 x1 x2 x3 x4 h hf
set_option maxHeartbeats 400000 in
set_option maxRecDepth 100000 in
theorem J_X3_readCondition {G : jG} {l : Launch} {D9 : Nat} (hD9 : 3 ≤ D9) {X : jX} {res : (Int32 × jH)} (K : jOK G l mX3_readCondition (D9 + 1) X) (n : Nat) (g0 : Nat → Int32 → jH → Option (Int32 × jH)) (hg0 : ∀ (b0 : Nat) (b1 : Int32) (h : jH) (r : (Int32 × jH)), g0 b0 b1 h = some r → jC G l mX3_readCondition D9 0 0 [.ref b0, .int b1] h (jPW r)) (g1 : Nat → Int32 → jH → Option (Int32 × jH)) (hg1 : ∀ (b0 : Nat) (b1 : Int32) (h : jH) (r : (Int32 × jH)), g1 b0 b1 h = some r → jC G l mX3_readAtom D9 0 0 [.ref b0, .int b1] h (jPW r)) (E : jEnd G mX3_readCondition (jPW res) X) (a0 : Nat) (x1 : Int32) (h : jH) (hf : F_X3_readCondition n g0 g1 a0 x1 h = some res) : jJ G X h 0 0 0 [some (.ref a0), some (.int x1), none, none, none] [] := by
  unfold F_X3_readCondition at hf
  refine jr_iconst K (D_at DX3_readCondition_q0 0 rfl) (v := (0 : Int32)) (by decide) ?_
  refine jr_istore_n K (D_at DX3_readCondition_q0 1 rfl) (i := 2) rfl (by decide) (L2 := [_, _, _, _, _]) rfl ?_
  refine jr_iconst K (D_at DX3_readCondition_q0 2 rfl) (v := (0 : Int32)) (by decide) ?_
  refine jr_istore_n K (D_at DX3_readCondition_q0 3 rfl) (i := 3) rfl (by decide) (L2 := [_, _, _, _, _]) rfl ?_
  refine jr_iconst K (D_at DX3_readCondition_q0 4 rfl) (v := (0 : Int32)) (by decide) ?_
  refine jr_istore K (D_at DX3_readCondition_q0 5 rfl) (i := 4) (by decide) (L2 := [_, _, _, _, _]) rfl ?_
  refine jr_keep [true, true, true, true, true] ?_
  exact J_X3_readCondition_7 hD9 K n g0 hg0 g1 hg1 E n a0 x1 (0 : Int32) (0 : Int32) (0 : Int32) h hf
theorem C_X3_readCondition {G : jG} {l : Launch} {D9 n : Nat} (hD9 : 3 ≤ D9) {g0 : Nat → Int32 → jH → Option (Int32 × jH)} (hg0 : ∀ (b0 : Nat) (b1 : Int32) (h : jH) (r : (Int32 × jH)), g0 b0 b1 h = some r → jC G l mX3_readCondition D9 0 0 [.ref b0, .int b1] h (jPW r)) {g1 : Nat → Int32 → jH → Option (Int32 × jH)} (hg1 : ∀ (b0 : Nat) (b1 : Int32) (h : jH) (r : (Int32 × jH)), g1 b0 b1 h = some r → jC G l mX3_readAtom D9 0 0 [.ref b0, .int b1] h (jPW r)) {a0 : Nat} {x1 : Int32} {h : jH} {res : (Int32 × jH)} (hf : F_X3_readCondition n g0 g1 a0 x1 h = some res) : jC G l mX3_readCondition (D9 + 1) 0 0 [.ref a0, .int x1] h (jPW res) :=
  jC.of pn_X3 (jcats rfl) (Nat.le_of_ble_eq_true rfl) (fun X K E => J_X3_readCondition hD9 K n g0 hg0 g1 hg1 E a0 x1 h hf)
set_option maxHeartbeats 400000 in
set_option maxRecDepth 100000 in
theorem J_X3_readAtom_128 {G : jG} {l : Launch} {D9 : Nat} (hD9 : 3 ≤ D9) {X : jX} {res : (Int32 × jH)} (K : jOK G l mX3_readAtom (D9 + 1) X) (n : Nat) (g0 : Nat → Int32 → jH → Option (Int32 × jH)) (hg0 : ∀ (b0 : Nat) (b1 : Int32) (h : jH) (r : (Int32 × jH)), g0 b0 b1 h = some r → jC G l mX3_readCondition D9 0 0 [.ref b0, .int b1] h (jPW r)) (g1 : Nat → Int32 → jH → Option (Int32 × jH)) (hg1 : ∀ (b0 : Nat) (b1 : Int32) (h : jH) (r : (Int32 × jH)), g1 b0 b1 h = some r → jC G l mX3_readAtom D9 0 0 [.ref b0, .int b1] h (jPW r)) (E : jEnd G mX3_readAtom (jPW res) X) (a0 : Nat) (h : jH) (hf : F_X3_readAtom_128 n g0 g1 a0 h = some res) : jJ G X h 0 0 128 [some (.ref a0), none, none, none] [] := by
  unfold F_X3_readAtom_128 at hf
  refine jr_aload_n K (D_at DX3_readAtom_1_q0 3 rfl) rfl rfl ?_
  obtain ⟨q129, e129, hf⟩ := jbind hf
  obtain ⟨rc_129, e129⟩ := jcv_o e129
  refine jr_callV K (jC_le (k := 2) (Nat.le_trans (by decide) hD9) (fun d => C_X3_readComparison d e129)) (D_at DX3_readAtom_1_q0 4 rfl) cv_X3_53_X3_readComparison (As := []) (ci := 3) rfl rc_129 rfl rfl (by exact Nat.le_of_ble_eq_true rfl) (kc2 := 0) (ks2 := 0) rfl rfl (fun k9 h9 w9 => by cases w9.1) (fun r9 h9 w9 => ?_)
  obtain ⟨w1, w2⟩ := w9
  subst h9
  cases w1
  show jJ G X _ 0 0 _ _ (.int q129.1 :: _)
  by_cases z9 : q129.1 = 0 ∨ q129.1 = 1
  · replace hf := (if_pos z9).symm.trans hf
    cases hf
    exact jr_zret K E (D_at DX3_readAtom_1_q0 5 rfl) rfl z9 ⟨rfl, rfl⟩
  · exact jno (show (none : Option (Int32 × jH)) = some res from (if_neg z9).symm.trans hf)
set_option maxHeartbeats 400000 in
set_option maxRecDepth 100000 in
theorem J_X3_readAtom_28 {G : jG} {l : Launch} {D9 : Nat} (hD9 : 3 ≤ D9) {X : jX} {res : (Int32 × jH)} (K : jOK G l mX3_readAtom (D9 + 1) X) (n : Nat) (g0 : Nat → Int32 → jH → Option (Int32 × jH)) (hg0 : ∀ (b0 : Nat) (b1 : Int32) (h : jH) (r : (Int32 × jH)), g0 b0 b1 h = some r → jC G l mX3_readCondition D9 0 0 [.ref b0, .int b1] h (jPW r)) (g1 : Nat → Int32 → jH → Option (Int32 × jH)) (hg1 : ∀ (b0 : Nat) (b1 : Int32) (h : jH) (r : (Int32 × jH)), g1 b0 b1 h = some r → jC G l mX3_readAtom D9 0 0 [.ref b0, .int b1] h (jPW r)) (E : jEnd G mX3_readAtom (jPW res) X) (a0 : Nat) (x1 : Int32) (x2 : Int32) (h : jH) (hf : F_X3_readAtom_28 n g0 g1 a0 x1 x2 h = some res) : jJ G X h 0 0 28 [some (.ref a0), some (.int x1), some (.int x2), none] [] := by
  unfold F_X3_readAtom_28 at hf
  refine jr_aload_n K (D_at DX3_readAtom_q1 3 rfl) rfl rfl ?_
  obtain ⟨p29, e29, hf⟩ := jbind hf
  refine jr_getR K (D_at DX3_readAtom_q1 4 rfl) fg_X3_17_3 e29 ?_
  refine jr_bipush K (D_at DX3_readAtom_q1 5 rfl) (v := (11 : Int32)) (by decide) ?_
  obtain ⟨q34, e34, hf⟩ := jbind hf
  obtain ⟨rc_34, e34⟩ := jcv_o e34
  refine jr_callV K (jC_le (k := 0) (Nat.le_trans (by decide) hD9) (fun d => C_X10_take d e34)) (D_at DX3_readAtom_q1 6 rfl) cv_X3_39_X10_take (As := [.int (11 : Int32)]) (ci := 8) rfl rc_34 rfl rfl (by exact Nat.le_of_ble_eq_true rfl) (kc2 := 0) (ks2 := 0) rfl rfl (fun k9 h9 w9 => by cases w9.1) (fun r9 h9 w9 => ?_)
  obtain ⟨w1, w2⟩ := w9
  subst h9
  cases w1
  show jJ G X _ 0 0 _ _ (.int q34.1 :: _)
  refine jr_if_eq K (D_at DX3_readAtom_q1 7 rfl) (tgt := 59) (by decide) (fun c37 => ?_) (fun c37 => ?_)
  · replace hf := (if_pos c37).symm.trans hf
    refine jr_aload_n K (D_at DX3_readAtom_q2 8 rfl) rfl rfl ?_
    obtain ⟨p60, e60, hf⟩ := jbind hf
    refine jr_getR K (D_at DX3_readAtom_q2 9 rfl) fg_X3_17_3 e60 ?_
    refine jr_bipush K (D_at DX3_readAtom_q2 10 rfl) (v := (40 : Int32)) (by decide) ?_
    obtain ⟨q65, e65, hf⟩ := jbind hf
    obtain ⟨rc_65, e65⟩ := jcv_o e65
    refine jr_callV K (jC_le (k := 0) (Nat.le_trans (by decide) hD9) (fun d => C_X10_take d e65)) (D_at DX3_readAtom_q2 11 rfl) cv_X3_39_X10_take (As := [.int (40 : Int32)]) (ci := 8) rfl rc_65 rfl rfl (by exact Nat.le_of_ble_eq_true rfl) (kc2 := 0) (ks2 := 0) rfl rfl (fun k9 h9 w9 => by cases w9.1) (fun r9 h9 w9 => ?_)
    obtain ⟨w1, w2⟩ := w9
    subst h9
    cases w1
    show jJ G X _ 0 0 _ _ (.int q65.1 :: _)
    refine jr_if_eq K (D_at DX3_readAtom_q3 0 rfl) (tgt := 99) (by decide) (fun c68 => ?_) (fun c68 => ?_)
    · replace hf := (if_pos c68).symm.trans hf
      refine jr_iload_n K (D_at DX3_readAtom_q4 4 rfl) rfl rfl ?_
      refine jr_bipush K (D_at DX3_readAtom_q4 5 rfl) (v := (7 : Int32)) (by decide) ?_
      refine jr_icmp_lt K (D_at DX3_readAtom_q4 6 rfl) (tgt := 128) (by decide) (fun c102 => ?_) (fun c102 => ?_)
      · replace hf := (if_pos c102).symm.trans hf
        refine jr_keep [true, false, false, false] ?_
        exact J_X3_readAtom_128 hD9 K n g0 hg0 g1 hg1 E a0 q65.2 hf
      · replace hf := (if_neg c102).symm.trans hf
        refine jr_iload_n K (D_at DX3_readAtom_q4 7 rfl) rfl rfl ?_
        refine jr_bipush K (D_at DX3_readAtom_q4 8 rfl) (v := (10 : Int32)) (by decide) ?_
        refine jr_icmp_gt K (D_at DX3_readAtom_q4 9 rfl) (tgt := 128) (by decide) (fun c108 => ?_) (fun c108 => ?_)
        · replace hf := (if_pos c108).symm.trans hf
          refine jr_keep [true, false, false, false] ?_
          exact J_X3_readAtom_128 hD9 K n g0 hg0 g1 hg1 E a0 q65.2 hf
        · replace hf := (if_neg c108).symm.trans hf
          refine jr_aload_n K (D_at DX3_readAtom_q4 10 rfl) rfl rfl ?_
          obtain ⟨p112, e112, hf⟩ := jbind hf
          refine jr_getR K (D_at DX3_readAtom_q4 11 rfl) fg_X3_17_3 e112 ?_
          obtain ⟨h115, e115, hf⟩ := jbind hf
          obtain ⟨rc_115, e115⟩ := jcv_o e115
          refine jr_callV K (jC_le (k := 0) (Nat.le_trans (by decide) hD9) (fun d => C_X10_skip d e115)) (D_at DX3_readAtom_q5 0 rfl) cv_X3_27_X10_skip (As := []) (ci := 8) rfl rc_115 rfl rfl (by exact Nat.le_of_ble_eq_true rfl) (kc2 := 0) (ks2 := 0) rfl rfl (fun k9 h9 w9 => by cases w9.1) (fun r9 h9 w9 => ?_)
          obtain ⟨w1, w2⟩ := w9
          subst h9
          cases w1
          show jJ G X _ 0 0 _ _ []
          refine jr_aload_n K (D_at DX3_readAtom_q5 1 rfl) rfl rfl ?_
          obtain ⟨p119, e119, hf⟩ := jbind hf
          refine jr_getR K (D_at DX3_readAtom_q5 2 rfl) fg_X3_11_3 e119 ?_
          refine jr_iload_n K (D_at DX3_readAtom_q5 3 rfl) rfl rfl ?_
          obtain ⟨h123, e123, hf⟩ := jbind hf
          obtain ⟨rc_123, e123⟩ := jcv_o e123
          refine jr_callV K (jC_le (k := 0) (Nat.le_trans (by decide) hD9) (fun d => C_X2_addCode d e123)) (D_at DX3_readAtom_1_q0 0 rfl) cv_X3_49_X2_addCode (As := [.int x2]) (ci := 2) rfl rc_123 rfl rfl (by exact Nat.le_of_ble_eq_true rfl) (kc2 := 0) (ks2 := 0) rfl rfl (fun k9 h9 w9 => by cases w9.1) (fun r9 h9 w9 => ?_)
          obtain ⟨w1, w2⟩ := w9
          subst h9
          cases w1
          show jJ G X _ 0 0 _ _ []
          refine jr_iconst K (D_at DX3_readAtom_1_q0 1 rfl) (v := (1 : Int32)) (by decide) ?_
          cases hf
          exact jr_zret K E (D_at DX3_readAtom_1_q0 2 rfl) rfl (Or.inr rfl) ⟨rfl, rfl⟩
    · replace hf := (if_neg c68).symm.trans hf
      refine jr_aload_n K (D_at DX3_readAtom_q3 1 rfl) rfl rfl ?_
      refine jr_iload_n K (D_at DX3_readAtom_q3 2 rfl) rfl rfl ?_
      refine jr_iconst K (D_at DX3_readAtom_q3 3 rfl) (v := (1 : Int32)) (by decide) ?_
      refine jr_iadd K (D_at DX3_readAtom_q3 4 rfl) ?_
      obtain ⟨q75, e75, hf⟩ := jbind hf
      obtain ⟨rc_75, e75⟩ := jcv_o e75
      refine jr_callV K (hg0 a0 (x1 + (1 : Int32)) q65.2 _ e75) (D_at DX3_readAtom_q3 5 rfl) cv_X3_43_X3_readCondition (As := [.int (x1 + (1 : Int32))]) (ci := 3) rfl rc_75 rfl rfl (by exact Nat.le_of_ble_eq_true rfl) (kc2 := 0) (ks2 := 0) rfl rfl (fun k9 h9 w9 => by cases w9.1) (fun r9 h9 w9 => ?_)
      obtain ⟨w1, w2⟩ := w9
      subst h9
      cases w1
      show jJ G X _ 0 0 _ _ (.int q75.1 :: _)
      refine jr_if_eq K (D_at DX3_readAtom_q3 6 rfl) (tgt := 97) (by decide) (fun c78 => ?_) (fun c78 => ?_)
      · replace hf := (if_pos c78).symm.trans hf
        refine jr_iconst K (D_at DX3_readAtom_q4 2 rfl) (v := (0 : Int32)) (by decide) ?_
        cases hf
        exact jr_zret K E (D_at DX3_readAtom_q4 3 rfl) rfl (Or.inl rfl) ⟨rfl, rfl⟩
      · replace hf := (if_neg c78).symm.trans hf
        refine jr_aload_n K (D_at DX3_readAtom_q3 7 rfl) rfl rfl ?_
        obtain ⟨p82, e82, hf⟩ := jbind hf
        refine jr_getR K (D_at DX3_readAtom_q3 8 rfl) fg_X3_17_3 e82 ?_
        refine jr_bipush K (D_at DX3_readAtom_q3 9 rfl) (v := (41 : Int32)) (by decide) ?_
        obtain ⟨q87, e87, hf⟩ := jbind hf
        obtain ⟨rc_87, e87⟩ := jcv_o e87
        refine jr_callV K (jC_le (k := 0) (Nat.le_trans (by decide) hD9) (fun d => C_X10_take d e87)) (D_at DX3_readAtom_q3 10 rfl) cv_X3_39_X10_take (As := [.int (41 : Int32)]) (ci := 8) rfl rc_87 rfl rfl (by exact Nat.le_of_ble_eq_true rfl) (kc2 := 0) (ks2 := 0) rfl rfl (fun k9 h9 w9 => by cases w9.1) (fun r9 h9 w9 => ?_)
        obtain ⟨w1, w2⟩ := w9
        subst h9
        cases w1
        show jJ G X _ 0 0 _ _ (.int q87.1 :: _)
        refine jr_if_eq K (D_at DX3_readAtom_q3 11 rfl) (tgt := 97) (by decide) (fun c90 => ?_) (fun c90 => ?_)
        · replace hf := (if_pos c90).symm.trans hf
          refine jr_iconst K (D_at DX3_readAtom_q4 2 rfl) (v := (0 : Int32)) (by decide) ?_
          cases hf
          exact jr_zret K E (D_at DX3_readAtom_q4 3 rfl) rfl (Or.inl rfl) ⟨rfl, rfl⟩
        · replace hf := (if_neg c90).symm.trans hf
          refine jr_iconst K (D_at DX3_readAtom_q4 0 rfl) (v := (1 : Int32)) (by decide) ?_
          refine jr_goto K (D_at DX3_readAtom_q4 1 rfl) (tgt := 98) (by decide) ?_
          cases hf
          exact jr_zret K E (D_at DX3_readAtom_q4 3 rfl) rfl (Or.inr rfl) ⟨rfl, rfl⟩
  · replace hf := (if_neg c37).symm.trans hf
    refine jr_aload_n K (D_at DX3_readAtom_q1 8 rfl) rfl rfl ?_
    refine jr_iload_n K (D_at DX3_readAtom_q1 9 rfl) rfl rfl ?_
    refine jr_iconst K (D_at DX3_readAtom_q1 10 rfl) (v := (1 : Int32)) (by decide) ?_
    refine jr_iadd K (D_at DX3_readAtom_q1 11 rfl) ?_
    obtain ⟨q44, e44, hf⟩ := jbind hf
    obtain ⟨rc_44, e44⟩ := jcv_o e44
    refine jr_callV K (hg1 a0 (x1 + (1 : Int32)) q34.2 _ e44) (D_at DX3_readAtom_q2 0 rfl) cv_X3_46_X3_readAtom (As := [.int (x1 + (1 : Int32))]) (ci := 3) rfl rc_44 rfl rfl (by exact Nat.le_of_ble_eq_true rfl) (kc2 := 0) (ks2 := 0) rfl rfl (fun k9 h9 w9 => by cases w9.1) (fun r9 h9 w9 => ?_)
    obtain ⟨w1, w2⟩ := w9
    subst h9
    cases w1
    show jJ G X _ 0 0 _ _ (.int q44.1 :: _)
    refine jr_istore_n K (D_at DX3_readAtom_q2 1 rfl) (i := 3) rfl (by decide) (L2 := [_, _, _, _]) rfl ?_
    refine jr_aload_n K (D_at DX3_readAtom_q2 2 rfl) rfl rfl ?_
    obtain ⟨p49, e49, hf⟩ := jbind hf
    refine jr_getR K (D_at DX3_readAtom_q2 3 rfl) fg_X3_11_3 e49 ?_
    refine jr_bipush K (D_at DX3_readAtom_q2 4 rfl) (v := (11 : Int32)) (by decide) ?_
    obtain ⟨h54, e54, hf⟩ := jbind hf
    obtain ⟨rc_54, e54⟩ := jcv_o e54
    refine jr_callV K (jC_le (k := 0) (Nat.le_trans (by decide) hD9) (fun d => C_X2_addCode d e54)) (D_at DX3_readAtom_q2 5 rfl) cv_X3_49_X2_addCode (As := [.int (11 : Int32)]) (ci := 2) rfl rc_54 rfl rfl (by exact Nat.le_of_ble_eq_true rfl) (kc2 := 0) (ks2 := 0) rfl rfl (fun k9 h9 w9 => by cases w9.1) (fun r9 h9 w9 => ?_)
    obtain ⟨w1, w2⟩ := w9
    subst h9
    cases w1
    show jJ G X _ 0 0 _ _ []
    refine jr_iload_n K (D_at DX3_readAtom_q2 6 rfl) rfl rfl ?_
    by_cases z9 : q44.1 = 0 ∨ q44.1 = 1
    · replace hf := (if_pos z9).symm.trans hf
      cases hf
      exact jr_zret K E (D_at DX3_readAtom_q2 7 rfl) rfl z9 ⟨rfl, rfl⟩
    · exact jno (show (none : Option (Int32 × jH)) = some res from (if_neg z9).symm.trans hf)
set_option maxHeartbeats 400000 in
set_option maxRecDepth 100000 in
theorem J_X3_readAtom_20 {G : jG} {l : Launch} {D9 : Nat} (hD9 : 3 ≤ D9) {X : jX} {res : (Int32 × jH)} (K : jOK G l mX3_readAtom (D9 + 1) X) (n : Nat) (g0 : Nat → Int32 → jH → Option (Int32 × jH)) (hg0 : ∀ (b0 : Nat) (b1 : Int32) (h : jH) (r : (Int32 × jH)), g0 b0 b1 h = some r → jC G l mX3_readCondition D9 0 0 [.ref b0, .int b1] h (jPW r)) (g1 : Nat → Int32 → jH → Option (Int32 × jH)) (hg1 : ∀ (b0 : Nat) (b1 : Int32) (h : jH) (r : (Int32 × jH)), g1 b0 b1 h = some r → jC G l mX3_readAtom D9 0 0 [.ref b0, .int b1] h (jPW r)) (E : jEnd G mX3_readAtom (jPW res) X) (a0 : Nat) (x1 : Int32) (x2 : Int32) (h : jH) (hf : F_X3_readAtom_20 n g0 g1 a0 x1 x2 h = some res) : jJ G X h 0 0 20 [some (.ref a0), some (.int x1), some (.int x2), none] [] := by
  unfold F_X3_readAtom_20 at hf
  refine jr_iload_n K (D_at DX3_readAtom_q0 10 rfl) rfl rfl ?_
  refine jr_bipush K (D_at DX3_readAtom_q0 11 rfl) (v := (6 : Int32)) (by decide) ?_
  refine jr_icmp_lt K (D_at DX3_readAtom_q1 0 rfl) (tgt := 28) (by decide) (fun c23 => ?_) (fun c23 => ?_)
  · replace hf := (if_pos c23).symm.trans hf
    refine jr_keep [true, true, true, false] ?_
    exact J_X3_readAtom_28 hD9 K n g0 hg0 g1 hg1 E a0 x1 x2 h hf
  · replace hf := (if_neg c23).symm.trans hf
    refine jr_iconst K (D_at DX3_readAtom_q1 1 rfl) (v := (0 : Int32)) (by decide) ?_
    cases hf
    exact jr_zret K E (D_at DX3_readAtom_q1 2 rfl) rfl (Or.inl rfl) ⟨rfl, rfl⟩
set_option maxHeartbeats 400000 in
set_option maxRecDepth 100000 in
theorem J_X3_readAtom {G : jG} {l : Launch} {D9 : Nat} (hD9 : 3 ≤ D9) {X : jX} {res : (Int32 × jH)} (K : jOK G l mX3_readAtom (D9 + 1) X) (n : Nat) (g0 : Nat → Int32 → jH → Option (Int32 × jH)) (hg0 : ∀ (b0 : Nat) (b1 : Int32) (h : jH) (r : (Int32 × jH)), g0 b0 b1 h = some r → jC G l mX3_readCondition D9 0 0 [.ref b0, .int b1] h (jPW r)) (g1 : Nat → Int32 → jH → Option (Int32 × jH)) (hg1 : ∀ (b0 : Nat) (b1 : Int32) (h : jH) (r : (Int32 × jH)), g1 b0 b1 h = some r → jC G l mX3_readAtom D9 0 0 [.ref b0, .int b1] h (jPW r)) (E : jEnd G mX3_readAtom (jPW res) X) (a0 : Nat) (x1 : Int32) (h : jH) (hf : F_X3_readAtom n g0 g1 a0 x1 h = some res) : jJ G X h 0 0 0 [some (.ref a0), some (.int x1), none, none] [] := by
  unfold F_X3_readAtom at hf
  refine jr_aload_n K (D_at DX3_readAtom_q0 0 rfl) rfl rfl ?_
  obtain ⟨p1, e1, hf⟩ := jbind hf
  refine jr_getR K (D_at DX3_readAtom_q0 1 rfl) fg_X3_17_3 e1 ?_
  obtain ⟨v4, e4, hf⟩ := jbind hf
  obtain ⟨rc_4, e4⟩ := jcv_o e4
  refine jr_callV K (jC_le (k := 0) (Nat.le_trans (by decide) hD9) (fun d => C_X10_kind d e4)) (D_at DX3_readAtom_q0 2 rfl) cv_X3_21_X10_kind (As := []) (ci := 8) rfl rc_4 rfl rfl (by exact Nat.le_of_ble_eq_true rfl) (kc2 := 0) (ks2 := 0) rfl rfl (fun k9 h9 w9 => by cases w9.1) (fun r9 h9 w9 => ?_)
  obtain ⟨w1, w2⟩ := w9
  subst h9
  cases w1
  show jJ G X _ 0 0 _ _ (.int v4 :: _)
  refine jr_istore_n K (D_at DX3_readAtom_q0 3 rfl) (i := 2) rfl (by decide) (L2 := [_, _, _, _]) rfl ?_
  refine jr_iload_n K (D_at DX3_readAtom_q0 4 rfl) rfl rfl ?_
  refine jr_bipush K (D_at DX3_readAtom_q0 5 rfl) (v := (11 : Int32)) (by decide) ?_
  refine jr_icmp_eq K (D_at DX3_readAtom_q0 6 rfl) (tgt := 20) (by decide) (fun c11 => ?_) (fun c11 => ?_)
  · replace hf := (if_pos c11).symm.trans hf
    refine jr_keep [true, true, true, false] ?_
    exact J_X3_readAtom_20 hD9 K n g0 hg0 g1 hg1 E a0 x1 v4 h hf
  · replace hf := (if_neg c11).symm.trans hf
    refine jr_iload_n K (D_at DX3_readAtom_q0 7 rfl) rfl rfl ?_
    refine jr_bipush K (D_at DX3_readAtom_q0 8 rfl) (v := (40 : Int32)) (by decide) ?_
    refine jr_icmp_ne K (D_at DX3_readAtom_q0 9 rfl) (tgt := 28) (by decide) (fun c17 => ?_) (fun c17 => ?_)
    · replace hf := (if_neg c17).symm.trans hf
      refine jr_keep [true, true, true, false] ?_
      exact J_X3_readAtom_28 hD9 K n g0 hg0 g1 hg1 E a0 x1 v4 h hf
    · replace hf := (if_pos c17).symm.trans hf
      refine jr_keep [true, true, true, false] ?_
      exact J_X3_readAtom_20 hD9 K n g0 hg0 g1 hg1 E a0 x1 v4 h hf
theorem C_X3_readAtom {G : jG} {l : Launch} {D9 n : Nat} (hD9 : 3 ≤ D9) {g0 : Nat → Int32 → jH → Option (Int32 × jH)} (hg0 : ∀ (b0 : Nat) (b1 : Int32) (h : jH) (r : (Int32 × jH)), g0 b0 b1 h = some r → jC G l mX3_readCondition D9 0 0 [.ref b0, .int b1] h (jPW r)) {g1 : Nat → Int32 → jH → Option (Int32 × jH)} (hg1 : ∀ (b0 : Nat) (b1 : Int32) (h : jH) (r : (Int32 × jH)), g1 b0 b1 h = some r → jC G l mX3_readAtom D9 0 0 [.ref b0, .int b1] h (jPW r)) {a0 : Nat} {x1 : Int32} {h : jH} {res : (Int32 × jH)} (hf : F_X3_readAtom n g0 g1 a0 x1 h = some res) : jC G l mX3_readAtom (D9 + 1) 0 0 [.ref a0, .int x1] h (jPW res) :=
  jC.of pn_X3 (jcats rfl) (Nat.le_of_ble_eq_true rfl) (fun X K E => J_X3_readAtom hD9 K n g0 hg0 g1 hg1 E a0 x1 h hf)
theorem CG_RC {G : jG} {l : Launch} {n : Nat} {D : Nat} (hD : 3 ≤ D) (i : Nat) : (∀ (b0 : Nat) (b1 : Int32) (h : jH) (r : (Int32 × jH)), FG_RC n i 0 b0 b1 h = some r → jC G l mX3_readCondition (D + i) 0 0 [.ref b0, .int b1] h (jPW r)) ∧ (∀ (b0 : Nat) (b1 : Int32) (h : jH) (r : (Int32 × jH)), FG_RC n i 1 b0 b1 h = some r → jC G l mX3_readAtom (D + i) 0 0 [.ref b0, .int b1] h (jPW r)) := by
  induction i with
  | zero =>
    refine ⟨?_, ?_⟩ <;> intro b0 b1 h r hf <;> exact jno (show (none : Option (Int32 × jH)) = some r from hf)
  | succ i ih =>
    obtain ⟨ih0, ih1⟩ := ih
    refine ⟨?_, ?_⟩
    · intro b0 b1 h r hf
      exact C_X3_readCondition (D9 := D + i) (by omega) ih0 ih1 hf
    · intro b0 b1 h r hf
      exact C_X3_readAtom (D9 := D + i) (by omega) ih0 ih1 hf
theorem CG_RC_0 {G : jG} {l : Launch} {n : Nat} (d i : Nat) {b0 : Nat} {b1 : Int32} {h : jH} {r : (Int32 × jH)} (hf : FG_RC n i 0 b0 b1 h = some r) : jC G l mX3_readCondition (d + (3 + i)) 0 0 [.ref b0, .int b1] h (jPW r) := by
  have := (CG_RC (G := G) (l := l) (n := n) (D := d + 3) (Nat.le_add_left _ _) i).1 b0 b1 h r hf
  rwa [Nat.add_assoc] at this
theorem CG_RC_1 {G : jG} {l : Launch} {n : Nat} (d i : Nat) {b0 : Nat} {b1 : Int32} {h : jH} {r : (Int32 × jH)} (hf : FG_RC n i 1 b0 b1 h = some r) : jC G l mX3_readAtom (d + (3 + i)) 0 0 [.ref b0, .int b1] h (jPW r) := by
  have := (CG_RC (G := G) (l := l) (n := n) (D := d + 3) (Nat.le_add_left _ _) i).2 b0 b1 h r hf
  rwa [Nat.add_assoc] at this
set_option maxHeartbeats 400000 in
set_option maxRecDepth 100000 in
theorem J_X3_readLine_76 {G : jG} {l : Launch} {d : Nat} {X : jX} {res : (Int32 × jH)} (K : jOK G l mX3_readLine (d + 24) X) (n : Nat) (E : jEnd G mX3_readLine (jPW res) X) (a0 : Nat) (x2 : Int32) (sa0 : Nat) (s1 : Int32) (h : jH) (hf : F_X3_readLine_76 n a0 x2 sa0 s1 h = some res) : jJ G X h 0 0 76 [some (.ref a0), none, some (.int x2)] [.int s1, .ref sa0] := by
  unfold F_X3_readLine_76 at hf
  refine jr_iload_n K (D_at DX3_readLine_q3 6 rfl) rfl rfl ?_
  obtain ⟨h77, e77, hf⟩ := jbind hf
  obtain ⟨rc_77, e77⟩ := jcv_o e77
  refine jr_callV K (C_X2_addLine (d + 23) e77) (D_at DX3_readLine_q3 7 rfl) cv_X3_35_X2_addLine (As := [.int s1, .int x2]) (ci := 2) rfl rc_77 rfl rfl (by exact Nat.le_of_ble_eq_true rfl) (kc2 := 0) (ks2 := 0) rfl rfl (fun k9 h9 w9 => by cases w9.1) (fun r9 h9 w9 => ?_)
  obtain ⟨w1, w2⟩ := w9
  subst h9
  cases w1
  show jJ G X _ 0 0 _ _ []
  refine jr_aload_n K (D_at DX3_readLine_q3 8 rfl) rfl rfl ?_
  obtain ⟨p81, e81, hf⟩ := jbind hf
  refine jr_getR K (D_at DX3_readLine_q3 9 rfl) fg_X3_17_3 e81 ?_
  refine jr_bipush K (D_at DX3_readLine_q3 10 rfl) (v := (14 : Int32)) (by decide) ?_
  obtain ⟨q86, e86, hf⟩ := jbind hf
  obtain ⟨rc_86, e86⟩ := jcv_o e86
  refine jr_callV K (C_X10_take (d + 23) e86) (D_at DX3_readLine_q3 11 rfl) cv_X3_39_X10_take (As := [.int (14 : Int32)]) (ci := 8) rfl rc_86 rfl rfl (by exact Nat.le_of_ble_eq_true rfl) (kc2 := 0) (ks2 := 0) rfl rfl (fun k9 h9 w9 => by cases w9.1) (fun r9 h9 w9 => ?_)
  obtain ⟨w1, w2⟩ := w9
  subst h9
  cases w1
  show jJ G X _ 0 0 _ _ (.int q86.1 :: _)
  refine jr_if_eq K (D_at DX3_readLine_q4 0 rfl) (tgt := 100) (by decide) (fun c89 => ?_) (fun c89 => ?_)
  · replace hf := (if_pos c89).symm.trans hf
    refine jr_iconst K (D_at DX3_readLine_q4 5 rfl) (v := (1 : Int32)) (by decide) ?_
    refine jr_goto K (D_at DX3_readLine_q4 6 rfl) (tgt := 105) (by decide) ?_
    cases hf
    exact jr_zret K E (D_at DX3_readLine_q4 8 rfl) rfl (Or.inr rfl) ⟨rfl, rfl⟩
  · replace hf := (if_neg c89).symm.trans hf
    refine jr_aload_n K (D_at DX3_readLine_q4 1 rfl) rfl rfl ?_
    refine jr_iconst K (D_at DX3_readLine_q4 2 rfl) (v := (0 : Int32)) (by decide) ?_
    obtain ⟨q94, e94, hf⟩ := jbind hf
    obtain ⟨rc_94, e94⟩ := jcv_o e94
    refine jr_callV K (CG_RC_0 (d + 0) 20 e94) (D_at DX3_readLine_q4 3 rfl) cv_X3_43_X3_readCondition (As := [.int (0 : Int32)]) (ci := 3) rfl rc_94 rfl rfl (by exact Nat.le_of_ble_eq_true rfl) (kc2 := 0) (ks2 := 0) rfl rfl (fun k9 h9 w9 => by cases w9.1) (fun r9 h9 w9 => ?_)
    obtain ⟨w1, w2⟩ := w9
    subst h9
    cases w1
    show jJ G X _ 0 0 _ _ (.int q94.1 :: _)
    refine jr_if_eq K (D_at DX3_readLine_q4 4 rfl) (tgt := 104) (by decide) (fun c97 => ?_) (fun c97 => ?_)
    · replace hf := (if_pos c97).symm.trans hf
      refine jr_iconst K (D_at DX3_readLine_q4 7 rfl) (v := (0 : Int32)) (by decide) ?_
      cases hf
      exact jr_zret K E (D_at DX3_readLine_q4 8 rfl) rfl (Or.inl rfl) ⟨rfl, rfl⟩
    · replace hf := (if_neg c97).symm.trans hf
      refine jr_iconst K (D_at DX3_readLine_q4 5 rfl) (v := (1 : Int32)) (by decide) ?_
      refine jr_goto K (D_at DX3_readLine_q4 6 rfl) (tgt := 105) (by decide) ?_
      cases hf
      exact jr_zret K E (D_at DX3_readLine_q4 8 rfl) rfl (Or.inr rfl) ⟨rfl, rfl⟩
set_option maxHeartbeats 400000 in
set_option maxRecDepth 100000 in
theorem J_X3_readLine_27 {G : jG} {l : Launch} {d : Nat} {X : jX} {res : (Int32 × jH)} (K : jOK G l mX3_readLine (d + 24) X) (n : Nat) (E : jEnd G mX3_readLine (jPW res) X) (a0 : Nat) (x1 : Int32) (h : jH) (hf : F_X3_readLine_27 n a0 x1 h = some res) : jJ G X h 0 0 27 [some (.ref a0), some (.int x1), none] [] := by
  unfold F_X3_readLine_27 at hf
  refine jr_aload_n K (D_at DX3_readLine_q1 3 rfl) rfl rfl ?_
  obtain ⟨p28, e28, hf⟩ := jbind hf
  refine jr_getR K (D_at DX3_readLine_q1 4 rfl) fg_X3_17_3 e28 ?_
  obtain ⟨h31, e31, hf⟩ := jbind hf
  obtain ⟨rc_31, e31⟩ := jcv_o e31
  refine jr_callV K (C_X10_skip (d + 23) e31) (D_at DX3_readLine_q1 5 rfl) cv_X3_27_X10_skip (As := []) (ci := 8) rfl rc_31 rfl rfl (by exact Nat.le_of_ble_eq_true rfl) (kc2 := 0) (ks2 := 0) rfl rfl (fun k9 h9 w9 => by cases w9.1) (fun r9 h9 w9 => ?_)
  obtain ⟨w1, w2⟩ := w9
  subst h9
  cases w1
  show jJ G X _ 0 0 _ _ []
  refine jr_aload_n K (D_at DX3_readLine_q1 6 rfl) rfl rfl ?_
  obtain ⟨p35, e35, hf⟩ := jbind hf
  refine jr_getR K (D_at DX3_readLine_q1 7 rfl) fg_X3_17_3 e35 ?_
  refine jr_iconst K (D_at DX3_readLine_q1 8 rfl) (v := (0 : Int32)) (by decide) ?_
  refine jr_bipush K (D_at DX3_readLine_q1 9 rfl) (v := (100 : Int32)) (by decide) ?_
  obtain ⟨q41, e41, hf⟩ := jbind hf
  obtain ⟨rc_41, e41⟩ := jcv_o e41
  refine jr_callV K (C_X10_takeNumber (d + 23) e41) (D_at DX3_readLine_q1 10 rfl) cv_X3_31_X10_takeNumber (As := [.int (0 : Int32), .int (100 : Int32)]) (ci := 8) rfl rc_41 rfl rfl (by exact Nat.le_of_ble_eq_true rfl) (kc2 := 0) (ks2 := 0) rfl rfl (fun k9 h9 w9 => by cases w9.1) (fun r9 h9 w9 => ?_)
  obtain ⟨w1, w2⟩ := w9
  subst h9
  cases w1
  show jJ G X _ 0 0 _ _ (.int q41.1 :: _)
  refine jr_istore_n K (D_at DX3_readLine_q1 11 rfl) (i := 2) rfl (by decide) (L2 := [_, _, _]) rfl ?_
  refine jr_iload_n K (D_at DX3_readLine_q2 0 rfl) rfl rfl ?_
  refine jr_iconst K (D_at DX3_readLine_q2 1 rfl) (v := (-1 : Int32)) (by decide) ?_
  refine jr_icmp_ne K (D_at DX3_readLine_q2 2 rfl) (tgt := 52) (by decide) (fun c47 => ?_) (fun c47 => ?_)
  · replace hf := (if_neg c47).symm.trans hf
    refine jr_aload_n K (D_at DX3_readLine_q2 5 rfl) rfl rfl ?_
    obtain ⟨p53, e53, hf⟩ := jbind hf
    refine jr_getR K (D_at DX3_readLine_q2 6 rfl) fg_X3_11_3 e53 ?_
    refine jr_iload_n K (D_at DX3_readLine_q2 7 rfl) rfl rfl ?_
    refine jr_iconst K (D_at DX3_readLine_q2 8 rfl) (v := (3 : Int32)) (by decide) ?_
    refine jr_icmp_ne K (D_at DX3_readLine_q2 9 rfl) (tgt := 65) (by decide) (fun c58 => ?_) (fun c58 => ?_)
    · replace hf := (if_neg c58).symm.trans hf
      refine jr_iload_n K (D_at DX3_readLine_q3 0 rfl) rfl rfl ?_
      refine jr_bipush K (D_at DX3_readLine_q3 1 rfl) (v := (15 : Int32)) (by decide) ?_
      refine jr_icmp_ne K (D_at DX3_readLine_q3 2 rfl) (tgt := 75) (by decide) (fun c68 => ?_) (fun c68 => ?_)
      · replace hf := (if_neg c68).symm.trans hf
        refine jr_iconst K (D_at DX3_readLine_q3 5 rfl) (v := (2 : Int32)) (by decide) ?_
        refine jr_keep [true, false, true] ?_
        exact J_X3_readLine_76 K n E a0 q41.1 p53 (2 : Int32) q41.2 hf
      · replace hf := (if_pos c68).symm.trans hf
        refine jr_iconst K (D_at DX3_readLine_q3 3 rfl) (v := (1 : Int32)) (by decide) ?_
        refine jr_goto K (D_at DX3_readLine_q3 4 rfl) (tgt := 76) (by decide) ?_
        refine jr_keep [true, false, true] ?_
        exact J_X3_readLine_76 K n E a0 q41.1 p53 (1 : Int32) q41.2 hf
    · replace hf := (if_pos c58).symm.trans hf
      refine jr_iconst K (D_at DX3_readLine_q2 10 rfl) (v := (0 : Int32)) (by decide) ?_
      refine jr_goto K (D_at DX3_readLine_q2 11 rfl) (tgt := 76) (by decide) ?_
      refine jr_keep [true, false, true] ?_
      exact J_X3_readLine_76 K n E a0 q41.1 p53 (0 : Int32) q41.2 hf
  · replace hf := (if_pos c47).symm.trans hf
    refine jr_iconst K (D_at DX3_readLine_q2 3 rfl) (v := (0 : Int32)) (by decide) ?_
    cases hf
    exact jr_zret K E (D_at DX3_readLine_q2 4 rfl) rfl (Or.inl rfl) ⟨rfl, rfl⟩
set_option maxHeartbeats 400000 in
set_option maxRecDepth 100000 in
theorem J_X3_readLine {G : jG} {l : Launch} {d : Nat} {X : jX} {res : (Int32 × jH)} (K : jOK G l mX3_readLine (d + 24) X) (n : Nat) (E : jEnd G mX3_readLine (jPW res) X) (a0 : Nat) (h : jH) (hf : F_X3_readLine n a0 h = some res) : jJ G X h 0 0 0 [some (.ref a0), none, none] [] := by
  unfold F_X3_readLine at hf
  refine jr_aload_n K (D_at DX3_readLine_q0 0 rfl) rfl rfl ?_
  obtain ⟨p1, e1, hf⟩ := jbind hf
  refine jr_getR K (D_at DX3_readLine_q0 1 rfl) fg_X3_17_3 e1 ?_
  obtain ⟨v4, e4, hf⟩ := jbind hf
  obtain ⟨rc_4, e4⟩ := jcv_o e4
  refine jr_callV K (C_X10_kind (d + 23) e4) (D_at DX3_readLine_q0 2 rfl) cv_X3_21_X10_kind (As := []) (ci := 8) rfl rc_4 rfl rfl (by exact Nat.le_of_ble_eq_true rfl) (kc2 := 0) (ks2 := 0) rfl rfl (fun k9 h9 w9 => by cases w9.1) (fun r9 h9 w9 => ?_)
  obtain ⟨w1, w2⟩ := w9
  subst h9
  cases w1
  show jJ G X _ 0 0 _ _ (.int v4 :: _)
  refine jr_istore_n K (D_at DX3_readLine_q0 3 rfl) (i := 1) rfl (by decide) (L2 := [_, _, _]) rfl ?_
  refine jr_iload_n K (D_at DX3_readLine_q0 4 rfl) rfl rfl ?_
  refine jr_iconst K (D_at DX3_readLine_q0 5 rfl) (v := (3 : Int32)) (by decide) ?_
  refine jr_icmp_eq K (D_at DX3_readLine_q0 6 rfl) (tgt := 27) (by decide) (fun c10 => ?_) (fun c10 => ?_)
  · replace hf := (if_pos c10).symm.trans hf
    refine jr_keep [true, true, false] ?_
    exact J_X3_readLine_27 K n E a0 v4 h hf
  · replace hf := (if_neg c10).symm.trans hf
    refine jr_iload_n K (D_at DX3_readLine_q0 7 rfl) rfl rfl ?_
    refine jr_bipush K (D_at DX3_readLine_q0 8 rfl) (v := (15 : Int32)) (by decide) ?_
    refine jr_icmp_eq K (D_at DX3_readLine_q0 9 rfl) (tgt := 27) (by decide) (fun c16 => ?_) (fun c16 => ?_)
    · replace hf := (if_pos c16).symm.trans hf
      refine jr_keep [true, true, false] ?_
      exact J_X3_readLine_27 K n E a0 v4 h hf
    · replace hf := (if_neg c16).symm.trans hf
      refine jr_iload_n K (D_at DX3_readLine_q0 10 rfl) rfl rfl ?_
      refine jr_bipush K (D_at DX3_readLine_q0 11 rfl) (v := (16 : Int32)) (by decide) ?_
      refine jr_icmp_eq K (D_at DX3_readLine_q1 0 rfl) (tgt := 27) (by decide) (fun c22 => ?_) (fun c22 => ?_)
      · replace hf := (if_pos c22).symm.trans hf
        refine jr_keep [true, true, false] ?_
        exact J_X3_readLine_27 K n E a0 v4 h hf
      · replace hf := (if_neg c22).symm.trans hf
        refine jr_iconst K (D_at DX3_readLine_q1 1 rfl) (v := (0 : Int32)) (by decide) ?_
        cases hf
        exact jr_zret K E (D_at DX3_readLine_q1 2 rfl) rfl (Or.inl rfl) ⟨rfl, rfl⟩
theorem C_X3_readLine {G : jG} {l : Launch} (d : Nat) {n : Nat} {a0 : Nat} {h : jH} {res : (Int32 × jH)} (hf : F_X3_readLine n a0 h = some res) : jC G l mX3_readLine (d + 24) 0 0 [.ref a0] h (jPW res) :=
  jC.of pn_X3 (jcats rfl) (Nat.le_of_ble_eq_true rfl) (fun X K E => J_X3_readLine K n E a0 h hf)
set_option maxHeartbeats 400000 in
set_option maxRecDepth 100000 in
theorem J_J9_floorMod_7cf53 {G : jG} {l : Launch} {d : Nat} {X : jX} {res : Int32} (K : jOK G l mJ9_floorMod_7cf53 (d) X) (n : Nat) (h : jH) (E : jEnd G mJ9_floorMod_7cf53 (jPR h res) X) (x0 : Int32) (x1 : Int32) (hf : F_J9_floorMod_7cf53 n x0 x1 h = some res) : jJ G X h 0 0 0 [some (.int x0), some (.int x1), none] [] := by
  unfold F_J9_floorMod_7cf53 at hf
  refine jr_iload_n K (D_at DJ9_floorMod_7cf53_q0 0 rfl) rfl rfl ?_
  refine jr_iload_n K (D_at DJ9_floorMod_7cf53_q0 1 rfl) rfl rfl ?_
  by_cases c2 : x1 = 0
  · exact jno (show (none : Option Int32) = some res from (if_pos c2).symm.trans hf)
  replace hf := (if_neg c2).symm.trans hf
  refine jr_irem K (D_at DJ9_floorMod_7cf53_q0 2 rfl) c2 ?_
  refine jr_istore_n K (D_at DJ9_floorMod_7cf53_q0 3 rfl) (i := 2) rfl (by decide) (L2 := [_, _, _]) rfl ?_
  refine jr_iload_n K (D_at DJ9_floorMod_7cf53_q0 4 rfl) rfl rfl ?_
  refine jr_iload_n K (D_at DJ9_floorMod_7cf53_q0 5 rfl) rfl rfl ?_
  refine jr_ixor K (D_at DJ9_floorMod_7cf53_q0 6 rfl) ?_
  refine jr_if_ge K (D_at DJ9_floorMod_7cf53_q0 7 rfl) (tgt := 18) (by decide) (fun c7 => ?_) (fun c7 => ?_)
  · replace hf := (if_pos c7).symm.trans hf
    refine jr_iload_n K (D_at DJ9_floorMod_7cf53_q1 2 rfl) rfl rfl ?_
    cases hf
    exact jr_iret K E (D_at DJ9_floorMod_7cf53_q1 3 rfl) rfl ⟨rfl, rfl⟩
  · replace hf := (if_neg c7).symm.trans hf
    refine jr_iload_n K (D_at DJ9_floorMod_7cf53_q0 8 rfl) rfl rfl ?_
    refine jr_if_eq K (D_at DJ9_floorMod_7cf53_q0 9 rfl) (tgt := 18) (by decide) (fun c11 => ?_) (fun c11 => ?_)
    · replace hf := (if_pos c11).symm.trans hf
      refine jr_iload_n K (D_at DJ9_floorMod_7cf53_q1 2 rfl) rfl rfl ?_
      cases hf
      exact jr_iret K E (D_at DJ9_floorMod_7cf53_q1 3 rfl) rfl ⟨rfl, rfl⟩
    · replace hf := (if_neg c11).symm.trans hf
      refine jr_iload_n K (D_at DJ9_floorMod_7cf53_q0 10 rfl) rfl rfl ?_
      refine jr_iload_n K (D_at DJ9_floorMod_7cf53_q0 11 rfl) rfl rfl ?_
      refine jr_iadd K (D_at DJ9_floorMod_7cf53_q1 0 rfl) ?_
      cases hf
      exact jr_iret K E (D_at DJ9_floorMod_7cf53_q1 1 rfl) rfl ⟨rfl, rfl⟩
theorem C_J9_floorMod_7cf53 {G : jG} {l : Launch} (d : Nat) {n : Nat} {x0 : Int32} {x1 : Int32} {h : jH} {res : Int32} (hf : F_J9_floorMod_7cf53 n x0 x1 h = some res) : jC G l mJ9_floorMod_7cf53 (d) 0 0 [.int x0, .int x1] h (jPR h res) :=
  jC.ofF (by decide +kernel) (jcats rfl) (Nat.le_of_ble_eq_true rfl) (fun X K E => J_J9_floorMod_7cf53 K n h E x0 x1 hf)
set_option maxHeartbeats 400000 in
set_option maxRecDepth 100000 in
theorem J_X5_read {G : jG} {l : Launch} {d : Nat} {X : jX} {res : Int32} (K : jOK G l mX5_read (d + 1) X) (n : Nat) (h : jH) (E : jEnd G mX5_read (jPR h res) X) (a0 : Nat) (x1 : Int32) (x2 : Int32) (hf : F_X5_read n a0 x1 x2 h = some res) : jJ G X h 0 0 0 [some (.ref a0), some (.int x1), some (.int x2), none] [] := by
  unfold F_X5_read at hf
  refine jr_iload_n K (D_at DX5_read_q0 0 rfl) rfl rfl ?_
  refine jr_if_lt K (D_at DX5_read_q0 1 rfl) (tgt := 22) (by decide) (fun c1 => ?_) (fun c1 => ?_)
  · replace hf := (if_pos c1).symm.trans hf
    refine jr_iconst K (D_at DX5_read_q0 11 rfl) (v := (-1 : Int32)) (by decide) ?_
    cases hf
    exact jr_iret K E (D_at DX5_read_q1 0 rfl) rfl ⟨rfl, rfl⟩
  · replace hf := (if_neg c1).symm.trans hf
    refine jr_iload_n K (D_at DX5_read_q0 2 rfl) rfl rfl ?_
    refine jr_aload_n K (D_at DX5_read_q0 3 rfl) rfl rfl ?_
    obtain ⟨v6, e6, hf⟩ := jbind hf
    refine jr_getI K (D_at DX5_read_q0 4 rfl) fg_X5_21_4 e6 ?_
    refine jr_icmp_ge K (D_at DX5_read_q0 5 rfl) (tgt := 22) (by decide) (fun c9 => ?_) (fun c9 => ?_)
    · replace hf := (if_pos c9).symm.trans hf
      refine jr_iconst K (D_at DX5_read_q0 11 rfl) (v := (-1 : Int32)) (by decide) ?_
      cases hf
      exact jr_iret K E (D_at DX5_read_q1 0 rfl) rfl ⟨rfl, rfl⟩
    · replace hf := (if_neg c9).symm.trans hf
      refine jr_iload_n K (D_at DX5_read_q0 6 rfl) rfl rfl ?_
      refine jr_if_lt K (D_at DX5_read_q0 7 rfl) (tgt := 22) (by decide) (fun c13 => ?_) (fun c13 => ?_)
      · replace hf := (if_pos c13).symm.trans hf
        refine jr_iconst K (D_at DX5_read_q0 11 rfl) (v := (-1 : Int32)) (by decide) ?_
        cases hf
        exact jr_iret K E (D_at DX5_read_q1 0 rfl) rfl ⟨rfl, rfl⟩
      · replace hf := (if_neg c13).symm.trans hf
        refine jr_iload_n K (D_at DX5_read_q0 8 rfl) rfl rfl ?_
        refine jr_bipush K (D_at DX5_read_q0 9 rfl) (v := (6 : Int32)) (by decide) ?_
        refine jr_icmp_lt K (D_at DX5_read_q0 10 rfl) (tgt := 24) (by decide) (fun c19 => ?_) (fun c19 => ?_)
        · replace hf := (if_pos c19).symm.trans hf
          refine jr_aload_n K (D_at DX5_read_q1 1 rfl) rfl rfl ?_
          obtain ⟨p25, e25, hf⟩ := jbind hf
          refine jr_getR K (D_at DX5_read_q1 2 rfl) fg_X5_11_4 e25 ?_
          refine jr_aload_n K (D_at DX5_read_q1 3 rfl) rfl rfl ?_
          obtain ⟨v29, e29, hf⟩ := jbind hf
          refine jr_getI K (D_at DX5_read_q1 4 rfl) fg_X5_25_4 e29 ?_
          refine jr_iconst K (D_at DX5_read_q1 5 rfl) (v := (1 : Int32)) (by decide) ?_
          refine jr_isub K (D_at DX5_read_q1 6 rfl) ?_
          refine jr_iload_n K (D_at DX5_read_q1 7 rfl) rfl rfl ?_
          refine jr_isub K (D_at DX5_read_q1 8 rfl) ?_
          refine jr_bipush K (D_at DX5_read_q1 9 rfl) (v := (60 : Int32)) (by decide) ?_
          obtain ⟨v38, e38, hf⟩ := jbind hf
          refine jr_callS K (C_J9_floorMod_7cf53 (d) e38) (D_at DX5_read_q1 10 rfl) cs_X5_48_J9_floorMod_7cf53 (As := [.int ((v29 - (1 : Int32)) - x1), .int (60 : Int32)]) rfl rfl (by exact Nat.le_of_ble_eq_true rfl) (kc2 := 0) (ks2 := 0) rfl rfl (fun k9 h9 w9 => by cases w9.1) (fun r9 h9 w9 => ?_)
          obtain ⟨w1, w2⟩ := w9
          subst h9
          cases w1
          show jJ G X _ 0 0 _ _ (.int v38 :: _)
          obtain ⟨v41, e41, hf⟩ := jbind hf
          refine jr_iald K (D_at DX5_read_q1 11 rfl) e41 ?_
          refine jr_istore_n K (D_at DX5_read_q2 0 rfl) (i := 3) rfl (by decide) (L2 := [_, _, _, _]) rfl ?_
          refine jr_iload_n K (D_at DX5_read_q2 1 rfl) rfl rfl ?_
          refine jr_shf K (D_at DX5_read_q2 2 rfl) st_X5_33 ?_
          refine jr_iload_n K (D_at DX5_read_q2 3 rfl) rfl rfl ?_
          by_cases c48 : x2 < 0 ∨ 6 ≤ x2.toNatClampNeg
          · exact jno (show (none : Option Int32) = some res from (if_pos c48).symm.trans hf)
          replace hf := (if_neg c48).symm.trans hf
          refine jr_stald (f := fun j => jshf.getD j 0) (n := 6) K jT_shf (D_at DX5_read_q2 4 rfl) c48 ?_
          refine jr_iushr K (D_at DX5_read_q2 5 rfl) (v := jushr v41 (jshf.getD x2.toNatClampNeg 0)) rfl ?_
          refine jr_msk K (D_at DX5_read_q2 6 rfl) st_X5_51 ?_
          refine jr_iload_n K (D_at DX5_read_q2 7 rfl) rfl rfl ?_
          by_cases c54 : x2 < 0 ∨ 6 ≤ x2.toNatClampNeg
          · exact jno (show (none : Option Int32) = some res from (if_pos c54).symm.trans hf)
          replace hf := (if_neg c54).symm.trans hf
          refine jr_stald (f := fun j => jmsk.getD j 0) (n := 6) K jT_msk (D_at DX5_read_q2 8 rfl) c54 ?_
          refine jr_iand K (D_at DX5_read_q2 9 rfl) ?_
          cases hf
          exact jr_iret K E (D_at DX5_read_q2 10 rfl) rfl ⟨rfl, rfl⟩
        · replace hf := (if_neg c19).symm.trans hf
          refine jr_iconst K (D_at DX5_read_q0 11 rfl) (v := (-1 : Int32)) (by decide) ?_
          cases hf
          exact jr_iret K E (D_at DX5_read_q1 0 rfl) rfl ⟨rfl, rfl⟩
theorem C_X5_read {G : jG} {l : Launch} (d : Nat) {n : Nat} {a0 : Nat} {x1 : Int32} {x2 : Int32} {h : jH} {res : Int32} (hf : F_X5_read n a0 x1 x2 h = some res) : jC G l mX5_read (d + 1) 0 0 [.ref a0, .int x1, .int x2] h (jPR h res) :=
  jC.of pn_X5 (jcats rfl) (Nat.le_of_ble_eq_true rfl) (fun X K E => J_X5_read K n h E a0 x1 x2 hf)
set_option maxHeartbeats 400000 in
set_option maxRecDepth 100000 in
theorem J_X5_rowsOf_4_b {G : jG} {l : Launch} {d : Nat} {X : jX} {res : Int32} (K : jOK G l mX5_rowsOf (d + 2) X) (n : Nat) (h : jH) (rc4 : Nat → Int32 → Int32 → Int32 → jH → Option Int32) (hr4 : ∀ (a0 : Nat) (x1 : Int32) (x2 : Int32) (x3 : Int32), rc4 a0 x1 x2 x3 h = some res → jJ G X h 0 0 4 [some (.ref a0), some (.int x1), some (.int x2), some (.int x3)] []) (E : jEnd G mX5_rowsOf (jPR h res) X) (a0 : Nat) (x1 : Int32) (x2 : Int32) (x3 : Int32) (hf : F_X5_rowsOf_4_b n rc4 a0 x1 x2 x3 h = some res) : jJ G X h 0 0 4 [some (.ref a0), some (.int x1), some (.int x2), some (.int x3)] [] := by
  unfold F_X5_rowsOf_4_b at hf
  refine jr_iload_n K (D_at DX5_rowsOf_q0 4 rfl) rfl rfl ?_
  refine jr_aload_n K (D_at DX5_rowsOf_q0 5 rfl) rfl rfl ?_
  obtain ⟨v6, e6, hf⟩ := jbind hf
  refine jr_getI K (D_at DX5_rowsOf_q0 6 rfl) fg_X5_21_4 e6 ?_
  refine jr_icmp_ge K (D_at DX5_rowsOf_q0 7 rfl) (tgt := 31) (by decide) (fun c9 => ?_) (fun c9 => ?_)
  · replace hf := (if_pos c9).symm.trans hf
    refine jr_iload_n K (D_at DX5_rowsOf_q1 5 rfl) rfl rfl ?_
    cases hf
    exact jr_iret K E (D_at DX5_rowsOf_q1 6 rfl) rfl ⟨rfl, rfl⟩
  · replace hf := (if_neg c9).symm.trans hf
    refine jr_aload_n K (D_at DX5_rowsOf_q0 8 rfl) rfl rfl ?_
    refine jr_iload_n K (D_at DX5_rowsOf_q0 9 rfl) rfl rfl ?_
    refine jr_iconst K (D_at DX5_rowsOf_q0 10 rfl) (v := (2 : Int32)) (by decide) ?_
    obtain ⟨v15, e15, hf⟩ := jbind hf
    obtain ⟨rc_15, e15⟩ := jcv_o e15
    refine jr_callV K (C_X5_read (d) e15) (D_at DX5_rowsOf_q0 11 rfl) cv_X5_54_X5_read (As := [.int x3, .int (2 : Int32)]) (ci := 4) rfl rc_15 rfl rfl (by exact Nat.le_of_ble_eq_true rfl) (kc2 := 0) (ks2 := 0) rfl rfl (fun k9 h9 w9 => by cases w9.1) (fun r9 h9 w9 => ?_)
    obtain ⟨w1, w2⟩ := w9
    subst h9
    cases w1
    show jJ G X _ 0 0 _ _ (.int v15 :: _)
    refine jr_iload_n K (D_at DX5_rowsOf_q1 0 rfl) rfl rfl ?_
    refine jr_icmp_ne K (D_at DX5_rowsOf_q1 1 rfl) (tgt := 25) (by decide) (fun c19 => ?_) (fun c19 => ?_)
    · replace hf := (if_neg c19).symm.trans hf
      refine jr_iinc K (D_at DX5_rowsOf_q1 3 rfl) (i := 3) rfl (v := x3 + (1 : Int32)) (jinc (by decide)) (by decide) (L2 := [_, _, _, _]) rfl ?_
      refine jr_goto K (D_at DX5_rowsOf_q1 4 rfl) (tgt := 4) (by decide) ?_
      refine jr_keep [true, true, true, true] ?_
      exact hr4 a0 x1 x2 (x3 + (1 : Int32)) hf
    · replace hf := (if_pos c19).symm.trans hf
      refine jr_iinc K (D_at DX5_rowsOf_q1 2 rfl) (i := 2) rfl (v := x2 + (1 : Int32)) (jinc (by decide)) (by decide) (L2 := [_, _, _, _]) rfl ?_
      refine jr_iinc K (D_at DX5_rowsOf_q1 3 rfl) (i := 3) rfl (v := x3 + (1 : Int32)) (jinc (by decide)) (by decide) (L2 := [_, _, _, _]) rfl ?_
      refine jr_goto K (D_at DX5_rowsOf_q1 4 rfl) (tgt := 4) (by decide) ?_
      refine jr_keep [true, true, true, true] ?_
      exact hr4 a0 x1 (x2 + (1 : Int32)) (x3 + (1 : Int32)) hf
theorem J_X5_rowsOf_4 {G : jG} {l : Launch} {d : Nat} {X : jX} {res : Int32} (K : jOK G l mX5_rowsOf (d + 2) X) (n : Nat) (h : jH) (E : jEnd G mX5_rowsOf (jPR h res) X) (k : Nat) : ∀ (a0 : Nat) (x1 : Int32) (x2 : Int32) (x3 : Int32), F_X5_rowsOf_4 n k a0 x1 x2 x3 h = some res → jJ G X h 0 0 4 [some (.ref a0), some (.int x1), some (.int x2), some (.int x3)] [] := by
  induction k with
  | zero =>
    intro a0 x1 x2 x3 hf
    exact jno (show (none : Option Int32) = some res from hf)
  | succ k ih =>
    intro a0 x1 x2 x3 hf
    exact J_X5_rowsOf_4_b K n h (F_X5_rowsOf_4 n k) ih E a0 x1 x2 x3 hf
set_option maxHeartbeats 400000 in
set_option maxRecDepth 100000 in
theorem J_X5_rowsOf {G : jG} {l : Launch} {d : Nat} {X : jX} {res : Int32} (K : jOK G l mX5_rowsOf (d + 2) X) (n : Nat) (h : jH) (E : jEnd G mX5_rowsOf (jPR h res) X) (a0 : Nat) (x1 : Int32) (hf : F_X5_rowsOf n a0 x1 h = some res) : jJ G X h 0 0 0 [some (.ref a0), some (.int x1), none, none] [] := by
  unfold F_X5_rowsOf at hf
  refine jr_iconst K (D_at DX5_rowsOf_q0 0 rfl) (v := (0 : Int32)) (by decide) ?_
  refine jr_istore_n K (D_at DX5_rowsOf_q0 1 rfl) (i := 2) rfl (by decide) (L2 := [_, _, _, _]) rfl ?_
  refine jr_iconst K (D_at DX5_rowsOf_q0 2 rfl) (v := (0 : Int32)) (by decide) ?_
  refine jr_istore_n K (D_at DX5_rowsOf_q0 3 rfl) (i := 3) rfl (by decide) (L2 := [_, _, _, _]) rfl ?_
  refine jr_keep [true, true, true, true] ?_
  exact J_X5_rowsOf_4 K n h E n a0 x1 (0 : Int32) (0 : Int32) hf
theorem C_X5_rowsOf {G : jG} {l : Launch} (d : Nat) {n : Nat} {a0 : Nat} {x1 : Int32} {h : jH} {res : Int32} (hf : F_X5_rowsOf n a0 x1 h = some res) : jC G l mX5_rowsOf (d + 2) 0 0 [.ref a0, .int x1] h (jPR h res) :=
  jC.of pn_X5 (jcats rfl) (Nat.le_of_ble_eq_true rfl) (fun X K E => J_X5_rowsOf K n h E a0 x1 hf)
set_option maxHeartbeats 400000 in
set_option maxRecDepth 100000 in
theorem J_X5_latestPlace_2_b {G : jG} {l : Launch} {d : Nat} {X : jX} {res : Int32} (K : jOK G l mX5_latestPlace (d + 2) X) (n : Nat) (h : jH) (rc2 : Nat → Int32 → Int32 → jH → Option Int32) (hr2 : ∀ (a0 : Nat) (x1 : Int32) (x2 : Int32), rc2 a0 x1 x2 h = some res → jJ G X h 0 0 2 [some (.ref a0), some (.int x1), some (.int x2)] []) (E : jEnd G mX5_latestPlace (jPR h res) X) (a0 : Nat) (x1 : Int32) (x2 : Int32) (hf : F_X5_latestPlace_2_b n rc2 a0 x1 x2 h = some res) : jJ G X h 0 0 2 [some (.ref a0), some (.int x1), some (.int x2)] [] := by
  unfold F_X5_latestPlace_2_b at hf
  refine jr_iload_n K (D_at DX5_latestPlace_q0 2 rfl) rfl rfl ?_
  refine jr_aload_n K (D_at DX5_latestPlace_q0 3 rfl) rfl rfl ?_
  obtain ⟨v4, e4, hf⟩ := jbind hf
  refine jr_getI K (D_at DX5_latestPlace_q0 4 rfl) fg_X5_21_4 e4 ?_
  refine jr_icmp_ge K (D_at DX5_latestPlace_q0 5 rfl) (tgt := 33) (by decide) (fun c7 => ?_) (fun c7 => ?_)
  · replace hf := (if_pos c7).symm.trans hf
    refine jr_iconst K (D_at DX5_latestPlace_q1 7 rfl) (v := (-1 : Int32)) (by decide) ?_
    cases hf
    exact jr_iret K E (D_at DX5_latestPlace_q1 8 rfl) rfl ⟨rfl, rfl⟩
  · replace hf := (if_neg c7).symm.trans hf
    refine jr_aload_n K (D_at DX5_latestPlace_q0 6 rfl) rfl rfl ?_
    refine jr_iload_n K (D_at DX5_latestPlace_q0 7 rfl) rfl rfl ?_
    refine jr_iconst K (D_at DX5_latestPlace_q0 8 rfl) (v := (2 : Int32)) (by decide) ?_
    obtain ⟨v13, e13, hf⟩ := jbind hf
    obtain ⟨rc_13, e13⟩ := jcv_o e13
    refine jr_callV K (C_X5_read (d) e13) (D_at DX5_latestPlace_q0 9 rfl) cv_X5_54_X5_read (As := [.int x2, .int (2 : Int32)]) (ci := 4) rfl rc_13 rfl rfl (by exact Nat.le_of_ble_eq_true rfl) (kc2 := 0) (ks2 := 0) rfl rfl (fun k9 h9 w9 => by cases w9.1) (fun r9 h9 w9 => ?_)
    obtain ⟨w1, w2⟩ := w9
    subst h9
    cases w1
    show jJ G X _ 0 0 _ _ (.int v13 :: _)
    refine jr_iload_n K (D_at DX5_latestPlace_q0 10 rfl) rfl rfl ?_
    refine jr_icmp_ne K (D_at DX5_latestPlace_q0 11 rfl) (tgt := 27) (by decide) (fun c17 => ?_) (fun c17 => ?_)
    · replace hf := (if_neg c17).symm.trans hf
      refine jr_iinc K (D_at DX5_latestPlace_q1 5 rfl) (i := 2) rfl (v := x2 + (1 : Int32)) (jinc (by decide)) (by decide) (L2 := [_, _, _]) rfl ?_
      refine jr_goto K (D_at DX5_latestPlace_q1 6 rfl) (tgt := 2) (by decide) ?_
      refine jr_keep [true, true, true] ?_
      exact hr2 a0 x1 (x2 + (1 : Int32)) hf
    · replace hf := (if_pos c17).symm.trans hf
      refine jr_aload_n K (D_at DX5_latestPlace_q1 0 rfl) rfl rfl ?_
      refine jr_iload_n K (D_at DX5_latestPlace_q1 1 rfl) rfl rfl ?_
      refine jr_iconst K (D_at DX5_latestPlace_q1 2 rfl) (v := (5 : Int32)) (by decide) ?_
      obtain ⟨v23, e23, hf⟩ := jbind hf
      obtain ⟨rc_23, e23⟩ := jcv_o e23
      refine jr_callV K (C_X5_read (d) e23) (D_at DX5_latestPlace_q1 3 rfl) cv_X5_54_X5_read (As := [.int x2, .int (5 : Int32)]) (ci := 4) rfl rc_23 rfl rfl (by exact Nat.le_of_ble_eq_true rfl) (kc2 := 0) (ks2 := 0) rfl rfl (fun k9 h9 w9 => by cases w9.1) (fun r9 h9 w9 => ?_)
      obtain ⟨w1, w2⟩ := w9
      subst h9
      cases w1
      show jJ G X _ 0 0 _ _ (.int v23 :: _)
      cases hf
      exact jr_iret K E (D_at DX5_latestPlace_q1 4 rfl) rfl ⟨rfl, rfl⟩
theorem J_X5_latestPlace_2 {G : jG} {l : Launch} {d : Nat} {X : jX} {res : Int32} (K : jOK G l mX5_latestPlace (d + 2) X) (n : Nat) (h : jH) (E : jEnd G mX5_latestPlace (jPR h res) X) (k : Nat) : ∀ (a0 : Nat) (x1 : Int32) (x2 : Int32), F_X5_latestPlace_2 n k a0 x1 x2 h = some res → jJ G X h 0 0 2 [some (.ref a0), some (.int x1), some (.int x2)] [] := by
  induction k with
  | zero =>
    intro a0 x1 x2 hf
    exact jno (show (none : Option Int32) = some res from hf)
  | succ k ih =>
    intro a0 x1 x2 hf
    exact J_X5_latestPlace_2_b K n h (F_X5_latestPlace_2 n k) ih E a0 x1 x2 hf
set_option maxHeartbeats 400000 in
set_option maxRecDepth 100000 in
theorem J_X5_latestPlace {G : jG} {l : Launch} {d : Nat} {X : jX} {res : Int32} (K : jOK G l mX5_latestPlace (d + 2) X) (n : Nat) (h : jH) (E : jEnd G mX5_latestPlace (jPR h res) X) (a0 : Nat) (x1 : Int32) (hf : F_X5_latestPlace n a0 x1 h = some res) : jJ G X h 0 0 0 [some (.ref a0), some (.int x1), none] [] := by
  unfold F_X5_latestPlace at hf
  refine jr_iconst K (D_at DX5_latestPlace_q0 0 rfl) (v := (0 : Int32)) (by decide) ?_
  refine jr_istore_n K (D_at DX5_latestPlace_q0 1 rfl) (i := 2) rfl (by decide) (L2 := [_, _, _]) rfl ?_
  refine jr_keep [true, true, true] ?_
  exact J_X5_latestPlace_2 K n h E n a0 x1 (0 : Int32) hf
theorem C_X5_latestPlace {G : jG} {l : Launch} (d : Nat) {n : Nat} {a0 : Nat} {x1 : Int32} {h : jH} {res : Int32} (hf : F_X5_latestPlace n a0 x1 h = some res) : jC G l mX5_latestPlace (d + 2) 0 0 [.ref a0, .int x1] h (jPR h res) :=
  jC.of pn_X5 (jcats rfl) (Nat.le_of_ble_eq_true rfl) (fun X K E => J_X5_latestPlace K n h E a0 x1 hf)
set_option maxHeartbeats 400000 in
set_option maxRecDepth 100000 in
theorem J_X6_hangsBy_22_b {G : jG} {l : Launch} {d : Nat} {X : jX} {res : Int32} (K : jOK G l mX6_hangsBy (d + 1) X) (n : Nat) (h : jH) (rc22 : Nat → Int32 → Int32 → Int32 → Int32 → jH → Option Int32) (hr22 : ∀ (a0 : Nat) (x1 : Int32) (x2 : Int32) (x3 : Int32) (x4 : Int32), rc22 a0 x1 x2 x3 x4 h = some res → jJ G X h 0 0 22 [some (.ref a0), some (.int x1), some (.int x2), some (.int x3), some (.int x4), none] []) (E : jEnd G mX6_hangsBy (jPR h res) X) (a0 : Nat) (x1 : Int32) (x2 : Int32) (x3 : Int32) (x4 : Int32) (hf : F_X6_hangsBy_22_b n rc22 a0 x1 x2 x3 x4 h = some res) : jJ G X h 0 0 22 [some (.ref a0), some (.int x1), some (.int x2), some (.int x3), some (.int x4), none] [] := by
  unfold F_X6_hangsBy_22_b at hf
  refine jr_iload K (D_at DX6_hangsBy_q1 2 rfl) rfl ?_
  refine jr_aload_n K (D_at DX6_hangsBy_q1 3 rfl) rfl rfl ?_
  obtain ⟨v25, e25, hf⟩ := jbind hf
  refine jr_getI K (D_at DX6_hangsBy_q1 4 rfl) fg_X6_19_6 e25 ?_
  refine jr_icmp_ge K (D_at DX6_hangsBy_q1 5 rfl) (tgt := 81) (by decide) (fun c28 => ?_) (fun c28 => ?_)
  · replace hf := (if_pos c28).symm.trans hf
    refine jr_iload_n K (D_at DX6_hangsBy_q3 8 rfl) rfl rfl ?_
    cases hf
    exact jr_iret K E (D_at DX6_hangsBy_q3 9 rfl) rfl ⟨rfl, rfl⟩
  · replace hf := (if_neg c28).symm.trans hf
    refine jr_aload_n K (D_at DX6_hangsBy_q1 6 rfl) rfl rfl ?_
    obtain ⟨p32, e32, hf⟩ := jbind hf
    refine jr_getR K (D_at DX6_hangsBy_q1 7 rfl) fg_X6_22_6 e32 ?_
    refine jr_iload K (D_at DX6_hangsBy_q1 8 rfl) rfl ?_
    obtain ⟨v37, e37, hf⟩ := jbind hf
    refine jr_iald K (D_at DX6_hangsBy_q1 9 rfl) e37 ?_
    refine jr_aload_n K (D_at DX6_hangsBy_q1 10 rfl) rfl rfl ?_
    obtain ⟨p39, e39, hf⟩ := jbind hf
    refine jr_getR K (D_at DX6_hangsBy_q1 11 rfl) fg_X6_22_6 e39 ?_
    refine jr_iload_n K (D_at DX6_hangsBy_q2 0 rfl) rfl rfl ?_
    obtain ⟨v43, e43, hf⟩ := jbind hf
    refine jr_iald K (D_at DX6_hangsBy_q2 1 rfl) e43 ?_
    refine jr_isub K (D_at DX6_hangsBy_q2 2 rfl) ?_
    refine jr_abs K (D_at DX6_hangsBy_q2 3 rfl) mm_X6_26 (by exact Nat.le_of_ble_eq_true rfl) ?_
    refine jr_istore K (D_at DX6_hangsBy_q2 4 rfl) (i := 5) (by decide) (L2 := [_, _, _, _, _, _]) rfl ?_
    refine jr_aload_n K (D_at DX6_hangsBy_q2 5 rfl) rfl rfl ?_
    obtain ⟨v51, e51, hf⟩ := jbind hf
    refine jr_getI K (D_at DX6_hangsBy_q2 6 rfl) fg_X6_9_6 e51 ?_
    refine jr_iload K (D_at DX6_hangsBy_q2 7 rfl) rfl ?_
    obtain ⟨v56, e56, hf⟩ := jbind hf
    refine jr_callSN K (C_X11_bit (d) e56) (D_at DX6_hangsBy_q2 8 rfl) csn_X6_15_X11_bit (As := [.int v51, .int x4]) rfl rfl (by exact Nat.le_of_ble_eq_true rfl) (kc2 := 0) (ks2 := 0) rfl rfl (fun k9 h9 w9 => by cases w9.1) (fun r9 h9 w9 => ?_)
    obtain ⟨w1, w2⟩ := w9
    subst h9
    cases w1
    show jJ G X _ 0 0 _ _ (.int v56 :: _)
    refine jr_iconst K (D_at DX6_hangsBy_q2 9 rfl) (v := (1 : Int32)) (by decide) ?_
    refine jr_icmp_ne K (D_at DX6_hangsBy_q2 10 rfl) (tgt := 75) (by decide) (fun c60 => ?_) (fun c60 => ?_)
    · replace hf := (if_neg c60).symm.trans hf
      refine jr_iinc K (D_at DX6_hangsBy_q3 6 rfl) (i := 4) rfl (v := x4 + (1 : Int32)) (jinc (by decide)) (by decide) (L2 := [_, _, _, _, _, _]) rfl ?_
      refine jr_goto K (D_at DX6_hangsBy_q3 7 rfl) (tgt := 22) (by decide) ?_
      refine jr_keep [true, true, true, true, true, false] ?_
      exact hr22 a0 x1 x2 x3 (x4 + (1 : Int32)) hf
    · replace hf := (if_pos c60).symm.trans hf
      refine jr_iload K (D_at DX6_hangsBy_q2 11 rfl) rfl ?_
      refine jr_iload_n K (D_at DX6_hangsBy_q3 0 rfl) rfl rfl ?_
      refine jr_icmp_ge K (D_at DX6_hangsBy_q3 1 rfl) (tgt := 75) (by decide) (fun c66 => ?_) (fun c66 => ?_)
      · replace hf := (if_pos c66).symm.trans hf
        refine jr_iinc K (D_at DX6_hangsBy_q3 6 rfl) (i := 4) rfl (v := x4 + (1 : Int32)) (jinc (by decide)) (by decide) (L2 := [_, _, _, _, _, _]) rfl ?_
        refine jr_goto K (D_at DX6_hangsBy_q3 7 rfl) (tgt := 22) (by decide) ?_
        refine jr_keep [true, true, true, true, true, false] ?_
        exact hr22 a0 x1 x2 x3 (x4 + (1 : Int32)) hf
      · replace hf := (if_neg c66).symm.trans hf
        refine jr_iload K (D_at DX6_hangsBy_q3 2 rfl) rfl ?_
        refine jr_istore_n K (D_at DX6_hangsBy_q3 3 rfl) (i := 3) rfl (by decide) (L2 := [_, _, _, _, _, _]) rfl ?_
        refine jr_iload K (D_at DX6_hangsBy_q3 4 rfl) rfl ?_
        refine jr_istore_n K (D_at DX6_hangsBy_q3 5 rfl) (i := 2) rfl (by decide) (L2 := [_, _, _, _, _, _]) rfl ?_
        refine jr_iinc K (D_at DX6_hangsBy_q3 6 rfl) (i := 4) rfl (v := x4 + (1 : Int32)) (jinc (by decide)) (by decide) (L2 := [_, _, _, _, _, _]) rfl ?_
        refine jr_goto K (D_at DX6_hangsBy_q3 7 rfl) (tgt := 22) (by decide) ?_
        refine jr_keep [true, true, true, true, true, false] ?_
        exact hr22 a0 x1 x4 (if 0 ≤ v37 - v43 then v37 - v43 else 0 - (v37 - v43)) (x4 + (1 : Int32)) hf
theorem J_X6_hangsBy_22 {G : jG} {l : Launch} {d : Nat} {X : jX} {res : Int32} (K : jOK G l mX6_hangsBy (d + 1) X) (n : Nat) (h : jH) (E : jEnd G mX6_hangsBy (jPR h res) X) (k : Nat) : ∀ (a0 : Nat) (x1 : Int32) (x2 : Int32) (x3 : Int32) (x4 : Int32), F_X6_hangsBy_22 n k a0 x1 x2 x3 x4 h = some res → jJ G X h 0 0 22 [some (.ref a0), some (.int x1), some (.int x2), some (.int x3), some (.int x4), none] [] := by
  induction k with
  | zero =>
    intro a0 x1 x2 x3 x4 hf
    exact jno (show (none : Option Int32) = some res from hf)
  | succ k ih =>
    intro a0 x1 x2 x3 x4 hf
    exact J_X6_hangsBy_22_b K n h (F_X6_hangsBy_22 n k) ih E a0 x1 x2 x3 x4 hf
set_option maxHeartbeats 400000 in
set_option maxRecDepth 100000 in
theorem J_X6_hangsBy {G : jG} {l : Launch} {d : Nat} {X : jX} {res : Int32} (K : jOK G l mX6_hangsBy (d + 1) X) (n : Nat) (h : jH) (E : jEnd G mX6_hangsBy (jPR h res) X) (a0 : Nat) (x1 : Int32) (hf : F_X6_hangsBy n a0 x1 h = some res) : jJ G X h 0 0 0 [some (.ref a0), some (.int x1), none, none, none, none] [] := by
  unfold F_X6_hangsBy at hf
  refine jr_aload_n K (D_at DX6_hangsBy_q0 0 rfl) rfl rfl ?_
  obtain ⟨v1, e1, hf⟩ := jbind hf
  refine jr_getI K (D_at DX6_hangsBy_q0 1 rfl) fg_X6_9_6 e1 ?_
  refine jr_iload_n K (D_at DX6_hangsBy_q0 2 rfl) rfl rfl ?_
  obtain ⟨v5, e5, hf⟩ := jbind hf
  refine jr_callSN K (C_X11_bit (d) e5) (D_at DX6_hangsBy_q0 3 rfl) csn_X6_15_X11_bit (As := [.int v1, .int x1]) rfl rfl (by exact Nat.le_of_ble_eq_true rfl) (kc2 := 0) (ks2 := 0) rfl rfl (fun k9 h9 w9 => by cases w9.1) (fun r9 h9 w9 => ?_)
  obtain ⟨w1, w2⟩ := w9
  subst h9
  cases w1
  show jJ G X _ 0 0 _ _ (.int v5 :: _)
  refine jr_iconst K (D_at DX6_hangsBy_q0 4 rfl) (v := (1 : Int32)) (by decide) ?_
  refine jr_icmp_ne K (D_at DX6_hangsBy_q0 5 rfl) (tgt := 14) (by decide) (fun c9 => ?_) (fun c9 => ?_)
  · replace hf := (if_neg c9).symm.trans hf
    refine jr_iconst K (D_at DX6_hangsBy_q0 8 rfl) (v := (-1 : Int32)) (by decide) ?_
    refine jr_istore_n K (D_at DX6_hangsBy_q0 9 rfl) (i := 2) rfl (by decide) (L2 := [_, _, _, _, _, _]) rfl ?_
    refine jr_bipush K (D_at DX6_hangsBy_q0 10 rfl) (v := (32 : Int32)) (by decide) ?_
    refine jr_istore_n K (D_at DX6_hangsBy_q0 11 rfl) (i := 3) rfl (by decide) (L2 := [_, _, _, _, _, _]) rfl ?_
    refine jr_iconst K (D_at DX6_hangsBy_q1 0 rfl) (v := (0 : Int32)) (by decide) ?_
    refine jr_istore K (D_at DX6_hangsBy_q1 1 rfl) (i := 4) (by decide) (L2 := [_, _, _, _, _, _]) rfl ?_
    refine jr_keep [true, true, true, true, true, false] ?_
    exact J_X6_hangsBy_22 K n h E n a0 x1 (-1 : Int32) (32 : Int32) (0 : Int32) hf
  · replace hf := (if_pos c9).symm.trans hf
    refine jr_iload_n K (D_at DX6_hangsBy_q0 6 rfl) rfl rfl ?_
    cases hf
    exact jr_iret K E (D_at DX6_hangsBy_q0 7 rfl) rfl ⟨rfl, rfl⟩
theorem C_X6_hangsBy {G : jG} {l : Launch} (d : Nat) {n : Nat} {a0 : Nat} {x1 : Int32} {h : jH} {res : Int32} (hf : F_X6_hangsBy n a0 x1 h = some res) : jC G l mX6_hangsBy (d + 1) 0 0 [.ref a0, .int x1] h (jPR h res) :=
  jC.of pn_X6 (jcats rfl) (Nat.le_of_ble_eq_true rfl) (fun X K E => J_X6_hangsBy K n h E a0 x1 hf)
end
